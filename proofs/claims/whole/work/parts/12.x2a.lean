def fX2_clear : Option (Int32 × Int32) :=
  some (0, 31)
def rmX2_clear : Room := { frames := 0, cells := 0, slots := 0, locals := 0 }
set_option maxRecDepth 100000 in
set_option maxHeartbeats 4000000 in
theorem ctX2_clear (l : Launch) (z : Nat × Nat × Nat) (dC : Nat → ClassId) (dI : Nat → Nat → Nat) (cI cB cE : ClassId) (a : Nat → Nat) (v_size : Int32) (v_kinds : Int32) (fin : Int32 × Int32) (hf : fX2_clear = some fin) : Ct l z (dC, dI) (tyL cI cB cE) yX2_clear wsX2_clear rmX2_clear [.ref (a 0)] (wX2 cI cB cE a v_size v_kinds) none (wX2 cI cB cE a fin.1 fin.2) := by
  refine Met.ofC (cc := cX2_clear) (maxL := 1) (ret := none) (by decide) rfl (Nat.le_of_ble_eq_true rfl) ?_
  intro p e s m args below meth c A Q ls hx hb hr hml hts hown hlocks hA hK hP hD hZ hS hQ hl
  have hown : s.vm.findClass RX2 = some m.cls := hown
  have hl : lv_has ls 1 [(0, .ref (a 0))] := hl
  unfold fX2_clear at hf
  refine lv_aload_n hx hb dX2_clear_0 rfl (lv_at hl 0 rfl) ?_
  refine lv_iconst (v := 0) hx hb dX2_clear_1 (by decide) ?_
  refine va_put (D := (dC, dI)) (ci := 2) (v := .int 0) (ty := .int) (C := RX2) (T := TX2) (N := 2) hx hb hts (fun _ h => List.mem_cons_of_mem _ (List.mem_append_right _ h)) tyX2 tyX2_ok nmX2 hown hK hP hD hS 0 rfl rfl 0 (by decide) (hts (.fieldLink RX2 15 "SkewBoard$Observations" "size" "I") (List.mem_of_getElem? (i := 1) rfl)) (fun _ h9 => h9) rfl (by decide +kernel) rfl rfl (Nat.le_of_ble_eq_true rfl) dX2_clear_2 (fun H locs hP hD hS => ?_)
  have hP : va_P (dC, dI) vwCl (wX2 cI cB cE a 0 v_kinds) H := hP
  have hD : va_D A (wX2 cI cB cE a 0 v_kinds) := hD
  refine lv_aload_n hx hb dX2_clear_5 rfl (lv_at hl 0 rfl) ?_
  refine lv_bipush (v := 31) hx hb dX2_clear_6 (by decide) ?_
  refine va_put (D := (dC, dI)) (ci := 2) (v := .int 31) (ty := .int) (C := RX2) (T := TX2) (N := 2) hx hb hts (fun _ h => List.mem_cons_of_mem _ (List.mem_append_right _ h)) tyX2 tyX2_ok nmX2 hown hK hP hD hS 0 rfl rfl 1 (by decide) (hts (.fieldLink RX2 9 "SkewBoard$Observations" "kinds" "I") (List.mem_of_getElem? (i := 2) rfl)) (fun _ h9 => h9) rfl (by decide +kernel) rfl rfl (Nat.le_of_ble_eq_true rfl) dX2_clear_8 (fun H locs hP hD hS => ?_)
  have hP : va_P (dC, dI) vwCl (wX2 cI cB cE a 0 31) H := hP
  have hD : va_D A (wX2 cI cB cE a 0 31) := hD
  have hQ2 := hQ
  rw [← Option.some.inj hf] at hQ2
  exact cx_vret hQ2 hx hb hr hlocks hK hP hD hS dX2_clear_11

def fX2_takeOver (v_o1_size : Int32) (v_o1_kinds : Int32) : Option (Int32 × Int32) :=
  some (v_o1_size, v_o1_kinds)
def rmX2_takeOver : Room := { frames := 0, cells := 0, slots := 0, locals := 0 }
set_option maxRecDepth 100000 in
set_option maxHeartbeats 4000000 in
theorem ctX2_takeOver (l : Launch) (z : Nat × Nat × Nat) (dC : Nat → ClassId) (dI : Nat → Nat → Nat) (cI cB cE : ClassId) (a b : Nat → Nat) (v_size : Int32) (v_kinds : Int32) (v_o1_size : Int32) (v_o1_kinds : Int32) (fin : Int32 × Int32) (hf : fX2_takeOver v_o1_size v_o1_kinds = some fin) : Ct l z (dC, dI) (tyL cI cB cE) yX2_takeOver wsX2_takeOver rmX2_takeOver [.ref (a 0), .ref (b 0)] (wX2 cI cB cE a v_size v_kinds ++ wX2 cI cB cE b v_o1_size v_o1_kinds) none (wX2 cI cB cE a fin.1 fin.2 ++ wX2 cI cB cE b v_o1_size v_o1_kinds) := by
  refine Met.ofC (cc := cX2_takeOver) (maxL := 2) (ret := none) (by decide) rfl (Nat.le_of_ble_eq_true rfl) ?_
  intro p e s m args below meth c A Q ls hx hb hr hml hts hown hlocks hA hK hP hD hZ hS hQ hl
  have hown : s.vm.findClass RX2 = some m.cls := hown
  have hl : lv_has ls 2 [(0, .ref (a 0)), (1, .ref (b 0))] := hl
  unfold fX2_takeOver at hf
  refine lv_aload_n hx hb dX2_takeOver_0 rfl (lv_at hl 0 rfl) ?_
  refine lv_aload_n hx hb dX2_takeOver_1 rfl (lv_at hl 1 rfl) ?_
  refine va_get (D := (dC, dI)) (ci := 2) (C := RX2) (T := TX2) (N := 2) hx hb hts (fun _ h => List.mem_cons_of_mem _ (List.mem_append_right _ h)) hown hK hP 1 rfl rfl 0 (by decide) (hts (.fieldLink RX2 15 "SkewBoard$Observations" "size" "I") (List.mem_of_getElem? (i := 1) rfl)) (fun _ h9 => h9) rfl dX2_takeOver_2 ?_
  refine va_put (D := (dC, dI)) (ci := 2) (v := .int v_o1_size) (ty := .int) (C := RX2) (T := TX2) (N := 2) hx hb hts (fun _ h => List.mem_cons_of_mem _ (List.mem_append_right _ h)) tyX2 tyX2_ok nmX2 hown hK hP hD hS 0 rfl rfl 0 (by decide) (hts (.fieldLink RX2 15 "SkewBoard$Observations" "size" "I") (List.mem_of_getElem? (i := 1) rfl)) (fun _ h9 => h9) rfl (by decide +kernel) rfl rfl (Nat.le_of_ble_eq_true rfl) dX2_takeOver_5 (fun H locs hP hD hS => ?_)
  have hP : va_P (dC, dI) vwCl (wX2 cI cB cE a v_o1_size v_kinds ++ wX2 cI cB cE b v_o1_size v_o1_kinds) H := hP
  have hD : va_D A (wX2 cI cB cE a v_o1_size v_kinds ++ wX2 cI cB cE b v_o1_size v_o1_kinds) := hD
  refine lv_aload_n hx hb dX2_takeOver_8 rfl (lv_at hl 0 rfl) ?_
  refine lv_aload_n hx hb dX2_takeOver_9 rfl (lv_at hl 1 rfl) ?_
  refine va_get (D := (dC, dI)) (ci := 2) (C := RX2) (T := TX2) (N := 2) hx hb hts (fun _ h => List.mem_cons_of_mem _ (List.mem_append_right _ h)) hown hK hP 1 rfl rfl 1 (by decide) (hts (.fieldLink RX2 9 "SkewBoard$Observations" "kinds" "I") (List.mem_of_getElem? (i := 2) rfl)) (fun _ h9 => h9) rfl dX2_takeOver_10 ?_
  refine va_put (D := (dC, dI)) (ci := 2) (v := .int v_o1_kinds) (ty := .int) (C := RX2) (T := TX2) (N := 2) hx hb hts (fun _ h => List.mem_cons_of_mem _ (List.mem_append_right _ h)) tyX2 tyX2_ok nmX2 hown hK hP hD hS 0 rfl rfl 1 (by decide) (hts (.fieldLink RX2 9 "SkewBoard$Observations" "kinds" "I") (List.mem_of_getElem? (i := 2) rfl)) (fun _ h9 => h9) rfl (by decide +kernel) rfl rfl (Nat.le_of_ble_eq_true rfl) dX2_takeOver_13 (fun H locs hP hD hS => ?_)
  have hP : va_P (dC, dI) vwCl (wX2 cI cB cE a v_o1_size v_o1_kinds ++ wX2 cI cB cE b v_o1_size v_o1_kinds) H := hP
  have hD : va_D A (wX2 cI cB cE a v_o1_size v_o1_kinds ++ wX2 cI cB cE b v_o1_size v_o1_kinds) := hD
  have hQ2 := hQ
  rw [← Option.some.inj hf] at hQ2
  exact cx_vret hQ2 hx hb hr hlocks hK hP hD hS dX2_takeOver_16

def fX2_add_J24 (v_size : Int32) (v_kinds : Int32) (y2_24 : Int32) : Option (Int32 × Int32) :=
    some ((v_size + 1), (v_kinds &&& y2_24))
def fX2_add (p1 : Int32) (p2 : Int32) (v_size : Int32) (v_kinds : Int32) : Option (Int32 × Int32) :=
  if p2 = 0 then (gd (inb p1 4) (fX2_add_J24 v_size v_kinds ((canBe p1.toNatClampNeg) ^^^ (-1)))) else (gd (inb p1 4) (fX2_add_J24 v_size v_kinds (canBe p1.toNatClampNeg)))
def rmX2_add : Room := { frames := 0, cells := 0, slots := 0, locals := 0 }
set_option maxRecDepth 100000 in
set_option maxHeartbeats 4000000 in
theorem ctX2_add (l : Launch) (z : Nat × Nat × Nat) (dC : Nat → ClassId) (dI : Nat → Nat → Nat) (cI cB cE : ClassId) (a : Nat → Nat) (v_size : Int32) (v_kinds : Int32) (p1 : Int32) (p2 : Int32) (fin : Int32 × Int32) (hf : fX2_add p1 p2 v_size v_kinds = some fin) : Ct l z (dC, dI) (tyL cI cB cE) yX2_add wsX2_add rmX2_add [.ref (a 0), .int p1, .int p2] (wX2 cI cB cE a v_size v_kinds) none (wX2 cI cB cE a fin.1 fin.2) := by
  refine Met.ofC (cc := cX2_add) (maxL := 3) (ret := none) (by decide) rfl (Nat.le_of_ble_eq_true rfl) ?_
  intro p e s m args below meth c A Q ls hx hb hr hml hts hown hlocks hA hK hP hD hZ hS hQ hl
  have hown : s.vm.findClass RX2 = some m.cls := hown
  have hl : lv_has ls 3 [(0, .ref (a 0)), (1, .int p1), (2, .int p2)] := hl
  unfold fX2_add at hf
  refine lv_aload_n hx hb dX2_add_0 rfl (lv_at hl 0 rfl) ?_
  refine lv_dup hx hb dX2_add_1 rfl ?_
  refine va_get (D := (dC, dI)) (ci := 2) (C := RX2) (T := TX2) (N := 2) hx hb hts (fun _ h => List.mem_cons_of_mem _ (List.mem_append_right _ h)) hown hK hP 0 rfl rfl 1 (by decide) (hts (.fieldLink RX2 9 "SkewBoard$Observations" "kinds" "I") (List.mem_of_getElem? (i := 1) rfl)) (fun _ h9 => h9) rfl dX2_add_2 ?_
  refine lv_iload_n hx hb dX2_add_5 rfl (lv_at hl 2 rfl) ?_
  have J24 : ∀ (y2_24 : Int32), fX2_add_J24 v_size v_kinds y2_24 = some fin → ∀ (H : Heap) (locs : List Loc), va_P (dC, dI) vwCl (wX2 cI cB cE a v_size v_kinds) H → va_D A (wX2 cI cB cE a v_size v_kinds) → va_S A s.heap H locs → ∀ (ls : Array Slot), lv_has ls 3 [(0, .ref (a 0))] → W p l e rmX2_add s m args below meth c H locs 0 0 Q (F0 m 24 ls [.int y2_24, .int v_kinds, .ref (a 0)]) := by
    intro y2_24 hf H locs hP hD hS ls hl
    unfold fX2_add_J24 at hf
    refine lv_iand hx hb dX2_add_24 ?_
    refine va_put (D := (dC, dI)) (ci := 2) (v := .int (v_kinds &&& y2_24)) (ty := .int) (C := RX2) (T := TX2) (N := 2) hx hb hts (fun _ h => List.mem_cons_of_mem _ (List.mem_append_right _ h)) tyX2 tyX2_ok nmX2 hown hK hP hD hS 0 rfl rfl 1 (by decide) (hts (.fieldLink RX2 9 "SkewBoard$Observations" "kinds" "I") (List.mem_of_getElem? (i := 1) rfl)) (fun _ h9 => h9) rfl (by decide +kernel) rfl rfl (Nat.le_of_ble_eq_true rfl) dX2_add_25 (fun H locs hP hD hS => ?_)
    have hP : va_P (dC, dI) vwCl (wX2 cI cB cE a v_size (v_kinds &&& y2_24)) H := hP
    have hD : va_D A (wX2 cI cB cE a v_size (v_kinds &&& y2_24)) := hD
    refine lv_aload_n hx hb dX2_add_28 rfl (lv_at hl 0 rfl) ?_
    refine lv_dup hx hb dX2_add_29 rfl ?_
    refine va_get (D := (dC, dI)) (ci := 2) (C := RX2) (T := TX2) (N := 2) hx hb hts (fun _ h => List.mem_cons_of_mem _ (List.mem_append_right _ h)) hown hK hP 0 rfl rfl 0 (by decide) (hts (.fieldLink RX2 15 "SkewBoard$Observations" "size" "I") (List.mem_of_getElem? (i := 2) rfl)) (fun _ h9 => h9) rfl dX2_add_30 ?_
    refine lv_iconst (v := 1) hx hb dX2_add_33 (by decide) ?_
    refine lv_iadd hx hb dX2_add_34 ?_
    refine va_put (D := (dC, dI)) (ci := 2) (v := .int (v_size + 1)) (ty := .int) (C := RX2) (T := TX2) (N := 2) hx hb hts (fun _ h => List.mem_cons_of_mem _ (List.mem_append_right _ h)) tyX2 tyX2_ok nmX2 hown hK hP hD hS 0 rfl rfl 0 (by decide) (hts (.fieldLink RX2 15 "SkewBoard$Observations" "size" "I") (List.mem_of_getElem? (i := 2) rfl)) (fun _ h9 => h9) rfl (by decide +kernel) rfl rfl (Nat.le_of_ble_eq_true rfl) dX2_add_35 (fun H locs hP hD hS => ?_)
    have hP : va_P (dC, dI) vwCl (wX2 cI cB cE a (v_size + 1) (v_kinds &&& y2_24)) H := hP
    have hD : va_D A (wX2 cI cB cE a (v_size + 1) (v_kinds &&& y2_24)) := hD
    have hQ2 := hQ
    rw [← Option.some.inj hf] at hQ2
    exact cx_vret hQ2 hx hb hr hlocks hK hP hD hS dX2_add_38
  refine lv_if_eq (tgt := 17) hx hb dX2_add_6 (by decide) (fun c_1 => ?_) (fun c_1 => ?_)
  · rw [if_pos c_1] at hf
    refine va_getsN hx hb hZ.1 hS hown (va_Nw.use rfl hZ.2.2.2.2.2.2.2.1) (fun _ h9 => h9) dX2_add_17 ?_
    refine lv_iload_n hx hb dX2_add_20 rfl (lv_at hl 1 rfl) ?_
    obtain ⟨g_2, hf⟩ := gd_some hf
    refine va_ti (v := .int (canBe p1.toNatClampNeg)) hx hb hZ.2.1 hS (inb_vp g_2) rfl dX2_add_21 ?_
    refine lv_iconst (v := (-1)) hx hb dX2_add_22 (by decide) ?_
    refine lv_ixor hx hb dX2_add_23 ?_
    exact J24 ((canBe p1.toNatClampNeg) ^^^ (-1)) hf _ _ hP hD hS ls (lv_sub hl [0] rfl)
  · rw [if_neg c_1] at hf
    refine va_getsN hx hb hZ.1 hS hown (va_Nw.use rfl hZ.2.2.2.2.2.2.2.1) (fun _ h9 => h9) dX2_add_9 ?_
    refine lv_iload_n hx hb dX2_add_12 rfl (lv_at hl 1 rfl) ?_
    obtain ⟨g_3, hf⟩ := gd_some hf
    refine va_ti (v := .int (canBe p1.toNatClampNeg)) hx hb hZ.2.1 hS (inb_vp g_3) rfl dX2_add_13 ?_
    refine lv_goto (tgt := 24) hx hb dX2_add_14 (by decide) ?_
    exact J24 (canBe p1.toNatClampNeg) hf _ _ hP hD hS ls (lv_sub hl [0] rfl)

def fX2_mostLeftBy (p1 : Int32) (v_kinds : Int32) : Option (Int32) :=
  gd (inb p1 4) (bd (fJ6_bitCount_0f7a4 (v_kinds &&& (canBe p1.toNatClampNeg))) (fun r_2 => bd (fJ6_bitCount_0f7a4 v_kinds) (fun r_3 => some (if r_2 < (r_3 - r_2) then (r_3 - r_2) else r_2))))
def rmX2_mostLeftBy : Room := { frames := 2, cells := 0, slots := 0, locals := 100 }
set_option maxRecDepth 100000 in
set_option maxHeartbeats 4000000 in
theorem ctX2_mostLeftBy (l : Launch) (z : Nat × Nat × Nat) (dC : Nat → ClassId) (dI : Nat → Nat → Nat) (cI cB cE : ClassId) (a : Nat → Nat) (v_size : Int32) (v_kinds : Int32) (p1 : Int32) (fin : Int32) (hf : fX2_mostLeftBy p1 v_kinds = some fin) : Ct l z (dC, dI) (tyL cI cB cE) yX2_mostLeftBy wsX2_mostLeftBy rmX2_mostLeftBy [.ref (a 0), .int p1] (wX2 cI cB cE a v_size v_kinds) (some (.int fin)) (wX2 cI cB cE a v_size v_kinds) := by
  refine Met.ofC (cc := cX2_mostLeftBy) (maxL := 3) (ret := (some .int)) (by decide) rfl (Nat.le_of_ble_eq_true rfl) ?_
  intro p e s m args below meth c A Q ls hx hb hr hml hts hown hlocks hA hK hP hD hZ hS hQ hl
  have hown : s.vm.findClass RX2 = some m.cls := hown
  have hl : lv_has ls 3 [(0, .ref (a 0)), (1, .int p1)] := hl
  unfold fX2_mostLeftBy at hf
  refine lv_aload_n hx hb dX2_mostLeftBy_0 rfl (lv_at hl 0 rfl) ?_
  refine va_get (D := (dC, dI)) (ci := 2) (C := RX2) (T := TX2) (N := 2) hx hb hts (fun _ h => List.mem_cons_of_mem _ (List.mem_append_right _ h)) hown hK hP 0 rfl rfl 1 (by decide) (hts (.fieldLink RX2 9 "SkewBoard$Observations" "kinds" "I") (List.mem_of_getElem? (i := 1) rfl)) (fun _ h9 => h9) rfl dX2_mostLeftBy_1 ?_
  refine va_getsN hx hb hZ.1 hS hown (va_Nw.use rfl hZ.2.2.2.2.2.2.2.1) (fun _ h9 => h9) dX2_mostLeftBy_4 ?_
  refine lv_iload_n hx hb dX2_mostLeftBy_7 rfl (lv_at hl 1 rfl) ?_
  obtain ⟨g_1, hf⟩ := gd_some hf
  refine va_ti (v := .int (canBe p1.toNatClampNeg)) hx hb hZ.2.1 hS (inb_vp g_1) rfl dX2_mostLeftBy_8 ?_
  refine lv_iand hx hb dX2_mostLeftBy_9 ?_
  obtain ⟨r_2, hr_2, hf⟩ := bd_some hf
  refine cx_run0 (cx_S (A := A) (As := [.int (v_kinds &&& (canBe p1.toNatClampNeg))]) (rest := []) ⟨hx, hb, hml, hown, hts⟩ (ctJ6_bitCount_0f7a4 l z dC dI cI cB cE (v_kinds &&& (canBe p1.toNatClampNeg)) r_2 hr_2) (va_cwS 1 hts gX2_mostLeftBy_J6_bitCount_0f7a4 rfl rfl rfl (by decide +kernel) ⟨Nat.le_of_ble_eq_true rfl, Nat.le_of_ble_eq_true rfl⟩) hK vaP0 vaD0 hZ hS hA rfl hl.1 rfl (Nat.le_of_ble_eq_true rfl) dX2_mostLeftBy_10) hP hS hA [.int r_2] rfl (fun H locs hP hS => ?_)
  refine lv_istore_n (lv' := [(2, .int r_2), (0, .ref (a 0)), (1, .int p1)]) hx hb dX2_mostLeftBy_13 rfl hl (by decide) rfl (fun ls hl => ?_)
  refine lv_iload_n hx hb dX2_mostLeftBy_14 rfl (lv_at hl 0 rfl) ?_
  refine lv_aload_n hx hb dX2_mostLeftBy_15 rfl (lv_at hl 1 rfl) ?_
  refine va_get (D := (dC, dI)) (ci := 2) (C := RX2) (T := TX2) (N := 2) hx hb hts (fun _ h => List.mem_cons_of_mem _ (List.mem_append_right _ h)) hown hK hP 0 rfl rfl 1 (by decide) (hts (.fieldLink RX2 9 "SkewBoard$Observations" "kinds" "I") (List.mem_of_getElem? (i := 1) rfl)) (fun _ h9 => h9) rfl dX2_mostLeftBy_16 ?_
  obtain ⟨r_3, hr_3, hf⟩ := bd_some hf
  refine cx_run0 (cx_S (A := A) (As := [.int v_kinds]) (rest := [.int r_2]) ⟨hx, hb, hml, hown, hts⟩ (ctJ6_bitCount_0f7a4 l z dC dI cI cB cE v_kinds r_3 hr_3) (va_cwS 1 hts gX2_mostLeftBy_J6_bitCount_0f7a4 rfl rfl rfl (by decide +kernel) ⟨Nat.le_of_ble_eq_true rfl, Nat.le_of_ble_eq_true rfl⟩) hK vaP0 vaD0 hZ hS hA rfl hl.1 rfl (Nat.le_of_ble_eq_true rfl) dX2_mostLeftBy_19) hP hS hA [.int r_3, .int r_2] rfl (fun H locs hP hS => ?_)
  refine lv_iload_n hx hb dX2_mostLeftBy_22 rfl (lv_at hl 0 rfl) ?_
  refine lv_isub hx hb dX2_mostLeftBy_23 ?_
  refine va_mmax hx hb (hml.trans hl.1.symm) hown (hts (.methodLink RX2 31 Lib.Math.max.name) (List.mem_of_getElem? (i := 2) rfl)) (hts (.static Lib.Math.max.name) (List.mem_of_getElem? (i := 3) rfl)) (hts (.initialized "java/lang/Math") (List.mem_of_getElem? (i := 4) rfl)) (hts (.code Lib.Math.max.name Lib.Math.max.code 2 (some .int)) (List.mem_of_getElem? (i := 5) rfl)) (Nat.le_of_ble_eq_true rfl) (Nat.le_of_ble_eq_true rfl) (Nat.zero_le _) (Nat.zero_le _) dX2_mostLeftBy_24 ?_
  have hQ2 := hQ
  rw [← Option.some.inj hf] at hQ2
  exact cx_iret hQ2 hx hb hr hlocks hK hP hD hS dX2_mostLeftBy_27

def fX2_bestQuestion_J36 (x2_13 : Int32) (k13 : Int32 → Int32 → Option (Int32)) (x1_36 : Int32) : Option (Int32) :=
    k13 x1_36 (x2_13 + 1)
def fX2_bestQuestion_L13 (v_kinds : Int32) : Nat → Int32 → Int32 → Option (Int32)
  | 0, _, _ => none
  | n + 1, x1_13, x2_13 =>
    if 4 ≤ x2_13 then (some x1_13) else (bd (fX2_mostLeftBy x2_13 v_kinds) (fun r_3 => bd (fX2_mostLeftBy x1_13 v_kinds) (fun r_4 => fX2_bestQuestion_J36 x2_13 (fX2_bestQuestion_L13 v_kinds n) (if r_4 ≤ r_3 then x1_13 else x2_13))))
def fX2_bestQuestion (v_kinds : Int32) : Option (Int32) :=
  if v_kinds = 0 then (some (-1)) else (fX2_bestQuestion_L13 v_kinds fu 0 1)
def rmX2_bestQuestion : Room := { frames := 3, cells := 0, slots := 0, locals := 122 }
set_option maxRecDepth 100000 in
set_option maxHeartbeats 4000000 in
theorem ctX2_bestQuestion (l : Launch) (z : Nat × Nat × Nat) (dC : Nat → ClassId) (dI : Nat → Nat → Nat) (cI cB cE : ClassId) (a : Nat → Nat) (v_size : Int32) (v_kinds : Int32) (fin : Int32) (hf : fX2_bestQuestion v_kinds = some fin) : Ct l z (dC, dI) (tyL cI cB cE) yX2_bestQuestion wsX2_bestQuestion rmX2_bestQuestion [.ref (a 0)] (wX2 cI cB cE a v_size v_kinds) (some (.int fin)) (wX2 cI cB cE a v_size v_kinds) := by
  refine Met.ofC (cc := cX2_bestQuestion) (maxL := 3) (ret := (some .int)) (by decide) rfl (Nat.le_of_ble_eq_true rfl) ?_
  intro p e s m args below meth c A Q ls hx hb hr hml hts hown hlocks hA hK hP hD hZ hS hQ hl
  have hown : s.vm.findClass RX2 = some m.cls := hown
  have hl : lv_has ls 3 [(0, .ref (a 0))] := hl
  unfold fX2_bestQuestion at hf
  refine lv_aload_n hx hb dX2_bestQuestion_0 rfl (lv_at hl 0 rfl) ?_
  refine va_get (D := (dC, dI)) (ci := 2) (C := RX2) (T := TX2) (N := 2) hx hb hts (fun _ h => List.mem_cons_of_mem _ (List.mem_append_right _ h)) hown hK hP 0 rfl rfl 1 (by decide) (hts (.fieldLink RX2 9 "SkewBoard$Observations" "kinds" "I") (List.mem_of_getElem? (i := 1) rfl)) (fun _ h9 => h9) rfl dX2_bestQuestion_1 ?_
  refine lv_if_ne (tgt := 9) hx hb dX2_bestQuestion_4 (by decide) (fun c_1 => ?_) (fun c_1 => ?_)
  · rw [if_neg c_1] at hf
    refine lv_iconst (v := 0) hx hb dX2_bestQuestion_9 (by decide) ?_
    refine lv_istore_n (lv' := [(1, .int 0), (0, .ref (a 0))]) hx hb dX2_bestQuestion_10 rfl hl (by decide) rfl (fun ls hl => ?_)
    refine lv_iconst (v := 1) hx hb dX2_bestQuestion_11 (by decide) ?_
    refine lv_istore_n (lv' := [(2, .int 1), (1, .int 0), (0, .ref (a 0))]) hx hb dX2_bestQuestion_12 rfl hl (by decide) rfl (fun ls hl => ?_)
    have L13 : ∀ (n13 : Nat) (x1_13 : Int32) (x2_13 : Int32), fX2_bestQuestion_L13 v_kinds n13 x1_13 x2_13 = some fin → ∀ (H : Heap) (locs : List Loc), va_P (dC, dI) vwCl (wX2 cI cB cE a v_size v_kinds) H → va_D A (wX2 cI cB cE a v_size v_kinds) → va_S A s.heap H locs → ∀ (ls : Array Slot), lv_has ls 3 [(0, .ref (a 0)), (1, .int x1_13), (2, .int x2_13)] → W p l e rmX2_bestQuestion s m args below meth c H locs 0 0 Q (F0 m 13 ls []) := by
      intro n13
      induction n13 with
      | zero =>
        intro x1_13 x2_13 hf
        rw [fX2_bestQuestion_L13] at hf
        cases hf
      | succ n13 ih13 =>
        intro x1_13 x2_13 hf H locs hP hD hS ls hl
        rw [fX2_bestQuestion_L13] at hf
        refine lv_iload_n hx hb dX2_bestQuestion_13 rfl (lv_at hl 2 rfl) ?_
        refine va_getsN hx hb hZ.1 hS hown (va_Nw.use rfl hZ.2.2.2.2.2.2.2.1) (fun _ h9 => h9) dX2_bestQuestion_14 ?_
        refine va_tlen (v := 4) hx hb hZ.2.1 hS (by decide) dX2_bestQuestion_17 ?_
        refine lv_icmp_ge (tgt := 42) hx hb dX2_bestQuestion_18 (by decide) (fun c_2 => ?_) (fun c_2 => ?_)
        · rw [if_pos c_2] at hf
          refine lv_iload_n hx hb dX2_bestQuestion_42 rfl (lv_at hl 1 rfl) ?_
          have hQ2 := hQ
          rw [← Option.some.inj hf] at hQ2
          exact cx_iret hQ2 hx hb hr hlocks hK hP hD hS dX2_bestQuestion_43
        · rw [if_neg c_2] at hf
          refine lv_aload_n hx hb dX2_bestQuestion_21 rfl (lv_at hl 0 rfl) ?_
          refine lv_iload_n hx hb dX2_bestQuestion_22 rfl (lv_at hl 2 rfl) ?_
          obtain ⟨r_3, hr_3, hf⟩ := bd_some hf
          refine cx_runW (cx_V (As := [.int x2_13]) (rest := []) ⟨hx, hb, hml, hown, hts⟩ (ctX2_mostLeftBy l z dC dI cI cB cE a v_size v_kinds x2_13 r_3 hr_3) (cwV 1 hts gX2_bestQuestion_X2_mostLeftBy rfl rfl rfl (by decide +kernel) ⟨Nat.le_of_ble_eq_true rfl, Nat.le_of_ble_eq_true rfl⟩) hK hP hD hZ hS hA (ci := 2) (q0 := 0) rfl rfl rfl hl.1 rfl (Nat.le_of_ble_eq_true rfl) dX2_bestQuestion_23) hD hS hA [.int r_3] rfl (fun H locs hP hD hS => ?_)
          refine lv_aload_n hx hb dX2_bestQuestion_26 rfl (lv_at hl 0 rfl) ?_
          refine lv_iload_n hx hb dX2_bestQuestion_27 rfl (lv_at hl 1 rfl) ?_
          obtain ⟨r_4, hr_4, hf⟩ := bd_some hf
          refine cx_runW (cx_V (As := [.int x1_13]) (rest := [.int r_3]) ⟨hx, hb, hml, hown, hts⟩ (ctX2_mostLeftBy l z dC dI cI cB cE a v_size v_kinds x1_13 r_4 hr_4) (cwV 1 hts gX2_bestQuestion_X2_mostLeftBy rfl rfl rfl (by decide +kernel) ⟨Nat.le_of_ble_eq_true rfl, Nat.le_of_ble_eq_true rfl⟩) hK hP hD hZ hS hA (ci := 2) (q0 := 0) rfl rfl rfl hl.1 rfl (Nat.le_of_ble_eq_true rfl) dX2_bestQuestion_28) hD hS hA [.int r_4, .int r_3] rfl (fun H locs hP hD hS => ?_)
          have J36 : ∀ (x1_36 : Int32), fX2_bestQuestion_J36 x2_13 (fX2_bestQuestion_L13 v_kinds n13) x1_36 = some fin → ∀ (H : Heap) (locs : List Loc), va_P (dC, dI) vwCl (wX2 cI cB cE a v_size v_kinds) H → va_D A (wX2 cI cB cE a v_size v_kinds) → va_S A s.heap H locs → ∀ (ls : Array Slot), lv_has ls 3 [(0, .ref (a 0)), (1, .int x1_36), (2, .int x2_13)] → W p l e rmX2_bestQuestion s m args below meth c H locs 0 0 Q (F0 m 36 ls []) := by
            intro x1_36 hf H locs hP hD hS ls hl
            unfold fX2_bestQuestion_J36 at hf
            refine lv_iinc (v := (x2_13 + 1)) (lv' := [(2, .int (x2_13 + 1)), (0, .ref (a 0)), (1, .int x1_36)]) hx hb dX2_bestQuestion_36 hl (k := 2) rfl rfl (by decide) rfl (fun ls hl => ?_)
            refine lv_goto (tgt := 13) hx hb dX2_bestQuestion_39 (by decide) ?_
            exact ih13 x1_36 (x2_13 + 1) hf _ _ hP hD hS ls (lv_sub hl [1, 2, 0] rfl)
          refine lv_icmp_ge (tgt := 36) hx hb dX2_bestQuestion_31 (by decide) (fun c_5 => ?_) (fun c_5 => ?_)
          · rw [if_pos c_5] at hf
            exact J36 x1_13 hf _ _ hP hD hS ls (lv_sub hl [0, 1, 2] rfl)
          · rw [if_neg c_5] at hf
            refine lv_iload_n hx hb dX2_bestQuestion_34 rfl (lv_at hl 2 rfl) ?_
            refine lv_istore_n (lv' := [(1, .int x2_13), (0, .ref (a 0)), (2, .int x2_13)]) hx hb dX2_bestQuestion_35 rfl hl (by decide) rfl (fun ls hl => ?_)
            exact J36 x2_13 hf _ _ hP hD hS ls (lv_sub hl [1, 0, 2] rfl)
    exact L13 fu 0 1 hf _ _ hP hD hS ls (lv_sub hl [2, 1, 0] rfl)
  · rw [if_pos c_1] at hf
    refine lv_iconst (v := (-1)) hx hb dX2_bestQuestion_7 (by decide) ?_
    have hQ2 := hQ
    rw [← Option.some.inj hf] at hQ2
    exact cx_iret hQ2 hx hb hr hlocks hK hP hD hS dX2_bestQuestion_8

