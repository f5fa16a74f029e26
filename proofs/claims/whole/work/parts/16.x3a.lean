def fX3_append (p1 : Int32) (v_codes : Nat → Int32) (v_size : Int32) : Option (Int32 × (Nat → Int32) × Int32) :=
  if v_size < 20 then (gd (inb v_size 20) (some (1, (upd v_codes v_size.toNatClampNeg p1), (v_size + 1)))) else (some (0, v_codes, v_size))
def rmX3_append : Room := { frames := 0, cells := 0, slots := 0, locals := 0 }
set_option maxRecDepth 100000 in
set_option maxHeartbeats 4000000 in
theorem ctX3_append (l : Launch) (z : Nat × Nat × Nat) (dC : Nat → ClassId) (dI : Nat → Nat → Nat) (cI cB cE : ClassId) (a : Nat → Nat) (v_codes : Nat → Int32) (v_size : Int32) (p1 : Int32) (fin : Int32 × (Nat → Int32) × Int32) (hf : fX3_append p1 v_codes v_size = some fin) : Ct l z (dC, dI) (tyL cI cB cE) yX3_append wsX3_append rmX3_append [.ref (a 0), .int p1] (wX3 cI cB cE a v_codes v_size) (some (.int fin.1)) (wX3 cI cB cE a fin.2.1 fin.2.2) := by
  refine Met.ofC (cc := cX3_append) (maxL := 2) (ret := (some .boolean)) (by decide) rfl (Nat.le_of_ble_eq_true rfl) ?_
  intro p e s m args below meth c A Q ls hx hb hr hml hts hown hlocks hA hK hP hD hZ hS hQ hl
  have hown : s.vm.findClass RX3 = some m.cls := hown
  have hl : lv_has ls 2 [(0, .ref (a 0)), (1, .int p1)] := hl
  unfold fX3_append at hf
  refine lv_aload_n hx hb dX3_append_0 rfl (lv_at hl 0 rfl) ?_
  refine va_get (D := (dC, dI)) (ci := 3) (C := RX3) (T := TX3) (N := 2) hx hb hts (fun _ h => List.mem_cons_of_mem _ (List.mem_append_right _ h)) hown hK hP 0 rfl rfl 1 (by decide) (hts (.fieldLink RX3 15 "SkewBoard$Page" "size" "I") (List.mem_of_getElem? (i := 1) rfl)) (fun _ h9 => h9) rfl dX3_append_1 ?_
  refine lv_bipush (v := 20) hx hb dX3_append_4 (by decide) ?_
  refine lv_icmp_lt (tgt := 11) hx hb dX3_append_6 (by decide) (fun c_1 => ?_) (fun c_1 => ?_)
  · rw [if_pos c_1] at hf
    refine lv_aload_n hx hb dX3_append_11 rfl (lv_at hl 0 rfl) ?_
    refine va_get (D := (dC, dI)) (ci := 3) (C := RX3) (T := TX3) (N := 2) hx hb hts (fun _ h => List.mem_cons_of_mem _ (List.mem_append_right _ h)) hown hK hP 0 rfl rfl 0 (by decide) (hts (.fieldLink RX3 9 "SkewBoard$Page" "codes" "[I") (List.mem_of_getElem? (i := 2) rfl)) (fun _ h9 => h9) rfl dX3_append_12 ?_
    refine lv_aload_n hx hb dX3_append_15 rfl (lv_at hl 0 rfl) ?_
    refine va_get (D := (dC, dI)) (ci := 3) (C := RX3) (T := TX3) (N := 2) hx hb hts (fun _ h => List.mem_cons_of_mem _ (List.mem_append_right _ h)) hown hK hP 0 rfl rfl 1 (by decide) (hts (.fieldLink RX3 15 "SkewBoard$Page" "size" "I") (List.mem_of_getElem? (i := 1) rfl)) (fun _ h9 => h9) rfl dX3_append_16 ?_
    refine lv_iload_n hx hb dX3_append_19 rfl (lv_at hl 1 rfl) ?_
    obtain ⟨g_2, hf⟩ := gd_some hf
    refine va_iast hx hb hK hP hD hS 1 0 rfl rfl (inb_vp g_2) dX3_append_20 (fun H locs hP hD hS => ?_)
    have hP : va_P (dC, dI) vwCl (wX3 cI cB cE a (upd v_codes v_size.toNatClampNeg p1) v_size) H := hP
    have hD : va_D A (wX3 cI cB cE a (upd v_codes v_size.toNatClampNeg p1) v_size) := hD
    refine lv_aload_n hx hb dX3_append_21 rfl (lv_at hl 0 rfl) ?_
    refine lv_dup hx hb dX3_append_22 rfl ?_
    refine va_get (D := (dC, dI)) (ci := 3) (C := RX3) (T := TX3) (N := 2) hx hb hts (fun _ h => List.mem_cons_of_mem _ (List.mem_append_right _ h)) hown hK hP 0 rfl rfl 1 (by decide) (hts (.fieldLink RX3 15 "SkewBoard$Page" "size" "I") (List.mem_of_getElem? (i := 1) rfl)) (fun _ h9 => h9) rfl dX3_append_23 ?_
    refine lv_iconst (v := 1) hx hb dX3_append_26 (by decide) ?_
    refine lv_iadd hx hb dX3_append_27 ?_
    refine va_put (D := (dC, dI)) (ci := 3) (v := .int (v_size + 1)) (ty := .int) (C := RX3) (T := TX3) (N := 2) hx hb hts (fun _ h => List.mem_cons_of_mem _ (List.mem_append_right _ h)) tyX3 tyX3_ok nmX3 hown hK hP hD hS 0 rfl rfl 1 (by decide) (hts (.fieldLink RX3 15 "SkewBoard$Page" "size" "I") (List.mem_of_getElem? (i := 1) rfl)) (fun _ h9 => h9) rfl (by decide +kernel) rfl rfl (Nat.le_of_ble_eq_true rfl) dX3_append_28 (fun H locs hP hD hS => ?_)
    have hP : va_P (dC, dI) vwCl (wX3 cI cB cE a (upd v_codes v_size.toNatClampNeg p1) (v_size + 1)) H := hP
    have hD : va_D A (wX3 cI cB cE a (upd v_codes v_size.toNatClampNeg p1) (v_size + 1)) := hD
    refine lv_iconst (v := 1) hx hb dX3_append_31 (by decide) ?_
    have hQ2 := hQ
    rw [← Option.some.inj hf] at hQ2
    exact cx_zret rfl hQ2 hx hb hr hlocks hK hP hD hS dX3_append_32
  · rw [if_neg c_1] at hf
    refine lv_iconst (v := 0) hx hb dX3_append_9 (by decide) ?_
    have hQ2 := hQ
    rw [← Option.some.inj hf] at hQ2
    exact cx_zret rfl hQ2 hx hb hr hlocks hK hP hD hS dX3_append_10

def fX3_clear : Option (Int32) :=
  some 0
def rmX3_clear : Room := { frames := 0, cells := 0, slots := 0, locals := 0 }
set_option maxRecDepth 100000 in
set_option maxHeartbeats 4000000 in
theorem ctX3_clear (l : Launch) (z : Nat × Nat × Nat) (dC : Nat → ClassId) (dI : Nat → Nat → Nat) (cI cB cE : ClassId) (a : Nat → Nat) (v_codes : Nat → Int32) (v_size : Int32) (fin : Int32) (hf : fX3_clear = some fin) : Ct l z (dC, dI) (tyL cI cB cE) yX3_clear wsX3_clear rmX3_clear [.ref (a 0)] (wX3 cI cB cE a v_codes v_size) none (wX3 cI cB cE a v_codes fin) := by
  refine Met.ofC (cc := cX3_clear) (maxL := 1) (ret := none) (by decide) rfl (Nat.le_of_ble_eq_true rfl) ?_
  intro p e s m args below meth c A Q ls hx hb hr hml hts hown hlocks hA hK hP hD hZ hS hQ hl
  have hown : s.vm.findClass RX3 = some m.cls := hown
  have hl : lv_has ls 1 [(0, .ref (a 0))] := hl
  unfold fX3_clear at hf
  refine lv_aload_n hx hb dX3_clear_0 rfl (lv_at hl 0 rfl) ?_
  refine lv_iconst (v := 0) hx hb dX3_clear_1 (by decide) ?_
  refine va_put (D := (dC, dI)) (ci := 3) (v := .int 0) (ty := .int) (C := RX3) (T := TX3) (N := 2) hx hb hts (fun _ h => List.mem_cons_of_mem _ (List.mem_append_right _ h)) tyX3 tyX3_ok nmX3 hown hK hP hD hS 0 rfl rfl 1 (by decide) (hts (.fieldLink RX3 15 "SkewBoard$Page" "size" "I") (List.mem_of_getElem? (i := 1) rfl)) (fun _ h9 => h9) rfl (by decide +kernel) rfl rfl (Nat.le_of_ble_eq_true rfl) dX3_clear_2 (fun H locs hP hD hS => ?_)
  have hP : va_P (dC, dI) vwCl (wX3 cI cB cE a v_codes 0) H := hP
  have hD : va_D A (wX3 cI cB cE a v_codes 0) := hD
  have hQ2 := hQ
  rw [← Option.some.inj hf] at hQ2
  exact cx_vret hQ2 hx hb hr hlocks hK hP hD hS dX3_clear_5

def fX3_isFillingOf_L12 (v_codes : Nat → Int32) (v_size : Int32) : Nat → Int32 → Option (Int32)
  | 0, _ => none
  | n + 1, x2_12 =>
    if v_size ≤ x2_12 then (some 1) else (gd (inb x2_12 20) (bd (fX7_isNumber ((v_codes x2_12.toNatClampNeg) - 48)) (fun r_4 => if r_4 = 0 then (some 0) else (fX3_isFillingOf_L12 v_codes v_size n (x2_12 + 1)))))
def fX3_isFillingOf (p1 : Int32) (v_codes : Nat → Int32) (v_size : Int32) : Option (Int32) :=
  if v_size = p1 then (fX3_isFillingOf_L12 v_codes v_size fu 0) else (some 0)
def rmX3_isFillingOf : Room := { frames := 1, cells := 0, slots := 0, locals := 20 }
set_option maxRecDepth 100000 in
set_option maxHeartbeats 4000000 in
theorem ctX3_isFillingOf (l : Launch) (z : Nat × Nat × Nat) (dC : Nat → ClassId) (dI : Nat → Nat → Nat) (cI cB cE : ClassId) (a : Nat → Nat) (v_codes : Nat → Int32) (v_size : Int32) (p1 : Int32) (fin : Int32) (hf : fX3_isFillingOf p1 v_codes v_size = some fin) : Ct l z (dC, dI) (tyL cI cB cE) yX3_isFillingOf wsX3_isFillingOf rmX3_isFillingOf [.ref (a 0), .int p1] (wX3 cI cB cE a v_codes v_size) (some (.int fin)) (wX3 cI cB cE a v_codes v_size) := by
  refine Met.ofC (cc := cX3_isFillingOf) (maxL := 3) (ret := (some .boolean)) (by decide) rfl (Nat.le_of_ble_eq_true rfl) ?_
  intro p e s m args below meth c A Q ls hx hb hr hml hts hown hlocks hA hK hP hD hZ hS hQ hl
  have hown : s.vm.findClass RX3 = some m.cls := hown
  have hl : lv_has ls 3 [(0, .ref (a 0)), (1, .int p1)] := hl
  unfold fX3_isFillingOf at hf
  refine lv_aload_n hx hb dX3_isFillingOf_0 rfl (lv_at hl 0 rfl) ?_
  refine va_get (D := (dC, dI)) (ci := 3) (C := RX3) (T := TX3) (N := 2) hx hb hts (fun _ h => List.mem_cons_of_mem _ (List.mem_append_right _ h)) hown hK hP 0 rfl rfl 1 (by decide) (hts (.fieldLink RX3 15 "SkewBoard$Page" "size" "I") (List.mem_of_getElem? (i := 1) rfl)) (fun _ h9 => h9) rfl dX3_isFillingOf_1 ?_
  refine lv_iload_n hx hb dX3_isFillingOf_4 rfl (lv_at hl 1 rfl) ?_
  refine lv_icmp_eq (tgt := 10) hx hb dX3_isFillingOf_5 (by decide) (fun c_1 => ?_) (fun c_1 => ?_)
  · rw [if_pos c_1] at hf
    refine lv_iconst (v := 0) hx hb dX3_isFillingOf_10 (by decide) ?_
    refine lv_istore_n (lv' := [(2, .int 0), (0, .ref (a 0)), (1, .int p1)]) hx hb dX3_isFillingOf_11 rfl hl (by decide) rfl (fun ls hl => ?_)
    have L12 : ∀ (n12 : Nat) (x2_12 : Int32), fX3_isFillingOf_L12 v_codes v_size n12 x2_12 = some fin → ∀ (H : Heap) (locs : List Loc), va_P (dC, dI) vwCl (wX3 cI cB cE a v_codes v_size) H → va_D A (wX3 cI cB cE a v_codes v_size) → va_S A s.heap H locs → ∀ (ls : Array Slot), lv_has ls 3 [(0, .ref (a 0)), (2, .int x2_12)] → W p l e rmX3_isFillingOf s m args below meth c H locs 0 0 Q (F0 m 12 ls []) := by
      intro n12
      induction n12 with
      | zero =>
        intro x2_12 hf
        rw [fX3_isFillingOf_L12] at hf
        cases hf
      | succ n12 ih12 =>
        intro x2_12 hf H locs hP hD hS ls hl
        rw [fX3_isFillingOf_L12] at hf
        refine lv_iload_n hx hb dX3_isFillingOf_12 rfl (lv_at hl 1 rfl) ?_
        refine lv_aload_n hx hb dX3_isFillingOf_13 rfl (lv_at hl 0 rfl) ?_
        refine va_get (D := (dC, dI)) (ci := 3) (C := RX3) (T := TX3) (N := 2) hx hb hts (fun _ h => List.mem_cons_of_mem _ (List.mem_append_right _ h)) hown hK hP 0 rfl rfl 1 (by decide) (hts (.fieldLink RX3 15 "SkewBoard$Page" "size" "I") (List.mem_of_getElem? (i := 1) rfl)) (fun _ h9 => h9) rfl dX3_isFillingOf_14 ?_
        refine lv_icmp_ge (tgt := 43) hx hb dX3_isFillingOf_17 (by decide) (fun c_2 => ?_) (fun c_2 => ?_)
        · rw [if_pos c_2] at hf
          refine lv_iconst (v := 1) hx hb dX3_isFillingOf_43 (by decide) ?_
          have hQ2 := hQ
          rw [← Option.some.inj hf] at hQ2
          exact cx_zret rfl hQ2 hx hb hr hlocks hK hP hD hS dX3_isFillingOf_44
        · rw [if_neg c_2] at hf
          refine lv_aload_n hx hb dX3_isFillingOf_20 rfl (lv_at hl 0 rfl) ?_
          refine va_get (D := (dC, dI)) (ci := 3) (C := RX3) (T := TX3) (N := 2) hx hb hts (fun _ h => List.mem_cons_of_mem _ (List.mem_append_right _ h)) hown hK hP 0 rfl rfl 0 (by decide) (hts (.fieldLink RX3 9 "SkewBoard$Page" "codes" "[I") (List.mem_of_getElem? (i := 2) rfl)) (fun _ h9 => h9) rfl dX3_isFillingOf_21 ?_
          refine lv_iload_n hx hb dX3_isFillingOf_24 rfl (lv_at hl 1 rfl) ?_
          obtain ⟨g_3, hf⟩ := gd_some hf
          refine va_iald hx hb hK hP 1 0 rfl rfl (inb_vp g_3) dX3_isFillingOf_25 ?_
          refine lv_bipush (v := 48) hx hb dX3_isFillingOf_26 (by decide) ?_
          refine lv_isub hx hb dX3_isFillingOf_28 ?_
          obtain ⟨r_4, hr_4, hf⟩ := bd_some hf
          refine cx_run0 (cx_SN (A := A) (As := [.int ((v_codes x2_12.toNatClampNeg) - 48)]) (rest := []) ⟨hx, hb, hml, hown, hts⟩ (ctX7_isNumber l z dC dI cI cB cE ((v_codes x2_12.toNatClampNeg) - 48) r_4 hr_4) ⟨va_cnB 1 hts gX3_isFillingOf_X7_isNumber_n19 rfl rfl rfl (hZ.2.2.2.2.2.2.2.2.1 ("SkewBoard$Page", 19, yX7_isNumber, "SkewBoard") (by decide +kernel)) (hts (.initialized RX7) (List.mem_of_getElem? (i := 4) rfl)) (by decide +kernel) ⟨Nat.le_of_ble_eq_true rfl, Nat.le_of_ble_eq_true rfl⟩, (hts (.static yX7_isNumber) (List.mem_of_getElem? (i := 3) rfl)), trivial⟩ hK vaP0 vaD0 hZ hS hA rfl hl.1 rfl (Nat.le_of_ble_eq_true rfl) dX3_isFillingOf_29) hP hS hA [.int r_4] rfl (fun H locs hP hS => ?_)
          refine lv_if_ne (tgt := 37) hx hb dX3_isFillingOf_32 (by decide) (fun c_5 => ?_) (fun c_5 => ?_)
          · rw [if_neg c_5] at hf
            refine lv_iinc (v := (x2_12 + 1)) (lv' := [(2, .int (x2_12 + 1)), (0, .ref (a 0))]) hx hb dX3_isFillingOf_37 hl (k := 1) rfl rfl (by decide) rfl (fun ls hl => ?_)
            refine lv_goto (tgt := 12) hx hb dX3_isFillingOf_40 (by decide) ?_
            exact ih12 (x2_12 + 1) hf _ _ hP hD hS ls (lv_sub hl [1, 0] rfl)
          · rw [if_pos c_5] at hf
            refine lv_iconst (v := 0) hx hb dX3_isFillingOf_35 (by decide) ?_
            have hQ2 := hQ
            rw [← Option.some.inj hf] at hQ2
            exact cx_zret rfl hQ2 hx hb hr hlocks hK hP hD hS dX3_isFillingOf_36
    exact L12 fu 0 hf _ _ hP hD hS ls (lv_sub hl [1, 0] rfl)
  · rw [if_neg c_1] at hf
    refine lv_iconst (v := 0) hx hb dX3_isFillingOf_8 (by decide) ?_
    have hQ2 := hQ
    rw [← Option.some.inj hf] at hQ2
    exact cx_zret rfl hQ2 hx hb hr hlocks hK hP hD hS dX3_isFillingOf_9

def fX3_fillingCode_L4 (v_codes : Nat → Int32) (v_size : Int32) : Nat → Int32 → Int32 → Option (Int32)
  | 0, _, _ => none
  | n + 1, x1_4, x2_4 =>
    if v_size ≤ x2_4 then (some x1_4) else (gd (inb x2_4 20) (bd (fX0_codeWith x1_4 ((v_codes x2_4.toNatClampNeg) - 48)) (fun r_3 => fX3_fillingCode_L4 v_codes v_size n r_3 (x2_4 + 1))))
def fX3_fillingCode (v_codes : Nat → Int32) (v_size : Int32) : Option (Int32) :=
  fX3_fillingCode_L4 v_codes v_size fu 0 0
def rmX3_fillingCode : Room := { frames := 1, cells := 0, slots := 0, locals := 21 }
set_option maxRecDepth 100000 in
set_option maxHeartbeats 4000000 in
theorem ctX3_fillingCode (l : Launch) (z : Nat × Nat × Nat) (dC : Nat → ClassId) (dI : Nat → Nat → Nat) (cI cB cE : ClassId) (a : Nat → Nat) (v_codes : Nat → Int32) (v_size : Int32) (fin : Int32) (hf : fX3_fillingCode v_codes v_size = some fin) : Ct l z (dC, dI) (tyL cI cB cE) yX3_fillingCode wsX3_fillingCode rmX3_fillingCode [.ref (a 0)] (wX3 cI cB cE a v_codes v_size) (some (.int fin)) (wX3 cI cB cE a v_codes v_size) := by
  refine Met.ofC (cc := cX3_fillingCode) (maxL := 3) (ret := (some .int)) (by decide) rfl (Nat.le_of_ble_eq_true rfl) ?_
  intro p e s m args below meth c A Q ls hx hb hr hml hts hown hlocks hA hK hP hD hZ hS hQ hl
  have hown : s.vm.findClass RX3 = some m.cls := hown
  have hl : lv_has ls 3 [(0, .ref (a 0))] := hl
  unfold fX3_fillingCode at hf
  refine lv_iconst (v := 0) hx hb dX3_fillingCode_0 (by decide) ?_
  refine lv_istore_n (lv' := [(1, .int 0), (0, .ref (a 0))]) hx hb dX3_fillingCode_1 rfl hl (by decide) rfl (fun ls hl => ?_)
  refine lv_iconst (v := 0) hx hb dX3_fillingCode_2 (by decide) ?_
  refine lv_istore_n (lv' := [(2, .int 0), (1, .int 0), (0, .ref (a 0))]) hx hb dX3_fillingCode_3 rfl hl (by decide) rfl (fun ls hl => ?_)
  have L4 : ∀ (n4 : Nat) (x1_4 : Int32) (x2_4 : Int32), fX3_fillingCode_L4 v_codes v_size n4 x1_4 x2_4 = some fin → ∀ (H : Heap) (locs : List Loc), va_P (dC, dI) vwCl (wX3 cI cB cE a v_codes v_size) H → va_D A (wX3 cI cB cE a v_codes v_size) → va_S A s.heap H locs → ∀ (ls : Array Slot), lv_has ls 3 [(0, .ref (a 0)), (1, .int x1_4), (2, .int x2_4)] → W p l e rmX3_fillingCode s m args below meth c H locs 0 0 Q (F0 m 4 ls []) := by
    intro n4
    induction n4 with
    | zero =>
      intro x1_4 x2_4 hf
      rw [fX3_fillingCode_L4] at hf
      cases hf
    | succ n4 ih4 =>
      intro x1_4 x2_4 hf H locs hP hD hS ls hl
      rw [fX3_fillingCode_L4] at hf
      refine lv_iload_n hx hb dX3_fillingCode_4 rfl (lv_at hl 2 rfl) ?_
      refine lv_aload_n hx hb dX3_fillingCode_5 rfl (lv_at hl 0 rfl) ?_
      refine va_get (D := (dC, dI)) (ci := 3) (C := RX3) (T := TX3) (N := 2) hx hb hts (fun _ h => List.mem_cons_of_mem _ (List.mem_append_right _ h)) hown hK hP 0 rfl rfl 1 (by decide) (hts (.fieldLink RX3 15 "SkewBoard$Page" "size" "I") (List.mem_of_getElem? (i := 1) rfl)) (fun _ h9 => h9) rfl dX3_fillingCode_6 ?_
      refine lv_icmp_ge (tgt := 32) hx hb dX3_fillingCode_9 (by decide) (fun c_1 => ?_) (fun c_1 => ?_)
      · rw [if_pos c_1] at hf
        refine lv_iload_n hx hb dX3_fillingCode_32 rfl (lv_at hl 1 rfl) ?_
        have hQ2 := hQ
        rw [← Option.some.inj hf] at hQ2
        exact cx_iret hQ2 hx hb hr hlocks hK hP hD hS dX3_fillingCode_33
      · rw [if_neg c_1] at hf
        refine lv_iload_n hx hb dX3_fillingCode_12 rfl (lv_at hl 1 rfl) ?_
        refine lv_aload_n hx hb dX3_fillingCode_13 rfl (lv_at hl 0 rfl) ?_
        refine va_get (D := (dC, dI)) (ci := 3) (C := RX3) (T := TX3) (N := 2) hx hb hts (fun _ h => List.mem_cons_of_mem _ (List.mem_append_right _ h)) hown hK hP 0 rfl rfl 0 (by decide) (hts (.fieldLink RX3 9 "SkewBoard$Page" "codes" "[I") (List.mem_of_getElem? (i := 2) rfl)) (fun _ h9 => h9) rfl dX3_fillingCode_14 ?_
        refine lv_iload_n hx hb dX3_fillingCode_17 rfl (lv_at hl 2 rfl) ?_
        obtain ⟨g_2, hf⟩ := gd_some hf
        refine va_iald hx hb hK hP 1 0 rfl rfl (inb_vp g_2) dX3_fillingCode_18 ?_
        refine lv_bipush (v := 48) hx hb dX3_fillingCode_19 (by decide) ?_
        refine lv_isub hx hb dX3_fillingCode_21 ?_
        obtain ⟨r_3, hr_3, hf⟩ := bd_some hf
        refine cx_run0 (cx_S (A := A) (As := [.int x1_4, .int ((v_codes x2_4.toNatClampNeg) - 48)]) (rest := []) ⟨hx, hb, hml, hown, hts⟩ (ctX0_codeWith l z dC dI cI cB cE x1_4 ((v_codes x2_4.toNatClampNeg) - 48) r_3 hr_3) (va_cwS 2 hts gX3_fillingCode_X0_codeWith rfl rfl rfl (by decide +kernel) ⟨Nat.le_of_ble_eq_true rfl, Nat.le_of_ble_eq_true rfl⟩) hK vaP0 vaD0 hZ hS hA rfl hl.1 rfl (Nat.le_of_ble_eq_true rfl) dX3_fillingCode_22) hP hS hA [.int r_3] rfl (fun H locs hP hS => ?_)
        refine lv_istore_n (lv' := [(1, .int r_3), (0, .ref (a 0)), (2, .int x2_4)]) hx hb dX3_fillingCode_25 rfl hl (by decide) rfl (fun ls hl => ?_)
        refine lv_iinc (v := (x2_4 + 1)) (lv' := [(2, .int (x2_4 + 1)), (1, .int r_3), (0, .ref (a 0))]) hx hb dX3_fillingCode_26 hl (k := 2) rfl rfl (by decide) rfl (fun ls hl => ?_)
        refine lv_goto (tgt := 4) hx hb dX3_fillingCode_29 (by decide) ?_
        exact ih4 r_3 (x2_4 + 1) hf _ _ hP hD hS ls (lv_sub hl [2, 1, 0] rfl)
  exact L4 fu 0 0 hf _ _ hP hD hS ls (lv_sub hl [2, 1, 0] rfl)

