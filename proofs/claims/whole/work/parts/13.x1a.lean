def fX1_hasBox_J17 (y0_17 : Int32) : Option (Int32) :=
    gd (isb y0_17) (some y0_17)
def fX1_hasBox_J16 (k17 : Int32 → Option (Int32)) (u_16 : Unit) : Option (Int32) :=
    k17 0
def fX1_hasBox (p1 : Int32) (v_size : Int32) : Option (Int32) :=
  if p1 < 0 then (fX1_hasBox_J16 fX1_hasBox_J17 ()) else (if v_size ≤ p1 then (fX1_hasBox_J16 fX1_hasBox_J17 ()) else (fX1_hasBox_J17 1))
def rmX1_hasBox : Room := { frames := 0, cells := 0, slots := 0, locals := 0 }
set_option maxRecDepth 100000 in
set_option maxHeartbeats 4000000 in
theorem ctX1_hasBox (l : Launch) (z : Nat × Nat × Nat) (dC : Nat → ClassId) (dI : Nat → Nat → Nat) (cI cB cE : ClassId) (a : Nat → Nat) (v_rowOf : Nat → Int32) (v_columnOf : Nat → Int32) (v_before : Nat → Int32) (v_above : Nat → Int32) (v_rowStart : Nat → Int32) (v_size : Int32) (p1 : Int32) (fin : Int32) (hf : fX1_hasBox p1 v_size = some fin) : Ct l z (dC, dI) (tyL cI cB cE) yX1_hasBox wsX1_hasBox rmX1_hasBox [.ref (a 0), .int p1] (wX1 cI cB cE a v_rowOf v_columnOf v_before v_above v_rowStart v_size) (some (.int fin)) (wX1 cI cB cE a v_rowOf v_columnOf v_before v_above v_rowStart v_size) := by
  refine Met.ofC (cc := cX1_hasBox) (maxL := 2) (ret := (some .boolean)) (by decide) rfl (Nat.le_of_ble_eq_true rfl) ?_
  intro p e s m args below meth c A Q ls hx hb hr hml hts hown hlocks hA hK hP hD hZ hS hQ hl
  have hown : s.vm.findClass RX1 = some m.cls := hown
  have hl : lv_has ls 2 [(0, .ref (a 0)), (1, .int p1)] := hl
  unfold fX1_hasBox at hf
  refine lv_iload_n hx hb dX1_hasBox_0 rfl (lv_at hl 1 rfl) ?_
  have J17 : ∀ (y0_17 : Int32), fX1_hasBox_J17  y0_17 = some fin → ∀ (H : Heap) (locs : List Loc), va_P (dC, dI) vwCl (wX1 cI cB cE a v_rowOf v_columnOf v_before v_above v_rowStart v_size) H → va_D A (wX1 cI cB cE a v_rowOf v_columnOf v_before v_above v_rowStart v_size) → va_S A s.heap H locs → ∀ (ls : Array Slot), lv_has ls 2 [] → W p l e rmX1_hasBox s m args below meth c H locs 0 0 Q (F0 m 17 ls [.int y0_17]) := by
    intro y0_17 hf H locs hP hD hS ls hl
    unfold fX1_hasBox_J17 at hf
    obtain ⟨g_1, hf⟩ := gd_some hf
    have hQ2 := hQ
    rw [← Option.some.inj hf] at hQ2
    exact cx_zret (isb_nar g_1) hQ2 hx hb hr hlocks hK hP hD hS dX1_hasBox_17
  have J16 : ∀ (u_16 : Unit), fX1_hasBox_J16 (fX1_hasBox_J17) u_16 = some fin → ∀ (H : Heap) (locs : List Loc), va_P (dC, dI) vwCl (wX1 cI cB cE a v_rowOf v_columnOf v_before v_above v_rowStart v_size) H → va_D A (wX1 cI cB cE a v_rowOf v_columnOf v_before v_above v_rowStart v_size) → va_S A s.heap H locs → ∀ (ls : Array Slot), lv_has ls 2 [] → W p l e rmX1_hasBox s m args below meth c H locs 0 0 Q (F0 m 16 ls []) := by
    intro u_16 hf H locs hP hD hS ls hl
    unfold fX1_hasBox_J16 at hf
    refine lv_iconst (v := 0) hx hb dX1_hasBox_16 (by decide) ?_
    exact J17 0 hf _ _ hP hD hS ls (lv_sub hl [] rfl)
  refine lv_if_lt (tgt := 16) hx hb dX1_hasBox_1 (by decide) (fun c_2 => ?_) (fun c_2 => ?_)
  · rw [if_pos c_2] at hf
    exact J16 () hf _ _ hP hD hS ls (lv_sub hl [] rfl)
  · rw [if_neg c_2] at hf
    refine lv_iload_n hx hb dX1_hasBox_4 rfl (lv_at hl 1 rfl) ?_
    refine lv_aload_n hx hb dX1_hasBox_5 rfl (lv_at hl 0 rfl) ?_
    refine va_get (D := (dC, dI)) (ci := 1) (C := RX1) (T := TX1) (N := 6) hx hb hts (fun _ h => List.mem_cons_of_mem _ (List.mem_append_right _ h)) hown hK hP 0 rfl rfl 5 (by decide) (hts (.fieldLink RX1 27 "SkewBoard$Grid" "size" "I") (List.mem_of_getElem? (i := 1) rfl)) (fun _ h9 => h9) rfl dX1_hasBox_6 ?_
    refine lv_icmp_ge (tgt := 16) hx hb dX1_hasBox_9 (by decide) (fun c_3 => ?_) (fun c_3 => ?_)
    · rw [if_pos c_3] at hf
      exact J16 () hf _ _ hP hD hS ls (lv_sub hl [] rfl)
    · rw [if_neg c_3] at hf
      refine lv_iconst (v := 1) hx hb dX1_hasBox_12 (by decide) ?_
      refine lv_goto (tgt := 17) hx hb dX1_hasBox_13 (by decide) ?_
      exact J17 1 hf _ _ hP hD hS ls (lv_sub hl [] rfl)

def fX1_boxAt_J32 (x3_2 : Int32) (k2 : Int32 → Option (Int32)) (u_32 : Unit) : Option (Int32) :=
    k2 (x3_2 + 1)
def fX1_boxAt_L2 (v_rowOf : Nat → Int32) (v_columnOf : Nat → Int32) (v_size : Int32) (p1 : Int32) (p2 : Int32) : Nat → Int32 → Option (Int32)
  | 0, _ => none
  | n + 1, x3_2 =>
    if v_size ≤ x3_2 then (some (-1)) else (gd (inb x3_2 9) (if (v_rowOf x3_2.toNatClampNeg) = p1 then (if (v_columnOf x3_2.toNatClampNeg) = p2 then (some x3_2) else (fX1_boxAt_J32 x3_2 (fX1_boxAt_L2 v_rowOf v_columnOf v_size p1 p2 n) ())) else (fX1_boxAt_J32 x3_2 (fX1_boxAt_L2 v_rowOf v_columnOf v_size p1 p2 n) ())))
def fX1_boxAt (p1 : Int32) (p2 : Int32) (v_rowOf : Nat → Int32) (v_columnOf : Nat → Int32) (v_size : Int32) : Option (Int32) :=
  fX1_boxAt_L2 v_rowOf v_columnOf v_size p1 p2 fu 0
def rmX1_boxAt : Room := { frames := 0, cells := 0, slots := 0, locals := 0 }
set_option maxRecDepth 100000 in
set_option maxHeartbeats 4000000 in
theorem ctX1_boxAt (l : Launch) (z : Nat × Nat × Nat) (dC : Nat → ClassId) (dI : Nat → Nat → Nat) (cI cB cE : ClassId) (a : Nat → Nat) (v_rowOf : Nat → Int32) (v_columnOf : Nat → Int32) (v_before : Nat → Int32) (v_above : Nat → Int32) (v_rowStart : Nat → Int32) (v_size : Int32) (p1 : Int32) (p2 : Int32) (fin : Int32) (hf : fX1_boxAt p1 p2 v_rowOf v_columnOf v_size = some fin) : Ct l z (dC, dI) (tyL cI cB cE) yX1_boxAt wsX1_boxAt rmX1_boxAt [.ref (a 0), .int p1, .int p2] (wX1 cI cB cE a v_rowOf v_columnOf v_before v_above v_rowStart v_size) (some (.int fin)) (wX1 cI cB cE a v_rowOf v_columnOf v_before v_above v_rowStart v_size) := by
  refine Met.ofC (cc := cX1_boxAt) (maxL := 4) (ret := (some .int)) (by decide) rfl (Nat.le_of_ble_eq_true rfl) ?_
  intro p e s m args below meth c A Q ls hx hb hr hml hts hown hlocks hA hK hP hD hZ hS hQ hl
  have hown : s.vm.findClass RX1 = some m.cls := hown
  have hl : lv_has ls 4 [(0, .ref (a 0)), (1, .int p1), (2, .int p2)] := hl
  unfold fX1_boxAt at hf
  refine lv_iconst (v := 0) hx hb dX1_boxAt_0 (by decide) ?_
  refine lv_istore_n (lv' := [(3, .int 0), (0, .ref (a 0)), (1, .int p1), (2, .int p2)]) hx hb dX1_boxAt_1 rfl hl (by decide) rfl (fun ls hl => ?_)
  have L2 : ∀ (n2 : Nat) (x3_2 : Int32), fX1_boxAt_L2 v_rowOf v_columnOf v_size p1 p2 n2 x3_2 = some fin → ∀ (H : Heap) (locs : List Loc), va_P (dC, dI) vwCl (wX1 cI cB cE a v_rowOf v_columnOf v_before v_above v_rowStart v_size) H → va_D A (wX1 cI cB cE a v_rowOf v_columnOf v_before v_above v_rowStart v_size) → va_S A s.heap H locs → ∀ (ls : Array Slot), lv_has ls 4 [(0, .ref (a 0)), (1, .int p1), (2, .int p2), (3, .int x3_2)] → W p l e rmX1_boxAt s m args below meth c H locs 0 0 Q (F0 m 2 ls []) := by
    intro n2
    induction n2 with
    | zero =>
      intro x3_2 hf
      rw [fX1_boxAt_L2] at hf
      cases hf
    | succ n2 ih2 =>
      intro x3_2 hf H locs hP hD hS ls hl
      rw [fX1_boxAt_L2] at hf
      refine lv_iload_n hx hb dX1_boxAt_2 rfl (lv_at hl 3 rfl) ?_
      refine lv_aload_n hx hb dX1_boxAt_3 rfl (lv_at hl 0 rfl) ?_
      refine va_get (D := (dC, dI)) (ci := 1) (C := RX1) (T := TX1) (N := 6) hx hb hts (fun _ h => List.mem_cons_of_mem _ (List.mem_append_right _ h)) hown hK hP 0 rfl rfl 5 (by decide) (hts (.fieldLink RX1 27 "SkewBoard$Grid" "size" "I") (List.mem_of_getElem? (i := 1) rfl)) (fun _ h9 => h9) rfl dX1_boxAt_4 ?_
      refine lv_icmp_ge (tgt := 38) hx hb dX1_boxAt_7 (by decide) (fun c_1 => ?_) (fun c_1 => ?_)
      · rw [if_pos c_1] at hf
        refine lv_iconst (v := (-1)) hx hb dX1_boxAt_38 (by decide) ?_
        have hQ2 := hQ
        rw [← Option.some.inj hf] at hQ2
        exact cx_iret hQ2 hx hb hr hlocks hK hP hD hS dX1_boxAt_39
      · rw [if_neg c_1] at hf
        refine lv_aload_n hx hb dX1_boxAt_10 rfl (lv_at hl 0 rfl) ?_
        refine va_get (D := (dC, dI)) (ci := 1) (C := RX1) (T := TX1) (N := 6) hx hb hts (fun _ h => List.mem_cons_of_mem _ (List.mem_append_right _ h)) hown hK hP 0 rfl rfl 0 (by decide) (hts (.fieldLink RX1 9 "SkewBoard$Grid" "rowOf" "[I") (List.mem_of_getElem? (i := 2) rfl)) (fun _ h9 => h9) rfl dX1_boxAt_11 ?_
        refine lv_iload_n hx hb dX1_boxAt_14 rfl (lv_at hl 3 rfl) ?_
        obtain ⟨g_2, hf⟩ := gd_some hf
        refine va_iald hx hb hK hP 1 0 rfl rfl (inb_vp g_2) dX1_boxAt_15 ?_
        refine lv_iload_n hx hb dX1_boxAt_16 rfl (lv_at hl 1 rfl) ?_
        have J32 : ∀ (u_32 : Unit), fX1_boxAt_J32 x3_2 (fX1_boxAt_L2 v_rowOf v_columnOf v_size p1 p2 n2) u_32 = some fin → ∀ (H : Heap) (locs : List Loc), va_P (dC, dI) vwCl (wX1 cI cB cE a v_rowOf v_columnOf v_before v_above v_rowStart v_size) H → va_D A (wX1 cI cB cE a v_rowOf v_columnOf v_before v_above v_rowStart v_size) → va_S A s.heap H locs → ∀ (ls : Array Slot), lv_has ls 4 [(0, .ref (a 0)), (1, .int p1), (2, .int p2), (3, .int x3_2)] → W p l e rmX1_boxAt s m args below meth c H locs 0 0 Q (F0 m 32 ls []) := by
          intro u_32 hf H locs hP hD hS ls hl
          unfold fX1_boxAt_J32 at hf
          refine lv_iinc (v := (x3_2 + 1)) (lv' := [(3, .int (x3_2 + 1)), (0, .ref (a 0)), (1, .int p1), (2, .int p2)]) hx hb dX1_boxAt_32 hl (k := 3) rfl rfl (by decide) rfl (fun ls hl => ?_)
          refine lv_goto (tgt := 2) hx hb dX1_boxAt_35 (by decide) ?_
          exact ih2 (x3_2 + 1) hf _ _ hP hD hS ls (lv_sub hl [1, 2, 3, 0] rfl)
        refine lv_icmp_ne (tgt := 32) hx hb dX1_boxAt_17 (by decide) (fun c_3 => ?_) (fun c_3 => ?_)
        · rw [if_neg c_3] at hf
          exact J32 () hf _ _ hP hD hS ls (lv_sub hl [0, 1, 2, 3] rfl)
        · rw [if_pos c_3] at hf
          refine lv_aload_n hx hb dX1_boxAt_20 rfl (lv_at hl 0 rfl) ?_
          refine va_get (D := (dC, dI)) (ci := 1) (C := RX1) (T := TX1) (N := 6) hx hb hts (fun _ h => List.mem_cons_of_mem _ (List.mem_append_right _ h)) hown hK hP 0 rfl rfl 1 (by decide) (hts (.fieldLink RX1 15 "SkewBoard$Grid" "columnOf" "[I") (List.mem_of_getElem? (i := 3) rfl)) (fun _ h9 => h9) rfl dX1_boxAt_21 ?_
          refine lv_iload_n hx hb dX1_boxAt_24 rfl (lv_at hl 3 rfl) ?_
          refine va_iald hx hb hK hP 2 0 rfl rfl (inb_vp g_2) dX1_boxAt_25 ?_
          refine lv_iload_n hx hb dX1_boxAt_26 rfl (lv_at hl 2 rfl) ?_
          refine lv_icmp_ne (tgt := 32) hx hb dX1_boxAt_27 (by decide) (fun c_4 => ?_) (fun c_4 => ?_)
          · rw [if_neg c_4] at hf
            exact J32 () hf _ _ hP hD hS ls (lv_sub hl [0, 1, 2, 3] rfl)
          · rw [if_pos c_4] at hf
            refine lv_iload_n hx hb dX1_boxAt_30 rfl (lv_at hl 3 rfl) ?_
            have hQ2 := hQ
            rw [← Option.some.inj hf] at hQ2
            exact cx_iret hQ2 hx hb hr hlocks hK hP hD hS dX1_boxAt_31
  exact L2 fu 0 hf _ _ hP hD hS ls (lv_sub hl [1, 2, 3, 0] rfl)

def fX1_addBox_J56 (v_rowOf : Nat → Int32) (v_columnOf : Nat → Int32) (v_before : Nat → Int32) (v_above : Nat → Int32) (v_rowStart : Nat → Int32) (v_size : Int32) (p1 : Int32) (p2 : Int32) (p3 : Int32) (y2_56 : Int32) : Option ((Nat → Int32) × (Nat → Int32) × (Nat → Int32) × (Nat → Int32) × (Nat → Int32) × Int32) :=
    bd (fX1_boxAt (p1 - 1) p2 (upd v_rowOf v_size.toNatClampNeg p1) (upd v_columnOf v_size.toNatClampNeg p2) v_size) (fun r_3 => some ((upd v_rowOf v_size.toNatClampNeg p1), (upd v_columnOf v_size.toNatClampNeg p2), (upd v_before v_size.toNatClampNeg y2_56), (upd v_above v_size.toNatClampNeg r_3), (upd v_rowStart v_size.toNatClampNeg p3), (v_size + 1)))
def fX1_addBox (p1 : Int32) (p2 : Int32) (p3 : Int32) (v_rowOf : Nat → Int32) (v_columnOf : Nat → Int32) (v_before : Nat → Int32) (v_above : Nat → Int32) (v_rowStart : Nat → Int32) (v_size : Int32) : Option ((Nat → Int32) × (Nat → Int32) × (Nat → Int32) × (Nat → Int32) × (Nat → Int32) × Int32) :=
  if v_size < 9 then (gd (inb v_size 9) (fX1_addBox_J56 v_rowOf v_columnOf v_before v_above v_rowStart v_size p1 p2 p3 (if v_size ≤ p3 then (-1) else (v_size - 1)))) else (some (v_rowOf, v_columnOf, v_before, v_above, v_rowStart, v_size))
def rmX1_addBox : Room := { frames := 1, cells := 0, slots := 0, locals := 23 }
set_option maxRecDepth 100000 in
set_option maxHeartbeats 4000000 in
theorem ctX1_addBox (l : Launch) (z : Nat × Nat × Nat) (dC : Nat → ClassId) (dI : Nat → Nat → Nat) (cI cB cE : ClassId) (a : Nat → Nat) (v_rowOf : Nat → Int32) (v_columnOf : Nat → Int32) (v_before : Nat → Int32) (v_above : Nat → Int32) (v_rowStart : Nat → Int32) (v_size : Int32) (p1 : Int32) (p2 : Int32) (p3 : Int32) (fin : (Nat → Int32) × (Nat → Int32) × (Nat → Int32) × (Nat → Int32) × (Nat → Int32) × Int32) (hf : fX1_addBox p1 p2 p3 v_rowOf v_columnOf v_before v_above v_rowStart v_size = some fin) : Ct l z (dC, dI) (tyL cI cB cE) yX1_addBox wsX1_addBox rmX1_addBox [.ref (a 0), .int p1, .int p2, .int p3] (wX1 cI cB cE a v_rowOf v_columnOf v_before v_above v_rowStart v_size) none (wX1 cI cB cE a fin.1 fin.2.1 fin.2.2.1 fin.2.2.2.1 fin.2.2.2.2.1 fin.2.2.2.2.2) := by
  refine Met.ofC (cc := cX1_addBox) (maxL := 4) (ret := none) (by decide) rfl (Nat.le_of_ble_eq_true rfl) ?_
  intro p e s m args below meth c A Q ls hx hb hr hml hts hown hlocks hA hK hP hD hZ hS hQ hl
  have hown : s.vm.findClass RX1 = some m.cls := hown
  have hl : lv_has ls 4 [(0, .ref (a 0)), (1, .int p1), (2, .int p2), (3, .int p3)] := hl
  unfold fX1_addBox at hf
  refine lv_aload_n hx hb dX1_addBox_0 rfl (lv_at hl 0 rfl) ?_
  refine va_get (D := (dC, dI)) (ci := 1) (C := RX1) (T := TX1) (N := 6) hx hb hts (fun _ h => List.mem_cons_of_mem _ (List.mem_append_right _ h)) hown hK hP 0 rfl rfl 5 (by decide) (hts (.fieldLink RX1 27 "SkewBoard$Grid" "size" "I") (List.mem_of_getElem? (i := 1) rfl)) (fun _ h9 => h9) rfl dX1_addBox_1 ?_
  refine lv_bipush (v := 9) hx hb dX1_addBox_4 (by decide) ?_
  refine lv_icmp_lt (tgt := 10) hx hb dX1_addBox_6 (by decide) (fun c_1 => ?_) (fun c_1 => ?_)
  · rw [if_pos c_1] at hf
    refine lv_aload_n hx hb dX1_addBox_10 rfl (lv_at hl 0 rfl) ?_
    refine va_get (D := (dC, dI)) (ci := 1) (C := RX1) (T := TX1) (N := 6) hx hb hts (fun _ h => List.mem_cons_of_mem _ (List.mem_append_right _ h)) hown hK hP 0 rfl rfl 0 (by decide) (hts (.fieldLink RX1 9 "SkewBoard$Grid" "rowOf" "[I") (List.mem_of_getElem? (i := 2) rfl)) (fun _ h9 => h9) rfl dX1_addBox_11 ?_
    refine lv_aload_n hx hb dX1_addBox_14 rfl (lv_at hl 0 rfl) ?_
    refine va_get (D := (dC, dI)) (ci := 1) (C := RX1) (T := TX1) (N := 6) hx hb hts (fun _ h => List.mem_cons_of_mem _ (List.mem_append_right _ h)) hown hK hP 0 rfl rfl 5 (by decide) (hts (.fieldLink RX1 27 "SkewBoard$Grid" "size" "I") (List.mem_of_getElem? (i := 1) rfl)) (fun _ h9 => h9) rfl dX1_addBox_15 ?_
    refine lv_iload_n hx hb dX1_addBox_18 rfl (lv_at hl 1 rfl) ?_
    obtain ⟨g_2, hf⟩ := gd_some hf
    refine va_iast hx hb hK hP hD hS 1 0 rfl rfl (inb_vp g_2) dX1_addBox_19 (fun H locs hP hD hS => ?_)
    have hP : va_P (dC, dI) vwCl (wX1 cI cB cE a (upd v_rowOf v_size.toNatClampNeg p1) v_columnOf v_before v_above v_rowStart v_size) H := hP
    have hD : va_D A (wX1 cI cB cE a (upd v_rowOf v_size.toNatClampNeg p1) v_columnOf v_before v_above v_rowStart v_size) := hD
    refine lv_aload_n hx hb dX1_addBox_20 rfl (lv_at hl 0 rfl) ?_
    refine va_get (D := (dC, dI)) (ci := 1) (C := RX1) (T := TX1) (N := 6) hx hb hts (fun _ h => List.mem_cons_of_mem _ (List.mem_append_right _ h)) hown hK hP 0 rfl rfl 1 (by decide) (hts (.fieldLink RX1 15 "SkewBoard$Grid" "columnOf" "[I") (List.mem_of_getElem? (i := 3) rfl)) (fun _ h9 => h9) rfl dX1_addBox_21 ?_
    refine lv_aload_n hx hb dX1_addBox_24 rfl (lv_at hl 0 rfl) ?_
    refine va_get (D := (dC, dI)) (ci := 1) (C := RX1) (T := TX1) (N := 6) hx hb hts (fun _ h => List.mem_cons_of_mem _ (List.mem_append_right _ h)) hown hK hP 0 rfl rfl 5 (by decide) (hts (.fieldLink RX1 27 "SkewBoard$Grid" "size" "I") (List.mem_of_getElem? (i := 1) rfl)) (fun _ h9 => h9) rfl dX1_addBox_25 ?_
    refine lv_iload_n hx hb dX1_addBox_28 rfl (lv_at hl 2 rfl) ?_
    refine va_iast hx hb hK hP hD hS 2 0 rfl rfl (inb_vp g_2) dX1_addBox_29 (fun H locs hP hD hS => ?_)
    have hP : va_P (dC, dI) vwCl (wX1 cI cB cE a (upd v_rowOf v_size.toNatClampNeg p1) (upd v_columnOf v_size.toNatClampNeg p2) v_before v_above v_rowStart v_size) H := hP
    have hD : va_D A (wX1 cI cB cE a (upd v_rowOf v_size.toNatClampNeg p1) (upd v_columnOf v_size.toNatClampNeg p2) v_before v_above v_rowStart v_size) := hD
    refine lv_aload_n hx hb dX1_addBox_30 rfl (lv_at hl 0 rfl) ?_
    refine va_get (D := (dC, dI)) (ci := 1) (C := RX1) (T := TX1) (N := 6) hx hb hts (fun _ h => List.mem_cons_of_mem _ (List.mem_append_right _ h)) hown hK hP 0 rfl rfl 2 (by decide) (hts (.fieldLink RX1 18 "SkewBoard$Grid" "before" "[I") (List.mem_of_getElem? (i := 4) rfl)) (fun _ h9 => h9) rfl dX1_addBox_31 ?_
    refine lv_aload_n hx hb dX1_addBox_34 rfl (lv_at hl 0 rfl) ?_
    refine va_get (D := (dC, dI)) (ci := 1) (C := RX1) (T := TX1) (N := 6) hx hb hts (fun _ h => List.mem_cons_of_mem _ (List.mem_append_right _ h)) hown hK hP 0 rfl rfl 5 (by decide) (hts (.fieldLink RX1 27 "SkewBoard$Grid" "size" "I") (List.mem_of_getElem? (i := 1) rfl)) (fun _ h9 => h9) rfl dX1_addBox_35 ?_
    refine lv_aload_n hx hb dX1_addBox_38 rfl (lv_at hl 0 rfl) ?_
    refine va_get (D := (dC, dI)) (ci := 1) (C := RX1) (T := TX1) (N := 6) hx hb hts (fun _ h => List.mem_cons_of_mem _ (List.mem_append_right _ h)) hown hK hP 0 rfl rfl 5 (by decide) (hts (.fieldLink RX1 27 "SkewBoard$Grid" "size" "I") (List.mem_of_getElem? (i := 1) rfl)) (fun _ h9 => h9) rfl dX1_addBox_39 ?_
    refine lv_iload_n hx hb dX1_addBox_42 rfl (lv_at hl 3 rfl) ?_
    have J56 : ∀ (y2_56 : Int32), fX1_addBox_J56 v_rowOf v_columnOf v_before v_above v_rowStart v_size p1 p2 p3 y2_56 = some fin → ∀ (H : Heap) (locs : List Loc), va_P (dC, dI) vwCl (wX1 cI cB cE a (upd v_rowOf v_size.toNatClampNeg p1) (upd v_columnOf v_size.toNatClampNeg p2) v_before v_above v_rowStart v_size) H → va_D A (wX1 cI cB cE a (upd v_rowOf v_size.toNatClampNeg p1) (upd v_columnOf v_size.toNatClampNeg p2) v_before v_above v_rowStart v_size) → va_S A s.heap H locs → ∀ (ls : Array Slot), lv_has ls 4 [(0, .ref (a 0)), (1, .int p1), (2, .int p2), (3, .int p3)] → W p l e rmX1_addBox s m args below meth c H locs 0 0 Q (F0 m 56 ls [.int y2_56, .int v_size, .ref (a 3)]) := by
      intro y2_56 hf H locs hP hD hS ls hl
      unfold fX1_addBox_J56 at hf
      refine va_iast hx hb hK hP hD hS 3 0 rfl rfl (inb_vp g_2) dX1_addBox_56 (fun H locs hP hD hS => ?_)
      have hP : va_P (dC, dI) vwCl (wX1 cI cB cE a (upd v_rowOf v_size.toNatClampNeg p1) (upd v_columnOf v_size.toNatClampNeg p2) (upd v_before v_size.toNatClampNeg y2_56) v_above v_rowStart v_size) H := hP
      have hD : va_D A (wX1 cI cB cE a (upd v_rowOf v_size.toNatClampNeg p1) (upd v_columnOf v_size.toNatClampNeg p2) (upd v_before v_size.toNatClampNeg y2_56) v_above v_rowStart v_size) := hD
      refine lv_aload_n hx hb dX1_addBox_57 rfl (lv_at hl 0 rfl) ?_
      refine va_get (D := (dC, dI)) (ci := 1) (C := RX1) (T := TX1) (N := 6) hx hb hts (fun _ h => List.mem_cons_of_mem _ (List.mem_append_right _ h)) hown hK hP 0 rfl rfl 3 (by decide) (hts (.fieldLink RX1 21 "SkewBoard$Grid" "above" "[I") (List.mem_of_getElem? (i := 5) rfl)) (fun _ h9 => h9) rfl dX1_addBox_58 ?_
      refine lv_aload_n hx hb dX1_addBox_61 rfl (lv_at hl 0 rfl) ?_
      refine va_get (D := (dC, dI)) (ci := 1) (C := RX1) (T := TX1) (N := 6) hx hb hts (fun _ h => List.mem_cons_of_mem _ (List.mem_append_right _ h)) hown hK hP 0 rfl rfl 5 (by decide) (hts (.fieldLink RX1 27 "SkewBoard$Grid" "size" "I") (List.mem_of_getElem? (i := 1) rfl)) (fun _ h9 => h9) rfl dX1_addBox_62 ?_
      refine lv_aload_n hx hb dX1_addBox_65 rfl (lv_at hl 0 rfl) ?_
      refine lv_iload_n hx hb dX1_addBox_66 rfl (lv_at hl 1 rfl) ?_
      refine lv_iconst (v := 1) hx hb dX1_addBox_67 (by decide) ?_
      refine lv_isub hx hb dX1_addBox_68 ?_
      refine lv_iload_n hx hb dX1_addBox_69 rfl (lv_at hl 2 rfl) ?_
      obtain ⟨r_3, hr_3, hf⟩ := bd_some hf
      refine cx_runW (cx_V (As := [.int (p1 - 1), .int p2]) (rest := [.int v_size, .ref (a 4)]) ⟨hx, hb, hml, hown, hts⟩ (ctX1_boxAt l z dC dI cI cB cE a (upd v_rowOf v_size.toNatClampNeg p1) (upd v_columnOf v_size.toNatClampNeg p2) (upd v_before v_size.toNatClampNeg y2_56) v_above v_rowStart v_size (p1 - 1) p2 r_3 hr_3) (cwV 2 hts gX1_addBox_X1_boxAt rfl rfl rfl (by decide +kernel) ⟨Nat.le_of_ble_eq_true rfl, Nat.le_of_ble_eq_true rfl⟩) hK hP hD hZ hS hA (ci := 1) (q0 := 0) rfl rfl rfl hl.1 rfl (Nat.le_of_ble_eq_true rfl) dX1_addBox_70) hD hS hA [.int r_3, .int v_size, .ref (a 4)] rfl (fun H locs hP hD hS => ?_)
      refine va_iast hx hb hK hP hD hS 4 0 rfl rfl (inb_vp g_2) dX1_addBox_73 (fun H locs hP hD hS => ?_)
      have hP : va_P (dC, dI) vwCl (wX1 cI cB cE a (upd v_rowOf v_size.toNatClampNeg p1) (upd v_columnOf v_size.toNatClampNeg p2) (upd v_before v_size.toNatClampNeg y2_56) (upd v_above v_size.toNatClampNeg r_3) v_rowStart v_size) H := hP
      have hD : va_D A (wX1 cI cB cE a (upd v_rowOf v_size.toNatClampNeg p1) (upd v_columnOf v_size.toNatClampNeg p2) (upd v_before v_size.toNatClampNeg y2_56) (upd v_above v_size.toNatClampNeg r_3) v_rowStart v_size) := hD
      refine lv_aload_n hx hb dX1_addBox_74 rfl (lv_at hl 0 rfl) ?_
      refine va_get (D := (dC, dI)) (ci := 1) (C := RX1) (T := TX1) (N := 6) hx hb hts (fun _ h => List.mem_cons_of_mem _ (List.mem_append_right _ h)) hown hK hP 0 rfl rfl 4 (by decide) (hts (.fieldLink RX1 24 "SkewBoard$Grid" "rowStart" "[I") (List.mem_of_getElem? (i := 6) rfl)) (fun _ h9 => h9) rfl dX1_addBox_75 ?_
      refine lv_aload_n hx hb dX1_addBox_78 rfl (lv_at hl 0 rfl) ?_
      refine va_get (D := (dC, dI)) (ci := 1) (C := RX1) (T := TX1) (N := 6) hx hb hts (fun _ h => List.mem_cons_of_mem _ (List.mem_append_right _ h)) hown hK hP 0 rfl rfl 5 (by decide) (hts (.fieldLink RX1 27 "SkewBoard$Grid" "size" "I") (List.mem_of_getElem? (i := 1) rfl)) (fun _ h9 => h9) rfl dX1_addBox_79 ?_
      refine lv_iload_n hx hb dX1_addBox_82 rfl (lv_at hl 3 rfl) ?_
      refine va_iast hx hb hK hP hD hS 5 0 rfl rfl (inb_vp g_2) dX1_addBox_83 (fun H locs hP hD hS => ?_)
      have hP : va_P (dC, dI) vwCl (wX1 cI cB cE a (upd v_rowOf v_size.toNatClampNeg p1) (upd v_columnOf v_size.toNatClampNeg p2) (upd v_before v_size.toNatClampNeg y2_56) (upd v_above v_size.toNatClampNeg r_3) (upd v_rowStart v_size.toNatClampNeg p3) v_size) H := hP
      have hD : va_D A (wX1 cI cB cE a (upd v_rowOf v_size.toNatClampNeg p1) (upd v_columnOf v_size.toNatClampNeg p2) (upd v_before v_size.toNatClampNeg y2_56) (upd v_above v_size.toNatClampNeg r_3) (upd v_rowStart v_size.toNatClampNeg p3) v_size) := hD
      refine lv_aload_n hx hb dX1_addBox_84 rfl (lv_at hl 0 rfl) ?_
      refine lv_dup hx hb dX1_addBox_85 rfl ?_
      refine va_get (D := (dC, dI)) (ci := 1) (C := RX1) (T := TX1) (N := 6) hx hb hts (fun _ h => List.mem_cons_of_mem _ (List.mem_append_right _ h)) hown hK hP 0 rfl rfl 5 (by decide) (hts (.fieldLink RX1 27 "SkewBoard$Grid" "size" "I") (List.mem_of_getElem? (i := 1) rfl)) (fun _ h9 => h9) rfl dX1_addBox_86 ?_
      refine lv_iconst (v := 1) hx hb dX1_addBox_89 (by decide) ?_
      refine lv_iadd hx hb dX1_addBox_90 ?_
      refine va_put (D := (dC, dI)) (ci := 1) (v := .int (v_size + 1)) (ty := .int) (C := RX1) (T := TX1) (N := 6) hx hb hts (fun _ h => List.mem_cons_of_mem _ (List.mem_append_right _ h)) tyX1 tyX1_ok nmX1 hown hK hP hD hS 0 rfl rfl 5 (by decide) (hts (.fieldLink RX1 27 "SkewBoard$Grid" "size" "I") (List.mem_of_getElem? (i := 1) rfl)) (fun _ h9 => h9) rfl (by decide +kernel) rfl rfl (Nat.le_of_ble_eq_true rfl) dX1_addBox_91 (fun H locs hP hD hS => ?_)
      have hP : va_P (dC, dI) vwCl (wX1 cI cB cE a (upd v_rowOf v_size.toNatClampNeg p1) (upd v_columnOf v_size.toNatClampNeg p2) (upd v_before v_size.toNatClampNeg y2_56) (upd v_above v_size.toNatClampNeg r_3) (upd v_rowStart v_size.toNatClampNeg p3) (v_size + 1)) H := hP
      have hD : va_D A (wX1 cI cB cE a (upd v_rowOf v_size.toNatClampNeg p1) (upd v_columnOf v_size.toNatClampNeg p2) (upd v_before v_size.toNatClampNeg y2_56) (upd v_above v_size.toNatClampNeg r_3) (upd v_rowStart v_size.toNatClampNeg p3) (v_size + 1)) := hD
      have hQ2 := hQ
      rw [← Option.some.inj hf] at hQ2
      exact cx_vret hQ2 hx hb hr hlocks hK hP hD hS dX1_addBox_94
    refine lv_icmp_le (tgt := 55) hx hb dX1_addBox_43 (by decide) (fun c_4 => ?_) (fun c_4 => ?_)
    · rw [if_pos c_4] at hf
      refine lv_iconst (v := (-1)) hx hb dX1_addBox_55 (by decide) ?_
      exact J56 (-1) hf _ _ hP hD hS ls (lv_sub hl [0, 1, 2, 3] rfl)
    · rw [if_neg c_4] at hf
      refine lv_aload_n hx hb dX1_addBox_46 rfl (lv_at hl 0 rfl) ?_
      refine va_get (D := (dC, dI)) (ci := 1) (C := RX1) (T := TX1) (N := 6) hx hb hts (fun _ h => List.mem_cons_of_mem _ (List.mem_append_right _ h)) hown hK hP 0 rfl rfl 5 (by decide) (hts (.fieldLink RX1 27 "SkewBoard$Grid" "size" "I") (List.mem_of_getElem? (i := 1) rfl)) (fun _ h9 => h9) rfl dX1_addBox_47 ?_
      refine lv_iconst (v := 1) hx hb dX1_addBox_50 (by decide) ?_
      refine lv_isub hx hb dX1_addBox_51 ?_
      refine lv_goto (tgt := 56) hx hb dX1_addBox_52 (by decide) ?_
      exact J56 (v_size - 1) hf _ _ hP hD hS ls (lv_sub hl [0, 1, 2, 3] rfl)
  · rw [if_neg c_1] at hf
    have hQ2 := hQ
    rw [← Option.some.inj hf] at hQ2
    exact cx_vret hQ2 hx hb hr hlocks hK hP hD hS dX1_addBox_9

def fX1_layOut_L28 (v_o1_outer : Nat → Int32) (x2_7 : Int32) (v_size_7 : Int32) (k7 : Int32 → (Nat → Int32) → (Nat → Int32) → (Nat → Int32) → (Nat → Int32) → (Nat → Int32) → Int32 → Option ((Nat → Int32) × (Nat → Int32) × (Nat → Int32) × (Nat → Int32) × (Nat → Int32) × Int32)) : Nat → Int32 → (Nat → Int32) → (Nat → Int32) → (Nat → Int32) → (Nat → Int32) → (Nat → Int32) → Int32 → Option ((Nat → Int32) × (Nat → Int32) × (Nat → Int32) × (Nat → Int32) × (Nat → Int32) × Int32)
  | 0, _, _, _, _, _, _, _ => none
  | n + 1, x4_28, v_rowOf_28, v_columnOf_28, v_before_28, v_above_28, v_rowStart_28, v_size_28 =>
    if (v_o1_outer x2_7.toNatClampNeg) ≤ x4_28 then (k7 (x2_7 + 1) v_rowOf_28 v_columnOf_28 v_before_28 v_above_28 v_rowStart_28 v_size_28) else (bd (fX1_addBox x2_7 x4_28 v_size_7 v_rowOf_28 v_columnOf_28 v_before_28 v_above_28 v_rowStart_28 v_size_28) (fun r_4 => fX1_layOut_L28 v_o1_outer x2_7 v_size_7 k7 n (x4_28 + 1) r_4.1 r_4.2.1 r_4.2.2.1 r_4.2.2.2.1 r_4.2.2.2.2.1 r_4.2.2.2.2.2))
def fX1_layOut_L7 (v_o1_rows : Int32) (v_o1_outer : Nat → Int32) (v_o1_inner : Nat → Int32) : Nat → Int32 → (Nat → Int32) → (Nat → Int32) → (Nat → Int32) → (Nat → Int32) → (Nat → Int32) → Int32 → Option ((Nat → Int32) × (Nat → Int32) × (Nat → Int32) × (Nat → Int32) × (Nat → Int32) × Int32)
  | 0, _, _, _, _, _, _, _ => none
  | n + 1, x2_7, v_rowOf_7, v_columnOf_7, v_before_7, v_above_7, v_rowStart_7, v_size_7 =>
    if v_o1_rows ≤ x2_7 then (some (v_rowOf_7, v_columnOf_7, v_before_7, v_above_7, v_rowStart_7, v_size_7)) else (gd (inb x2_7 4) (fX1_layOut_L28 v_o1_outer x2_7 v_size_7 (fX1_layOut_L7 v_o1_rows v_o1_outer v_o1_inner n) fu (v_o1_inner x2_7.toNatClampNeg) v_rowOf_7 v_columnOf_7 v_before_7 v_above_7 v_rowStart_7 v_size_7))
def fX1_layOut (v_rowOf : Nat → Int32) (v_columnOf : Nat → Int32) (v_before : Nat → Int32) (v_above : Nat → Int32) (v_rowStart : Nat → Int32) (v_o1_rows : Int32) (v_o1_outer : Nat → Int32) (v_o1_inner : Nat → Int32) : Option ((Nat → Int32) × (Nat → Int32) × (Nat → Int32) × (Nat → Int32) × (Nat → Int32) × Int32) :=
  fX1_layOut_L7 v_o1_rows v_o1_outer v_o1_inner fu 0 v_rowOf v_columnOf v_before v_above v_rowStart 0
def rmX1_layOut : Room := { frames := 2, cells := 0, slots := 0, locals := 46 }
set_option maxRecDepth 100000 in
set_option maxHeartbeats 4000000 in
theorem ctX1_layOut (l : Launch) (z : Nat × Nat × Nat) (dC : Nat → ClassId) (dI : Nat → Nat → Nat) (cI cB cE : ClassId) (a b : Nat → Nat) (v_rowOf : Nat → Int32) (v_columnOf : Nat → Int32) (v_before : Nat → Int32) (v_above : Nat → Int32) (v_rowStart : Nat → Int32) (v_size : Int32) (v_o1_kind : Int32) (v_o1_rows : Int32) (v_o1_outer : Nat → Int32) (v_o1_inner : Nat → Int32) (v_o1_content : Nat → Int32) (fin : (Nat → Int32) × (Nat → Int32) × (Nat → Int32) × (Nat → Int32) × (Nat → Int32) × Int32) (hf : fX1_layOut v_rowOf v_columnOf v_before v_above v_rowStart v_o1_rows v_o1_outer v_o1_inner = some fin) : Ct l z (dC, dI) (tyL cI cB cE) yX1_layOut wsX1_layOut rmX1_layOut [.ref (a 0), .ref (b 0)] (wX1 cI cB cE a v_rowOf v_columnOf v_before v_above v_rowStart v_size ++ wX4 cI cB cE b v_o1_kind v_o1_rows v_o1_outer v_o1_inner v_o1_content) none (wX1 cI cB cE a fin.1 fin.2.1 fin.2.2.1 fin.2.2.2.1 fin.2.2.2.2.1 fin.2.2.2.2.2 ++ wX4 cI cB cE b v_o1_kind v_o1_rows v_o1_outer v_o1_inner v_o1_content) := by
  refine Met.ofC (cc := cX1_layOut) (maxL := 5) (ret := none) (by decide) rfl (Nat.le_of_ble_eq_true rfl) ?_
  intro p e s m args below meth c A Q ls hx hb hr hml hts hown hlocks hA hK hP hD hZ hS hQ hl
  have hown : s.vm.findClass RX1 = some m.cls := hown
  have hl : lv_has ls 5 [(0, .ref (a 0)), (1, .ref (b 0))] := hl
  unfold fX1_layOut at hf
  refine lv_aload_n hx hb dX1_layOut_0 rfl (lv_at hl 0 rfl) ?_
  refine lv_iconst (v := 0) hx hb dX1_layOut_1 (by decide) ?_
  refine va_put (D := (dC, dI)) (ci := 1) (v := .int 0) (ty := .int) (C := RX1) (T := TX1) (N := 6) hx hb hts (fun _ h => List.mem_cons_of_mem _ (List.mem_append_left _ (List.mem_append_right _ h))) tyX1 tyX1_ok nmX1 hown hK hP hD hS 0 rfl rfl 5 (by decide) (hts (.fieldLink RX1 27 "SkewBoard$Grid" "size" "I") (List.mem_of_getElem? (i := 1) rfl)) (fun _ h9 => h9) rfl (by decide +kernel) rfl rfl (Nat.le_of_ble_eq_true rfl) dX1_layOut_2 (fun H locs hP hD hS => ?_)
  have hP : va_P (dC, dI) vwCl (wX1 cI cB cE a v_rowOf v_columnOf v_before v_above v_rowStart 0 ++ wX4 cI cB cE b v_o1_kind v_o1_rows v_o1_outer v_o1_inner v_o1_content) H := hP
  have hD : va_D A (wX1 cI cB cE a v_rowOf v_columnOf v_before v_above v_rowStart 0 ++ wX4 cI cB cE b v_o1_kind v_o1_rows v_o1_outer v_o1_inner v_o1_content) := hD
  refine lv_iconst (v := 0) hx hb dX1_layOut_5 (by decide) ?_
  refine lv_istore_n (lv' := [(2, .int 0), (0, .ref (a 0)), (1, .ref (b 0))]) hx hb dX1_layOut_6 rfl hl (by decide) rfl (fun ls hl => ?_)
  have L7 : ∀ (n7 : Nat) (x2_7 : Int32) (v_rowOf_7 : Nat → Int32) (v_columnOf_7 : Nat → Int32) (v_before_7 : Nat → Int32) (v_above_7 : Nat → Int32) (v_rowStart_7 : Nat → Int32) (v_size_7 : Int32), fX1_layOut_L7 v_o1_rows v_o1_outer v_o1_inner n7 x2_7 v_rowOf_7 v_columnOf_7 v_before_7 v_above_7 v_rowStart_7 v_size_7 = some fin → ∀ (H : Heap) (locs : List Loc), va_P (dC, dI) vwCl (wX1 cI cB cE a v_rowOf_7 v_columnOf_7 v_before_7 v_above_7 v_rowStart_7 v_size_7 ++ wX4 cI cB cE b v_o1_kind v_o1_rows v_o1_outer v_o1_inner v_o1_content) H → va_D A (wX1 cI cB cE a v_rowOf_7 v_columnOf_7 v_before_7 v_above_7 v_rowStart_7 v_size_7 ++ wX4 cI cB cE b v_o1_kind v_o1_rows v_o1_outer v_o1_inner v_o1_content) → va_S A s.heap H locs → ∀ (ls : Array Slot), lv_has ls 5 [(0, .ref (a 0)), (1, .ref (b 0)), (2, .int x2_7)] → W p l e rmX1_layOut s m args below meth c H locs 0 0 Q (F0 m 7 ls []) := by
    intro n7
    induction n7 with
    | zero =>
      intro x2_7 v_rowOf_7 v_columnOf_7 v_before_7 v_above_7 v_rowStart_7 v_size_7 hf
      rw [fX1_layOut_L7] at hf
      cases hf
    | succ n7 ih7 =>
      intro x2_7 v_rowOf_7 v_columnOf_7 v_before_7 v_above_7 v_rowStart_7 v_size_7 hf H locs hP hD hS ls hl
      rw [fX1_layOut_L7] at hf
      refine lv_iload_n hx hb dX1_layOut_7 rfl (lv_at hl 2 rfl) ?_
      refine lv_aload_n hx hb dX1_layOut_8 rfl (lv_at hl 1 rfl) ?_
      refine va_get (D := (dC, dI)) (ci := 4) (C := RX4) (T := TX4) (N := 5) hx hb hts (fun _ h => List.mem_cons_of_mem _ (List.mem_append_right _ h)) hown hK hP 6 rfl rfl 1 (by decide) (hts (.fieldLink RX1 31 "SkewBoard$Plan" "rows" "I") (List.mem_of_getElem? (i := 2) rfl)) (fun _ h9 => h9) rfl dX1_layOut_9 ?_
      refine lv_icmp_ge (tgt := 59) hx hb dX1_layOut_12 (by decide) (fun c_1 => ?_) (fun c_1 => ?_)
      · rw [if_pos c_1] at hf
        have hQ2 := hQ
        rw [← Option.some.inj hf] at hQ2
        exact cx_vret hQ2 hx hb hr hlocks hK hP hD hS dX1_layOut_59
      · rw [if_neg c_1] at hf
        refine lv_aload_n hx hb dX1_layOut_15 rfl (lv_at hl 0 rfl) ?_
        refine va_get (D := (dC, dI)) (ci := 1) (C := RX1) (T := TX1) (N := 6) hx hb hts (fun _ h => List.mem_cons_of_mem _ (List.mem_append_left _ (List.mem_append_right _ h))) hown hK hP 0 rfl rfl 5 (by decide) (hts (.fieldLink RX1 27 "SkewBoard$Grid" "size" "I") (List.mem_of_getElem? (i := 1) rfl)) (fun _ h9 => h9) rfl dX1_layOut_16 ?_
        refine lv_istore_n (lv' := [(3, .int v_size_7), (0, .ref (a 0)), (1, .ref (b 0)), (2, .int x2_7)]) hx hb dX1_layOut_19 rfl hl (by decide) rfl (fun ls hl => ?_)
        refine lv_aload_n hx hb dX1_layOut_20 rfl (lv_at hl 2 rfl) ?_
        refine va_get (D := (dC, dI)) (ci := 4) (C := RX4) (T := TX4) (N := 5) hx hb hts (fun _ h => List.mem_cons_of_mem _ (List.mem_append_right _ h)) hown hK hP 6 rfl rfl 3 (by decide) (hts (.fieldLink RX1 36 "SkewBoard$Plan" "inner" "[I") (List.mem_of_getElem? (i := 3) rfl)) (fun _ h9 => h9) rfl dX1_layOut_21 ?_
        refine lv_iload_n hx hb dX1_layOut_24 rfl (lv_at hl 3 rfl) ?_
        obtain ⟨g_2, hf⟩ := gd_some hf
        refine va_iald hx hb hK hP 8 0 rfl rfl (inb_vp g_2) dX1_layOut_25 ?_
        refine lv_istore (lv' := [(4, .int (v_o1_inner x2_7.toNatClampNeg)), (3, .int v_size_7), (0, .ref (a 0)), (1, .ref (b 0)), (2, .int x2_7)]) hx hb dX1_layOut_26 hl (by decide) rfl (fun ls hl => ?_)
        have L28 : ∀ (n28 : Nat) (x4_28 : Int32) (v_rowOf_28 : Nat → Int32) (v_columnOf_28 : Nat → Int32) (v_before_28 : Nat → Int32) (v_above_28 : Nat → Int32) (v_rowStart_28 : Nat → Int32) (v_size_28 : Int32), fX1_layOut_L28 v_o1_outer x2_7 v_size_7 (fX1_layOut_L7 v_o1_rows v_o1_outer v_o1_inner n7) n28 x4_28 v_rowOf_28 v_columnOf_28 v_before_28 v_above_28 v_rowStart_28 v_size_28 = some fin → ∀ (H : Heap) (locs : List Loc), va_P (dC, dI) vwCl (wX1 cI cB cE a v_rowOf_28 v_columnOf_28 v_before_28 v_above_28 v_rowStart_28 v_size_28 ++ wX4 cI cB cE b v_o1_kind v_o1_rows v_o1_outer v_o1_inner v_o1_content) H → va_D A (wX1 cI cB cE a v_rowOf_28 v_columnOf_28 v_before_28 v_above_28 v_rowStart_28 v_size_28 ++ wX4 cI cB cE b v_o1_kind v_o1_rows v_o1_outer v_o1_inner v_o1_content) → va_S A s.heap H locs → ∀ (ls : Array Slot), lv_has ls 5 [(0, .ref (a 0)), (1, .ref (b 0)), (2, .int x2_7), (3, .int v_size_7), (4, .int x4_28)] → W p l e rmX1_layOut s m args below meth c H locs 0 0 Q (F0 m 28 ls []) := by
          intro n28
          induction n28 with
          | zero =>
            intro x4_28 v_rowOf_28 v_columnOf_28 v_before_28 v_above_28 v_rowStart_28 v_size_28 hf
            rw [fX1_layOut_L28] at hf
            cases hf
          | succ n28 ih28 =>
            intro x4_28 v_rowOf_28 v_columnOf_28 v_before_28 v_above_28 v_rowStart_28 v_size_28 hf H locs hP hD hS ls hl
            rw [fX1_layOut_L28] at hf
            refine lv_iload hx hb dX1_layOut_28 (lv_at hl 4 rfl) ?_
            refine lv_aload_n hx hb dX1_layOut_30 rfl (lv_at hl 1 rfl) ?_
            refine va_get (D := (dC, dI)) (ci := 4) (C := RX4) (T := TX4) (N := 5) hx hb hts (fun _ h => List.mem_cons_of_mem _ (List.mem_append_right _ h)) hown hK hP 6 rfl rfl 2 (by decide) (hts (.fieldLink RX1 39 "SkewBoard$Plan" "outer" "[I") (List.mem_of_getElem? (i := 4) rfl)) (fun _ h9 => h9) rfl dX1_layOut_31 ?_
            refine lv_iload_n hx hb dX1_layOut_34 rfl (lv_at hl 2 rfl) ?_
            refine va_iald hx hb hK hP 7 0 rfl rfl (inb_vp g_2) dX1_layOut_35 ?_
            refine lv_icmp_ge (tgt := 53) hx hb dX1_layOut_36 (by decide) (fun c_3 => ?_) (fun c_3 => ?_)
            · rw [if_pos c_3] at hf
              refine lv_iinc (v := (x2_7 + 1)) (lv' := [(2, .int (x2_7 + 1)), (0, .ref (a 0)), (1, .ref (b 0)), (3, .int v_size_7), (4, .int x4_28)]) hx hb dX1_layOut_53 hl (k := 2) rfl rfl (by decide) rfl (fun ls hl => ?_)
              refine lv_goto (tgt := 7) hx hb dX1_layOut_56 (by decide) ?_
              exact ih7 (x2_7 + 1) v_rowOf_28 v_columnOf_28 v_before_28 v_above_28 v_rowStart_28 v_size_28 hf _ _ hP hD hS ls (lv_sub hl [1, 2, 0] rfl)
            · rw [if_neg c_3] at hf
              refine lv_aload_n hx hb dX1_layOut_39 rfl (lv_at hl 0 rfl) ?_
              refine lv_iload_n hx hb dX1_layOut_40 rfl (lv_at hl 2 rfl) ?_
              refine lv_iload hx hb dX1_layOut_41 (lv_at hl 4 rfl) ?_
              refine lv_iload_n hx hb dX1_layOut_43 rfl (lv_at hl 3 rfl) ?_
              obtain ⟨r_4, hr_4, hf⟩ := bd_some hf
              refine cx_run (ws' := (wX1 cI cB cE a r_4.1 r_4.2.1 r_4.2.2.1 r_4.2.2.2.1 r_4.2.2.2.2.1 r_4.2.2.2.2.2 ++ wX4 cI cB cE b v_o1_kind v_o1_rows v_o1_outer v_o1_inner v_o1_content)) (wr := [((b 0), .inr (4, [.int v_o1_kind, .int v_o1_rows, .ref (b 1), .ref (b 2), .ref (b 3)])), ((b 1), .inl (cI, 4, .inl v_o1_outer)), ((b 2), .inl (cI, 4, .inl v_o1_inner)), ((b 3), .inl (cI, 4, .inl v_o1_content))]) (cx_V (As := [.int x2_7, .int x4_28, .int v_size_7]) (rest := []) ⟨hx, hb, hml, hown, hts⟩ (ctX1_addBox l z dC dI cI cB cE a v_rowOf_28 v_columnOf_28 v_before_28 v_above_28 v_rowStart_28 v_size_28 x2_7 x4_28 v_size_7 r_4 hr_4) (cwV 3 hts gX1_layOut_X1_addBox rfl rfl rfl (by decide +kernel) ⟨Nat.le_of_ble_eq_true rfl, Nat.le_of_ble_eq_true rfl⟩) hK (hP.sub [0, 1, 2, 3, 4, 5] rfl) (hD.sub [0, 1, 2, 3, 4, 5] (by decide) rfl) hZ hS hA (ci := 1) (q0 := 0) rfl rfl rfl hl.1 rfl (Nat.le_of_ble_eq_true rfl) dX1_layOut_44) hP hD hS hA [0, 1, 2, 3, 4, 5] [6, 7, 8, 9] rfl rfl (by decide) (by decide) [4, 5, 6, 7, 8, 9, 0, 1, 2, 3] (by decide) rfl [] rfl (fun H locs hP hD hS => ?_)
              refine lv_iinc (v := (x4_28 + 1)) (lv' := [(4, .int (x4_28 + 1)), (0, .ref (a 0)), (1, .ref (b 0)), (2, .int x2_7), (3, .int v_size_7)]) hx hb dX1_layOut_47 hl (k := 4) rfl rfl (by decide) rfl (fun ls hl => ?_)
              refine lv_goto (tgt := 28) hx hb dX1_layOut_50 (by decide) ?_
              exact ih28 (x4_28 + 1) r_4.1 r_4.2.1 r_4.2.2.1 r_4.2.2.2.1 r_4.2.2.2.2.1 r_4.2.2.2.2.2 hf _ _ hP hD hS ls (lv_sub hl [1, 2, 3, 4, 0] rfl)
        exact L28 fu (v_o1_inner x2_7.toNatClampNeg) v_rowOf_7 v_columnOf_7 v_before_7 v_above_7 v_rowStart_7 v_size_7 hf _ _ hP hD hS ls (lv_sub hl [2, 3, 4, 1, 0] rfl)
  exact L7 fu 0 v_rowOf v_columnOf v_before v_above v_rowStart 0 hf _ _ hP hD hS ls (lv_sub hl [1, 2, 0] rfl)

