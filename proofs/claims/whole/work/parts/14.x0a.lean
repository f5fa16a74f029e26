def fX0_codeWith (p1 : Int32) (p2 : Int32) : Option (Int32) :=
  some (((4 * p1) + p2) - 1)
def rmX0_codeWith : Room := { frames := 0, cells := 0, slots := 0, locals := 0 }
set_option maxRecDepth 100000 in
set_option maxHeartbeats 4000000 in
theorem ctX0_codeWith (l : Launch) (z : Nat × Nat × Nat) (dC : Nat → ClassId) (dI : Nat → Nat → Nat) (cI cB cE : ClassId) (p1 : Int32) (p2 : Int32) (fin : Int32) (hf : fX0_codeWith p1 p2 = some fin) : Ct l z (dC, dI) (tyL cI cB cE) yX0_codeWith wsX0_codeWith rmX0_codeWith [.int p1, .int p2] [] (some (.int fin)) [] := by
  refine Met.ofC (cc := cX0_codeWith) (maxL := 2) (ret := (some .int)) (by decide) rfl (Nat.le_of_ble_eq_true rfl) ?_
  intro p e s m args below meth c A Q ls hx hb hr hml hts hown hlocks hA hK hP hD hZ hS hQ hl
  have hown : s.vm.findClass RX0 = some m.cls := hown
  have hl : lv_has ls 2 [(0, .int p1), (1, .int p2)] := hl
  unfold fX0_codeWith at hf
  refine lv_iconst (v := 4) hx hb dX0_codeWith_0 (by decide) ?_
  refine lv_iload_n hx hb dX0_codeWith_1 rfl (lv_at hl 0 rfl) ?_
  refine lv_imul hx hb dX0_codeWith_2 ?_
  refine lv_iload_n hx hb dX0_codeWith_3 rfl (lv_at hl 1 rfl) ?_
  refine lv_iadd hx hb dX0_codeWith_4 ?_
  refine lv_iconst (v := 1) hx hb dX0_codeWith_5 (by decide) ?_
  refine lv_isub hx hb dX0_codeWith_6 ?_
  have hQ2 := hQ
  rw [← Option.some.inj hf] at hQ2
  exact cx_iret hQ2 hx hb hr hlocks hK hP hD hS dX0_codeWith_7

def fX0_keep_J30 (v_size_30 : Int32) (v_codes_30 : Nat → Int32) : Option (Int32 × (Nat → Int32)) :=
    some (v_size_30, v_codes_30)
def fX0_keep (p1 : Int32) (v_size : Int32) (v_codes : Nat → Int32) : Option (Int32 × (Nat → Int32)) :=
  if 400 ≤ v_size then (fX0_keep_J30 v_size v_codes) else (gd (inb v_size 400) (fX0_keep_J30 (v_size + 1) (upd v_codes v_size.toNatClampNeg p1)))
def rmX0_keep : Room := { frames := 0, cells := 0, slots := 0, locals := 0 }
set_option maxRecDepth 100000 in
set_option maxHeartbeats 4000000 in
theorem ctX0_keep (l : Launch) (z : Nat × Nat × Nat) (dC : Nat → ClassId) (dI : Nat → Nat → Nat) (cI cB cE : ClassId) (a : Nat → Nat) (v_size : Int32) (v_kind : Int32) (v_codes : Nat → Int32) (v_numbers : Nat → Int32) (v_left : Nat → Int32) (v_g_rowOf : Nat → Int32) (v_g_columnOf : Nat → Int32) (v_g_before : Nat → Int32) (v_g_above : Nat → Int32) (v_g_rowStart : Nat → Int32) (v_g_size : Int32) (p1 : Int32) (fin : Int32 × (Nat → Int32)) (hf : fX0_keep p1 v_size v_codes = some fin) : Ct l z (dC, dI) (tyL cI cB cE) yX0_keep wsX0_keep rmX0_keep [.ref (a 0), .int p1] (wX0 cI cB cE a v_size v_kind v_codes v_numbers v_left v_g_rowOf v_g_columnOf v_g_before v_g_above v_g_rowStart v_g_size) none (wX0 cI cB cE a fin.1 v_kind fin.2 v_numbers v_left v_g_rowOf v_g_columnOf v_g_before v_g_above v_g_rowStart v_g_size) := by
  refine Met.ofC (cc := cX0_keep) (maxL := 2) (ret := none) (by decide) rfl (Nat.le_of_ble_eq_true rfl) ?_
  intro p e s m args below meth c A Q ls hx hb hr hml hts hown hlocks hA hK hP hD hZ hS hQ hl
  have hown : s.vm.findClass RX0 = some m.cls := hown
  have hl : lv_has ls 2 [(0, .ref (a 0)), (1, .int p1)] := hl
  unfold fX0_keep at hf
  refine lv_aload_n hx hb dX0_keep_0 rfl (lv_at hl 0 rfl) ?_
  refine va_get (D := (dC, dI)) (ci := 0) (C := RX0) (T := TX0) (N := 6) hx hb hts (fun _ h => List.mem_cons_of_mem _ (List.mem_append_right _ h)) hown hK hP 0 rfl rfl 1 (by decide) (hts (.fieldLink RX0 28 "SkewBoard$Fillings" "size" "I") (List.mem_of_getElem? (i := 1) rfl)) (fun _ h9 => h9) rfl dX0_keep_1 ?_
  refine lv_sipush (v := 400) hx hb dX0_keep_4 (by decide) ?_
  have J30 : ∀ (v_size_30 : Int32) (v_codes_30 : Nat → Int32), fX0_keep_J30  v_size_30 v_codes_30 = some fin → ∀ (H : Heap) (locs : List Loc), va_P (dC, dI) vwCl (wX0 cI cB cE a v_size_30 v_kind v_codes_30 v_numbers v_left v_g_rowOf v_g_columnOf v_g_before v_g_above v_g_rowStart v_g_size) H → va_D A (wX0 cI cB cE a v_size_30 v_kind v_codes_30 v_numbers v_left v_g_rowOf v_g_columnOf v_g_before v_g_above v_g_rowStart v_g_size) → va_S A s.heap H locs → ∀ (ls : Array Slot), lv_has ls 2 [] → W p l e rmX0_keep s m args below meth c H locs 0 0 Q (F0 m 30 ls []) := by
    intro v_size_30 v_codes_30 hf H locs hP hD hS ls hl
    unfold fX0_keep_J30 at hf
    have hQ2 := hQ
    rw [← Option.some.inj hf] at hQ2
    exact cx_vret hQ2 hx hb hr hlocks hK hP hD hS dX0_keep_30
  refine lv_icmp_ge (tgt := 30) hx hb dX0_keep_7 (by decide) (fun c_1 => ?_) (fun c_1 => ?_)
  · rw [if_pos c_1] at hf
    exact J30 v_size v_codes hf _ _ hP hD hS ls (lv_sub hl [] rfl)
  · rw [if_neg c_1] at hf
    refine lv_aload_n hx hb dX0_keep_10 rfl (lv_at hl 0 rfl) ?_
    refine va_get (D := (dC, dI)) (ci := 0) (C := RX0) (T := TX0) (N := 6) hx hb hts (fun _ h => List.mem_cons_of_mem _ (List.mem_append_right _ h)) hown hK hP 0 rfl rfl 3 (by decide) (hts (.fieldLink RX0 18 "SkewBoard$Fillings" "codes" "[I") (List.mem_of_getElem? (i := 2) rfl)) (fun _ h9 => h9) rfl dX0_keep_11 ?_
    refine lv_aload_n hx hb dX0_keep_14 rfl (lv_at hl 0 rfl) ?_
    refine va_get (D := (dC, dI)) (ci := 0) (C := RX0) (T := TX0) (N := 6) hx hb hts (fun _ h => List.mem_cons_of_mem _ (List.mem_append_right _ h)) hown hK hP 0 rfl rfl 1 (by decide) (hts (.fieldLink RX0 28 "SkewBoard$Fillings" "size" "I") (List.mem_of_getElem? (i := 1) rfl)) (fun _ h9 => h9) rfl dX0_keep_15 ?_
    refine lv_iload_n hx hb dX0_keep_18 rfl (lv_at hl 1 rfl) ?_
    obtain ⟨g_2, hf⟩ := gd_some hf
    refine va_iast hx hb hK hP hD hS 1 0 rfl rfl (inb_vp g_2) dX0_keep_19 (fun H locs hP hD hS => ?_)
    have hP : va_P (dC, dI) vwCl (wX0 cI cB cE a v_size v_kind (upd v_codes v_size.toNatClampNeg p1) v_numbers v_left v_g_rowOf v_g_columnOf v_g_before v_g_above v_g_rowStart v_g_size) H := hP
    have hD : va_D A (wX0 cI cB cE a v_size v_kind (upd v_codes v_size.toNatClampNeg p1) v_numbers v_left v_g_rowOf v_g_columnOf v_g_before v_g_above v_g_rowStart v_g_size) := hD
    refine lv_aload_n hx hb dX0_keep_20 rfl (lv_at hl 0 rfl) ?_
    refine lv_dup hx hb dX0_keep_21 rfl ?_
    refine va_get (D := (dC, dI)) (ci := 0) (C := RX0) (T := TX0) (N := 6) hx hb hts (fun _ h => List.mem_cons_of_mem _ (List.mem_append_right _ h)) hown hK hP 0 rfl rfl 1 (by decide) (hts (.fieldLink RX0 28 "SkewBoard$Fillings" "size" "I") (List.mem_of_getElem? (i := 1) rfl)) (fun _ h9 => h9) rfl dX0_keep_22 ?_
    refine lv_iconst (v := 1) hx hb dX0_keep_25 (by decide) ?_
    refine lv_iadd hx hb dX0_keep_26 ?_
    refine va_put (D := (dC, dI)) (ci := 0) (v := .int (v_size + 1)) (ty := .int) (C := RX0) (T := TX0) (N := 6) hx hb hts (fun _ h => List.mem_cons_of_mem _ (List.mem_append_right _ h)) tyX0 tyX0_ok nmX0 hown hK hP hD hS 0 rfl rfl 1 (by decide) (hts (.fieldLink RX0 28 "SkewBoard$Fillings" "size" "I") (List.mem_of_getElem? (i := 1) rfl)) (fun _ h9 => h9) rfl (by decide +kernel) rfl rfl (Nat.le_of_ble_eq_true rfl) dX0_keep_27 (fun H locs hP hD hS => ?_)
    have hP : va_P (dC, dI) vwCl (wX0 cI cB cE a (v_size + 1) v_kind (upd v_codes v_size.toNatClampNeg p1) v_numbers v_left v_g_rowOf v_g_columnOf v_g_before v_g_above v_g_rowStart v_g_size) H := hP
    have hD : va_D A (wX0 cI cB cE a (v_size + 1) v_kind (upd v_codes v_size.toNatClampNeg p1) v_numbers v_left v_g_rowOf v_g_columnOf v_g_before v_g_above v_g_rowStart v_g_size) := hD
    exact J30 (v_size + 1) (upd v_codes v_size.toNatClampNeg p1) hf _ _ hP hD hS ls (lv_sub hl [] rfl)

def fX0_mayStandBeside_J38 (y0_38 : Int32) : Option (Int32) :=
    gd (isb y0_38) (some y0_38)
def fX0_mayStandBeside_J49 (y0_49 : Int32) : Option (Int32) :=
    gd (isb y0_49) (some y0_49)
def fX0_mayStandBeside_J60 (y0_60 : Int32) : Option (Int32) :=
    gd (isb y0_60) (some y0_60)
def fX0_mayStandBeside (p1 : Int32) (p2 : Int32) (p3 : Int32) : Option (Int32) :=
  if p1 = 3 then (fX0_mayStandBeside_J38 (if p3 ≤ p2 then 0 else 1)) else if p1 = 4 then (fX0_mayStandBeside_J49 (if p2 < p3 then 0 else 1)) else (fX0_mayStandBeside_J60 (if p3 < p2 then 0 else 1))
def rmX0_mayStandBeside : Room := { frames := 0, cells := 0, slots := 0, locals := 0 }
set_option maxRecDepth 100000 in
set_option maxHeartbeats 4000000 in
theorem ctX0_mayStandBeside (l : Launch) (z : Nat × Nat × Nat) (dC : Nat → ClassId) (dI : Nat → Nat → Nat) (cI cB cE : ClassId) (p1 : Int32) (p2 : Int32) (p3 : Int32) (fin : Int32) (hf : fX0_mayStandBeside p1 p2 p3 = some fin) : Ct l z (dC, dI) (tyL cI cB cE) yX0_mayStandBeside wsX0_mayStandBeside rmX0_mayStandBeside [.int p1, .int p2, .int p3] [] (some (.int fin)) [] := by
  refine Met.ofC (cc := cX0_mayStandBeside) (maxL := 3) (ret := (some .boolean)) (by decide) rfl (Nat.le_of_ble_eq_true rfl) ?_
  intro p e s m args below meth c A Q ls hx hb hr hml hts hown hlocks hA hK hP hD hZ hS hQ hl
  have hown : s.vm.findClass RX0 = some m.cls := hown
  have hl : lv_has ls 3 [(0, .int p1), (1, .int p2), (2, .int p3)] := hl
  unfold fX0_mayStandBeside at hf
  refine lv_iload_n hx hb dX0_mayStandBeside_0 rfl (lv_at hl 0 rfl) ?_
  by_cases c_1 : p1 = 3
  · rw [if_pos c_1] at hf
    refine lv_lookup (off := 27) (tgt := 28) hx hb dX0_mayStandBeside_1 (by decide) (by rw [c_1]; rfl) (by decide) ?_
    refine lv_iload_n hx hb dX0_mayStandBeside_28 rfl (lv_at hl 1 rfl) ?_
    refine lv_iload_n hx hb dX0_mayStandBeside_29 rfl (lv_at hl 2 rfl) ?_
    have J38 : ∀ (y0_38 : Int32), fX0_mayStandBeside_J38  y0_38 = some fin → ∀ (H : Heap) (locs : List Loc), va_P (dC, dI) vwCl [] H → va_D A [] → va_S A s.heap H locs → ∀ (ls : Array Slot), lv_has ls 3 [] → W p l e rmX0_mayStandBeside s m args below meth c H locs 0 0 Q (F0 m 38 ls [.int y0_38]) := by
      intro y0_38 hf H locs hP hD hS ls hl
      unfold fX0_mayStandBeside_J38 at hf
      obtain ⟨g_2, hf⟩ := gd_some hf
      have hQ2 := hQ
      rw [← Option.some.inj hf] at hQ2
      exact cx_zret (isb_nar g_2) hQ2 hx hb hr hlocks hK hP hD hS dX0_mayStandBeside_38
    refine lv_icmp_ge (tgt := 37) hx hb dX0_mayStandBeside_30 (by decide) (fun c_3 => ?_) (fun c_3 => ?_)
    · rw [if_pos c_3] at hf
      refine lv_iconst (v := 0) hx hb dX0_mayStandBeside_37 (by decide) ?_
      exact J38 0 hf _ _ hP hD hS ls (lv_sub hl [] rfl)
    · rw [if_neg c_3] at hf
      refine lv_iconst (v := 1) hx hb dX0_mayStandBeside_33 (by decide) ?_
      refine lv_goto (tgt := 38) hx hb dX0_mayStandBeside_34 (by decide) ?_
      exact J38 1 hf _ _ hP hD hS ls (lv_sub hl [] rfl)
  · rw [if_neg c_1] at hf
    by_cases c_4 : p1 = 4
    · rw [if_pos c_4] at hf
      refine lv_lookup (off := 38) (tgt := 39) hx hb dX0_mayStandBeside_1 (by decide) (by rw [c_4]; rfl) (by decide) ?_
      refine lv_iload_n hx hb dX0_mayStandBeside_39 rfl (lv_at hl 1 rfl) ?_
      refine lv_iload_n hx hb dX0_mayStandBeside_40 rfl (lv_at hl 2 rfl) ?_
      have J49 : ∀ (y0_49 : Int32), fX0_mayStandBeside_J49  y0_49 = some fin → ∀ (H : Heap) (locs : List Loc), va_P (dC, dI) vwCl [] H → va_D A [] → va_S A s.heap H locs → ∀ (ls : Array Slot), lv_has ls 3 [] → W p l e rmX0_mayStandBeside s m args below meth c H locs 0 0 Q (F0 m 49 ls [.int y0_49]) := by
        intro y0_49 hf H locs hP hD hS ls hl
        unfold fX0_mayStandBeside_J49 at hf
        obtain ⟨g_5, hf⟩ := gd_some hf
        have hQ2 := hQ
        rw [← Option.some.inj hf] at hQ2
        exact cx_zret (isb_nar g_5) hQ2 hx hb hr hlocks hK hP hD hS dX0_mayStandBeside_49
      refine lv_icmp_lt (tgt := 48) hx hb dX0_mayStandBeside_41 (by decide) (fun c_6 => ?_) (fun c_6 => ?_)
      · rw [if_pos c_6] at hf
        refine lv_iconst (v := 0) hx hb dX0_mayStandBeside_48 (by decide) ?_
        exact J49 0 hf _ _ hP hD hS ls (lv_sub hl [] rfl)
      · rw [if_neg c_6] at hf
        refine lv_iconst (v := 1) hx hb dX0_mayStandBeside_44 (by decide) ?_
        refine lv_goto (tgt := 49) hx hb dX0_mayStandBeside_45 (by decide) ?_
        exact J49 1 hf _ _ hP hD hS ls (lv_sub hl [] rfl)
    · rw [if_neg c_4] at hf
      have tc_1 : ¬ (p1).toInt = 3 := fun h => c_1 (Int32.toInt_inj.mp h)
      have tc_4 : ¬ (p1).toInt = 4 := fun h => c_4 (Int32.toInt_inj.mp h)
      refine lv_lookup (off := 49) (tgt := 50) hx hb dX0_mayStandBeside_1 (by decide) (by simp only [Op.lookupswitch.offset_cons, Op.lookupswitch.offset_nil, if_neg (Ne.symm tc_1), if_neg (Ne.symm tc_4)]) (by decide) ?_
      refine lv_iload_n hx hb dX0_mayStandBeside_50 rfl (lv_at hl 1 rfl) ?_
      refine lv_iload_n hx hb dX0_mayStandBeside_51 rfl (lv_at hl 2 rfl) ?_
      have J60 : ∀ (y0_60 : Int32), fX0_mayStandBeside_J60  y0_60 = some fin → ∀ (H : Heap) (locs : List Loc), va_P (dC, dI) vwCl [] H → va_D A [] → va_S A s.heap H locs → ∀ (ls : Array Slot), lv_has ls 3 [] → W p l e rmX0_mayStandBeside s m args below meth c H locs 0 0 Q (F0 m 60 ls [.int y0_60]) := by
        intro y0_60 hf H locs hP hD hS ls hl
        unfold fX0_mayStandBeside_J60 at hf
        obtain ⟨g_7, hf⟩ := gd_some hf
        have hQ2 := hQ
        rw [← Option.some.inj hf] at hQ2
        exact cx_zret (isb_nar g_7) hQ2 hx hb hr hlocks hK hP hD hS dX0_mayStandBeside_60
      refine lv_icmp_gt (tgt := 59) hx hb dX0_mayStandBeside_52 (by decide) (fun c_8 => ?_) (fun c_8 => ?_)
      · rw [if_pos c_8] at hf
        refine lv_iconst (v := 0) hx hb dX0_mayStandBeside_59 (by decide) ?_
        exact J60 0 hf _ _ hP hD hS ls (lv_sub hl [] rfl)
      · rw [if_neg c_8] at hf
        refine lv_iconst (v := 1) hx hb dX0_mayStandBeside_55 (by decide) ?_
        refine lv_goto (tgt := 60) hx hb dX0_mayStandBeside_56 (by decide) ?_
        exact J60 1 hf _ _ hP hD hS ls (lv_sub hl [] rfl)

def fX0_mayStandBelow_J70 (y0_70 : Int32) : Option (Int32) :=
    gd (isb y0_70) (some y0_70)
def fX0_mayStandBelow_J60 (p2 : Int32) (p3 : Int32) (u_60 : Unit) : Option (Int32) :=
    fX0_mayStandBelow_J70 (if p3 ≤ p2 then 0 else 1)
def fX0_mayStandBelow_J48 (y0_48 : Int32) : Option (Int32) :=
    gd (isb y0_48) (some y0_48)
def fX0_mayStandBelow_J59 (y0_59 : Int32) : Option (Int32) :=
    gd (isb y0_59) (some y0_59)
def fX0_mayStandBelow (p1 : Int32) (p2 : Int32) (p3 : Int32) : Option (Int32) :=
  if p1 = 0 then (some 1) else if p1 = 1 then (fX0_mayStandBelow_J60 p2 p3 ()) else if p1 = 2 then (fX0_mayStandBelow_J60 p2 p3 ()) else if p1 = 3 then (fX0_mayStandBelow_J48 (if p3 < p2 then 0 else 1)) else if p1 = 4 then (fX0_mayStandBelow_J59 (if p2 ≤ p3 then 0 else 1)) else (fX0_mayStandBelow_J60 p2 p3 ())
def rmX0_mayStandBelow : Room := { frames := 0, cells := 0, slots := 0, locals := 0 }
set_option maxRecDepth 100000 in
set_option maxHeartbeats 4000000 in
theorem ctX0_mayStandBelow (l : Launch) (z : Nat × Nat × Nat) (dC : Nat → ClassId) (dI : Nat → Nat → Nat) (cI cB cE : ClassId) (p1 : Int32) (p2 : Int32) (p3 : Int32) (fin : Int32) (hf : fX0_mayStandBelow p1 p2 p3 = some fin) : Ct l z (dC, dI) (tyL cI cB cE) yX0_mayStandBelow wsX0_mayStandBelow rmX0_mayStandBelow [.int p1, .int p2, .int p3] [] (some (.int fin)) [] := by
  refine Met.ofC (cc := cX0_mayStandBelow) (maxL := 3) (ret := (some .boolean)) (by decide) rfl (Nat.le_of_ble_eq_true rfl) ?_
  intro p e s m args below meth c A Q ls hx hb hr hml hts hown hlocks hA hK hP hD hZ hS hQ hl
  have hown : s.vm.findClass RX0 = some m.cls := hown
  have hl : lv_has ls 3 [(0, .int p1), (1, .int p2), (2, .int p3)] := hl
  unfold fX0_mayStandBelow at hf
  refine lv_iload_n hx hb dX0_mayStandBelow_0 rfl (lv_at hl 0 rfl) ?_
  have J60 : ∀ (u_60 : Unit), fX0_mayStandBelow_J60 p2 p3 u_60 = some fin → ∀ (H : Heap) (locs : List Loc), va_P (dC, dI) vwCl [] H → va_D A [] → va_S A s.heap H locs → ∀ (ls : Array Slot), lv_has ls 3 [(1, .int p2), (2, .int p3)] → W p l e rmX0_mayStandBelow s m args below meth c H locs 0 0 Q (F0 m 60 ls []) := by
    intro u_60 hf H locs hP hD hS ls hl
    unfold fX0_mayStandBelow_J60 at hf
    refine lv_iload_n hx hb dX0_mayStandBelow_60 rfl (lv_at hl 0 rfl) ?_
    refine lv_iload_n hx hb dX0_mayStandBelow_61 rfl (lv_at hl 1 rfl) ?_
    have J70 : ∀ (y0_70 : Int32), fX0_mayStandBelow_J70  y0_70 = some fin → ∀ (H : Heap) (locs : List Loc), va_P (dC, dI) vwCl [] H → va_D A [] → va_S A s.heap H locs → ∀ (ls : Array Slot), lv_has ls 3 [] → W p l e rmX0_mayStandBelow s m args below meth c H locs 0 0 Q (F0 m 70 ls [.int y0_70]) := by
      intro y0_70 hf H locs hP hD hS ls hl
      unfold fX0_mayStandBelow_J70 at hf
      obtain ⟨g_1, hf⟩ := gd_some hf
      have hQ2 := hQ
      rw [← Option.some.inj hf] at hQ2
      exact cx_zret (isb_nar g_1) hQ2 hx hb hr hlocks hK hP hD hS dX0_mayStandBelow_70
    refine lv_icmp_ge (tgt := 69) hx hb dX0_mayStandBelow_62 (by decide) (fun c_2 => ?_) (fun c_2 => ?_)
    · rw [if_pos c_2] at hf
      refine lv_iconst (v := 0) hx hb dX0_mayStandBelow_69 (by decide) ?_
      exact J70 0 hf _ _ hP hD hS ls (lv_sub hl [] rfl)
    · rw [if_neg c_2] at hf
      refine lv_iconst (v := 1) hx hb dX0_mayStandBelow_65 (by decide) ?_
      refine lv_goto (tgt := 70) hx hb dX0_mayStandBelow_66 (by decide) ?_
      exact J70 1 hf _ _ hP hD hS ls (lv_sub hl [] rfl)
  by_cases c_3 : p1 = 0
  · rw [if_pos c_3] at hf
    refine lv_tableIn (off := 35) (tgt := 36) hx hb dX0_mayStandBelow_1 (by rw [c_3]; decide) (by rw [c_3]; decide) (by rw [c_3]; rfl) (by decide) ?_
    refine lv_iconst (v := 1) hx hb dX0_mayStandBelow_36 (by decide) ?_
    have hQ2 := hQ
    rw [← Option.some.inj hf] at hQ2
    exact cx_zret rfl hQ2 hx hb hr hlocks hK hP hD hS dX0_mayStandBelow_37
  · rw [if_neg c_3] at hf
    by_cases c_4 : p1 = 1
    · rw [if_pos c_4] at hf
      refine lv_tableIn (off := 59) (tgt := 60) hx hb dX0_mayStandBelow_1 (by rw [c_4]; decide) (by rw [c_4]; decide) (by rw [c_4]; rfl) (by decide) ?_
      exact J60 () hf _ _ hP hD hS ls (lv_sub hl [1, 2] rfl)
    · rw [if_neg c_4] at hf
      by_cases c_5 : p1 = 2
      · rw [if_pos c_5] at hf
        refine lv_tableIn (off := 59) (tgt := 60) hx hb dX0_mayStandBelow_1 (by rw [c_5]; decide) (by rw [c_5]; decide) (by rw [c_5]; rfl) (by decide) ?_
        exact J60 () hf _ _ hP hD hS ls (lv_sub hl [1, 2] rfl)
      · rw [if_neg c_5] at hf
        by_cases c_6 : p1 = 3
        · rw [if_pos c_6] at hf
          refine lv_tableIn (off := 37) (tgt := 38) hx hb dX0_mayStandBelow_1 (by rw [c_6]; decide) (by rw [c_6]; decide) (by rw [c_6]; rfl) (by decide) ?_
          refine lv_iload_n hx hb dX0_mayStandBelow_38 rfl (lv_at hl 1 rfl) ?_
          refine lv_iload_n hx hb dX0_mayStandBelow_39 rfl (lv_at hl 2 rfl) ?_
          have J48 : ∀ (y0_48 : Int32), fX0_mayStandBelow_J48  y0_48 = some fin → ∀ (H : Heap) (locs : List Loc), va_P (dC, dI) vwCl [] H → va_D A [] → va_S A s.heap H locs → ∀ (ls : Array Slot), lv_has ls 3 [] → W p l e rmX0_mayStandBelow s m args below meth c H locs 0 0 Q (F0 m 48 ls [.int y0_48]) := by
            intro y0_48 hf H locs hP hD hS ls hl
            unfold fX0_mayStandBelow_J48 at hf
            obtain ⟨g_7, hf⟩ := gd_some hf
            have hQ2 := hQ
            rw [← Option.some.inj hf] at hQ2
            exact cx_zret (isb_nar g_7) hQ2 hx hb hr hlocks hK hP hD hS dX0_mayStandBelow_48
          refine lv_icmp_gt (tgt := 47) hx hb dX0_mayStandBelow_40 (by decide) (fun c_8 => ?_) (fun c_8 => ?_)
          · rw [if_pos c_8] at hf
            refine lv_iconst (v := 0) hx hb dX0_mayStandBelow_47 (by decide) ?_
            exact J48 0 hf _ _ hP hD hS ls (lv_sub hl [] rfl)
          · rw [if_neg c_8] at hf
            refine lv_iconst (v := 1) hx hb dX0_mayStandBelow_43 (by decide) ?_
            refine lv_goto (tgt := 48) hx hb dX0_mayStandBelow_44 (by decide) ?_
            exact J48 1 hf _ _ hP hD hS ls (lv_sub hl [] rfl)
        · rw [if_neg c_6] at hf
          by_cases c_9 : p1 = 4
          · rw [if_pos c_9] at hf
            refine lv_tableIn (off := 48) (tgt := 49) hx hb dX0_mayStandBelow_1 (by rw [c_9]; decide) (by rw [c_9]; decide) (by rw [c_9]; rfl) (by decide) ?_
            refine lv_iload_n hx hb dX0_mayStandBelow_49 rfl (lv_at hl 1 rfl) ?_
            refine lv_iload_n hx hb dX0_mayStandBelow_50 rfl (lv_at hl 2 rfl) ?_
            have J59 : ∀ (y0_59 : Int32), fX0_mayStandBelow_J59  y0_59 = some fin → ∀ (H : Heap) (locs : List Loc), va_P (dC, dI) vwCl [] H → va_D A [] → va_S A s.heap H locs → ∀ (ls : Array Slot), lv_has ls 3 [] → W p l e rmX0_mayStandBelow s m args below meth c H locs 0 0 Q (F0 m 59 ls [.int y0_59]) := by
              intro y0_59 hf H locs hP hD hS ls hl
              unfold fX0_mayStandBelow_J59 at hf
              obtain ⟨g_10, hf⟩ := gd_some hf
              have hQ2 := hQ
              rw [← Option.some.inj hf] at hQ2
              exact cx_zret (isb_nar g_10) hQ2 hx hb hr hlocks hK hP hD hS dX0_mayStandBelow_59
            refine lv_icmp_le (tgt := 58) hx hb dX0_mayStandBelow_51 (by decide) (fun c_11 => ?_) (fun c_11 => ?_)
            · rw [if_pos c_11] at hf
              refine lv_iconst (v := 0) hx hb dX0_mayStandBelow_58 (by decide) ?_
              exact J59 0 hf _ _ hP hD hS ls (lv_sub hl [] rfl)
            · rw [if_neg c_11] at hf
              refine lv_iconst (v := 1) hx hb dX0_mayStandBelow_54 (by decide) ?_
              refine lv_goto (tgt := 59) hx hb dX0_mayStandBelow_55 (by decide) ?_
              exact J59 1 hf _ _ hP hD hS ls (lv_sub hl [] rfl)
          · rw [if_neg c_9] at hf
            have tc_3 : ¬ (p1).toInt = 0 := fun h => c_3 (Int32.toInt_inj.mp h)
            have tc_4 : ¬ (p1).toInt = 1 := fun h => c_4 (Int32.toInt_inj.mp h)
            have tc_5 : ¬ (p1).toInt = 2 := fun h => c_5 (Int32.toInt_inj.mp h)
            have tc_6 : ¬ (p1).toInt = 3 := fun h => c_6 (Int32.toInt_inj.mp h)
            have tc_9 : ¬ (p1).toInt = 4 := fun h => c_9 (Int32.toInt_inj.mp h)
            refine lv_tableOut (tgt := 60) hx hb dX0_mayStandBelow_1 (by omega) (by decide) ?_
            exact J60 () hf _ _ hP hD hS ls (lv_sub hl [1, 2] rfl)

def fX0_keepsLattice_J90 (y0_90 : Int32) : Option (Int32) :=
    gd (isb y0_90) (some y0_90)
def fX0_keepsLattice_J85 (k90 : Int32 → Option (Int32)) (u_85 : Unit) : Option (Int32) :=
    k90 1
def fX0_keepsLattice_J68 (x5_15 : Int32) (k15 : Int32 → Int32 → Int32 → Option (Int32)) (x3_68 : Int32) (x4_68 : Int32) : Option (Int32) :=
    k15 x3_68 x4_68 (x5_15 + 1)
def fX0_keepsLattice_L15 (v_numbers : Nat → Int32) (v_g_rowStart : Nat → Int32) (p1 : Int32) : Nat → Int32 → Int32 → Int32 → Option (Int32)
  | 0, _, _, _ => none
  | n + 1, x3_15, x4_15, x5_15 =>
    if p1 < x5_15 then (if (v_numbers p1.toNatClampNeg) = 1 then (fX0_keepsLattice_J85 fX0_keepsLattice_J90 ()) else (if x4_15 < x3_15 then (fX0_keepsLattice_J90 0) else (fX0_keepsLattice_J85 fX0_keepsLattice_J90 ()))) else (gd (inb x5_15 9) (fX0_keepsLattice_J68 x5_15 (fX0_keepsLattice_L15 v_numbers v_g_rowStart p1 n) (if (v_numbers x5_15.toNatClampNeg) = (v_numbers p1.toNatClampNeg) then (x3_15 + 1) else x3_15) (if (v_numbers x5_15.toNatClampNeg) = (v_numbers p1.toNatClampNeg) then x4_15 else (if (v_numbers x5_15.toNatClampNeg) = ((v_numbers p1.toNatClampNeg) - 1) then (if (v_g_rowStart p1.toNatClampNeg) ≤ x5_15 then x4_15 else (x4_15 + 1)) else x4_15))))
def fX0_keepsLattice (p1 : Int32) (v_numbers : Nat → Int32) (v_g_rowStart : Nat → Int32) : Option (Int32) :=
  gd (inb p1 9) (fX0_keepsLattice_L15 v_numbers v_g_rowStart p1 fu 0 0 0)
def rmX0_keepsLattice : Room := { frames := 0, cells := 0, slots := 0, locals := 0 }
set_option maxRecDepth 100000 in
set_option maxHeartbeats 4000000 in
theorem ctX0_keepsLattice (l : Launch) (z : Nat × Nat × Nat) (dC : Nat → ClassId) (dI : Nat → Nat → Nat) (cI cB cE : ClassId) (a : Nat → Nat) (v_size : Int32) (v_kind : Int32) (v_codes : Nat → Int32) (v_numbers : Nat → Int32) (v_left : Nat → Int32) (v_g_rowOf : Nat → Int32) (v_g_columnOf : Nat → Int32) (v_g_before : Nat → Int32) (v_g_above : Nat → Int32) (v_g_rowStart : Nat → Int32) (v_g_size : Int32) (p1 : Int32) (fin : Int32) (hf : fX0_keepsLattice p1 v_numbers v_g_rowStart = some fin) : Ct l z (dC, dI) (tyL cI cB cE) yX0_keepsLattice wsX0_keepsLattice rmX0_keepsLattice [.ref (a 0), .int p1] (wX0 cI cB cE a v_size v_kind v_codes v_numbers v_left v_g_rowOf v_g_columnOf v_g_before v_g_above v_g_rowStart v_g_size) (some (.int fin)) (wX0 cI cB cE a v_size v_kind v_codes v_numbers v_left v_g_rowOf v_g_columnOf v_g_before v_g_above v_g_rowStart v_g_size) := by
  refine Met.ofC (cc := cX0_keepsLattice) (maxL := 6) (ret := (some .boolean)) (by decide) rfl (Nat.le_of_ble_eq_true rfl) ?_
  intro p e s m args below meth c A Q ls hx hb hr hml hts hown hlocks hA hK hP hD hZ hS hQ hl
  have hown : s.vm.findClass RX0 = some m.cls := hown
  have hl : lv_has ls 6 [(0, .ref (a 0)), (1, .int p1)] := hl
  unfold fX0_keepsLattice at hf
  refine lv_aload_n hx hb dX0_keepsLattice_0 rfl (lv_at hl 0 rfl) ?_
  refine va_get (D := (dC, dI)) (ci := 0) (C := RX0) (T := TX0) (N := 6) hx hb hts (fun _ h => List.mem_cons_of_mem _ (List.mem_append_left _ (List.mem_append_right _ h))) hown hK hP 0 rfl rfl 4 (by decide) (hts (.fieldLink RX0 22 "SkewBoard$Fillings" "numbers" "[I") (List.mem_of_getElem? (i := 1) rfl)) (fun _ h9 => h9) rfl dX0_keepsLattice_1 ?_
  refine lv_iload_n hx hb dX0_keepsLattice_4 rfl (lv_at hl 1 rfl) ?_
  obtain ⟨g_1, hf⟩ := gd_some hf
  refine va_iald hx hb hK hP 2 0 rfl rfl (inb_vp g_1) dX0_keepsLattice_5 ?_
  refine lv_istore_n (lv' := [(2, .int (v_numbers p1.toNatClampNeg)), (0, .ref (a 0)), (1, .int p1)]) hx hb dX0_keepsLattice_6 rfl hl (by decide) rfl (fun ls hl => ?_)
  refine lv_iconst (v := 0) hx hb dX0_keepsLattice_7 (by decide) ?_
  refine lv_istore_n (lv' := [(3, .int 0), (2, .int (v_numbers p1.toNatClampNeg)), (0, .ref (a 0)), (1, .int p1)]) hx hb dX0_keepsLattice_8 rfl hl (by decide) rfl (fun ls hl => ?_)
  refine lv_iconst (v := 0) hx hb dX0_keepsLattice_9 (by decide) ?_
  refine lv_istore (lv' := [(4, .int 0), (3, .int 0), (2, .int (v_numbers p1.toNatClampNeg)), (0, .ref (a 0)), (1, .int p1)]) hx hb dX0_keepsLattice_10 hl (by decide) rfl (fun ls hl => ?_)
  refine lv_iconst (v := 0) hx hb dX0_keepsLattice_12 (by decide) ?_
  refine lv_istore (lv' := [(5, .int 0), (4, .int 0), (3, .int 0), (2, .int (v_numbers p1.toNatClampNeg)), (0, .ref (a 0)), (1, .int p1)]) hx hb dX0_keepsLattice_13 hl (by decide) rfl (fun ls hl => ?_)
  have L15 : ∀ (n15 : Nat) (x3_15 : Int32) (x4_15 : Int32) (x5_15 : Int32), fX0_keepsLattice_L15 v_numbers v_g_rowStart p1 n15 x3_15 x4_15 x5_15 = some fin → ∀ (H : Heap) (locs : List Loc), va_P (dC, dI) vwCl (wX0 cI cB cE a v_size v_kind v_codes v_numbers v_left v_g_rowOf v_g_columnOf v_g_before v_g_above v_g_rowStart v_g_size) H → va_D A (wX0 cI cB cE a v_size v_kind v_codes v_numbers v_left v_g_rowOf v_g_columnOf v_g_before v_g_above v_g_rowStart v_g_size) → va_S A s.heap H locs → ∀ (ls : Array Slot), lv_has ls 6 [(0, .ref (a 0)), (1, .int p1), (2, .int (v_numbers p1.toNatClampNeg)), (3, .int x3_15), (4, .int x4_15), (5, .int x5_15)] → W p l e rmX0_keepsLattice s m args below meth c H locs 0 0 Q (F0 m 15 ls []) := by
    intro n15
    induction n15 with
    | zero =>
      intro x3_15 x4_15 x5_15 hf
      rw [fX0_keepsLattice_L15] at hf
      cases hf
    | succ n15 ih15 =>
      intro x3_15 x4_15 x5_15 hf H locs hP hD hS ls hl
      rw [fX0_keepsLattice_L15] at hf
      refine lv_iload hx hb dX0_keepsLattice_15 (lv_at hl 5 rfl) ?_
      refine lv_iload_n hx hb dX0_keepsLattice_17 rfl (lv_at hl 1 rfl) ?_
      refine lv_icmp_gt (tgt := 74) hx hb dX0_keepsLattice_18 (by decide) (fun c_2 => ?_) (fun c_2 => ?_)
      · rw [if_pos c_2] at hf
        refine lv_iload_n hx hb dX0_keepsLattice_74 rfl (lv_at hl 2 rfl) ?_
        refine lv_iconst (v := 1) hx hb dX0_keepsLattice_75 (by decide) ?_
        have J90 : ∀ (y0_90 : Int32), fX0_keepsLattice_J90  y0_90 = some fin → ∀ (H : Heap) (locs : List Loc), va_P (dC, dI) vwCl (wX0 cI cB cE a v_size v_kind v_codes v_numbers v_left v_g_rowOf v_g_columnOf v_g_before v_g_above v_g_rowStart v_g_size) H → va_D A (wX0 cI cB cE a v_size v_kind v_codes v_numbers v_left v_g_rowOf v_g_columnOf v_g_before v_g_above v_g_rowStart v_g_size) → va_S A s.heap H locs → ∀ (ls : Array Slot), lv_has ls 6 [] → W p l e rmX0_keepsLattice s m args below meth c H locs 0 0 Q (F0 m 90 ls [.int y0_90]) := by
          intro y0_90 hf H locs hP hD hS ls hl
          unfold fX0_keepsLattice_J90 at hf
          obtain ⟨g_3, hf⟩ := gd_some hf
          have hQ2 := hQ
          rw [← Option.some.inj hf] at hQ2
          exact cx_zret (isb_nar g_3) hQ2 hx hb hr hlocks hK hP hD hS dX0_keepsLattice_90
        have J85 : ∀ (u_85 : Unit), fX0_keepsLattice_J85 (fX0_keepsLattice_J90) u_85 = some fin → ∀ (H : Heap) (locs : List Loc), va_P (dC, dI) vwCl (wX0 cI cB cE a v_size v_kind v_codes v_numbers v_left v_g_rowOf v_g_columnOf v_g_before v_g_above v_g_rowStart v_g_size) H → va_D A (wX0 cI cB cE a v_size v_kind v_codes v_numbers v_left v_g_rowOf v_g_columnOf v_g_before v_g_above v_g_rowStart v_g_size) → va_S A s.heap H locs → ∀ (ls : Array Slot), lv_has ls 6 [] → W p l e rmX0_keepsLattice s m args below meth c H locs 0 0 Q (F0 m 85 ls []) := by
          intro u_85 hf H locs hP hD hS ls hl
          unfold fX0_keepsLattice_J85 at hf
          refine lv_iconst (v := 1) hx hb dX0_keepsLattice_85 (by decide) ?_
          refine lv_goto (tgt := 90) hx hb dX0_keepsLattice_86 (by decide) ?_
          exact J90 1 hf _ _ hP hD hS ls (lv_sub hl [] rfl)
        refine lv_icmp_eq (tgt := 85) hx hb dX0_keepsLattice_76 (by decide) (fun c_4 => ?_) (fun c_4 => ?_)
        · rw [if_pos c_4] at hf
          exact J85 () hf _ _ hP hD hS ls (lv_sub hl [] rfl)
        · rw [if_neg c_4] at hf
          refine lv_iload_n hx hb dX0_keepsLattice_79 rfl (lv_at hl 3 rfl) ?_
          refine lv_iload hx hb dX0_keepsLattice_80 (lv_at hl 4 rfl) ?_
          refine lv_icmp_gt (tgt := 89) hx hb dX0_keepsLattice_82 (by decide) (fun c_5 => ?_) (fun c_5 => ?_)
          · rw [if_pos c_5] at hf
            refine lv_iconst (v := 0) hx hb dX0_keepsLattice_89 (by decide) ?_
            exact J90 0 hf _ _ hP hD hS ls (lv_sub hl [] rfl)
          · rw [if_neg c_5] at hf
            exact J85 () hf _ _ hP hD hS ls (lv_sub hl [] rfl)
      · rw [if_neg c_2] at hf
        refine lv_aload_n hx hb dX0_keepsLattice_21 rfl (lv_at hl 0 rfl) ?_
        refine va_get (D := (dC, dI)) (ci := 0) (C := RX0) (T := TX0) (N := 6) hx hb hts (fun _ h => List.mem_cons_of_mem _ (List.mem_append_left _ (List.mem_append_right _ h))) hown hK hP 0 rfl rfl 4 (by decide) (hts (.fieldLink RX0 22 "SkewBoard$Fillings" "numbers" "[I") (List.mem_of_getElem? (i := 1) rfl)) (fun _ h9 => h9) rfl dX0_keepsLattice_22 ?_
        refine lv_iload hx hb dX0_keepsLattice_25 (lv_at hl 5 rfl) ?_
        obtain ⟨g_6, hf⟩ := gd_some hf
        refine va_iald hx hb hK hP 2 0 rfl rfl (inb_vp g_6) dX0_keepsLattice_27 ?_
        refine lv_iload_n hx hb dX0_keepsLattice_28 rfl (lv_at hl 2 rfl) ?_
        have J68 : ∀ (x3_68 : Int32) (x4_68 : Int32), fX0_keepsLattice_J68 x5_15 (fX0_keepsLattice_L15 v_numbers v_g_rowStart p1 n15) x3_68 x4_68 = some fin → ∀ (H : Heap) (locs : List Loc), va_P (dC, dI) vwCl (wX0 cI cB cE a v_size v_kind v_codes v_numbers v_left v_g_rowOf v_g_columnOf v_g_before v_g_above v_g_rowStart v_g_size) H → va_D A (wX0 cI cB cE a v_size v_kind v_codes v_numbers v_left v_g_rowOf v_g_columnOf v_g_before v_g_above v_g_rowStart v_g_size) → va_S A s.heap H locs → ∀ (ls : Array Slot), lv_has ls 6 [(0, .ref (a 0)), (1, .int p1), (2, .int (v_numbers p1.toNatClampNeg)), (3, .int x3_68), (4, .int x4_68), (5, .int x5_15)] → W p l e rmX0_keepsLattice s m args below meth c H locs 0 0 Q (F0 m 68 ls []) := by
          intro x3_68 x4_68 hf H locs hP hD hS ls hl
          unfold fX0_keepsLattice_J68 at hf
          refine lv_iinc (v := (x5_15 + 1)) (lv' := [(5, .int (x5_15 + 1)), (0, .ref (a 0)), (1, .int p1), (2, .int (v_numbers p1.toNatClampNeg)), (3, .int x3_68), (4, .int x4_68)]) hx hb dX0_keepsLattice_68 hl (k := 5) rfl rfl (by decide) rfl (fun ls hl => ?_)
          refine lv_goto (tgt := 15) hx hb dX0_keepsLattice_71 (by decide) ?_
          exact ih15 x3_68 x4_68 (x5_15 + 1) hf _ _ hP hD hS ls (lv_sub hl [1, 2, 3, 4, 5, 0] rfl)
        refine lv_icmp_ne (tgt := 38) hx hb dX0_keepsLattice_29 (by decide) (fun c_7 => ?_) (fun c_7 => ?_)
        · rw [if_neg c_7] at hf
          try rw [if_neg c_7] at hf
          refine lv_aload_n hx hb dX0_keepsLattice_38 rfl (lv_at hl 0 rfl) ?_
          refine va_get (D := (dC, dI)) (ci := 0) (C := RX0) (T := TX0) (N := 6) hx hb hts (fun _ h => List.mem_cons_of_mem _ (List.mem_append_left _ (List.mem_append_right _ h))) hown hK hP 0 rfl rfl 4 (by decide) (hts (.fieldLink RX0 22 "SkewBoard$Fillings" "numbers" "[I") (List.mem_of_getElem? (i := 1) rfl)) (fun _ h9 => h9) rfl dX0_keepsLattice_39 ?_
          refine lv_iload hx hb dX0_keepsLattice_42 (lv_at hl 5 rfl) ?_
          refine va_iald hx hb hK hP 2 0 rfl rfl (inb_vp g_6) dX0_keepsLattice_44 ?_
          refine lv_iload_n hx hb dX0_keepsLattice_45 rfl (lv_at hl 2 rfl) ?_
          refine lv_iconst (v := 1) hx hb dX0_keepsLattice_46 (by decide) ?_
          refine lv_isub hx hb dX0_keepsLattice_47 ?_
          refine lv_icmp_ne (tgt := 68) hx hb dX0_keepsLattice_48 (by decide) (fun c_8 => ?_) (fun c_8 => ?_)
          · rw [if_neg c_8] at hf
            exact J68 x3_15 x4_15 hf _ _ hP hD hS ls (lv_sub hl [0, 1, 2, 3, 4, 5] rfl)
          · rw [if_pos c_8] at hf
            refine lv_iload hx hb dX0_keepsLattice_51 (lv_at hl 5 rfl) ?_
            refine lv_aload_n hx hb dX0_keepsLattice_53 rfl (lv_at hl 0 rfl) ?_
            refine va_get (D := (dC, dI)) (ci := 0) (C := RX0) (T := TX0) (N := 6) hx hb hts (fun _ h => List.mem_cons_of_mem _ (List.mem_append_left _ (List.mem_append_right _ h))) hown hK hP 0 rfl rfl 0 (by decide) (hts (.fieldLink RX0 12 "SkewBoard$Fillings" "grid" "LSkewBoard$Grid;") (List.mem_of_getElem? (i := 2) rfl)) (fun _ h9 => h9) rfl dX0_keepsLattice_54 ?_
            refine va_get (D := (dC, dI)) (ci := 1) (C := RX1) (T := TX1) (N := 6) hx hb hts (fun _ h => List.mem_cons_of_mem _ (List.mem_append_right _ h)) hown hK hP 4 rfl rfl 4 (by decide) (hts (.fieldLink RX0 110 "SkewBoard$Grid" "rowStart" "[I") (List.mem_of_getElem? (i := 3) rfl)) (fun _ h9 => h9) rfl dX0_keepsLattice_57 ?_
            refine lv_iload_n hx hb dX0_keepsLattice_60 rfl (lv_at hl 1 rfl) ?_
            refine va_iald hx hb hK hP 9 0 rfl rfl (inb_vp g_1) dX0_keepsLattice_61 ?_
            refine lv_icmp_ge (tgt := 68) hx hb dX0_keepsLattice_62 (by decide) (fun c_9 => ?_) (fun c_9 => ?_)
            · rw [if_pos c_9] at hf
              exact J68 x3_15 x4_15 hf _ _ hP hD hS ls (lv_sub hl [0, 1, 2, 3, 4, 5] rfl)
            · rw [if_neg c_9] at hf
              refine lv_iinc (v := (x4_15 + 1)) (lv' := [(4, .int (x4_15 + 1)), (0, .ref (a 0)), (1, .int p1), (2, .int (v_numbers p1.toNatClampNeg)), (3, .int x3_15), (5, .int x5_15)]) hx hb dX0_keepsLattice_65 hl (k := 4) rfl rfl (by decide) rfl (fun ls hl => ?_)
              exact J68 x3_15 (x4_15 + 1) hf _ _ hP hD hS ls (lv_sub hl [1, 2, 3, 4, 0, 5] rfl)
        · rw [if_pos c_7] at hf
          try rw [if_pos c_7] at hf
          refine lv_iinc (v := (x3_15 + 1)) (lv' := [(3, .int (x3_15 + 1)), (0, .ref (a 0)), (1, .int p1), (2, .int (v_numbers p1.toNatClampNeg)), (4, .int x4_15), (5, .int x5_15)]) hx hb dX0_keepsLattice_32 hl (k := 3) rfl rfl (by decide) rfl (fun ls hl => ?_)
          refine lv_goto (tgt := 68) hx hb dX0_keepsLattice_35 (by decide) ?_
          exact J68 (x3_15 + 1) x4_15 hf _ _ hP hD hS ls (lv_sub hl [1, 2, 3, 0, 4, 5] rfl)
  exact L15 fu 0 0 0 hf _ _ hP hD hS ls (lv_sub hl [4, 5, 3, 2, 1, 0] rfl)

def fX0_fits_J97 (y0_97 : Int32) : Option (Int32) :=
    gd (isb y0_97) (some y0_97)
def fX0_fits_J92 (k97 : Int32 → Option (Int32)) (u_92 : Unit) : Option (Int32) :=
    k97 1
def fX0_fits_J76 (v_kind : Int32) (v_numbers : Nat → Int32) (v_g_rowStart : Nat → Int32) (p1 : Int32) (u_76 : Unit) : Option (Int32) :=
    if v_kind = 2 then (bd (fX0_keepsLattice p1 v_numbers v_g_rowStart) (fun r_4 => if r_4 = 0 then (fX0_fits_J97 0) else (fX0_fits_J92 fX0_fits_J97 ()))) else (fX0_fits_J92 fX0_fits_J97 ())
def fX0_fits_J51 (v_kind : Int32) (v_numbers : Nat → Int32) (v_g_above : Nat → Int32) (v_g_rowStart : Nat → Int32) (p1 : Int32) (u_51 : Unit) : Option (Int32) :=
    if (v_g_above p1.toNatClampNeg) < 0 then (fX0_fits_J76 v_kind v_numbers v_g_rowStart p1 ()) else (gd (inb (v_g_above p1.toNatClampNeg) 9) (bd (fX0_mayStandBelow v_kind (v_numbers (v_g_above p1.toNatClampNeg).toNatClampNeg) (v_numbers p1.toNatClampNeg)) (fun r_8 => if r_8 = 0 then (some 0) else (fX0_fits_J76 v_kind v_numbers v_g_rowStart p1 ()))))
def fX0_fits (p1 : Int32) (v_kind : Int32) (v_numbers : Nat → Int32) (v_g_before : Nat → Int32) (v_g_above : Nat → Int32) (v_g_rowStart : Nat → Int32) : Option (Int32) :=
  gd (inb p1 9) (if (v_g_before p1.toNatClampNeg) < 0 then (fX0_fits_J51 v_kind v_numbers v_g_above v_g_rowStart p1 ()) else (gd (inb (v_g_before p1.toNatClampNeg) 9) (bd (fX0_mayStandBeside v_kind (v_numbers (v_g_before p1.toNatClampNeg).toNatClampNeg) (v_numbers p1.toNatClampNeg)) (fun r_12 => if r_12 = 0 then (some 0) else (fX0_fits_J51 v_kind v_numbers v_g_above v_g_rowStart p1 ())))))
def rmX0_fits : Room := { frames := 1, cells := 0, slots := 0, locals := 25 }
set_option maxRecDepth 100000 in
set_option maxHeartbeats 4000000 in
theorem ctX0_fits (l : Launch) (z : Nat × Nat × Nat) (dC : Nat → ClassId) (dI : Nat → Nat → Nat) (cI cB cE : ClassId) (a : Nat → Nat) (v_size : Int32) (v_kind : Int32) (v_codes : Nat → Int32) (v_numbers : Nat → Int32) (v_left : Nat → Int32) (v_g_rowOf : Nat → Int32) (v_g_columnOf : Nat → Int32) (v_g_before : Nat → Int32) (v_g_above : Nat → Int32) (v_g_rowStart : Nat → Int32) (v_g_size : Int32) (p1 : Int32) (fin : Int32) (hf : fX0_fits p1 v_kind v_numbers v_g_before v_g_above v_g_rowStart = some fin) : Ct l z (dC, dI) (tyL cI cB cE) yX0_fits wsX0_fits rmX0_fits [.ref (a 0), .int p1] (wX0 cI cB cE a v_size v_kind v_codes v_numbers v_left v_g_rowOf v_g_columnOf v_g_before v_g_above v_g_rowStart v_g_size) (some (.int fin)) (wX0 cI cB cE a v_size v_kind v_codes v_numbers v_left v_g_rowOf v_g_columnOf v_g_before v_g_above v_g_rowStart v_g_size) := by
  refine Met.ofC (cc := cX0_fits) (maxL := 5) (ret := (some .boolean)) (by decide) rfl (Nat.le_of_ble_eq_true rfl) ?_
  intro p e s m args below meth c A Q ls hx hb hr hml hts hown hlocks hA hK hP hD hZ hS hQ hl
  have hown : s.vm.findClass RX0 = some m.cls := hown
  have hl : lv_has ls 5 [(0, .ref (a 0)), (1, .int p1)] := hl
  unfold fX0_fits at hf
  refine lv_aload_n hx hb dX0_fits_0 rfl (lv_at hl 0 rfl) ?_
  refine va_get (D := (dC, dI)) (ci := 0) (C := RX0) (T := TX0) (N := 6) hx hb hts (fun _ h => List.mem_cons_of_mem _ (List.mem_append_left _ (List.mem_append_right _ h))) hown hK hP 0 rfl rfl 4 (by decide) (hts (.fieldLink RX0 22 "SkewBoard$Fillings" "numbers" "[I") (List.mem_of_getElem? (i := 1) rfl)) (fun _ h9 => h9) rfl dX0_fits_1 ?_
  refine lv_iload_n hx hb dX0_fits_4 rfl (lv_at hl 1 rfl) ?_
  obtain ⟨g_1, hf⟩ := gd_some hf
  refine va_iald hx hb hK hP 2 0 rfl rfl (inb_vp g_1) dX0_fits_5 ?_
  refine lv_istore_n (lv' := [(2, .int (v_numbers p1.toNatClampNeg)), (0, .ref (a 0)), (1, .int p1)]) hx hb dX0_fits_6 rfl hl (by decide) rfl (fun ls hl => ?_)
  refine lv_aload_n hx hb dX0_fits_7 rfl (lv_at hl 1 rfl) ?_
  refine va_get (D := (dC, dI)) (ci := 0) (C := RX0) (T := TX0) (N := 6) hx hb hts (fun _ h => List.mem_cons_of_mem _ (List.mem_append_left _ (List.mem_append_right _ h))) hown hK hP 0 rfl rfl 0 (by decide) (hts (.fieldLink RX0 12 "SkewBoard$Fillings" "grid" "LSkewBoard$Grid;") (List.mem_of_getElem? (i := 2) rfl)) (fun _ h9 => h9) rfl dX0_fits_8 ?_
  refine va_get (D := (dC, dI)) (ci := 1) (C := RX1) (T := TX1) (N := 6) hx hb hts (fun _ h => List.mem_cons_of_mem _ (List.mem_append_right _ h)) hown hK hP 4 rfl rfl 2 (by decide) (hts (.fieldLink RX0 94 "SkewBoard$Grid" "before" "[I") (List.mem_of_getElem? (i := 3) rfl)) (fun _ h9 => h9) rfl dX0_fits_11 ?_
  refine lv_iload_n hx hb dX0_fits_14 rfl (lv_at hl 2 rfl) ?_
  refine va_iald hx hb hK hP 7 0 rfl rfl (inb_vp g_1) dX0_fits_15 ?_
  refine lv_istore_n (lv' := [(3, .int (v_g_before p1.toNatClampNeg)), (2, .int (v_numbers p1.toNatClampNeg)), (0, .ref (a 0)), (1, .int p1)]) hx hb dX0_fits_16 rfl hl (by decide) rfl (fun ls hl => ?_)
  refine lv_aload_n hx hb dX0_fits_17 rfl (lv_at hl 2 rfl) ?_
  refine va_get (D := (dC, dI)) (ci := 0) (C := RX0) (T := TX0) (N := 6) hx hb hts (fun _ h => List.mem_cons_of_mem _ (List.mem_append_left _ (List.mem_append_right _ h))) hown hK hP 0 rfl rfl 0 (by decide) (hts (.fieldLink RX0 12 "SkewBoard$Fillings" "grid" "LSkewBoard$Grid;") (List.mem_of_getElem? (i := 2) rfl)) (fun _ h9 => h9) rfl dX0_fits_18 ?_
  refine va_get (D := (dC, dI)) (ci := 1) (C := RX1) (T := TX1) (N := 6) hx hb hts (fun _ h => List.mem_cons_of_mem _ (List.mem_append_right _ h)) hown hK hP 4 rfl rfl 3 (by decide) (hts (.fieldLink RX0 97 "SkewBoard$Grid" "above" "[I") (List.mem_of_getElem? (i := 4) rfl)) (fun _ h9 => h9) rfl dX0_fits_21 ?_
  refine lv_iload_n hx hb dX0_fits_24 rfl (lv_at hl 3 rfl) ?_
  refine va_iald hx hb hK hP 8 0 rfl rfl (inb_vp g_1) dX0_fits_25 ?_
  refine lv_istore (lv' := [(4, .int (v_g_above p1.toNatClampNeg)), (3, .int (v_g_before p1.toNatClampNeg)), (2, .int (v_numbers p1.toNatClampNeg)), (0, .ref (a 0)), (1, .int p1)]) hx hb dX0_fits_26 hl (by decide) rfl (fun ls hl => ?_)
  refine lv_iload_n hx hb dX0_fits_28 rfl (lv_at hl 1 rfl) ?_
  have J51 : ∀ (u_51 : Unit), fX0_fits_J51 v_kind v_numbers v_g_above v_g_rowStart p1 u_51 = some fin → ∀ (H : Heap) (locs : List Loc), va_P (dC, dI) vwCl (wX0 cI cB cE a v_size v_kind v_codes v_numbers v_left v_g_rowOf v_g_columnOf v_g_before v_g_above v_g_rowStart v_g_size) H → va_D A (wX0 cI cB cE a v_size v_kind v_codes v_numbers v_left v_g_rowOf v_g_columnOf v_g_before v_g_above v_g_rowStart v_g_size) → va_S A s.heap H locs → ∀ (ls : Array Slot), lv_has ls 5 [(0, .ref (a 0)), (1, .int p1), (2, .int (v_numbers p1.toNatClampNeg)), (4, .int (v_g_above p1.toNatClampNeg))] → W p l e rmX0_fits s m args below meth c H locs 0 0 Q (F0 m 51 ls []) := by
    intro u_51 hf H locs hP hD hS ls hl
    unfold fX0_fits_J51 at hf
    refine lv_iload hx hb dX0_fits_51 (lv_at hl 3 rfl) ?_
    have J76 : ∀ (u_76 : Unit), fX0_fits_J76 v_kind v_numbers v_g_rowStart p1 u_76 = some fin → ∀ (H : Heap) (locs : List Loc), va_P (dC, dI) vwCl (wX0 cI cB cE a v_size v_kind v_codes v_numbers v_left v_g_rowOf v_g_columnOf v_g_before v_g_above v_g_rowStart v_g_size) H → va_D A (wX0 cI cB cE a v_size v_kind v_codes v_numbers v_left v_g_rowOf v_g_columnOf v_g_before v_g_above v_g_rowStart v_g_size) → va_S A s.heap H locs → ∀ (ls : Array Slot), lv_has ls 5 [(0, .ref (a 0)), (1, .int p1)] → W p l e rmX0_fits s m args below meth c H locs 0 0 Q (F0 m 76 ls []) := by
      intro u_76 hf H locs hP hD hS ls hl
      unfold fX0_fits_J76 at hf
      refine lv_aload_n hx hb dX0_fits_76 rfl (lv_at hl 0 rfl) ?_
      refine va_get (D := (dC, dI)) (ci := 0) (C := RX0) (T := TX0) (N := 6) hx hb hts (fun _ h => List.mem_cons_of_mem _ (List.mem_append_left _ (List.mem_append_right _ h))) hown hK hP 0 rfl rfl 2 (by decide) (hts (.fieldLink RX0 37 "SkewBoard$Fillings" "kind" "I") (List.mem_of_getElem? (i := 5) rfl)) (fun _ h9 => h9) rfl dX0_fits_77 ?_
      refine lv_iconst (v := 2) hx hb dX0_fits_80 (by decide) ?_
      have J97 : ∀ (y0_97 : Int32), fX0_fits_J97  y0_97 = some fin → ∀ (H : Heap) (locs : List Loc), va_P (dC, dI) vwCl (wX0 cI cB cE a v_size v_kind v_codes v_numbers v_left v_g_rowOf v_g_columnOf v_g_before v_g_above v_g_rowStart v_g_size) H → va_D A (wX0 cI cB cE a v_size v_kind v_codes v_numbers v_left v_g_rowOf v_g_columnOf v_g_before v_g_above v_g_rowStart v_g_size) → va_S A s.heap H locs → ∀ (ls : Array Slot), lv_has ls 5 [] → W p l e rmX0_fits s m args below meth c H locs 0 0 Q (F0 m 97 ls [.int y0_97]) := by
        intro y0_97 hf H locs hP hD hS ls hl
        unfold fX0_fits_J97 at hf
        obtain ⟨g_2, hf⟩ := gd_some hf
        have hQ2 := hQ
        rw [← Option.some.inj hf] at hQ2
        exact cx_zret (isb_nar g_2) hQ2 hx hb hr hlocks hK hP hD hS dX0_fits_97
      have J92 : ∀ (u_92 : Unit), fX0_fits_J92 (fX0_fits_J97) u_92 = some fin → ∀ (H : Heap) (locs : List Loc), va_P (dC, dI) vwCl (wX0 cI cB cE a v_size v_kind v_codes v_numbers v_left v_g_rowOf v_g_columnOf v_g_before v_g_above v_g_rowStart v_g_size) H → va_D A (wX0 cI cB cE a v_size v_kind v_codes v_numbers v_left v_g_rowOf v_g_columnOf v_g_before v_g_above v_g_rowStart v_g_size) → va_S A s.heap H locs → ∀ (ls : Array Slot), lv_has ls 5 [] → W p l e rmX0_fits s m args below meth c H locs 0 0 Q (F0 m 92 ls []) := by
        intro u_92 hf H locs hP hD hS ls hl
        unfold fX0_fits_J92 at hf
        refine lv_iconst (v := 1) hx hb dX0_fits_92 (by decide) ?_
        refine lv_goto (tgt := 97) hx hb dX0_fits_93 (by decide) ?_
        exact J97 1 hf _ _ hP hD hS ls (lv_sub hl [] rfl)
      refine lv_icmp_ne (tgt := 92) hx hb dX0_fits_81 (by decide) (fun c_3 => ?_) (fun c_3 => ?_)
      · rw [if_neg c_3] at hf
        exact J92 () hf _ _ hP hD hS ls (lv_sub hl [] rfl)
      · rw [if_pos c_3] at hf
        refine lv_aload_n hx hb dX0_fits_84 rfl (lv_at hl 0 rfl) ?_
        refine lv_iload_n hx hb dX0_fits_85 rfl (lv_at hl 1 rfl) ?_
        obtain ⟨r_4, hr_4, hf⟩ := bd_some hf
        refine cx_runW (cx_V (As := [.int p1]) (rest := []) ⟨hx, hb, hml, hown, hts⟩ (ctX0_keepsLattice l z dC dI cI cB cE a v_size v_kind v_codes v_numbers v_left v_g_rowOf v_g_columnOf v_g_before v_g_above v_g_rowStart v_g_size p1 r_4 hr_4) (cwV 1 hts gX0_fits_X0_keepsLattice rfl rfl rfl (by decide +kernel) ⟨Nat.le_of_ble_eq_true rfl, Nat.le_of_ble_eq_true rfl⟩) hK hP hD hZ hS hA (ci := 0) (q0 := 0) rfl rfl rfl hl.1 rfl (Nat.le_of_ble_eq_true rfl) dX0_fits_86) hD hS hA [.int r_4] rfl (fun H locs hP hD hS => ?_)
        refine lv_if_eq (tgt := 96) hx hb dX0_fits_89 (by decide) (fun c_5 => ?_) (fun c_5 => ?_)
        · rw [if_pos c_5] at hf
          refine lv_iconst (v := 0) hx hb dX0_fits_96 (by decide) ?_
          exact J97 0 hf _ _ hP hD hS ls (lv_sub hl [] rfl)
        · rw [if_neg c_5] at hf
          exact J92 () hf _ _ hP hD hS ls (lv_sub hl [] rfl)
    refine lv_if_lt (tgt := 76) hx hb dX0_fits_53 (by decide) (fun c_6 => ?_) (fun c_6 => ?_)
    · rw [if_pos c_6] at hf
      exact J76 () hf _ _ hP hD hS ls (lv_sub hl [0, 1] rfl)
    · rw [if_neg c_6] at hf
      refine lv_aload_n hx hb dX0_fits_56 rfl (lv_at hl 0 rfl) ?_
      refine va_get (D := (dC, dI)) (ci := 0) (C := RX0) (T := TX0) (N := 6) hx hb hts (fun _ h => List.mem_cons_of_mem _ (List.mem_append_left _ (List.mem_append_right _ h))) hown hK hP 0 rfl rfl 2 (by decide) (hts (.fieldLink RX0 37 "SkewBoard$Fillings" "kind" "I") (List.mem_of_getElem? (i := 5) rfl)) (fun _ h9 => h9) rfl dX0_fits_57 ?_
      refine lv_aload_n hx hb dX0_fits_60 rfl (lv_at hl 0 rfl) ?_
      refine va_get (D := (dC, dI)) (ci := 0) (C := RX0) (T := TX0) (N := 6) hx hb hts (fun _ h => List.mem_cons_of_mem _ (List.mem_append_left _ (List.mem_append_right _ h))) hown hK hP 0 rfl rfl 4 (by decide) (hts (.fieldLink RX0 22 "SkewBoard$Fillings" "numbers" "[I") (List.mem_of_getElem? (i := 1) rfl)) (fun _ h9 => h9) rfl dX0_fits_61 ?_
      refine lv_iload hx hb dX0_fits_64 (lv_at hl 3 rfl) ?_
      obtain ⟨g_7, hf⟩ := gd_some hf
      refine va_iald hx hb hK hP 2 0 rfl rfl (inb_vp g_7) dX0_fits_66 ?_
      refine lv_iload_n hx hb dX0_fits_67 rfl (lv_at hl 2 rfl) ?_
      obtain ⟨r_8, hr_8, hf⟩ := bd_some hf
      refine cx_run0 (cx_S (A := A) (As := [.int v_kind, .int (v_numbers (v_g_above p1.toNatClampNeg).toNatClampNeg), .int (v_numbers p1.toNatClampNeg)]) (rest := []) ⟨hx, hb, hml, hown, hts⟩ (ctX0_mayStandBelow l z dC dI cI cB cE v_kind (v_numbers (v_g_above p1.toNatClampNeg).toNatClampNeg) (v_numbers p1.toNatClampNeg) r_8 hr_8) (va_cwS 3 hts gX0_fits_X0_mayStandBelow rfl rfl rfl (by decide +kernel) ⟨Nat.le_of_ble_eq_true rfl, Nat.le_of_ble_eq_true rfl⟩) hK vaP0 vaD0 hZ hS hA rfl hl.1 rfl (Nat.le_of_ble_eq_true rfl) dX0_fits_68) hP hS hA [.int r_8] rfl (fun H locs hP hS => ?_)
      refine lv_if_ne (tgt := 76) hx hb dX0_fits_71 (by decide) (fun c_9 => ?_) (fun c_9 => ?_)
      · rw [if_neg c_9] at hf
        exact J76 () hf _ _ hP hD hS ls (lv_sub hl [0, 1] rfl)
      · rw [if_pos c_9] at hf
        refine lv_iconst (v := 0) hx hb dX0_fits_74 (by decide) ?_
        have hQ2 := hQ
        rw [← Option.some.inj hf] at hQ2
        exact cx_zret rfl hQ2 hx hb hr hlocks hK hP hD hS dX0_fits_75
  refine lv_if_lt (tgt := 51) hx hb dX0_fits_29 (by decide) (fun c_10 => ?_) (fun c_10 => ?_)
  · rw [if_pos c_10] at hf
    exact J51 () hf _ _ hP hD hS ls (lv_sub hl [3, 4, 2, 0] rfl)
  · rw [if_neg c_10] at hf
    refine lv_aload_n hx hb dX0_fits_32 rfl (lv_at hl 3 rfl) ?_
    refine va_get (D := (dC, dI)) (ci := 0) (C := RX0) (T := TX0) (N := 6) hx hb hts (fun _ h => List.mem_cons_of_mem _ (List.mem_append_left _ (List.mem_append_right _ h))) hown hK hP 0 rfl rfl 2 (by decide) (hts (.fieldLink RX0 37 "SkewBoard$Fillings" "kind" "I") (List.mem_of_getElem? (i := 5) rfl)) (fun _ h9 => h9) rfl dX0_fits_33 ?_
    refine lv_aload_n hx hb dX0_fits_36 rfl (lv_at hl 3 rfl) ?_
    refine va_get (D := (dC, dI)) (ci := 0) (C := RX0) (T := TX0) (N := 6) hx hb hts (fun _ h => List.mem_cons_of_mem _ (List.mem_append_left _ (List.mem_append_right _ h))) hown hK hP 0 rfl rfl 4 (by decide) (hts (.fieldLink RX0 22 "SkewBoard$Fillings" "numbers" "[I") (List.mem_of_getElem? (i := 1) rfl)) (fun _ h9 => h9) rfl dX0_fits_37 ?_
    refine lv_iload_n hx hb dX0_fits_40 rfl (lv_at hl 1 rfl) ?_
    obtain ⟨g_11, hf⟩ := gd_some hf
    refine va_iald hx hb hK hP 2 0 rfl rfl (inb_vp g_11) dX0_fits_41 ?_
    refine lv_iload_n hx hb dX0_fits_42 rfl (lv_at hl 2 rfl) ?_
    obtain ⟨r_12, hr_12, hf⟩ := bd_some hf
    refine cx_run0 (cx_S (A := A) (As := [.int v_kind, .int (v_numbers (v_g_before p1.toNatClampNeg).toNatClampNeg), .int (v_numbers p1.toNatClampNeg)]) (rest := []) ⟨hx, hb, hml, hown, hts⟩ (ctX0_mayStandBeside l z dC dI cI cB cE v_kind (v_numbers (v_g_before p1.toNatClampNeg).toNatClampNeg) (v_numbers p1.toNatClampNeg) r_12 hr_12) (va_cwS 3 hts gX0_fits_X0_mayStandBeside rfl rfl rfl (by decide +kernel) ⟨Nat.le_of_ble_eq_true rfl, Nat.le_of_ble_eq_true rfl⟩) hK vaP0 vaD0 hZ hS hA rfl hl.1 rfl (Nat.le_of_ble_eq_true rfl) dX0_fits_43) hP hS hA [.int r_12] rfl (fun H locs hP hS => ?_)
    refine lv_if_ne (tgt := 51) hx hb dX0_fits_46 (by decide) (fun c_13 => ?_) (fun c_13 => ?_)
    · rw [if_neg c_13] at hf
      exact J51 () hf _ _ hP hD hS ls (lv_sub hl [3, 4, 2, 0] rfl)
    · rw [if_pos c_13] at hf
      refine lv_iconst (v := 0) hx hb dX0_fits_49 (by decide) ?_
      have hQ2 := hQ
      rw [← Option.some.inj hf] at hQ2
      exact cx_zret rfl hQ2 hx hb hr hlocks hK hP hD hS dX0_fits_50

def fX0_fillFrom_J17 (v_size : Int32) (v_codes : Nat → Int32) (v_numbers : Nat → Int32) (v_left : Nat → Int32) (p2 : Int32) (u_17 : Unit) : Option (Int32 × (Nat → Int32) × (Nat → Int32) × (Nat → Int32)) :=
    bd (fX0_keep p2 v_size v_codes) (fun r_1 => some (r_1.1, r_1.2, v_numbers, v_left))
def fX0_fillFrom_J92 (x3_25 : Int32) (k25 : Int32 → Int32 → (Nat → Int32) → (Nat → Int32) → (Nat → Int32) → Option (Int32 × (Nat → Int32) × (Nat → Int32) × (Nat → Int32))) (v_size_92 : Int32) (v_codes_92 : Nat → Int32) (v_numbers_92 : Nat → Int32) (v_left_92 : Nat → Int32) : Option (Int32 × (Nat → Int32) × (Nat → Int32) × (Nat → Int32)) :=
    k25 (x3_25 + 1) v_size_92 v_codes_92 v_numbers_92 v_left_92
def fX0_fillFrom_L25 (v_kind : Int32) (v_g_rowOf : Nat → Int32) (v_g_columnOf : Nat → Int32) (v_g_before : Nat → Int32) (v_g_above : Nat → Int32) (v_g_rowStart : Nat → Int32) (v_g_size : Int32) (p1 : Int32) (p2 : Int32) (RECF : Int32 → Int32 → Int32 → Int32 → (Nat → Int32) → (Nat → Int32) → (Nat → Int32) → (Nat → Int32) → (Nat → Int32) → (Nat → Int32) → (Nat → Int32) → (Nat → Int32) → Int32 → Option (Int32 × (Nat → Int32) × (Nat → Int32) × (Nat → Int32))) : Nat → Int32 → Int32 → (Nat → Int32) → (Nat → Int32) → (Nat → Int32) → Option (Int32 × (Nat → Int32) × (Nat → Int32) × (Nat → Int32))
  | 0, _, _, _, _, _ => none
  | n + 1, x3_25, v_size_25, v_codes_25, v_numbers_25, v_left_25 =>
    if 4 < x3_25 then (some (v_size_25, v_codes_25, v_numbers_25, v_left_25)) else (gd (inb p1 9) (gd (inb (x3_25 - 1) 4) (if (v_left_25 (x3_25 - 1).toNatClampNeg) ≤ 0 then (fX0_fillFrom_J92 x3_25 (fX0_fillFrom_L25 v_kind v_g_rowOf v_g_columnOf v_g_before v_g_above v_g_rowStart v_g_size p1 p2 RECF n) v_size_25 v_codes_25 (upd v_numbers_25 p1.toNatClampNeg x3_25) v_left_25) else (bd (fX0_fits p1 v_kind (upd v_numbers_25 p1.toNatClampNeg x3_25) v_g_before v_g_above v_g_rowStart) (fun r_8 => if r_8 = 0 then (fX0_fillFrom_J92 x3_25 (fX0_fillFrom_L25 v_kind v_g_rowOf v_g_columnOf v_g_before v_g_above v_g_rowStart v_g_size p1 p2 RECF n) v_size_25 v_codes_25 (upd v_numbers_25 p1.toNatClampNeg x3_25) v_left_25) else (bd (fX0_codeWith p2 x3_25) (fun r_10 => bd (RECF (p1 + 1) r_10 v_size_25 v_kind v_codes_25 (upd v_numbers_25 p1.toNatClampNeg x3_25) (upd v_left_25 (x3_25 - 1).toNatClampNeg ((v_left_25 (x3_25 - 1).toNatClampNeg) - 1)) v_g_rowOf v_g_columnOf v_g_before v_g_above v_g_rowStart v_g_size) (fun r_11 => fX0_fillFrom_J92 x3_25 (fX0_fillFrom_L25 v_kind v_g_rowOf v_g_columnOf v_g_before v_g_above v_g_rowStart v_g_size p1 p2 RECF n) r_11.1 r_11.2.1 r_11.2.2.1 (upd r_11.2.2.2 (x3_25 - 1).toNatClampNeg ((r_11.2.2.2 (x3_25 - 1).toNatClampNeg) + 1))))))))))
def fX0_fillFrom : Nat → Int32 → Int32 → Int32 → Int32 → (Nat → Int32) → (Nat → Int32) → (Nat → Int32) → (Nat → Int32) → (Nat → Int32) → (Nat → Int32) → (Nat → Int32) → (Nat → Int32) → Int32 → Option (Int32 × (Nat → Int32) × (Nat → Int32) × (Nat → Int32))
  | 0, _, _, _, _, _, _, _, _, _, _, _, _, _ => none
  | d + 1, p1, p2, v_size, v_kind, v_codes, v_numbers, v_left, v_g_rowOf, v_g_columnOf, v_g_before, v_g_above, v_g_rowStart, v_g_size =>
    if v_g_size ≤ p1 then (fX0_fillFrom_J17 v_size v_codes v_numbers v_left p2 ()) else (if p1 < 9 then (fX0_fillFrom_L25 v_kind v_g_rowOf v_g_columnOf v_g_before v_g_above v_g_rowStart v_g_size p1 p2 (fX0_fillFrom d) fu 1 v_size v_codes v_numbers v_left) else (fX0_fillFrom_J17 v_size v_codes v_numbers v_left p2 ()))
def rmX0_fillFrom (d : Nat) : Room := { frames := 2 + d, cells := 0, slots := 0, locals := 49 + 23 * d }
set_option maxRecDepth 100000 in
set_option maxHeartbeats 4000000 in
theorem ctX0_fillFrom (l : Launch) (z : Nat × Nat × Nat) (dC : Nat → ClassId) (dI : Nat → Nat → Nat) (cI cB cE : ClassId) (a : Nat → Nat) : ∀ (d : Nat) (v_size : Int32) (v_kind : Int32) (v_codes : Nat → Int32) (v_numbers : Nat → Int32) (v_left : Nat → Int32) (v_g_rowOf : Nat → Int32) (v_g_columnOf : Nat → Int32) (v_g_before : Nat → Int32) (v_g_above : Nat → Int32) (v_g_rowStart : Nat → Int32) (v_g_size : Int32) (p1 : Int32) (p2 : Int32) (fin : Int32 × (Nat → Int32) × (Nat → Int32) × (Nat → Int32)), fX0_fillFrom d p1 p2 v_size v_kind v_codes v_numbers v_left v_g_rowOf v_g_columnOf v_g_before v_g_above v_g_rowStart v_g_size = some fin → Ct l z (dC, dI) (tyL cI cB cE) yX0_fillFrom wsX0_fillFrom (rmX0_fillFrom d) [.ref (a 0), .int p1, .int p2] (wX0 cI cB cE a v_size v_kind v_codes v_numbers v_left v_g_rowOf v_g_columnOf v_g_before v_g_above v_g_rowStart v_g_size) none (wX0 cI cB cE a fin.1 v_kind fin.2.1 fin.2.2.1 fin.2.2.2 v_g_rowOf v_g_columnOf v_g_before v_g_above v_g_rowStart v_g_size) := by
  intro d
  induction d with
  | zero =>
    intro v_size v_kind v_codes v_numbers v_left v_g_rowOf v_g_columnOf v_g_before v_g_above v_g_rowStart v_g_size p1 p2 fin hf
    rw [fX0_fillFrom] at hf
    cases hf
  | succ d ihd =>
    intro v_size v_kind v_codes v_numbers v_left v_g_rowOf v_g_columnOf v_g_before v_g_above v_g_rowStart v_g_size p1 p2 fin hf
    rw [fX0_fillFrom] at hf
    refine Met.ofC (cc := cX0_fillFrom) (maxL := 4) (ret := none) (by decide) rfl (Nat.le_of_ble_eq_true rfl) ?_
    intro p e s m args below meth c A Q ls hx hb hr hml hts hown hlocks hA hK hP hD hZ hS hQ hl
    have hown : s.vm.findClass RX0 = some m.cls := hown
    have hl : lv_has ls 4 [(0, .ref (a 0)), (1, .int p1), (2, .int p2)] := hl
    refine lv_iload_n hx hb dX0_fillFrom_0 rfl (lv_at hl 1 rfl) ?_
    refine lv_aload_n hx hb dX0_fillFrom_1 rfl (lv_at hl 0 rfl) ?_
    refine va_get (D := (dC, dI)) (ci := 0) (C := RX0) (T := TX0) (N := 6) hx hb hts (fun _ h => List.mem_cons_of_mem _ (List.mem_append_left _ (List.mem_append_right _ h))) hown hK hP 0 rfl rfl 0 (by decide) (hts (.fieldLink RX0 12 "SkewBoard$Fillings" "grid" "LSkewBoard$Grid;") (List.mem_of_getElem? (i := 1) rfl)) (fun _ h9 => h9) rfl dX0_fillFrom_2 ?_
    refine va_get (D := (dC, dI)) (ci := 1) (C := RX1) (T := TX1) (N := 6) hx hb hts (fun _ h => List.mem_cons_of_mem _ (List.mem_append_right _ h)) hown hK hP 4 rfl rfl 5 (by decide) (hts (.fieldLink RX0 59 "SkewBoard$Grid" "size" "I") (List.mem_of_getElem? (i := 2) rfl)) (fun _ h9 => h9) rfl dX0_fillFrom_5 ?_
    have J17 : ∀ (u_17 : Unit), fX0_fillFrom_J17 v_size v_codes v_numbers v_left p2 u_17 = some fin → ∀ (H : Heap) (locs : List Loc), va_P (dC, dI) vwCl (wX0 cI cB cE a v_size v_kind v_codes v_numbers v_left v_g_rowOf v_g_columnOf v_g_before v_g_above v_g_rowStart v_g_size) H → va_D A (wX0 cI cB cE a v_size v_kind v_codes v_numbers v_left v_g_rowOf v_g_columnOf v_g_before v_g_above v_g_rowStart v_g_size) → va_S A s.heap H locs → ∀ (ls : Array Slot), lv_has ls 4 [(0, .ref (a 0)), (2, .int p2)] → W p l e (rmX0_fillFrom (d + 1)) s m args below meth c H locs 0 0 Q (F0 m 17 ls []) := by
      intro u_17 hf H locs hP hD hS ls hl
      unfold fX0_fillFrom_J17 at hf
      refine lv_aload_n hx hb dX0_fillFrom_17 rfl (lv_at hl 0 rfl) ?_
      refine lv_iload_n hx hb dX0_fillFrom_18 rfl (lv_at hl 1 rfl) ?_
      obtain ⟨r_1, hr_1, hf⟩ := bd_some hf
      refine cx_runW (cx_V (As := [.int p2]) (rest := []) ⟨hx, hb, hml, hown, hts⟩ (ctX0_keep l z dC dI cI cB cE a v_size v_kind v_codes v_numbers v_left v_g_rowOf v_g_columnOf v_g_before v_g_above v_g_rowStart v_g_size p2 r_1 hr_1) (cwV 1 hts gX0_fillFrom_X0_keep rfl rfl rfl (by decide +kernel) ⟨by simp only [rmX0_fillFrom, rmX0_keep]; omega, by simp only [rmX0_fillFrom, rmX0_keep]; omega⟩) hK hP hD hZ hS hA (ci := 0) (q0 := 0) rfl rfl rfl hl.1 rfl (Nat.le_of_ble_eq_true rfl) dX0_fillFrom_19) hD hS hA [] rfl (fun H locs hP hD hS => ?_)
      have hQ2 := hQ
      rw [← Option.some.inj hf] at hQ2
      exact cx_vret hQ2 hx hb hr hlocks hK hP hD hS dX0_fillFrom_22
    refine lv_icmp_ge (tgt := 17) hx hb dX0_fillFrom_8 (by decide) (fun c_2 => ?_) (fun c_2 => ?_)
    · rw [if_pos c_2] at hf
      exact J17 () hf _ _ hP hD hS ls (lv_sub hl [0, 2] rfl)
    · rw [if_neg c_2] at hf
      refine lv_iload_n hx hb dX0_fillFrom_11 rfl (lv_at hl 1 rfl) ?_
      refine lv_bipush (v := 9) hx hb dX0_fillFrom_12 (by decide) ?_
      refine lv_icmp_lt (tgt := 23) hx hb dX0_fillFrom_14 (by decide) (fun c_3 => ?_) (fun c_3 => ?_)
      · rw [if_pos c_3] at hf
        refine lv_iconst (v := 1) hx hb dX0_fillFrom_23 (by decide) ?_
        refine lv_istore_n (lv' := [(3, .int 1), (0, .ref (a 0)), (1, .int p1), (2, .int p2)]) hx hb dX0_fillFrom_24 rfl hl (by decide) rfl (fun ls hl => ?_)
        have L25 : ∀ (n25 : Nat) (x3_25 : Int32) (v_size_25 : Int32) (v_codes_25 : Nat → Int32) (v_numbers_25 : Nat → Int32) (v_left_25 : Nat → Int32), fX0_fillFrom_L25 v_kind v_g_rowOf v_g_columnOf v_g_before v_g_above v_g_rowStart v_g_size p1 p2 (fX0_fillFrom d) n25 x3_25 v_size_25 v_codes_25 v_numbers_25 v_left_25 = some fin → ∀ (H : Heap) (locs : List Loc), va_P (dC, dI) vwCl (wX0 cI cB cE a v_size_25 v_kind v_codes_25 v_numbers_25 v_left_25 v_g_rowOf v_g_columnOf v_g_before v_g_above v_g_rowStart v_g_size) H → va_D A (wX0 cI cB cE a v_size_25 v_kind v_codes_25 v_numbers_25 v_left_25 v_g_rowOf v_g_columnOf v_g_before v_g_above v_g_rowStart v_g_size) → va_S A s.heap H locs → ∀ (ls : Array Slot), lv_has ls 4 [(0, .ref (a 0)), (1, .int p1), (2, .int p2), (3, .int x3_25)] → W p l e (rmX0_fillFrom (d + 1)) s m args below meth c H locs 0 0 Q (F0 m 25 ls []) := by
          intro n25
          induction n25 with
          | zero =>
            intro x3_25 v_size_25 v_codes_25 v_numbers_25 v_left_25 hf
            rw [fX0_fillFrom_L25] at hf
            cases hf
          | succ n25 ih25 =>
            intro x3_25 v_size_25 v_codes_25 v_numbers_25 v_left_25 hf H locs hP hD hS ls hl
            rw [fX0_fillFrom_L25] at hf
            refine lv_iload_n hx hb dX0_fillFrom_25 rfl (lv_at hl 3 rfl) ?_
            refine lv_iconst (v := 4) hx hb dX0_fillFrom_26 (by decide) ?_
            refine lv_icmp_gt (tgt := 98) hx hb dX0_fillFrom_27 (by decide) (fun c_4 => ?_) (fun c_4 => ?_)
            · rw [if_pos c_4] at hf
              have hQ2 := hQ
              rw [← Option.some.inj hf] at hQ2
              exact cx_vret hQ2 hx hb hr hlocks hK hP hD hS dX0_fillFrom_98
            · rw [if_neg c_4] at hf
              refine lv_aload_n hx hb dX0_fillFrom_30 rfl (lv_at hl 0 rfl) ?_
              refine va_get (D := (dC, dI)) (ci := 0) (C := RX0) (T := TX0) (N := 6) hx hb hts (fun _ h => List.mem_cons_of_mem _ (List.mem_append_left _ (List.mem_append_right _ h))) hown hK hP 0 rfl rfl 4 (by decide) (hts (.fieldLink RX0 22 "SkewBoard$Fillings" "numbers" "[I") (List.mem_of_getElem? (i := 3) rfl)) (fun _ h9 => h9) rfl dX0_fillFrom_31 ?_
              refine lv_iload_n hx hb dX0_fillFrom_34 rfl (lv_at hl 1 rfl) ?_
              refine lv_iload_n hx hb dX0_fillFrom_35 rfl (lv_at hl 3 rfl) ?_
              obtain ⟨g_5, hf⟩ := gd_some hf
              refine va_iast hx hb hK hP hD hS 2 0 rfl rfl (inb_vp g_5) dX0_fillFrom_36 (fun H locs hP hD hS => ?_)
              have hP : va_P (dC, dI) vwCl (wX0 cI cB cE a v_size_25 v_kind v_codes_25 (upd v_numbers_25 p1.toNatClampNeg x3_25) v_left_25 v_g_rowOf v_g_columnOf v_g_before v_g_above v_g_rowStart v_g_size) H := hP
              have hD : va_D A (wX0 cI cB cE a v_size_25 v_kind v_codes_25 (upd v_numbers_25 p1.toNatClampNeg x3_25) v_left_25 v_g_rowOf v_g_columnOf v_g_before v_g_above v_g_rowStart v_g_size) := hD
              refine lv_aload_n hx hb dX0_fillFrom_37 rfl (lv_at hl 0 rfl) ?_
              refine va_get (D := (dC, dI)) (ci := 0) (C := RX0) (T := TX0) (N := 6) hx hb hts (fun _ h => List.mem_cons_of_mem _ (List.mem_append_left _ (List.mem_append_right _ h))) hown hK hP 0 rfl rfl 5 (by decide) (hts (.fieldLink RX0 25 "SkewBoard$Fillings" "left" "[I") (List.mem_of_getElem? (i := 4) rfl)) (fun _ h9 => h9) rfl dX0_fillFrom_38 ?_
              refine lv_iload_n hx hb dX0_fillFrom_41 rfl (lv_at hl 3 rfl) ?_
              refine lv_iconst (v := 1) hx hb dX0_fillFrom_42 (by decide) ?_
              refine lv_isub hx hb dX0_fillFrom_43 ?_
              obtain ⟨g_6, hf⟩ := gd_some hf
              refine va_iald hx hb hK hP 3 0 rfl rfl (inb_vp g_6) dX0_fillFrom_44 ?_
              have J92 : ∀ (v_size_92 : Int32) (v_codes_92 : Nat → Int32) (v_numbers_92 : Nat → Int32) (v_left_92 : Nat → Int32), fX0_fillFrom_J92 x3_25 (fX0_fillFrom_L25 v_kind v_g_rowOf v_g_columnOf v_g_before v_g_above v_g_rowStart v_g_size p1 p2 (fX0_fillFrom d) n25) v_size_92 v_codes_92 v_numbers_92 v_left_92 = some fin → ∀ (H : Heap) (locs : List Loc), va_P (dC, dI) vwCl (wX0 cI cB cE a v_size_92 v_kind v_codes_92 v_numbers_92 v_left_92 v_g_rowOf v_g_columnOf v_g_before v_g_above v_g_rowStart v_g_size) H → va_D A (wX0 cI cB cE a v_size_92 v_kind v_codes_92 v_numbers_92 v_left_92 v_g_rowOf v_g_columnOf v_g_before v_g_above v_g_rowStart v_g_size) → va_S A s.heap H locs → ∀ (ls : Array Slot), lv_has ls 4 [(0, .ref (a 0)), (1, .int p1), (2, .int p2), (3, .int x3_25)] → W p l e (rmX0_fillFrom (d + 1)) s m args below meth c H locs 0 0 Q (F0 m 92 ls []) := by
                intro v_size_92 v_codes_92 v_numbers_92 v_left_92 hf H locs hP hD hS ls hl
                unfold fX0_fillFrom_J92 at hf
                refine lv_iinc (v := (x3_25 + 1)) (lv' := [(3, .int (x3_25 + 1)), (0, .ref (a 0)), (1, .int p1), (2, .int p2)]) hx hb dX0_fillFrom_92 hl (k := 3) rfl rfl (by decide) rfl (fun ls hl => ?_)
                refine lv_goto (tgt := 25) hx hb dX0_fillFrom_95 (by decide) ?_
                exact ih25 (x3_25 + 1) v_size_92 v_codes_92 v_numbers_92 v_left_92 hf _ _ hP hD hS ls (lv_sub hl [1, 2, 3, 0] rfl)
              refine lv_if_le (tgt := 92) hx hb dX0_fillFrom_45 (by decide) (fun c_7 => ?_) (fun c_7 => ?_)
              · rw [if_pos c_7] at hf
                exact J92 v_size_25 v_codes_25 (upd v_numbers_25 p1.toNatClampNeg x3_25) v_left_25 hf _ _ hP hD hS ls (lv_sub hl [0, 1, 2, 3] rfl)
              · rw [if_neg c_7] at hf
                refine lv_aload_n hx hb dX0_fillFrom_48 rfl (lv_at hl 0 rfl) ?_
                refine lv_iload_n hx hb dX0_fillFrom_49 rfl (lv_at hl 1 rfl) ?_
                obtain ⟨r_8, hr_8, hf⟩ := bd_some hf
                refine cx_runW (cx_V (As := [.int p1]) (rest := []) ⟨hx, hb, hml, hown, hts⟩ (ctX0_fits l z dC dI cI cB cE a v_size_25 v_kind v_codes_25 (upd v_numbers_25 p1.toNatClampNeg x3_25) v_left_25 v_g_rowOf v_g_columnOf v_g_before v_g_above v_g_rowStart v_g_size p1 r_8 hr_8) (cwV 1 hts gX0_fillFrom_X0_fits rfl rfl rfl (by decide +kernel) ⟨by simp only [rmX0_fillFrom, rmX0_fits]; omega, by simp only [rmX0_fillFrom, rmX0_fits]; omega⟩) hK hP hD hZ hS hA (ci := 0) (q0 := 0) rfl rfl rfl hl.1 rfl (Nat.le_of_ble_eq_true rfl) dX0_fillFrom_50) hD hS hA [.int r_8] rfl (fun H locs hP hD hS => ?_)
                refine lv_if_eq (tgt := 92) hx hb dX0_fillFrom_53 (by decide) (fun c_9 => ?_) (fun c_9 => ?_)
                · rw [if_pos c_9] at hf
                  exact J92 v_size_25 v_codes_25 (upd v_numbers_25 p1.toNatClampNeg x3_25) v_left_25 hf _ _ hP hD hS ls (lv_sub hl [0, 1, 2, 3] rfl)
                · rw [if_neg c_9] at hf
                  refine lv_aload_n hx hb dX0_fillFrom_56 rfl (lv_at hl 0 rfl) ?_
                  refine va_get (D := (dC, dI)) (ci := 0) (C := RX0) (T := TX0) (N := 6) hx hb hts (fun _ h => List.mem_cons_of_mem _ (List.mem_append_left _ (List.mem_append_right _ h))) hown hK hP 0 rfl rfl 5 (by decide) (hts (.fieldLink RX0 25 "SkewBoard$Fillings" "left" "[I") (List.mem_of_getElem? (i := 4) rfl)) (fun _ h9 => h9) rfl dX0_fillFrom_57 ?_
                  refine lv_iload_n hx hb dX0_fillFrom_60 rfl (lv_at hl 3 rfl) ?_
                  refine lv_iconst (v := 1) hx hb dX0_fillFrom_61 (by decide) ?_
                  refine lv_isub hx hb dX0_fillFrom_62 ?_
                  refine lv_dup2_11 hx hb dX0_fillFrom_63 rfl rfl ?_
                  refine va_iald hx hb hK hP 3 0 rfl rfl (inb_vp g_6) dX0_fillFrom_64 ?_
                  refine lv_iconst (v := 1) hx hb dX0_fillFrom_65 (by decide) ?_
                  refine lv_isub hx hb dX0_fillFrom_66 ?_
                  refine va_iast hx hb hK hP hD hS 3 0 rfl rfl (inb_vp g_6) dX0_fillFrom_67 (fun H locs hP hD hS => ?_)
                  have hP : va_P (dC, dI) vwCl (wX0 cI cB cE a v_size_25 v_kind v_codes_25 (upd v_numbers_25 p1.toNatClampNeg x3_25) (upd v_left_25 (x3_25 - 1).toNatClampNeg ((v_left_25 (x3_25 - 1).toNatClampNeg) - 1)) v_g_rowOf v_g_columnOf v_g_before v_g_above v_g_rowStart v_g_size) H := hP
                  have hD : va_D A (wX0 cI cB cE a v_size_25 v_kind v_codes_25 (upd v_numbers_25 p1.toNatClampNeg x3_25) (upd v_left_25 (x3_25 - 1).toNatClampNeg ((v_left_25 (x3_25 - 1).toNatClampNeg) - 1)) v_g_rowOf v_g_columnOf v_g_before v_g_above v_g_rowStart v_g_size) := hD
                  refine lv_aload_n hx hb dX0_fillFrom_68 rfl (lv_at hl 0 rfl) ?_
                  refine lv_iload_n hx hb dX0_fillFrom_69 rfl (lv_at hl 1 rfl) ?_
                  refine lv_iconst (v := 1) hx hb dX0_fillFrom_70 (by decide) ?_
                  refine lv_iadd hx hb dX0_fillFrom_71 ?_
                  refine lv_iload_n hx hb dX0_fillFrom_72 rfl (lv_at hl 2 rfl) ?_
                  refine lv_iload_n hx hb dX0_fillFrom_73 rfl (lv_at hl 3 rfl) ?_
                  obtain ⟨r_10, hr_10, hf⟩ := bd_some hf
                  refine cx_run0 (cx_S (A := A) (As := [.int p2, .int x3_25]) (rest := [.int (p1 + 1), .ref (a 0)]) ⟨hx, hb, hml, hown, hts⟩ (ctX0_codeWith l z dC dI cI cB cE p2 x3_25 r_10 hr_10) (va_cwS 2 hts gX0_fillFrom_X0_codeWith rfl rfl rfl (by decide +kernel) ⟨by simp only [rmX0_fillFrom, rmX0_codeWith]; omega, by simp only [rmX0_fillFrom, rmX0_codeWith]; omega⟩) hK vaP0 vaD0 hZ hS hA rfl hl.1 rfl (Nat.le_of_ble_eq_true rfl) dX0_fillFrom_74) hP hS hA [.int r_10, .int (p1 + 1), .ref (a 0)] rfl (fun H locs hP hS => ?_)
                  obtain ⟨r_11, hr_11, hf⟩ := bd_some hf
                  refine cx_runW (cx_V (As := [.int (p1 + 1), .int r_10]) (rest := []) ⟨hx, hb, hml, hown, hts⟩ (ihd v_size_25 v_kind v_codes_25 (upd v_numbers_25 p1.toNatClampNeg x3_25) (upd v_left_25 (x3_25 - 1).toNatClampNeg ((v_left_25 (x3_25 - 1).toNatClampNeg) - 1)) v_g_rowOf v_g_columnOf v_g_before v_g_above v_g_rowStart v_g_size (p1 + 1) r_10 r_11 hr_11) (cwV 2 hts gX0_fillFrom_X0_fillFrom rfl rfl rfl (by decide +kernel) ⟨by simp only [rmX0_fillFrom, rmX0_fillFrom]; omega, by simp only [rmX0_fillFrom, rmX0_fillFrom]; omega⟩) hK hP hD hZ hS hA (ci := 0) (q0 := 0) rfl rfl rfl hl.1 rfl (Nat.le_of_ble_eq_true rfl) dX0_fillFrom_77) hD hS hA [] rfl (fun H locs hP hD hS => ?_)
                  refine lv_aload_n hx hb dX0_fillFrom_80 rfl (lv_at hl 0 rfl) ?_
                  refine va_get (D := (dC, dI)) (ci := 0) (C := RX0) (T := TX0) (N := 6) hx hb hts (fun _ h => List.mem_cons_of_mem _ (List.mem_append_left _ (List.mem_append_right _ h))) hown hK hP 0 rfl rfl 5 (by decide) (hts (.fieldLink RX0 25 "SkewBoard$Fillings" "left" "[I") (List.mem_of_getElem? (i := 4) rfl)) (fun _ h9 => h9) rfl dX0_fillFrom_81 ?_
                  refine lv_iload_n hx hb dX0_fillFrom_84 rfl (lv_at hl 3 rfl) ?_
                  refine lv_iconst (v := 1) hx hb dX0_fillFrom_85 (by decide) ?_
                  refine lv_isub hx hb dX0_fillFrom_86 ?_
                  refine lv_dup2_11 hx hb dX0_fillFrom_87 rfl rfl ?_
                  refine va_iald hx hb hK hP 3 0 rfl rfl (inb_vp g_6) dX0_fillFrom_88 ?_
                  refine lv_iconst (v := 1) hx hb dX0_fillFrom_89 (by decide) ?_
                  refine lv_iadd hx hb dX0_fillFrom_90 ?_
                  refine va_iast hx hb hK hP hD hS 3 0 rfl rfl (inb_vp g_6) dX0_fillFrom_91 (fun H locs hP hD hS => ?_)
                  have hP : va_P (dC, dI) vwCl (wX0 cI cB cE a r_11.1 v_kind r_11.2.1 r_11.2.2.1 (upd r_11.2.2.2 (x3_25 - 1).toNatClampNeg ((r_11.2.2.2 (x3_25 - 1).toNatClampNeg) + 1)) v_g_rowOf v_g_columnOf v_g_before v_g_above v_g_rowStart v_g_size) H := hP
                  have hD : va_D A (wX0 cI cB cE a r_11.1 v_kind r_11.2.1 r_11.2.2.1 (upd r_11.2.2.2 (x3_25 - 1).toNatClampNeg ((r_11.2.2.2 (x3_25 - 1).toNatClampNeg) + 1)) v_g_rowOf v_g_columnOf v_g_before v_g_above v_g_rowStart v_g_size) := hD
                  exact J92 r_11.1 r_11.2.1 r_11.2.2.1 (upd r_11.2.2.2 (x3_25 - 1).toNatClampNeg ((r_11.2.2.2 (x3_25 - 1).toNatClampNeg) + 1)) hf _ _ hP hD hS ls (lv_sub hl [0, 1, 2, 3] rfl)
        exact L25 fu 1 v_size v_codes v_numbers v_left hf _ _ hP hD hS ls (lv_sub hl [1, 2, 3, 0] rfl)
      · rw [if_neg c_3] at hf
        exact J17 () hf _ _ hP hD hS ls (lv_sub hl [0, 2] rfl)

def fX0_findAll_J62 (v_o1_kind : Int32) (r_1 : (Nat → Int32) × (Nat → Int32) × (Nat → Int32) × (Nat → Int32) × (Nat → Int32) × Int32) (v_size_62 : Int32) (v_codes_62 : Nat → Int32) (v_numbers_62 : Nat → Int32) (v_left_62 : Nat → Int32) : Option (Int32 × Int32 × (Nat → Int32) × (Nat → Int32) × (Nat → Int32) × (Nat → Int32) × (Nat → Int32) × (Nat → Int32) × (Nat → Int32) × (Nat → Int32) × Int32) :=
    some (v_size_62, v_o1_kind, v_codes_62, v_numbers_62, v_left_62, r_1.1, r_1.2.1, r_1.2.2.1, r_1.2.2.2.1, r_1.2.2.2.2.1, r_1.2.2.2.2.2)
def fX0_findAll (v_codes : Nat → Int32) (v_numbers : Nat → Int32) (v_left : Nat → Int32) (v_g_rowOf : Nat → Int32) (v_g_columnOf : Nat → Int32) (v_g_before : Nat → Int32) (v_g_above : Nat → Int32) (v_g_rowStart : Nat → Int32) (v_o1_kind : Int32) (v_o1_rows : Int32) (v_o1_outer : Nat → Int32) (v_o1_inner : Nat → Int32) (v_o1_content : Nat → Int32) : Option (Int32 × Int32 × (Nat → Int32) × (Nat → Int32) × (Nat → Int32) × (Nat → Int32) × (Nat → Int32) × (Nat → Int32) × (Nat → Int32) × (Nat → Int32) × Int32) :=
  bd (fX1_layOut v_g_rowOf v_g_columnOf v_g_before v_g_above v_g_rowStart v_o1_rows v_o1_outer v_o1_inner) (fun r_1 => bd (fX4_isMissing v_o1_rows) (fun r_2 => if r_2 = 0 then (bd (fX4_contentSum v_o1_content) (fun r_4 => if r_4 = r_1.2.2.2.2.2 then (bd (fX0_fillFrom 12 0 0 0 v_o1_kind v_codes v_numbers (va_cpy v_o1_content v_left 0 0 4) r_1.1 r_1.2.1 r_1.2.2.1 r_1.2.2.2.1 r_1.2.2.2.2.1 r_1.2.2.2.2.2) (fun r_6 => fX0_findAll_J62 v_o1_kind r_1 r_6.1 r_6.2.1 r_6.2.2.1 r_6.2.2.2)) else (fX0_findAll_J62 v_o1_kind r_1 0 v_codes v_numbers (va_cpy v_o1_content v_left 0 0 4)))) else (fX0_findAll_J62 v_o1_kind r_1 0 v_codes v_numbers (va_cpy v_o1_content v_left 0 0 4))))
def rmX0_findAll : Room := { frames := 15, cells := 0, slots := 0, locals := 348 }
set_option maxRecDepth 100000 in
set_option maxHeartbeats 4000000 in
theorem ctX0_findAll (l : Launch) (z : Nat × Nat × Nat) (dC : Nat → ClassId) (dI : Nat → Nat → Nat) (cI cB cE : ClassId) (a b : Nat → Nat) (v_size : Int32) (v_kind : Int32) (v_codes : Nat → Int32) (v_numbers : Nat → Int32) (v_left : Nat → Int32) (v_g_rowOf : Nat → Int32) (v_g_columnOf : Nat → Int32) (v_g_before : Nat → Int32) (v_g_above : Nat → Int32) (v_g_rowStart : Nat → Int32) (v_g_size : Int32) (v_o1_kind : Int32) (v_o1_rows : Int32) (v_o1_outer : Nat → Int32) (v_o1_inner : Nat → Int32) (v_o1_content : Nat → Int32) (fin : Int32 × Int32 × (Nat → Int32) × (Nat → Int32) × (Nat → Int32) × (Nat → Int32) × (Nat → Int32) × (Nat → Int32) × (Nat → Int32) × (Nat → Int32) × Int32) (hf : fX0_findAll v_codes v_numbers v_left v_g_rowOf v_g_columnOf v_g_before v_g_above v_g_rowStart v_o1_kind v_o1_rows v_o1_outer v_o1_inner v_o1_content = some fin) : Ct l z (dC, dI) (tyL cI cB cE) yX0_findAll wsX0_findAll rmX0_findAll [.ref (a 0), .ref (b 0)] (wX0 cI cB cE a v_size v_kind v_codes v_numbers v_left v_g_rowOf v_g_columnOf v_g_before v_g_above v_g_rowStart v_g_size ++ wX4 cI cB cE b v_o1_kind v_o1_rows v_o1_outer v_o1_inner v_o1_content) none (wX0 cI cB cE a fin.1 fin.2.1 fin.2.2.1 fin.2.2.2.1 fin.2.2.2.2.1 fin.2.2.2.2.2.1 fin.2.2.2.2.2.2.1 fin.2.2.2.2.2.2.2.1 fin.2.2.2.2.2.2.2.2.1 fin.2.2.2.2.2.2.2.2.2.1 fin.2.2.2.2.2.2.2.2.2.2 ++ wX4 cI cB cE b v_o1_kind v_o1_rows v_o1_outer v_o1_inner v_o1_content) := by
  refine Met.ofC (cc := cX0_findAll) (maxL := 2) (ret := none) (by decide) rfl (Nat.le_of_ble_eq_true rfl) ?_
  intro p e s m args below meth c A Q ls hx hb hr hml hts hown hlocks hA hK hP hD hZ hS hQ hl
  have hown : s.vm.findClass RX0 = some m.cls := hown
  have hl : lv_has ls 2 [(0, .ref (a 0)), (1, .ref (b 0))] := hl
  unfold fX0_findAll at hf
  refine lv_aload_n hx hb dX0_findAll_0 rfl (lv_at hl 0 rfl) ?_
  refine lv_iconst (v := 0) hx hb dX0_findAll_1 (by decide) ?_
  refine va_put (D := (dC, dI)) (ci := 0) (v := .int 0) (ty := .int) (C := RX0) (T := TX0) (N := 6) hx hb hts (fun _ h => List.mem_cons_of_mem _ (List.mem_append_left _ (List.mem_append_left _ (List.mem_append_right _ h)))) tyX0 tyX0_ok nmX0 hown hK hP hD hS 0 rfl rfl 1 (by decide) (hts (.fieldLink RX0 28 "SkewBoard$Fillings" "size" "I") (List.mem_of_getElem? (i := 1) rfl)) (fun _ h9 => h9) rfl (by decide +kernel) rfl rfl (Nat.le_of_ble_eq_true rfl) dX0_findAll_2 (fun H locs hP hD hS => ?_)
  have hP : va_P (dC, dI) vwCl (wX0 cI cB cE a 0 v_kind v_codes v_numbers v_left v_g_rowOf v_g_columnOf v_g_before v_g_above v_g_rowStart v_g_size ++ wX4 cI cB cE b v_o1_kind v_o1_rows v_o1_outer v_o1_inner v_o1_content) H := hP
  have hD : va_D A (wX0 cI cB cE a 0 v_kind v_codes v_numbers v_left v_g_rowOf v_g_columnOf v_g_before v_g_above v_g_rowStart v_g_size ++ wX4 cI cB cE b v_o1_kind v_o1_rows v_o1_outer v_o1_inner v_o1_content) := hD
  refine lv_aload_n hx hb dX0_findAll_5 rfl (lv_at hl 0 rfl) ?_
  refine lv_aload_n hx hb dX0_findAll_6 rfl (lv_at hl 1 rfl) ?_
  refine va_get (D := (dC, dI)) (ci := 4) (C := RX4) (T := TX4) (N := 5) hx hb hts (fun _ h => List.mem_cons_of_mem _ (List.mem_append_left _ (List.mem_append_right _ h))) hown hK hP 10 rfl rfl 0 (by decide) (hts (.fieldLink RX0 32 "SkewBoard$Plan" "kind" "I") (List.mem_of_getElem? (i := 2) rfl)) (fun _ h9 => h9) rfl dX0_findAll_7 ?_
  refine va_put (D := (dC, dI)) (ci := 0) (v := .int v_o1_kind) (ty := .int) (C := RX0) (T := TX0) (N := 6) hx hb hts (fun _ h => List.mem_cons_of_mem _ (List.mem_append_left _ (List.mem_append_left _ (List.mem_append_right _ h)))) tyX0 tyX0_ok nmX0 hown hK hP hD hS 0 rfl rfl 2 (by decide) (hts (.fieldLink RX0 37 "SkewBoard$Fillings" "kind" "I") (List.mem_of_getElem? (i := 3) rfl)) (fun _ h9 => h9) rfl (by decide +kernel) rfl rfl (Nat.le_of_ble_eq_true rfl) dX0_findAll_10 (fun H locs hP hD hS => ?_)
  have hP : va_P (dC, dI) vwCl (wX0 cI cB cE a 0 v_o1_kind v_codes v_numbers v_left v_g_rowOf v_g_columnOf v_g_before v_g_above v_g_rowStart v_g_size ++ wX4 cI cB cE b v_o1_kind v_o1_rows v_o1_outer v_o1_inner v_o1_content) H := hP
  have hD : va_D A (wX0 cI cB cE a 0 v_o1_kind v_codes v_numbers v_left v_g_rowOf v_g_columnOf v_g_before v_g_above v_g_rowStart v_g_size ++ wX4 cI cB cE b v_o1_kind v_o1_rows v_o1_outer v_o1_inner v_o1_content) := hD
  refine lv_aload_n hx hb dX0_findAll_13 rfl (lv_at hl 0 rfl) ?_
  refine va_get (D := (dC, dI)) (ci := 0) (C := RX0) (T := TX0) (N := 6) hx hb hts (fun _ h => List.mem_cons_of_mem _ (List.mem_append_left _ (List.mem_append_left _ (List.mem_append_right _ h)))) hown hK hP 0 rfl rfl 0 (by decide) (hts (.fieldLink RX0 12 "SkewBoard$Fillings" "grid" "LSkewBoard$Grid;") (List.mem_of_getElem? (i := 4) rfl)) (fun _ h9 => h9) rfl dX0_findAll_14 ?_
  refine lv_aload_n hx hb dX0_findAll_17 rfl (lv_at hl 1 rfl) ?_
  obtain ⟨r_1, hr_1, hf⟩ := bd_some hf
  refine cx_run (ws' := (wX0 cI cB cE a 0 v_o1_kind v_codes v_numbers v_left r_1.1 r_1.2.1 r_1.2.2.1 r_1.2.2.2.1 r_1.2.2.2.2.1 r_1.2.2.2.2.2 ++ wX4 cI cB cE b v_o1_kind v_o1_rows v_o1_outer v_o1_inner v_o1_content)) (wr := [((a 0), .inr (0, [.ref (a 4), .int 0, .int v_o1_kind, .ref (a 1), .ref (a 2), .ref (a 3)])), ((a 1), .inl (cI, 400, .inl v_codes)), ((a 2), .inl (cI, 9, .inl v_numbers)), ((a 3), .inl (cI, 4, .inl v_left))]) (cx_V (As := [.ref (b 0)]) (rest := []) ⟨hx, hb, hml, hown, hts⟩ (ctX1_layOut l z dC dI cI cB cE (fun i => a (4 + i)) b v_g_rowOf v_g_columnOf v_g_before v_g_above v_g_rowStart v_g_size v_o1_kind v_o1_rows v_o1_outer v_o1_inner v_o1_content r_1 hr_1) (cwV 1 hts gX0_findAll_X1_layOut rfl rfl rfl (by decide +kernel) ⟨Nat.le_of_ble_eq_true rfl, Nat.le_of_ble_eq_true rfl⟩) hK (hP.sub [4, 5, 6, 7, 8, 9, 10, 11, 12, 13] rfl) (hD.sub [4, 5, 6, 7, 8, 9, 10, 11, 12, 13] (by decide) rfl) hZ hS hA (ci := 1) (q0 := 0) rfl rfl rfl hl.1 rfl (Nat.le_of_ble_eq_true rfl) dX0_findAll_18) hP hD hS hA [4, 5, 6, 7, 8, 9, 10, 11, 12, 13] [0, 1, 2, 3] rfl rfl (by decide) (by decide) [0, 1, 2, 3, 4, 5, 6, 7, 8, 9, 10, 11, 12, 13] (by decide) rfl [] rfl (fun H locs hP hD hS => ?_)
  refine lv_aload_n hx hb dX0_findAll_21 rfl (lv_at hl 1 rfl) ?_
  refine va_get (D := (dC, dI)) (ci := 4) (C := RX4) (T := TX4) (N := 5) hx hb hts (fun _ h => List.mem_cons_of_mem _ (List.mem_append_left _ (List.mem_append_right _ h))) hown hK hP 10 rfl rfl 4 (by decide) (hts (.fieldLink RX0 42 "SkewBoard$Plan" "content" "[I") (List.mem_of_getElem? (i := 5) rfl)) (fun _ h9 => h9) rfl dX0_findAll_22 ?_
  refine lv_iconst (v := 0) hx hb dX0_findAll_25 (by decide) ?_
  refine lv_aload_n hx hb dX0_findAll_26 rfl (lv_at hl 0 rfl) ?_
  refine va_get (D := (dC, dI)) (ci := 0) (C := RX0) (T := TX0) (N := 6) hx hb hts (fun _ h => List.mem_cons_of_mem _ (List.mem_append_left _ (List.mem_append_left _ (List.mem_append_right _ h)))) hown hK hP 0 rfl rfl 5 (by decide) (hts (.fieldLink RX0 25 "SkewBoard$Fillings" "left" "[I") (List.mem_of_getElem? (i := 6) rfl)) (fun _ h9 => h9) rfl dX0_findAll_27 ?_
  refine lv_iconst (v := 0) hx hb dX0_findAll_30 (by decide) ?_
  refine lv_iconst (v := 4) hx hb dX0_findAll_31 (by decide) ?_
  refine va_copyi (n := 4) (sp := 0) (dp := 0) (ty := .int) hx hb (hml.trans hl.1.symm) hown (hts (.methodLink RX0 45 arraycopyName) (List.mem_of_getElem? (i := 7) rfl)) (hts (.native arraycopyName) (List.mem_of_getElem? (i := 8) rfl)) (hts (.static arraycopyName) (List.mem_of_getElem? (i := 9) rfl)) (hts (.initialized "java/lang/System") (List.mem_of_getElem? (i := 10) rfl)) hK hP hD hS 13 3 0 0 rfl rfl rfl rfl rfl (by decide) (by decide) (by decide) (by decide) (by decide) (fun _ _ => rfl) (Nat.le_of_ble_eq_true rfl) (Nat.le_of_ble_eq_true rfl) dX0_findAll_32 (fun H locs hP hD hS => ?_)
  have hP : va_P (dC, dI) vwCl (wX0 cI cB cE a 0 v_o1_kind v_codes v_numbers (va_cpy v_o1_content v_left 0 0 4) r_1.1 r_1.2.1 r_1.2.2.1 r_1.2.2.2.1 r_1.2.2.2.2.1 r_1.2.2.2.2.2 ++ wX4 cI cB cE b v_o1_kind v_o1_rows v_o1_outer v_o1_inner v_o1_content) H := hP
  have hD : va_D A (wX0 cI cB cE a 0 v_o1_kind v_codes v_numbers (va_cpy v_o1_content v_left 0 0 4) r_1.1 r_1.2.1 r_1.2.2.1 r_1.2.2.2.1 r_1.2.2.2.2.1 r_1.2.2.2.2.2 ++ wX4 cI cB cE b v_o1_kind v_o1_rows v_o1_outer v_o1_inner v_o1_content) := hD
  refine lv_aload_n hx hb dX0_findAll_35 rfl (lv_at hl 1 rfl) ?_
  obtain ⟨r_2, hr_2, hf⟩ := bd_some hf
  refine cx_run (ws' := (wX0 cI cB cE a 0 v_o1_kind v_codes v_numbers (va_cpy v_o1_content v_left 0 0 4) r_1.1 r_1.2.1 r_1.2.2.1 r_1.2.2.2.1 r_1.2.2.2.2.1 r_1.2.2.2.2.2 ++ wX4 cI cB cE b v_o1_kind v_o1_rows v_o1_outer v_o1_inner v_o1_content)) (wr := [((a 0), .inr (0, [.ref (a 4), .int 0, .int v_o1_kind, .ref (a 1), .ref (a 2), .ref (a 3)])), ((a 1), .inl (cI, 400, .inl v_codes)), ((a 2), .inl (cI, 9, .inl v_numbers)), ((a 3), .inl (cI, 4, .inl (va_cpy v_o1_content v_left 0 0 4))), ((a 4), .inr (1, [.ref (a 5), .ref (a 6), .ref (a 7), .ref (a 8), .ref (a 9), .int r_1.2.2.2.2.2])), ((a 5), .inl (cI, 9, .inl r_1.1)), ((a 6), .inl (cI, 9, .inl r_1.2.1)), ((a 7), .inl (cI, 9, .inl r_1.2.2.1)), ((a 8), .inl (cI, 9, .inl r_1.2.2.2.1)), ((a 9), .inl (cI, 9, .inl r_1.2.2.2.2.1))]) (cx_V (As := []) (rest := []) ⟨hx, hb, hml, hown, hts⟩ (ctX4_isMissing l z dC dI cI cB cE b v_o1_kind v_o1_rows v_o1_outer v_o1_inner v_o1_content r_2 hr_2) (cwV 0 hts gX0_findAll_X4_isMissing rfl rfl rfl (by decide +kernel) ⟨Nat.le_of_ble_eq_true rfl, Nat.le_of_ble_eq_true rfl⟩) hK (hP.sub [10, 11, 12, 13] rfl) (hD.sub [10, 11, 12, 13] (by decide) rfl) hZ hS hA (ci := 4) (q0 := 0) rfl rfl rfl hl.1 rfl (Nat.le_of_ble_eq_true rfl) dX0_findAll_36) hP hD hS hA [10, 11, 12, 13] [0, 1, 2, 3, 4, 5, 6, 7, 8, 9] rfl rfl (by decide) (by decide) [0, 1, 2, 3, 4, 5, 6, 7, 8, 9, 10, 11, 12, 13] (by decide) rfl [.int r_2] rfl (fun H locs hP hD hS => ?_)
  have J62 : ∀ (v_size_62 : Int32) (v_codes_62 : Nat → Int32) (v_numbers_62 : Nat → Int32) (v_left_62 : Nat → Int32), fX0_findAll_J62 v_o1_kind r_1 v_size_62 v_codes_62 v_numbers_62 v_left_62 = some fin → ∀ (H : Heap) (locs : List Loc), va_P (dC, dI) vwCl (wX0 cI cB cE a v_size_62 v_o1_kind v_codes_62 v_numbers_62 v_left_62 r_1.1 r_1.2.1 r_1.2.2.1 r_1.2.2.2.1 r_1.2.2.2.2.1 r_1.2.2.2.2.2 ++ wX4 cI cB cE b v_o1_kind v_o1_rows v_o1_outer v_o1_inner v_o1_content) H → va_D A (wX0 cI cB cE a v_size_62 v_o1_kind v_codes_62 v_numbers_62 v_left_62 r_1.1 r_1.2.1 r_1.2.2.1 r_1.2.2.2.1 r_1.2.2.2.2.1 r_1.2.2.2.2.2 ++ wX4 cI cB cE b v_o1_kind v_o1_rows v_o1_outer v_o1_inner v_o1_content) → va_S A s.heap H locs → ∀ (ls : Array Slot), lv_has ls 2 [] → W p l e rmX0_findAll s m args below meth c H locs 0 0 Q (F0 m 62 ls []) := by
    intro v_size_62 v_codes_62 v_numbers_62 v_left_62 hf H locs hP hD hS ls hl
    unfold fX0_findAll_J62 at hf
    have hQ2 := hQ
    rw [← Option.some.inj hf] at hQ2
    exact cx_vret hQ2 hx hb hr hlocks hK hP hD hS dX0_findAll_62
  refine lv_if_ne (tgt := 62) hx hb dX0_findAll_39 (by decide) (fun c_3 => ?_) (fun c_3 => ?_)
  · rw [if_neg c_3] at hf
    exact J62 0 v_codes v_numbers (va_cpy v_o1_content v_left 0 0 4) hf _ _ hP hD hS ls (lv_sub hl [] rfl)
  · rw [if_pos c_3] at hf
    refine lv_aload_n hx hb dX0_findAll_42 rfl (lv_at hl 1 rfl) ?_
    obtain ⟨r_4, hr_4, hf⟩ := bd_some hf
    refine cx_run (ws' := (wX0 cI cB cE a 0 v_o1_kind v_codes v_numbers (va_cpy v_o1_content v_left 0 0 4) r_1.1 r_1.2.1 r_1.2.2.1 r_1.2.2.2.1 r_1.2.2.2.2.1 r_1.2.2.2.2.2 ++ wX4 cI cB cE b v_o1_kind v_o1_rows v_o1_outer v_o1_inner v_o1_content)) (wr := [((a 0), .inr (0, [.ref (a 4), .int 0, .int v_o1_kind, .ref (a 1), .ref (a 2), .ref (a 3)])), ((a 1), .inl (cI, 400, .inl v_codes)), ((a 2), .inl (cI, 9, .inl v_numbers)), ((a 3), .inl (cI, 4, .inl (va_cpy v_o1_content v_left 0 0 4))), ((a 4), .inr (1, [.ref (a 5), .ref (a 6), .ref (a 7), .ref (a 8), .ref (a 9), .int r_1.2.2.2.2.2])), ((a 5), .inl (cI, 9, .inl r_1.1)), ((a 6), .inl (cI, 9, .inl r_1.2.1)), ((a 7), .inl (cI, 9, .inl r_1.2.2.1)), ((a 8), .inl (cI, 9, .inl r_1.2.2.2.1)), ((a 9), .inl (cI, 9, .inl r_1.2.2.2.2.1))]) (cx_V (As := []) (rest := []) ⟨hx, hb, hml, hown, hts⟩ (ctX4_contentSum l z dC dI cI cB cE b v_o1_kind v_o1_rows v_o1_outer v_o1_inner v_o1_content r_4 hr_4) (cwV 0 hts gX0_findAll_X4_contentSum rfl rfl rfl (by decide +kernel) ⟨Nat.le_of_ble_eq_true rfl, Nat.le_of_ble_eq_true rfl⟩) hK (hP.sub [10, 11, 12, 13] rfl) (hD.sub [10, 11, 12, 13] (by decide) rfl) hZ hS hA (ci := 4) (q0 := 0) rfl rfl rfl hl.1 rfl (Nat.le_of_ble_eq_true rfl) dX0_findAll_43) hP hD hS hA [10, 11, 12, 13] [0, 1, 2, 3, 4, 5, 6, 7, 8, 9] rfl rfl (by decide) (by decide) [0, 1, 2, 3, 4, 5, 6, 7, 8, 9, 10, 11, 12, 13] (by decide) rfl [.int r_4] rfl (fun H locs hP hD hS => ?_)
    refine lv_aload_n hx hb dX0_findAll_46 rfl (lv_at hl 0 rfl) ?_
    refine va_get (D := (dC, dI)) (ci := 0) (C := RX0) (T := TX0) (N := 6) hx hb hts (fun _ h => List.mem_cons_of_mem _ (List.mem_append_left _ (List.mem_append_left _ (List.mem_append_right _ h)))) hown hK hP 0 rfl rfl 0 (by decide) (hts (.fieldLink RX0 12 "SkewBoard$Fillings" "grid" "LSkewBoard$Grid;") (List.mem_of_getElem? (i := 4) rfl)) (fun _ h9 => h9) rfl dX0_findAll_47 ?_
    refine va_get (D := (dC, dI)) (ci := 1) (C := RX1) (T := TX1) (N := 6) hx hb hts (fun _ h => List.mem_cons_of_mem _ (List.mem_append_right _ h)) hown hK hP 4 rfl rfl 5 (by decide) (hts (.fieldLink RX0 59 "SkewBoard$Grid" "size" "I") (List.mem_of_getElem? (i := 11) rfl)) (fun _ h9 => h9) rfl dX0_findAll_50 ?_
    refine lv_icmp_ne (tgt := 62) hx hb dX0_findAll_53 (by decide) (fun c_5 => ?_) (fun c_5 => ?_)
    · rw [if_neg c_5] at hf
      exact J62 0 v_codes v_numbers (va_cpy v_o1_content v_left 0 0 4) hf _ _ hP hD hS ls (lv_sub hl [] rfl)
    · rw [if_pos c_5] at hf
      refine lv_aload_n hx hb dX0_findAll_56 rfl (lv_at hl 0 rfl) ?_
      refine lv_iconst (v := 0) hx hb dX0_findAll_57 (by decide) ?_
      refine lv_iconst (v := 0) hx hb dX0_findAll_58 (by decide) ?_
      obtain ⟨r_6, hr_6, hf⟩ := bd_some hf
      refine cx_run (ws' := (wX0 cI cB cE a r_6.1 v_o1_kind r_6.2.1 r_6.2.2.1 r_6.2.2.2 r_1.1 r_1.2.1 r_1.2.2.1 r_1.2.2.2.1 r_1.2.2.2.2.1 r_1.2.2.2.2.2 ++ wX4 cI cB cE b v_o1_kind v_o1_rows v_o1_outer v_o1_inner v_o1_content)) (wr := [((b 0), .inr (4, [.int v_o1_kind, .int v_o1_rows, .ref (b 1), .ref (b 2), .ref (b 3)])), ((b 1), .inl (cI, 4, .inl v_o1_outer)), ((b 2), .inl (cI, 4, .inl v_o1_inner)), ((b 3), .inl (cI, 4, .inl v_o1_content))]) (cx_V (As := [.int 0, .int 0]) (rest := []) ⟨hx, hb, hml, hown, hts⟩ (ctX0_fillFrom l z dC dI cI cB cE a 12 0 v_o1_kind v_codes v_numbers (va_cpy v_o1_content v_left 0 0 4) r_1.1 r_1.2.1 r_1.2.2.1 r_1.2.2.2.1 r_1.2.2.2.2.1 r_1.2.2.2.2.2 0 0 r_6 hr_6) (cwV 2 hts gX0_findAll_X0_fillFrom rfl rfl rfl (by decide +kernel) ⟨Nat.le_of_ble_eq_true rfl, Nat.le_of_ble_eq_true rfl⟩) hK (hP.sub [0, 1, 2, 3, 4, 5, 6, 7, 8, 9] rfl) (hD.sub [0, 1, 2, 3, 4, 5, 6, 7, 8, 9] (by decide) rfl) hZ hS hA (ci := 0) (q0 := 0) rfl rfl rfl hl.1 rfl (Nat.le_of_ble_eq_true rfl) dX0_findAll_59) hP hD hS hA [0, 1, 2, 3, 4, 5, 6, 7, 8, 9] [10, 11, 12, 13] rfl rfl (by decide) (by decide) [4, 5, 6, 7, 8, 9, 10, 11, 12, 13, 0, 1, 2, 3] (by decide) rfl [] rfl (fun H locs hP hD hS => ?_)
      exact J62 r_6.1 r_6.2.1 r_6.2.2.1 r_6.2.2.2 hf _ _ hP hD hS ls (lv_sub hl [] rfl)

def fX0_hasFilling_J17 (y0_17 : Int32) : Option (Int32) :=
    gd (isb y0_17) (some y0_17)
def fX0_hasFilling_J16 (k17 : Int32 → Option (Int32)) (u_16 : Unit) : Option (Int32) :=
    k17 0
def fX0_hasFilling (p1 : Int32) (v_size : Int32) : Option (Int32) :=
  if p1 < 0 then (fX0_hasFilling_J16 fX0_hasFilling_J17 ()) else (if v_size ≤ p1 then (fX0_hasFilling_J16 fX0_hasFilling_J17 ()) else (fX0_hasFilling_J17 1))
def rmX0_hasFilling : Room := { frames := 0, cells := 0, slots := 0, locals := 0 }
set_option maxRecDepth 100000 in
set_option maxHeartbeats 4000000 in
theorem ctX0_hasFilling (l : Launch) (z : Nat × Nat × Nat) (dC : Nat → ClassId) (dI : Nat → Nat → Nat) (cI cB cE : ClassId) (a : Nat → Nat) (v_size : Int32) (v_kind : Int32) (v_codes : Nat → Int32) (v_numbers : Nat → Int32) (v_left : Nat → Int32) (v_g_rowOf : Nat → Int32) (v_g_columnOf : Nat → Int32) (v_g_before : Nat → Int32) (v_g_above : Nat → Int32) (v_g_rowStart : Nat → Int32) (v_g_size : Int32) (p1 : Int32) (fin : Int32) (hf : fX0_hasFilling p1 v_size = some fin) : Ct l z (dC, dI) (tyL cI cB cE) yX0_hasFilling wsX0_hasFilling rmX0_hasFilling [.ref (a 0), .int p1] (wX0 cI cB cE a v_size v_kind v_codes v_numbers v_left v_g_rowOf v_g_columnOf v_g_before v_g_above v_g_rowStart v_g_size) (some (.int fin)) (wX0 cI cB cE a v_size v_kind v_codes v_numbers v_left v_g_rowOf v_g_columnOf v_g_before v_g_above v_g_rowStart v_g_size) := by
  refine Met.ofC (cc := cX0_hasFilling) (maxL := 2) (ret := (some .boolean)) (by decide) rfl (Nat.le_of_ble_eq_true rfl) ?_
  intro p e s m args below meth c A Q ls hx hb hr hml hts hown hlocks hA hK hP hD hZ hS hQ hl
  have hown : s.vm.findClass RX0 = some m.cls := hown
  have hl : lv_has ls 2 [(0, .ref (a 0)), (1, .int p1)] := hl
  unfold fX0_hasFilling at hf
  refine lv_iload_n hx hb dX0_hasFilling_0 rfl (lv_at hl 1 rfl) ?_
  have J17 : ∀ (y0_17 : Int32), fX0_hasFilling_J17  y0_17 = some fin → ∀ (H : Heap) (locs : List Loc), va_P (dC, dI) vwCl (wX0 cI cB cE a v_size v_kind v_codes v_numbers v_left v_g_rowOf v_g_columnOf v_g_before v_g_above v_g_rowStart v_g_size) H → va_D A (wX0 cI cB cE a v_size v_kind v_codes v_numbers v_left v_g_rowOf v_g_columnOf v_g_before v_g_above v_g_rowStart v_g_size) → va_S A s.heap H locs → ∀ (ls : Array Slot), lv_has ls 2 [] → W p l e rmX0_hasFilling s m args below meth c H locs 0 0 Q (F0 m 17 ls [.int y0_17]) := by
    intro y0_17 hf H locs hP hD hS ls hl
    unfold fX0_hasFilling_J17 at hf
    obtain ⟨g_1, hf⟩ := gd_some hf
    have hQ2 := hQ
    rw [← Option.some.inj hf] at hQ2
    exact cx_zret (isb_nar g_1) hQ2 hx hb hr hlocks hK hP hD hS dX0_hasFilling_17
  have J16 : ∀ (u_16 : Unit), fX0_hasFilling_J16 (fX0_hasFilling_J17) u_16 = some fin → ∀ (H : Heap) (locs : List Loc), va_P (dC, dI) vwCl (wX0 cI cB cE a v_size v_kind v_codes v_numbers v_left v_g_rowOf v_g_columnOf v_g_before v_g_above v_g_rowStart v_g_size) H → va_D A (wX0 cI cB cE a v_size v_kind v_codes v_numbers v_left v_g_rowOf v_g_columnOf v_g_before v_g_above v_g_rowStart v_g_size) → va_S A s.heap H locs → ∀ (ls : Array Slot), lv_has ls 2 [] → W p l e rmX0_hasFilling s m args below meth c H locs 0 0 Q (F0 m 16 ls []) := by
    intro u_16 hf H locs hP hD hS ls hl
    unfold fX0_hasFilling_J16 at hf
    refine lv_iconst (v := 0) hx hb dX0_hasFilling_16 (by decide) ?_
    exact J17 0 hf _ _ hP hD hS ls (lv_sub hl [] rfl)
  refine lv_if_lt (tgt := 16) hx hb dX0_hasFilling_1 (by decide) (fun c_2 => ?_) (fun c_2 => ?_)
  · rw [if_pos c_2] at hf
    exact J16 () hf _ _ hP hD hS ls (lv_sub hl [] rfl)
  · rw [if_neg c_2] at hf
    refine lv_iload_n hx hb dX0_hasFilling_4 rfl (lv_at hl 1 rfl) ?_
    refine lv_aload_n hx hb dX0_hasFilling_5 rfl (lv_at hl 0 rfl) ?_
    refine va_get (D := (dC, dI)) (ci := 0) (C := RX0) (T := TX0) (N := 6) hx hb hts (fun _ h => List.mem_cons_of_mem _ (List.mem_append_right _ h)) hown hK hP 0 rfl rfl 1 (by decide) (hts (.fieldLink RX0 28 "SkewBoard$Fillings" "size" "I") (List.mem_of_getElem? (i := 1) rfl)) (fun _ h9 => h9) rfl dX0_hasFilling_6 ?_
    refine lv_icmp_ge (tgt := 16) hx hb dX0_hasFilling_9 (by decide) (fun c_3 => ?_) (fun c_3 => ?_)
    · rw [if_pos c_3] at hf
      exact J16 () hf _ _ hP hD hS ls (lv_sub hl [] rfl)
    · rw [if_neg c_3] at hf
      refine lv_iconst (v := 1) hx hb dX0_hasFilling_12 (by decide) ?_
      refine lv_goto (tgt := 17) hx hb dX0_hasFilling_13 (by decide) ?_
      exact J17 1 hf _ _ hP hD hS ls (lv_sub hl [] rfl)

def fX0_numberIn (p1 : Int32) (p2 : Int32) (v_codes : Nat → Int32) (v_g_size : Int32) : Option (Int32) :=
  gd (inb p1 400) (some (1 + (((v_codes p1.toNatClampNeg) >>> ((2 * ((v_g_size - 1) - p2)) &&& 31)) &&& 3)))
def rmX0_numberIn : Room := { frames := 0, cells := 0, slots := 0, locals := 0 }
set_option maxRecDepth 100000 in
set_option maxHeartbeats 4000000 in
theorem ctX0_numberIn (l : Launch) (z : Nat × Nat × Nat) (dC : Nat → ClassId) (dI : Nat → Nat → Nat) (cI cB cE : ClassId) (a : Nat → Nat) (v_size : Int32) (v_kind : Int32) (v_codes : Nat → Int32) (v_numbers : Nat → Int32) (v_left : Nat → Int32) (v_g_rowOf : Nat → Int32) (v_g_columnOf : Nat → Int32) (v_g_before : Nat → Int32) (v_g_above : Nat → Int32) (v_g_rowStart : Nat → Int32) (v_g_size : Int32) (p1 : Int32) (p2 : Int32) (fin : Int32) (hf : fX0_numberIn p1 p2 v_codes v_g_size = some fin) : Ct l z (dC, dI) (tyL cI cB cE) yX0_numberIn wsX0_numberIn rmX0_numberIn [.ref (a 0), .int p1, .int p2] (wX0 cI cB cE a v_size v_kind v_codes v_numbers v_left v_g_rowOf v_g_columnOf v_g_before v_g_above v_g_rowStart v_g_size) (some (.int fin)) (wX0 cI cB cE a v_size v_kind v_codes v_numbers v_left v_g_rowOf v_g_columnOf v_g_before v_g_above v_g_rowStart v_g_size) := by
  refine Met.ofC (cc := cX0_numberIn) (maxL := 4) (ret := (some .int)) (by decide) rfl (Nat.le_of_ble_eq_true rfl) ?_
  intro p e s m args below meth c A Q ls hx hb hr hml hts hown hlocks hA hK hP hD hZ hS hQ hl
  have hown : s.vm.findClass RX0 = some m.cls := hown
  have hl : lv_has ls 4 [(0, .ref (a 0)), (1, .int p1), (2, .int p2)] := hl
  unfold fX0_numberIn at hf
  refine lv_iconst (v := 2) hx hb dX0_numberIn_0 (by decide) ?_
  refine lv_aload_n hx hb dX0_numberIn_1 rfl (lv_at hl 0 rfl) ?_
  refine va_get (D := (dC, dI)) (ci := 0) (C := RX0) (T := TX0) (N := 6) hx hb hts (fun _ h => List.mem_cons_of_mem _ (List.mem_append_left _ (List.mem_append_right _ h))) hown hK hP 0 rfl rfl 0 (by decide) (hts (.fieldLink RX0 12 "SkewBoard$Fillings" "grid" "LSkewBoard$Grid;") (List.mem_of_getElem? (i := 1) rfl)) (fun _ h9 => h9) rfl dX0_numberIn_2 ?_
  refine va_get (D := (dC, dI)) (ci := 1) (C := RX1) (T := TX1) (N := 6) hx hb hts (fun _ h => List.mem_cons_of_mem _ (List.mem_append_right _ h)) hown hK hP 4 rfl rfl 5 (by decide) (hts (.fieldLink RX0 59 "SkewBoard$Grid" "size" "I") (List.mem_of_getElem? (i := 2) rfl)) (fun _ h9 => h9) rfl dX0_numberIn_5 ?_
  refine lv_iconst (v := 1) hx hb dX0_numberIn_8 (by decide) ?_
  refine lv_isub hx hb dX0_numberIn_9 ?_
  refine lv_iload_n hx hb dX0_numberIn_10 rfl (lv_at hl 2 rfl) ?_
  refine lv_isub hx hb dX0_numberIn_11 ?_
  refine lv_imul hx hb dX0_numberIn_12 ?_
  refine lv_istore_n (lv' := [(3, .int (2 * ((v_g_size - 1) - p2))), (0, .ref (a 0)), (1, .int p1), (2, .int p2)]) hx hb dX0_numberIn_13 rfl hl (by decide) rfl (fun ls hl => ?_)
  refine lv_iconst (v := 1) hx hb dX0_numberIn_14 (by decide) ?_
  refine lv_aload_n hx hb dX0_numberIn_15 rfl (lv_at hl 1 rfl) ?_
  refine va_get (D := (dC, dI)) (ci := 0) (C := RX0) (T := TX0) (N := 6) hx hb hts (fun _ h => List.mem_cons_of_mem _ (List.mem_append_left _ (List.mem_append_right _ h))) hown hK hP 0 rfl rfl 3 (by decide) (hts (.fieldLink RX0 18 "SkewBoard$Fillings" "codes" "[I") (List.mem_of_getElem? (i := 3) rfl)) (fun _ h9 => h9) rfl dX0_numberIn_16 ?_
  refine lv_iload_n hx hb dX0_numberIn_19 rfl (lv_at hl 2 rfl) ?_
  obtain ⟨g_1, hf⟩ := gd_some hf
  refine va_iald hx hb hK hP 1 0 rfl rfl (inb_vp g_1) dX0_numberIn_20 ?_
  refine lv_iload_n hx hb dX0_numberIn_21 rfl (lv_at hl 0 rfl) ?_
  refine lv_ishr hx hb dX0_numberIn_22 ?_
  refine lv_iconst (v := 3) hx hb dX0_numberIn_23 (by decide) ?_
  refine lv_iand hx hb dX0_numberIn_24 ?_
  refine lv_iadd hx hb dX0_numberIn_25 ?_
  have hQ2 := hQ
  rw [← Option.some.inj hf] at hQ2
  exact cx_iret hQ2 hx hb hr hlocks hK hP hD hS dX0_numberIn_26

def fX0_boxesUpTo_J46 (x5_6 : Int32) (k6 : Int32 → Int32 → Option (Int32)) (x4_46 : Int32) : Option (Int32) :=
    k6 x4_46 (x5_6 + 1)
def fX0_boxesUpTo_L6 (v_codes : Nat → Int32) (v_g_rowOf : Nat → Int32) (v_g_size : Int32) (p1 : Int32) (p2 : Int32) (p3 : Int32) : Nat → Int32 → Int32 → Option (Int32)
  | 0, _, _ => none
  | n + 1, x4_6, x5_6 =>
    if v_g_size ≤ x5_6 then (some x4_6) else (gd (inb x5_6 9) (if p2 ≤ (v_g_rowOf x5_6.toNatClampNeg) then (fX0_boxesUpTo_J46 x5_6 (fX0_boxesUpTo_L6 v_codes v_g_rowOf v_g_size p1 p2 p3 n) x4_6) else (bd (fX0_numberIn p1 x5_6 v_codes v_g_size) (fun r_4 => if p3 < r_4 then (fX0_boxesUpTo_J46 x5_6 (fX0_boxesUpTo_L6 v_codes v_g_rowOf v_g_size p1 p2 p3 n) x4_6) else (fX0_boxesUpTo_J46 x5_6 (fX0_boxesUpTo_L6 v_codes v_g_rowOf v_g_size p1 p2 p3 n) (x4_6 + 1))))))
def fX0_boxesUpTo (p1 : Int32) (p2 : Int32) (p3 : Int32) (v_codes : Nat → Int32) (v_g_rowOf : Nat → Int32) (v_g_size : Int32) : Option (Int32) :=
  fX0_boxesUpTo_L6 v_codes v_g_rowOf v_g_size p1 p2 p3 fu 0 0
def rmX0_boxesUpTo : Room := { frames := 1, cells := 0, slots := 0, locals := 23 }
set_option maxRecDepth 100000 in
set_option maxHeartbeats 4000000 in
theorem ctX0_boxesUpTo (l : Launch) (z : Nat × Nat × Nat) (dC : Nat → ClassId) (dI : Nat → Nat → Nat) (cI cB cE : ClassId) (a : Nat → Nat) (v_size : Int32) (v_kind : Int32) (v_codes : Nat → Int32) (v_numbers : Nat → Int32) (v_left : Nat → Int32) (v_g_rowOf : Nat → Int32) (v_g_columnOf : Nat → Int32) (v_g_before : Nat → Int32) (v_g_above : Nat → Int32) (v_g_rowStart : Nat → Int32) (v_g_size : Int32) (p1 : Int32) (p2 : Int32) (p3 : Int32) (fin : Int32) (hf : fX0_boxesUpTo p1 p2 p3 v_codes v_g_rowOf v_g_size = some fin) : Ct l z (dC, dI) (tyL cI cB cE) yX0_boxesUpTo wsX0_boxesUpTo rmX0_boxesUpTo [.ref (a 0), .int p1, .int p2, .int p3] (wX0 cI cB cE a v_size v_kind v_codes v_numbers v_left v_g_rowOf v_g_columnOf v_g_before v_g_above v_g_rowStart v_g_size) (some (.int fin)) (wX0 cI cB cE a v_size v_kind v_codes v_numbers v_left v_g_rowOf v_g_columnOf v_g_before v_g_above v_g_rowStart v_g_size) := by
  refine Met.ofC (cc := cX0_boxesUpTo) (maxL := 6) (ret := (some .int)) (by decide) rfl (Nat.le_of_ble_eq_true rfl) ?_
  intro p e s m args below meth c A Q ls hx hb hr hml hts hown hlocks hA hK hP hD hZ hS hQ hl
  have hown : s.vm.findClass RX0 = some m.cls := hown
  have hl : lv_has ls 6 [(0, .ref (a 0)), (1, .int p1), (2, .int p2), (3, .int p3)] := hl
  unfold fX0_boxesUpTo at hf
  refine lv_iconst (v := 0) hx hb dX0_boxesUpTo_0 (by decide) ?_
  refine lv_istore (lv' := [(4, .int 0), (0, .ref (a 0)), (1, .int p1), (2, .int p2), (3, .int p3)]) hx hb dX0_boxesUpTo_1 hl (by decide) rfl (fun ls hl => ?_)
  refine lv_iconst (v := 0) hx hb dX0_boxesUpTo_3 (by decide) ?_
  refine lv_istore (lv' := [(5, .int 0), (4, .int 0), (0, .ref (a 0)), (1, .int p1), (2, .int p2), (3, .int p3)]) hx hb dX0_boxesUpTo_4 hl (by decide) rfl (fun ls hl => ?_)
  have L6 : ∀ (n6 : Nat) (x4_6 : Int32) (x5_6 : Int32), fX0_boxesUpTo_L6 v_codes v_g_rowOf v_g_size p1 p2 p3 n6 x4_6 x5_6 = some fin → ∀ (H : Heap) (locs : List Loc), va_P (dC, dI) vwCl (wX0 cI cB cE a v_size v_kind v_codes v_numbers v_left v_g_rowOf v_g_columnOf v_g_before v_g_above v_g_rowStart v_g_size) H → va_D A (wX0 cI cB cE a v_size v_kind v_codes v_numbers v_left v_g_rowOf v_g_columnOf v_g_before v_g_above v_g_rowStart v_g_size) → va_S A s.heap H locs → ∀ (ls : Array Slot), lv_has ls 6 [(0, .ref (a 0)), (1, .int p1), (2, .int p2), (3, .int p3), (4, .int x4_6), (5, .int x5_6)] → W p l e rmX0_boxesUpTo s m args below meth c H locs 0 0 Q (F0 m 6 ls []) := by
    intro n6
    induction n6 with
    | zero =>
      intro x4_6 x5_6 hf
      rw [fX0_boxesUpTo_L6] at hf
      cases hf
    | succ n6 ih6 =>
      intro x4_6 x5_6 hf H locs hP hD hS ls hl
      rw [fX0_boxesUpTo_L6] at hf
      refine lv_iload hx hb dX0_boxesUpTo_6 (lv_at hl 5 rfl) ?_
      refine lv_aload_n hx hb dX0_boxesUpTo_8 rfl (lv_at hl 0 rfl) ?_
      refine va_get (D := (dC, dI)) (ci := 0) (C := RX0) (T := TX0) (N := 6) hx hb hts (fun _ h => List.mem_cons_of_mem _ (List.mem_append_left _ (List.mem_append_right _ h))) hown hK hP 0 rfl rfl 0 (by decide) (hts (.fieldLink RX0 12 "SkewBoard$Fillings" "grid" "LSkewBoard$Grid;") (List.mem_of_getElem? (i := 1) rfl)) (fun _ h9 => h9) rfl dX0_boxesUpTo_9 ?_
      refine va_get (D := (dC, dI)) (ci := 1) (C := RX1) (T := TX1) (N := 6) hx hb hts (fun _ h => List.mem_cons_of_mem _ (List.mem_append_right _ h)) hown hK hP 4 rfl rfl 5 (by decide) (hts (.fieldLink RX0 59 "SkewBoard$Grid" "size" "I") (List.mem_of_getElem? (i := 2) rfl)) (fun _ h9 => h9) rfl dX0_boxesUpTo_12 ?_
      refine lv_icmp_ge (tgt := 52) hx hb dX0_boxesUpTo_15 (by decide) (fun c_1 => ?_) (fun c_1 => ?_)
      · rw [if_pos c_1] at hf
        refine lv_iload hx hb dX0_boxesUpTo_52 (lv_at hl 4 rfl) ?_
        have hQ2 := hQ
        rw [← Option.some.inj hf] at hQ2
        exact cx_iret hQ2 hx hb hr hlocks hK hP hD hS dX0_boxesUpTo_54
      · rw [if_neg c_1] at hf
        refine lv_aload_n hx hb dX0_boxesUpTo_18 rfl (lv_at hl 0 rfl) ?_
        refine va_get (D := (dC, dI)) (ci := 0) (C := RX0) (T := TX0) (N := 6) hx hb hts (fun _ h => List.mem_cons_of_mem _ (List.mem_append_left _ (List.mem_append_right _ h))) hown hK hP 0 rfl rfl 0 (by decide) (hts (.fieldLink RX0 12 "SkewBoard$Fillings" "grid" "LSkewBoard$Grid;") (List.mem_of_getElem? (i := 1) rfl)) (fun _ h9 => h9) rfl dX0_boxesUpTo_19 ?_
        refine va_get (D := (dC, dI)) (ci := 1) (C := RX1) (T := TX1) (N := 6) hx hb hts (fun _ h => List.mem_cons_of_mem _ (List.mem_append_right _ h)) hown hK hP 4 rfl rfl 0 (by decide) (hts (.fieldLink RX0 76 "SkewBoard$Grid" "rowOf" "[I") (List.mem_of_getElem? (i := 3) rfl)) (fun _ h9 => h9) rfl dX0_boxesUpTo_22 ?_
        refine lv_iload hx hb dX0_boxesUpTo_25 (lv_at hl 5 rfl) ?_
        obtain ⟨g_2, hf⟩ := gd_some hf
        refine va_iald hx hb hK hP 5 0 rfl rfl (inb_vp g_2) dX0_boxesUpTo_27 ?_
        refine lv_iload_n hx hb dX0_boxesUpTo_28 rfl (lv_at hl 2 rfl) ?_
        have J46 : ∀ (x4_46 : Int32), fX0_boxesUpTo_J46 x5_6 (fX0_boxesUpTo_L6 v_codes v_g_rowOf v_g_size p1 p2 p3 n6) x4_46 = some fin → ∀ (H : Heap) (locs : List Loc), va_P (dC, dI) vwCl (wX0 cI cB cE a v_size v_kind v_codes v_numbers v_left v_g_rowOf v_g_columnOf v_g_before v_g_above v_g_rowStart v_g_size) H → va_D A (wX0 cI cB cE a v_size v_kind v_codes v_numbers v_left v_g_rowOf v_g_columnOf v_g_before v_g_above v_g_rowStart v_g_size) → va_S A s.heap H locs → ∀ (ls : Array Slot), lv_has ls 6 [(0, .ref (a 0)), (1, .int p1), (2, .int p2), (3, .int p3), (4, .int x4_46), (5, .int x5_6)] → W p l e rmX0_boxesUpTo s m args below meth c H locs 0 0 Q (F0 m 46 ls []) := by
          intro x4_46 hf H locs hP hD hS ls hl
          unfold fX0_boxesUpTo_J46 at hf
          refine lv_iinc (v := (x5_6 + 1)) (lv' := [(5, .int (x5_6 + 1)), (0, .ref (a 0)), (1, .int p1), (2, .int p2), (3, .int p3), (4, .int x4_46)]) hx hb dX0_boxesUpTo_46 hl (k := 5) rfl rfl (by decide) rfl (fun ls hl => ?_)
          refine lv_goto (tgt := 6) hx hb dX0_boxesUpTo_49 (by decide) ?_
          exact ih6 x4_46 (x5_6 + 1) hf _ _ hP hD hS ls (lv_sub hl [1, 2, 3, 4, 5, 0] rfl)
        refine lv_icmp_ge (tgt := 46) hx hb dX0_boxesUpTo_29 (by decide) (fun c_3 => ?_) (fun c_3 => ?_)
        · rw [if_pos c_3] at hf
          exact J46 x4_6 hf _ _ hP hD hS ls (lv_sub hl [0, 1, 2, 3, 4, 5] rfl)
        · rw [if_neg c_3] at hf
          refine lv_aload_n hx hb dX0_boxesUpTo_32 rfl (lv_at hl 0 rfl) ?_
          refine lv_iload_n hx hb dX0_boxesUpTo_33 rfl (lv_at hl 1 rfl) ?_
          refine lv_iload hx hb dX0_boxesUpTo_34 (lv_at hl 5 rfl) ?_
          obtain ⟨r_4, hr_4, hf⟩ := bd_some hf
          refine cx_runW (cx_V (As := [.int p1, .int x5_6]) (rest := []) ⟨hx, hb, hml, hown, hts⟩ (ctX0_numberIn l z dC dI cI cB cE a v_size v_kind v_codes v_numbers v_left v_g_rowOf v_g_columnOf v_g_before v_g_above v_g_rowStart v_g_size p1 x5_6 r_4 hr_4) (cwV 2 hts gX0_boxesUpTo_X0_numberIn rfl rfl rfl (by decide +kernel) ⟨Nat.le_of_ble_eq_true rfl, Nat.le_of_ble_eq_true rfl⟩) hK hP hD hZ hS hA (ci := 0) (q0 := 0) rfl rfl rfl hl.1 rfl (Nat.le_of_ble_eq_true rfl) dX0_boxesUpTo_36) hD hS hA [.int r_4] rfl (fun H locs hP hD hS => ?_)
          refine lv_iload_n hx hb dX0_boxesUpTo_39 rfl (lv_at hl 3 rfl) ?_
          refine lv_icmp_gt (tgt := 46) hx hb dX0_boxesUpTo_40 (by decide) (fun c_5 => ?_) (fun c_5 => ?_)
          · rw [if_pos c_5] at hf
            exact J46 x4_6 hf _ _ hP hD hS ls (lv_sub hl [0, 1, 2, 3, 4, 5] rfl)
          · rw [if_neg c_5] at hf
            refine lv_iinc (v := (x4_6 + 1)) (lv' := [(4, .int (x4_6 + 1)), (0, .ref (a 0)), (1, .int p1), (2, .int p2), (3, .int p3), (5, .int x5_6)]) hx hb dX0_boxesUpTo_43 hl (k := 4) rfl rfl (by decide) rfl (fun ls hl => ?_)
            exact J46 (x4_6 + 1) hf _ _ hP hD hS ls (lv_sub hl [1, 2, 3, 4, 0, 5] rfl)
  exact L6 fu 0 0 hf _ _ hP hD hS ls (lv_sub hl [2, 3, 4, 5, 1, 0] rfl)

def fX0_indexOf_L2 (v_size : Int32) (v_codes : Nat → Int32) (p1 : Int32) : Nat → Int32 → Option (Int32)
  | 0, _ => none
  | n + 1, x2_2 =>
    if v_size ≤ x2_2 then (some (-1)) else (gd (inb x2_2 400) (if (v_codes x2_2.toNatClampNeg) = p1 then (some x2_2) else (fX0_indexOf_L2 v_size v_codes p1 n (x2_2 + 1))))
def fX0_indexOf (p1 : Int32) (v_size : Int32) (v_codes : Nat → Int32) : Option (Int32) :=
  fX0_indexOf_L2 v_size v_codes p1 fu 0
def rmX0_indexOf : Room := { frames := 0, cells := 0, slots := 0, locals := 0 }
set_option maxRecDepth 100000 in
set_option maxHeartbeats 4000000 in
theorem ctX0_indexOf (l : Launch) (z : Nat × Nat × Nat) (dC : Nat → ClassId) (dI : Nat → Nat → Nat) (cI cB cE : ClassId) (a : Nat → Nat) (v_size : Int32) (v_kind : Int32) (v_codes : Nat → Int32) (v_numbers : Nat → Int32) (v_left : Nat → Int32) (v_g_rowOf : Nat → Int32) (v_g_columnOf : Nat → Int32) (v_g_before : Nat → Int32) (v_g_above : Nat → Int32) (v_g_rowStart : Nat → Int32) (v_g_size : Int32) (p1 : Int32) (fin : Int32) (hf : fX0_indexOf p1 v_size v_codes = some fin) : Ct l z (dC, dI) (tyL cI cB cE) yX0_indexOf wsX0_indexOf rmX0_indexOf [.ref (a 0), .int p1] (wX0 cI cB cE a v_size v_kind v_codes v_numbers v_left v_g_rowOf v_g_columnOf v_g_before v_g_above v_g_rowStart v_g_size) (some (.int fin)) (wX0 cI cB cE a v_size v_kind v_codes v_numbers v_left v_g_rowOf v_g_columnOf v_g_before v_g_above v_g_rowStart v_g_size) := by
  refine Met.ofC (cc := cX0_indexOf) (maxL := 3) (ret := (some .int)) (by decide) rfl (Nat.le_of_ble_eq_true rfl) ?_
  intro p e s m args below meth c A Q ls hx hb hr hml hts hown hlocks hA hK hP hD hZ hS hQ hl
  have hown : s.vm.findClass RX0 = some m.cls := hown
  have hl : lv_has ls 3 [(0, .ref (a 0)), (1, .int p1)] := hl
  unfold fX0_indexOf at hf
  refine lv_iconst (v := 0) hx hb dX0_indexOf_0 (by decide) ?_
  refine lv_istore_n (lv' := [(2, .int 0), (0, .ref (a 0)), (1, .int p1)]) hx hb dX0_indexOf_1 rfl hl (by decide) rfl (fun ls hl => ?_)
  have L2 : ∀ (n2 : Nat) (x2_2 : Int32), fX0_indexOf_L2 v_size v_codes p1 n2 x2_2 = some fin → ∀ (H : Heap) (locs : List Loc), va_P (dC, dI) vwCl (wX0 cI cB cE a v_size v_kind v_codes v_numbers v_left v_g_rowOf v_g_columnOf v_g_before v_g_above v_g_rowStart v_g_size) H → va_D A (wX0 cI cB cE a v_size v_kind v_codes v_numbers v_left v_g_rowOf v_g_columnOf v_g_before v_g_above v_g_rowStart v_g_size) → va_S A s.heap H locs → ∀ (ls : Array Slot), lv_has ls 3 [(0, .ref (a 0)), (1, .int p1), (2, .int x2_2)] → W p l e rmX0_indexOf s m args below meth c H locs 0 0 Q (F0 m 2 ls []) := by
    intro n2
    induction n2 with
    | zero =>
      intro x2_2 hf
      rw [fX0_indexOf_L2] at hf
      cases hf
    | succ n2 ih2 =>
      intro x2_2 hf H locs hP hD hS ls hl
      rw [fX0_indexOf_L2] at hf
      refine lv_iload_n hx hb dX0_indexOf_2 rfl (lv_at hl 2 rfl) ?_
      refine lv_aload_n hx hb dX0_indexOf_3 rfl (lv_at hl 0 rfl) ?_
      refine va_get (D := (dC, dI)) (ci := 0) (C := RX0) (T := TX0) (N := 6) hx hb hts (fun _ h => List.mem_cons_of_mem _ (List.mem_append_right _ h)) hown hK hP 0 rfl rfl 1 (by decide) (hts (.fieldLink RX0 28 "SkewBoard$Fillings" "size" "I") (List.mem_of_getElem? (i := 1) rfl)) (fun _ h9 => h9) rfl dX0_indexOf_4 ?_
      refine lv_icmp_ge (tgt := 28) hx hb dX0_indexOf_7 (by decide) (fun c_1 => ?_) (fun c_1 => ?_)
      · rw [if_pos c_1] at hf
        refine lv_iconst (v := (-1)) hx hb dX0_indexOf_28 (by decide) ?_
        have hQ2 := hQ
        rw [← Option.some.inj hf] at hQ2
        exact cx_iret hQ2 hx hb hr hlocks hK hP hD hS dX0_indexOf_29
      · rw [if_neg c_1] at hf
        refine lv_aload_n hx hb dX0_indexOf_10 rfl (lv_at hl 0 rfl) ?_
        refine va_get (D := (dC, dI)) (ci := 0) (C := RX0) (T := TX0) (N := 6) hx hb hts (fun _ h => List.mem_cons_of_mem _ (List.mem_append_right _ h)) hown hK hP 0 rfl rfl 3 (by decide) (hts (.fieldLink RX0 18 "SkewBoard$Fillings" "codes" "[I") (List.mem_of_getElem? (i := 2) rfl)) (fun _ h9 => h9) rfl dX0_indexOf_11 ?_
        refine lv_iload_n hx hb dX0_indexOf_14 rfl (lv_at hl 2 rfl) ?_
        obtain ⟨g_2, hf⟩ := gd_some hf
        refine va_iald hx hb hK hP 1 0 rfl rfl (inb_vp g_2) dX0_indexOf_15 ?_
        refine lv_iload_n hx hb dX0_indexOf_16 rfl (lv_at hl 1 rfl) ?_
        refine lv_icmp_ne (tgt := 22) hx hb dX0_indexOf_17 (by decide) (fun c_3 => ?_) (fun c_3 => ?_)
        · rw [if_neg c_3] at hf
          refine lv_iinc (v := (x2_2 + 1)) (lv' := [(2, .int (x2_2 + 1)), (0, .ref (a 0)), (1, .int p1)]) hx hb dX0_indexOf_22 hl (k := 2) rfl rfl (by decide) rfl (fun ls hl => ?_)
          refine lv_goto (tgt := 2) hx hb dX0_indexOf_25 (by decide) ?_
          exact ih2 (x2_2 + 1) hf _ _ hP hD hS ls (lv_sub hl [1, 2, 0] rfl)
        · rw [if_pos c_3] at hf
          refine lv_iload_n hx hb dX0_indexOf_20 rfl (lv_at hl 2 rfl) ?_
          have hQ2 := hQ
          rw [← Option.some.inj hf] at hQ2
          exact cx_iret hQ2 hx hb hr hlocks hK hP hD hS dX0_indexOf_21
  exact L2 fu 0 hf _ _ hP hD hS ls (lv_sub hl [1, 2, 0] rfl)

def fX0_drawNumbers_L5 (v_g_size : Int32) : Nat → Int64 → Int32 → (Nat → Int32) → Option (Int64 × (Nat → Int32))
  | 0, _, _, _ => none
  | n + 1, x3_5, x5_5, v_numbers_5 =>
    if v_g_size ≤ x5_5 then (some (x3_5, v_numbers_5)) else (gd (inb x5_5 9) (fX0_drawNumbers_L5 v_g_size n (((1103515245 * x3_5) + 12345) &&& 2147483647) (x5_5 + 1) (upd v_numbers_5 x5_5.toNatClampNeg (1 + ((((((1103515245 * x3_5) + 12345) &&& 2147483647) >>> ((16 : Int32).toInt64 &&& 63)) &&& 3).toInt32)))))
def fX0_drawNumbers (p1 : Int64) (v_numbers : Nat → Int32) (v_g_size : Int32) : Option (Int64 × (Nat → Int32)) :=
  fX0_drawNumbers_L5 v_g_size fu p1 0 v_numbers
def rmX0_drawNumbers : Room := { frames := 0, cells := 0, slots := 0, locals := 0 }
set_option maxRecDepth 100000 in
set_option maxHeartbeats 4000000 in
theorem ctX0_drawNumbers (l : Launch) (z : Nat × Nat × Nat) (dC : Nat → ClassId) (dI : Nat → Nat → Nat) (cI cB cE : ClassId) (a : Nat → Nat) (v_size : Int32) (v_kind : Int32) (v_codes : Nat → Int32) (v_numbers : Nat → Int32) (v_left : Nat → Int32) (v_g_rowOf : Nat → Int32) (v_g_columnOf : Nat → Int32) (v_g_before : Nat → Int32) (v_g_above : Nat → Int32) (v_g_rowStart : Nat → Int32) (v_g_size : Int32) (p1 : Int64) (fin : Int64 × (Nat → Int32)) (hf : fX0_drawNumbers p1 v_numbers v_g_size = some fin) : Ct l z (dC, dI) (tyL cI cB cE) yX0_drawNumbers wsX0_drawNumbers rmX0_drawNumbers [.ref (a 0), .long p1] (wX0 cI cB cE a v_size v_kind v_codes v_numbers v_left v_g_rowOf v_g_columnOf v_g_before v_g_above v_g_rowStart v_g_size) (some (.long fin.1)) (wX0 cI cB cE a v_size v_kind v_codes fin.2 v_left v_g_rowOf v_g_columnOf v_g_before v_g_above v_g_rowStart v_g_size) := by
  refine Met.ofC (cc := cX0_drawNumbers) (maxL := 6) (ret := (some .long)) (by decide) rfl (Nat.le_of_ble_eq_true rfl) ?_
  intro p e s m args below meth c A Q ls hx hb hr hml hts hown hlocks hA hK hP hD hZ hS hQ hl
  have hown : s.vm.findClass RX0 = some m.cls := hown
  have hl : lv_has ls 6 [(0, .ref (a 0)), (1, .long p1)] := hl
  unfold fX0_drawNumbers at hf
  refine lv_lload_n hx hb dX0_drawNumbers_0 rfl (lv_at hl 1 rfl) ?_
  refine lv_lstore_n (lv' := [(3, .long p1), (0, .ref (a 0)), (1, .long p1)]) hx hb dX0_drawNumbers_1 rfl hl (by decide) rfl (fun ls hl => ?_)
  refine lv_iconst (v := 0) hx hb dX0_drawNumbers_2 (by decide) ?_
  refine lv_istore (lv' := [(5, .int 0), (3, .long p1), (0, .ref (a 0)), (1, .long p1)]) hx hb dX0_drawNumbers_3 hl (by decide) rfl (fun ls hl => ?_)
  have L5 : ∀ (n5 : Nat) (x3_5 : Int64) (x5_5 : Int32) (v_numbers_5 : Nat → Int32), fX0_drawNumbers_L5 v_g_size n5 x3_5 x5_5 v_numbers_5 = some fin → ∀ (H : Heap) (locs : List Loc), va_P (dC, dI) vwCl (wX0 cI cB cE a v_size v_kind v_codes v_numbers_5 v_left v_g_rowOf v_g_columnOf v_g_before v_g_above v_g_rowStart v_g_size) H → va_D A (wX0 cI cB cE a v_size v_kind v_codes v_numbers_5 v_left v_g_rowOf v_g_columnOf v_g_before v_g_above v_g_rowStart v_g_size) → va_S A s.heap H locs → ∀ (ls : Array Slot), lv_has ls 6 [(0, .ref (a 0)), (3, .long x3_5), (5, .int x5_5)] → W p l e rmX0_drawNumbers s m args below meth c H locs 0 0 Q (F0 m 5 ls []) := by
    intro n5
    induction n5 with
    | zero =>
      intro x3_5 x5_5 v_numbers_5 hf
      rw [fX0_drawNumbers_L5] at hf
      cases hf
    | succ n5 ih5 =>
      intro x3_5 x5_5 v_numbers_5 hf H locs hP hD hS ls hl
      rw [fX0_drawNumbers_L5] at hf
      refine lv_iload hx hb dX0_drawNumbers_5 (lv_at hl 2 rfl) ?_
      refine lv_aload_n hx hb dX0_drawNumbers_7 rfl (lv_at hl 0 rfl) ?_
      refine va_get (D := (dC, dI)) (ci := 0) (C := RX0) (T := TX0) (N := 6) hx hb hts (fun _ h => List.mem_cons_of_mem _ (List.mem_append_left _ (List.mem_append_right _ h))) hown hK hP 0 rfl rfl 0 (by decide) (hts (.fieldLink RX0 12 "SkewBoard$Fillings" "grid" "LSkewBoard$Grid;") (List.mem_of_getElem? (i := 1) rfl)) (fun _ h9 => h9) rfl dX0_drawNumbers_8 ?_
      refine va_get (D := (dC, dI)) (ci := 1) (C := RX1) (T := TX1) (N := 6) hx hb hts (fun _ h => List.mem_cons_of_mem _ (List.mem_append_right _ h)) hown hK hP 4 rfl rfl 5 (by decide) (hts (.fieldLink RX0 59 "SkewBoard$Grid" "size" "I") (List.mem_of_getElem? (i := 2) rfl)) (fun _ h9 => h9) rfl dX0_drawNumbers_11 ?_
      refine lv_icmp_ge (tgt := 55) hx hb dX0_drawNumbers_14 (by decide) (fun c_1 => ?_) (fun c_1 => ?_)
      · rw [if_pos c_1] at hf
        refine lv_lload_n hx hb dX0_drawNumbers_55 rfl (lv_at hl 1 rfl) ?_
        have hQ2 := hQ
        rw [← Option.some.inj hf] at hQ2
        exact cx_lret hQ2 hx hb hr hlocks hK hP hD hS dX0_drawNumbers_56
      · rw [if_neg c_1] at hf
        refine lv_ldc2 (v := 1103515245) hx hb hown (hts (.constantLong RX0 82 (1103515245)) (List.mem_of_getElem? (i := 3) rfl)) dX0_drawNumbers_17 ?_
        refine lv_lload_n hx hb dX0_drawNumbers_20 rfl (lv_at hl 1 rfl) ?_
        refine lv_lmul hx hb dX0_drawNumbers_21 ?_
        refine lv_ldc2 (v := 12345) hx hb hown (hts (.constantLong RX0 84 (12345)) (List.mem_of_getElem? (i := 4) rfl)) dX0_drawNumbers_22 ?_
        refine lv_ladd hx hb dX0_drawNumbers_25 ?_
        refine lv_ldc2 (v := 2147483647) hx hb hown (hts (.constantLong RX0 86 (2147483647)) (List.mem_of_getElem? (i := 5) rfl)) dX0_drawNumbers_26 ?_
        refine lv_land hx hb dX0_drawNumbers_29 ?_
        refine lv_lstore_n (lv' := [(3, .long (((1103515245 * x3_5) + 12345) &&& 2147483647)), (0, .ref (a 0)), (5, .int x5_5)]) hx hb dX0_drawNumbers_30 rfl hl (by decide) rfl (fun ls hl => ?_)
        refine lv_aload_n hx hb dX0_drawNumbers_31 rfl (lv_at hl 1 rfl) ?_
        refine va_get (D := (dC, dI)) (ci := 0) (C := RX0) (T := TX0) (N := 6) hx hb hts (fun _ h => List.mem_cons_of_mem _ (List.mem_append_left _ (List.mem_append_right _ h))) hown hK hP 0 rfl rfl 4 (by decide) (hts (.fieldLink RX0 22 "SkewBoard$Fillings" "numbers" "[I") (List.mem_of_getElem? (i := 6) rfl)) (fun _ h9 => h9) rfl dX0_drawNumbers_32 ?_
        refine lv_iload hx hb dX0_drawNumbers_35 (lv_at hl 2 rfl) ?_
        refine lv_iconst (v := 1) hx hb dX0_drawNumbers_37 (by decide) ?_
        refine lv_lload_n hx hb dX0_drawNumbers_38 rfl (lv_at hl 0 rfl) ?_
        refine lv_bipush (v := 16) hx hb dX0_drawNumbers_39 (by decide) ?_
        refine lv_lshr hx hb dX0_drawNumbers_41 rfl ?_
        refine lv_ldc2 (v := 3) hx hb hown (hts (.constantLong RX0 88 (3)) (List.mem_of_getElem? (i := 7) rfl)) dX0_drawNumbers_42 ?_
        refine lv_land hx hb dX0_drawNumbers_45 ?_
        refine lv_l2i hx hb dX0_drawNumbers_46 rfl ?_
        refine lv_iadd hx hb dX0_drawNumbers_47 ?_
        obtain ⟨g_2, hf⟩ := gd_some hf
        refine va_iast hx hb hK hP hD hS 2 0 rfl rfl (inb_vp g_2) dX0_drawNumbers_48 (fun H locs hP hD hS => ?_)
        have hP : va_P (dC, dI) vwCl (wX0 cI cB cE a v_size v_kind v_codes (upd v_numbers_5 x5_5.toNatClampNeg (1 + ((((((1103515245 * x3_5) + 12345) &&& 2147483647) >>> ((16 : Int32).toInt64 &&& 63)) &&& 3).toInt32))) v_left v_g_rowOf v_g_columnOf v_g_before v_g_above v_g_rowStart v_g_size) H := hP
        have hD : va_D A (wX0 cI cB cE a v_size v_kind v_codes (upd v_numbers_5 x5_5.toNatClampNeg (1 + ((((((1103515245 * x3_5) + 12345) &&& 2147483647) >>> ((16 : Int32).toInt64 &&& 63)) &&& 3).toInt32))) v_left v_g_rowOf v_g_columnOf v_g_before v_g_above v_g_rowStart v_g_size) := hD
        refine lv_iinc (v := (x5_5 + 1)) (lv' := [(5, .int (x5_5 + 1)), (3, .long (((1103515245 * x3_5) + 12345) &&& 2147483647)), (0, .ref (a 0))]) hx hb dX0_drawNumbers_49 hl (k := 2) rfl rfl (by decide) rfl (fun ls hl => ?_)
        refine lv_goto (tgt := 5) hx hb dX0_drawNumbers_52 (by decide) ?_
        exact ih5 (((1103515245 * x3_5) + 12345) &&& 2147483647) (x5_5 + 1) (upd v_numbers_5 x5_5.toNatClampNeg (1 + ((((((1103515245 * x3_5) + 12345) &&& 2147483647) >>> ((16 : Int32).toInt64 &&& 63)) &&& 3).toInt32))) hf _ _ hP hD hS ls (lv_sub hl [2, 1, 0] rfl)
  exact L5 fu p1 0 v_numbers hf _ _ hP hD hS ls (lv_sub hl [2, 1, 0] rfl)

def fX0_satisfiesRule_L2 (v_kind : Int32) (v_numbers : Nat → Int32) (v_g_before : Nat → Int32) (v_g_above : Nat → Int32) (v_g_rowStart : Nat → Int32) (v_g_size : Int32) : Nat → Int32 → Option (Int32)
  | 0, _ => none
  | n + 1, x1_2 =>
    if v_g_size ≤ x1_2 then (some 1) else (bd (fX0_fits x1_2 v_kind v_numbers v_g_before v_g_above v_g_rowStart) (fun r_2 => if r_2 = 0 then (some 0) else (fX0_satisfiesRule_L2 v_kind v_numbers v_g_before v_g_above v_g_rowStart v_g_size n (x1_2 + 1))))
def fX0_satisfiesRule (v_kind : Int32) (v_numbers : Nat → Int32) (v_g_before : Nat → Int32) (v_g_above : Nat → Int32) (v_g_rowStart : Nat → Int32) (v_g_size : Int32) : Option (Int32) :=
  fX0_satisfiesRule_L2 v_kind v_numbers v_g_before v_g_above v_g_rowStart v_g_size fu 0
def rmX0_satisfiesRule : Room := { frames := 2, cells := 0, slots := 0, locals := 49 }
set_option maxRecDepth 100000 in
set_option maxHeartbeats 4000000 in
theorem ctX0_satisfiesRule (l : Launch) (z : Nat × Nat × Nat) (dC : Nat → ClassId) (dI : Nat → Nat → Nat) (cI cB cE : ClassId) (a : Nat → Nat) (v_size : Int32) (v_kind : Int32) (v_codes : Nat → Int32) (v_numbers : Nat → Int32) (v_left : Nat → Int32) (v_g_rowOf : Nat → Int32) (v_g_columnOf : Nat → Int32) (v_g_before : Nat → Int32) (v_g_above : Nat → Int32) (v_g_rowStart : Nat → Int32) (v_g_size : Int32) (fin : Int32) (hf : fX0_satisfiesRule v_kind v_numbers v_g_before v_g_above v_g_rowStart v_g_size = some fin) : Ct l z (dC, dI) (tyL cI cB cE) yX0_satisfiesRule wsX0_satisfiesRule rmX0_satisfiesRule [.ref (a 0)] (wX0 cI cB cE a v_size v_kind v_codes v_numbers v_left v_g_rowOf v_g_columnOf v_g_before v_g_above v_g_rowStart v_g_size) (some (.int fin)) (wX0 cI cB cE a v_size v_kind v_codes v_numbers v_left v_g_rowOf v_g_columnOf v_g_before v_g_above v_g_rowStart v_g_size) := by
  refine Met.ofC (cc := cX0_satisfiesRule) (maxL := 2) (ret := (some .boolean)) (by decide) rfl (Nat.le_of_ble_eq_true rfl) ?_
  intro p e s m args below meth c A Q ls hx hb hr hml hts hown hlocks hA hK hP hD hZ hS hQ hl
  have hown : s.vm.findClass RX0 = some m.cls := hown
  have hl : lv_has ls 2 [(0, .ref (a 0))] := hl
  unfold fX0_satisfiesRule at hf
  refine lv_iconst (v := 0) hx hb dX0_satisfiesRule_0 (by decide) ?_
  refine lv_istore_n (lv' := [(1, .int 0), (0, .ref (a 0))]) hx hb dX0_satisfiesRule_1 rfl hl (by decide) rfl (fun ls hl => ?_)
  have L2 : ∀ (n2 : Nat) (x1_2 : Int32), fX0_satisfiesRule_L2 v_kind v_numbers v_g_before v_g_above v_g_rowStart v_g_size n2 x1_2 = some fin → ∀ (H : Heap) (locs : List Loc), va_P (dC, dI) vwCl (wX0 cI cB cE a v_size v_kind v_codes v_numbers v_left v_g_rowOf v_g_columnOf v_g_before v_g_above v_g_rowStart v_g_size) H → va_D A (wX0 cI cB cE a v_size v_kind v_codes v_numbers v_left v_g_rowOf v_g_columnOf v_g_before v_g_above v_g_rowStart v_g_size) → va_S A s.heap H locs → ∀ (ls : Array Slot), lv_has ls 2 [(0, .ref (a 0)), (1, .int x1_2)] → W p l e rmX0_satisfiesRule s m args below meth c H locs 0 0 Q (F0 m 2 ls []) := by
    intro n2
    induction n2 with
    | zero =>
      intro x1_2 hf
      rw [fX0_satisfiesRule_L2] at hf
      cases hf
    | succ n2 ih2 =>
      intro x1_2 hf H locs hP hD hS ls hl
      rw [fX0_satisfiesRule_L2] at hf
      refine lv_iload_n hx hb dX0_satisfiesRule_2 rfl (lv_at hl 1 rfl) ?_
      refine lv_aload_n hx hb dX0_satisfiesRule_3 rfl (lv_at hl 0 rfl) ?_
      refine va_get (D := (dC, dI)) (ci := 0) (C := RX0) (T := TX0) (N := 6) hx hb hts (fun _ h => List.mem_cons_of_mem _ (List.mem_append_left _ (List.mem_append_right _ h))) hown hK hP 0 rfl rfl 0 (by decide) (hts (.fieldLink RX0 12 "SkewBoard$Fillings" "grid" "LSkewBoard$Grid;") (List.mem_of_getElem? (i := 1) rfl)) (fun _ h9 => h9) rfl dX0_satisfiesRule_4 ?_
      refine va_get (D := (dC, dI)) (ci := 1) (C := RX1) (T := TX1) (N := 6) hx hb hts (fun _ h => List.mem_cons_of_mem _ (List.mem_append_right _ h)) hown hK hP 4 rfl rfl 5 (by decide) (hts (.fieldLink RX0 59 "SkewBoard$Grid" "size" "I") (List.mem_of_getElem? (i := 2) rfl)) (fun _ h9 => h9) rfl dX0_satisfiesRule_7 ?_
      refine lv_icmp_ge (tgt := 29) hx hb dX0_satisfiesRule_10 (by decide) (fun c_1 => ?_) (fun c_1 => ?_)
      · rw [if_pos c_1] at hf
        refine lv_iconst (v := 1) hx hb dX0_satisfiesRule_29 (by decide) ?_
        have hQ2 := hQ
        rw [← Option.some.inj hf] at hQ2
        exact cx_zret rfl hQ2 hx hb hr hlocks hK hP hD hS dX0_satisfiesRule_30
      · rw [if_neg c_1] at hf
        refine lv_aload_n hx hb dX0_satisfiesRule_13 rfl (lv_at hl 0 rfl) ?_
        refine lv_iload_n hx hb dX0_satisfiesRule_14 rfl (lv_at hl 1 rfl) ?_
        obtain ⟨r_2, hr_2, hf⟩ := bd_some hf
        refine cx_runW (cx_V (As := [.int x1_2]) (rest := []) ⟨hx, hb, hml, hown, hts⟩ (ctX0_fits l z dC dI cI cB cE a v_size v_kind v_codes v_numbers v_left v_g_rowOf v_g_columnOf v_g_before v_g_above v_g_rowStart v_g_size x1_2 r_2 hr_2) (cwV 1 hts gX0_satisfiesRule_X0_fits rfl rfl rfl (by decide +kernel) ⟨Nat.le_of_ble_eq_true rfl, Nat.le_of_ble_eq_true rfl⟩) hK hP hD hZ hS hA (ci := 0) (q0 := 0) rfl rfl rfl hl.1 rfl (Nat.le_of_ble_eq_true rfl) dX0_satisfiesRule_15) hD hS hA [.int r_2] rfl (fun H locs hP hD hS => ?_)
        refine lv_if_ne (tgt := 23) hx hb dX0_satisfiesRule_18 (by decide) (fun c_3 => ?_) (fun c_3 => ?_)
        · rw [if_neg c_3] at hf
          refine lv_iinc (v := (x1_2 + 1)) (lv' := [(1, .int (x1_2 + 1)), (0, .ref (a 0))]) hx hb dX0_satisfiesRule_23 hl (k := 1) rfl rfl (by decide) rfl (fun ls hl => ?_)
          refine lv_goto (tgt := 2) hx hb dX0_satisfiesRule_26 (by decide) ?_
          exact ih2 (x1_2 + 1) hf _ _ hP hD hS ls (lv_sub hl [1, 0] rfl)
        · rw [if_pos c_3] at hf
          refine lv_iconst (v := 0) hx hb dX0_satisfiesRule_21 (by decide) ?_
          have hQ2 := hQ
          rw [← Option.some.inj hf] at hQ2
          exact cx_zret rfl hQ2 hx hb hr hlocks hK hP hD hS dX0_satisfiesRule_22
  exact L2 fu 0 hf _ _ hP hD hS ls (lv_sub hl [1, 0] rfl)

def fX0_timesThere_J28 (x3_4 : Int32) (k4 : Int32 → Int32 → Option (Int32)) (x2_28 : Int32) : Option (Int32) :=
    k4 x2_28 (x3_4 + 1)
def fX0_timesThere_L4 (v_numbers : Nat → Int32) (v_g_size : Int32) (p1 : Int32) : Nat → Int32 → Int32 → Option (Int32)
  | 0, _, _ => none
  | n + 1, x2_4, x3_4 =>
    if v_g_size ≤ x3_4 then (some x2_4) else (gd (inb x3_4 9) (fX0_timesThere_J28 x3_4 (fX0_timesThere_L4 v_numbers v_g_size p1 n) (if (v_numbers x3_4.toNatClampNeg) = p1 then (x2_4 + 1) else x2_4)))
def fX0_timesThere (p1 : Int32) (v_numbers : Nat → Int32) (v_g_size : Int32) : Option (Int32) :=
  fX0_timesThere_L4 v_numbers v_g_size p1 fu 0 0
def rmX0_timesThere : Room := { frames := 0, cells := 0, slots := 0, locals := 0 }
set_option maxRecDepth 100000 in
set_option maxHeartbeats 4000000 in
theorem ctX0_timesThere (l : Launch) (z : Nat × Nat × Nat) (dC : Nat → ClassId) (dI : Nat → Nat → Nat) (cI cB cE : ClassId) (a : Nat → Nat) (v_size : Int32) (v_kind : Int32) (v_codes : Nat → Int32) (v_numbers : Nat → Int32) (v_left : Nat → Int32) (v_g_rowOf : Nat → Int32) (v_g_columnOf : Nat → Int32) (v_g_before : Nat → Int32) (v_g_above : Nat → Int32) (v_g_rowStart : Nat → Int32) (v_g_size : Int32) (p1 : Int32) (fin : Int32) (hf : fX0_timesThere p1 v_numbers v_g_size = some fin) : Ct l z (dC, dI) (tyL cI cB cE) yX0_timesThere wsX0_timesThere rmX0_timesThere [.ref (a 0), .int p1] (wX0 cI cB cE a v_size v_kind v_codes v_numbers v_left v_g_rowOf v_g_columnOf v_g_before v_g_above v_g_rowStart v_g_size) (some (.int fin)) (wX0 cI cB cE a v_size v_kind v_codes v_numbers v_left v_g_rowOf v_g_columnOf v_g_before v_g_above v_g_rowStart v_g_size) := by
  refine Met.ofC (cc := cX0_timesThere) (maxL := 4) (ret := (some .int)) (by decide) rfl (Nat.le_of_ble_eq_true rfl) ?_
  intro p e s m args below meth c A Q ls hx hb hr hml hts hown hlocks hA hK hP hD hZ hS hQ hl
  have hown : s.vm.findClass RX0 = some m.cls := hown
  have hl : lv_has ls 4 [(0, .ref (a 0)), (1, .int p1)] := hl
  unfold fX0_timesThere at hf
  refine lv_iconst (v := 0) hx hb dX0_timesThere_0 (by decide) ?_
  refine lv_istore_n (lv' := [(2, .int 0), (0, .ref (a 0)), (1, .int p1)]) hx hb dX0_timesThere_1 rfl hl (by decide) rfl (fun ls hl => ?_)
  refine lv_iconst (v := 0) hx hb dX0_timesThere_2 (by decide) ?_
  refine lv_istore_n (lv' := [(3, .int 0), (2, .int 0), (0, .ref (a 0)), (1, .int p1)]) hx hb dX0_timesThere_3 rfl hl (by decide) rfl (fun ls hl => ?_)
  have L4 : ∀ (n4 : Nat) (x2_4 : Int32) (x3_4 : Int32), fX0_timesThere_L4 v_numbers v_g_size p1 n4 x2_4 x3_4 = some fin → ∀ (H : Heap) (locs : List Loc), va_P (dC, dI) vwCl (wX0 cI cB cE a v_size v_kind v_codes v_numbers v_left v_g_rowOf v_g_columnOf v_g_before v_g_above v_g_rowStart v_g_size) H → va_D A (wX0 cI cB cE a v_size v_kind v_codes v_numbers v_left v_g_rowOf v_g_columnOf v_g_before v_g_above v_g_rowStart v_g_size) → va_S A s.heap H locs → ∀ (ls : Array Slot), lv_has ls 4 [(0, .ref (a 0)), (1, .int p1), (2, .int x2_4), (3, .int x3_4)] → W p l e rmX0_timesThere s m args below meth c H locs 0 0 Q (F0 m 4 ls []) := by
    intro n4
    induction n4 with
    | zero =>
      intro x2_4 x3_4 hf
      rw [fX0_timesThere_L4] at hf
      cases hf
    | succ n4 ih4 =>
      intro x2_4 x3_4 hf H locs hP hD hS ls hl
      rw [fX0_timesThere_L4] at hf
      refine lv_iload_n hx hb dX0_timesThere_4 rfl (lv_at hl 3 rfl) ?_
      refine lv_aload_n hx hb dX0_timesThere_5 rfl (lv_at hl 0 rfl) ?_
      refine va_get (D := (dC, dI)) (ci := 0) (C := RX0) (T := TX0) (N := 6) hx hb hts (fun _ h => List.mem_cons_of_mem _ (List.mem_append_left _ (List.mem_append_right _ h))) hown hK hP 0 rfl rfl 0 (by decide) (hts (.fieldLink RX0 12 "SkewBoard$Fillings" "grid" "LSkewBoard$Grid;") (List.mem_of_getElem? (i := 1) rfl)) (fun _ h9 => h9) rfl dX0_timesThere_6 ?_
      refine va_get (D := (dC, dI)) (ci := 1) (C := RX1) (T := TX1) (N := 6) hx hb hts (fun _ h => List.mem_cons_of_mem _ (List.mem_append_right _ h)) hown hK hP 4 rfl rfl 5 (by decide) (hts (.fieldLink RX0 59 "SkewBoard$Grid" "size" "I") (List.mem_of_getElem? (i := 2) rfl)) (fun _ h9 => h9) rfl dX0_timesThere_9 ?_
      refine lv_icmp_ge (tgt := 34) hx hb dX0_timesThere_12 (by decide) (fun c_1 => ?_) (fun c_1 => ?_)
      · rw [if_pos c_1] at hf
        refine lv_iload_n hx hb dX0_timesThere_34 rfl (lv_at hl 2 rfl) ?_
        have hQ2 := hQ
        rw [← Option.some.inj hf] at hQ2
        exact cx_iret hQ2 hx hb hr hlocks hK hP hD hS dX0_timesThere_35
      · rw [if_neg c_1] at hf
        refine lv_aload_n hx hb dX0_timesThere_15 rfl (lv_at hl 0 rfl) ?_
        refine va_get (D := (dC, dI)) (ci := 0) (C := RX0) (T := TX0) (N := 6) hx hb hts (fun _ h => List.mem_cons_of_mem _ (List.mem_append_left _ (List.mem_append_right _ h))) hown hK hP 0 rfl rfl 4 (by decide) (hts (.fieldLink RX0 22 "SkewBoard$Fillings" "numbers" "[I") (List.mem_of_getElem? (i := 3) rfl)) (fun _ h9 => h9) rfl dX0_timesThere_16 ?_
        refine lv_iload_n hx hb dX0_timesThere_19 rfl (lv_at hl 3 rfl) ?_
        obtain ⟨g_2, hf⟩ := gd_some hf
        refine va_iald hx hb hK hP 2 0 rfl rfl (inb_vp g_2) dX0_timesThere_20 ?_
        refine lv_iload_n hx hb dX0_timesThere_21 rfl (lv_at hl 1 rfl) ?_
        have J28 : ∀ (x2_28 : Int32), fX0_timesThere_J28 x3_4 (fX0_timesThere_L4 v_numbers v_g_size p1 n4) x2_28 = some fin → ∀ (H : Heap) (locs : List Loc), va_P (dC, dI) vwCl (wX0 cI cB cE a v_size v_kind v_codes v_numbers v_left v_g_rowOf v_g_columnOf v_g_before v_g_above v_g_rowStart v_g_size) H → va_D A (wX0 cI cB cE a v_size v_kind v_codes v_numbers v_left v_g_rowOf v_g_columnOf v_g_before v_g_above v_g_rowStart v_g_size) → va_S A s.heap H locs → ∀ (ls : Array Slot), lv_has ls 4 [(0, .ref (a 0)), (1, .int p1), (2, .int x2_28), (3, .int x3_4)] → W p l e rmX0_timesThere s m args below meth c H locs 0 0 Q (F0 m 28 ls []) := by
          intro x2_28 hf H locs hP hD hS ls hl
          unfold fX0_timesThere_J28 at hf
          refine lv_iinc (v := (x3_4 + 1)) (lv' := [(3, .int (x3_4 + 1)), (0, .ref (a 0)), (1, .int p1), (2, .int x2_28)]) hx hb dX0_timesThere_28 hl (k := 3) rfl rfl (by decide) rfl (fun ls hl => ?_)
          refine lv_goto (tgt := 4) hx hb dX0_timesThere_31 (by decide) ?_
          exact ih4 x2_28 (x3_4 + 1) hf _ _ hP hD hS ls (lv_sub hl [1, 2, 3, 0] rfl)
        refine lv_icmp_ne (tgt := 28) hx hb dX0_timesThere_22 (by decide) (fun c_3 => ?_) (fun c_3 => ?_)
        · rw [if_neg c_3] at hf
          exact J28 x2_4 hf _ _ hP hD hS ls (lv_sub hl [0, 1, 2, 3] rfl)
        · rw [if_pos c_3] at hf
          refine lv_iinc (v := (x2_4 + 1)) (lv' := [(2, .int (x2_4 + 1)), (0, .ref (a 0)), (1, .int p1), (3, .int x3_4)]) hx hb dX0_timesThere_25 hl (k := 2) rfl rfl (by decide) rfl (fun ls hl => ?_)
          exact J28 (x2_4 + 1) hf _ _ hP hD hS ls (lv_sub hl [1, 2, 0, 3] rfl)
  exact L4 fu 0 0 hf _ _ hP hD hS ls (lv_sub hl [2, 3, 1, 0] rfl)

def fX0_hasContent_L2 (v_numbers : Nat → Int32) (v_g_size : Int32) (v_o1_content : Nat → Int32) : Nat → Int32 → Option (Int32)
  | 0, _ => none
  | n + 1, x2_2 =>
    if 4 < x2_2 then (some 1) else (bd (fX0_timesThere x2_2 v_numbers v_g_size) (fun r_2 => gd (inb (x2_2 - 1) 4) (if r_2 = (v_o1_content (x2_2 - 1).toNatClampNeg) then (fX0_hasContent_L2 v_numbers v_g_size v_o1_content n (x2_2 + 1)) else (some 0))))
def fX0_hasContent (v_numbers : Nat → Int32) (v_g_size : Int32) (v_o1_content : Nat → Int32) : Option (Int32) :=
  fX0_hasContent_L2 v_numbers v_g_size v_o1_content fu 1
def rmX0_hasContent : Room := { frames := 1, cells := 0, slots := 0, locals := 23 }
set_option maxRecDepth 100000 in
set_option maxHeartbeats 4000000 in
theorem ctX0_hasContent (l : Launch) (z : Nat × Nat × Nat) (dC : Nat → ClassId) (dI : Nat → Nat → Nat) (cI cB cE : ClassId) (a b : Nat → Nat) (v_size : Int32) (v_kind : Int32) (v_codes : Nat → Int32) (v_numbers : Nat → Int32) (v_left : Nat → Int32) (v_g_rowOf : Nat → Int32) (v_g_columnOf : Nat → Int32) (v_g_before : Nat → Int32) (v_g_above : Nat → Int32) (v_g_rowStart : Nat → Int32) (v_g_size : Int32) (v_o1_kind : Int32) (v_o1_rows : Int32) (v_o1_outer : Nat → Int32) (v_o1_inner : Nat → Int32) (v_o1_content : Nat → Int32) (fin : Int32) (hf : fX0_hasContent v_numbers v_g_size v_o1_content = some fin) : Ct l z (dC, dI) (tyL cI cB cE) yX0_hasContent wsX0_hasContent rmX0_hasContent [.ref (a 0), .ref (b 0)] (wX0 cI cB cE a v_size v_kind v_codes v_numbers v_left v_g_rowOf v_g_columnOf v_g_before v_g_above v_g_rowStart v_g_size ++ wX4 cI cB cE b v_o1_kind v_o1_rows v_o1_outer v_o1_inner v_o1_content) (some (.int fin)) (wX0 cI cB cE a v_size v_kind v_codes v_numbers v_left v_g_rowOf v_g_columnOf v_g_before v_g_above v_g_rowStart v_g_size ++ wX4 cI cB cE b v_o1_kind v_o1_rows v_o1_outer v_o1_inner v_o1_content) := by
  refine Met.ofC (cc := cX0_hasContent) (maxL := 3) (ret := (some .boolean)) (by decide) rfl (Nat.le_of_ble_eq_true rfl) ?_
  intro p e s m args below meth c A Q ls hx hb hr hml hts hown hlocks hA hK hP hD hZ hS hQ hl
  have hown : s.vm.findClass RX0 = some m.cls := hown
  have hl : lv_has ls 3 [(0, .ref (a 0)), (1, .ref (b 0))] := hl
  unfold fX0_hasContent at hf
  refine lv_iconst (v := 1) hx hb dX0_hasContent_0 (by decide) ?_
  refine lv_istore_n (lv' := [(2, .int 1), (0, .ref (a 0)), (1, .ref (b 0))]) hx hb dX0_hasContent_1 rfl hl (by decide) rfl (fun ls hl => ?_)
  have L2 : ∀ (n2 : Nat) (x2_2 : Int32), fX0_hasContent_L2 v_numbers v_g_size v_o1_content n2 x2_2 = some fin → ∀ (H : Heap) (locs : List Loc), va_P (dC, dI) vwCl (wX0 cI cB cE a v_size v_kind v_codes v_numbers v_left v_g_rowOf v_g_columnOf v_g_before v_g_above v_g_rowStart v_g_size ++ wX4 cI cB cE b v_o1_kind v_o1_rows v_o1_outer v_o1_inner v_o1_content) H → va_D A (wX0 cI cB cE a v_size v_kind v_codes v_numbers v_left v_g_rowOf v_g_columnOf v_g_before v_g_above v_g_rowStart v_g_size ++ wX4 cI cB cE b v_o1_kind v_o1_rows v_o1_outer v_o1_inner v_o1_content) → va_S A s.heap H locs → ∀ (ls : Array Slot), lv_has ls 3 [(0, .ref (a 0)), (1, .ref (b 0)), (2, .int x2_2)] → W p l e rmX0_hasContent s m args below meth c H locs 0 0 Q (F0 m 2 ls []) := by
    intro n2
    induction n2 with
    | zero =>
      intro x2_2 hf
      rw [fX0_hasContent_L2] at hf
      cases hf
    | succ n2 ih2 =>
      intro x2_2 hf H locs hP hD hS ls hl
      rw [fX0_hasContent_L2] at hf
      refine lv_iload_n hx hb dX0_hasContent_2 rfl (lv_at hl 2 rfl) ?_
      refine lv_iconst (v := 4) hx hb dX0_hasContent_3 (by decide) ?_
      refine lv_icmp_gt (tgt := 31) hx hb dX0_hasContent_4 (by decide) (fun c_1 => ?_) (fun c_1 => ?_)
      · rw [if_pos c_1] at hf
        refine lv_iconst (v := 1) hx hb dX0_hasContent_31 (by decide) ?_
        have hQ2 := hQ
        rw [← Option.some.inj hf] at hQ2
        exact cx_zret rfl hQ2 hx hb hr hlocks hK hP hD hS dX0_hasContent_32
      · rw [if_neg c_1] at hf
        refine lv_aload_n hx hb dX0_hasContent_7 rfl (lv_at hl 0 rfl) ?_
        refine lv_iload_n hx hb dX0_hasContent_8 rfl (lv_at hl 2 rfl) ?_
        obtain ⟨r_2, hr_2, hf⟩ := bd_some hf
        refine cx_run (ws' := (wX0 cI cB cE a v_size v_kind v_codes v_numbers v_left v_g_rowOf v_g_columnOf v_g_before v_g_above v_g_rowStart v_g_size ++ wX4 cI cB cE b v_o1_kind v_o1_rows v_o1_outer v_o1_inner v_o1_content)) (wr := [((b 0), .inr (4, [.int v_o1_kind, .int v_o1_rows, .ref (b 1), .ref (b 2), .ref (b 3)])), ((b 1), .inl (cI, 4, .inl v_o1_outer)), ((b 2), .inl (cI, 4, .inl v_o1_inner)), ((b 3), .inl (cI, 4, .inl v_o1_content))]) (cx_V (As := [.int x2_2]) (rest := []) ⟨hx, hb, hml, hown, hts⟩ (ctX0_timesThere l z dC dI cI cB cE a v_size v_kind v_codes v_numbers v_left v_g_rowOf v_g_columnOf v_g_before v_g_above v_g_rowStart v_g_size x2_2 r_2 hr_2) (cwV 1 hts gX0_hasContent_X0_timesThere rfl rfl rfl (by decide +kernel) ⟨Nat.le_of_ble_eq_true rfl, Nat.le_of_ble_eq_true rfl⟩) hK (hP.sub [0, 1, 2, 3, 4, 5, 6, 7, 8, 9] rfl) (hD.sub [0, 1, 2, 3, 4, 5, 6, 7, 8, 9] (by decide) rfl) hZ hS hA (ci := 0) (q0 := 0) rfl rfl rfl hl.1 rfl (Nat.le_of_ble_eq_true rfl) dX0_hasContent_9) hP hD hS hA [0, 1, 2, 3, 4, 5, 6, 7, 8, 9] [10, 11, 12, 13] rfl rfl (by decide) (by decide) [4, 5, 6, 7, 8, 9, 10, 11, 12, 13, 0, 1, 2, 3] (by decide) rfl [.int r_2] rfl (fun H locs hP hD hS => ?_)
        refine lv_aload_n hx hb dX0_hasContent_12 rfl (lv_at hl 1 rfl) ?_
        refine va_get (D := (dC, dI)) (ci := 4) (C := RX4) (T := TX4) (N := 5) hx hb hts (fun _ h => List.mem_cons_of_mem _ (List.mem_append_left _ (List.mem_append_left _ (List.mem_append_right _ h)))) hown hK hP 10 rfl rfl 4 (by decide) (hts (.fieldLink RX0 42 "SkewBoard$Plan" "content" "[I") (List.mem_of_getElem? (i := 1) rfl)) (fun _ h9 => h9) rfl dX0_hasContent_13 ?_
        refine lv_iload_n hx hb dX0_hasContent_16 rfl (lv_at hl 2 rfl) ?_
        refine lv_iconst (v := 1) hx hb dX0_hasContent_17 (by decide) ?_
        refine lv_isub hx hb dX0_hasContent_18 ?_
        obtain ⟨g_3, hf⟩ := gd_some hf
        refine va_iald hx hb hK hP 13 0 rfl rfl (inb_vp g_3) dX0_hasContent_19 ?_
        refine lv_icmp_eq (tgt := 25) hx hb dX0_hasContent_20 (by decide) (fun c_4 => ?_) (fun c_4 => ?_)
        · rw [if_pos c_4] at hf
          refine lv_iinc (v := (x2_2 + 1)) (lv' := [(2, .int (x2_2 + 1)), (0, .ref (a 0)), (1, .ref (b 0))]) hx hb dX0_hasContent_25 hl (k := 2) rfl rfl (by decide) rfl (fun ls hl => ?_)
          refine lv_goto (tgt := 2) hx hb dX0_hasContent_28 (by decide) ?_
          exact ih2 (x2_2 + 1) hf _ _ hP hD hS ls (lv_sub hl [1, 2, 0] rfl)
        · rw [if_neg c_4] at hf
          refine lv_iconst (v := 0) hx hb dX0_hasContent_23 (by decide) ?_
          have hQ2 := hQ
          rw [← Option.some.inj hf] at hQ2
          exact cx_zret rfl hQ2 hx hb hr hlocks hK hP hD hS dX0_hasContent_24
  exact L2 fu 1 hf _ _ hP hD hS ls (lv_sub hl [1, 2, 0] rfl)

