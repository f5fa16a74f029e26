def fX6_enter (p1 : Int32) : Option (Int32 × Int32) :=
  some (p1, 0)
def rmX6_enter : Room := { frames := 0, cells := 0, slots := 0, locals := 0 }
set_option maxRecDepth 100000 in
set_option maxHeartbeats 4000000 in
theorem ctX6_enter (l : Launch) (z : Nat × Nat × Nat) (dC : Nat → ClassId) (dI : Nat → Nat → Nat) (cI cB cE : ClassId) (a : Nat → Nat) (v_stage : Int32) (v_digits : Int32) (v_p_kind : Int32) (v_p_rows : Int32) (v_p_outer : Nat → Int32) (v_p_inner : Nat → Int32) (v_p_content : Nat → Int32) (p1 : Int32) (fin : Int32 × Int32) (hf : fX6_enter p1 = some fin) : Ct l z (dC, dI) (tyL cI cB cE) yX6_enter wsX6_enter rmX6_enter [.ref (a 0), .int p1] (wX6 cI cB cE a v_stage v_digits v_p_kind v_p_rows v_p_outer v_p_inner v_p_content) none (wX6 cI cB cE a fin.1 fin.2 v_p_kind v_p_rows v_p_outer v_p_inner v_p_content) := by
  refine Met.ofC (cc := cX6_enter) (maxL := 2) (ret := none) (by decide) rfl (Nat.le_of_ble_eq_true rfl) ?_
  intro p e s m args below meth c A Q ls hx hb hr hml hts hown hlocks hA hK hP hD hZ hS hQ hl
  have hown : s.vm.findClass RX6 = some m.cls := hown
  have hl : lv_has ls 2 [(0, .ref (a 0)), (1, .int p1)] := hl
  unfold fX6_enter at hf
  refine lv_aload_n hx hb dX6_enter_0 rfl (lv_at hl 0 rfl) ?_
  refine lv_iload_n hx hb dX6_enter_1 rfl (lv_at hl 1 rfl) ?_
  refine va_put (D := (dC, dI)) (ci := 6) (v := .int p1) (ty := .int) (C := RX6) (T := TX6) (N := 3) hx hb hts (fun _ h => List.mem_cons_of_mem _ (List.mem_append_right _ h)) tyX6 tyX6_ok nmX6 hown hK hP hD hS 0 rfl rfl 1 (by decide) (hts (.fieldLink RX6 39 "SkewBoard$Reader" "stage" "I") (List.mem_of_getElem? (i := 1) rfl)) (fun _ h9 => h9) rfl (by decide +kernel) rfl rfl (Nat.le_of_ble_eq_true rfl) dX6_enter_2 (fun H locs hP hD hS => ?_)
  have hP : va_P (dC, dI) vwCl (wX6 cI cB cE a p1 v_digits v_p_kind v_p_rows v_p_outer v_p_inner v_p_content) H := hP
  have hD : va_D A (wX6 cI cB cE a p1 v_digits v_p_kind v_p_rows v_p_outer v_p_inner v_p_content) := hD
  refine lv_aload_n hx hb dX6_enter_5 rfl (lv_at hl 0 rfl) ?_
  refine lv_iconst (v := 0) hx hb dX6_enter_6 (by decide) ?_
  refine va_put (D := (dC, dI)) (ci := 6) (v := .int 0) (ty := .int) (C := RX6) (T := TX6) (N := 3) hx hb hts (fun _ h => List.mem_cons_of_mem _ (List.mem_append_right _ h)) tyX6 tyX6_ok nmX6 hown hK hP hD hS 0 rfl rfl 2 (by decide) (hts (.fieldLink RX6 42 "SkewBoard$Reader" "digits" "I") (List.mem_of_getElem? (i := 2) rfl)) (fun _ h9 => h9) rfl (by decide +kernel) rfl rfl (Nat.le_of_ble_eq_true rfl) dX6_enter_7 (fun H locs hP hD hS => ?_)
  have hP : va_P (dC, dI) vwCl (wX6 cI cB cE a p1 0 v_p_kind v_p_rows v_p_outer v_p_inner v_p_content) H := hP
  have hD : va_D A (wX6 cI cB cE a p1 0 v_p_kind v_p_rows v_p_outer v_p_inner v_p_content) := hD
  have hQ2 := hQ
  rw [← Option.some.inj hf] at hQ2
  exact cx_vret hQ2 hx hb hr hlocks hK hP hD hS dX6_enter_10

def fX6_acceptsRule (p1 : Int32) (v_stage : Int32) (v_digits : Int32) (v_p_kind : Int32) : Option (Int32 × Int32 × Int32 × Int32) :=
  bd (fJ0_indexOf_0f7a4 ((p1.toUInt32 % 65536).toInt32)) (fun r_1 => if 0 ≤ r_1 then (bd (fX6_enter 1) (fun r_3 => some (1, r_3.1, r_3.2, r_1))) else (some (0, v_stage, v_digits, v_p_kind)))
def rmX6_acceptsRule : Room := { frames := 5, cells := 0, slots := 0, locals := 166 }
set_option maxRecDepth 100000 in
set_option maxHeartbeats 4000000 in
theorem ctX6_acceptsRule (l : Launch) (z : Nat × Nat × Nat) (dC : Nat → ClassId) (dI : Nat → Nat → Nat) (cI cB cE : ClassId) (a : Nat → Nat) (v_stage : Int32) (v_digits : Int32) (v_p_kind : Int32) (v_p_rows : Int32) (v_p_outer : Nat → Int32) (v_p_inner : Nat → Int32) (v_p_content : Nat → Int32) (p1 : Int32) (fin : Int32 × Int32 × Int32 × Int32) (hf : fX6_acceptsRule p1 v_stage v_digits v_p_kind = some fin) : Ct l z (dC, dI) (tyL cI cB cE) yX6_acceptsRule wsX6_acceptsRule rmX6_acceptsRule [.ref (a 0), .int p1] (wX6 cI cB cE a v_stage v_digits v_p_kind v_p_rows v_p_outer v_p_inner v_p_content) (some (.int fin.1)) (wX6 cI cB cE a fin.2.1 fin.2.2.1 fin.2.2.2 v_p_rows v_p_outer v_p_inner v_p_content) := by
  refine Met.ofC (cc := cX6_acceptsRule) (maxL := 3) (ret := (some .boolean)) (by decide) rfl (Nat.le_of_ble_eq_true rfl) ?_
  intro p e s m args below meth c A Q ls hx hb hr hml hts hown hlocks hA hK hP hD hZ hS hQ hl
  have hown : s.vm.findClass RX6 = some m.cls := hown
  have hl : lv_has ls 3 [(0, .ref (a 0)), (1, .int p1)] := hl
  unfold fX6_acceptsRule at hf
  refine va_ldcS hx hb hown hZ.2.2.2.2.2.1 dX6_acceptsRule_0 ?_
  refine lv_iload_n hx hb dX6_acceptsRule_2 rfl (lv_at hl 1 rfl) ?_
  refine lv_i2c hx hb dX6_acceptsRule_3 rfl ?_
  obtain ⟨r_1, hr_1, hf⟩ := bd_some hf
  refine cx_run0 (cx_VR (A := A) (As := [.int ((p1.toUInt32 % 65536).toInt32)]) (rest := []) ⟨hx, hb, hml, hown, hts⟩ (ctJ0_indexOf_0f7a4 l z dC dI cI cB cE ((p1.toUInt32 % 65536).toInt32) r_1 hr_1) (cwV 1 hts gX6_acceptsRule_J0_indexOf_0f7a4 rfl rfl rfl (by decide +kernel) ⟨Nat.le_of_ble_eq_true rfl, Nat.le_of_ble_eq_true rfl⟩) hK vaP0 vaD0 hZ hS hA (vk_recv (i := 0) hZ.2.2.2.2.1 (by decide) hS) rfl hl.1 rfl (Nat.le_of_ble_eq_true rfl) dX6_acceptsRule_4) hP hS hA [.int r_1] rfl (fun H locs hP hS => ?_)
  refine lv_istore_n (lv' := [(2, .int r_1), (0, .ref (a 0)), (1, .int p1)]) hx hb dX6_acceptsRule_7 rfl hl (by decide) rfl (fun ls hl => ?_)
  refine lv_iload_n hx hb dX6_acceptsRule_8 rfl (lv_at hl 0 rfl) ?_
  refine lv_if_ge (tgt := 14) hx hb dX6_acceptsRule_9 (by decide) (fun c_2 => ?_) (fun c_2 => ?_)
  · rw [if_pos c_2] at hf
    refine lv_aload_n hx hb dX6_acceptsRule_14 rfl (lv_at hl 1 rfl) ?_
    refine va_get (D := (dC, dI)) (ci := 6) (C := RX6) (T := TX6) (N := 3) hx hb hts (fun _ h => List.mem_cons_of_mem _ (List.mem_append_left _ (List.mem_append_right _ h))) hown hK hP 0 rfl rfl 0 (by decide) (hts (.fieldLink RX6 12 "SkewBoard$Reader" "plan" "LSkewBoard$Plan;") (List.mem_of_getElem? (i := 1) rfl)) (fun _ h9 => h9) rfl dX6_acceptsRule_15 ?_
    refine lv_iload_n hx hb dX6_acceptsRule_18 rfl (lv_at hl 0 rfl) ?_
    refine va_put (D := (dC, dI)) (ci := 4) (v := .int r_1) (ty := .int) (C := RX4) (T := TX4) (N := 5) hx hb hts (fun _ h => List.mem_cons_of_mem _ (List.mem_append_right _ h)) tyX4 tyX4_ok nmX4 hown hK hP hD hS 1 rfl rfl 0 (by decide) (hts (.fieldLink RX6 65 "SkewBoard$Plan" "kind" "I") (List.mem_of_getElem? (i := 2) rfl)) (fun _ h9 => h9) rfl (by decide +kernel) rfl rfl (Nat.le_of_ble_eq_true rfl) dX6_acceptsRule_19 (fun H locs hP hD hS => ?_)
    have hP : va_P (dC, dI) vwCl (wX6 cI cB cE a v_stage v_digits r_1 v_p_rows v_p_outer v_p_inner v_p_content) H := hP
    have hD : va_D A (wX6 cI cB cE a v_stage v_digits r_1 v_p_rows v_p_outer v_p_inner v_p_content) := hD
    refine lv_aload_n hx hb dX6_acceptsRule_22 rfl (lv_at hl 1 rfl) ?_
    refine lv_iconst (v := 1) hx hb dX6_acceptsRule_23 (by decide) ?_
    obtain ⟨r_3, hr_3, hf⟩ := bd_some hf
    refine cx_runW (cx_V (As := [.int 1]) (rest := []) ⟨hx, hb, hml, hown, hts⟩ (ctX6_enter l z dC dI cI cB cE a v_stage v_digits r_1 v_p_rows v_p_outer v_p_inner v_p_content 1 r_3 hr_3) (cwV 1 hts gX6_acceptsRule_X6_enter rfl rfl rfl (by decide +kernel) ⟨Nat.le_of_ble_eq_true rfl, Nat.le_of_ble_eq_true rfl⟩) hK hP hD hZ hS hA (ci := 6) (q0 := 0) rfl rfl rfl hl.1 rfl (Nat.le_of_ble_eq_true rfl) dX6_acceptsRule_24) hD hS hA [] rfl (fun H locs hP hD hS => ?_)
    refine lv_iconst (v := 1) hx hb dX6_acceptsRule_27 (by decide) ?_
    have hQ2 := hQ
    rw [← Option.some.inj hf] at hQ2
    exact cx_zret rfl hQ2 hx hb hr hlocks hK hP hD hS dX6_acceptsRule_28
  · rw [if_neg c_2] at hf
    refine lv_iconst (v := 0) hx hb dX6_acceptsRule_12 (by decide) ?_
    have hQ2 := hQ
    rw [← Option.some.inj hf] at hQ2
    exact cx_zret rfl hQ2 hx hb hr hlocks hK hP hD hS dX6_acceptsRule_13

def fX6_acceptsOuter_J48 (v_stage : Int32) (v_digits : Int32) (v_p_rows : Int32) (v_p_outer : Nat → Int32) (u_48 : Unit) : Option (Int32 × Int32 × Int32 × Int32 × (Nat → Int32)) :=
    some (0, v_stage, v_digits, v_p_rows, v_p_outer)
def fX6_acceptsOuter_J20 (v_stage : Int32) (v_digits : Int32) (v_p_rows : Int32) (v_p_outer : Nat → Int32) (p1 : Int32) (u_20 : Unit) : Option (Int32 × Int32 × Int32 × Int32 × (Nat → Int32)) :=
    if 4 ≤ v_digits then (fX6_acceptsOuter_J48 v_stage v_digits v_p_rows v_p_outer ()) else (bd (fX4_outerAllowed v_digits (p1 - 48) v_p_outer) (fun r_2 => if r_2 = 0 then (fX6_acceptsOuter_J48 v_stage v_digits v_p_rows v_p_outer ()) else (gd (inb v_digits 4) (some (1, v_stage, (v_digits + 1), (v_digits + 1), (upd v_p_outer v_digits.toNatClampNeg (p1 - 48)))))))
def fX6_acceptsOuter (p1 : Int32) (v_stage : Int32) (v_digits : Int32) (v_p_rows : Int32) (v_p_outer : Nat → Int32) : Option (Int32 × Int32 × Int32 × Int32 × (Nat → Int32)) :=
  if p1 = 47 then (if v_digits ≤ 0 then (fX6_acceptsOuter_J20 v_stage v_digits v_p_rows v_p_outer p1 ()) else (bd (fX6_enter 2) (fun r_7 => some (1, r_7.1, r_7.2, v_p_rows, v_p_outer)))) else (fX6_acceptsOuter_J20 v_stage v_digits v_p_rows v_p_outer p1 ())
def rmX6_acceptsOuter : Room := { frames := 1, cells := 0, slots := 0, locals := 23 }
set_option maxRecDepth 100000 in
set_option maxHeartbeats 4000000 in
theorem ctX6_acceptsOuter (l : Launch) (z : Nat × Nat × Nat) (dC : Nat → ClassId) (dI : Nat → Nat → Nat) (cI cB cE : ClassId) (a : Nat → Nat) (v_stage : Int32) (v_digits : Int32) (v_p_kind : Int32) (v_p_rows : Int32) (v_p_outer : Nat → Int32) (v_p_inner : Nat → Int32) (v_p_content : Nat → Int32) (p1 : Int32) (fin : Int32 × Int32 × Int32 × Int32 × (Nat → Int32)) (hf : fX6_acceptsOuter p1 v_stage v_digits v_p_rows v_p_outer = some fin) : Ct l z (dC, dI) (tyL cI cB cE) yX6_acceptsOuter wsX6_acceptsOuter rmX6_acceptsOuter [.ref (a 0), .int p1] (wX6 cI cB cE a v_stage v_digits v_p_kind v_p_rows v_p_outer v_p_inner v_p_content) (some (.int fin.1)) (wX6 cI cB cE a fin.2.1 fin.2.2.1 v_p_kind fin.2.2.2.1 fin.2.2.2.2 v_p_inner v_p_content) := by
  refine Met.ofC (cc := cX6_acceptsOuter) (maxL := 3) (ret := (some .boolean)) (by decide) rfl (Nat.le_of_ble_eq_true rfl) ?_
  intro p e s m args below meth c A Q ls hx hb hr hml hts hown hlocks hA hK hP hD hZ hS hQ hl
  have hown : s.vm.findClass RX6 = some m.cls := hown
  have hl : lv_has ls 3 [(0, .ref (a 0)), (1, .int p1)] := hl
  unfold fX6_acceptsOuter at hf
  refine lv_iload_n hx hb dX6_acceptsOuter_0 rfl (lv_at hl 1 rfl) ?_
  refine lv_bipush (v := 47) hx hb dX6_acceptsOuter_1 (by decide) ?_
  have J20 : ∀ (u_20 : Unit), fX6_acceptsOuter_J20 v_stage v_digits v_p_rows v_p_outer p1 u_20 = some fin → ∀ (H : Heap) (locs : List Loc), va_P (dC, dI) vwCl (wX6 cI cB cE a v_stage v_digits v_p_kind v_p_rows v_p_outer v_p_inner v_p_content) H → va_D A (wX6 cI cB cE a v_stage v_digits v_p_kind v_p_rows v_p_outer v_p_inner v_p_content) → va_S A s.heap H locs → ∀ (ls : Array Slot), lv_has ls 3 [(0, .ref (a 0)), (1, .int p1)] → W p l e rmX6_acceptsOuter s m args below meth c H locs 0 0 Q (F0 m 20 ls []) := by
    intro u_20 hf H locs hP hD hS ls hl
    unfold fX6_acceptsOuter_J20 at hf
    refine lv_iload_n hx hb dX6_acceptsOuter_20 rfl (lv_at hl 1 rfl) ?_
    refine lv_bipush (v := 48) hx hb dX6_acceptsOuter_21 (by decide) ?_
    refine lv_isub hx hb dX6_acceptsOuter_23 ?_
    refine lv_istore_n (lv' := [(2, .int (p1 - 48)), (0, .ref (a 0)), (1, .int p1)]) hx hb dX6_acceptsOuter_24 rfl hl (by decide) rfl (fun ls hl => ?_)
    refine lv_aload_n hx hb dX6_acceptsOuter_25 rfl (lv_at hl 1 rfl) ?_
    refine va_get (D := (dC, dI)) (ci := 6) (C := RX6) (T := TX6) (N := 3) hx hb hts (fun _ h => List.mem_cons_of_mem _ (List.mem_append_left _ (List.mem_append_right _ h))) hown hK hP 0 rfl rfl 2 (by decide) (hts (.fieldLink RX6 42 "SkewBoard$Reader" "digits" "I") (List.mem_of_getElem? (i := 1) rfl)) (fun _ h9 => h9) rfl dX6_acceptsOuter_26 ?_
    refine lv_iconst (v := 4) hx hb dX6_acceptsOuter_29 (by decide) ?_
    have J48 : ∀ (u_48 : Unit), fX6_acceptsOuter_J48 v_stage v_digits v_p_rows v_p_outer u_48 = some fin → ∀ (H : Heap) (locs : List Loc), va_P (dC, dI) vwCl (wX6 cI cB cE a v_stage v_digits v_p_kind v_p_rows v_p_outer v_p_inner v_p_content) H → va_D A (wX6 cI cB cE a v_stage v_digits v_p_kind v_p_rows v_p_outer v_p_inner v_p_content) → va_S A s.heap H locs → ∀ (ls : Array Slot), lv_has ls 3 [] → W p l e rmX6_acceptsOuter s m args below meth c H locs 0 0 Q (F0 m 48 ls []) := by
      intro u_48 hf H locs hP hD hS ls hl
      unfold fX6_acceptsOuter_J48 at hf
      refine lv_iconst (v := 0) hx hb dX6_acceptsOuter_48 (by decide) ?_
      have hQ2 := hQ
      rw [← Option.some.inj hf] at hQ2
      exact cx_zret rfl hQ2 hx hb hr hlocks hK hP hD hS dX6_acceptsOuter_49
    refine lv_icmp_ge (tgt := 48) hx hb dX6_acceptsOuter_30 (by decide) (fun c_1 => ?_) (fun c_1 => ?_)
    · rw [if_pos c_1] at hf
      exact J48 () hf _ _ hP hD hS ls (lv_sub hl [] rfl)
    · rw [if_neg c_1] at hf
      refine lv_aload_n hx hb dX6_acceptsOuter_33 rfl (lv_at hl 1 rfl) ?_
      refine va_get (D := (dC, dI)) (ci := 6) (C := RX6) (T := TX6) (N := 3) hx hb hts (fun _ h => List.mem_cons_of_mem _ (List.mem_append_left _ (List.mem_append_right _ h))) hown hK hP 0 rfl rfl 0 (by decide) (hts (.fieldLink RX6 12 "SkewBoard$Reader" "plan" "LSkewBoard$Plan;") (List.mem_of_getElem? (i := 2) rfl)) (fun _ h9 => h9) rfl dX6_acceptsOuter_34 ?_
      refine lv_aload_n hx hb dX6_acceptsOuter_37 rfl (lv_at hl 1 rfl) ?_
      refine va_get (D := (dC, dI)) (ci := 6) (C := RX6) (T := TX6) (N := 3) hx hb hts (fun _ h => List.mem_cons_of_mem _ (List.mem_append_left _ (List.mem_append_right _ h))) hown hK hP 0 rfl rfl 2 (by decide) (hts (.fieldLink RX6 42 "SkewBoard$Reader" "digits" "I") (List.mem_of_getElem? (i := 1) rfl)) (fun _ h9 => h9) rfl dX6_acceptsOuter_38 ?_
      refine lv_iload_n hx hb dX6_acceptsOuter_41 rfl (lv_at hl 0 rfl) ?_
      obtain ⟨r_2, hr_2, hf⟩ := bd_some hf
      refine cx_run (ws' := (wX6 cI cB cE a v_stage v_digits v_p_kind v_p_rows v_p_outer v_p_inner v_p_content)) (wr := [((a 0), .inr (6, [.ref (a 1), .int v_stage, .int v_digits]))]) (cx_V (As := [.int v_digits, .int (p1 - 48)]) (rest := []) ⟨hx, hb, hml, hown, hts⟩ (ctX4_outerAllowed l z dC dI cI cB cE (fun i => a (1 + i)) v_p_kind v_p_rows v_p_outer v_p_inner v_p_content v_digits (p1 - 48) r_2 hr_2) (cwV 2 hts gX6_acceptsOuter_X4_outerAllowed rfl rfl rfl (by decide +kernel) ⟨Nat.le_of_ble_eq_true rfl, Nat.le_of_ble_eq_true rfl⟩) hK (hP.sub [1, 2, 3, 4] rfl) (hD.sub [1, 2, 3, 4] (by decide) rfl) hZ hS hA (ci := 4) (q0 := 0) rfl rfl rfl hl.1 rfl (Nat.le_of_ble_eq_true rfl) dX6_acceptsOuter_42) hP hD hS hA [1, 2, 3, 4] [0] rfl rfl (by decide) (by decide) [0, 1, 2, 3, 4] (by decide) rfl [.int r_2] rfl (fun H locs hP hD hS => ?_)
      refine lv_if_ne (tgt := 50) hx hb dX6_acceptsOuter_45 (by decide) (fun c_3 => ?_) (fun c_3 => ?_)
      · rw [if_neg c_3] at hf
        refine lv_aload_n hx hb dX6_acceptsOuter_50 rfl (lv_at hl 1 rfl) ?_
        refine va_get (D := (dC, dI)) (ci := 6) (C := RX6) (T := TX6) (N := 3) hx hb hts (fun _ h => List.mem_cons_of_mem _ (List.mem_append_left _ (List.mem_append_right _ h))) hown hK hP 0 rfl rfl 0 (by decide) (hts (.fieldLink RX6 12 "SkewBoard$Reader" "plan" "LSkewBoard$Plan;") (List.mem_of_getElem? (i := 2) rfl)) (fun _ h9 => h9) rfl dX6_acceptsOuter_51 ?_
        refine va_get (D := (dC, dI)) (ci := 4) (C := RX4) (T := TX4) (N := 5) hx hb hts (fun _ h => List.mem_cons_of_mem _ (List.mem_append_right _ h)) hown hK hP 1 rfl rfl 2 (by decide) (hts (.fieldLink RX6 72 "SkewBoard$Plan" "outer" "[I") (List.mem_of_getElem? (i := 3) rfl)) (fun _ h9 => h9) rfl dX6_acceptsOuter_54 ?_
        refine lv_aload_n hx hb dX6_acceptsOuter_57 rfl (lv_at hl 1 rfl) ?_
        refine va_get (D := (dC, dI)) (ci := 6) (C := RX6) (T := TX6) (N := 3) hx hb hts (fun _ h => List.mem_cons_of_mem _ (List.mem_append_left _ (List.mem_append_right _ h))) hown hK hP 0 rfl rfl 2 (by decide) (hts (.fieldLink RX6 42 "SkewBoard$Reader" "digits" "I") (List.mem_of_getElem? (i := 1) rfl)) (fun _ h9 => h9) rfl dX6_acceptsOuter_58 ?_
        refine lv_iload_n hx hb dX6_acceptsOuter_61 rfl (lv_at hl 0 rfl) ?_
        obtain ⟨g_4, hf⟩ := gd_some hf
        refine va_iast hx hb hK hP hD hS 2 0 rfl rfl (inb_vp g_4) dX6_acceptsOuter_62 (fun H locs hP hD hS => ?_)
        have hP : va_P (dC, dI) vwCl (wX6 cI cB cE a v_stage v_digits v_p_kind v_p_rows (upd v_p_outer v_digits.toNatClampNeg (p1 - 48)) v_p_inner v_p_content) H := hP
        have hD : va_D A (wX6 cI cB cE a v_stage v_digits v_p_kind v_p_rows (upd v_p_outer v_digits.toNatClampNeg (p1 - 48)) v_p_inner v_p_content) := hD
        refine lv_aload_n hx hb dX6_acceptsOuter_63 rfl (lv_at hl 1 rfl) ?_
        refine lv_dup hx hb dX6_acceptsOuter_64 rfl ?_
        refine va_get (D := (dC, dI)) (ci := 6) (C := RX6) (T := TX6) (N := 3) hx hb hts (fun _ h => List.mem_cons_of_mem _ (List.mem_append_left _ (List.mem_append_right _ h))) hown hK hP 0 rfl rfl 2 (by decide) (hts (.fieldLink RX6 42 "SkewBoard$Reader" "digits" "I") (List.mem_of_getElem? (i := 1) rfl)) (fun _ h9 => h9) rfl dX6_acceptsOuter_65 ?_
        refine lv_iconst (v := 1) hx hb dX6_acceptsOuter_68 (by decide) ?_
        refine lv_iadd hx hb dX6_acceptsOuter_69 ?_
        refine va_put (D := (dC, dI)) (ci := 6) (v := .int (v_digits + 1)) (ty := .int) (C := RX6) (T := TX6) (N := 3) hx hb hts (fun _ h => List.mem_cons_of_mem _ (List.mem_append_left _ (List.mem_append_right _ h))) tyX6 tyX6_ok nmX6 hown hK hP hD hS 0 rfl rfl 2 (by decide) (hts (.fieldLink RX6 42 "SkewBoard$Reader" "digits" "I") (List.mem_of_getElem? (i := 1) rfl)) (fun _ h9 => h9) rfl (by decide +kernel) rfl rfl (Nat.le_of_ble_eq_true rfl) dX6_acceptsOuter_70 (fun H locs hP hD hS => ?_)
        have hP : va_P (dC, dI) vwCl (wX6 cI cB cE a v_stage (v_digits + 1) v_p_kind v_p_rows (upd v_p_outer v_digits.toNatClampNeg (p1 - 48)) v_p_inner v_p_content) H := hP
        have hD : va_D A (wX6 cI cB cE a v_stage (v_digits + 1) v_p_kind v_p_rows (upd v_p_outer v_digits.toNatClampNeg (p1 - 48)) v_p_inner v_p_content) := hD
        refine lv_aload_n hx hb dX6_acceptsOuter_73 rfl (lv_at hl 1 rfl) ?_
        refine va_get (D := (dC, dI)) (ci := 6) (C := RX6) (T := TX6) (N := 3) hx hb hts (fun _ h => List.mem_cons_of_mem _ (List.mem_append_left _ (List.mem_append_right _ h))) hown hK hP 0 rfl rfl 0 (by decide) (hts (.fieldLink RX6 12 "SkewBoard$Reader" "plan" "LSkewBoard$Plan;") (List.mem_of_getElem? (i := 2) rfl)) (fun _ h9 => h9) rfl dX6_acceptsOuter_74 ?_
        refine lv_aload_n hx hb dX6_acceptsOuter_77 rfl (lv_at hl 1 rfl) ?_
        refine va_get (D := (dC, dI)) (ci := 6) (C := RX6) (T := TX6) (N := 3) hx hb hts (fun _ h => List.mem_cons_of_mem _ (List.mem_append_left _ (List.mem_append_right _ h))) hown hK hP 0 rfl rfl 2 (by decide) (hts (.fieldLink RX6 42 "SkewBoard$Reader" "digits" "I") (List.mem_of_getElem? (i := 1) rfl)) (fun _ h9 => h9) rfl dX6_acceptsOuter_78 ?_
        refine va_put (D := (dC, dI)) (ci := 4) (v := .int (v_digits + 1)) (ty := .int) (C := RX4) (T := TX4) (N := 5) hx hb hts (fun _ h => List.mem_cons_of_mem _ (List.mem_append_right _ h)) tyX4 tyX4_ok nmX4 hown hK hP hD hS 1 rfl rfl 1 (by decide) (hts (.fieldLink RX6 75 "SkewBoard$Plan" "rows" "I") (List.mem_of_getElem? (i := 4) rfl)) (fun _ h9 => h9) rfl (by decide +kernel) rfl rfl (Nat.le_of_ble_eq_true rfl) dX6_acceptsOuter_81 (fun H locs hP hD hS => ?_)
        have hP : va_P (dC, dI) vwCl (wX6 cI cB cE a v_stage (v_digits + 1) v_p_kind (v_digits + 1) (upd v_p_outer v_digits.toNatClampNeg (p1 - 48)) v_p_inner v_p_content) H := hP
        have hD : va_D A (wX6 cI cB cE a v_stage (v_digits + 1) v_p_kind (v_digits + 1) (upd v_p_outer v_digits.toNatClampNeg (p1 - 48)) v_p_inner v_p_content) := hD
        refine lv_iconst (v := 1) hx hb dX6_acceptsOuter_84 (by decide) ?_
        have hQ2 := hQ
        rw [← Option.some.inj hf] at hQ2
        exact cx_zret rfl hQ2 hx hb hr hlocks hK hP hD hS dX6_acceptsOuter_85
      · rw [if_pos c_3] at hf
        exact J48 () hf _ _ hP hD hS ls (lv_sub hl [] rfl)
  refine lv_icmp_ne (tgt := 20) hx hb dX6_acceptsOuter_3 (by decide) (fun c_5 => ?_) (fun c_5 => ?_)
  · rw [if_neg c_5] at hf
    exact J20 () hf _ _ hP hD hS ls (lv_sub hl [0, 1] rfl)
  · rw [if_pos c_5] at hf
    refine lv_aload_n hx hb dX6_acceptsOuter_6 rfl (lv_at hl 0 rfl) ?_
    refine va_get (D := (dC, dI)) (ci := 6) (C := RX6) (T := TX6) (N := 3) hx hb hts (fun _ h => List.mem_cons_of_mem _ (List.mem_append_left _ (List.mem_append_right _ h))) hown hK hP 0 rfl rfl 2 (by decide) (hts (.fieldLink RX6 42 "SkewBoard$Reader" "digits" "I") (List.mem_of_getElem? (i := 1) rfl)) (fun _ h9 => h9) rfl dX6_acceptsOuter_7 ?_
    refine lv_if_le (tgt := 20) hx hb dX6_acceptsOuter_10 (by decide) (fun c_6 => ?_) (fun c_6 => ?_)
    · rw [if_pos c_6] at hf
      exact J20 () hf _ _ hP hD hS ls (lv_sub hl [0, 1] rfl)
    · rw [if_neg c_6] at hf
      refine lv_aload_n hx hb dX6_acceptsOuter_13 rfl (lv_at hl 0 rfl) ?_
      refine lv_iconst (v := 2) hx hb dX6_acceptsOuter_14 (by decide) ?_
      obtain ⟨r_7, hr_7, hf⟩ := bd_some hf
      refine cx_runW (cx_V (As := [.int 2]) (rest := []) ⟨hx, hb, hml, hown, hts⟩ (ctX6_enter l z dC dI cI cB cE a v_stage v_digits v_p_kind v_p_rows v_p_outer v_p_inner v_p_content 2 r_7 hr_7) (cwV 1 hts gX6_acceptsOuter_X6_enter rfl rfl rfl (by decide +kernel) ⟨Nat.le_of_ble_eq_true rfl, Nat.le_of_ble_eq_true rfl⟩) hK hP hD hZ hS hA (ci := 6) (q0 := 0) rfl rfl rfl hl.1 rfl (Nat.le_of_ble_eq_true rfl) dX6_acceptsOuter_15) hD hS hA [] rfl (fun H locs hP hD hS => ?_)
      refine lv_iconst (v := 1) hx hb dX6_acceptsOuter_18 (by decide) ?_
      have hQ2 := hQ
      rw [← Option.some.inj hf] at hQ2
      exact cx_zret rfl hQ2 hx hb hr hlocks hK hP hD hS dX6_acceptsOuter_19

def fX6_acceptsInner_J47 (v_stage : Int32) (v_digits : Int32) (v_p_inner : Nat → Int32) (u_47 : Unit) : Option (Int32 × Int32 × Int32 × (Nat → Int32)) :=
    some (0, v_stage, v_digits, v_p_inner)
def fX6_acceptsInner (p1 : Int32) (v_stage : Int32) (v_digits : Int32) (v_p_rows : Int32) (v_p_outer : Nat → Int32) (v_p_inner : Nat → Int32) : Option (Int32 × Int32 × Int32 × (Nat → Int32)) :=
  if p1 = 58 then (bd (fX6_enter 3) (fun r_6 => some (1, r_6.1, r_6.2, v_p_inner))) else (if v_p_rows ≤ v_digits then (fX6_acceptsInner_J47 v_stage v_digits v_p_inner ()) else (bd (fX4_innerAllowed v_digits (p1 - 48) v_p_outer v_p_inner) (fun r_3 => if r_3 = 0 then (fX6_acceptsInner_J47 v_stage v_digits v_p_inner ()) else (gd (inb v_digits 4) (some (1, v_stage, (v_digits + 1), (upd v_p_inner v_digits.toNatClampNeg (p1 - 48))))))))
def rmX6_acceptsInner : Room := { frames := 1, cells := 0, slots := 0, locals := 23 }
set_option maxRecDepth 100000 in
set_option maxHeartbeats 4000000 in
theorem ctX6_acceptsInner (l : Launch) (z : Nat × Nat × Nat) (dC : Nat → ClassId) (dI : Nat → Nat → Nat) (cI cB cE : ClassId) (a : Nat → Nat) (v_stage : Int32) (v_digits : Int32) (v_p_kind : Int32) (v_p_rows : Int32) (v_p_outer : Nat → Int32) (v_p_inner : Nat → Int32) (v_p_content : Nat → Int32) (p1 : Int32) (fin : Int32 × Int32 × Int32 × (Nat → Int32)) (hf : fX6_acceptsInner p1 v_stage v_digits v_p_rows v_p_outer v_p_inner = some fin) : Ct l z (dC, dI) (tyL cI cB cE) yX6_acceptsInner wsX6_acceptsInner rmX6_acceptsInner [.ref (a 0), .int p1] (wX6 cI cB cE a v_stage v_digits v_p_kind v_p_rows v_p_outer v_p_inner v_p_content) (some (.int fin.1)) (wX6 cI cB cE a fin.2.1 fin.2.2.1 v_p_kind v_p_rows v_p_outer fin.2.2.2 v_p_content) := by
  refine Met.ofC (cc := cX6_acceptsInner) (maxL := 3) (ret := (some .boolean)) (by decide) rfl (Nat.le_of_ble_eq_true rfl) ?_
  intro p e s m args below meth c A Q ls hx hb hr hml hts hown hlocks hA hK hP hD hZ hS hQ hl
  have hown : s.vm.findClass RX6 = some m.cls := hown
  have hl : lv_has ls 3 [(0, .ref (a 0)), (1, .int p1)] := hl
  unfold fX6_acceptsInner at hf
  refine lv_iload_n hx hb dX6_acceptsInner_0 rfl (lv_at hl 1 rfl) ?_
  refine lv_bipush (v := 58) hx hb dX6_acceptsInner_1 (by decide) ?_
  refine lv_icmp_ne (tgt := 13) hx hb dX6_acceptsInner_3 (by decide) (fun c_1 => ?_) (fun c_1 => ?_)
  · rw [if_neg c_1] at hf
    refine lv_iload_n hx hb dX6_acceptsInner_13 rfl (lv_at hl 1 rfl) ?_
    refine lv_bipush (v := 48) hx hb dX6_acceptsInner_14 (by decide) ?_
    refine lv_isub hx hb dX6_acceptsInner_16 ?_
    refine lv_istore_n (lv' := [(2, .int (p1 - 48)), (0, .ref (a 0)), (1, .int p1)]) hx hb dX6_acceptsInner_17 rfl hl (by decide) rfl (fun ls hl => ?_)
    refine lv_aload_n hx hb dX6_acceptsInner_18 rfl (lv_at hl 1 rfl) ?_
    refine va_get (D := (dC, dI)) (ci := 6) (C := RX6) (T := TX6) (N := 3) hx hb hts (fun _ h => List.mem_cons_of_mem _ (List.mem_append_left _ (List.mem_append_right _ h))) hown hK hP 0 rfl rfl 2 (by decide) (hts (.fieldLink RX6 42 "SkewBoard$Reader" "digits" "I") (List.mem_of_getElem? (i := 1) rfl)) (fun _ h9 => h9) rfl dX6_acceptsInner_19 ?_
    refine lv_aload_n hx hb dX6_acceptsInner_22 rfl (lv_at hl 1 rfl) ?_
    refine va_get (D := (dC, dI)) (ci := 6) (C := RX6) (T := TX6) (N := 3) hx hb hts (fun _ h => List.mem_cons_of_mem _ (List.mem_append_left _ (List.mem_append_right _ h))) hown hK hP 0 rfl rfl 0 (by decide) (hts (.fieldLink RX6 12 "SkewBoard$Reader" "plan" "LSkewBoard$Plan;") (List.mem_of_getElem? (i := 2) rfl)) (fun _ h9 => h9) rfl dX6_acceptsInner_23 ?_
    refine va_get (D := (dC, dI)) (ci := 4) (C := RX4) (T := TX4) (N := 5) hx hb hts (fun _ h => List.mem_cons_of_mem _ (List.mem_append_right _ h)) hown hK hP 1 rfl rfl 1 (by decide) (hts (.fieldLink RX6 75 "SkewBoard$Plan" "rows" "I") (List.mem_of_getElem? (i := 3) rfl)) (fun _ h9 => h9) rfl dX6_acceptsInner_26 ?_
    have J47 : ∀ (u_47 : Unit), fX6_acceptsInner_J47 v_stage v_digits v_p_inner u_47 = some fin → ∀ (H : Heap) (locs : List Loc), va_P (dC, dI) vwCl (wX6 cI cB cE a v_stage v_digits v_p_kind v_p_rows v_p_outer v_p_inner v_p_content) H → va_D A (wX6 cI cB cE a v_stage v_digits v_p_kind v_p_rows v_p_outer v_p_inner v_p_content) → va_S A s.heap H locs → ∀ (ls : Array Slot), lv_has ls 3 [] → W p l e rmX6_acceptsInner s m args below meth c H locs 0 0 Q (F0 m 47 ls []) := by
      intro u_47 hf H locs hP hD hS ls hl
      unfold fX6_acceptsInner_J47 at hf
      refine lv_iconst (v := 0) hx hb dX6_acceptsInner_47 (by decide) ?_
      have hQ2 := hQ
      rw [← Option.some.inj hf] at hQ2
      exact cx_zret rfl hQ2 hx hb hr hlocks hK hP hD hS dX6_acceptsInner_48
    refine lv_icmp_ge (tgt := 47) hx hb dX6_acceptsInner_29 (by decide) (fun c_2 => ?_) (fun c_2 => ?_)
    · rw [if_pos c_2] at hf
      exact J47 () hf _ _ hP hD hS ls (lv_sub hl [] rfl)
    · rw [if_neg c_2] at hf
      refine lv_aload_n hx hb dX6_acceptsInner_32 rfl (lv_at hl 1 rfl) ?_
      refine va_get (D := (dC, dI)) (ci := 6) (C := RX6) (T := TX6) (N := 3) hx hb hts (fun _ h => List.mem_cons_of_mem _ (List.mem_append_left _ (List.mem_append_right _ h))) hown hK hP 0 rfl rfl 0 (by decide) (hts (.fieldLink RX6 12 "SkewBoard$Reader" "plan" "LSkewBoard$Plan;") (List.mem_of_getElem? (i := 2) rfl)) (fun _ h9 => h9) rfl dX6_acceptsInner_33 ?_
      refine lv_aload_n hx hb dX6_acceptsInner_36 rfl (lv_at hl 1 rfl) ?_
      refine va_get (D := (dC, dI)) (ci := 6) (C := RX6) (T := TX6) (N := 3) hx hb hts (fun _ h => List.mem_cons_of_mem _ (List.mem_append_left _ (List.mem_append_right _ h))) hown hK hP 0 rfl rfl 2 (by decide) (hts (.fieldLink RX6 42 "SkewBoard$Reader" "digits" "I") (List.mem_of_getElem? (i := 1) rfl)) (fun _ h9 => h9) rfl dX6_acceptsInner_37 ?_
      refine lv_iload_n hx hb dX6_acceptsInner_40 rfl (lv_at hl 0 rfl) ?_
      obtain ⟨r_3, hr_3, hf⟩ := bd_some hf
      refine cx_run (ws' := (wX6 cI cB cE a v_stage v_digits v_p_kind v_p_rows v_p_outer v_p_inner v_p_content)) (wr := [((a 0), .inr (6, [.ref (a 1), .int v_stage, .int v_digits]))]) (cx_V (As := [.int v_digits, .int (p1 - 48)]) (rest := []) ⟨hx, hb, hml, hown, hts⟩ (ctX4_innerAllowed l z dC dI cI cB cE (fun i => a (1 + i)) v_p_kind v_p_rows v_p_outer v_p_inner v_p_content v_digits (p1 - 48) r_3 hr_3) (cwV 2 hts gX6_acceptsInner_X4_innerAllowed rfl rfl rfl (by decide +kernel) ⟨Nat.le_of_ble_eq_true rfl, Nat.le_of_ble_eq_true rfl⟩) hK (hP.sub [1, 2, 3, 4] rfl) (hD.sub [1, 2, 3, 4] (by decide) rfl) hZ hS hA (ci := 4) (q0 := 0) rfl rfl rfl hl.1 rfl (Nat.le_of_ble_eq_true rfl) dX6_acceptsInner_41) hP hD hS hA [1, 2, 3, 4] [0] rfl rfl (by decide) (by decide) [0, 1, 2, 3, 4] (by decide) rfl [.int r_3] rfl (fun H locs hP hD hS => ?_)
      refine lv_if_ne (tgt := 49) hx hb dX6_acceptsInner_44 (by decide) (fun c_4 => ?_) (fun c_4 => ?_)
      · rw [if_neg c_4] at hf
        refine lv_aload_n hx hb dX6_acceptsInner_49 rfl (lv_at hl 1 rfl) ?_
        refine va_get (D := (dC, dI)) (ci := 6) (C := RX6) (T := TX6) (N := 3) hx hb hts (fun _ h => List.mem_cons_of_mem _ (List.mem_append_left _ (List.mem_append_right _ h))) hown hK hP 0 rfl rfl 0 (by decide) (hts (.fieldLink RX6 12 "SkewBoard$Reader" "plan" "LSkewBoard$Plan;") (List.mem_of_getElem? (i := 2) rfl)) (fun _ h9 => h9) rfl dX6_acceptsInner_50 ?_
        refine va_get (D := (dC, dI)) (ci := 4) (C := RX4) (T := TX4) (N := 5) hx hb hts (fun _ h => List.mem_cons_of_mem _ (List.mem_append_right _ h)) hown hK hP 1 rfl rfl 3 (by decide) (hts (.fieldLink RX6 81 "SkewBoard$Plan" "inner" "[I") (List.mem_of_getElem? (i := 4) rfl)) (fun _ h9 => h9) rfl dX6_acceptsInner_53 ?_
        refine lv_aload_n hx hb dX6_acceptsInner_56 rfl (lv_at hl 1 rfl) ?_
        refine va_get (D := (dC, dI)) (ci := 6) (C := RX6) (T := TX6) (N := 3) hx hb hts (fun _ h => List.mem_cons_of_mem _ (List.mem_append_left _ (List.mem_append_right _ h))) hown hK hP 0 rfl rfl 2 (by decide) (hts (.fieldLink RX6 42 "SkewBoard$Reader" "digits" "I") (List.mem_of_getElem? (i := 1) rfl)) (fun _ h9 => h9) rfl dX6_acceptsInner_57 ?_
        refine lv_iload_n hx hb dX6_acceptsInner_60 rfl (lv_at hl 0 rfl) ?_
        obtain ⟨g_5, hf⟩ := gd_some hf
        refine va_iast hx hb hK hP hD hS 3 0 rfl rfl (inb_vp g_5) dX6_acceptsInner_61 (fun H locs hP hD hS => ?_)
        have hP : va_P (dC, dI) vwCl (wX6 cI cB cE a v_stage v_digits v_p_kind v_p_rows v_p_outer (upd v_p_inner v_digits.toNatClampNeg (p1 - 48)) v_p_content) H := hP
        have hD : va_D A (wX6 cI cB cE a v_stage v_digits v_p_kind v_p_rows v_p_outer (upd v_p_inner v_digits.toNatClampNeg (p1 - 48)) v_p_content) := hD
        refine lv_aload_n hx hb dX6_acceptsInner_62 rfl (lv_at hl 1 rfl) ?_
        refine lv_dup hx hb dX6_acceptsInner_63 rfl ?_
        refine va_get (D := (dC, dI)) (ci := 6) (C := RX6) (T := TX6) (N := 3) hx hb hts (fun _ h => List.mem_cons_of_mem _ (List.mem_append_left _ (List.mem_append_right _ h))) hown hK hP 0 rfl rfl 2 (by decide) (hts (.fieldLink RX6 42 "SkewBoard$Reader" "digits" "I") (List.mem_of_getElem? (i := 1) rfl)) (fun _ h9 => h9) rfl dX6_acceptsInner_64 ?_
        refine lv_iconst (v := 1) hx hb dX6_acceptsInner_67 (by decide) ?_
        refine lv_iadd hx hb dX6_acceptsInner_68 ?_
        refine va_put (D := (dC, dI)) (ci := 6) (v := .int (v_digits + 1)) (ty := .int) (C := RX6) (T := TX6) (N := 3) hx hb hts (fun _ h => List.mem_cons_of_mem _ (List.mem_append_left _ (List.mem_append_right _ h))) tyX6 tyX6_ok nmX6 hown hK hP hD hS 0 rfl rfl 2 (by decide) (hts (.fieldLink RX6 42 "SkewBoard$Reader" "digits" "I") (List.mem_of_getElem? (i := 1) rfl)) (fun _ h9 => h9) rfl (by decide +kernel) rfl rfl (Nat.le_of_ble_eq_true rfl) dX6_acceptsInner_69 (fun H locs hP hD hS => ?_)
        have hP : va_P (dC, dI) vwCl (wX6 cI cB cE a v_stage (v_digits + 1) v_p_kind v_p_rows v_p_outer (upd v_p_inner v_digits.toNatClampNeg (p1 - 48)) v_p_content) H := hP
        have hD : va_D A (wX6 cI cB cE a v_stage (v_digits + 1) v_p_kind v_p_rows v_p_outer (upd v_p_inner v_digits.toNatClampNeg (p1 - 48)) v_p_content) := hD
        refine lv_iconst (v := 1) hx hb dX6_acceptsInner_72 (by decide) ?_
        have hQ2 := hQ
        rw [← Option.some.inj hf] at hQ2
        exact cx_zret rfl hQ2 hx hb hr hlocks hK hP hD hS dX6_acceptsInner_73
      · rw [if_pos c_4] at hf
        exact J47 () hf _ _ hP hD hS ls (lv_sub hl [] rfl)
  · rw [if_pos c_1] at hf
    refine lv_aload_n hx hb dX6_acceptsInner_6 rfl (lv_at hl 0 rfl) ?_
    refine lv_iconst (v := 3) hx hb dX6_acceptsInner_7 (by decide) ?_
    obtain ⟨r_6, hr_6, hf⟩ := bd_some hf
    refine cx_runW (cx_V (As := [.int 3]) (rest := []) ⟨hx, hb, hml, hown, hts⟩ (ctX6_enter l z dC dI cI cB cE a v_stage v_digits v_p_kind v_p_rows v_p_outer v_p_inner v_p_content 3 r_6 hr_6) (cwV 1 hts gX6_acceptsInner_X6_enter rfl rfl rfl (by decide +kernel) ⟨Nat.le_of_ble_eq_true rfl, Nat.le_of_ble_eq_true rfl⟩) hK hP hD hZ hS hA (ci := 6) (q0 := 0) rfl rfl rfl hl.1 rfl (Nat.le_of_ble_eq_true rfl) dX6_acceptsInner_8) hD hS hA [] rfl (fun H locs hP hD hS => ?_)
    refine lv_iconst (v := 1) hx hb dX6_acceptsInner_11 (by decide) ?_
    have hQ2 := hQ
    rw [← Option.some.inj hf] at hQ2
    exact cx_zret rfl hQ2 hx hb hr hlocks hK hP hD hS dX6_acceptsInner_12

def fX6_acceptsContent_J23 (v_digits : Int32) (v_p_content : Nat → Int32) (u_23 : Unit) : Option (Int32 × Int32 × (Nat → Int32)) :=
    some (0, v_digits, v_p_content)
def fX6_acceptsContent (p1 : Int32) (v_digits : Int32) (v_p_content : Nat → Int32) : Option (Int32 × Int32 × (Nat → Int32)) :=
  if 4 ≤ v_digits then (fX6_acceptsContent_J23 v_digits v_p_content ()) else (if (p1 - 48) < 0 then (fX6_acceptsContent_J23 v_digits v_p_content ()) else (if (p1 - 48) ≤ 9 then (gd (inb v_digits 4) (some (1, (v_digits + 1), (upd v_p_content v_digits.toNatClampNeg (p1 - 48))))) else (fX6_acceptsContent_J23 v_digits v_p_content ())))
def rmX6_acceptsContent : Room := { frames := 0, cells := 0, slots := 0, locals := 0 }
set_option maxRecDepth 100000 in
set_option maxHeartbeats 4000000 in
theorem ctX6_acceptsContent (l : Launch) (z : Nat × Nat × Nat) (dC : Nat → ClassId) (dI : Nat → Nat → Nat) (cI cB cE : ClassId) (a : Nat → Nat) (v_stage : Int32) (v_digits : Int32) (v_p_kind : Int32) (v_p_rows : Int32) (v_p_outer : Nat → Int32) (v_p_inner : Nat → Int32) (v_p_content : Nat → Int32) (p1 : Int32) (fin : Int32 × Int32 × (Nat → Int32)) (hf : fX6_acceptsContent p1 v_digits v_p_content = some fin) : Ct l z (dC, dI) (tyL cI cB cE) yX6_acceptsContent wsX6_acceptsContent rmX6_acceptsContent [.ref (a 0), .int p1] (wX6 cI cB cE a v_stage v_digits v_p_kind v_p_rows v_p_outer v_p_inner v_p_content) (some (.int fin.1)) (wX6 cI cB cE a v_stage fin.2.1 v_p_kind v_p_rows v_p_outer v_p_inner fin.2.2) := by
  refine Met.ofC (cc := cX6_acceptsContent) (maxL := 3) (ret := (some .boolean)) (by decide) rfl (Nat.le_of_ble_eq_true rfl) ?_
  intro p e s m args below meth c A Q ls hx hb hr hml hts hown hlocks hA hK hP hD hZ hS hQ hl
  have hown : s.vm.findClass RX6 = some m.cls := hown
  have hl : lv_has ls 3 [(0, .ref (a 0)), (1, .int p1)] := hl
  unfold fX6_acceptsContent at hf
  refine lv_iload_n hx hb dX6_acceptsContent_0 rfl (lv_at hl 1 rfl) ?_
  refine lv_bipush (v := 48) hx hb dX6_acceptsContent_1 (by decide) ?_
  refine lv_isub hx hb dX6_acceptsContent_3 ?_
  refine lv_istore_n (lv' := [(2, .int (p1 - 48)), (0, .ref (a 0)), (1, .int p1)]) hx hb dX6_acceptsContent_4 rfl hl (by decide) rfl (fun ls hl => ?_)
  refine lv_aload_n hx hb dX6_acceptsContent_5 rfl (lv_at hl 1 rfl) ?_
  refine va_get (D := (dC, dI)) (ci := 6) (C := RX6) (T := TX6) (N := 3) hx hb hts (fun _ h => List.mem_cons_of_mem _ (List.mem_append_left _ (List.mem_append_right _ h))) hown hK hP 0 rfl rfl 2 (by decide) (hts (.fieldLink RX6 42 "SkewBoard$Reader" "digits" "I") (List.mem_of_getElem? (i := 1) rfl)) (fun _ h9 => h9) rfl dX6_acceptsContent_6 ?_
  refine lv_iconst (v := 4) hx hb dX6_acceptsContent_9 (by decide) ?_
  have J23 : ∀ (u_23 : Unit), fX6_acceptsContent_J23 v_digits v_p_content u_23 = some fin → ∀ (H : Heap) (locs : List Loc), va_P (dC, dI) vwCl (wX6 cI cB cE a v_stage v_digits v_p_kind v_p_rows v_p_outer v_p_inner v_p_content) H → va_D A (wX6 cI cB cE a v_stage v_digits v_p_kind v_p_rows v_p_outer v_p_inner v_p_content) → va_S A s.heap H locs → ∀ (ls : Array Slot), lv_has ls 3 [] → W p l e rmX6_acceptsContent s m args below meth c H locs 0 0 Q (F0 m 23 ls []) := by
    intro u_23 hf H locs hP hD hS ls hl
    unfold fX6_acceptsContent_J23 at hf
    refine lv_iconst (v := 0) hx hb dX6_acceptsContent_23 (by decide) ?_
    have hQ2 := hQ
    rw [← Option.some.inj hf] at hQ2
    exact cx_zret rfl hQ2 hx hb hr hlocks hK hP hD hS dX6_acceptsContent_24
  refine lv_icmp_ge (tgt := 23) hx hb dX6_acceptsContent_10 (by decide) (fun c_1 => ?_) (fun c_1 => ?_)
  · rw [if_pos c_1] at hf
    exact J23 () hf _ _ hP hD hS ls (lv_sub hl [] rfl)
  · rw [if_neg c_1] at hf
    refine lv_iload_n hx hb dX6_acceptsContent_13 rfl (lv_at hl 0 rfl) ?_
    refine lv_if_lt (tgt := 23) hx hb dX6_acceptsContent_14 (by decide) (fun c_2 => ?_) (fun c_2 => ?_)
    · rw [if_pos c_2] at hf
      exact J23 () hf _ _ hP hD hS ls (lv_sub hl [] rfl)
    · rw [if_neg c_2] at hf
      refine lv_iload_n hx hb dX6_acceptsContent_17 rfl (lv_at hl 0 rfl) ?_
      refine lv_bipush (v := 9) hx hb dX6_acceptsContent_18 (by decide) ?_
      refine lv_icmp_le (tgt := 25) hx hb dX6_acceptsContent_20 (by decide) (fun c_3 => ?_) (fun c_3 => ?_)
      · rw [if_pos c_3] at hf
        refine lv_aload_n hx hb dX6_acceptsContent_25 rfl (lv_at hl 1 rfl) ?_
        refine va_get (D := (dC, dI)) (ci := 6) (C := RX6) (T := TX6) (N := 3) hx hb hts (fun _ h => List.mem_cons_of_mem _ (List.mem_append_left _ (List.mem_append_right _ h))) hown hK hP 0 rfl rfl 0 (by decide) (hts (.fieldLink RX6 12 "SkewBoard$Reader" "plan" "LSkewBoard$Plan;") (List.mem_of_getElem? (i := 2) rfl)) (fun _ h9 => h9) rfl dX6_acceptsContent_26 ?_
        refine va_get (D := (dC, dI)) (ci := 4) (C := RX4) (T := TX4) (N := 5) hx hb hts (fun _ h => List.mem_cons_of_mem _ (List.mem_append_right _ h)) hown hK hP 1 rfl rfl 4 (by decide) (hts (.fieldLink RX6 84 "SkewBoard$Plan" "content" "[I") (List.mem_of_getElem? (i := 3) rfl)) (fun _ h9 => h9) rfl dX6_acceptsContent_29 ?_
        refine lv_aload_n hx hb dX6_acceptsContent_32 rfl (lv_at hl 1 rfl) ?_
        refine va_get (D := (dC, dI)) (ci := 6) (C := RX6) (T := TX6) (N := 3) hx hb hts (fun _ h => List.mem_cons_of_mem _ (List.mem_append_left _ (List.mem_append_right _ h))) hown hK hP 0 rfl rfl 2 (by decide) (hts (.fieldLink RX6 42 "SkewBoard$Reader" "digits" "I") (List.mem_of_getElem? (i := 1) rfl)) (fun _ h9 => h9) rfl dX6_acceptsContent_33 ?_
        refine lv_iload_n hx hb dX6_acceptsContent_36 rfl (lv_at hl 0 rfl) ?_
        obtain ⟨g_4, hf⟩ := gd_some hf
        refine va_iast hx hb hK hP hD hS 4 0 rfl rfl (inb_vp g_4) dX6_acceptsContent_37 (fun H locs hP hD hS => ?_)
        have hP : va_P (dC, dI) vwCl (wX6 cI cB cE a v_stage v_digits v_p_kind v_p_rows v_p_outer v_p_inner (upd v_p_content v_digits.toNatClampNeg (p1 - 48))) H := hP
        have hD : va_D A (wX6 cI cB cE a v_stage v_digits v_p_kind v_p_rows v_p_outer v_p_inner (upd v_p_content v_digits.toNatClampNeg (p1 - 48))) := hD
        refine lv_aload_n hx hb dX6_acceptsContent_38 rfl (lv_at hl 1 rfl) ?_
        refine lv_dup hx hb dX6_acceptsContent_39 rfl ?_
        refine va_get (D := (dC, dI)) (ci := 6) (C := RX6) (T := TX6) (N := 3) hx hb hts (fun _ h => List.mem_cons_of_mem _ (List.mem_append_left _ (List.mem_append_right _ h))) hown hK hP 0 rfl rfl 2 (by decide) (hts (.fieldLink RX6 42 "SkewBoard$Reader" "digits" "I") (List.mem_of_getElem? (i := 1) rfl)) (fun _ h9 => h9) rfl dX6_acceptsContent_40 ?_
        refine lv_iconst (v := 1) hx hb dX6_acceptsContent_43 (by decide) ?_
        refine lv_iadd hx hb dX6_acceptsContent_44 ?_
        refine va_put (D := (dC, dI)) (ci := 6) (v := .int (v_digits + 1)) (ty := .int) (C := RX6) (T := TX6) (N := 3) hx hb hts (fun _ h => List.mem_cons_of_mem _ (List.mem_append_left _ (List.mem_append_right _ h))) tyX6 tyX6_ok nmX6 hown hK hP hD hS 0 rfl rfl 2 (by decide) (hts (.fieldLink RX6 42 "SkewBoard$Reader" "digits" "I") (List.mem_of_getElem? (i := 1) rfl)) (fun _ h9 => h9) rfl (by decide +kernel) rfl rfl (Nat.le_of_ble_eq_true rfl) dX6_acceptsContent_45 (fun H locs hP hD hS => ?_)
        have hP : va_P (dC, dI) vwCl (wX6 cI cB cE a v_stage (v_digits + 1) v_p_kind v_p_rows v_p_outer v_p_inner (upd v_p_content v_digits.toNatClampNeg (p1 - 48))) H := hP
        have hD : va_D A (wX6 cI cB cE a v_stage (v_digits + 1) v_p_kind v_p_rows v_p_outer v_p_inner (upd v_p_content v_digits.toNatClampNeg (p1 - 48))) := hD
        refine lv_iconst (v := 1) hx hb dX6_acceptsContent_48 (by decide) ?_
        have hQ2 := hQ
        rw [← Option.some.inj hf] at hQ2
        exact cx_zret rfl hQ2 hx hb hr hlocks hK hP hD hS dX6_acceptsContent_49
      · rw [if_neg c_3] at hf
        exact J23 () hf _ _ hP hD hS ls (lv_sub hl [] rfl)

def fX6_accepts (p1 : Int32) (v_stage : Int32) (v_digits : Int32) (v_p_kind : Int32) (v_p_rows : Int32) (v_p_outer : Nat → Int32) (v_p_inner : Nat → Int32) (v_p_content : Nat → Int32) : Option (Int32 × Int32 × Int32 × Int32 × Int32 × (Nat → Int32) × (Nat → Int32) × (Nat → Int32)) :=
  if v_stage = 0 then (bd (fX6_acceptsRule p1 v_stage v_digits v_p_kind) (fun r_2 => gd (isb r_2.1) (some (r_2.1, r_2.2.1, r_2.2.2.1, r_2.2.2.2, v_p_rows, v_p_outer, v_p_inner, v_p_content)))) else if v_stage = 1 then (bd (fX6_acceptsOuter p1 v_stage v_digits v_p_rows v_p_outer) (fun r_5 => gd (isb r_5.1) (some (r_5.1, r_5.2.1, r_5.2.2.1, v_p_kind, r_5.2.2.2.1, r_5.2.2.2.2, v_p_inner, v_p_content)))) else if v_stage = 2 then (bd (fX6_acceptsInner p1 v_stage v_digits v_p_rows v_p_outer v_p_inner) (fun r_8 => gd (isb r_8.1) (some (r_8.1, r_8.2.1, r_8.2.2.1, v_p_kind, v_p_rows, v_p_outer, r_8.2.2.2, v_p_content)))) else (bd (fX6_acceptsContent p1 v_digits v_p_content) (fun r_10 => gd (isb r_10.1) (some (r_10.1, v_stage, r_10.2.1, v_p_kind, v_p_rows, v_p_outer, v_p_inner, r_10.2.2))))
def rmX6_accepts : Room := { frames := 6, cells := 0, slots := 0, locals := 188 }
set_option maxRecDepth 100000 in
set_option maxHeartbeats 4000000 in
theorem ctX6_accepts (l : Launch) (z : Nat × Nat × Nat) (dC : Nat → ClassId) (dI : Nat → Nat → Nat) (cI cB cE : ClassId) (a : Nat → Nat) (v_stage : Int32) (v_digits : Int32) (v_p_kind : Int32) (v_p_rows : Int32) (v_p_outer : Nat → Int32) (v_p_inner : Nat → Int32) (v_p_content : Nat → Int32) (p1 : Int32) (fin : Int32 × Int32 × Int32 × Int32 × Int32 × (Nat → Int32) × (Nat → Int32) × (Nat → Int32)) (hf : fX6_accepts p1 v_stage v_digits v_p_kind v_p_rows v_p_outer v_p_inner v_p_content = some fin) : Ct l z (dC, dI) (tyL cI cB cE) yX6_accepts wsX6_accepts rmX6_accepts [.ref (a 0), .int p1] (wX6 cI cB cE a v_stage v_digits v_p_kind v_p_rows v_p_outer v_p_inner v_p_content) (some (.int fin.1)) (wX6 cI cB cE a fin.2.1 fin.2.2.1 fin.2.2.2.1 fin.2.2.2.2.1 fin.2.2.2.2.2.1 fin.2.2.2.2.2.2.1 fin.2.2.2.2.2.2.2) := by
  refine Met.ofC (cc := cX6_accepts) (maxL := 2) (ret := (some .boolean)) (by decide) rfl (Nat.le_of_ble_eq_true rfl) ?_
  intro p e s m args below meth c A Q ls hx hb hr hml hts hown hlocks hA hK hP hD hZ hS hQ hl
  have hown : s.vm.findClass RX6 = some m.cls := hown
  have hl : lv_has ls 2 [(0, .ref (a 0)), (1, .int p1)] := hl
  unfold fX6_accepts at hf
  refine lv_aload_n hx hb dX6_accepts_0 rfl (lv_at hl 0 rfl) ?_
  refine va_get (D := (dC, dI)) (ci := 6) (C := RX6) (T := TX6) (N := 3) hx hb hts (fun _ h => List.mem_cons_of_mem _ (List.mem_append_left _ (List.mem_append_right _ h))) hown hK hP 0 rfl rfl 1 (by decide) (hts (.fieldLink RX6 39 "SkewBoard$Reader" "stage" "I") (List.mem_of_getElem? (i := 1) rfl)) (fun _ h9 => h9) rfl dX6_accepts_1 ?_
  by_cases c_1 : v_stage = 0
  · rw [if_pos c_1] at hf
    refine lv_tableIn (off := 28) (tgt := 32) hx hb dX6_accepts_4 (by rw [c_1]; decide) (by rw [c_1]; decide) (by rw [c_1]; rfl) (by decide) ?_
    refine lv_aload_n hx hb dX6_accepts_32 rfl (lv_at hl 0 rfl) ?_
    refine lv_iload_n hx hb dX6_accepts_33 rfl (lv_at hl 1 rfl) ?_
    obtain ⟨r_2, hr_2, hf⟩ := bd_some hf
    refine cx_runW (cx_V (As := [.int p1]) (rest := []) ⟨hx, hb, hml, hown, hts⟩ (ctX6_acceptsRule l z dC dI cI cB cE a v_stage v_digits v_p_kind v_p_rows v_p_outer v_p_inner v_p_content p1 r_2 hr_2) (cwV 1 hts gX6_accepts_X6_acceptsRule rfl rfl rfl (by decide +kernel) ⟨Nat.le_of_ble_eq_true rfl, Nat.le_of_ble_eq_true rfl⟩) hK hP hD hZ hS hA (ci := 6) (q0 := 0) rfl rfl rfl hl.1 rfl (Nat.le_of_ble_eq_true rfl) dX6_accepts_34) hD hS hA [.int r_2.1] rfl (fun H locs hP hD hS => ?_)
    obtain ⟨g_3, hf⟩ := gd_some hf
    have hQ2 := hQ
    rw [← Option.some.inj hf] at hQ2
    exact cx_zret (isb_nar g_3) hQ2 hx hb hr hlocks hK hP hD hS dX6_accepts_37
  · rw [if_neg c_1] at hf
    by_cases c_4 : v_stage = 1
    · rw [if_pos c_4] at hf
      refine lv_tableIn (off := 34) (tgt := 38) hx hb dX6_accepts_4 (by rw [c_4]; decide) (by rw [c_4]; decide) (by rw [c_4]; rfl) (by decide) ?_
      refine lv_aload_n hx hb dX6_accepts_38 rfl (lv_at hl 0 rfl) ?_
      refine lv_iload_n hx hb dX6_accepts_39 rfl (lv_at hl 1 rfl) ?_
      obtain ⟨r_5, hr_5, hf⟩ := bd_some hf
      refine cx_runW (cx_V (As := [.int p1]) (rest := []) ⟨hx, hb, hml, hown, hts⟩ (ctX6_acceptsOuter l z dC dI cI cB cE a v_stage v_digits v_p_kind v_p_rows v_p_outer v_p_inner v_p_content p1 r_5 hr_5) (cwV 1 hts gX6_accepts_X6_acceptsOuter rfl rfl rfl (by decide +kernel) ⟨Nat.le_of_ble_eq_true rfl, Nat.le_of_ble_eq_true rfl⟩) hK hP hD hZ hS hA (ci := 6) (q0 := 0) rfl rfl rfl hl.1 rfl (Nat.le_of_ble_eq_true rfl) dX6_accepts_40) hD hS hA [.int r_5.1] rfl (fun H locs hP hD hS => ?_)
      obtain ⟨g_6, hf⟩ := gd_some hf
      have hQ2 := hQ
      rw [← Option.some.inj hf] at hQ2
      exact cx_zret (isb_nar g_6) hQ2 hx hb hr hlocks hK hP hD hS dX6_accepts_43
    · rw [if_neg c_4] at hf
      by_cases c_7 : v_stage = 2
      · rw [if_pos c_7] at hf
        refine lv_tableIn (off := 40) (tgt := 44) hx hb dX6_accepts_4 (by rw [c_7]; decide) (by rw [c_7]; decide) (by rw [c_7]; rfl) (by decide) ?_
        refine lv_aload_n hx hb dX6_accepts_44 rfl (lv_at hl 0 rfl) ?_
        refine lv_iload_n hx hb dX6_accepts_45 rfl (lv_at hl 1 rfl) ?_
        obtain ⟨r_8, hr_8, hf⟩ := bd_some hf
        refine cx_runW (cx_V (As := [.int p1]) (rest := []) ⟨hx, hb, hml, hown, hts⟩ (ctX6_acceptsInner l z dC dI cI cB cE a v_stage v_digits v_p_kind v_p_rows v_p_outer v_p_inner v_p_content p1 r_8 hr_8) (cwV 1 hts gX6_accepts_X6_acceptsInner rfl rfl rfl (by decide +kernel) ⟨Nat.le_of_ble_eq_true rfl, Nat.le_of_ble_eq_true rfl⟩) hK hP hD hZ hS hA (ci := 6) (q0 := 0) rfl rfl rfl hl.1 rfl (Nat.le_of_ble_eq_true rfl) dX6_accepts_46) hD hS hA [.int r_8.1] rfl (fun H locs hP hD hS => ?_)
        obtain ⟨g_9, hf⟩ := gd_some hf
        have hQ2 := hQ
        rw [← Option.some.inj hf] at hQ2
        exact cx_zret (isb_nar g_9) hQ2 hx hb hr hlocks hK hP hD hS dX6_accepts_49
      · rw [if_neg c_7] at hf
        have tc_1 : ¬ (v_stage).toInt = 0 := fun h => c_1 (Int32.toInt_inj.mp h)
        have tc_4 : ¬ (v_stage).toInt = 1 := fun h => c_4 (Int32.toInt_inj.mp h)
        have tc_7 : ¬ (v_stage).toInt = 2 := fun h => c_7 (Int32.toInt_inj.mp h)
        refine lv_tableOut (tgt := 50) hx hb dX6_accepts_4 (by omega) (by decide) ?_
        refine lv_aload_n hx hb dX6_accepts_50 rfl (lv_at hl 0 rfl) ?_
        refine lv_iload_n hx hb dX6_accepts_51 rfl (lv_at hl 1 rfl) ?_
        obtain ⟨r_10, hr_10, hf⟩ := bd_some hf
        refine cx_runW (cx_V (As := [.int p1]) (rest := []) ⟨hx, hb, hml, hown, hts⟩ (ctX6_acceptsContent l z dC dI cI cB cE a v_stage v_digits v_p_kind v_p_rows v_p_outer v_p_inner v_p_content p1 r_10 hr_10) (cwV 1 hts gX6_accepts_X6_acceptsContent rfl rfl rfl (by decide +kernel) ⟨Nat.le_of_ble_eq_true rfl, Nat.le_of_ble_eq_true rfl⟩) hK hP hD hZ hS hA (ci := 6) (q0 := 0) rfl rfl rfl hl.1 rfl (Nat.le_of_ble_eq_true rfl) dX6_accepts_52) hD hS hA [.int r_10.1] rfl (fun H locs hP hD hS => ?_)
        obtain ⟨g_11, hf⟩ := gd_some hf
        have hQ2 := hQ
        rw [← Option.some.inj hf] at hQ2
        exact cx_zret (isb_nar g_11) hQ2 hx hb hr hlocks hK hP hD hS dX6_accepts_55

def fX6_readFrom_L14 (v_o1_codes : Nat → Int32) (v_o1_size : Int32) : Nat → Int32 → Int32 → Int32 → Int32 → Int32 → (Nat → Int32) → (Nat → Int32) → (Nat → Int32) → Option (Int32 × Int32 × Int32 × Int32 × Int32 × (Nat → Int32) × (Nat → Int32) × (Nat → Int32))
  | 0, _, _, _, _, _, _, _, _ => none
  | n + 1, x2_14, v_stage_14, v_digits_14, v_p_kind_14, v_p_rows_14, v_p_outer_14, v_p_inner_14, v_p_content_14 =>
    if v_o1_size ≤ x2_14 then (some (v_o1_size, v_stage_14, v_digits_14, v_p_kind_14, v_p_rows_14, v_p_outer_14, v_p_inner_14, v_p_content_14)) else (gd (inb x2_14 20) (bd (fX6_accepts (v_o1_codes x2_14.toNatClampNeg) v_stage_14 v_digits_14 v_p_kind_14 v_p_rows_14 v_p_outer_14 v_p_inner_14 v_p_content_14) (fun r_5 => if r_5.1 = 0 then (some (x2_14, r_5.2.1, r_5.2.2.1, r_5.2.2.2.1, r_5.2.2.2.2.1, r_5.2.2.2.2.2.1, r_5.2.2.2.2.2.2.1, r_5.2.2.2.2.2.2.2)) else (fX6_readFrom_L14 v_o1_codes v_o1_size n (x2_14 + 1) r_5.2.1 r_5.2.2.1 r_5.2.2.2.1 r_5.2.2.2.2.1 r_5.2.2.2.2.2.1 r_5.2.2.2.2.2.2.1 r_5.2.2.2.2.2.2.2))))
def fX6_readFrom (v_p_outer : Nat → Int32) (v_p_inner : Nat → Int32) (v_p_content : Nat → Int32) (v_o1_codes : Nat → Int32) (v_o1_size : Int32) : Option (Int32 × Int32 × Int32 × Int32 × Int32 × (Nat → Int32) × (Nat → Int32) × (Nat → Int32)) :=
  bd (fX4_clear v_p_outer v_p_inner v_p_content) (fun r_1 => bd (fX6_enter 0) (fun r_2 => fX6_readFrom_L14 v_o1_codes v_o1_size fu 0 r_2.1 r_2.2 r_1.1 r_1.2.1 r_1.2.2.1 r_1.2.2.2.1 r_1.2.2.2.2))
def rmX6_readFrom : Room := { frames := 7, cells := 0, slots := 0, locals := 209 }
set_option maxRecDepth 100000 in
set_option maxHeartbeats 4000000 in
theorem ctX6_readFrom (l : Launch) (z : Nat × Nat × Nat) (dC : Nat → ClassId) (dI : Nat → Nat → Nat) (cI cB cE : ClassId) (a b : Nat → Nat) (v_stage : Int32) (v_digits : Int32) (v_p_kind : Int32) (v_p_rows : Int32) (v_p_outer : Nat → Int32) (v_p_inner : Nat → Int32) (v_p_content : Nat → Int32) (v_o1_codes : Nat → Int32) (v_o1_size : Int32) (fin : Int32 × Int32 × Int32 × Int32 × Int32 × (Nat → Int32) × (Nat → Int32) × (Nat → Int32)) (hf : fX6_readFrom v_p_outer v_p_inner v_p_content v_o1_codes v_o1_size = some fin) : Ct l z (dC, dI) (tyL cI cB cE) yX6_readFrom wsX6_readFrom rmX6_readFrom [.ref (a 0), .ref (b 0)] (wX6 cI cB cE a v_stage v_digits v_p_kind v_p_rows v_p_outer v_p_inner v_p_content ++ wX3 cI cB cE b v_o1_codes v_o1_size) (some (.int fin.1)) (wX6 cI cB cE a fin.2.1 fin.2.2.1 fin.2.2.2.1 fin.2.2.2.2.1 fin.2.2.2.2.2.1 fin.2.2.2.2.2.2.1 fin.2.2.2.2.2.2.2 ++ wX3 cI cB cE b v_o1_codes v_o1_size) := by
  refine Met.ofC (cc := cX6_readFrom) (maxL := 3) (ret := (some .int)) (by decide) rfl (Nat.le_of_ble_eq_true rfl) ?_
  intro p e s m args below meth c A Q ls hx hb hr hml hts hown hlocks hA hK hP hD hZ hS hQ hl
  have hown : s.vm.findClass RX6 = some m.cls := hown
  have hl : lv_has ls 3 [(0, .ref (a 0)), (1, .ref (b 0))] := hl
  unfold fX6_readFrom at hf
  refine lv_aload_n hx hb dX6_readFrom_0 rfl (lv_at hl 0 rfl) ?_
  refine va_get (D := (dC, dI)) (ci := 6) (C := RX6) (T := TX6) (N := 3) hx hb hts (fun _ h => List.mem_cons_of_mem _ (List.mem_append_left _ (List.mem_append_left _ (List.mem_append_right _ h)))) hown hK hP 0 rfl rfl 0 (by decide) (hts (.fieldLink RX6 12 "SkewBoard$Reader" "plan" "LSkewBoard$Plan;") (List.mem_of_getElem? (i := 1) rfl)) (fun _ h9 => h9) rfl dX6_readFrom_1 ?_
  obtain ⟨r_1, hr_1, hf⟩ := bd_some hf
  refine cx_run (ws' := (wX6 cI cB cE a v_stage v_digits r_1.1 r_1.2.1 r_1.2.2.1 r_1.2.2.2.1 r_1.2.2.2.2 ++ wX3 cI cB cE b v_o1_codes v_o1_size)) (wr := [((a 0), .inr (6, [.ref (a 1), .int v_stage, .int v_digits])), ((b 0), .inr (3, [.ref (b 1), .int v_o1_size])), ((b 1), .inl (cI, 20, .inl v_o1_codes))]) (cx_V (As := []) (rest := []) ⟨hx, hb, hml, hown, hts⟩ (ctX4_clear l z dC dI cI cB cE (fun i => a (1 + i)) v_p_kind v_p_rows v_p_outer v_p_inner v_p_content r_1 hr_1) (cwV 0 hts gX6_readFrom_X4_clear rfl rfl rfl (by decide +kernel) ⟨Nat.le_of_ble_eq_true rfl, Nat.le_of_ble_eq_true rfl⟩) hK (hP.sub [1, 2, 3, 4] rfl) (hD.sub [1, 2, 3, 4] (by decide) rfl) hZ hS hA (ci := 4) (q0 := 0) rfl rfl rfl hl.1 rfl (Nat.le_of_ble_eq_true rfl) dX6_readFrom_4) hP hD hS hA [1, 2, 3, 4] [0, 5, 6] rfl rfl (by decide) (by decide) [0, 3, 4, 5, 6, 1, 2] (by decide) rfl [] rfl (fun H locs hP hD hS => ?_)
  refine lv_aload_n hx hb dX6_readFrom_7 rfl (lv_at hl 0 rfl) ?_
  refine lv_iconst (v := 0) hx hb dX6_readFrom_8 (by decide) ?_
  obtain ⟨r_2, hr_2, hf⟩ := bd_some hf
  refine cx_run (ws' := (wX6 cI cB cE a r_2.1 r_2.2 r_1.1 r_1.2.1 r_1.2.2.1 r_1.2.2.2.1 r_1.2.2.2.2 ++ wX3 cI cB cE b v_o1_codes v_o1_size)) (wr := [((b 0), .inr (3, [.ref (b 1), .int v_o1_size])), ((b 1), .inl (cI, 20, .inl v_o1_codes))]) (cx_V (As := [.int 0]) (rest := []) ⟨hx, hb, hml, hown, hts⟩ (ctX6_enter l z dC dI cI cB cE a v_stage v_digits r_1.1 r_1.2.1 r_1.2.2.1 r_1.2.2.2.1 r_1.2.2.2.2 0 r_2 hr_2) (cwV 1 hts gX6_readFrom_X6_enter rfl rfl rfl (by decide +kernel) ⟨Nat.le_of_ble_eq_true rfl, Nat.le_of_ble_eq_true rfl⟩) hK (hP.sub [0, 1, 2, 3, 4] rfl) (hD.sub [0, 1, 2, 3, 4] (by decide) rfl) hZ hS hA (ci := 6) (q0 := 0) rfl rfl rfl hl.1 rfl (Nat.le_of_ble_eq_true rfl) dX6_readFrom_9) hP hD hS hA [0, 1, 2, 3, 4] [5, 6] rfl rfl (by decide) (by decide) [2, 3, 4, 5, 6, 0, 1] (by decide) rfl [] rfl (fun H locs hP hD hS => ?_)
  refine lv_iconst (v := 0) hx hb dX6_readFrom_12 (by decide) ?_
  refine lv_istore_n (lv' := [(2, .int 0), (0, .ref (a 0)), (1, .ref (b 0))]) hx hb dX6_readFrom_13 rfl hl (by decide) rfl (fun ls hl => ?_)
  have L14 : ∀ (n14 : Nat) (x2_14 : Int32) (v_stage_14 : Int32) (v_digits_14 : Int32) (v_p_kind_14 : Int32) (v_p_rows_14 : Int32) (v_p_outer_14 : Nat → Int32) (v_p_inner_14 : Nat → Int32) (v_p_content_14 : Nat → Int32), fX6_readFrom_L14 v_o1_codes v_o1_size n14 x2_14 v_stage_14 v_digits_14 v_p_kind_14 v_p_rows_14 v_p_outer_14 v_p_inner_14 v_p_content_14 = some fin → ∀ (H : Heap) (locs : List Loc), va_P (dC, dI) vwCl (wX6 cI cB cE a v_stage_14 v_digits_14 v_p_kind_14 v_p_rows_14 v_p_outer_14 v_p_inner_14 v_p_content_14 ++ wX3 cI cB cE b v_o1_codes v_o1_size) H → va_D A (wX6 cI cB cE a v_stage_14 v_digits_14 v_p_kind_14 v_p_rows_14 v_p_outer_14 v_p_inner_14 v_p_content_14 ++ wX3 cI cB cE b v_o1_codes v_o1_size) → va_S A s.heap H locs → ∀ (ls : Array Slot), lv_has ls 3 [(0, .ref (a 0)), (1, .ref (b 0)), (2, .int x2_14)] → W p l e rmX6_readFrom s m args below meth c H locs 0 0 Q (F0 m 14 ls []) := by
    intro n14
    induction n14 with
    | zero =>
      intro x2_14 v_stage_14 v_digits_14 v_p_kind_14 v_p_rows_14 v_p_outer_14 v_p_inner_14 v_p_content_14 hf
      rw [fX6_readFrom_L14] at hf
      cases hf
    | succ n14 ih14 =>
      intro x2_14 v_stage_14 v_digits_14 v_p_kind_14 v_p_rows_14 v_p_outer_14 v_p_inner_14 v_p_content_14 hf H locs hP hD hS ls hl
      rw [fX6_readFrom_L14] at hf
      refine lv_iload_n hx hb dX6_readFrom_14 rfl (lv_at hl 2 rfl) ?_
      refine lv_aload_n hx hb dX6_readFrom_15 rfl (lv_at hl 1 rfl) ?_
      refine va_get (D := (dC, dI)) (ci := 3) (C := RX3) (T := TX3) (N := 2) hx hb hts (fun _ h => List.mem_cons_of_mem _ (List.mem_append_left _ (List.mem_append_right _ h))) hown hK hP 5 rfl rfl 1 (by decide) (hts (.fieldLink RX6 25 "SkewBoard$Page" "size" "I") (List.mem_of_getElem? (i := 2) rfl)) (fun _ h9 => h9) rfl dX6_readFrom_16 ?_
      refine lv_icmp_ge (tgt := 43) hx hb dX6_readFrom_19 (by decide) (fun c_3 => ?_) (fun c_3 => ?_)
      · rw [if_pos c_3] at hf
        refine lv_aload_n hx hb dX6_readFrom_43 rfl (lv_at hl 1 rfl) ?_
        refine va_get (D := (dC, dI)) (ci := 3) (C := RX3) (T := TX3) (N := 2) hx hb hts (fun _ h => List.mem_cons_of_mem _ (List.mem_append_left _ (List.mem_append_right _ h))) hown hK hP 5 rfl rfl 1 (by decide) (hts (.fieldLink RX6 25 "SkewBoard$Page" "size" "I") (List.mem_of_getElem? (i := 2) rfl)) (fun _ h9 => h9) rfl dX6_readFrom_44 ?_
        have hQ2 := hQ
        rw [← Option.some.inj hf] at hQ2
        exact cx_iret hQ2 hx hb hr hlocks hK hP hD hS dX6_readFrom_47
      · rw [if_neg c_3] at hf
        refine lv_aload_n hx hb dX6_readFrom_22 rfl (lv_at hl 0 rfl) ?_
        refine lv_aload_n hx hb dX6_readFrom_23 rfl (lv_at hl 1 rfl) ?_
        refine va_get (D := (dC, dI)) (ci := 3) (C := RX3) (T := TX3) (N := 2) hx hb hts (fun _ h => List.mem_cons_of_mem _ (List.mem_append_left _ (List.mem_append_right _ h))) hown hK hP 5 rfl rfl 0 (by decide) (hts (.fieldLink RX6 31 "SkewBoard$Page" "codes" "[I") (List.mem_of_getElem? (i := 3) rfl)) (fun _ h9 => h9) rfl dX6_readFrom_24 ?_
        refine lv_iload_n hx hb dX6_readFrom_27 rfl (lv_at hl 2 rfl) ?_
        obtain ⟨g_4, hf⟩ := gd_some hf
        refine va_iald hx hb hK hP 6 0 rfl rfl (inb_vp g_4) dX6_readFrom_28 ?_
        obtain ⟨r_5, hr_5, hf⟩ := bd_some hf
        refine cx_run (ws' := (wX6 cI cB cE a r_5.2.1 r_5.2.2.1 r_5.2.2.2.1 r_5.2.2.2.2.1 r_5.2.2.2.2.2.1 r_5.2.2.2.2.2.2.1 r_5.2.2.2.2.2.2.2 ++ wX3 cI cB cE b v_o1_codes v_o1_size)) (wr := [((b 0), .inr (3, [.ref (b 1), .int v_o1_size])), ((b 1), .inl (cI, 20, .inl v_o1_codes))]) (cx_V (As := [.int (v_o1_codes x2_14.toNatClampNeg)]) (rest := []) ⟨hx, hb, hml, hown, hts⟩ (ctX6_accepts l z dC dI cI cB cE a v_stage_14 v_digits_14 v_p_kind_14 v_p_rows_14 v_p_outer_14 v_p_inner_14 v_p_content_14 (v_o1_codes x2_14.toNatClampNeg) r_5 hr_5) (cwV 1 hts gX6_readFrom_X6_accepts rfl rfl rfl (by decide +kernel) ⟨Nat.le_of_ble_eq_true rfl, Nat.le_of_ble_eq_true rfl⟩) hK (hP.sub [0, 1, 2, 3, 4] rfl) (hD.sub [0, 1, 2, 3, 4] (by decide) rfl) hZ hS hA (ci := 6) (q0 := 0) rfl rfl rfl hl.1 rfl (Nat.le_of_ble_eq_true rfl) dX6_readFrom_29) hP hD hS hA [0, 1, 2, 3, 4] [5, 6] rfl rfl (by decide) (by decide) [2, 3, 4, 5, 6, 0, 1] (by decide) rfl [.int r_5.1] rfl (fun H locs hP hD hS => ?_)
        refine lv_if_ne (tgt := 37) hx hb dX6_readFrom_32 (by decide) (fun c_6 => ?_) (fun c_6 => ?_)
        · rw [if_neg c_6] at hf
          refine lv_iinc (v := (x2_14 + 1)) (lv' := [(2, .int (x2_14 + 1)), (0, .ref (a 0)), (1, .ref (b 0))]) hx hb dX6_readFrom_37 hl (k := 2) rfl rfl (by decide) rfl (fun ls hl => ?_)
          refine lv_goto (tgt := 14) hx hb dX6_readFrom_40 (by decide) ?_
          exact ih14 (x2_14 + 1) r_5.2.1 r_5.2.2.1 r_5.2.2.2.1 r_5.2.2.2.2.1 r_5.2.2.2.2.2.1 r_5.2.2.2.2.2.2.1 r_5.2.2.2.2.2.2.2 hf _ _ hP hD hS ls (lv_sub hl [1, 2, 0] rfl)
        · rw [if_pos c_6] at hf
          refine lv_iload_n hx hb dX6_readFrom_35 rfl (lv_at hl 2 rfl) ?_
          have hQ2 := hQ
          rw [← Option.some.inj hf] at hQ2
          exact cx_iret hQ2 hx hb hr hlocks hK hP hD hS dX6_readFrom_36
  exact L14 fu 0 r_2.1 r_2.2 r_1.1 r_1.2.1 r_1.2.2.1 r_1.2.2.2.1 r_1.2.2.2.2 hf _ _ hP hD hS ls (lv_sub hl [1, 2, 0] rfl)

def fX6_isComplete_J20 (y0_20 : Int32) : Option (Int32) :=
    gd (isb y0_20) (some y0_20)
def fX6_isComplete_J19 (k20 : Int32 → Option (Int32)) (u_19 : Unit) : Option (Int32) :=
    k20 0
def fX6_isComplete (v_stage : Int32) (v_digits : Int32) : Option (Int32) :=
  if v_stage = 3 then (if v_digits ≤ 0 then (fX6_isComplete_J19 fX6_isComplete_J20 ()) else (fX6_isComplete_J20 1)) else (fX6_isComplete_J19 fX6_isComplete_J20 ())
def rmX6_isComplete : Room := { frames := 0, cells := 0, slots := 0, locals := 0 }
set_option maxRecDepth 100000 in
set_option maxHeartbeats 4000000 in
theorem ctX6_isComplete (l : Launch) (z : Nat × Nat × Nat) (dC : Nat → ClassId) (dI : Nat → Nat → Nat) (cI cB cE : ClassId) (a : Nat → Nat) (v_stage : Int32) (v_digits : Int32) (v_p_kind : Int32) (v_p_rows : Int32) (v_p_outer : Nat → Int32) (v_p_inner : Nat → Int32) (v_p_content : Nat → Int32) (fin : Int32) (hf : fX6_isComplete v_stage v_digits = some fin) : Ct l z (dC, dI) (tyL cI cB cE) yX6_isComplete wsX6_isComplete rmX6_isComplete [.ref (a 0)] (wX6 cI cB cE a v_stage v_digits v_p_kind v_p_rows v_p_outer v_p_inner v_p_content) (some (.int fin)) (wX6 cI cB cE a v_stage v_digits v_p_kind v_p_rows v_p_outer v_p_inner v_p_content) := by
  refine Met.ofC (cc := cX6_isComplete) (maxL := 1) (ret := (some .boolean)) (by decide) rfl (Nat.le_of_ble_eq_true rfl) ?_
  intro p e s m args below meth c A Q ls hx hb hr hml hts hown hlocks hA hK hP hD hZ hS hQ hl
  have hown : s.vm.findClass RX6 = some m.cls := hown
  have hl : lv_has ls 1 [(0, .ref (a 0))] := hl
  unfold fX6_isComplete at hf
  refine lv_aload_n hx hb dX6_isComplete_0 rfl (lv_at hl 0 rfl) ?_
  refine va_get (D := (dC, dI)) (ci := 6) (C := RX6) (T := TX6) (N := 3) hx hb hts (fun _ h => List.mem_cons_of_mem _ (List.mem_append_right _ h)) hown hK hP 0 rfl rfl 1 (by decide) (hts (.fieldLink RX6 39 "SkewBoard$Reader" "stage" "I") (List.mem_of_getElem? (i := 1) rfl)) (fun _ h9 => h9) rfl dX6_isComplete_1 ?_
  refine lv_iconst (v := 3) hx hb dX6_isComplete_4 (by decide) ?_
  have J20 : ∀ (y0_20 : Int32), fX6_isComplete_J20  y0_20 = some fin → ∀ (H : Heap) (locs : List Loc), va_P (dC, dI) vwCl (wX6 cI cB cE a v_stage v_digits v_p_kind v_p_rows v_p_outer v_p_inner v_p_content) H → va_D A (wX6 cI cB cE a v_stage v_digits v_p_kind v_p_rows v_p_outer v_p_inner v_p_content) → va_S A s.heap H locs → ∀ (ls : Array Slot), lv_has ls 1 [] → W p l e rmX6_isComplete s m args below meth c H locs 0 0 Q (F0 m 20 ls [.int y0_20]) := by
    intro y0_20 hf H locs hP hD hS ls hl
    unfold fX6_isComplete_J20 at hf
    obtain ⟨g_1, hf⟩ := gd_some hf
    have hQ2 := hQ
    rw [← Option.some.inj hf] at hQ2
    exact cx_zret (isb_nar g_1) hQ2 hx hb hr hlocks hK hP hD hS dX6_isComplete_20
  have J19 : ∀ (u_19 : Unit), fX6_isComplete_J19 (fX6_isComplete_J20) u_19 = some fin → ∀ (H : Heap) (locs : List Loc), va_P (dC, dI) vwCl (wX6 cI cB cE a v_stage v_digits v_p_kind v_p_rows v_p_outer v_p_inner v_p_content) H → va_D A (wX6 cI cB cE a v_stage v_digits v_p_kind v_p_rows v_p_outer v_p_inner v_p_content) → va_S A s.heap H locs → ∀ (ls : Array Slot), lv_has ls 1 [] → W p l e rmX6_isComplete s m args below meth c H locs 0 0 Q (F0 m 19 ls []) := by
    intro u_19 hf H locs hP hD hS ls hl
    unfold fX6_isComplete_J19 at hf
    refine lv_iconst (v := 0) hx hb dX6_isComplete_19 (by decide) ?_
    exact J20 0 hf _ _ hP hD hS ls (lv_sub hl [] rfl)
  refine lv_icmp_ne (tgt := 19) hx hb dX6_isComplete_5 (by decide) (fun c_2 => ?_) (fun c_2 => ?_)
  · rw [if_neg c_2] at hf
    exact J19 () hf _ _ hP hD hS ls (lv_sub hl [] rfl)
  · rw [if_pos c_2] at hf
    refine lv_aload_n hx hb dX6_isComplete_8 rfl (lv_at hl 0 rfl) ?_
    refine va_get (D := (dC, dI)) (ci := 6) (C := RX6) (T := TX6) (N := 3) hx hb hts (fun _ h => List.mem_cons_of_mem _ (List.mem_append_right _ h)) hown hK hP 0 rfl rfl 2 (by decide) (hts (.fieldLink RX6 42 "SkewBoard$Reader" "digits" "I") (List.mem_of_getElem? (i := 2) rfl)) (fun _ h9 => h9) rfl dX6_isComplete_9 ?_
    refine lv_if_le (tgt := 19) hx hb dX6_isComplete_12 (by decide) (fun c_3 => ?_) (fun c_3 => ?_)
    · rw [if_pos c_3] at hf
      exact J19 () hf _ _ hP hD hS ls (lv_sub hl [] rfl)
    · rw [if_neg c_3] at hf
      refine lv_iconst (v := 1) hx hb dX6_isComplete_15 (by decide) ?_
      refine lv_goto (tgt := 20) hx hb dX6_isComplete_16 (by decide) ?_
      exact J20 1 hf _ _ hP hD hS ls (lv_sub hl [] rfl)

