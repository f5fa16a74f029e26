def fX5_tally_J57 (v_fillingsOf_57 : Nat → Int32) : Option ((Nat → Int32)) :=
    some v_fillingsOf_57
def fX5_tally_L4 (v_inner : Nat → Int32) (v_ends : Nat → Nat → Int32) (v_fillingsOf : Nat → Int32) : Nat → Int32 → Int32 → Option ((Nat → Int32))
  | 0, _, _ => none
  | n + 1, x1_4, x2_4 =>
    if 3 ≤ x2_4 then (if x1_4 < 0 then (fX5_tally_J57 v_fillingsOf) else (if 1000 ≤ x1_4 then (fX5_tally_J57 v_fillingsOf) else (gd (inb x1_4 1000) (fX5_tally_J57 (upd v_fillingsOf x1_4.toNatClampNeg ((v_fillingsOf x1_4.toNatClampNeg) + 1)))))) else (gd (inb x2_4 4) (fX5_tally_L4 v_inner v_ends v_fillingsOf n (((10 * x1_4) + (v_ends x2_4.toNatClampNeg (4 : Int32).toNatClampNeg)) - (v_inner x2_4.toNatClampNeg)) (x2_4 + 1)))
def fX5_tally (v_inner : Nat → Int32) (v_ends : Nat → Nat → Int32) (v_fillingsOf : Nat → Int32) : Option ((Nat → Int32)) :=
  fX5_tally_L4 v_inner v_ends v_fillingsOf fu 0 0
def rmX5_tally : Room := { frames := 0, cells := 0, slots := 0, locals := 0 }
set_option maxRecDepth 100000 in
set_option maxHeartbeats 4000000 in
theorem ctX5_tally (l : Launch) (z : Nat × Nat × Nat) (dC : Nat → ClassId) (dI : Nat → Nat → Nat) (cI cB cE : ClassId) (a : Nat → Nat) (v_size : Int32) (v_multiplicitySum : Int32) (v_boxes : Int32) (v_inner : Nat → Int32) (v_used : Nat → Int32) (v_left : Nat → Int32) (v_ends : Nat → Nat → Int32) (v_fillingsOf : Nat → Int32) (v_keys : Nat → Int32) (fin : (Nat → Int32)) (hf : fX5_tally v_inner v_ends v_fillingsOf = some fin) : Ct l z (dC, dI) (tyL cI cB cE) yX5_tally wsX5_tally rmX5_tally [.ref (a 0)] (wX5 cI cB cE a v_size v_multiplicitySum v_boxes v_inner v_used v_left v_ends v_fillingsOf v_keys) none (wX5 cI cB cE a v_size v_multiplicitySum v_boxes v_inner v_used v_left v_ends fin v_keys) := by
  refine Met.ofC (cc := cX5_tally) (maxL := 3) (ret := none) (by decide) rfl (Nat.le_of_ble_eq_true rfl) ?_
  intro p e s m args below meth c A Q ls hx hb hr hml hts hown hlocks hA hK hP hD hZ hS hQ hl
  have hown : s.vm.findClass RX5 = some m.cls := hown
  have hl : lv_has ls 3 [(0, .ref (a 0))] := hl
  unfold fX5_tally at hf
  refine lv_iconst (v := 0) hx hb dX5_tally_0 (by decide) ?_
  refine lv_istore_n (lv' := [(1, .int 0), (0, .ref (a 0))]) hx hb dX5_tally_1 rfl hl (by decide) rfl (fun ls hl => ?_)
  refine lv_iconst (v := 0) hx hb dX5_tally_2 (by decide) ?_
  refine lv_istore_n (lv' := [(2, .int 0), (1, .int 0), (0, .ref (a 0))]) hx hb dX5_tally_3 rfl hl (by decide) rfl (fun ls hl => ?_)
  have L4 : ∀ (n4 : Nat) (x1_4 : Int32) (x2_4 : Int32), fX5_tally_L4 v_inner v_ends v_fillingsOf n4 x1_4 x2_4 = some fin → ∀ (H : Heap) (locs : List Loc), va_P (dC, dI) vwCl (wX5 cI cB cE a v_size v_multiplicitySum v_boxes v_inner v_used v_left v_ends v_fillingsOf v_keys) H → va_D A (wX5 cI cB cE a v_size v_multiplicitySum v_boxes v_inner v_used v_left v_ends v_fillingsOf v_keys) → va_S A s.heap H locs → ∀ (ls : Array Slot), lv_has ls 3 [(0, .ref (a 0)), (1, .int x1_4), (2, .int x2_4)] → W p l e rmX5_tally s m args below meth c H locs 0 0 Q (F0 m 4 ls []) := by
    intro n4
    induction n4 with
    | zero =>
      intro x1_4 x2_4 hf
      rw [fX5_tally_L4] at hf
      cases hf
    | succ n4 ih4 =>
      intro x1_4 x2_4 hf H locs hP hD hS ls hl
      rw [fX5_tally_L4] at hf
      refine lv_iload_n hx hb dX5_tally_4 rfl (lv_at hl 2 rfl) ?_
      refine lv_iconst (v := 3) hx hb dX5_tally_5 (by decide) ?_
      refine lv_icmp_ge (tgt := 36) hx hb dX5_tally_6 (by decide) (fun c_1 => ?_) (fun c_1 => ?_)
      · rw [if_pos c_1] at hf
        refine lv_iload_n hx hb dX5_tally_36 rfl (lv_at hl 1 rfl) ?_
        have J57 : ∀ (v_fillingsOf_57 : Nat → Int32), fX5_tally_J57  v_fillingsOf_57 = some fin → ∀ (H : Heap) (locs : List Loc), va_P (dC, dI) vwCl (wX5 cI cB cE a v_size v_multiplicitySum v_boxes v_inner v_used v_left v_ends v_fillingsOf_57 v_keys) H → va_D A (wX5 cI cB cE a v_size v_multiplicitySum v_boxes v_inner v_used v_left v_ends v_fillingsOf_57 v_keys) → va_S A s.heap H locs → ∀ (ls : Array Slot), lv_has ls 3 [] → W p l e rmX5_tally s m args below meth c H locs 0 0 Q (F0 m 57 ls []) := by
          intro v_fillingsOf_57 hf H locs hP hD hS ls hl
          unfold fX5_tally_J57 at hf
          have hQ2 := hQ
          rw [← Option.some.inj hf] at hQ2
          exact cx_vret hQ2 hx hb hr hlocks hK hP hD hS dX5_tally_57
        refine lv_if_lt (tgt := 57) hx hb dX5_tally_37 (by decide) (fun c_2 => ?_) (fun c_2 => ?_)
        · rw [if_pos c_2] at hf
          exact J57 v_fillingsOf hf _ _ hP hD hS ls (lv_sub hl [] rfl)
        · rw [if_neg c_2] at hf
          refine lv_iload_n hx hb dX5_tally_40 rfl (lv_at hl 1 rfl) ?_
          refine lv_sipush (v := 1000) hx hb dX5_tally_41 (by decide) ?_
          refine lv_icmp_ge (tgt := 57) hx hb dX5_tally_44 (by decide) (fun c_3 => ?_) (fun c_3 => ?_)
          · rw [if_pos c_3] at hf
            exact J57 v_fillingsOf hf _ _ hP hD hS ls (lv_sub hl [] rfl)
          · rw [if_neg c_3] at hf
            refine lv_aload_n hx hb dX5_tally_47 rfl (lv_at hl 0 rfl) ?_
            refine va_get (D := (dC, dI)) (ci := 5) (C := RX5) (T := TX5) (N := 9) hx hb hts (fun _ h => List.mem_cons_of_mem _ (List.mem_append_right _ h)) hown hK hP 0 rfl rfl 7 (by decide) (hts (.fieldLink RX5 26 "SkewBoard$Products" "fillingsOf" "[I") (List.mem_of_getElem? (i := 3) rfl)) (fun _ h9 => h9) rfl dX5_tally_48 ?_
            refine lv_iload_n hx hb dX5_tally_51 rfl (lv_at hl 1 rfl) ?_
            refine lv_dup2_11 hx hb dX5_tally_52 rfl rfl ?_
            obtain ⟨g_4, hf⟩ := gd_some hf
            refine va_iald hx hb hK hP 9 0 rfl rfl (inb_vp g_4) dX5_tally_53 ?_
            refine lv_iconst (v := 1) hx hb dX5_tally_54 (by decide) ?_
            refine lv_iadd hx hb dX5_tally_55 ?_
            refine va_iast hx hb hK hP hD hS 9 0 rfl rfl (inb_vp g_4) dX5_tally_56 (fun H locs hP hD hS => ?_)
            have hP : va_P (dC, dI) vwCl (wX5 cI cB cE a v_size v_multiplicitySum v_boxes v_inner v_used v_left v_ends (upd v_fillingsOf x1_4.toNatClampNeg ((v_fillingsOf x1_4.toNatClampNeg) + 1)) v_keys) H := hP
            have hD : va_D A (wX5 cI cB cE a v_size v_multiplicitySum v_boxes v_inner v_used v_left v_ends (upd v_fillingsOf x1_4.toNatClampNeg ((v_fillingsOf x1_4.toNatClampNeg) + 1)) v_keys) := hD
            exact J57 (upd v_fillingsOf x1_4.toNatClampNeg ((v_fillingsOf x1_4.toNatClampNeg) + 1)) hf _ _ hP hD hS ls (lv_sub hl [] rfl)
      · rw [if_neg c_1] at hf
        refine lv_bipush (v := 10) hx hb dX5_tally_9 (by decide) ?_
        refine lv_iload_n hx hb dX5_tally_11 rfl (lv_at hl 1 rfl) ?_
        refine lv_imul hx hb dX5_tally_12 ?_
        refine lv_aload_n hx hb dX5_tally_13 rfl (lv_at hl 0 rfl) ?_
        refine va_get (D := (dC, dI)) (ci := 5) (C := RX5) (T := TX5) (N := 9) hx hb hts (fun _ h => List.mem_cons_of_mem _ (List.mem_append_right _ h)) hown hK hP 0 rfl rfl 6 (by decide) (hts (.fieldLink RX5 23 "SkewBoard$Products" "ends" "[[I") (List.mem_of_getElem? (i := 1) rfl)) (fun _ h9 => h9) rfl dX5_tally_14 ?_
        refine lv_iload_n hx hb dX5_tally_17 rfl (lv_at hl 2 rfl) ?_
        obtain ⟨g_5, hf⟩ := gd_some hf
        refine va_aldE (r := (r4 (a 5) (a 6) (a 7) (a 8) x2_4.toNatClampNeg)) hx hb hK hP 4 2 rfl rfl (inb_vp g_5) (if_pos (inb_lt g_5)) dX5_tally_18 ?_
        refine lv_iconst (v := 4) hx hb dX5_tally_19 (by decide) ?_
        refine va_iald hx hb hK hP (5 + x2_4.toNatClampNeg) 0 (x5_at g_5) rfl (inb_vp (show inb 4 5 = true by decide)) dX5_tally_20 ?_
        refine lv_iadd hx hb dX5_tally_21 ?_
        refine lv_aload_n hx hb dX5_tally_22 rfl (lv_at hl 0 rfl) ?_
        refine va_get (D := (dC, dI)) (ci := 5) (C := RX5) (T := TX5) (N := 9) hx hb hts (fun _ h => List.mem_cons_of_mem _ (List.mem_append_right _ h)) hown hK hP 0 rfl rfl 3 (by decide) (hts (.fieldLink RX5 11 "SkewBoard$Products" "inner" "[I") (List.mem_of_getElem? (i := 2) rfl)) (fun _ h9 => h9) rfl dX5_tally_23 ?_
        refine lv_iload_n hx hb dX5_tally_26 rfl (lv_at hl 2 rfl) ?_
        refine va_iald hx hb hK hP 1 0 rfl rfl (inb_vp g_5) dX5_tally_27 ?_
        refine lv_isub hx hb dX5_tally_28 ?_
        refine lv_istore_n (lv' := [(1, .int (((10 * x1_4) + (v_ends x2_4.toNatClampNeg (4 : Int32).toNatClampNeg)) - (v_inner x2_4.toNatClampNeg))), (0, .ref (a 0)), (2, .int x2_4)]) hx hb dX5_tally_29 rfl hl (by decide) rfl (fun ls hl => ?_)
        refine lv_iinc (v := (x2_4 + 1)) (lv' := [(2, .int (x2_4 + 1)), (1, .int (((10 * x1_4) + (v_ends x2_4.toNatClampNeg (4 : Int32).toNatClampNeg)) - (v_inner x2_4.toNatClampNeg))), (0, .ref (a 0))]) hx hb dX5_tally_30 hl (k := 2) rfl rfl (by decide) rfl (fun ls hl => ?_)
        refine lv_goto (tgt := 4) hx hb dX5_tally_33 (by decide) ?_
        exact ih4 (((10 * x1_4) + (v_ends x2_4.toNatClampNeg (4 : Int32).toNatClampNeg)) - (v_inner x2_4.toNatClampNeg)) (x2_4 + 1) hf _ _ hP hD hS ls (lv_sub hl [2, 1, 0] rfl)
  exact L4 fu 0 0 hf _ _ hP hD hS ls (lv_sub hl [2, 1, 0] rfl)

def fX5_mostOf_J90 (x3_90 : Int32) : Option (Int32) :=
    some x3_90
def fX5_mostOf_J39 (v_used : Nat → Int32) (v_ends : Nat → Nat → Int32) (p1 : Int32) (p2 : Int32) (x3_39 : Int32) : Option (Int32) :=
    if p2 ≤ 1 then (fX5_mostOf_J90 x3_39) else (gd (inb p1 4) (gd (inb (p2 - 1) 5) (gd (inb (p2 - 2) 5) (fX5_mostOf_J90 (if (((v_used (p2 - 1).toNatClampNeg) - ((v_ends p1.toNatClampNeg (p2 - 1).toNatClampNeg) - (v_ends p1.toNatClampNeg (p2 - 2).toNatClampNeg))) - (v_used p2.toNatClampNeg)) < x3_39 then (((v_used (p2 - 1).toNatClampNeg) - ((v_ends p1.toNatClampNeg (p2 - 1).toNatClampNeg) - (v_ends p1.toNatClampNeg (p2 - 2).toNatClampNeg))) - (v_used p2.toNatClampNeg)) else x3_39)))))
def fX5_mostOf (p1 : Int32) (p2 : Int32) (v_used : Nat → Int32) (v_left : Nat → Int32) (v_ends : Nat → Nat → Int32) : Option (Int32) :=
  gd (inb p2 5) (if p1 ≤ 0 then (fX5_mostOf_J39 v_used v_ends p1 p2 (v_left p2.toNatClampNeg)) else (gd (inb (p1 - 1) 4) (gd (inb (p2 - 1) 5) (gd (inb p1 4) (fX5_mostOf_J39 v_used v_ends p1 p2 (if ((v_ends (p1 - 1).toNatClampNeg (p2 - 1).toNatClampNeg) - (v_ends p1.toNatClampNeg (p2 - 1).toNatClampNeg)) < (v_left p2.toNatClampNeg) then ((v_ends (p1 - 1).toNatClampNeg (p2 - 1).toNatClampNeg) - (v_ends p1.toNatClampNeg (p2 - 1).toNatClampNeg)) else (v_left p2.toNatClampNeg)))))))
def rmX5_mostOf : Room := { frames := 2, cells := 0, slots := 0, locals := 100 }
set_option maxRecDepth 100000 in
set_option maxHeartbeats 4000000 in
theorem ctX5_mostOf (l : Launch) (z : Nat × Nat × Nat) (dC : Nat → ClassId) (dI : Nat → Nat → Nat) (cI cB cE : ClassId) (a : Nat → Nat) (v_size : Int32) (v_multiplicitySum : Int32) (v_boxes : Int32) (v_inner : Nat → Int32) (v_used : Nat → Int32) (v_left : Nat → Int32) (v_ends : Nat → Nat → Int32) (v_fillingsOf : Nat → Int32) (v_keys : Nat → Int32) (p1 : Int32) (p2 : Int32) (fin : Int32) (hf : fX5_mostOf p1 p2 v_used v_left v_ends = some fin) : Ct l z (dC, dI) (tyL cI cB cE) yX5_mostOf wsX5_mostOf rmX5_mostOf [.ref (a 0), .int p1, .int p2] (wX5 cI cB cE a v_size v_multiplicitySum v_boxes v_inner v_used v_left v_ends v_fillingsOf v_keys) (some (.int fin)) (wX5 cI cB cE a v_size v_multiplicitySum v_boxes v_inner v_used v_left v_ends v_fillingsOf v_keys) := by
  refine Met.ofC (cc := cX5_mostOf) (maxL := 5) (ret := (some .int)) (by decide) rfl (Nat.le_of_ble_eq_true rfl) ?_
  intro p e s m args below meth c A Q ls hx hb hr hml hts hown hlocks hA hK hP hD hZ hS hQ hl
  have hown : s.vm.findClass RX5 = some m.cls := hown
  have hl : lv_has ls 5 [(0, .ref (a 0)), (1, .int p1), (2, .int p2)] := hl
  unfold fX5_mostOf at hf
  refine lv_aload_n hx hb dX5_mostOf_0 rfl (lv_at hl 0 rfl) ?_
  refine va_get (D := (dC, dI)) (ci := 5) (C := RX5) (T := TX5) (N := 9) hx hb hts (fun _ h => List.mem_cons_of_mem _ (List.mem_append_right _ h)) hown hK hP 0 rfl rfl 5 (by decide) (hts (.fieldLink RX5 18 "SkewBoard$Products" "left" "[I") (List.mem_of_getElem? (i := 1) rfl)) (fun _ h9 => h9) rfl dX5_mostOf_1 ?_
  refine lv_iload_n hx hb dX5_mostOf_4 rfl (lv_at hl 2 rfl) ?_
  obtain ⟨g_1, hf⟩ := gd_some hf
  refine va_iald hx hb hK hP 3 0 rfl rfl (inb_vp g_1) dX5_mostOf_5 ?_
  refine lv_istore_n (lv' := [(3, .int (v_left p2.toNatClampNeg)), (0, .ref (a 0)), (1, .int p1), (2, .int p2)]) hx hb dX5_mostOf_6 rfl hl (by decide) rfl (fun ls hl => ?_)
  refine lv_iload_n hx hb dX5_mostOf_7 rfl (lv_at hl 2 rfl) ?_
  have J39 : ∀ (x3_39 : Int32), fX5_mostOf_J39 v_used v_ends p1 p2 x3_39 = some fin → ∀ (H : Heap) (locs : List Loc), va_P (dC, dI) vwCl (wX5 cI cB cE a v_size v_multiplicitySum v_boxes v_inner v_used v_left v_ends v_fillingsOf v_keys) H → va_D A (wX5 cI cB cE a v_size v_multiplicitySum v_boxes v_inner v_used v_left v_ends v_fillingsOf v_keys) → va_S A s.heap H locs → ∀ (ls : Array Slot), lv_has ls 5 [(0, .ref (a 0)), (1, .int p1), (2, .int p2), (3, .int x3_39)] → W p l e rmX5_mostOf s m args below meth c H locs 0 0 Q (F0 m 39 ls []) := by
    intro x3_39 hf H locs hP hD hS ls hl
    unfold fX5_mostOf_J39 at hf
    refine lv_iload_n hx hb dX5_mostOf_39 rfl (lv_at hl 2 rfl) ?_
    refine lv_iconst (v := 1) hx hb dX5_mostOf_40 (by decide) ?_
    have J90 : ∀ (x3_90 : Int32), fX5_mostOf_J90  x3_90 = some fin → ∀ (H : Heap) (locs : List Loc), va_P (dC, dI) vwCl (wX5 cI cB cE a v_size v_multiplicitySum v_boxes v_inner v_used v_left v_ends v_fillingsOf v_keys) H → va_D A (wX5 cI cB cE a v_size v_multiplicitySum v_boxes v_inner v_used v_left v_ends v_fillingsOf v_keys) → va_S A s.heap H locs → ∀ (ls : Array Slot), lv_has ls 5 [(3, .int x3_90)] → W p l e rmX5_mostOf s m args below meth c H locs 0 0 Q (F0 m 90 ls []) := by
      intro x3_90 hf H locs hP hD hS ls hl
      unfold fX5_mostOf_J90 at hf
      refine lv_iload_n hx hb dX5_mostOf_90 rfl (lv_at hl 0 rfl) ?_
      have hQ2 := hQ
      rw [← Option.some.inj hf] at hQ2
      exact cx_iret hQ2 hx hb hr hlocks hK hP hD hS dX5_mostOf_91
    refine lv_icmp_le (tgt := 90) hx hb dX5_mostOf_41 (by decide) (fun c_2 => ?_) (fun c_2 => ?_)
    · rw [if_pos c_2] at hf
      exact J90 x3_39 hf _ _ hP hD hS ls (lv_sub hl [3] rfl)
    · rw [if_neg c_2] at hf
      refine lv_aload_n hx hb dX5_mostOf_44 rfl (lv_at hl 0 rfl) ?_
      refine va_get (D := (dC, dI)) (ci := 5) (C := RX5) (T := TX5) (N := 9) hx hb hts (fun _ h => List.mem_cons_of_mem _ (List.mem_append_right _ h)) hown hK hP 0 rfl rfl 6 (by decide) (hts (.fieldLink RX5 23 "SkewBoard$Products" "ends" "[[I") (List.mem_of_getElem? (i := 2) rfl)) (fun _ h9 => h9) rfl dX5_mostOf_45 ?_
      refine lv_iload_n hx hb dX5_mostOf_48 rfl (lv_at hl 1 rfl) ?_
      obtain ⟨g_3, hf⟩ := gd_some hf
      refine va_aldE (r := (r4 (a 5) (a 6) (a 7) (a 8) p1.toNatClampNeg)) hx hb hK hP 4 2 rfl rfl (inb_vp g_3) (if_pos (inb_lt g_3)) dX5_mostOf_49 ?_
      refine lv_iload_n hx hb dX5_mostOf_50 rfl (lv_at hl 2 rfl) ?_
      refine lv_iconst (v := 1) hx hb dX5_mostOf_51 (by decide) ?_
      refine lv_isub hx hb dX5_mostOf_52 ?_
      obtain ⟨g_4, hf⟩ := gd_some hf
      refine va_iald hx hb hK hP (5 + p1.toNatClampNeg) 0 (x5_at g_3) rfl (inb_vp g_4) dX5_mostOf_53 ?_
      refine lv_aload_n hx hb dX5_mostOf_54 rfl (lv_at hl 0 rfl) ?_
      refine va_get (D := (dC, dI)) (ci := 5) (C := RX5) (T := TX5) (N := 9) hx hb hts (fun _ h => List.mem_cons_of_mem _ (List.mem_append_right _ h)) hown hK hP 0 rfl rfl 6 (by decide) (hts (.fieldLink RX5 23 "SkewBoard$Products" "ends" "[[I") (List.mem_of_getElem? (i := 2) rfl)) (fun _ h9 => h9) rfl dX5_mostOf_55 ?_
      refine lv_iload_n hx hb dX5_mostOf_58 rfl (lv_at hl 1 rfl) ?_
      refine va_aldE (r := (r4 (a 5) (a 6) (a 7) (a 8) p1.toNatClampNeg)) hx hb hK hP 4 2 rfl rfl (inb_vp g_3) (if_pos (inb_lt g_3)) dX5_mostOf_59 ?_
      refine lv_iload_n hx hb dX5_mostOf_60 rfl (lv_at hl 2 rfl) ?_
      refine lv_iconst (v := 2) hx hb dX5_mostOf_61 (by decide) ?_
      refine lv_isub hx hb dX5_mostOf_62 ?_
      obtain ⟨g_5, hf⟩ := gd_some hf
      refine va_iald hx hb hK hP (5 + p1.toNatClampNeg) 0 (x5_at g_3) rfl (inb_vp g_5) dX5_mostOf_63 ?_
      refine lv_isub hx hb dX5_mostOf_64 ?_
      refine lv_istore (lv' := [(4, .int ((v_ends p1.toNatClampNeg (p2 - 1).toNatClampNeg) - (v_ends p1.toNatClampNeg (p2 - 2).toNatClampNeg))), (0, .ref (a 0)), (1, .int p1), (2, .int p2), (3, .int x3_39)]) hx hb dX5_mostOf_65 hl (by decide) rfl (fun ls hl => ?_)
      refine lv_iload_n hx hb dX5_mostOf_67 rfl (lv_at hl 4 rfl) ?_
      refine lv_aload_n hx hb dX5_mostOf_68 rfl (lv_at hl 1 rfl) ?_
      refine va_get (D := (dC, dI)) (ci := 5) (C := RX5) (T := TX5) (N := 9) hx hb hts (fun _ h => List.mem_cons_of_mem _ (List.mem_append_right _ h)) hown hK hP 0 rfl rfl 4 (by decide) (hts (.fieldLink RX5 15 "SkewBoard$Products" "used" "[I") (List.mem_of_getElem? (i := 7) rfl)) (fun _ h9 => h9) rfl dX5_mostOf_69 ?_
      refine lv_iload_n hx hb dX5_mostOf_72 rfl (lv_at hl 3 rfl) ?_
      refine lv_iconst (v := 1) hx hb dX5_mostOf_73 (by decide) ?_
      refine lv_isub hx hb dX5_mostOf_74 ?_
      refine va_iald hx hb hK hP 2 0 rfl rfl (inb_vp g_4) dX5_mostOf_75 ?_
      refine lv_iload hx hb dX5_mostOf_76 (lv_at hl 0 rfl) ?_
      refine lv_isub hx hb dX5_mostOf_78 ?_
      refine lv_aload_n hx hb dX5_mostOf_79 rfl (lv_at hl 1 rfl) ?_
      refine va_get (D := (dC, dI)) (ci := 5) (C := RX5) (T := TX5) (N := 9) hx hb hts (fun _ h => List.mem_cons_of_mem _ (List.mem_append_right _ h)) hown hK hP 0 rfl rfl 4 (by decide) (hts (.fieldLink RX5 15 "SkewBoard$Products" "used" "[I") (List.mem_of_getElem? (i := 7) rfl)) (fun _ h9 => h9) rfl dX5_mostOf_80 ?_
      refine lv_iload_n hx hb dX5_mostOf_83 rfl (lv_at hl 3 rfl) ?_
      refine va_iald hx hb hK hP 2 0 rfl rfl (inb_vp g_1) dX5_mostOf_84 ?_
      refine lv_isub hx hb dX5_mostOf_85 ?_
      refine va_mmin hx hb (hml.trans hl.1.symm) hown (hts (.methodLink RX5 82 Lib.Math.min.name) (List.mem_of_getElem? (i := 3) rfl)) (hts (.static Lib.Math.min.name) (List.mem_of_getElem? (i := 4) rfl)) (hts (.initialized "java/lang/Math") (List.mem_of_getElem? (i := 5) rfl)) (hts (.code Lib.Math.min.name Lib.Math.min.code 2 (some .int)) (List.mem_of_getElem? (i := 6) rfl)) (Nat.le_of_ble_eq_true rfl) (Nat.le_of_ble_eq_true rfl) (Nat.zero_le _) (Nat.zero_le _) dX5_mostOf_86 ?_
      refine lv_istore_n (lv' := [(3, .int (if (((v_used (p2 - 1).toNatClampNeg) - ((v_ends p1.toNatClampNeg (p2 - 1).toNatClampNeg) - (v_ends p1.toNatClampNeg (p2 - 2).toNatClampNeg))) - (v_used p2.toNatClampNeg)) < x3_39 then (((v_used (p2 - 1).toNatClampNeg) - ((v_ends p1.toNatClampNeg (p2 - 1).toNatClampNeg) - (v_ends p1.toNatClampNeg (p2 - 2).toNatClampNeg))) - (v_used p2.toNatClampNeg)) else x3_39)), (4, .int ((v_ends p1.toNatClampNeg (p2 - 1).toNatClampNeg) - (v_ends p1.toNatClampNeg (p2 - 2).toNatClampNeg))), (0, .ref (a 0)), (1, .int p1), (2, .int p2)]) hx hb dX5_mostOf_89 rfl hl (by decide) rfl (fun ls hl => ?_)
      exact J90 (if (((v_used (p2 - 1).toNatClampNeg) - ((v_ends p1.toNatClampNeg (p2 - 1).toNatClampNeg) - (v_ends p1.toNatClampNeg (p2 - 2).toNatClampNeg))) - (v_used p2.toNatClampNeg)) < x3_39 then (((v_used (p2 - 1).toNatClampNeg) - ((v_ends p1.toNatClampNeg (p2 - 1).toNatClampNeg) - (v_ends p1.toNatClampNeg (p2 - 2).toNatClampNeg))) - (v_used p2.toNatClampNeg)) else x3_39) hf _ _ hP hD hS ls (lv_sub hl [0] rfl)
  refine lv_if_le (tgt := 39) hx hb dX5_mostOf_8 (by decide) (fun c_6 => ?_) (fun c_6 => ?_)
  · rw [if_pos c_6] at hf
    exact J39 (v_left p2.toNatClampNeg) hf _ _ hP hD hS ls (lv_sub hl [1, 2, 3, 0] rfl)
  · rw [if_neg c_6] at hf
    refine lv_iload_n hx hb dX5_mostOf_11 rfl (lv_at hl 0 rfl) ?_
    refine lv_aload_n hx hb dX5_mostOf_12 rfl (lv_at hl 1 rfl) ?_
    refine va_get (D := (dC, dI)) (ci := 5) (C := RX5) (T := TX5) (N := 9) hx hb hts (fun _ h => List.mem_cons_of_mem _ (List.mem_append_right _ h)) hown hK hP 0 rfl rfl 6 (by decide) (hts (.fieldLink RX5 23 "SkewBoard$Products" "ends" "[[I") (List.mem_of_getElem? (i := 2) rfl)) (fun _ h9 => h9) rfl dX5_mostOf_13 ?_
    refine lv_iload_n hx hb dX5_mostOf_16 rfl (lv_at hl 2 rfl) ?_
    refine lv_iconst (v := 1) hx hb dX5_mostOf_17 (by decide) ?_
    refine lv_isub hx hb dX5_mostOf_18 ?_
    obtain ⟨g_7, hf⟩ := gd_some hf
    refine va_aldE (r := (r4 (a 5) (a 6) (a 7) (a 8) (p1 - 1).toNatClampNeg)) hx hb hK hP 4 2 rfl rfl (inb_vp g_7) (if_pos (inb_lt g_7)) dX5_mostOf_19 ?_
    refine lv_iload_n hx hb dX5_mostOf_20 rfl (lv_at hl 3 rfl) ?_
    refine lv_iconst (v := 1) hx hb dX5_mostOf_21 (by decide) ?_
    refine lv_isub hx hb dX5_mostOf_22 ?_
    obtain ⟨g_8, hf⟩ := gd_some hf
    refine va_iald hx hb hK hP (5 + (p1 - 1).toNatClampNeg) 0 (x5_at g_7) rfl (inb_vp g_8) dX5_mostOf_23 ?_
    refine lv_aload_n hx hb dX5_mostOf_24 rfl (lv_at hl 1 rfl) ?_
    refine va_get (D := (dC, dI)) (ci := 5) (C := RX5) (T := TX5) (N := 9) hx hb hts (fun _ h => List.mem_cons_of_mem _ (List.mem_append_right _ h)) hown hK hP 0 rfl rfl 6 (by decide) (hts (.fieldLink RX5 23 "SkewBoard$Products" "ends" "[[I") (List.mem_of_getElem? (i := 2) rfl)) (fun _ h9 => h9) rfl dX5_mostOf_25 ?_
    refine lv_iload_n hx hb dX5_mostOf_28 rfl (lv_at hl 2 rfl) ?_
    obtain ⟨g_9, hf⟩ := gd_some hf
    refine va_aldE (r := (r4 (a 5) (a 6) (a 7) (a 8) p1.toNatClampNeg)) hx hb hK hP 4 2 rfl rfl (inb_vp g_9) (if_pos (inb_lt g_9)) dX5_mostOf_29 ?_
    refine lv_iload_n hx hb dX5_mostOf_30 rfl (lv_at hl 3 rfl) ?_
    refine lv_iconst (v := 1) hx hb dX5_mostOf_31 (by decide) ?_
    refine lv_isub hx hb dX5_mostOf_32 ?_
    refine va_iald hx hb hK hP (5 + p1.toNatClampNeg) 0 (x5_at g_9) rfl (inb_vp g_8) dX5_mostOf_33 ?_
    refine lv_isub hx hb dX5_mostOf_34 ?_
    refine va_mmin hx hb (hml.trans hl.1.symm) hown (hts (.methodLink RX5 82 Lib.Math.min.name) (List.mem_of_getElem? (i := 3) rfl)) (hts (.static Lib.Math.min.name) (List.mem_of_getElem? (i := 4) rfl)) (hts (.initialized "java/lang/Math") (List.mem_of_getElem? (i := 5) rfl)) (hts (.code Lib.Math.min.name Lib.Math.min.code 2 (some .int)) (List.mem_of_getElem? (i := 6) rfl)) (Nat.le_of_ble_eq_true rfl) (Nat.le_of_ble_eq_true rfl) (Nat.zero_le _) (Nat.zero_le _) dX5_mostOf_35 ?_
    refine lv_istore_n (lv' := [(3, .int (if ((v_ends (p1 - 1).toNatClampNeg (p2 - 1).toNatClampNeg) - (v_ends p1.toNatClampNeg (p2 - 1).toNatClampNeg)) < (v_left p2.toNatClampNeg) then ((v_ends (p1 - 1).toNatClampNeg (p2 - 1).toNatClampNeg) - (v_ends p1.toNatClampNeg (p2 - 1).toNatClampNeg)) else (v_left p2.toNatClampNeg))), (0, .ref (a 0)), (1, .int p1), (2, .int p2)]) hx hb dX5_mostOf_38 rfl hl (by decide) rfl (fun ls hl => ?_)
    exact J39 (if ((v_ends (p1 - 1).toNatClampNeg (p2 - 1).toNatClampNeg) - (v_ends p1.toNatClampNeg (p2 - 1).toNatClampNeg)) < (v_left p2.toNatClampNeg) then ((v_ends (p1 - 1).toNatClampNeg (p2 - 1).toNatClampNeg) - (v_ends p1.toNatClampNeg (p2 - 1).toNatClampNeg)) else (v_left p2.toNatClampNeg)) hf _ _ hP hD hS ls (lv_sub hl [1, 2, 3, 0] rfl)

def fX5_share_L51 (v_size : Int32) (v_multiplicitySum : Int32) (v_boxes : Int32) (v_inner : Nat → Int32) (v_keys : Nat → Int32) (p1 : Int32) (p2 : Int32) (RECF : Int32 → Int32 → Int32 → Int32 → Int32 → (Nat → Int32) → (Nat → Int32) → (Nat → Int32) → (Nat → Nat → Int32) → (Nat → Int32) → (Nat → Int32) → Option ((Nat → Int32) × (Nat → Int32) × (Nat → Nat → Int32) × (Nat → Int32))) (r_3 : Int32) : Nat → Int32 → (Nat → Int32) → (Nat → Int32) → (Nat → Nat → Int32) → (Nat → Int32) → Option ((Nat → Int32) × (Nat → Int32) × (Nat → Nat → Int32) × (Nat → Int32))
  | 0, _, _, _, _, _ => none
  | n + 1, x5_51, v_used_51, v_left_51, v_ends_51, v_fillingsOf_51 =>
    if r_3 < x5_51 then (some (v_used_51, v_left_51, v_ends_51, v_fillingsOf_51)) else (gd (inb p1 4) (gd (inb (p2 - 1) 5) (gd (inb p2 5) (bd (RECF p1 (p2 + 1) v_size v_multiplicitySum v_boxes v_inner (upd v_used_51 p2.toNatClampNeg ((v_used_51 p2.toNatClampNeg) + x5_51)) (upd v_left_51 p2.toNatClampNeg ((v_left_51 p2.toNatClampNeg) - x5_51)) (upd2 v_ends_51 p1.toNatClampNeg p2.toNatClampNeg ((v_ends_51 p1.toNatClampNeg (p2 - 1).toNatClampNeg) + x5_51)) v_fillingsOf_51 v_keys) (fun r_8 => fX5_share_L51 v_size v_multiplicitySum v_boxes v_inner v_keys p1 p2 RECF r_3 n (x5_51 + 1) (upd r_8.1 p2.toNatClampNeg ((r_8.1 p2.toNatClampNeg) - x5_51)) (upd r_8.2.1 p2.toNatClampNeg ((r_8.2.1 p2.toNatClampNeg) + x5_51)) r_8.2.2.1 r_8.2.2.2)))))
def fX5_share_J39 (v_size : Int32) (v_multiplicitySum : Int32) (v_boxes : Int32) (v_inner : Nat → Int32) (v_used : Nat → Int32) (v_left : Nat → Int32) (v_ends : Nat → Nat → Int32) (v_fillingsOf : Nat → Int32) (v_keys : Nat → Int32) (p1 : Int32) (p2 : Int32) (RECF : Int32 → Int32 → Int32 → Int32 → Int32 → (Nat → Int32) → (Nat → Int32) → (Nat → Int32) → (Nat → Nat → Int32) → (Nat → Int32) → (Nat → Int32) → Option ((Nat → Int32) × (Nat → Int32) × (Nat → Nat → Int32) × (Nat → Int32))) (y0_39 : Int32) : Option ((Nat → Int32) × (Nat → Int32) × (Nat → Nat → Int32) × (Nat → Int32)) :=
    bd (fX5_mostOf p1 p2 v_used v_left v_ends) (fun r_3 => fX5_share_L51 v_size v_multiplicitySum v_boxes v_inner v_keys p1 p2 RECF r_3 fu y0_39 v_used v_left v_ends v_fillingsOf)
def fX5_share : Nat → Int32 → Int32 → Int32 → Int32 → Int32 → (Nat → Int32) → (Nat → Int32) → (Nat → Int32) → (Nat → Nat → Int32) → (Nat → Int32) → (Nat → Int32) → Option ((Nat → Int32) × (Nat → Int32) × (Nat → Nat → Int32) × (Nat → Int32))
  | 0, _, _, _, _, _, _, _, _, _, _, _ => none
  | d + 1, p1, p2, v_size, v_multiplicitySum, v_boxes, v_inner, v_used, v_left, v_ends, v_fillingsOf, v_keys =>
    if p1 < 4 then (if p2 ≤ 4 then (if p1 = 3 then (gd (inb p2 5) (fX5_share_J39 v_size v_multiplicitySum v_boxes v_inner v_used v_left v_ends v_fillingsOf v_keys p1 p2 (fX5_share d) (v_left p2.toNatClampNeg))) else (fX5_share_J39 v_size v_multiplicitySum v_boxes v_inner v_used v_left v_ends v_fillingsOf v_keys p1 p2 (fX5_share d) 0)) else (bd ((fX5_share d) (p1 + 1) 1 v_size v_multiplicitySum v_boxes v_inner v_used v_left v_ends v_fillingsOf v_keys) (fun r_11 => some (r_11.1, r_11.2.1, r_11.2.2.1, r_11.2.2.2)))) else (bd (fX5_tally v_inner v_ends v_fillingsOf) (fun r_12 => some (v_used, v_left, v_ends, r_12)))
def rmX5_share (d : Nat) : Room := { frames := 3 + d, cells := 0, slots := 0, locals := 124 + 25 * d }
set_option maxRecDepth 100000 in
set_option maxHeartbeats 4000000 in
theorem ctX5_share (l : Launch) (z : Nat × Nat × Nat) (dC : Nat → ClassId) (dI : Nat → Nat → Nat) (cI cB cE : ClassId) (a : Nat → Nat) : ∀ (d : Nat) (v_size : Int32) (v_multiplicitySum : Int32) (v_boxes : Int32) (v_inner : Nat → Int32) (v_used : Nat → Int32) (v_left : Nat → Int32) (v_ends : Nat → Nat → Int32) (v_fillingsOf : Nat → Int32) (v_keys : Nat → Int32) (p1 : Int32) (p2 : Int32) (fin : (Nat → Int32) × (Nat → Int32) × (Nat → Nat → Int32) × (Nat → Int32)), fX5_share d p1 p2 v_size v_multiplicitySum v_boxes v_inner v_used v_left v_ends v_fillingsOf v_keys = some fin → Ct l z (dC, dI) (tyL cI cB cE) yX5_share wsX5_share (rmX5_share d) [.ref (a 0), .int p1, .int p2] (wX5 cI cB cE a v_size v_multiplicitySum v_boxes v_inner v_used v_left v_ends v_fillingsOf v_keys) none (wX5 cI cB cE a v_size v_multiplicitySum v_boxes v_inner fin.1 fin.2.1 fin.2.2.1 fin.2.2.2 v_keys) := by
  intro d
  induction d with
  | zero =>
    intro v_size v_multiplicitySum v_boxes v_inner v_used v_left v_ends v_fillingsOf v_keys p1 p2 fin hf
    rw [fX5_share] at hf
    cases hf
  | succ d ihd =>
    intro v_size v_multiplicitySum v_boxes v_inner v_used v_left v_ends v_fillingsOf v_keys p1 p2 fin hf
    rw [fX5_share] at hf
    refine Met.ofC (cc := cX5_share) (maxL := 6) (ret := none) (by decide) rfl (Nat.le_of_ble_eq_true rfl) ?_
    intro p e s m args below meth c A Q ls hx hb hr hml hts hown hlocks hA hK hP hD hZ hS hQ hl
    have hown : s.vm.findClass RX5 = some m.cls := hown
    have hl : lv_has ls 6 [(0, .ref (a 0)), (1, .int p1), (2, .int p2)] := hl
    refine lv_iload_n hx hb dX5_share_0 rfl (lv_at hl 1 rfl) ?_
    refine lv_iconst (v := 4) hx hb dX5_share_1 (by decide) ?_
    refine lv_icmp_lt (tgt := 10) hx hb dX5_share_2 (by decide) (fun c_1 => ?_) (fun c_1 => ?_)
    · rw [if_pos c_1] at hf
      refine lv_iload_n hx hb dX5_share_10 rfl (lv_at hl 2 rfl) ?_
      refine lv_iconst (v := 4) hx hb dX5_share_11 (by decide) ?_
      refine lv_icmp_le (tgt := 24) hx hb dX5_share_12 (by decide) (fun c_2 => ?_) (fun c_2 => ?_)
      · rw [if_pos c_2] at hf
        refine lv_iload_n hx hb dX5_share_24 rfl (lv_at hl 1 rfl) ?_
        refine lv_iconst (v := 3) hx hb dX5_share_25 (by decide) ?_
        have J39 : ∀ (y0_39 : Int32), fX5_share_J39 v_size v_multiplicitySum v_boxes v_inner v_used v_left v_ends v_fillingsOf v_keys p1 p2 (fX5_share d) y0_39 = some fin → ∀ (H : Heap) (locs : List Loc), va_P (dC, dI) vwCl (wX5 cI cB cE a v_size v_multiplicitySum v_boxes v_inner v_used v_left v_ends v_fillingsOf v_keys) H → va_D A (wX5 cI cB cE a v_size v_multiplicitySum v_boxes v_inner v_used v_left v_ends v_fillingsOf v_keys) → va_S A s.heap H locs → ∀ (ls : Array Slot), lv_has ls 6 [(0, .ref (a 0)), (1, .int p1), (2, .int p2)] → W p l e (rmX5_share (d + 1)) s m args below meth c H locs 0 0 Q (F0 m 39 ls [.int y0_39]) := by
          intro y0_39 hf H locs hP hD hS ls hl
          unfold fX5_share_J39 at hf
          refine lv_istore_n (lv' := [(3, .int y0_39), (0, .ref (a 0)), (1, .int p1), (2, .int p2)]) hx hb dX5_share_39 rfl hl (by decide) rfl (fun ls hl => ?_)
          refine lv_aload_n hx hb dX5_share_40 rfl (lv_at hl 1 rfl) ?_
          refine lv_iload_n hx hb dX5_share_41 rfl (lv_at hl 2 rfl) ?_
          refine lv_iload_n hx hb dX5_share_42 rfl (lv_at hl 3 rfl) ?_
          obtain ⟨r_3, hr_3, hf⟩ := bd_some hf
          refine cx_runW (cx_V (As := [.int p1, .int p2]) (rest := []) ⟨hx, hb, hml, hown, hts⟩ (ctX5_mostOf l z dC dI cI cB cE a v_size v_multiplicitySum v_boxes v_inner v_used v_left v_ends v_fillingsOf v_keys p1 p2 r_3 hr_3) (cwV 2 hts gX5_share_X5_mostOf rfl rfl rfl (by decide +kernel) ⟨by simp only [rmX5_share, rmX5_mostOf]; omega, by simp only [rmX5_share, rmX5_mostOf]; omega⟩) hK hP hD hZ hS hA (ci := 5) (q0 := 0) rfl rfl rfl hl.1 rfl (Nat.le_of_ble_eq_true rfl) dX5_share_43) hD hS hA [.int r_3] rfl (fun H locs hP hD hS => ?_)
          refine lv_istore (lv' := [(4, .int r_3), (3, .int y0_39), (0, .ref (a 0)), (1, .int p1), (2, .int p2)]) hx hb dX5_share_46 hl (by decide) rfl (fun ls hl => ?_)
          refine lv_iload_n hx hb dX5_share_48 rfl (lv_at hl 1 rfl) ?_
          refine lv_istore (lv' := [(5, .int y0_39), (4, .int r_3), (3, .int y0_39), (0, .ref (a 0)), (1, .int p1), (2, .int p2)]) hx hb dX5_share_49 hl (by decide) rfl (fun ls hl => ?_)
          have L51 : ∀ (n51 : Nat) (x5_51 : Int32) (v_used_51 : Nat → Int32) (v_left_51 : Nat → Int32) (v_ends_51 : Nat → Nat → Int32) (v_fillingsOf_51 : Nat → Int32), fX5_share_L51 v_size v_multiplicitySum v_boxes v_inner v_keys p1 p2 (fX5_share d) r_3 n51 x5_51 v_used_51 v_left_51 v_ends_51 v_fillingsOf_51 = some fin → ∀ (H : Heap) (locs : List Loc), va_P (dC, dI) vwCl (wX5 cI cB cE a v_size v_multiplicitySum v_boxes v_inner v_used_51 v_left_51 v_ends_51 v_fillingsOf_51 v_keys) H → va_D A (wX5 cI cB cE a v_size v_multiplicitySum v_boxes v_inner v_used_51 v_left_51 v_ends_51 v_fillingsOf_51 v_keys) → va_S A s.heap H locs → ∀ (ls : Array Slot), lv_has ls 6 [(0, .ref (a 0)), (1, .int p1), (2, .int p2), (4, .int r_3), (5, .int x5_51)] → W p l e (rmX5_share (d + 1)) s m args below meth c H locs 0 0 Q (F0 m 51 ls []) := by
            intro n51
            induction n51 with
            | zero =>
              intro x5_51 v_used_51 v_left_51 v_ends_51 v_fillingsOf_51 hf
              rw [fX5_share_L51] at hf
              cases hf
            | succ n51 ih51 =>
              intro x5_51 v_used_51 v_left_51 v_ends_51 v_fillingsOf_51 hf H locs hP hD hS ls hl
              rw [fX5_share_L51] at hf
              refine lv_iload hx hb dX5_share_51 (lv_at hl 4 rfl) ?_
              refine lv_iload hx hb dX5_share_53 (lv_at hl 3 rfl) ?_
              refine lv_icmp_gt (tgt := 137) hx hb dX5_share_55 (by decide) (fun c_4 => ?_) (fun c_4 => ?_)
              · rw [if_pos c_4] at hf
                have hQ2 := hQ
                rw [← Option.some.inj hf] at hQ2
                exact cx_vret hQ2 hx hb hr hlocks hK hP hD hS dX5_share_137
              · rw [if_neg c_4] at hf
                refine lv_aload_n hx hb dX5_share_58 rfl (lv_at hl 0 rfl) ?_
                refine va_get (D := (dC, dI)) (ci := 5) (C := RX5) (T := TX5) (N := 9) hx hb hts (fun _ h => List.mem_cons_of_mem _ (List.mem_append_right _ h)) hown hK hP 0 rfl rfl 6 (by decide) (hts (.fieldLink RX5 23 "SkewBoard$Products" "ends" "[[I") (List.mem_of_getElem? (i := 2) rfl)) (fun _ h9 => h9) rfl dX5_share_59 ?_
                refine lv_iload_n hx hb dX5_share_62 rfl (lv_at hl 1 rfl) ?_
                obtain ⟨g_5, hf⟩ := gd_some hf
                refine va_aldE (r := (r4 (a 5) (a 6) (a 7) (a 8) p1.toNatClampNeg)) hx hb hK hP 4 2 rfl rfl (inb_vp g_5) (if_pos (inb_lt g_5)) dX5_share_63 ?_
                refine lv_iload_n hx hb dX5_share_64 rfl (lv_at hl 2 rfl) ?_
                refine lv_aload_n hx hb dX5_share_65 rfl (lv_at hl 0 rfl) ?_
                refine va_get (D := (dC, dI)) (ci := 5) (C := RX5) (T := TX5) (N := 9) hx hb hts (fun _ h => List.mem_cons_of_mem _ (List.mem_append_right _ h)) hown hK hP 0 rfl rfl 6 (by decide) (hts (.fieldLink RX5 23 "SkewBoard$Products" "ends" "[[I") (List.mem_of_getElem? (i := 2) rfl)) (fun _ h9 => h9) rfl dX5_share_66 ?_
                refine lv_iload_n hx hb dX5_share_69 rfl (lv_at hl 1 rfl) ?_
                refine va_aldE (r := (r4 (a 5) (a 6) (a 7) (a 8) p1.toNatClampNeg)) hx hb hK hP 4 2 rfl rfl (inb_vp g_5) (if_pos (inb_lt g_5)) dX5_share_70 ?_
                refine lv_iload_n hx hb dX5_share_71 rfl (lv_at hl 2 rfl) ?_
                refine lv_iconst (v := 1) hx hb dX5_share_72 (by decide) ?_
                refine lv_isub hx hb dX5_share_73 ?_
                obtain ⟨g_6, hf⟩ := gd_some hf
                refine va_iald hx hb hK hP (5 + p1.toNatClampNeg) 0 (x5_at g_5) rfl (inb_vp g_6) dX5_share_74 ?_
                refine lv_iload hx hb dX5_share_75 (lv_at hl 4 rfl) ?_
                refine lv_iadd hx hb dX5_share_77 ?_
                obtain ⟨g_7, hf⟩ := gd_some hf
                refine va_iast hx hb hK hP hD hS (5 + p1.toNatClampNeg) 0 (x5_at g_5) rfl (inb_vp g_7) dX5_share_78 (fun H locs hP hD hS => ?_)
                rw [x5_set g_5] at hP hD
                have hP : va_P (dC, dI) vwCl (wX5 cI cB cE a v_size v_multiplicitySum v_boxes v_inner v_used_51 v_left_51 (upd2 v_ends_51 p1.toNatClampNeg p2.toNatClampNeg ((v_ends_51 p1.toNatClampNeg (p2 - 1).toNatClampNeg) + x5_51)) v_fillingsOf_51 v_keys) H := hP
                have hD : va_D A (wX5 cI cB cE a v_size v_multiplicitySum v_boxes v_inner v_used_51 v_left_51 (upd2 v_ends_51 p1.toNatClampNeg p2.toNatClampNeg ((v_ends_51 p1.toNatClampNeg (p2 - 1).toNatClampNeg) + x5_51)) v_fillingsOf_51 v_keys) := hD
                refine lv_aload_n hx hb dX5_share_79 rfl (lv_at hl 0 rfl) ?_
                refine va_get (D := (dC, dI)) (ci := 5) (C := RX5) (T := TX5) (N := 9) hx hb hts (fun _ h => List.mem_cons_of_mem _ (List.mem_append_right _ h)) hown hK hP 0 rfl rfl 4 (by decide) (hts (.fieldLink RX5 15 "SkewBoard$Products" "used" "[I") (List.mem_of_getElem? (i := 3) rfl)) (fun _ h9 => h9) rfl dX5_share_80 ?_
                refine lv_iload_n hx hb dX5_share_83 rfl (lv_at hl 2 rfl) ?_
                refine lv_dup2_11 hx hb dX5_share_84 rfl rfl ?_
                refine va_iald hx hb hK hP 2 0 rfl rfl (inb_vp g_7) dX5_share_85 ?_
                refine lv_iload hx hb dX5_share_86 (lv_at hl 4 rfl) ?_
                refine lv_iadd hx hb dX5_share_88 ?_
                refine va_iast hx hb hK hP hD hS 2 0 rfl rfl (inb_vp g_7) dX5_share_89 (fun H locs hP hD hS => ?_)
                have hP : va_P (dC, dI) vwCl (wX5 cI cB cE a v_size v_multiplicitySum v_boxes v_inner (upd v_used_51 p2.toNatClampNeg ((v_used_51 p2.toNatClampNeg) + x5_51)) v_left_51 (upd2 v_ends_51 p1.toNatClampNeg p2.toNatClampNeg ((v_ends_51 p1.toNatClampNeg (p2 - 1).toNatClampNeg) + x5_51)) v_fillingsOf_51 v_keys) H := hP
                have hD : va_D A (wX5 cI cB cE a v_size v_multiplicitySum v_boxes v_inner (upd v_used_51 p2.toNatClampNeg ((v_used_51 p2.toNatClampNeg) + x5_51)) v_left_51 (upd2 v_ends_51 p1.toNatClampNeg p2.toNatClampNeg ((v_ends_51 p1.toNatClampNeg (p2 - 1).toNatClampNeg) + x5_51)) v_fillingsOf_51 v_keys) := hD
                refine lv_aload_n hx hb dX5_share_90 rfl (lv_at hl 0 rfl) ?_
                refine va_get (D := (dC, dI)) (ci := 5) (C := RX5) (T := TX5) (N := 9) hx hb hts (fun _ h => List.mem_cons_of_mem _ (List.mem_append_right _ h)) hown hK hP 0 rfl rfl 5 (by decide) (hts (.fieldLink RX5 18 "SkewBoard$Products" "left" "[I") (List.mem_of_getElem? (i := 1) rfl)) (fun _ h9 => h9) rfl dX5_share_91 ?_
                refine lv_iload_n hx hb dX5_share_94 rfl (lv_at hl 2 rfl) ?_
                refine lv_dup2_11 hx hb dX5_share_95 rfl rfl ?_
                refine va_iald hx hb hK hP 3 0 rfl rfl (inb_vp g_7) dX5_share_96 ?_
                refine lv_iload hx hb dX5_share_97 (lv_at hl 4 rfl) ?_
                refine lv_isub hx hb dX5_share_99 ?_
                refine va_iast hx hb hK hP hD hS 3 0 rfl rfl (inb_vp g_7) dX5_share_100 (fun H locs hP hD hS => ?_)
                have hP : va_P (dC, dI) vwCl (wX5 cI cB cE a v_size v_multiplicitySum v_boxes v_inner (upd v_used_51 p2.toNatClampNeg ((v_used_51 p2.toNatClampNeg) + x5_51)) (upd v_left_51 p2.toNatClampNeg ((v_left_51 p2.toNatClampNeg) - x5_51)) (upd2 v_ends_51 p1.toNatClampNeg p2.toNatClampNeg ((v_ends_51 p1.toNatClampNeg (p2 - 1).toNatClampNeg) + x5_51)) v_fillingsOf_51 v_keys) H := hP
                have hD : va_D A (wX5 cI cB cE a v_size v_multiplicitySum v_boxes v_inner (upd v_used_51 p2.toNatClampNeg ((v_used_51 p2.toNatClampNeg) + x5_51)) (upd v_left_51 p2.toNatClampNeg ((v_left_51 p2.toNatClampNeg) - x5_51)) (upd2 v_ends_51 p1.toNatClampNeg p2.toNatClampNeg ((v_ends_51 p1.toNatClampNeg (p2 - 1).toNatClampNeg) + x5_51)) v_fillingsOf_51 v_keys) := hD
                refine lv_aload_n hx hb dX5_share_101 rfl (lv_at hl 0 rfl) ?_
                refine lv_iload_n hx hb dX5_share_102 rfl (lv_at hl 1 rfl) ?_
                refine lv_iload_n hx hb dX5_share_103 rfl (lv_at hl 2 rfl) ?_
                refine lv_iconst (v := 1) hx hb dX5_share_104 (by decide) ?_
                refine lv_iadd hx hb dX5_share_105 ?_
                obtain ⟨r_8, hr_8, hf⟩ := bd_some hf
                refine cx_runW (cx_V (As := [.int p1, .int (p2 + 1)]) (rest := []) ⟨hx, hb, hml, hown, hts⟩ (ihd v_size v_multiplicitySum v_boxes v_inner (upd v_used_51 p2.toNatClampNeg ((v_used_51 p2.toNatClampNeg) + x5_51)) (upd v_left_51 p2.toNatClampNeg ((v_left_51 p2.toNatClampNeg) - x5_51)) (upd2 v_ends_51 p1.toNatClampNeg p2.toNatClampNeg ((v_ends_51 p1.toNatClampNeg (p2 - 1).toNatClampNeg) + x5_51)) v_fillingsOf_51 v_keys p1 (p2 + 1) r_8 hr_8) (cwV 2 hts gX5_share_X5_share rfl rfl rfl (by decide +kernel) ⟨by simp only [rmX5_share, rmX5_share]; omega, by simp only [rmX5_share, rmX5_share]; omega⟩) hK hP hD hZ hS hA (ci := 5) (q0 := 0) rfl rfl rfl hl.1 rfl (Nat.le_of_ble_eq_true rfl) dX5_share_106) hD hS hA [] rfl (fun H locs hP hD hS => ?_)
                refine lv_aload_n hx hb dX5_share_109 rfl (lv_at hl 0 rfl) ?_
                refine va_get (D := (dC, dI)) (ci := 5) (C := RX5) (T := TX5) (N := 9) hx hb hts (fun _ h => List.mem_cons_of_mem _ (List.mem_append_right _ h)) hown hK hP 0 rfl rfl 4 (by decide) (hts (.fieldLink RX5 15 "SkewBoard$Products" "used" "[I") (List.mem_of_getElem? (i := 3) rfl)) (fun _ h9 => h9) rfl dX5_share_110 ?_
                refine lv_iload_n hx hb dX5_share_113 rfl (lv_at hl 2 rfl) ?_
                refine lv_dup2_11 hx hb dX5_share_114 rfl rfl ?_
                refine va_iald hx hb hK hP 2 0 rfl rfl (inb_vp g_7) dX5_share_115 ?_
                refine lv_iload hx hb dX5_share_116 (lv_at hl 4 rfl) ?_
                refine lv_isub hx hb dX5_share_118 ?_
                refine va_iast hx hb hK hP hD hS 2 0 rfl rfl (inb_vp g_7) dX5_share_119 (fun H locs hP hD hS => ?_)
                have hP : va_P (dC, dI) vwCl (wX5 cI cB cE a v_size v_multiplicitySum v_boxes v_inner (upd r_8.1 p2.toNatClampNeg ((r_8.1 p2.toNatClampNeg) - x5_51)) r_8.2.1 r_8.2.2.1 r_8.2.2.2 v_keys) H := hP
                have hD : va_D A (wX5 cI cB cE a v_size v_multiplicitySum v_boxes v_inner (upd r_8.1 p2.toNatClampNeg ((r_8.1 p2.toNatClampNeg) - x5_51)) r_8.2.1 r_8.2.2.1 r_8.2.2.2 v_keys) := hD
                refine lv_aload_n hx hb dX5_share_120 rfl (lv_at hl 0 rfl) ?_
                refine va_get (D := (dC, dI)) (ci := 5) (C := RX5) (T := TX5) (N := 9) hx hb hts (fun _ h => List.mem_cons_of_mem _ (List.mem_append_right _ h)) hown hK hP 0 rfl rfl 5 (by decide) (hts (.fieldLink RX5 18 "SkewBoard$Products" "left" "[I") (List.mem_of_getElem? (i := 1) rfl)) (fun _ h9 => h9) rfl dX5_share_121 ?_
                refine lv_iload_n hx hb dX5_share_124 rfl (lv_at hl 2 rfl) ?_
                refine lv_dup2_11 hx hb dX5_share_125 rfl rfl ?_
                refine va_iald hx hb hK hP 3 0 rfl rfl (inb_vp g_7) dX5_share_126 ?_
                refine lv_iload hx hb dX5_share_127 (lv_at hl 4 rfl) ?_
                refine lv_iadd hx hb dX5_share_129 ?_
                refine va_iast hx hb hK hP hD hS 3 0 rfl rfl (inb_vp g_7) dX5_share_130 (fun H locs hP hD hS => ?_)
                have hP : va_P (dC, dI) vwCl (wX5 cI cB cE a v_size v_multiplicitySum v_boxes v_inner (upd r_8.1 p2.toNatClampNeg ((r_8.1 p2.toNatClampNeg) - x5_51)) (upd r_8.2.1 p2.toNatClampNeg ((r_8.2.1 p2.toNatClampNeg) + x5_51)) r_8.2.2.1 r_8.2.2.2 v_keys) H := hP
                have hD : va_D A (wX5 cI cB cE a v_size v_multiplicitySum v_boxes v_inner (upd r_8.1 p2.toNatClampNeg ((r_8.1 p2.toNatClampNeg) - x5_51)) (upd r_8.2.1 p2.toNatClampNeg ((r_8.2.1 p2.toNatClampNeg) + x5_51)) r_8.2.2.1 r_8.2.2.2 v_keys) := hD
                refine lv_iinc (v := (x5_51 + 1)) (lv' := [(5, .int (x5_51 + 1)), (0, .ref (a 0)), (1, .int p1), (2, .int p2), (4, .int r_3)]) hx hb dX5_share_131 hl (k := 4) rfl rfl (by decide) rfl (fun ls hl => ?_)
                refine lv_goto (tgt := 51) hx hb dX5_share_134 (by decide) ?_
                exact ih51 (x5_51 + 1) (upd r_8.1 p2.toNatClampNeg ((r_8.1 p2.toNatClampNeg) - x5_51)) (upd r_8.2.1 p2.toNatClampNeg ((r_8.2.1 p2.toNatClampNeg) + x5_51)) r_8.2.2.1 r_8.2.2.2 hf _ _ hP hD hS ls (lv_sub hl [1, 2, 3, 4, 0] rfl)
          exact L51 fu y0_39 v_used v_left v_ends v_fillingsOf hf _ _ hP hD hS ls (lv_sub hl [3, 4, 5, 1, 0] rfl)
        refine lv_icmp_ne (tgt := 38) hx hb dX5_share_26 (by decide) (fun c_9 => ?_) (fun c_9 => ?_)
        · rw [if_neg c_9] at hf
          refine lv_iconst (v := 0) hx hb dX5_share_38 (by decide) ?_
          exact J39 0 hf _ _ hP hD hS ls (lv_sub hl [0, 1, 2] rfl)
        · rw [if_pos c_9] at hf
          refine lv_aload_n hx hb dX5_share_29 rfl (lv_at hl 0 rfl) ?_
          refine va_get (D := (dC, dI)) (ci := 5) (C := RX5) (T := TX5) (N := 9) hx hb hts (fun _ h => List.mem_cons_of_mem _ (List.mem_append_right _ h)) hown hK hP 0 rfl rfl 5 (by decide) (hts (.fieldLink RX5 18 "SkewBoard$Products" "left" "[I") (List.mem_of_getElem? (i := 1) rfl)) (fun _ h9 => h9) rfl dX5_share_30 ?_
          refine lv_iload_n hx hb dX5_share_33 rfl (lv_at hl 2 rfl) ?_
          obtain ⟨g_10, hf⟩ := gd_some hf
          refine va_iald hx hb hK hP 3 0 rfl rfl (inb_vp g_10) dX5_share_34 ?_
          refine lv_goto (tgt := 39) hx hb dX5_share_35 (by decide) ?_
          exact J39 (v_left p2.toNatClampNeg) hf _ _ hP hD hS ls (lv_sub hl [0, 1, 2] rfl)
      · rw [if_neg c_2] at hf
        refine lv_aload_n hx hb dX5_share_15 rfl (lv_at hl 0 rfl) ?_
        refine lv_iload_n hx hb dX5_share_16 rfl (lv_at hl 1 rfl) ?_
        refine lv_iconst (v := 1) hx hb dX5_share_17 (by decide) ?_
        refine lv_iadd hx hb dX5_share_18 ?_
        refine lv_iconst (v := 1) hx hb dX5_share_19 (by decide) ?_
        obtain ⟨r_11, hr_11, hf⟩ := bd_some hf
        refine cx_runW (cx_V (As := [.int (p1 + 1), .int 1]) (rest := []) ⟨hx, hb, hml, hown, hts⟩ (ihd v_size v_multiplicitySum v_boxes v_inner v_used v_left v_ends v_fillingsOf v_keys (p1 + 1) 1 r_11 hr_11) (cwV 2 hts gX5_share_X5_share rfl rfl rfl (by decide +kernel) ⟨by simp only [rmX5_share, rmX5_share]; omega, by simp only [rmX5_share, rmX5_share]; omega⟩) hK hP hD hZ hS hA (ci := 5) (q0 := 0) rfl rfl rfl hl.1 rfl (Nat.le_of_ble_eq_true rfl) dX5_share_20) hD hS hA [] rfl (fun H locs hP hD hS => ?_)
        have hQ2 := hQ
        rw [← Option.some.inj hf] at hQ2
        exact cx_vret hQ2 hx hb hr hlocks hK hP hD hS dX5_share_23
    · rw [if_neg c_1] at hf
      refine lv_aload_n hx hb dX5_share_5 rfl (lv_at hl 0 rfl) ?_
      obtain ⟨r_12, hr_12, hf⟩ := bd_some hf
      refine cx_runW (cx_V (As := []) (rest := []) ⟨hx, hb, hml, hown, hts⟩ (ctX5_tally l z dC dI cI cB cE a v_size v_multiplicitySum v_boxes v_inner v_used v_left v_ends v_fillingsOf v_keys r_12 hr_12) (cwV 0 hts gX5_share_X5_tally rfl rfl rfl (by decide +kernel) ⟨by simp only [rmX5_share, rmX5_tally]; omega, by simp only [rmX5_share, rmX5_tally]; omega⟩) hK hP hD hZ hS hA (ci := 5) (q0 := 0) rfl rfl rfl hl.1 rfl (Nat.le_of_ble_eq_true rfl) dX5_share_6) hD hS hA [] rfl (fun H locs hP hD hS => ?_)
      have hQ2 := hQ
      rw [← Option.some.inj hf] at hQ2
      exact cx_vret hQ2 hx hb hr hlocks hK hP hD hS dX5_share_9

def fX5_collect_J62 (x1_4 : Int32) (k4 : Int32 → Int32 → Int32 → (Nat → Int32) → Option (Int32 × Int32 × (Nat → Int32))) (v_size_62 : Int32) (v_multiplicitySum_62 : Int32) (v_keys_62 : Nat → Int32) : Option (Int32 × Int32 × (Nat → Int32)) :=
    k4 (x1_4 + (-1)) v_size_62 v_multiplicitySum_62 v_keys_62
def fX5_collect_L4 (v_fillingsOf : Nat → Int32) : Nat → Int32 → Int32 → Int32 → (Nat → Int32) → Option (Int32 × Int32 × (Nat → Int32))
  | 0, _, _, _, _ => none
  | n + 1, x1_4, v_size_4, v_multiplicitySum_4, v_keys_4 =>
    if x1_4 < 0 then (some (v_size_4, v_multiplicitySum_4, v_keys_4)) else (gd (inb x1_4 1000) (if (v_fillingsOf x1_4.toNatClampNeg) ≤ 0 then (fX5_collect_J62 x1_4 (fX5_collect_L4 v_fillingsOf n) v_size_4 v_multiplicitySum_4 v_keys_4) else (if 220 ≤ v_size_4 then (fX5_collect_J62 x1_4 (fX5_collect_L4 v_fillingsOf n) v_size_4 v_multiplicitySum_4 v_keys_4) else (gd (inb v_size_4 220) (fX5_collect_J62 x1_4 (fX5_collect_L4 v_fillingsOf n) (v_size_4 + 1) (v_multiplicitySum_4 + (v_fillingsOf x1_4.toNatClampNeg)) (upd v_keys_4 v_size_4.toNatClampNeg x1_4))))))
def fX5_collect (v_size : Int32) (v_multiplicitySum : Int32) (v_fillingsOf : Nat → Int32) (v_keys : Nat → Int32) : Option (Int32 × Int32 × (Nat → Int32)) :=
  fX5_collect_L4 v_fillingsOf fu 999 v_size v_multiplicitySum v_keys
def rmX5_collect : Room := { frames := 0, cells := 0, slots := 0, locals := 0 }
set_option maxRecDepth 100000 in
set_option maxHeartbeats 4000000 in
theorem ctX5_collect (l : Launch) (z : Nat × Nat × Nat) (dC : Nat → ClassId) (dI : Nat → Nat → Nat) (cI cB cE : ClassId) (a : Nat → Nat) (v_size : Int32) (v_multiplicitySum : Int32) (v_boxes : Int32) (v_inner : Nat → Int32) (v_used : Nat → Int32) (v_left : Nat → Int32) (v_ends : Nat → Nat → Int32) (v_fillingsOf : Nat → Int32) (v_keys : Nat → Int32) (fin : Int32 × Int32 × (Nat → Int32)) (hf : fX5_collect v_size v_multiplicitySum v_fillingsOf v_keys = some fin) : Ct l z (dC, dI) (tyL cI cB cE) yX5_collect wsX5_collect rmX5_collect [.ref (a 0)] (wX5 cI cB cE a v_size v_multiplicitySum v_boxes v_inner v_used v_left v_ends v_fillingsOf v_keys) none (wX5 cI cB cE a fin.1 fin.2.1 v_boxes v_inner v_used v_left v_ends v_fillingsOf fin.2.2) := by
  refine Met.ofC (cc := cX5_collect) (maxL := 2) (ret := none) (by decide) rfl (Nat.le_of_ble_eq_true rfl) ?_
  intro p e s m args below meth c A Q ls hx hb hr hml hts hown hlocks hA hK hP hD hZ hS hQ hl
  have hown : s.vm.findClass RX5 = some m.cls := hown
  have hl : lv_has ls 2 [(0, .ref (a 0))] := hl
  unfold fX5_collect at hf
  refine lv_sipush (v := 999) hx hb dX5_collect_0 (by decide) ?_
  refine lv_istore_n (lv' := [(1, .int 999), (0, .ref (a 0))]) hx hb dX5_collect_3 rfl hl (by decide) rfl (fun ls hl => ?_)
  have L4 : ∀ (n4 : Nat) (x1_4 : Int32) (v_size_4 : Int32) (v_multiplicitySum_4 : Int32) (v_keys_4 : Nat → Int32), fX5_collect_L4 v_fillingsOf n4 x1_4 v_size_4 v_multiplicitySum_4 v_keys_4 = some fin → ∀ (H : Heap) (locs : List Loc), va_P (dC, dI) vwCl (wX5 cI cB cE a v_size_4 v_multiplicitySum_4 v_boxes v_inner v_used v_left v_ends v_fillingsOf v_keys_4) H → va_D A (wX5 cI cB cE a v_size_4 v_multiplicitySum_4 v_boxes v_inner v_used v_left v_ends v_fillingsOf v_keys_4) → va_S A s.heap H locs → ∀ (ls : Array Slot), lv_has ls 2 [(0, .ref (a 0)), (1, .int x1_4)] → W p l e rmX5_collect s m args below meth c H locs 0 0 Q (F0 m 4 ls []) := by
    intro n4
    induction n4 with
    | zero =>
      intro x1_4 v_size_4 v_multiplicitySum_4 v_keys_4 hf
      rw [fX5_collect_L4] at hf
      cases hf
    | succ n4 ih4 =>
      intro x1_4 v_size_4 v_multiplicitySum_4 v_keys_4 hf H locs hP hD hS ls hl
      rw [fX5_collect_L4] at hf
      refine lv_iload_n hx hb dX5_collect_4 rfl (lv_at hl 1 rfl) ?_
      refine lv_if_lt (tgt := 68) hx hb dX5_collect_5 (by decide) (fun c_1 => ?_) (fun c_1 => ?_)
      · rw [if_pos c_1] at hf
        have hQ2 := hQ
        rw [← Option.some.inj hf] at hQ2
        exact cx_vret hQ2 hx hb hr hlocks hK hP hD hS dX5_collect_68
      · rw [if_neg c_1] at hf
        refine lv_aload_n hx hb dX5_collect_8 rfl (lv_at hl 0 rfl) ?_
        refine va_get (D := (dC, dI)) (ci := 5) (C := RX5) (T := TX5) (N := 9) hx hb hts (fun _ h => List.mem_cons_of_mem _ (List.mem_append_right _ h)) hown hK hP 0 rfl rfl 7 (by decide) (hts (.fieldLink RX5 26 "SkewBoard$Products" "fillingsOf" "[I") (List.mem_of_getElem? (i := 1) rfl)) (fun _ h9 => h9) rfl dX5_collect_9 ?_
        refine lv_iload_n hx hb dX5_collect_12 rfl (lv_at hl 1 rfl) ?_
        obtain ⟨g_2, hf⟩ := gd_some hf
        refine va_iald hx hb hK hP 9 0 rfl rfl (inb_vp g_2) dX5_collect_13 ?_
        have J62 : ∀ (v_size_62 : Int32) (v_multiplicitySum_62 : Int32) (v_keys_62 : Nat → Int32), fX5_collect_J62 x1_4 (fX5_collect_L4 v_fillingsOf n4) v_size_62 v_multiplicitySum_62 v_keys_62 = some fin → ∀ (H : Heap) (locs : List Loc), va_P (dC, dI) vwCl (wX5 cI cB cE a v_size_62 v_multiplicitySum_62 v_boxes v_inner v_used v_left v_ends v_fillingsOf v_keys_62) H → va_D A (wX5 cI cB cE a v_size_62 v_multiplicitySum_62 v_boxes v_inner v_used v_left v_ends v_fillingsOf v_keys_62) → va_S A s.heap H locs → ∀ (ls : Array Slot), lv_has ls 2 [(0, .ref (a 0)), (1, .int x1_4)] → W p l e rmX5_collect s m args below meth c H locs 0 0 Q (F0 m 62 ls []) := by
          intro v_size_62 v_multiplicitySum_62 v_keys_62 hf H locs hP hD hS ls hl
          unfold fX5_collect_J62 at hf
          refine lv_iinc (v := (x1_4 + (-1))) (lv' := [(1, .int (x1_4 + (-1))), (0, .ref (a 0))]) hx hb dX5_collect_62 hl (k := 1) rfl rfl (by decide) rfl (fun ls hl => ?_)
          refine lv_goto (tgt := 4) hx hb dX5_collect_65 (by decide) ?_
          exact ih4 (x1_4 + (-1)) v_size_62 v_multiplicitySum_62 v_keys_62 hf _ _ hP hD hS ls (lv_sub hl [1, 0] rfl)
        refine lv_if_le (tgt := 62) hx hb dX5_collect_14 (by decide) (fun c_3 => ?_) (fun c_3 => ?_)
        · rw [if_pos c_3] at hf
          exact J62 v_size_4 v_multiplicitySum_4 v_keys_4 hf _ _ hP hD hS ls (lv_sub hl [0, 1] rfl)
        · rw [if_neg c_3] at hf
          refine lv_aload_n hx hb dX5_collect_17 rfl (lv_at hl 0 rfl) ?_
          refine va_get (D := (dC, dI)) (ci := 5) (C := RX5) (T := TX5) (N := 9) hx hb hts (fun _ h => List.mem_cons_of_mem _ (List.mem_append_right _ h)) hown hK hP 0 rfl rfl 0 (by decide) (hts (.fieldLink RX5 32 "SkewBoard$Products" "size" "I") (List.mem_of_getElem? (i := 2) rfl)) (fun _ h9 => h9) rfl dX5_collect_18 ?_
          refine lv_sipush (v := 220) hx hb dX5_collect_21 (by decide) ?_
          refine lv_icmp_ge (tgt := 62) hx hb dX5_collect_24 (by decide) (fun c_4 => ?_) (fun c_4 => ?_)
          · rw [if_pos c_4] at hf
            exact J62 v_size_4 v_multiplicitySum_4 v_keys_4 hf _ _ hP hD hS ls (lv_sub hl [0, 1] rfl)
          · rw [if_neg c_4] at hf
            refine lv_aload_n hx hb dX5_collect_27 rfl (lv_at hl 0 rfl) ?_
            refine va_get (D := (dC, dI)) (ci := 5) (C := RX5) (T := TX5) (N := 9) hx hb hts (fun _ h => List.mem_cons_of_mem _ (List.mem_append_right _ h)) hown hK hP 0 rfl rfl 8 (by decide) (hts (.fieldLink RX5 29 "SkewBoard$Products" "keys" "[I") (List.mem_of_getElem? (i := 3) rfl)) (fun _ h9 => h9) rfl dX5_collect_28 ?_
            refine lv_aload_n hx hb dX5_collect_31 rfl (lv_at hl 0 rfl) ?_
            refine va_get (D := (dC, dI)) (ci := 5) (C := RX5) (T := TX5) (N := 9) hx hb hts (fun _ h => List.mem_cons_of_mem _ (List.mem_append_right _ h)) hown hK hP 0 rfl rfl 0 (by decide) (hts (.fieldLink RX5 32 "SkewBoard$Products" "size" "I") (List.mem_of_getElem? (i := 2) rfl)) (fun _ h9 => h9) rfl dX5_collect_32 ?_
            refine lv_iload_n hx hb dX5_collect_35 rfl (lv_at hl 1 rfl) ?_
            obtain ⟨g_5, hf⟩ := gd_some hf
            refine va_iast hx hb hK hP hD hS 10 0 rfl rfl (inb_vp g_5) dX5_collect_36 (fun H locs hP hD hS => ?_)
            have hP : va_P (dC, dI) vwCl (wX5 cI cB cE a v_size_4 v_multiplicitySum_4 v_boxes v_inner v_used v_left v_ends v_fillingsOf (upd v_keys_4 v_size_4.toNatClampNeg x1_4)) H := hP
            have hD : va_D A (wX5 cI cB cE a v_size_4 v_multiplicitySum_4 v_boxes v_inner v_used v_left v_ends v_fillingsOf (upd v_keys_4 v_size_4.toNatClampNeg x1_4)) := hD
            refine lv_aload_n hx hb dX5_collect_37 rfl (lv_at hl 0 rfl) ?_
            refine lv_dup hx hb dX5_collect_38 rfl ?_
            refine va_get (D := (dC, dI)) (ci := 5) (C := RX5) (T := TX5) (N := 9) hx hb hts (fun _ h => List.mem_cons_of_mem _ (List.mem_append_right _ h)) hown hK hP 0 rfl rfl 0 (by decide) (hts (.fieldLink RX5 32 "SkewBoard$Products" "size" "I") (List.mem_of_getElem? (i := 2) rfl)) (fun _ h9 => h9) rfl dX5_collect_39 ?_
            refine lv_iconst (v := 1) hx hb dX5_collect_42 (by decide) ?_
            refine lv_iadd hx hb dX5_collect_43 ?_
            refine va_put (D := (dC, dI)) (ci := 5) (v := .int (v_size_4 + 1)) (ty := .int) (C := RX5) (T := TX5) (N := 9) hx hb hts (fun _ h => List.mem_cons_of_mem _ (List.mem_append_right _ h)) tyX5 tyX5_ok nmX5 hown hK hP hD hS 0 rfl rfl 0 (by decide) (hts (.fieldLink RX5 32 "SkewBoard$Products" "size" "I") (List.mem_of_getElem? (i := 2) rfl)) (fun _ h9 => h9) rfl (by decide +kernel) rfl rfl (Nat.le_of_ble_eq_true rfl) dX5_collect_44 (fun H locs hP hD hS => ?_)
            have hP : va_P (dC, dI) vwCl (wX5 cI cB cE a (v_size_4 + 1) v_multiplicitySum_4 v_boxes v_inner v_used v_left v_ends v_fillingsOf (upd v_keys_4 v_size_4.toNatClampNeg x1_4)) H := hP
            have hD : va_D A (wX5 cI cB cE a (v_size_4 + 1) v_multiplicitySum_4 v_boxes v_inner v_used v_left v_ends v_fillingsOf (upd v_keys_4 v_size_4.toNatClampNeg x1_4)) := hD
            refine lv_aload_n hx hb dX5_collect_47 rfl (lv_at hl 0 rfl) ?_
            refine lv_dup hx hb dX5_collect_48 rfl ?_
            refine va_get (D := (dC, dI)) (ci := 5) (C := RX5) (T := TX5) (N := 9) hx hb hts (fun _ h => List.mem_cons_of_mem _ (List.mem_append_right _ h)) hown hK hP 0 rfl rfl 1 (by decide) (hts (.fieldLink RX5 36 "SkewBoard$Products" "multiplicitySum" "I") (List.mem_of_getElem? (i := 4) rfl)) (fun _ h9 => h9) rfl dX5_collect_49 ?_
            refine lv_aload_n hx hb dX5_collect_52 rfl (lv_at hl 0 rfl) ?_
            refine va_get (D := (dC, dI)) (ci := 5) (C := RX5) (T := TX5) (N := 9) hx hb hts (fun _ h => List.mem_cons_of_mem _ (List.mem_append_right _ h)) hown hK hP 0 rfl rfl 7 (by decide) (hts (.fieldLink RX5 26 "SkewBoard$Products" "fillingsOf" "[I") (List.mem_of_getElem? (i := 1) rfl)) (fun _ h9 => h9) rfl dX5_collect_53 ?_
            refine lv_iload_n hx hb dX5_collect_56 rfl (lv_at hl 1 rfl) ?_
            refine va_iald hx hb hK hP 9 0 rfl rfl (inb_vp g_2) dX5_collect_57 ?_
            refine lv_iadd hx hb dX5_collect_58 ?_
            refine va_put (D := (dC, dI)) (ci := 5) (v := .int (v_multiplicitySum_4 + (v_fillingsOf x1_4.toNatClampNeg))) (ty := .int) (C := RX5) (T := TX5) (N := 9) hx hb hts (fun _ h => List.mem_cons_of_mem _ (List.mem_append_right _ h)) tyX5 tyX5_ok nmX5 hown hK hP hD hS 0 rfl rfl 1 (by decide) (hts (.fieldLink RX5 36 "SkewBoard$Products" "multiplicitySum" "I") (List.mem_of_getElem? (i := 4) rfl)) (fun _ h9 => h9) rfl (by decide +kernel) rfl rfl (Nat.le_of_ble_eq_true rfl) dX5_collect_59 (fun H locs hP hD hS => ?_)
            have hP : va_P (dC, dI) vwCl (wX5 cI cB cE a (v_size_4 + 1) (v_multiplicitySum_4 + (v_fillingsOf x1_4.toNatClampNeg)) v_boxes v_inner v_used v_left v_ends v_fillingsOf (upd v_keys_4 v_size_4.toNatClampNeg x1_4)) H := hP
            have hD : va_D A (wX5 cI cB cE a (v_size_4 + 1) (v_multiplicitySum_4 + (v_fillingsOf x1_4.toNatClampNeg)) v_boxes v_inner v_used v_left v_ends v_fillingsOf (upd v_keys_4 v_size_4.toNatClampNeg x1_4)) := hD
            exact J62 (v_size_4 + 1) (v_multiplicitySum_4 + (v_fillingsOf x1_4.toNatClampNeg)) (upd v_keys_4 v_size_4.toNatClampNeg x1_4) hf _ _ hP hD hS ls (lv_sub hl [0, 1] rfl)
  exact L4 fu 999 v_size v_multiplicitySum v_keys hf _ _ hP hD hS ls (lv_sub hl [1, 0] rfl)

def fX5_findAll_J34 (v_inner : Nat → Int32) (v_used : Nat → Int32) (v_left : Nat → Int32) (v_ends : Nat → Nat → Int32) (v_fillingsOf : Nat → Int32) (v_keys : Nat → Int32) (r_1 : Int32) (u_34 : Unit) : Option (Int32 × Int32 × Int32 × (Nat → Int32) × (Nat → Int32) × (Nat → Int32) × (Nat → Nat → Int32) × (Nat → Int32) × (Nat → Int32)) :=
    some (0, 0, r_1, v_inner, v_used, v_left, v_ends, v_fillingsOf, v_keys)
def fX5_findAll_L81 (v_inner : Nat → Int32) (v_used : Nat → Int32) (v_left : Nat → Int32) (v_fillingsOf : Nat → Int32) (v_keys : Nat → Int32) (v_o1_inner : Nat → Int32) (v_o1_content : Nat → Int32) (r_1 : Int32) : Nat → Int32 → (Nat → Nat → Int32) → Option (Int32 × Int32 × Int32 × (Nat → Int32) × (Nat → Int32) × (Nat → Int32) × (Nat → Nat → Int32) × (Nat → Int32) × (Nat → Int32))
  | 0, _, _ => none
  | n + 1, x2_81, v_ends_81 =>
    if 4 ≤ x2_81 then (bd (fX5_share 26 0 1 0 0 r_1 (va_cpy v_o1_inner v_inner 0 0 4) (fill_f v_used 5 0) (va_cpy v_o1_content v_left 0 1 4) v_ends_81 (fill_f v_fillingsOf 1000 0) v_keys) (fun r_6 => bd (fX5_collect 0 0 r_6.2.2.2 v_keys) (fun r_7 => some (r_7.1, r_7.2.1, r_1, (va_cpy v_o1_inner v_inner 0 0 4), r_6.1, r_6.2.1, r_6.2.2.1, r_6.2.2.2, r_7.2.2)))) else (gd (inb x2_81 4) (fX5_findAll_L81 v_inner v_used v_left v_fillingsOf v_keys v_o1_inner v_o1_content r_1 n (x2_81 + 1) (upd2 v_ends_81 x2_81.toNatClampNeg (0 : Int32).toNatClampNeg ((va_cpy v_o1_inner v_inner 0 0 4) x2_81.toNatClampNeg))))
def fX5_findAll (v_inner : Nat → Int32) (v_used : Nat → Int32) (v_left : Nat → Int32) (v_ends : Nat → Nat → Int32) (v_fillingsOf : Nat → Int32) (v_keys : Nat → Int32) (v_o1_rows : Int32) (v_o1_inner : Nat → Int32) (v_o1_content : Nat → Int32) : Option (Int32 × Int32 × Int32 × (Nat → Int32) × (Nat → Int32) × (Nat → Int32) × (Nat → Nat → Int32) × (Nat → Int32) × (Nat → Int32)) :=
  bd (fX4_contentSum v_o1_content) (fun r_1 => bd (fX4_isMissing v_o1_rows) (fun r_2 => if r_2 = 0 then (if r_1 ≤ 9 then (fX5_findAll_L81 v_inner v_used v_left v_fillingsOf v_keys v_o1_inner v_o1_content r_1 fu 0 v_ends) else (fX5_findAll_J34 v_inner v_used v_left v_ends v_fillingsOf v_keys r_1 ())) else (fX5_findAll_J34 v_inner v_used v_left v_ends v_fillingsOf v_keys r_1 ())))
def rmX5_findAll : Room := { frames := 30, cells := 0, slots := 0, locals := 799 }
set_option maxRecDepth 100000 in
set_option maxHeartbeats 4000000 in
theorem ctX5_findAll (l : Launch) (z : Nat × Nat × Nat) (dC : Nat → ClassId) (dI : Nat → Nat → Nat) (cI cB cE : ClassId) (a b : Nat → Nat) (v_size : Int32) (v_multiplicitySum : Int32) (v_boxes : Int32) (v_inner : Nat → Int32) (v_used : Nat → Int32) (v_left : Nat → Int32) (v_ends : Nat → Nat → Int32) (v_fillingsOf : Nat → Int32) (v_keys : Nat → Int32) (v_o1_kind : Int32) (v_o1_rows : Int32) (v_o1_outer : Nat → Int32) (v_o1_inner : Nat → Int32) (v_o1_content : Nat → Int32) (fin : Int32 × Int32 × Int32 × (Nat → Int32) × (Nat → Int32) × (Nat → Int32) × (Nat → Nat → Int32) × (Nat → Int32) × (Nat → Int32)) (hf : fX5_findAll v_inner v_used v_left v_ends v_fillingsOf v_keys v_o1_rows v_o1_inner v_o1_content = some fin) : Ct l z (dC, dI) (tyL cI cB cE) yX5_findAll wsX5_findAll rmX5_findAll [.ref (a 0), .ref (b 0)] (wX5 cI cB cE a v_size v_multiplicitySum v_boxes v_inner v_used v_left v_ends v_fillingsOf v_keys ++ wX4 cI cB cE b v_o1_kind v_o1_rows v_o1_outer v_o1_inner v_o1_content) none (wX5 cI cB cE a fin.1 fin.2.1 fin.2.2.1 fin.2.2.2.1 fin.2.2.2.2.1 fin.2.2.2.2.2.1 fin.2.2.2.2.2.2.1 fin.2.2.2.2.2.2.2.1 fin.2.2.2.2.2.2.2.2 ++ wX4 cI cB cE b v_o1_kind v_o1_rows v_o1_outer v_o1_inner v_o1_content) := by
  refine Met.ofC (cc := cX5_findAll) (maxL := 3) (ret := none) (by decide) rfl (Nat.le_of_ble_eq_true rfl) ?_
  intro p e s m args below meth c A Q ls hx hb hr hml hts hown hlocks hA hK hP hD hZ hS hQ hl
  have hown : s.vm.findClass RX5 = some m.cls := hown
  have hl : lv_has ls 3 [(0, .ref (a 0)), (1, .ref (b 0))] := hl
  unfold fX5_findAll at hf
  refine lv_aload_n hx hb dX5_findAll_0 rfl (lv_at hl 0 rfl) ?_
  refine lv_iconst (v := 0) hx hb dX5_findAll_1 (by decide) ?_
  refine va_put (D := (dC, dI)) (ci := 5) (v := .int 0) (ty := .int) (C := RX5) (T := TX5) (N := 9) hx hb hts (fun _ h => List.mem_cons_of_mem _ (List.mem_append_left _ (List.mem_append_right _ h))) tyX5 tyX5_ok nmX5 hown hK hP hD hS 0 rfl rfl 0 (by decide) (hts (.fieldLink RX5 32 "SkewBoard$Products" "size" "I") (List.mem_of_getElem? (i := 1) rfl)) (fun _ h9 => h9) rfl (by decide +kernel) rfl rfl (Nat.le_of_ble_eq_true rfl) dX5_findAll_2 (fun H locs hP hD hS => ?_)
  have hP : va_P (dC, dI) vwCl (wX5 cI cB cE a 0 v_multiplicitySum v_boxes v_inner v_used v_left v_ends v_fillingsOf v_keys ++ wX4 cI cB cE b v_o1_kind v_o1_rows v_o1_outer v_o1_inner v_o1_content) H := hP
  have hD : va_D A (wX5 cI cB cE a 0 v_multiplicitySum v_boxes v_inner v_used v_left v_ends v_fillingsOf v_keys ++ wX4 cI cB cE b v_o1_kind v_o1_rows v_o1_outer v_o1_inner v_o1_content) := hD
  refine lv_aload_n hx hb dX5_findAll_5 rfl (lv_at hl 0 rfl) ?_
  refine lv_iconst (v := 0) hx hb dX5_findAll_6 (by decide) ?_
  refine va_put (D := (dC, dI)) (ci := 5) (v := .int 0) (ty := .int) (C := RX5) (T := TX5) (N := 9) hx hb hts (fun _ h => List.mem_cons_of_mem _ (List.mem_append_left _ (List.mem_append_right _ h))) tyX5 tyX5_ok nmX5 hown hK hP hD hS 0 rfl rfl 1 (by decide) (hts (.fieldLink RX5 36 "SkewBoard$Products" "multiplicitySum" "I") (List.mem_of_getElem? (i := 2) rfl)) (fun _ h9 => h9) rfl (by decide +kernel) rfl rfl (Nat.le_of_ble_eq_true rfl) dX5_findAll_7 (fun H locs hP hD hS => ?_)
  have hP : va_P (dC, dI) vwCl (wX5 cI cB cE a 0 0 v_boxes v_inner v_used v_left v_ends v_fillingsOf v_keys ++ wX4 cI cB cE b v_o1_kind v_o1_rows v_o1_outer v_o1_inner v_o1_content) H := hP
  have hD : va_D A (wX5 cI cB cE a 0 0 v_boxes v_inner v_used v_left v_ends v_fillingsOf v_keys ++ wX4 cI cB cE b v_o1_kind v_o1_rows v_o1_outer v_o1_inner v_o1_content) := hD
  refine lv_aload_n hx hb dX5_findAll_10 rfl (lv_at hl 0 rfl) ?_
  refine lv_aload_n hx hb dX5_findAll_11 rfl (lv_at hl 1 rfl) ?_
  obtain ⟨r_1, hr_1, hf⟩ := bd_some hf
  refine cx_run (ws' := (wX5 cI cB cE a 0 0 v_boxes v_inner v_used v_left v_ends v_fillingsOf v_keys ++ wX4 cI cB cE b v_o1_kind v_o1_rows v_o1_outer v_o1_inner v_o1_content)) (wr := [((a 0), .inr (5, [.int 0, .int 0, .int v_boxes, .ref (a 1), .ref (a 2), .ref (a 3), .ref (a 4), .ref (a 9), .ref (a 10)])), ((a 1), .inl (cI, 4, .inl v_inner)), ((a 2), .inl (cI, 5, .inl v_used)), ((a 3), .inl (cI, 5, .inl v_left)), ((a 4), .inl (cE, 4, .inr (.inr (.inr (.inr (fun i => if i < 4 then some (r4 (a 5) (a 6) (a 7) (a 8) i) else none)))))), ((a 5), .inl (cI, 5, .inl (v_ends 0))), ((a 6), .inl (cI, 5, .inl (v_ends 1))), ((a 7), .inl (cI, 5, .inl (v_ends 2))), ((a 8), .inl (cI, 5, .inl (v_ends 3))), ((a 9), .inl (cI, 1000, .inl v_fillingsOf)), ((a 10), .inl (cI, 220, .inl v_keys))]) (cx_V (As := []) (rest := [.ref (a 0)]) ⟨hx, hb, hml, hown, hts⟩ (ctX4_contentSum l z dC dI cI cB cE b v_o1_kind v_o1_rows v_o1_outer v_o1_inner v_o1_content r_1 hr_1) (cwV 0 hts gX5_findAll_X4_contentSum rfl rfl rfl (by decide +kernel) ⟨Nat.le_of_ble_eq_true rfl, Nat.le_of_ble_eq_true rfl⟩) hK (hP.sub [11, 12, 13, 14] rfl) (hD.sub [11, 12, 13, 14] (by decide) rfl) hZ hS hA (ci := 4) (q0 := 0) rfl rfl rfl hl.1 rfl (Nat.le_of_ble_eq_true rfl) dX5_findAll_12) hP hD hS hA [11, 12, 13, 14] [0, 1, 2, 3, 4, 5, 6, 7, 8, 9, 10] rfl rfl (by decide) (by decide) [0, 1, 2, 3, 4, 5, 6, 7, 8, 9, 10, 11, 12, 13, 14] (by decide) rfl [.int r_1, .ref (a 0)] rfl (fun H locs hP hD hS => ?_)
  refine va_put (D := (dC, dI)) (ci := 5) (v := .int r_1) (ty := .int) (C := RX5) (T := TX5) (N := 9) hx hb hts (fun _ h => List.mem_cons_of_mem _ (List.mem_append_left _ (List.mem_append_right _ h))) tyX5 tyX5_ok nmX5 hown hK hP hD hS 0 rfl rfl 2 (by decide) (hts (.fieldLink RX5 45 "SkewBoard$Products" "boxes" "I") (List.mem_of_getElem? (i := 3) rfl)) (fun _ h9 => h9) rfl (by decide +kernel) rfl rfl (Nat.le_of_ble_eq_true rfl) dX5_findAll_15 (fun H locs hP hD hS => ?_)
  have hP : va_P (dC, dI) vwCl (wX5 cI cB cE a 0 0 r_1 v_inner v_used v_left v_ends v_fillingsOf v_keys ++ wX4 cI cB cE b v_o1_kind v_o1_rows v_o1_outer v_o1_inner v_o1_content) H := hP
  have hD : va_D A (wX5 cI cB cE a 0 0 r_1 v_inner v_used v_left v_ends v_fillingsOf v_keys ++ wX4 cI cB cE b v_o1_kind v_o1_rows v_o1_outer v_o1_inner v_o1_content) := hD
  refine lv_aload_n hx hb dX5_findAll_18 rfl (lv_at hl 1 rfl) ?_
  obtain ⟨r_2, hr_2, hf⟩ := bd_some hf
  refine cx_run (ws' := (wX5 cI cB cE a 0 0 r_1 v_inner v_used v_left v_ends v_fillingsOf v_keys ++ wX4 cI cB cE b v_o1_kind v_o1_rows v_o1_outer v_o1_inner v_o1_content)) (wr := [((a 0), .inr (5, [.int 0, .int 0, .int r_1, .ref (a 1), .ref (a 2), .ref (a 3), .ref (a 4), .ref (a 9), .ref (a 10)])), ((a 1), .inl (cI, 4, .inl v_inner)), ((a 2), .inl (cI, 5, .inl v_used)), ((a 3), .inl (cI, 5, .inl v_left)), ((a 4), .inl (cE, 4, .inr (.inr (.inr (.inr (fun i => if i < 4 then some (r4 (a 5) (a 6) (a 7) (a 8) i) else none)))))), ((a 5), .inl (cI, 5, .inl (v_ends 0))), ((a 6), .inl (cI, 5, .inl (v_ends 1))), ((a 7), .inl (cI, 5, .inl (v_ends 2))), ((a 8), .inl (cI, 5, .inl (v_ends 3))), ((a 9), .inl (cI, 1000, .inl v_fillingsOf)), ((a 10), .inl (cI, 220, .inl v_keys))]) (cx_V (As := []) (rest := []) ⟨hx, hb, hml, hown, hts⟩ (ctX4_isMissing l z dC dI cI cB cE b v_o1_kind v_o1_rows v_o1_outer v_o1_inner v_o1_content r_2 hr_2) (cwV 0 hts gX5_findAll_X4_isMissing rfl rfl rfl (by decide +kernel) ⟨Nat.le_of_ble_eq_true rfl, Nat.le_of_ble_eq_true rfl⟩) hK (hP.sub [11, 12, 13, 14] rfl) (hD.sub [11, 12, 13, 14] (by decide) rfl) hZ hS hA (ci := 4) (q0 := 0) rfl rfl rfl hl.1 rfl (Nat.le_of_ble_eq_true rfl) dX5_findAll_19) hP hD hS hA [11, 12, 13, 14] [0, 1, 2, 3, 4, 5, 6, 7, 8, 9, 10] rfl rfl (by decide) (by decide) [0, 1, 2, 3, 4, 5, 6, 7, 8, 9, 10, 11, 12, 13, 14] (by decide) rfl [.int r_2] rfl (fun H locs hP hD hS => ?_)
  have J34 : ∀ (u_34 : Unit), fX5_findAll_J34 v_inner v_used v_left v_ends v_fillingsOf v_keys r_1 u_34 = some fin → ∀ (H : Heap) (locs : List Loc), va_P (dC, dI) vwCl (wX5 cI cB cE a 0 0 r_1 v_inner v_used v_left v_ends v_fillingsOf v_keys ++ wX4 cI cB cE b v_o1_kind v_o1_rows v_o1_outer v_o1_inner v_o1_content) H → va_D A (wX5 cI cB cE a 0 0 r_1 v_inner v_used v_left v_ends v_fillingsOf v_keys ++ wX4 cI cB cE b v_o1_kind v_o1_rows v_o1_outer v_o1_inner v_o1_content) → va_S A s.heap H locs → ∀ (ls : Array Slot), lv_has ls 3 [] → W p l e rmX5_findAll s m args below meth c H locs 0 0 Q (F0 m 34 ls []) := by
    intro u_34 hf H locs hP hD hS ls hl
    unfold fX5_findAll_J34 at hf
    have hQ2 := hQ
    rw [← Option.some.inj hf] at hQ2
    exact cx_vret hQ2 hx hb hr hlocks hK hP hD hS dX5_findAll_34
  refine lv_if_ne (tgt := 34) hx hb dX5_findAll_22 (by decide) (fun c_3 => ?_) (fun c_3 => ?_)
  · rw [if_neg c_3] at hf
    exact J34 () hf _ _ hP hD hS ls (lv_sub hl [] rfl)
  · rw [if_pos c_3] at hf
    refine lv_aload_n hx hb dX5_findAll_25 rfl (lv_at hl 0 rfl) ?_
    refine va_get (D := (dC, dI)) (ci := 5) (C := RX5) (T := TX5) (N := 9) hx hb hts (fun _ h => List.mem_cons_of_mem _ (List.mem_append_left _ (List.mem_append_right _ h))) hown hK hP 0 rfl rfl 2 (by decide) (hts (.fieldLink RX5 45 "SkewBoard$Products" "boxes" "I") (List.mem_of_getElem? (i := 3) rfl)) (fun _ h9 => h9) rfl dX5_findAll_26 ?_
    refine lv_bipush (v := 9) hx hb dX5_findAll_29 (by decide) ?_
    refine lv_icmp_le (tgt := 35) hx hb dX5_findAll_31 (by decide) (fun c_4 => ?_) (fun c_4 => ?_)
    · rw [if_pos c_4] at hf
      refine lv_aload_n hx hb dX5_findAll_35 rfl (lv_at hl 0 rfl) ?_
      refine va_get (D := (dC, dI)) (ci := 5) (C := RX5) (T := TX5) (N := 9) hx hb hts (fun _ h => List.mem_cons_of_mem _ (List.mem_append_left _ (List.mem_append_right _ h))) hown hK hP 0 rfl rfl 7 (by decide) (hts (.fieldLink RX5 26 "SkewBoard$Products" "fillingsOf" "[I") (List.mem_of_getElem? (i := 4) rfl)) (fun _ h9 => h9) rfl dX5_findAll_36 ?_
      refine lv_iconst (v := 0) hx hb dX5_findAll_39 (by decide) ?_
      refine cx_run (ws' := (wX5 cI cB cE a 0 0 r_1 v_inner v_used v_left v_ends (fill_f v_fillingsOf 1000 0) v_keys ++ wX4 cI cB cE b v_o1_kind v_o1_rows v_o1_outer v_o1_inner v_o1_content)) (wr := [((a 0), .inr (5, [.int 0, .int 0, .int r_1, .ref (a 1), .ref (a 2), .ref (a 3), .ref (a 4), .ref (a 9), .ref (a 10)])), ((a 1), .inl (cI, 4, .inl v_inner)), ((a 2), .inl (cI, 5, .inl v_used)), ((a 3), .inl (cI, 5, .inl v_left)), ((a 4), .inl (cE, 4, .inr (.inr (.inr (.inr (fun i => if i < 4 then some (r4 (a 5) (a 6) (a 7) (a 8) i) else none)))))), ((a 5), .inl (cI, 5, .inl (v_ends 0))), ((a 6), .inl (cI, 5, .inl (v_ends 1))), ((a 7), .inl (cI, 5, .inl (v_ends 2))), ((a 8), .inl (cI, 5, .inl (v_ends 3))), ((a 10), .inl (cI, 220, .inl v_keys)), ((b 0), .inr (4, [.int v_o1_kind, .int v_o1_rows, .ref (b 1), .ref (b 2), .ref (b 3)])), ((b 1), .inl (cI, 4, .inl v_o1_outer)), ((b 2), .inl (cI, 4, .inl v_o1_inner)), ((b 3), .inl (cI, 4, .inl v_o1_content))]) (cx_S (As := [.ref (a 9), .int 0]) (rest := []) ⟨hx, hb, hml, hown, hts⟩ (ctJ7_fill_53178 l z dC dI cI cB cE (a 9) 1000 (by decide) v_fillingsOf 0) (va_cwS 2 hts gX5_findAll_J7_fill_53178 rfl rfl rfl (by decide +kernel) ⟨Nat.le_of_ble_eq_true rfl, Nat.le_of_ble_eq_true rfl⟩) hK (hP.sub (ws' := [((a 9), .inl (cI, 1000, .inl v_fillingsOf))]) [9] rfl) (hD.sub (ws' := [((a 9), .inl (cI, 1000, .inl v_fillingsOf))]) [9] (by decide) rfl) hZ hS hA rfl hl.1 rfl (Nat.le_of_ble_eq_true rfl) dX5_findAll_40) hP hD hS hA [9] [0, 1, 2, 3, 4, 5, 6, 7, 8, 10, 11, 12, 13, 14] rfl rfl (by decide) (by decide) [0, 1, 2, 3, 4, 5, 6, 7, 8, 14, 9, 10, 11, 12, 13] (by decide) rfl [] rfl (fun H locs hP hD hS => ?_)
      refine lv_aload_n hx hb dX5_findAll_43 rfl (lv_at hl 0 rfl) ?_
      refine va_get (D := (dC, dI)) (ci := 5) (C := RX5) (T := TX5) (N := 9) hx hb hts (fun _ h => List.mem_cons_of_mem _ (List.mem_append_left _ (List.mem_append_right _ h))) hown hK hP 0 rfl rfl 4 (by decide) (hts (.fieldLink RX5 15 "SkewBoard$Products" "used" "[I") (List.mem_of_getElem? (i := 5) rfl)) (fun _ h9 => h9) rfl dX5_findAll_44 ?_
      refine lv_iconst (v := 0) hx hb dX5_findAll_47 (by decide) ?_
      refine cx_run (ws' := (wX5 cI cB cE a 0 0 r_1 v_inner (fill_f v_used 5 0) v_left v_ends (fill_f v_fillingsOf 1000 0) v_keys ++ wX4 cI cB cE b v_o1_kind v_o1_rows v_o1_outer v_o1_inner v_o1_content)) (wr := [((a 0), .inr (5, [.int 0, .int 0, .int r_1, .ref (a 1), .ref (a 2), .ref (a 3), .ref (a 4), .ref (a 9), .ref (a 10)])), ((a 1), .inl (cI, 4, .inl v_inner)), ((a 3), .inl (cI, 5, .inl v_left)), ((a 4), .inl (cE, 4, .inr (.inr (.inr (.inr (fun i => if i < 4 then some (r4 (a 5) (a 6) (a 7) (a 8) i) else none)))))), ((a 5), .inl (cI, 5, .inl (v_ends 0))), ((a 6), .inl (cI, 5, .inl (v_ends 1))), ((a 7), .inl (cI, 5, .inl (v_ends 2))), ((a 8), .inl (cI, 5, .inl (v_ends 3))), ((a 9), .inl (cI, 1000, .inl (fill_f v_fillingsOf 1000 0))), ((a 10), .inl (cI, 220, .inl v_keys)), ((b 0), .inr (4, [.int v_o1_kind, .int v_o1_rows, .ref (b 1), .ref (b 2), .ref (b 3)])), ((b 1), .inl (cI, 4, .inl v_o1_outer)), ((b 2), .inl (cI, 4, .inl v_o1_inner)), ((b 3), .inl (cI, 4, .inl v_o1_content))]) (cx_S (As := [.ref (a 2), .int 0]) (rest := []) ⟨hx, hb, hml, hown, hts⟩ (ctJ7_fill_53178 l z dC dI cI cB cE (a 2) 5 (by decide) v_used 0) (va_cwS 2 hts gX5_findAll_J7_fill_53178 rfl rfl rfl (by decide +kernel) ⟨Nat.le_of_ble_eq_true rfl, Nat.le_of_ble_eq_true rfl⟩) hK (hP.sub (ws' := [((a 2), .inl (cI, 5, .inl v_used))]) [2] rfl) (hD.sub (ws' := [((a 2), .inl (cI, 5, .inl v_used))]) [2] (by decide) rfl) hZ hS hA rfl hl.1 rfl (Nat.le_of_ble_eq_true rfl) dX5_findAll_48) hP hD hS hA [2] [0, 1, 3, 4, 5, 6, 7, 8, 9, 10, 11, 12, 13, 14] rfl rfl (by decide) (by decide) [0, 1, 14, 2, 3, 4, 5, 6, 7, 8, 9, 10, 11, 12, 13] (by decide) rfl [] rfl (fun H locs hP hD hS => ?_)
      refine lv_aload_n hx hb dX5_findAll_51 rfl (lv_at hl 1 rfl) ?_
      refine va_get (D := (dC, dI)) (ci := 4) (C := RX4) (T := TX4) (N := 5) hx hb hts (fun _ h => List.mem_cons_of_mem _ (List.mem_append_right _ h)) hown hK hP 11 rfl rfl 4 (by decide) (hts (.fieldLink RX5 58 "SkewBoard$Plan" "content" "[I") (List.mem_of_getElem? (i := 6) rfl)) (fun _ h9 => h9) rfl dX5_findAll_52 ?_
      refine lv_iconst (v := 0) hx hb dX5_findAll_55 (by decide) ?_
      refine lv_aload_n hx hb dX5_findAll_56 rfl (lv_at hl 0 rfl) ?_
      refine va_get (D := (dC, dI)) (ci := 5) (C := RX5) (T := TX5) (N := 9) hx hb hts (fun _ h => List.mem_cons_of_mem _ (List.mem_append_left _ (List.mem_append_right _ h))) hown hK hP 0 rfl rfl 5 (by decide) (hts (.fieldLink RX5 18 "SkewBoard$Products" "left" "[I") (List.mem_of_getElem? (i := 7) rfl)) (fun _ h9 => h9) rfl dX5_findAll_57 ?_
      refine lv_iconst (v := 1) hx hb dX5_findAll_60 (by decide) ?_
      refine lv_iconst (v := 4) hx hb dX5_findAll_61 (by decide) ?_
      refine va_copyi (n := 4) (sp := 0) (dp := 1) (ty := .int) hx hb (hml.trans hl.1.symm) hown (hts (.methodLink RX5 61 arraycopyName) (List.mem_of_getElem? (i := 8) rfl)) (hts (.native arraycopyName) (List.mem_of_getElem? (i := 9) rfl)) (hts (.static arraycopyName) (List.mem_of_getElem? (i := 10) rfl)) (hts (.initialized "java/lang/System") (List.mem_of_getElem? (i := 11) rfl)) hK hP hD hS 14 3 0 0 rfl rfl rfl rfl rfl (by decide) (by decide) (by decide) (by decide) (by decide) (fun _ _ => rfl) (Nat.le_of_ble_eq_true rfl) (Nat.le_of_ble_eq_true rfl) dX5_findAll_62 (fun H locs hP hD hS => ?_)
      have hP : va_P (dC, dI) vwCl (wX5 cI cB cE a 0 0 r_1 v_inner (fill_f v_used 5 0) (va_cpy v_o1_content v_left 0 1 4) v_ends (fill_f v_fillingsOf 1000 0) v_keys ++ wX4 cI cB cE b v_o1_kind v_o1_rows v_o1_outer v_o1_inner v_o1_content) H := hP
      have hD : va_D A (wX5 cI cB cE a 0 0 r_1 v_inner (fill_f v_used 5 0) (va_cpy v_o1_content v_left 0 1 4) v_ends (fill_f v_fillingsOf 1000 0) v_keys ++ wX4 cI cB cE b v_o1_kind v_o1_rows v_o1_outer v_o1_inner v_o1_content) := hD
      refine lv_aload_n hx hb dX5_findAll_65 rfl (lv_at hl 1 rfl) ?_
      refine va_get (D := (dC, dI)) (ci := 4) (C := RX4) (T := TX4) (N := 5) hx hb hts (fun _ h => List.mem_cons_of_mem _ (List.mem_append_right _ h)) hown hK hP 11 rfl rfl 3 (by decide) (hts (.fieldLink RX5 67 "SkewBoard$Plan" "inner" "[I") (List.mem_of_getElem? (i := 12) rfl)) (fun _ h9 => h9) rfl dX5_findAll_66 ?_
      refine lv_iconst (v := 0) hx hb dX5_findAll_69 (by decide) ?_
      refine lv_aload_n hx hb dX5_findAll_70 rfl (lv_at hl 0 rfl) ?_
      refine va_get (D := (dC, dI)) (ci := 5) (C := RX5) (T := TX5) (N := 9) hx hb hts (fun _ h => List.mem_cons_of_mem _ (List.mem_append_left _ (List.mem_append_right _ h))) hown hK hP 0 rfl rfl 3 (by decide) (hts (.fieldLink RX5 11 "SkewBoard$Products" "inner" "[I") (List.mem_of_getElem? (i := 13) rfl)) (fun _ h9 => h9) rfl dX5_findAll_71 ?_
      refine lv_iconst (v := 0) hx hb dX5_findAll_74 (by decide) ?_
      refine lv_iconst (v := 4) hx hb dX5_findAll_75 (by decide) ?_
      refine va_copyi (n := 4) (sp := 0) (dp := 0) (ty := .int) hx hb (hml.trans hl.1.symm) hown (hts (.methodLink RX5 61 arraycopyName) (List.mem_of_getElem? (i := 8) rfl)) (hts (.native arraycopyName) (List.mem_of_getElem? (i := 9) rfl)) (hts (.static arraycopyName) (List.mem_of_getElem? (i := 10) rfl)) (hts (.initialized "java/lang/System") (List.mem_of_getElem? (i := 11) rfl)) hK hP hD hS 13 1 0 0 rfl rfl rfl rfl rfl (by decide) (by decide) (by decide) (by decide) (by decide) (fun _ _ => rfl) (Nat.le_of_ble_eq_true rfl) (Nat.le_of_ble_eq_true rfl) dX5_findAll_76 (fun H locs hP hD hS => ?_)
      have hP : va_P (dC, dI) vwCl (wX5 cI cB cE a 0 0 r_1 (va_cpy v_o1_inner v_inner 0 0 4) (fill_f v_used 5 0) (va_cpy v_o1_content v_left 0 1 4) v_ends (fill_f v_fillingsOf 1000 0) v_keys ++ wX4 cI cB cE b v_o1_kind v_o1_rows v_o1_outer v_o1_inner v_o1_content) H := hP
      have hD : va_D A (wX5 cI cB cE a 0 0 r_1 (va_cpy v_o1_inner v_inner 0 0 4) (fill_f v_used 5 0) (va_cpy v_o1_content v_left 0 1 4) v_ends (fill_f v_fillingsOf 1000 0) v_keys ++ wX4 cI cB cE b v_o1_kind v_o1_rows v_o1_outer v_o1_inner v_o1_content) := hD
      refine lv_iconst (v := 0) hx hb dX5_findAll_79 (by decide) ?_
      refine lv_istore_n (lv' := [(2, .int 0), (0, .ref (a 0)), (1, .ref (b 0))]) hx hb dX5_findAll_80 rfl hl (by decide) rfl (fun ls hl => ?_)
      have L81 : ∀ (n81 : Nat) (x2_81 : Int32) (v_ends_81 : Nat → Nat → Int32), fX5_findAll_L81 v_inner v_used v_left v_fillingsOf v_keys v_o1_inner v_o1_content r_1 n81 x2_81 v_ends_81 = some fin → ∀ (H : Heap) (locs : List Loc), va_P (dC, dI) vwCl (wX5 cI cB cE a 0 0 r_1 (va_cpy v_o1_inner v_inner 0 0 4) (fill_f v_used 5 0) (va_cpy v_o1_content v_left 0 1 4) v_ends_81 (fill_f v_fillingsOf 1000 0) v_keys ++ wX4 cI cB cE b v_o1_kind v_o1_rows v_o1_outer v_o1_inner v_o1_content) H → va_D A (wX5 cI cB cE a 0 0 r_1 (va_cpy v_o1_inner v_inner 0 0 4) (fill_f v_used 5 0) (va_cpy v_o1_content v_left 0 1 4) v_ends_81 (fill_f v_fillingsOf 1000 0) v_keys ++ wX4 cI cB cE b v_o1_kind v_o1_rows v_o1_outer v_o1_inner v_o1_content) → va_S A s.heap H locs → ∀ (ls : Array Slot), lv_has ls 3 [(0, .ref (a 0)), (2, .int x2_81)] → W p l e rmX5_findAll s m args below meth c H locs 0 0 Q (F0 m 81 ls []) := by
        intro n81
        induction n81 with
        | zero =>
          intro x2_81 v_ends_81 hf
          rw [fX5_findAll_L81] at hf
          cases hf
        | succ n81 ih81 =>
          intro x2_81 v_ends_81 hf H locs hP hD hS ls hl
          rw [fX5_findAll_L81] at hf
          refine lv_iload_n hx hb dX5_findAll_81 rfl (lv_at hl 1 rfl) ?_
          refine lv_iconst (v := 4) hx hb dX5_findAll_82 (by decide) ?_
          refine lv_icmp_ge (tgt := 106) hx hb dX5_findAll_83 (by decide) (fun c_5 => ?_) (fun c_5 => ?_)
          · rw [if_pos c_5] at hf
            refine lv_aload_n hx hb dX5_findAll_106 rfl (lv_at hl 0 rfl) ?_
            refine lv_iconst (v := 0) hx hb dX5_findAll_107 (by decide) ?_
            refine lv_iconst (v := 1) hx hb dX5_findAll_108 (by decide) ?_
            obtain ⟨r_6, hr_6, hf⟩ := bd_some hf
            refine cx_run (ws' := (wX5 cI cB cE a 0 0 r_1 (va_cpy v_o1_inner v_inner 0 0 4) r_6.1 r_6.2.1 r_6.2.2.1 r_6.2.2.2 v_keys ++ wX4 cI cB cE b v_o1_kind v_o1_rows v_o1_outer v_o1_inner v_o1_content)) (wr := [((b 0), .inr (4, [.int v_o1_kind, .int v_o1_rows, .ref (b 1), .ref (b 2), .ref (b 3)])), ((b 1), .inl (cI, 4, .inl v_o1_outer)), ((b 2), .inl (cI, 4, .inl v_o1_inner)), ((b 3), .inl (cI, 4, .inl v_o1_content))]) (cx_V (As := [.int 0, .int 1]) (rest := []) ⟨hx, hb, hml, hown, hts⟩ (ctX5_share l z dC dI cI cB cE a 26 0 0 r_1 (va_cpy v_o1_inner v_inner 0 0 4) (fill_f v_used 5 0) (va_cpy v_o1_content v_left 0 1 4) v_ends_81 (fill_f v_fillingsOf 1000 0) v_keys 0 1 r_6 hr_6) (cwV 2 hts gX5_findAll_X5_share rfl rfl rfl (by decide +kernel) ⟨Nat.le_of_ble_eq_true rfl, Nat.le_of_ble_eq_true rfl⟩) hK (hP.sub [0, 1, 2, 3, 4, 5, 6, 7, 8, 9, 10] rfl) (hD.sub [0, 1, 2, 3, 4, 5, 6, 7, 8, 9, 10] (by decide) rfl) hZ hS hA (ci := 5) (q0 := 0) rfl rfl rfl hl.1 rfl (Nat.le_of_ble_eq_true rfl) dX5_findAll_109) hP hD hS hA [0, 1, 2, 3, 4, 5, 6, 7, 8, 9, 10] [11, 12, 13, 14] rfl rfl (by decide) (by decide) [4, 5, 6, 7, 8, 9, 10, 11, 12, 13, 14, 0, 1, 2, 3] (by decide) rfl [] rfl (fun H locs hP hD hS => ?_)
            refine lv_aload_n hx hb dX5_findAll_112 rfl (lv_at hl 0 rfl) ?_
            obtain ⟨r_7, hr_7, hf⟩ := bd_some hf
            refine cx_run (ws' := (wX5 cI cB cE a r_7.1 r_7.2.1 r_1 (va_cpy v_o1_inner v_inner 0 0 4) r_6.1 r_6.2.1 r_6.2.2.1 r_6.2.2.2 r_7.2.2 ++ wX4 cI cB cE b v_o1_kind v_o1_rows v_o1_outer v_o1_inner v_o1_content)) (wr := [((b 0), .inr (4, [.int v_o1_kind, .int v_o1_rows, .ref (b 1), .ref (b 2), .ref (b 3)])), ((b 1), .inl (cI, 4, .inl v_o1_outer)), ((b 2), .inl (cI, 4, .inl v_o1_inner)), ((b 3), .inl (cI, 4, .inl v_o1_content))]) (cx_V (As := []) (rest := []) ⟨hx, hb, hml, hown, hts⟩ (ctX5_collect l z dC dI cI cB cE a 0 0 r_1 (va_cpy v_o1_inner v_inner 0 0 4) r_6.1 r_6.2.1 r_6.2.2.1 r_6.2.2.2 v_keys r_7 hr_7) (cwV 0 hts gX5_findAll_X5_collect rfl rfl rfl (by decide +kernel) ⟨Nat.le_of_ble_eq_true rfl, Nat.le_of_ble_eq_true rfl⟩) hK (hP.sub [0, 1, 2, 3, 4, 5, 6, 7, 8, 9, 10] rfl) (hD.sub [0, 1, 2, 3, 4, 5, 6, 7, 8, 9, 10] (by decide) rfl) hZ hS hA (ci := 5) (q0 := 0) rfl rfl rfl hl.1 rfl (Nat.le_of_ble_eq_true rfl) dX5_findAll_113) hP hD hS hA [0, 1, 2, 3, 4, 5, 6, 7, 8, 9, 10] [11, 12, 13, 14] rfl rfl (by decide) (by decide) [4, 5, 6, 7, 8, 9, 10, 11, 12, 13, 14, 0, 1, 2, 3] (by decide) rfl [] rfl (fun H locs hP hD hS => ?_)
            have hQ2 := hQ
            rw [← Option.some.inj hf] at hQ2
            exact cx_vret hQ2 hx hb hr hlocks hK hP hD hS dX5_findAll_116
          · rw [if_neg c_5] at hf
            refine lv_aload_n hx hb dX5_findAll_86 rfl (lv_at hl 0 rfl) ?_
            refine va_get (D := (dC, dI)) (ci := 5) (C := RX5) (T := TX5) (N := 9) hx hb hts (fun _ h => List.mem_cons_of_mem _ (List.mem_append_left _ (List.mem_append_right _ h))) hown hK hP 0 rfl rfl 6 (by decide) (hts (.fieldLink RX5 23 "SkewBoard$Products" "ends" "[[I") (List.mem_of_getElem? (i := 14) rfl)) (fun _ h9 => h9) rfl dX5_findAll_87 ?_
            refine lv_iload_n hx hb dX5_findAll_90 rfl (lv_at hl 1 rfl) ?_
            obtain ⟨g_8, hf⟩ := gd_some hf
            refine va_aldE (r := (r4 (a 5) (a 6) (a 7) (a 8) x2_81.toNatClampNeg)) hx hb hK hP 4 2 rfl rfl (inb_vp g_8) (if_pos (inb_lt g_8)) dX5_findAll_91 ?_
            refine lv_iconst (v := 0) hx hb dX5_findAll_92 (by decide) ?_
            refine lv_aload_n hx hb dX5_findAll_93 rfl (lv_at hl 0 rfl) ?_
            refine va_get (D := (dC, dI)) (ci := 5) (C := RX5) (T := TX5) (N := 9) hx hb hts (fun _ h => List.mem_cons_of_mem _ (List.mem_append_left _ (List.mem_append_right _ h))) hown hK hP 0 rfl rfl 3 (by decide) (hts (.fieldLink RX5 11 "SkewBoard$Products" "inner" "[I") (List.mem_of_getElem? (i := 13) rfl)) (fun _ h9 => h9) rfl dX5_findAll_94 ?_
            refine lv_iload_n hx hb dX5_findAll_97 rfl (lv_at hl 1 rfl) ?_
            refine va_iald hx hb hK hP 1 0 rfl rfl (inb_vp g_8) dX5_findAll_98 ?_
            refine va_iast hx hb hK hP hD hS (5 + x2_81.toNatClampNeg) 0 (x5_at2 g_8) rfl (inb_vp (show inb 0 5 = true by decide)) dX5_findAll_99 (fun H locs hP hD hS => ?_)
            rw [x5_set2 g_8] at hP hD
            have hP : va_P (dC, dI) vwCl (wX5 cI cB cE a 0 0 r_1 (va_cpy v_o1_inner v_inner 0 0 4) (fill_f v_used 5 0) (va_cpy v_o1_content v_left 0 1 4) (upd2 v_ends_81 x2_81.toNatClampNeg (0 : Int32).toNatClampNeg ((va_cpy v_o1_inner v_inner 0 0 4) x2_81.toNatClampNeg)) (fill_f v_fillingsOf 1000 0) v_keys ++ wX4 cI cB cE b v_o1_kind v_o1_rows v_o1_outer v_o1_inner v_o1_content) H := hP
            have hD : va_D A (wX5 cI cB cE a 0 0 r_1 (va_cpy v_o1_inner v_inner 0 0 4) (fill_f v_used 5 0) (va_cpy v_o1_content v_left 0 1 4) (upd2 v_ends_81 x2_81.toNatClampNeg (0 : Int32).toNatClampNeg ((va_cpy v_o1_inner v_inner 0 0 4) x2_81.toNatClampNeg)) (fill_f v_fillingsOf 1000 0) v_keys ++ wX4 cI cB cE b v_o1_kind v_o1_rows v_o1_outer v_o1_inner v_o1_content) := hD
            refine lv_iinc (v := (x2_81 + 1)) (lv' := [(2, .int (x2_81 + 1)), (0, .ref (a 0))]) hx hb dX5_findAll_100 hl (k := 1) rfl rfl (by decide) rfl (fun ls hl => ?_)
            refine lv_goto (tgt := 81) hx hb dX5_findAll_103 (by decide) ?_
            exact ih81 (x2_81 + 1) (upd2 v_ends_81 x2_81.toNatClampNeg (0 : Int32).toNatClampNeg ((va_cpy v_o1_inner v_inner 0 0 4) x2_81.toNatClampNeg)) hf _ _ hP hD hS ls (lv_sub hl [1, 0] rfl)
      exact L81 fu 0 v_ends hf _ _ hP hD hS ls (lv_sub hl [1, 0] rfl)
    · rw [if_neg c_4] at hf
      exact J34 () hf _ _ hP hD hS ls (lv_sub hl [] rfl)

def fX5_hasTerm_J17 (y0_17 : Int32) : Option (Int32) :=
    gd (isb y0_17) (some y0_17)
def fX5_hasTerm_J16 (k17 : Int32 → Option (Int32)) (u_16 : Unit) : Option (Int32) :=
    k17 0
def fX5_hasTerm (p1 : Int32) (v_size : Int32) : Option (Int32) :=
  if p1 < 0 then (fX5_hasTerm_J16 fX5_hasTerm_J17 ()) else (if v_size ≤ p1 then (fX5_hasTerm_J16 fX5_hasTerm_J17 ()) else (fX5_hasTerm_J17 1))
def rmX5_hasTerm : Room := { frames := 0, cells := 0, slots := 0, locals := 0 }
set_option maxRecDepth 100000 in
set_option maxHeartbeats 4000000 in
theorem ctX5_hasTerm (l : Launch) (z : Nat × Nat × Nat) (dC : Nat → ClassId) (dI : Nat → Nat → Nat) (cI cB cE : ClassId) (a : Nat → Nat) (v_size : Int32) (v_multiplicitySum : Int32) (v_boxes : Int32) (v_inner : Nat → Int32) (v_used : Nat → Int32) (v_left : Nat → Int32) (v_ends : Nat → Nat → Int32) (v_fillingsOf : Nat → Int32) (v_keys : Nat → Int32) (p1 : Int32) (fin : Int32) (hf : fX5_hasTerm p1 v_size = some fin) : Ct l z (dC, dI) (tyL cI cB cE) yX5_hasTerm wsX5_hasTerm rmX5_hasTerm [.ref (a 0), .int p1] (wX5 cI cB cE a v_size v_multiplicitySum v_boxes v_inner v_used v_left v_ends v_fillingsOf v_keys) (some (.int fin)) (wX5 cI cB cE a v_size v_multiplicitySum v_boxes v_inner v_used v_left v_ends v_fillingsOf v_keys) := by
  refine Met.ofC (cc := cX5_hasTerm) (maxL := 2) (ret := (some .boolean)) (by decide) rfl (Nat.le_of_ble_eq_true rfl) ?_
  intro p e s m args below meth c A Q ls hx hb hr hml hts hown hlocks hA hK hP hD hZ hS hQ hl
  have hown : s.vm.findClass RX5 = some m.cls := hown
  have hl : lv_has ls 2 [(0, .ref (a 0)), (1, .int p1)] := hl
  unfold fX5_hasTerm at hf
  refine lv_iload_n hx hb dX5_hasTerm_0 rfl (lv_at hl 1 rfl) ?_
  have J17 : ∀ (y0_17 : Int32), fX5_hasTerm_J17  y0_17 = some fin → ∀ (H : Heap) (locs : List Loc), va_P (dC, dI) vwCl (wX5 cI cB cE a v_size v_multiplicitySum v_boxes v_inner v_used v_left v_ends v_fillingsOf v_keys) H → va_D A (wX5 cI cB cE a v_size v_multiplicitySum v_boxes v_inner v_used v_left v_ends v_fillingsOf v_keys) → va_S A s.heap H locs → ∀ (ls : Array Slot), lv_has ls 2 [] → W p l e rmX5_hasTerm s m args below meth c H locs 0 0 Q (F0 m 17 ls [.int y0_17]) := by
    intro y0_17 hf H locs hP hD hS ls hl
    unfold fX5_hasTerm_J17 at hf
    obtain ⟨g_1, hf⟩ := gd_some hf
    have hQ2 := hQ
    rw [← Option.some.inj hf] at hQ2
    exact cx_zret (isb_nar g_1) hQ2 hx hb hr hlocks hK hP hD hS dX5_hasTerm_17
  have J16 : ∀ (u_16 : Unit), fX5_hasTerm_J16 (fX5_hasTerm_J17) u_16 = some fin → ∀ (H : Heap) (locs : List Loc), va_P (dC, dI) vwCl (wX5 cI cB cE a v_size v_multiplicitySum v_boxes v_inner v_used v_left v_ends v_fillingsOf v_keys) H → va_D A (wX5 cI cB cE a v_size v_multiplicitySum v_boxes v_inner v_used v_left v_ends v_fillingsOf v_keys) → va_S A s.heap H locs → ∀ (ls : Array Slot), lv_has ls 2 [] → W p l e rmX5_hasTerm s m args below meth c H locs 0 0 Q (F0 m 16 ls []) := by
    intro u_16 hf H locs hP hD hS ls hl
    unfold fX5_hasTerm_J16 at hf
    refine lv_iconst (v := 0) hx hb dX5_hasTerm_16 (by decide) ?_
    exact J17 0 hf _ _ hP hD hS ls (lv_sub hl [] rfl)
  refine lv_if_lt (tgt := 16) hx hb dX5_hasTerm_1 (by decide) (fun c_2 => ?_) (fun c_2 => ?_)
  · rw [if_pos c_2] at hf
    exact J16 () hf _ _ hP hD hS ls (lv_sub hl [] rfl)
  · rw [if_neg c_2] at hf
    refine lv_iload_n hx hb dX5_hasTerm_4 rfl (lv_at hl 1 rfl) ?_
    refine lv_aload_n hx hb dX5_hasTerm_5 rfl (lv_at hl 0 rfl) ?_
    refine va_get (D := (dC, dI)) (ci := 5) (C := RX5) (T := TX5) (N := 9) hx hb hts (fun _ h => List.mem_cons_of_mem _ (List.mem_append_right _ h)) hown hK hP 0 rfl rfl 0 (by decide) (hts (.fieldLink RX5 32 "SkewBoard$Products" "size" "I") (List.mem_of_getElem? (i := 1) rfl)) (fun _ h9 => h9) rfl dX5_hasTerm_6 ?_
    refine lv_icmp_ge (tgt := 16) hx hb dX5_hasTerm_9 (by decide) (fun c_3 => ?_) (fun c_3 => ?_)
    · rw [if_pos c_3] at hf
      exact J16 () hf _ _ hP hD hS ls (lv_sub hl [] rfl)
    · rw [if_neg c_3] at hf
      refine lv_iconst (v := 1) hx hb dX5_hasTerm_12 (by decide) ?_
      refine lv_goto (tgt := 17) hx hb dX5_hasTerm_13 (by decide) ?_
      exact J17 1 hf _ _ hP hD hS ls (lv_sub hl [] rfl)

def fX5_propertyOf (p1 : Int32) (p2 : Int32) (v_boxes : Int32) (v_inner : Nat → Int32) (v_fillingsOf : Nat → Int32) (v_keys : Nat → Int32) : Option (Int32) :=
  gd (inb p1 220) (if p2 = 0 then (some ((v_inner (0 : Int32).toNatClampNeg) + ((v_keys p1.toNatClampNeg) / 100))) else if p2 = 1 then (some ((v_inner (1 : Int32).toNatClampNeg) + (((v_keys p1.toNatClampNeg) / 10) - ((v_keys p1.toNatClampNeg) / 10) / 10 * 10))) else if p2 = 2 then (some ((v_inner (2 : Int32).toNatClampNeg) + ((v_keys p1.toNatClampNeg) - (v_keys p1.toNatClampNeg) / 10 * 10))) else if p2 = 3 then (some (((((v_inner (3 : Int32).toNatClampNeg) + v_boxes) - ((v_keys p1.toNatClampNeg) / 100)) - (((v_keys p1.toNatClampNeg) / 10) - ((v_keys p1.toNatClampNeg) / 10) / 10 * 10)) - ((v_keys p1.toNatClampNeg) - (v_keys p1.toNatClampNeg) / 10 * 10))) else (gd (inb (v_keys p1.toNatClampNeg) 1000) (some (v_fillingsOf (v_keys p1.toNatClampNeg).toNatClampNeg))))
def rmX5_propertyOf : Room := { frames := 0, cells := 0, slots := 0, locals := 0 }
set_option maxRecDepth 100000 in
set_option maxHeartbeats 4000000 in
theorem ctX5_propertyOf (l : Launch) (z : Nat × Nat × Nat) (dC : Nat → ClassId) (dI : Nat → Nat → Nat) (cI cB cE : ClassId) (a : Nat → Nat) (v_size : Int32) (v_multiplicitySum : Int32) (v_boxes : Int32) (v_inner : Nat → Int32) (v_used : Nat → Int32) (v_left : Nat → Int32) (v_ends : Nat → Nat → Int32) (v_fillingsOf : Nat → Int32) (v_keys : Nat → Int32) (p1 : Int32) (p2 : Int32) (fin : Int32) (hf : fX5_propertyOf p1 p2 v_boxes v_inner v_fillingsOf v_keys = some fin) : Ct l z (dC, dI) (tyL cI cB cE) yX5_propertyOf wsX5_propertyOf rmX5_propertyOf [.ref (a 0), .int p1, .int p2] (wX5 cI cB cE a v_size v_multiplicitySum v_boxes v_inner v_used v_left v_ends v_fillingsOf v_keys) (some (.int fin)) (wX5 cI cB cE a v_size v_multiplicitySum v_boxes v_inner v_used v_left v_ends v_fillingsOf v_keys) := by
  refine Met.ofC (cc := cX5_propertyOf) (maxL := 7) (ret := (some .int)) (by decide) rfl (Nat.le_of_ble_eq_true rfl) ?_
  intro p e s m args below meth c A Q ls hx hb hr hml hts hown hlocks hA hK hP hD hZ hS hQ hl
  have hown : s.vm.findClass RX5 = some m.cls := hown
  have hl : lv_has ls 7 [(0, .ref (a 0)), (1, .int p1), (2, .int p2)] := hl
  unfold fX5_propertyOf at hf
  refine lv_aload_n hx hb dX5_propertyOf_0 rfl (lv_at hl 0 rfl) ?_
  refine va_get (D := (dC, dI)) (ci := 5) (C := RX5) (T := TX5) (N := 9) hx hb hts (fun _ h => List.mem_cons_of_mem _ (List.mem_append_right _ h)) hown hK hP 0 rfl rfl 8 (by decide) (hts (.fieldLink RX5 29 "SkewBoard$Products" "keys" "[I") (List.mem_of_getElem? (i := 1) rfl)) (fun _ h9 => h9) rfl dX5_propertyOf_1 ?_
  refine lv_iload_n hx hb dX5_propertyOf_4 rfl (lv_at hl 1 rfl) ?_
  obtain ⟨g_1, hf⟩ := gd_some hf
  refine va_iald hx hb hK hP 10 0 rfl rfl (inb_vp g_1) dX5_propertyOf_5 ?_
  refine lv_istore_n (lv' := [(3, .int (v_keys p1.toNatClampNeg)), (0, .ref (a 0)), (1, .int p1), (2, .int p2)]) hx hb dX5_propertyOf_6 rfl hl (by decide) rfl (fun ls hl => ?_)
  refine lv_iload_n hx hb dX5_propertyOf_7 rfl (lv_at hl 0 rfl) ?_
  refine lv_bipush (v := 100) hx hb dX5_propertyOf_8 (by decide) ?_
  refine lv_idiv hx hb dX5_propertyOf_10 (by decide) ?_
  refine lv_istore (lv' := [(4, .int ((v_keys p1.toNatClampNeg) / 100)), (3, .int (v_keys p1.toNatClampNeg)), (0, .ref (a 0)), (1, .int p1), (2, .int p2)]) hx hb dX5_propertyOf_11 hl (by decide) rfl (fun ls hl => ?_)
  refine lv_iload_n hx hb dX5_propertyOf_13 rfl (lv_at hl 1 rfl) ?_
  refine lv_bipush (v := 10) hx hb dX5_propertyOf_14 (by decide) ?_
  refine lv_idiv hx hb dX5_propertyOf_16 (by decide) ?_
  refine lv_bipush (v := 10) hx hb dX5_propertyOf_17 (by decide) ?_
  refine lv_irem hx hb dX5_propertyOf_19 (by decide) ?_
  refine lv_istore (lv' := [(5, .int (((v_keys p1.toNatClampNeg) / 10) - ((v_keys p1.toNatClampNeg) / 10) / 10 * 10)), (4, .int ((v_keys p1.toNatClampNeg) / 100)), (3, .int (v_keys p1.toNatClampNeg)), (0, .ref (a 0)), (1, .int p1), (2, .int p2)]) hx hb dX5_propertyOf_20 hl (by decide) rfl (fun ls hl => ?_)
  refine lv_iload_n hx hb dX5_propertyOf_22 rfl (lv_at hl 2 rfl) ?_
  refine lv_bipush (v := 10) hx hb dX5_propertyOf_23 (by decide) ?_
  refine lv_irem hx hb dX5_propertyOf_25 (by decide) ?_
  refine lv_istore (lv' := [(6, .int ((v_keys p1.toNatClampNeg) - (v_keys p1.toNatClampNeg) / 10 * 10)), (5, .int (((v_keys p1.toNatClampNeg) / 10) - ((v_keys p1.toNatClampNeg) / 10) / 10 * 10)), (4, .int ((v_keys p1.toNatClampNeg) / 100)), (3, .int (v_keys p1.toNatClampNeg)), (0, .ref (a 0)), (1, .int p1), (2, .int p2)]) hx hb dX5_propertyOf_26 hl (by decide) rfl (fun ls hl => ?_)
  refine lv_iload_n hx hb dX5_propertyOf_28 rfl (lv_at hl 6 rfl) ?_
  by_cases c_2 : p2 = 0
  · rw [if_pos c_2] at hf
    refine lv_tableIn (off := 31) (tgt := 60) hx hb dX5_propertyOf_29 (by rw [c_2]; decide) (by rw [c_2]; decide) (by rw [c_2]; rfl) (by decide) ?_
    refine lv_aload_n hx hb dX5_propertyOf_60 rfl (lv_at hl 4 rfl) ?_
    refine va_get (D := (dC, dI)) (ci := 5) (C := RX5) (T := TX5) (N := 9) hx hb hts (fun _ h => List.mem_cons_of_mem _ (List.mem_append_right _ h)) hown hK hP 0 rfl rfl 3 (by decide) (hts (.fieldLink RX5 11 "SkewBoard$Products" "inner" "[I") (List.mem_of_getElem? (i := 2) rfl)) (fun _ h9 => h9) rfl dX5_propertyOf_61 ?_
    refine lv_iconst (v := 0) hx hb dX5_propertyOf_64 (by decide) ?_
    refine va_iald hx hb hK hP 1 0 rfl rfl (inb_vp (show inb 0 4 = true by decide)) dX5_propertyOf_65 ?_
    refine lv_iload hx hb dX5_propertyOf_66 (lv_at hl 2 rfl) ?_
    refine lv_iadd hx hb dX5_propertyOf_68 ?_
    have hQ2 := hQ
    rw [← Option.some.inj hf] at hQ2
    exact cx_iret hQ2 hx hb hr hlocks hK hP hD hS dX5_propertyOf_69
  · rw [if_neg c_2] at hf
    by_cases c_3 : p2 = 1
    · rw [if_pos c_3] at hf
      refine lv_tableIn (off := 41) (tgt := 70) hx hb dX5_propertyOf_29 (by rw [c_3]; decide) (by rw [c_3]; decide) (by rw [c_3]; rfl) (by decide) ?_
      refine lv_aload_n hx hb dX5_propertyOf_70 rfl (lv_at hl 4 rfl) ?_
      refine va_get (D := (dC, dI)) (ci := 5) (C := RX5) (T := TX5) (N := 9) hx hb hts (fun _ h => List.mem_cons_of_mem _ (List.mem_append_right _ h)) hown hK hP 0 rfl rfl 3 (by decide) (hts (.fieldLink RX5 11 "SkewBoard$Products" "inner" "[I") (List.mem_of_getElem? (i := 2) rfl)) (fun _ h9 => h9) rfl dX5_propertyOf_71 ?_
      refine lv_iconst (v := 1) hx hb dX5_propertyOf_74 (by decide) ?_
      refine va_iald hx hb hK hP 1 0 rfl rfl (inb_vp (show inb 1 4 = true by decide)) dX5_propertyOf_75 ?_
      refine lv_iload hx hb dX5_propertyOf_76 (lv_at hl 1 rfl) ?_
      refine lv_iadd hx hb dX5_propertyOf_78 ?_
      have hQ2 := hQ
      rw [← Option.some.inj hf] at hQ2
      exact cx_iret hQ2 hx hb hr hlocks hK hP hD hS dX5_propertyOf_79
    · rw [if_neg c_3] at hf
      by_cases c_4 : p2 = 2
      · rw [if_pos c_4] at hf
        refine lv_tableIn (off := 51) (tgt := 80) hx hb dX5_propertyOf_29 (by rw [c_4]; decide) (by rw [c_4]; decide) (by rw [c_4]; rfl) (by decide) ?_
        refine lv_aload_n hx hb dX5_propertyOf_80 rfl (lv_at hl 4 rfl) ?_
        refine va_get (D := (dC, dI)) (ci := 5) (C := RX5) (T := TX5) (N := 9) hx hb hts (fun _ h => List.mem_cons_of_mem _ (List.mem_append_right _ h)) hown hK hP 0 rfl rfl 3 (by decide) (hts (.fieldLink RX5 11 "SkewBoard$Products" "inner" "[I") (List.mem_of_getElem? (i := 2) rfl)) (fun _ h9 => h9) rfl dX5_propertyOf_81 ?_
        refine lv_iconst (v := 2) hx hb dX5_propertyOf_84 (by decide) ?_
        refine va_iald hx hb hK hP 1 0 rfl rfl (inb_vp (show inb 2 4 = true by decide)) dX5_propertyOf_85 ?_
        refine lv_iload hx hb dX5_propertyOf_86 (lv_at hl 0 rfl) ?_
        refine lv_iadd hx hb dX5_propertyOf_88 ?_
        have hQ2 := hQ
        rw [← Option.some.inj hf] at hQ2
        exact cx_iret hQ2 hx hb hr hlocks hK hP hD hS dX5_propertyOf_89
      · rw [if_neg c_4] at hf
        by_cases c_5 : p2 = 3
        · rw [if_pos c_5] at hf
          refine lv_tableIn (off := 61) (tgt := 90) hx hb dX5_propertyOf_29 (by rw [c_5]; decide) (by rw [c_5]; decide) (by rw [c_5]; rfl) (by decide) ?_
          refine lv_aload_n hx hb dX5_propertyOf_90 rfl (lv_at hl 4 rfl) ?_
          refine va_get (D := (dC, dI)) (ci := 5) (C := RX5) (T := TX5) (N := 9) hx hb hts (fun _ h => List.mem_cons_of_mem _ (List.mem_append_right _ h)) hown hK hP 0 rfl rfl 3 (by decide) (hts (.fieldLink RX5 11 "SkewBoard$Products" "inner" "[I") (List.mem_of_getElem? (i := 2) rfl)) (fun _ h9 => h9) rfl dX5_propertyOf_91 ?_
          refine lv_iconst (v := 3) hx hb dX5_propertyOf_94 (by decide) ?_
          refine va_iald hx hb hK hP 1 0 rfl rfl (inb_vp (show inb 3 4 = true by decide)) dX5_propertyOf_95 ?_
          refine lv_aload_n hx hb dX5_propertyOf_96 rfl (lv_at hl 4 rfl) ?_
          refine va_get (D := (dC, dI)) (ci := 5) (C := RX5) (T := TX5) (N := 9) hx hb hts (fun _ h => List.mem_cons_of_mem _ (List.mem_append_right _ h)) hown hK hP 0 rfl rfl 2 (by decide) (hts (.fieldLink RX5 45 "SkewBoard$Products" "boxes" "I") (List.mem_of_getElem? (i := 3) rfl)) (fun _ h9 => h9) rfl dX5_propertyOf_97 ?_
          refine lv_iadd hx hb dX5_propertyOf_100 ?_
          refine lv_iload hx hb dX5_propertyOf_101 (lv_at hl 2 rfl) ?_
          refine lv_isub hx hb dX5_propertyOf_103 ?_
          refine lv_iload hx hb dX5_propertyOf_104 (lv_at hl 1 rfl) ?_
          refine lv_isub hx hb dX5_propertyOf_106 ?_
          refine lv_iload hx hb dX5_propertyOf_107 (lv_at hl 0 rfl) ?_
          refine lv_isub hx hb dX5_propertyOf_109 ?_
          have hQ2 := hQ
          rw [← Option.some.inj hf] at hQ2
          exact cx_iret hQ2 hx hb hr hlocks hK hP hD hS dX5_propertyOf_110
        · rw [if_neg c_5] at hf
          have tc_2 : ¬ (p2).toInt = 0 := fun h => c_2 (Int32.toInt_inj.mp h)
          have tc_3 : ¬ (p2).toInt = 1 := fun h => c_3 (Int32.toInt_inj.mp h)
          have tc_4 : ¬ (p2).toInt = 2 := fun h => c_4 (Int32.toInt_inj.mp h)
          have tc_5 : ¬ (p2).toInt = 3 := fun h => c_5 (Int32.toInt_inj.mp h)
          refine lv_tableOut (tgt := 111) hx hb dX5_propertyOf_29 (by omega) (by decide) ?_
          refine lv_aload_n hx hb dX5_propertyOf_111 rfl (lv_at hl 4 rfl) ?_
          refine va_get (D := (dC, dI)) (ci := 5) (C := RX5) (T := TX5) (N := 9) hx hb hts (fun _ h => List.mem_cons_of_mem _ (List.mem_append_right _ h)) hown hK hP 0 rfl rfl 7 (by decide) (hts (.fieldLink RX5 26 "SkewBoard$Products" "fillingsOf" "[I") (List.mem_of_getElem? (i := 4) rfl)) (fun _ h9 => h9) rfl dX5_propertyOf_112 ?_
          refine lv_iload_n hx hb dX5_propertyOf_115 rfl (lv_at hl 3 rfl) ?_
          obtain ⟨g_6, hf⟩ := gd_some hf
          refine va_iald hx hb hK hP 9 0 rfl rfl (inb_vp g_6) dX5_propertyOf_116 ?_
          have hQ2 := hQ
          rw [← Option.some.inj hf] at hQ2
          exact cx_iret hQ2 hx hb hr hlocks hK hP hD hS dX5_propertyOf_117

