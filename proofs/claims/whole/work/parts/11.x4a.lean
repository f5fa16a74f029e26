def fX4_isMissing_J12 (y0_12 : Int32) : Option (Int32) :=
    gd (isb y0_12) (some y0_12)
def fX4_isMissing (v_rows : Int32) : Option (Int32) :=
  fX4_isMissing_J12 (if v_rows = 0 then 1 else 0)
def rmX4_isMissing : Room := { frames := 0, cells := 0, slots := 0, locals := 0 }
set_option maxRecDepth 100000 in
set_option maxHeartbeats 4000000 in
theorem ctX4_isMissing (l : Launch) (z : Nat × Nat × Nat) (dC : Nat → ClassId) (dI : Nat → Nat → Nat) (cI cB cE : ClassId) (a : Nat → Nat) (v_kind : Int32) (v_rows : Int32) (v_outer : Nat → Int32) (v_inner : Nat → Int32) (v_content : Nat → Int32) (fin : Int32) (hf : fX4_isMissing v_rows = some fin) : Ct l z (dC, dI) (tyL cI cB cE) yX4_isMissing wsX4_isMissing rmX4_isMissing [.ref (a 0)] (wX4 cI cB cE a v_kind v_rows v_outer v_inner v_content) (some (.int fin)) (wX4 cI cB cE a v_kind v_rows v_outer v_inner v_content) := by
  refine Met.ofC (cc := cX4_isMissing) (maxL := 1) (ret := (some .boolean)) (by decide) rfl (Nat.le_of_ble_eq_true rfl) ?_
  intro p e s m args below meth c A Q ls hx hb hr hml hts hown hlocks hA hK hP hD hZ hS hQ hl
  have hown : s.vm.findClass RX4 = some m.cls := hown
  have hl : lv_has ls 1 [(0, .ref (a 0))] := hl
  unfold fX4_isMissing at hf
  refine lv_aload_n hx hb dX4_isMissing_0 rfl (lv_at hl 0 rfl) ?_
  refine va_get (D := (dC, dI)) (ci := 4) (C := RX4) (T := TX4) (N := 5) hx hb hts (fun _ h => List.mem_cons_of_mem _ (List.mem_append_right _ h)) hown hK hP 0 rfl rfl 1 (by decide) (hts (.fieldLink RX4 21 "SkewBoard$Plan" "rows" "I") (List.mem_of_getElem? (i := 1) rfl)) (fun _ h9 => h9) rfl dX4_isMissing_1 ?_
  have J12 : ∀ (y0_12 : Int32), fX4_isMissing_J12  y0_12 = some fin → ∀ (H : Heap) (locs : List Loc), va_P (dC, dI) vwCl (wX4 cI cB cE a v_kind v_rows v_outer v_inner v_content) H → va_D A (wX4 cI cB cE a v_kind v_rows v_outer v_inner v_content) → va_S A s.heap H locs → ∀ (ls : Array Slot), lv_has ls 1 [] → W p l e rmX4_isMissing s m args below meth c H locs 0 0 Q (F0 m 12 ls [.int y0_12]) := by
    intro y0_12 hf H locs hP hD hS ls hl
    unfold fX4_isMissing_J12 at hf
    obtain ⟨g_1, hf⟩ := gd_some hf
    have hQ2 := hQ
    rw [← Option.some.inj hf] at hQ2
    exact cx_zret (isb_nar g_1) hQ2 hx hb hr hlocks hK hP hD hS dX4_isMissing_12
  refine lv_if_ne (tgt := 11) hx hb dX4_isMissing_4 (by decide) (fun c_2 => ?_) (fun c_2 => ?_)
  · rw [if_neg c_2] at hf
    refine lv_iconst (v := 0) hx hb dX4_isMissing_11 (by decide) ?_
    exact J12 0 hf _ _ hP hD hS ls (lv_sub hl [] rfl)
  · rw [if_pos c_2] at hf
    refine lv_iconst (v := 1) hx hb dX4_isMissing_7 (by decide) ?_
    refine lv_goto (tgt := 12) hx hb dX4_isMissing_8 (by decide) ?_
    exact J12 1 hf _ _ hP hD hS ls (lv_sub hl [] rfl)

def fX4_hasRow_J17 (y0_17 : Int32) : Option (Int32) :=
    gd (isb y0_17) (some y0_17)
def fX4_hasRow_J16 (k17 : Int32 → Option (Int32)) (u_16 : Unit) : Option (Int32) :=
    k17 0
def fX4_hasRow (p1 : Int32) (v_rows : Int32) : Option (Int32) :=
  if p1 < 0 then (fX4_hasRow_J16 fX4_hasRow_J17 ()) else (if v_rows ≤ p1 then (fX4_hasRow_J16 fX4_hasRow_J17 ()) else (fX4_hasRow_J17 1))
def rmX4_hasRow : Room := { frames := 0, cells := 0, slots := 0, locals := 0 }
set_option maxRecDepth 100000 in
set_option maxHeartbeats 4000000 in
theorem ctX4_hasRow (l : Launch) (z : Nat × Nat × Nat) (dC : Nat → ClassId) (dI : Nat → Nat → Nat) (cI cB cE : ClassId) (a : Nat → Nat) (v_kind : Int32) (v_rows : Int32) (v_outer : Nat → Int32) (v_inner : Nat → Int32) (v_content : Nat → Int32) (p1 : Int32) (fin : Int32) (hf : fX4_hasRow p1 v_rows = some fin) : Ct l z (dC, dI) (tyL cI cB cE) yX4_hasRow wsX4_hasRow rmX4_hasRow [.ref (a 0), .int p1] (wX4 cI cB cE a v_kind v_rows v_outer v_inner v_content) (some (.int fin)) (wX4 cI cB cE a v_kind v_rows v_outer v_inner v_content) := by
  refine Met.ofC (cc := cX4_hasRow) (maxL := 2) (ret := (some .boolean)) (by decide) rfl (Nat.le_of_ble_eq_true rfl) ?_
  intro p e s m args below meth c A Q ls hx hb hr hml hts hown hlocks hA hK hP hD hZ hS hQ hl
  have hown : s.vm.findClass RX4 = some m.cls := hown
  have hl : lv_has ls 2 [(0, .ref (a 0)), (1, .int p1)] := hl
  unfold fX4_hasRow at hf
  refine lv_iload_n hx hb dX4_hasRow_0 rfl (lv_at hl 1 rfl) ?_
  have J17 : ∀ (y0_17 : Int32), fX4_hasRow_J17  y0_17 = some fin → ∀ (H : Heap) (locs : List Loc), va_P (dC, dI) vwCl (wX4 cI cB cE a v_kind v_rows v_outer v_inner v_content) H → va_D A (wX4 cI cB cE a v_kind v_rows v_outer v_inner v_content) → va_S A s.heap H locs → ∀ (ls : Array Slot), lv_has ls 2 [] → W p l e rmX4_hasRow s m args below meth c H locs 0 0 Q (F0 m 17 ls [.int y0_17]) := by
    intro y0_17 hf H locs hP hD hS ls hl
    unfold fX4_hasRow_J17 at hf
    obtain ⟨g_1, hf⟩ := gd_some hf
    have hQ2 := hQ
    rw [← Option.some.inj hf] at hQ2
    exact cx_zret (isb_nar g_1) hQ2 hx hb hr hlocks hK hP hD hS dX4_hasRow_17
  have J16 : ∀ (u_16 : Unit), fX4_hasRow_J16 (fX4_hasRow_J17) u_16 = some fin → ∀ (H : Heap) (locs : List Loc), va_P (dC, dI) vwCl (wX4 cI cB cE a v_kind v_rows v_outer v_inner v_content) H → va_D A (wX4 cI cB cE a v_kind v_rows v_outer v_inner v_content) → va_S A s.heap H locs → ∀ (ls : Array Slot), lv_has ls 2 [] → W p l e rmX4_hasRow s m args below meth c H locs 0 0 Q (F0 m 16 ls []) := by
    intro u_16 hf H locs hP hD hS ls hl
    unfold fX4_hasRow_J16 at hf
    refine lv_iconst (v := 0) hx hb dX4_hasRow_16 (by decide) ?_
    exact J17 0 hf _ _ hP hD hS ls (lv_sub hl [] rfl)
  refine lv_if_lt (tgt := 16) hx hb dX4_hasRow_1 (by decide) (fun c_2 => ?_) (fun c_2 => ?_)
  · rw [if_pos c_2] at hf
    exact J16 () hf _ _ hP hD hS ls (lv_sub hl [] rfl)
  · rw [if_neg c_2] at hf
    refine lv_iload_n hx hb dX4_hasRow_4 rfl (lv_at hl 1 rfl) ?_
    refine lv_aload_n hx hb dX4_hasRow_5 rfl (lv_at hl 0 rfl) ?_
    refine va_get (D := (dC, dI)) (ci := 4) (C := RX4) (T := TX4) (N := 5) hx hb hts (fun _ h => List.mem_cons_of_mem _ (List.mem_append_right _ h)) hown hK hP 0 rfl rfl 1 (by decide) (hts (.fieldLink RX4 21 "SkewBoard$Plan" "rows" "I") (List.mem_of_getElem? (i := 1) rfl)) (fun _ h9 => h9) rfl dX4_hasRow_6 ?_
    refine lv_icmp_ge (tgt := 16) hx hb dX4_hasRow_9 (by decide) (fun c_3 => ?_) (fun c_3 => ?_)
    · rw [if_pos c_3] at hf
      exact J16 () hf _ _ hP hD hS ls (lv_sub hl [] rfl)
    · rw [if_neg c_3] at hf
      refine lv_iconst (v := 1) hx hb dX4_hasRow_12 (by decide) ?_
      refine lv_goto (tgt := 17) hx hb dX4_hasRow_13 (by decide) ?_
      exact J17 1 hf _ _ hP hD hS ls (lv_sub hl [] rfl)

def fX4_clear (v_outer : Nat → Int32) (v_inner : Nat → Int32) (v_content : Nat → Int32) : Option (Int32 × Int32 × (Nat → Int32) × (Nat → Int32) × (Nat → Int32)) :=
  some (0, 0, (fill_f v_outer 4 0), (fill_f v_inner 4 0), (fill_f v_content 4 0))
def rmX4_clear : Room := { frames := 2, cells := 0, slots := 0, locals := 100 }
set_option maxRecDepth 100000 in
set_option maxHeartbeats 4000000 in
theorem ctX4_clear (l : Launch) (z : Nat × Nat × Nat) (dC : Nat → ClassId) (dI : Nat → Nat → Nat) (cI cB cE : ClassId) (a : Nat → Nat) (v_kind : Int32) (v_rows : Int32) (v_outer : Nat → Int32) (v_inner : Nat → Int32) (v_content : Nat → Int32) (fin : Int32 × Int32 × (Nat → Int32) × (Nat → Int32) × (Nat → Int32)) (hf : fX4_clear v_outer v_inner v_content = some fin) : Ct l z (dC, dI) (tyL cI cB cE) yX4_clear wsX4_clear rmX4_clear [.ref (a 0)] (wX4 cI cB cE a v_kind v_rows v_outer v_inner v_content) none (wX4 cI cB cE a fin.1 fin.2.1 fin.2.2.1 fin.2.2.2.1 fin.2.2.2.2) := by
  refine Met.ofC (cc := cX4_clear) (maxL := 1) (ret := none) (by decide) rfl (Nat.le_of_ble_eq_true rfl) ?_
  intro p e s m args below meth c A Q ls hx hb hr hml hts hown hlocks hA hK hP hD hZ hS hQ hl
  have hown : s.vm.findClass RX4 = some m.cls := hown
  have hl : lv_has ls 1 [(0, .ref (a 0))] := hl
  unfold fX4_clear at hf
  refine lv_aload_n hx hb dX4_clear_0 rfl (lv_at hl 0 rfl) ?_
  refine lv_iconst (v := 0) hx hb dX4_clear_1 (by decide) ?_
  refine va_put (D := (dC, dI)) (ci := 4) (v := .int 0) (ty := .int) (C := RX4) (T := TX4) (N := 5) hx hb hts (fun _ h => List.mem_cons_of_mem _ (List.mem_append_right _ h)) tyX4 tyX4_ok nmX4 hown hK hP hD hS 0 rfl rfl 0 (by decide) (hts (.fieldLink RX4 25 "SkewBoard$Plan" "kind" "I") (List.mem_of_getElem? (i := 1) rfl)) (fun _ h9 => h9) rfl (by decide +kernel) rfl rfl (Nat.le_of_ble_eq_true rfl) dX4_clear_2 (fun H locs hP hD hS => ?_)
  have hP : va_P (dC, dI) vwCl (wX4 cI cB cE a 0 v_rows v_outer v_inner v_content) H := hP
  have hD : va_D A (wX4 cI cB cE a 0 v_rows v_outer v_inner v_content) := hD
  refine lv_aload_n hx hb dX4_clear_5 rfl (lv_at hl 0 rfl) ?_
  refine lv_iconst (v := 0) hx hb dX4_clear_6 (by decide) ?_
  refine va_put (D := (dC, dI)) (ci := 4) (v := .int 0) (ty := .int) (C := RX4) (T := TX4) (N := 5) hx hb hts (fun _ h => List.mem_cons_of_mem _ (List.mem_append_right _ h)) tyX4 tyX4_ok nmX4 hown hK hP hD hS 0 rfl rfl 1 (by decide) (hts (.fieldLink RX4 21 "SkewBoard$Plan" "rows" "I") (List.mem_of_getElem? (i := 2) rfl)) (fun _ h9 => h9) rfl (by decide +kernel) rfl rfl (Nat.le_of_ble_eq_true rfl) dX4_clear_7 (fun H locs hP hD hS => ?_)
  have hP : va_P (dC, dI) vwCl (wX4 cI cB cE a 0 0 v_outer v_inner v_content) H := hP
  have hD : va_D A (wX4 cI cB cE a 0 0 v_outer v_inner v_content) := hD
  refine lv_aload_n hx hb dX4_clear_10 rfl (lv_at hl 0 rfl) ?_
  refine va_get (D := (dC, dI)) (ci := 4) (C := RX4) (T := TX4) (N := 5) hx hb hts (fun _ h => List.mem_cons_of_mem _ (List.mem_append_right _ h)) hown hK hP 0 rfl rfl 2 (by decide) (hts (.fieldLink RX4 9 "SkewBoard$Plan" "outer" "[I") (List.mem_of_getElem? (i := 3) rfl)) (fun _ h9 => h9) rfl dX4_clear_11 ?_
  refine lv_iconst (v := 0) hx hb dX4_clear_14 (by decide) ?_
  refine cx_run (ws' := (wX4 cI cB cE a 0 0 (fill_f v_outer 4 0) v_inner v_content)) (wr := [((a 0), .inr (4, [.int 0, .int 0, .ref (a 1), .ref (a 2), .ref (a 3)])), ((a 2), .inl (cI, 4, .inl v_inner)), ((a 3), .inl (cI, 4, .inl v_content))]) (cx_S (As := [.ref (a 1), .int 0]) (rest := []) ⟨hx, hb, hml, hown, hts⟩ (ctJ7_fill_53178 l z dC dI cI cB cE (a 1) 4 (by decide) v_outer 0) (va_cwS 2 hts gX4_clear_J7_fill_53178 rfl rfl rfl (by decide +kernel) ⟨Nat.le_of_ble_eq_true rfl, Nat.le_of_ble_eq_true rfl⟩) hK (hP.sub (ws' := [((a 1), .inl (cI, 4, .inl v_outer))]) [1] rfl) (hD.sub (ws' := [((a 1), .inl (cI, 4, .inl v_outer))]) [1] (by decide) rfl) hZ hS hA rfl hl.1 rfl (Nat.le_of_ble_eq_true rfl) dX4_clear_15) hP hD hS hA [1] [0, 2, 3] rfl rfl (by decide) (by decide) [0, 3, 1, 2] (by decide) rfl [] rfl (fun H locs hP hD hS => ?_)
  refine lv_aload_n hx hb dX4_clear_18 rfl (lv_at hl 0 rfl) ?_
  refine va_get (D := (dC, dI)) (ci := 4) (C := RX4) (T := TX4) (N := 5) hx hb hts (fun _ h => List.mem_cons_of_mem _ (List.mem_append_right _ h)) hown hK hP 0 rfl rfl 3 (by decide) (hts (.fieldLink RX4 15 "SkewBoard$Plan" "inner" "[I") (List.mem_of_getElem? (i := 4) rfl)) (fun _ h9 => h9) rfl dX4_clear_19 ?_
  refine lv_iconst (v := 0) hx hb dX4_clear_22 (by decide) ?_
  refine cx_run (ws' := (wX4 cI cB cE a 0 0 (fill_f v_outer 4 0) (fill_f v_inner 4 0) v_content)) (wr := [((a 0), .inr (4, [.int 0, .int 0, .ref (a 1), .ref (a 2), .ref (a 3)])), ((a 1), .inl (cI, 4, .inl (fill_f v_outer 4 0))), ((a 3), .inl (cI, 4, .inl v_content))]) (cx_S (As := [.ref (a 2), .int 0]) (rest := []) ⟨hx, hb, hml, hown, hts⟩ (ctJ7_fill_53178 l z dC dI cI cB cE (a 2) 4 (by decide) v_inner 0) (va_cwS 2 hts gX4_clear_J7_fill_53178 rfl rfl rfl (by decide +kernel) ⟨Nat.le_of_ble_eq_true rfl, Nat.le_of_ble_eq_true rfl⟩) hK (hP.sub (ws' := [((a 2), .inl (cI, 4, .inl v_inner))]) [2] rfl) (hD.sub (ws' := [((a 2), .inl (cI, 4, .inl v_inner))]) [2] (by decide) rfl) hZ hS hA rfl hl.1 rfl (Nat.le_of_ble_eq_true rfl) dX4_clear_23) hP hD hS hA [2] [0, 1, 3] rfl rfl (by decide) (by decide) [0, 1, 3, 2] (by decide) rfl [] rfl (fun H locs hP hD hS => ?_)
  refine lv_aload_n hx hb dX4_clear_26 rfl (lv_at hl 0 rfl) ?_
  refine va_get (D := (dC, dI)) (ci := 4) (C := RX4) (T := TX4) (N := 5) hx hb hts (fun _ h => List.mem_cons_of_mem _ (List.mem_append_right _ h)) hown hK hP 0 rfl rfl 4 (by decide) (hts (.fieldLink RX4 18 "SkewBoard$Plan" "content" "[I") (List.mem_of_getElem? (i := 5) rfl)) (fun _ h9 => h9) rfl dX4_clear_27 ?_
  refine lv_iconst (v := 0) hx hb dX4_clear_30 (by decide) ?_
  refine cx_run (ws' := (wX4 cI cB cE a 0 0 (fill_f v_outer 4 0) (fill_f v_inner 4 0) (fill_f v_content 4 0))) (wr := [((a 0), .inr (4, [.int 0, .int 0, .ref (a 1), .ref (a 2), .ref (a 3)])), ((a 1), .inl (cI, 4, .inl (fill_f v_outer 4 0))), ((a 2), .inl (cI, 4, .inl (fill_f v_inner 4 0)))]) (cx_S (As := [.ref (a 3), .int 0]) (rest := []) ⟨hx, hb, hml, hown, hts⟩ (ctJ7_fill_53178 l z dC dI cI cB cE (a 3) 4 (by decide) v_content 0) (va_cwS 2 hts gX4_clear_J7_fill_53178 rfl rfl rfl (by decide +kernel) ⟨Nat.le_of_ble_eq_true rfl, Nat.le_of_ble_eq_true rfl⟩) hK (hP.sub (ws' := [((a 3), .inl (cI, 4, .inl v_content))]) [3] rfl) (hD.sub (ws' := [((a 3), .inl (cI, 4, .inl v_content))]) [3] (by decide) rfl) hZ hS hA rfl hl.1 rfl (Nat.le_of_ble_eq_true rfl) dX4_clear_31) hP hD hS hA [3] [0, 1, 2] rfl rfl (by decide) (by decide) [0, 1, 2, 3] (by decide) rfl [] rfl (fun H locs hP hD hS => ?_)
  have hQ2 := hQ
  rw [← Option.some.inj hf] at hQ2
  exact cx_vret hQ2 hx hb hr hlocks hK hP hD hS dX4_clear_34

def fX4_takeOver (v_outer : Nat → Int32) (v_inner : Nat → Int32) (v_content : Nat → Int32) (v_o1_kind : Int32) (v_o1_rows : Int32) (v_o1_outer : Nat → Int32) (v_o1_inner : Nat → Int32) (v_o1_content : Nat → Int32) : Option (Int32 × Int32 × (Nat → Int32) × (Nat → Int32) × (Nat → Int32)) :=
  some (v_o1_kind, v_o1_rows, (va_cpy v_o1_outer v_outer 0 0 4), (va_cpy v_o1_inner v_inner 0 0 4), (va_cpy v_o1_content v_content 0 0 4))
def rmX4_takeOver : Room := { frames := 2, cells := 0, slots := 0, locals := 100 }
set_option maxRecDepth 100000 in
set_option maxHeartbeats 4000000 in
theorem ctX4_takeOver (l : Launch) (z : Nat × Nat × Nat) (dC : Nat → ClassId) (dI : Nat → Nat → Nat) (cI cB cE : ClassId) (a b : Nat → Nat) (v_kind : Int32) (v_rows : Int32) (v_outer : Nat → Int32) (v_inner : Nat → Int32) (v_content : Nat → Int32) (v_o1_kind : Int32) (v_o1_rows : Int32) (v_o1_outer : Nat → Int32) (v_o1_inner : Nat → Int32) (v_o1_content : Nat → Int32) (fin : Int32 × Int32 × (Nat → Int32) × (Nat → Int32) × (Nat → Int32)) (hf : fX4_takeOver v_outer v_inner v_content v_o1_kind v_o1_rows v_o1_outer v_o1_inner v_o1_content = some fin) : Ct l z (dC, dI) (tyL cI cB cE) yX4_takeOver wsX4_takeOver rmX4_takeOver [.ref (a 0), .ref (b 0)] (wX4 cI cB cE a v_kind v_rows v_outer v_inner v_content ++ wX4 cI cB cE b v_o1_kind v_o1_rows v_o1_outer v_o1_inner v_o1_content) none (wX4 cI cB cE a fin.1 fin.2.1 fin.2.2.1 fin.2.2.2.1 fin.2.2.2.2 ++ wX4 cI cB cE b v_o1_kind v_o1_rows v_o1_outer v_o1_inner v_o1_content) := by
  refine Met.ofC (cc := cX4_takeOver) (maxL := 2) (ret := none) (by decide) rfl (Nat.le_of_ble_eq_true rfl) ?_
  intro p e s m args below meth c A Q ls hx hb hr hml hts hown hlocks hA hK hP hD hZ hS hQ hl
  have hown : s.vm.findClass RX4 = some m.cls := hown
  have hl : lv_has ls 2 [(0, .ref (a 0)), (1, .ref (b 0))] := hl
  unfold fX4_takeOver at hf
  refine lv_aload_n hx hb dX4_takeOver_0 rfl (lv_at hl 0 rfl) ?_
  refine lv_aload_n hx hb dX4_takeOver_1 rfl (lv_at hl 1 rfl) ?_
  refine va_get (D := (dC, dI)) (ci := 4) (C := RX4) (T := TX4) (N := 5) hx hb hts (fun _ h => List.mem_cons_of_mem _ (List.mem_append_right _ h)) hown hK hP 4 rfl rfl 0 (by decide) (hts (.fieldLink RX4 25 "SkewBoard$Plan" "kind" "I") (List.mem_of_getElem? (i := 1) rfl)) (fun _ h9 => h9) rfl dX4_takeOver_2 ?_
  refine va_put (D := (dC, dI)) (ci := 4) (v := .int v_o1_kind) (ty := .int) (C := RX4) (T := TX4) (N := 5) hx hb hts (fun _ h => List.mem_cons_of_mem _ (List.mem_append_right _ h)) tyX4 tyX4_ok nmX4 hown hK hP hD hS 0 rfl rfl 0 (by decide) (hts (.fieldLink RX4 25 "SkewBoard$Plan" "kind" "I") (List.mem_of_getElem? (i := 1) rfl)) (fun _ h9 => h9) rfl (by decide +kernel) rfl rfl (Nat.le_of_ble_eq_true rfl) dX4_takeOver_5 (fun H locs hP hD hS => ?_)
  have hP : va_P (dC, dI) vwCl (wX4 cI cB cE a v_o1_kind v_rows v_outer v_inner v_content ++ wX4 cI cB cE b v_o1_kind v_o1_rows v_o1_outer v_o1_inner v_o1_content) H := hP
  have hD : va_D A (wX4 cI cB cE a v_o1_kind v_rows v_outer v_inner v_content ++ wX4 cI cB cE b v_o1_kind v_o1_rows v_o1_outer v_o1_inner v_o1_content) := hD
  refine lv_aload_n hx hb dX4_takeOver_8 rfl (lv_at hl 0 rfl) ?_
  refine lv_aload_n hx hb dX4_takeOver_9 rfl (lv_at hl 1 rfl) ?_
  refine va_get (D := (dC, dI)) (ci := 4) (C := RX4) (T := TX4) (N := 5) hx hb hts (fun _ h => List.mem_cons_of_mem _ (List.mem_append_right _ h)) hown hK hP 4 rfl rfl 1 (by decide) (hts (.fieldLink RX4 21 "SkewBoard$Plan" "rows" "I") (List.mem_of_getElem? (i := 2) rfl)) (fun _ h9 => h9) rfl dX4_takeOver_10 ?_
  refine va_put (D := (dC, dI)) (ci := 4) (v := .int v_o1_rows) (ty := .int) (C := RX4) (T := TX4) (N := 5) hx hb hts (fun _ h => List.mem_cons_of_mem _ (List.mem_append_right _ h)) tyX4 tyX4_ok nmX4 hown hK hP hD hS 0 rfl rfl 1 (by decide) (hts (.fieldLink RX4 21 "SkewBoard$Plan" "rows" "I") (List.mem_of_getElem? (i := 2) rfl)) (fun _ h9 => h9) rfl (by decide +kernel) rfl rfl (Nat.le_of_ble_eq_true rfl) dX4_takeOver_13 (fun H locs hP hD hS => ?_)
  have hP : va_P (dC, dI) vwCl (wX4 cI cB cE a v_o1_kind v_o1_rows v_outer v_inner v_content ++ wX4 cI cB cE b v_o1_kind v_o1_rows v_o1_outer v_o1_inner v_o1_content) H := hP
  have hD : va_D A (wX4 cI cB cE a v_o1_kind v_o1_rows v_outer v_inner v_content ++ wX4 cI cB cE b v_o1_kind v_o1_rows v_o1_outer v_o1_inner v_o1_content) := hD
  refine lv_aload_n hx hb dX4_takeOver_16 rfl (lv_at hl 1 rfl) ?_
  refine va_get (D := (dC, dI)) (ci := 4) (C := RX4) (T := TX4) (N := 5) hx hb hts (fun _ h => List.mem_cons_of_mem _ (List.mem_append_right _ h)) hown hK hP 4 rfl rfl 2 (by decide) (hts (.fieldLink RX4 9 "SkewBoard$Plan" "outer" "[I") (List.mem_of_getElem? (i := 3) rfl)) (fun _ h9 => h9) rfl dX4_takeOver_17 ?_
  refine lv_iconst (v := 0) hx hb dX4_takeOver_20 (by decide) ?_
  refine lv_aload_n hx hb dX4_takeOver_21 rfl (lv_at hl 0 rfl) ?_
  refine va_get (D := (dC, dI)) (ci := 4) (C := RX4) (T := TX4) (N := 5) hx hb hts (fun _ h => List.mem_cons_of_mem _ (List.mem_append_right _ h)) hown hK hP 0 rfl rfl 2 (by decide) (hts (.fieldLink RX4 9 "SkewBoard$Plan" "outer" "[I") (List.mem_of_getElem? (i := 3) rfl)) (fun _ h9 => h9) rfl dX4_takeOver_22 ?_
  refine lv_iconst (v := 0) hx hb dX4_takeOver_25 (by decide) ?_
  refine lv_iconst (v := 4) hx hb dX4_takeOver_26 (by decide) ?_
  refine va_copyi (n := 4) (sp := 0) (dp := 0) (ty := .int) hx hb (hml.trans hl.1.symm) hown (hts (.methodLink RX4 34 arraycopyName) (List.mem_of_getElem? (i := 4) rfl)) (hts (.native arraycopyName) (List.mem_of_getElem? (i := 5) rfl)) (hts (.static arraycopyName) (List.mem_of_getElem? (i := 6) rfl)) (hts (.initialized "java/lang/System") (List.mem_of_getElem? (i := 7) rfl)) hK hP hD hS 5 1 0 0 rfl rfl rfl rfl rfl (by decide) (by decide) (by decide) (by decide) (by decide) (fun _ _ => rfl) (Nat.le_of_ble_eq_true rfl) (Nat.le_of_ble_eq_true rfl) dX4_takeOver_27 (fun H locs hP hD hS => ?_)
  have hP : va_P (dC, dI) vwCl (wX4 cI cB cE a v_o1_kind v_o1_rows (va_cpy v_o1_outer v_outer 0 0 4) v_inner v_content ++ wX4 cI cB cE b v_o1_kind v_o1_rows v_o1_outer v_o1_inner v_o1_content) H := hP
  have hD : va_D A (wX4 cI cB cE a v_o1_kind v_o1_rows (va_cpy v_o1_outer v_outer 0 0 4) v_inner v_content ++ wX4 cI cB cE b v_o1_kind v_o1_rows v_o1_outer v_o1_inner v_o1_content) := hD
  refine lv_aload_n hx hb dX4_takeOver_30 rfl (lv_at hl 1 rfl) ?_
  refine va_get (D := (dC, dI)) (ci := 4) (C := RX4) (T := TX4) (N := 5) hx hb hts (fun _ h => List.mem_cons_of_mem _ (List.mem_append_right _ h)) hown hK hP 4 rfl rfl 3 (by decide) (hts (.fieldLink RX4 15 "SkewBoard$Plan" "inner" "[I") (List.mem_of_getElem? (i := 8) rfl)) (fun _ h9 => h9) rfl dX4_takeOver_31 ?_
  refine lv_iconst (v := 0) hx hb dX4_takeOver_34 (by decide) ?_
  refine lv_aload_n hx hb dX4_takeOver_35 rfl (lv_at hl 0 rfl) ?_
  refine va_get (D := (dC, dI)) (ci := 4) (C := RX4) (T := TX4) (N := 5) hx hb hts (fun _ h => List.mem_cons_of_mem _ (List.mem_append_right _ h)) hown hK hP 0 rfl rfl 3 (by decide) (hts (.fieldLink RX4 15 "SkewBoard$Plan" "inner" "[I") (List.mem_of_getElem? (i := 8) rfl)) (fun _ h9 => h9) rfl dX4_takeOver_36 ?_
  refine lv_iconst (v := 0) hx hb dX4_takeOver_39 (by decide) ?_
  refine lv_iconst (v := 4) hx hb dX4_takeOver_40 (by decide) ?_
  refine va_copyi (n := 4) (sp := 0) (dp := 0) (ty := .int) hx hb (hml.trans hl.1.symm) hown (hts (.methodLink RX4 34 arraycopyName) (List.mem_of_getElem? (i := 4) rfl)) (hts (.native arraycopyName) (List.mem_of_getElem? (i := 5) rfl)) (hts (.static arraycopyName) (List.mem_of_getElem? (i := 6) rfl)) (hts (.initialized "java/lang/System") (List.mem_of_getElem? (i := 7) rfl)) hK hP hD hS 6 2 0 0 rfl rfl rfl rfl rfl (by decide) (by decide) (by decide) (by decide) (by decide) (fun _ _ => rfl) (Nat.le_of_ble_eq_true rfl) (Nat.le_of_ble_eq_true rfl) dX4_takeOver_41 (fun H locs hP hD hS => ?_)
  have hP : va_P (dC, dI) vwCl (wX4 cI cB cE a v_o1_kind v_o1_rows (va_cpy v_o1_outer v_outer 0 0 4) (va_cpy v_o1_inner v_inner 0 0 4) v_content ++ wX4 cI cB cE b v_o1_kind v_o1_rows v_o1_outer v_o1_inner v_o1_content) H := hP
  have hD : va_D A (wX4 cI cB cE a v_o1_kind v_o1_rows (va_cpy v_o1_outer v_outer 0 0 4) (va_cpy v_o1_inner v_inner 0 0 4) v_content ++ wX4 cI cB cE b v_o1_kind v_o1_rows v_o1_outer v_o1_inner v_o1_content) := hD
  refine lv_aload_n hx hb dX4_takeOver_44 rfl (lv_at hl 1 rfl) ?_
  refine va_get (D := (dC, dI)) (ci := 4) (C := RX4) (T := TX4) (N := 5) hx hb hts (fun _ h => List.mem_cons_of_mem _ (List.mem_append_right _ h)) hown hK hP 4 rfl rfl 4 (by decide) (hts (.fieldLink RX4 18 "SkewBoard$Plan" "content" "[I") (List.mem_of_getElem? (i := 9) rfl)) (fun _ h9 => h9) rfl dX4_takeOver_45 ?_
  refine lv_iconst (v := 0) hx hb dX4_takeOver_48 (by decide) ?_
  refine lv_aload_n hx hb dX4_takeOver_49 rfl (lv_at hl 0 rfl) ?_
  refine va_get (D := (dC, dI)) (ci := 4) (C := RX4) (T := TX4) (N := 5) hx hb hts (fun _ h => List.mem_cons_of_mem _ (List.mem_append_right _ h)) hown hK hP 0 rfl rfl 4 (by decide) (hts (.fieldLink RX4 18 "SkewBoard$Plan" "content" "[I") (List.mem_of_getElem? (i := 9) rfl)) (fun _ h9 => h9) rfl dX4_takeOver_50 ?_
  refine lv_iconst (v := 0) hx hb dX4_takeOver_53 (by decide) ?_
  refine lv_iconst (v := 4) hx hb dX4_takeOver_54 (by decide) ?_
  refine va_copyi (n := 4) (sp := 0) (dp := 0) (ty := .int) hx hb (hml.trans hl.1.symm) hown (hts (.methodLink RX4 34 arraycopyName) (List.mem_of_getElem? (i := 4) rfl)) (hts (.native arraycopyName) (List.mem_of_getElem? (i := 5) rfl)) (hts (.static arraycopyName) (List.mem_of_getElem? (i := 6) rfl)) (hts (.initialized "java/lang/System") (List.mem_of_getElem? (i := 7) rfl)) hK hP hD hS 7 3 0 0 rfl rfl rfl rfl rfl (by decide) (by decide) (by decide) (by decide) (by decide) (fun _ _ => rfl) (Nat.le_of_ble_eq_true rfl) (Nat.le_of_ble_eq_true rfl) dX4_takeOver_55 (fun H locs hP hD hS => ?_)
  have hP : va_P (dC, dI) vwCl (wX4 cI cB cE a v_o1_kind v_o1_rows (va_cpy v_o1_outer v_outer 0 0 4) (va_cpy v_o1_inner v_inner 0 0 4) (va_cpy v_o1_content v_content 0 0 4) ++ wX4 cI cB cE b v_o1_kind v_o1_rows v_o1_outer v_o1_inner v_o1_content) H := hP
  have hD : va_D A (wX4 cI cB cE a v_o1_kind v_o1_rows (va_cpy v_o1_outer v_outer 0 0 4) (va_cpy v_o1_inner v_inner 0 0 4) (va_cpy v_o1_content v_content 0 0 4) ++ wX4 cI cB cE b v_o1_kind v_o1_rows v_o1_outer v_o1_inner v_o1_content) := hD
  have hQ2 := hQ
  rw [← Option.some.inj hf] at hQ2
  exact cx_vret hQ2 hx hb hr hlocks hK hP hD hS dX4_takeOver_58

def fX4_boxCount_L4 (v_rows : Int32) (v_outer : Nat → Int32) (v_inner : Nat → Int32) : Nat → Int32 → Int32 → Option (Int32)
  | 0, _, _ => none
  | n + 1, x1_4, x2_4 =>
    if v_rows ≤ x2_4 then (some x1_4) else (gd (inb x2_4 4) (fX4_boxCount_L4 v_rows v_outer v_inner n (x1_4 + ((v_outer x2_4.toNatClampNeg) - (v_inner x2_4.toNatClampNeg))) (x2_4 + 1)))
def fX4_boxCount (v_rows : Int32) (v_outer : Nat → Int32) (v_inner : Nat → Int32) : Option (Int32) :=
  fX4_boxCount_L4 v_rows v_outer v_inner fu 0 0
def rmX4_boxCount : Room := { frames := 0, cells := 0, slots := 0, locals := 0 }
set_option maxRecDepth 100000 in
set_option maxHeartbeats 4000000 in
theorem ctX4_boxCount (l : Launch) (z : Nat × Nat × Nat) (dC : Nat → ClassId) (dI : Nat → Nat → Nat) (cI cB cE : ClassId) (a : Nat → Nat) (v_kind : Int32) (v_rows : Int32) (v_outer : Nat → Int32) (v_inner : Nat → Int32) (v_content : Nat → Int32) (fin : Int32) (hf : fX4_boxCount v_rows v_outer v_inner = some fin) : Ct l z (dC, dI) (tyL cI cB cE) yX4_boxCount wsX4_boxCount rmX4_boxCount [.ref (a 0)] (wX4 cI cB cE a v_kind v_rows v_outer v_inner v_content) (some (.int fin)) (wX4 cI cB cE a v_kind v_rows v_outer v_inner v_content) := by
  refine Met.ofC (cc := cX4_boxCount) (maxL := 3) (ret := (some .int)) (by decide) rfl (Nat.le_of_ble_eq_true rfl) ?_
  intro p e s m args below meth c A Q ls hx hb hr hml hts hown hlocks hA hK hP hD hZ hS hQ hl
  have hown : s.vm.findClass RX4 = some m.cls := hown
  have hl : lv_has ls 3 [(0, .ref (a 0))] := hl
  unfold fX4_boxCount at hf
  refine lv_iconst (v := 0) hx hb dX4_boxCount_0 (by decide) ?_
  refine lv_istore_n (lv' := [(1, .int 0), (0, .ref (a 0))]) hx hb dX4_boxCount_1 rfl hl (by decide) rfl (fun ls hl => ?_)
  refine lv_iconst (v := 0) hx hb dX4_boxCount_2 (by decide) ?_
  refine lv_istore_n (lv' := [(2, .int 0), (1, .int 0), (0, .ref (a 0))]) hx hb dX4_boxCount_3 rfl hl (by decide) rfl (fun ls hl => ?_)
  have L4 : ∀ (n4 : Nat) (x1_4 : Int32) (x2_4 : Int32), fX4_boxCount_L4 v_rows v_outer v_inner n4 x1_4 x2_4 = some fin → ∀ (H : Heap) (locs : List Loc), va_P (dC, dI) vwCl (wX4 cI cB cE a v_kind v_rows v_outer v_inner v_content) H → va_D A (wX4 cI cB cE a v_kind v_rows v_outer v_inner v_content) → va_S A s.heap H locs → ∀ (ls : Array Slot), lv_has ls 3 [(0, .ref (a 0)), (1, .int x1_4), (2, .int x2_4)] → W p l e rmX4_boxCount s m args below meth c H locs 0 0 Q (F0 m 4 ls []) := by
    intro n4
    induction n4 with
    | zero =>
      intro x1_4 x2_4 hf
      rw [fX4_boxCount_L4] at hf
      cases hf
    | succ n4 ih4 =>
      intro x1_4 x2_4 hf H locs hP hD hS ls hl
      rw [fX4_boxCount_L4] at hf
      refine lv_iload_n hx hb dX4_boxCount_4 rfl (lv_at hl 2 rfl) ?_
      refine lv_aload_n hx hb dX4_boxCount_5 rfl (lv_at hl 0 rfl) ?_
      refine va_get (D := (dC, dI)) (ci := 4) (C := RX4) (T := TX4) (N := 5) hx hb hts (fun _ h => List.mem_cons_of_mem _ (List.mem_append_right _ h)) hown hK hP 0 rfl rfl 1 (by decide) (hts (.fieldLink RX4 21 "SkewBoard$Plan" "rows" "I") (List.mem_of_getElem? (i := 1) rfl)) (fun _ h9 => h9) rfl dX4_boxCount_6 ?_
      refine lv_icmp_ge (tgt := 34) hx hb dX4_boxCount_9 (by decide) (fun c_1 => ?_) (fun c_1 => ?_)
      · rw [if_pos c_1] at hf
        refine lv_iload_n hx hb dX4_boxCount_34 rfl (lv_at hl 1 rfl) ?_
        have hQ2 := hQ
        rw [← Option.some.inj hf] at hQ2
        exact cx_iret hQ2 hx hb hr hlocks hK hP hD hS dX4_boxCount_35
      · rw [if_neg c_1] at hf
        refine lv_iload_n hx hb dX4_boxCount_12 rfl (lv_at hl 1 rfl) ?_
        refine lv_aload_n hx hb dX4_boxCount_13 rfl (lv_at hl 0 rfl) ?_
        refine va_get (D := (dC, dI)) (ci := 4) (C := RX4) (T := TX4) (N := 5) hx hb hts (fun _ h => List.mem_cons_of_mem _ (List.mem_append_right _ h)) hown hK hP 0 rfl rfl 2 (by decide) (hts (.fieldLink RX4 9 "SkewBoard$Plan" "outer" "[I") (List.mem_of_getElem? (i := 2) rfl)) (fun _ h9 => h9) rfl dX4_boxCount_14 ?_
        refine lv_iload_n hx hb dX4_boxCount_17 rfl (lv_at hl 2 rfl) ?_
        obtain ⟨g_2, hf⟩ := gd_some hf
        refine va_iald hx hb hK hP 1 0 rfl rfl (inb_vp g_2) dX4_boxCount_18 ?_
        refine lv_aload_n hx hb dX4_boxCount_19 rfl (lv_at hl 0 rfl) ?_
        refine va_get (D := (dC, dI)) (ci := 4) (C := RX4) (T := TX4) (N := 5) hx hb hts (fun _ h => List.mem_cons_of_mem _ (List.mem_append_right _ h)) hown hK hP 0 rfl rfl 3 (by decide) (hts (.fieldLink RX4 15 "SkewBoard$Plan" "inner" "[I") (List.mem_of_getElem? (i := 3) rfl)) (fun _ h9 => h9) rfl dX4_boxCount_20 ?_
        refine lv_iload_n hx hb dX4_boxCount_23 rfl (lv_at hl 2 rfl) ?_
        refine va_iald hx hb hK hP 2 0 rfl rfl (inb_vp g_2) dX4_boxCount_24 ?_
        refine lv_isub hx hb dX4_boxCount_25 ?_
        refine lv_iadd hx hb dX4_boxCount_26 ?_
        refine lv_istore_n (lv' := [(1, .int (x1_4 + ((v_outer x2_4.toNatClampNeg) - (v_inner x2_4.toNatClampNeg)))), (0, .ref (a 0)), (2, .int x2_4)]) hx hb dX4_boxCount_27 rfl hl (by decide) rfl (fun ls hl => ?_)
        refine lv_iinc (v := (x2_4 + 1)) (lv' := [(2, .int (x2_4 + 1)), (1, .int (x1_4 + ((v_outer x2_4.toNatClampNeg) - (v_inner x2_4.toNatClampNeg)))), (0, .ref (a 0))]) hx hb dX4_boxCount_28 hl (k := 2) rfl rfl (by decide) rfl (fun ls hl => ?_)
        refine lv_goto (tgt := 4) hx hb dX4_boxCount_31 (by decide) ?_
        exact ih4 (x1_4 + ((v_outer x2_4.toNatClampNeg) - (v_inner x2_4.toNatClampNeg))) (x2_4 + 1) hf _ _ hP hD hS ls (lv_sub hl [2, 1, 0] rfl)
  exact L4 fu 0 0 hf _ _ hP hD hS ls (lv_sub hl [2, 1, 0] rfl)

def fX4_contentSum_L13 (v_content : Nat → Int32) : Nat → Int32 → Int32 → Option (Int32)
  | 0, _, _ => none
  | n + 1, x1_13, x4_13 =>
    if 4 ≤ x4_13 then (some x1_13) else (gd (inb x4_13 4) (fX4_contentSum_L13 v_content n (x1_13 + (v_content x4_13.toNatClampNeg)) (x4_13 + 1)))
def fX4_contentSum (v_content : Nat → Int32) : Option (Int32) :=
  fX4_contentSum_L13 v_content fu 0 0
def rmX4_contentSum : Room := { frames := 0, cells := 0, slots := 0, locals := 0 }
set_option maxRecDepth 100000 in
set_option maxHeartbeats 4000000 in
theorem ctX4_contentSum (l : Launch) (z : Nat × Nat × Nat) (dC : Nat → ClassId) (dI : Nat → Nat → Nat) (cI cB cE : ClassId) (a : Nat → Nat) (v_kind : Int32) (v_rows : Int32) (v_outer : Nat → Int32) (v_inner : Nat → Int32) (v_content : Nat → Int32) (fin : Int32) (hf : fX4_contentSum v_content = some fin) : Ct l z (dC, dI) (tyL cI cB cE) yX4_contentSum wsX4_contentSum rmX4_contentSum [.ref (a 0)] (wX4 cI cB cE a v_kind v_rows v_outer v_inner v_content) (some (.int fin)) (wX4 cI cB cE a v_kind v_rows v_outer v_inner v_content) := by
  refine Met.ofC (cc := cX4_contentSum) (maxL := 6) (ret := (some .int)) (by decide) rfl (Nat.le_of_ble_eq_true rfl) ?_
  intro p e s m args below meth c A Q ls hx hb hr hml hts hown hlocks hA hK hP hD hZ hS hQ hl
  have hown : s.vm.findClass RX4 = some m.cls := hown
  have hl : lv_has ls 6 [(0, .ref (a 0))] := hl
  unfold fX4_contentSum at hf
  refine lv_iconst (v := 0) hx hb dX4_contentSum_0 (by decide) ?_
  refine lv_istore_n (lv' := [(1, .int 0), (0, .ref (a 0))]) hx hb dX4_contentSum_1 rfl hl (by decide) rfl (fun ls hl => ?_)
  refine lv_aload_n hx hb dX4_contentSum_2 rfl (lv_at hl 1 rfl) ?_
  refine va_get (D := (dC, dI)) (ci := 4) (C := RX4) (T := TX4) (N := 5) hx hb hts (fun _ h => List.mem_cons_of_mem _ (List.mem_append_right _ h)) hown hK hP 0 rfl rfl 4 (by decide) (hts (.fieldLink RX4 18 "SkewBoard$Plan" "content" "[I") (List.mem_of_getElem? (i := 1) rfl)) (fun _ h9 => h9) rfl dX4_contentSum_3 ?_
  refine lv_astore_n (lv' := [(2, .ref (a 3)), (1, .int 0), (0, .ref (a 0))]) hx hb dX4_contentSum_6 rfl hl (by decide) rfl (fun ls hl => ?_)
  refine lv_aload_n hx hb dX4_contentSum_7 rfl (lv_at hl 0 rfl) ?_
  refine va_alen (v := 4) hx hb hK hP 3 0 rfl rfl rfl dX4_contentSum_8 ?_
  refine lv_istore_n (lv' := [(3, .int 4), (2, .ref (a 3)), (1, .int 0), (0, .ref (a 0))]) hx hb dX4_contentSum_9 rfl hl (by decide) rfl (fun ls hl => ?_)
  refine lv_iconst (v := 0) hx hb dX4_contentSum_10 (by decide) ?_
  refine lv_istore (lv' := [(4, .int 0), (3, .int 4), (2, .ref (a 3)), (1, .int 0), (0, .ref (a 0))]) hx hb dX4_contentSum_11 hl (by decide) rfl (fun ls hl => ?_)
  have L13 : ∀ (n13 : Nat) (x1_13 : Int32) (x4_13 : Int32), fX4_contentSum_L13 v_content n13 x1_13 x4_13 = some fin → ∀ (H : Heap) (locs : List Loc), va_P (dC, dI) vwCl (wX4 cI cB cE a v_kind v_rows v_outer v_inner v_content) H → va_D A (wX4 cI cB cE a v_kind v_rows v_outer v_inner v_content) → va_S A s.heap H locs → ∀ (ls : Array Slot), lv_has ls 6 [(1, .int x1_13), (2, .ref (a 3)), (3, .int 4), (4, .int x4_13)] → W p l e rmX4_contentSum s m args below meth c H locs 0 0 Q (F0 m 13 ls []) := by
    intro n13
    induction n13 with
    | zero =>
      intro x1_13 x4_13 hf
      rw [fX4_contentSum_L13] at hf
      cases hf
    | succ n13 ih13 =>
      intro x1_13 x4_13 hf H locs hP hD hS ls hl
      rw [fX4_contentSum_L13] at hf
      refine lv_iload hx hb dX4_contentSum_13 (lv_at hl 3 rfl) ?_
      refine lv_iload_n hx hb dX4_contentSum_15 rfl (lv_at hl 2 rfl) ?_
      refine lv_icmp_ge (tgt := 36) hx hb dX4_contentSum_16 (by decide) (fun c_1 => ?_) (fun c_1 => ?_)
      · rw [if_pos c_1] at hf
        refine lv_iload_n hx hb dX4_contentSum_36 rfl (lv_at hl 0 rfl) ?_
        have hQ2 := hQ
        rw [← Option.some.inj hf] at hQ2
        exact cx_iret hQ2 hx hb hr hlocks hK hP hD hS dX4_contentSum_37
      · rw [if_neg c_1] at hf
        refine lv_aload_n hx hb dX4_contentSum_19 rfl (lv_at hl 1 rfl) ?_
        refine lv_iload hx hb dX4_contentSum_20 (lv_at hl 3 rfl) ?_
        obtain ⟨g_2, hf⟩ := gd_some hf
        refine va_iald hx hb hK hP 3 0 rfl rfl (inb_vp g_2) dX4_contentSum_22 ?_
        refine lv_istore (lv' := [(5, .int (v_content x4_13.toNatClampNeg)), (1, .int x1_13), (2, .ref (a 3)), (3, .int 4), (4, .int x4_13)]) hx hb dX4_contentSum_23 hl (by decide) rfl (fun ls hl => ?_)
        refine lv_iload_n hx hb dX4_contentSum_25 rfl (lv_at hl 1 rfl) ?_
        refine lv_iload hx hb dX4_contentSum_26 (lv_at hl 0 rfl) ?_
        refine lv_iadd hx hb dX4_contentSum_28 ?_
        refine lv_istore_n (lv' := [(1, .int (x1_13 + (v_content x4_13.toNatClampNeg))), (5, .int (v_content x4_13.toNatClampNeg)), (2, .ref (a 3)), (3, .int 4), (4, .int x4_13)]) hx hb dX4_contentSum_29 rfl hl (by decide) rfl (fun ls hl => ?_)
        refine lv_iinc (v := (x4_13 + 1)) (lv' := [(4, .int (x4_13 + 1)), (1, .int (x1_13 + (v_content x4_13.toNatClampNeg))), (5, .int (v_content x4_13.toNatClampNeg)), (2, .ref (a 3)), (3, .int 4)]) hx hb dX4_contentSum_30 hl (k := 4) rfl rfl (by decide) rfl (fun ls hl => ?_)
        refine lv_goto (tgt := 13) hx hb dX4_contentSum_33 (by decide) ?_
        exact ih13 (x1_13 + (v_content x4_13.toNatClampNeg)) (x4_13 + 1) hf _ _ hP hD hS ls (lv_sub hl [1, 3, 4, 0] rfl)
  exact L13 fu 0 0 hf _ _ hP hD hS ls (lv_sub hl [3, 2, 1, 0] rfl)

def fX4_innerSum_J32 (x2_32 : Int32) : Option (Int32) :=
    some x2_32
def fX4_innerSum_L4 (v_rows : Int32) (v_inner : Nat → Int32) (p1 : Int32) (k32 : Int32 → Option (Int32)) : Nat → Int32 → Int32 → Option (Int32)
  | 0, _, _ => none
  | n + 1, x2_4, x3_4 =>
    if p1 ≤ x3_4 then (k32 x2_4) else (if v_rows ≤ x3_4 then (k32 x2_4) else (gd (inb x3_4 4) (fX4_innerSum_L4 v_rows v_inner p1 k32 n (x2_4 + (v_inner x3_4.toNatClampNeg)) (x3_4 + 1))))
def fX4_innerSum (p1 : Int32) (v_rows : Int32) (v_inner : Nat → Int32) : Option (Int32) :=
  fX4_innerSum_L4 v_rows v_inner p1 fX4_innerSum_J32 fu 0 0
def rmX4_innerSum : Room := { frames := 0, cells := 0, slots := 0, locals := 0 }
set_option maxRecDepth 100000 in
set_option maxHeartbeats 4000000 in
theorem ctX4_innerSum (l : Launch) (z : Nat × Nat × Nat) (dC : Nat → ClassId) (dI : Nat → Nat → Nat) (cI cB cE : ClassId) (a : Nat → Nat) (v_kind : Int32) (v_rows : Int32) (v_outer : Nat → Int32) (v_inner : Nat → Int32) (v_content : Nat → Int32) (p1 : Int32) (fin : Int32) (hf : fX4_innerSum p1 v_rows v_inner = some fin) : Ct l z (dC, dI) (tyL cI cB cE) yX4_innerSum wsX4_innerSum rmX4_innerSum [.ref (a 0), .int p1] (wX4 cI cB cE a v_kind v_rows v_outer v_inner v_content) (some (.int fin)) (wX4 cI cB cE a v_kind v_rows v_outer v_inner v_content) := by
  refine Met.ofC (cc := cX4_innerSum) (maxL := 4) (ret := (some .int)) (by decide) rfl (Nat.le_of_ble_eq_true rfl) ?_
  intro p e s m args below meth c A Q ls hx hb hr hml hts hown hlocks hA hK hP hD hZ hS hQ hl
  have hown : s.vm.findClass RX4 = some m.cls := hown
  have hl : lv_has ls 4 [(0, .ref (a 0)), (1, .int p1)] := hl
  unfold fX4_innerSum at hf
  refine lv_iconst (v := 0) hx hb dX4_innerSum_0 (by decide) ?_
  refine lv_istore_n (lv' := [(2, .int 0), (0, .ref (a 0)), (1, .int p1)]) hx hb dX4_innerSum_1 rfl hl (by decide) rfl (fun ls hl => ?_)
  refine lv_iconst (v := 0) hx hb dX4_innerSum_2 (by decide) ?_
  refine lv_istore_n (lv' := [(3, .int 0), (2, .int 0), (0, .ref (a 0)), (1, .int p1)]) hx hb dX4_innerSum_3 rfl hl (by decide) rfl (fun ls hl => ?_)
  have J32 : ∀ (x2_32 : Int32), fX4_innerSum_J32  x2_32 = some fin → ∀ (H : Heap) (locs : List Loc), va_P (dC, dI) vwCl (wX4 cI cB cE a v_kind v_rows v_outer v_inner v_content) H → va_D A (wX4 cI cB cE a v_kind v_rows v_outer v_inner v_content) → va_S A s.heap H locs → ∀ (ls : Array Slot), lv_has ls 4 [(2, .int x2_32)] → W p l e rmX4_innerSum s m args below meth c H locs 0 0 Q (F0 m 32 ls []) := by
    intro x2_32 hf H locs hP hD hS ls hl
    unfold fX4_innerSum_J32 at hf
    refine lv_iload_n hx hb dX4_innerSum_32 rfl (lv_at hl 0 rfl) ?_
    have hQ2 := hQ
    rw [← Option.some.inj hf] at hQ2
    exact cx_iret hQ2 hx hb hr hlocks hK hP hD hS dX4_innerSum_33
  have L4 : ∀ (n4 : Nat) (x2_4 : Int32) (x3_4 : Int32), fX4_innerSum_L4 v_rows v_inner p1 (fX4_innerSum_J32) n4 x2_4 x3_4 = some fin → ∀ (H : Heap) (locs : List Loc), va_P (dC, dI) vwCl (wX4 cI cB cE a v_kind v_rows v_outer v_inner v_content) H → va_D A (wX4 cI cB cE a v_kind v_rows v_outer v_inner v_content) → va_S A s.heap H locs → ∀ (ls : Array Slot), lv_has ls 4 [(0, .ref (a 0)), (1, .int p1), (2, .int x2_4), (3, .int x3_4)] → W p l e rmX4_innerSum s m args below meth c H locs 0 0 Q (F0 m 4 ls []) := by
    intro n4
    induction n4 with
    | zero =>
      intro x2_4 x3_4 hf
      rw [fX4_innerSum_L4] at hf
      cases hf
    | succ n4 ih4 =>
      intro x2_4 x3_4 hf H locs hP hD hS ls hl
      rw [fX4_innerSum_L4] at hf
      refine lv_iload_n hx hb dX4_innerSum_4 rfl (lv_at hl 3 rfl) ?_
      refine lv_iload_n hx hb dX4_innerSum_5 rfl (lv_at hl 1 rfl) ?_
      refine lv_icmp_ge (tgt := 32) hx hb dX4_innerSum_6 (by decide) (fun c_1 => ?_) (fun c_1 => ?_)
      · rw [if_pos c_1] at hf
        exact J32 x2_4 hf _ _ hP hD hS ls (lv_sub hl [2] rfl)
      · rw [if_neg c_1] at hf
        refine lv_iload_n hx hb dX4_innerSum_9 rfl (lv_at hl 3 rfl) ?_
        refine lv_aload_n hx hb dX4_innerSum_10 rfl (lv_at hl 0 rfl) ?_
        refine va_get (D := (dC, dI)) (ci := 4) (C := RX4) (T := TX4) (N := 5) hx hb hts (fun _ h => List.mem_cons_of_mem _ (List.mem_append_right _ h)) hown hK hP 0 rfl rfl 1 (by decide) (hts (.fieldLink RX4 21 "SkewBoard$Plan" "rows" "I") (List.mem_of_getElem? (i := 1) rfl)) (fun _ h9 => h9) rfl dX4_innerSum_11 ?_
        refine lv_icmp_ge (tgt := 32) hx hb dX4_innerSum_14 (by decide) (fun c_2 => ?_) (fun c_2 => ?_)
        · rw [if_pos c_2] at hf
          exact J32 x2_4 hf _ _ hP hD hS ls (lv_sub hl [2] rfl)
        · rw [if_neg c_2] at hf
          refine lv_iload_n hx hb dX4_innerSum_17 rfl (lv_at hl 2 rfl) ?_
          refine lv_aload_n hx hb dX4_innerSum_18 rfl (lv_at hl 0 rfl) ?_
          refine va_get (D := (dC, dI)) (ci := 4) (C := RX4) (T := TX4) (N := 5) hx hb hts (fun _ h => List.mem_cons_of_mem _ (List.mem_append_right _ h)) hown hK hP 0 rfl rfl 3 (by decide) (hts (.fieldLink RX4 15 "SkewBoard$Plan" "inner" "[I") (List.mem_of_getElem? (i := 2) rfl)) (fun _ h9 => h9) rfl dX4_innerSum_19 ?_
          refine lv_iload_n hx hb dX4_innerSum_22 rfl (lv_at hl 3 rfl) ?_
          obtain ⟨g_3, hf⟩ := gd_some hf
          refine va_iald hx hb hK hP 2 0 rfl rfl (inb_vp g_3) dX4_innerSum_23 ?_
          refine lv_iadd hx hb dX4_innerSum_24 ?_
          refine lv_istore_n (lv' := [(2, .int (x2_4 + (v_inner x3_4.toNatClampNeg))), (0, .ref (a 0)), (1, .int p1), (3, .int x3_4)]) hx hb dX4_innerSum_25 rfl hl (by decide) rfl (fun ls hl => ?_)
          refine lv_iinc (v := (x3_4 + 1)) (lv' := [(3, .int (x3_4 + 1)), (2, .int (x2_4 + (v_inner x3_4.toNatClampNeg))), (0, .ref (a 0)), (1, .int p1)]) hx hb dX4_innerSum_26 hl (k := 3) rfl rfl (by decide) rfl (fun ls hl => ?_)
          refine lv_goto (tgt := 4) hx hb dX4_innerSum_29 (by decide) ?_
          exact ih4 (x2_4 + (v_inner x3_4.toNatClampNeg)) (x3_4 + 1) hf _ _ hP hD hS ls (lv_sub hl [2, 3, 1, 0] rfl)
  exact L4 fu 0 0 hf _ _ hP hD hS ls (lv_sub hl [2, 3, 1, 0] rfl)

def fX4_outerAllowed_J32 (y0_32 : Int32) : Option (Int32) :=
    gd (isb y0_32) (some y0_32)
def fX4_outerAllowed_J31 (k32 : Int32 → Option (Int32)) (u_31 : Unit) : Option (Int32) :=
    k32 0
def fX4_outerAllowed_J16 (p2 : Int32) (y0_16 : Int32) : Option (Int32) :=
    if p2 < 1 then (fX4_outerAllowed_J31 fX4_outerAllowed_J32 ()) else (if y0_16 < p2 then (fX4_outerAllowed_J31 fX4_outerAllowed_J32 ()) else (fX4_outerAllowed_J32 1))
def fX4_outerAllowed (p1 : Int32) (p2 : Int32) (v_outer : Nat → Int32) : Option (Int32) :=
  if p1 = 0 then (fX4_outerAllowed_J16 p2 5) else (gd (inb (p1 - 1) 4) (fX4_outerAllowed_J16 p2 (v_outer (p1 - 1).toNatClampNeg)))
def rmX4_outerAllowed : Room := { frames := 0, cells := 0, slots := 0, locals := 0 }
set_option maxRecDepth 100000 in
set_option maxHeartbeats 4000000 in
theorem ctX4_outerAllowed (l : Launch) (z : Nat × Nat × Nat) (dC : Nat → ClassId) (dI : Nat → Nat → Nat) (cI cB cE : ClassId) (a : Nat → Nat) (v_kind : Int32) (v_rows : Int32) (v_outer : Nat → Int32) (v_inner : Nat → Int32) (v_content : Nat → Int32) (p1 : Int32) (p2 : Int32) (fin : Int32) (hf : fX4_outerAllowed p1 p2 v_outer = some fin) : Ct l z (dC, dI) (tyL cI cB cE) yX4_outerAllowed wsX4_outerAllowed rmX4_outerAllowed [.ref (a 0), .int p1, .int p2] (wX4 cI cB cE a v_kind v_rows v_outer v_inner v_content) (some (.int fin)) (wX4 cI cB cE a v_kind v_rows v_outer v_inner v_content) := by
  refine Met.ofC (cc := cX4_outerAllowed) (maxL := 4) (ret := (some .boolean)) (by decide) rfl (Nat.le_of_ble_eq_true rfl) ?_
  intro p e s m args below meth c A Q ls hx hb hr hml hts hown hlocks hA hK hP hD hZ hS hQ hl
  have hown : s.vm.findClass RX4 = some m.cls := hown
  have hl : lv_has ls 4 [(0, .ref (a 0)), (1, .int p1), (2, .int p2)] := hl
  unfold fX4_outerAllowed at hf
  refine lv_iload_n hx hb dX4_outerAllowed_0 rfl (lv_at hl 1 rfl) ?_
  have J16 : ∀ (y0_16 : Int32), fX4_outerAllowed_J16 p2 y0_16 = some fin → ∀ (H : Heap) (locs : List Loc), va_P (dC, dI) vwCl (wX4 cI cB cE a v_kind v_rows v_outer v_inner v_content) H → va_D A (wX4 cI cB cE a v_kind v_rows v_outer v_inner v_content) → va_S A s.heap H locs → ∀ (ls : Array Slot), lv_has ls 4 [(2, .int p2)] → W p l e rmX4_outerAllowed s m args below meth c H locs 0 0 Q (F0 m 16 ls [.int y0_16]) := by
    intro y0_16 hf H locs hP hD hS ls hl
    unfold fX4_outerAllowed_J16 at hf
    refine lv_istore_n (lv' := [(3, .int y0_16), (2, .int p2)]) hx hb dX4_outerAllowed_16 rfl hl (by decide) rfl (fun ls hl => ?_)
    refine lv_iload_n hx hb dX4_outerAllowed_17 rfl (lv_at hl 1 rfl) ?_
    refine lv_iconst (v := 1) hx hb dX4_outerAllowed_18 (by decide) ?_
    have J32 : ∀ (y0_32 : Int32), fX4_outerAllowed_J32  y0_32 = some fin → ∀ (H : Heap) (locs : List Loc), va_P (dC, dI) vwCl (wX4 cI cB cE a v_kind v_rows v_outer v_inner v_content) H → va_D A (wX4 cI cB cE a v_kind v_rows v_outer v_inner v_content) → va_S A s.heap H locs → ∀ (ls : Array Slot), lv_has ls 4 [] → W p l e rmX4_outerAllowed s m args below meth c H locs 0 0 Q (F0 m 32 ls [.int y0_32]) := by
      intro y0_32 hf H locs hP hD hS ls hl
      unfold fX4_outerAllowed_J32 at hf
      obtain ⟨g_1, hf⟩ := gd_some hf
      have hQ2 := hQ
      rw [← Option.some.inj hf] at hQ2
      exact cx_zret (isb_nar g_1) hQ2 hx hb hr hlocks hK hP hD hS dX4_outerAllowed_32
    have J31 : ∀ (u_31 : Unit), fX4_outerAllowed_J31 (fX4_outerAllowed_J32) u_31 = some fin → ∀ (H : Heap) (locs : List Loc), va_P (dC, dI) vwCl (wX4 cI cB cE a v_kind v_rows v_outer v_inner v_content) H → va_D A (wX4 cI cB cE a v_kind v_rows v_outer v_inner v_content) → va_S A s.heap H locs → ∀ (ls : Array Slot), lv_has ls 4 [] → W p l e rmX4_outerAllowed s m args below meth c H locs 0 0 Q (F0 m 31 ls []) := by
      intro u_31 hf H locs hP hD hS ls hl
      unfold fX4_outerAllowed_J31 at hf
      refine lv_iconst (v := 0) hx hb dX4_outerAllowed_31 (by decide) ?_
      exact J32 0 hf _ _ hP hD hS ls (lv_sub hl [] rfl)
    refine lv_icmp_lt (tgt := 31) hx hb dX4_outerAllowed_19 (by decide) (fun c_2 => ?_) (fun c_2 => ?_)
    · rw [if_pos c_2] at hf
      exact J31 () hf _ _ hP hD hS ls (lv_sub hl [] rfl)
    · rw [if_neg c_2] at hf
      refine lv_iload_n hx hb dX4_outerAllowed_22 rfl (lv_at hl 1 rfl) ?_
      refine lv_iload_n hx hb dX4_outerAllowed_23 rfl (lv_at hl 0 rfl) ?_
      refine lv_icmp_gt (tgt := 31) hx hb dX4_outerAllowed_24 (by decide) (fun c_3 => ?_) (fun c_3 => ?_)
      · rw [if_pos c_3] at hf
        exact J31 () hf _ _ hP hD hS ls (lv_sub hl [] rfl)
      · rw [if_neg c_3] at hf
        refine lv_iconst (v := 1) hx hb dX4_outerAllowed_27 (by decide) ?_
        refine lv_goto (tgt := 32) hx hb dX4_outerAllowed_28 (by decide) ?_
        exact J32 1 hf _ _ hP hD hS ls (lv_sub hl [] rfl)
  refine lv_if_ne (tgt := 8) hx hb dX4_outerAllowed_1 (by decide) (fun c_4 => ?_) (fun c_4 => ?_)
  · rw [if_neg c_4] at hf
    refine lv_aload_n hx hb dX4_outerAllowed_8 rfl (lv_at hl 0 rfl) ?_
    refine va_get (D := (dC, dI)) (ci := 4) (C := RX4) (T := TX4) (N := 5) hx hb hts (fun _ h => List.mem_cons_of_mem _ (List.mem_append_right _ h)) hown hK hP 0 rfl rfl 2 (by decide) (hts (.fieldLink RX4 9 "SkewBoard$Plan" "outer" "[I") (List.mem_of_getElem? (i := 1) rfl)) (fun _ h9 => h9) rfl dX4_outerAllowed_9 ?_
    refine lv_iload_n hx hb dX4_outerAllowed_12 rfl (lv_at hl 1 rfl) ?_
    refine lv_iconst (v := 1) hx hb dX4_outerAllowed_13 (by decide) ?_
    refine lv_isub hx hb dX4_outerAllowed_14 ?_
    obtain ⟨g_5, hf⟩ := gd_some hf
    refine va_iald hx hb hK hP 1 0 rfl rfl (inb_vp g_5) dX4_outerAllowed_15 ?_
    exact J16 (v_outer (p1 - 1).toNatClampNeg) hf _ _ hP hD hS ls (lv_sub hl [2] rfl)
  · rw [if_pos c_4] at hf
    refine lv_iconst (v := 5) hx hb dX4_outerAllowed_4 (by decide) ?_
    refine lv_goto (tgt := 16) hx hb dX4_outerAllowed_5 (by decide) ?_
    exact J16 5 hf _ _ hP hD hS ls (lv_sub hl [2] rfl)

def fX4_innerAllowed_J41 (y0_41 : Int32) : Option (Int32) :=
    gd (isb y0_41) (some y0_41)
def fX4_innerAllowed_J40 (k41 : Int32 → Option (Int32)) (u_40 : Unit) : Option (Int32) :=
    k41 0
def fX4_innerAllowed_J16 (v_outer : Nat → Int32) (p1 : Int32) (p2 : Int32) (y0_16 : Int32) : Option (Int32) :=
    if p2 < 0 then (fX4_innerAllowed_J40 fX4_innerAllowed_J41 ()) else (if y0_16 < p2 then (fX4_innerAllowed_J40 fX4_innerAllowed_J41 ()) else (gd (inb p1 4) (if (v_outer p1.toNatClampNeg) < p2 then (fX4_innerAllowed_J40 fX4_innerAllowed_J41 ()) else (fX4_innerAllowed_J41 1))))
def fX4_innerAllowed (p1 : Int32) (p2 : Int32) (v_outer : Nat → Int32) (v_inner : Nat → Int32) : Option (Int32) :=
  if p1 = 0 then (fX4_innerAllowed_J16 v_outer p1 p2 5) else (gd (inb (p1 - 1) 4) (fX4_innerAllowed_J16 v_outer p1 p2 (v_inner (p1 - 1).toNatClampNeg)))
def rmX4_innerAllowed : Room := { frames := 0, cells := 0, slots := 0, locals := 0 }
set_option maxRecDepth 100000 in
set_option maxHeartbeats 4000000 in
theorem ctX4_innerAllowed (l : Launch) (z : Nat × Nat × Nat) (dC : Nat → ClassId) (dI : Nat → Nat → Nat) (cI cB cE : ClassId) (a : Nat → Nat) (v_kind : Int32) (v_rows : Int32) (v_outer : Nat → Int32) (v_inner : Nat → Int32) (v_content : Nat → Int32) (p1 : Int32) (p2 : Int32) (fin : Int32) (hf : fX4_innerAllowed p1 p2 v_outer v_inner = some fin) : Ct l z (dC, dI) (tyL cI cB cE) yX4_innerAllowed wsX4_innerAllowed rmX4_innerAllowed [.ref (a 0), .int p1, .int p2] (wX4 cI cB cE a v_kind v_rows v_outer v_inner v_content) (some (.int fin)) (wX4 cI cB cE a v_kind v_rows v_outer v_inner v_content) := by
  refine Met.ofC (cc := cX4_innerAllowed) (maxL := 4) (ret := (some .boolean)) (by decide) rfl (Nat.le_of_ble_eq_true rfl) ?_
  intro p e s m args below meth c A Q ls hx hb hr hml hts hown hlocks hA hK hP hD hZ hS hQ hl
  have hown : s.vm.findClass RX4 = some m.cls := hown
  have hl : lv_has ls 4 [(0, .ref (a 0)), (1, .int p1), (2, .int p2)] := hl
  unfold fX4_innerAllowed at hf
  refine lv_iload_n hx hb dX4_innerAllowed_0 rfl (lv_at hl 1 rfl) ?_
  have J16 : ∀ (y0_16 : Int32), fX4_innerAllowed_J16 v_outer p1 p2 y0_16 = some fin → ∀ (H : Heap) (locs : List Loc), va_P (dC, dI) vwCl (wX4 cI cB cE a v_kind v_rows v_outer v_inner v_content) H → va_D A (wX4 cI cB cE a v_kind v_rows v_outer v_inner v_content) → va_S A s.heap H locs → ∀ (ls : Array Slot), lv_has ls 4 [(0, .ref (a 0)), (1, .int p1), (2, .int p2)] → W p l e rmX4_innerAllowed s m args below meth c H locs 0 0 Q (F0 m 16 ls [.int y0_16]) := by
    intro y0_16 hf H locs hP hD hS ls hl
    unfold fX4_innerAllowed_J16 at hf
    refine lv_istore_n (lv' := [(3, .int y0_16), (0, .ref (a 0)), (1, .int p1), (2, .int p2)]) hx hb dX4_innerAllowed_16 rfl hl (by decide) rfl (fun ls hl => ?_)
    refine lv_iload_n hx hb dX4_innerAllowed_17 rfl (lv_at hl 3 rfl) ?_
    have J41 : ∀ (y0_41 : Int32), fX4_innerAllowed_J41  y0_41 = some fin → ∀ (H : Heap) (locs : List Loc), va_P (dC, dI) vwCl (wX4 cI cB cE a v_kind v_rows v_outer v_inner v_content) H → va_D A (wX4 cI cB cE a v_kind v_rows v_outer v_inner v_content) → va_S A s.heap H locs → ∀ (ls : Array Slot), lv_has ls 4 [] → W p l e rmX4_innerAllowed s m args below meth c H locs 0 0 Q (F0 m 41 ls [.int y0_41]) := by
      intro y0_41 hf H locs hP hD hS ls hl
      unfold fX4_innerAllowed_J41 at hf
      obtain ⟨g_1, hf⟩ := gd_some hf
      have hQ2 := hQ
      rw [← Option.some.inj hf] at hQ2
      exact cx_zret (isb_nar g_1) hQ2 hx hb hr hlocks hK hP hD hS dX4_innerAllowed_41
    have J40 : ∀ (u_40 : Unit), fX4_innerAllowed_J40 (fX4_innerAllowed_J41) u_40 = some fin → ∀ (H : Heap) (locs : List Loc), va_P (dC, dI) vwCl (wX4 cI cB cE a v_kind v_rows v_outer v_inner v_content) H → va_D A (wX4 cI cB cE a v_kind v_rows v_outer v_inner v_content) → va_S A s.heap H locs → ∀ (ls : Array Slot), lv_has ls 4 [] → W p l e rmX4_innerAllowed s m args below meth c H locs 0 0 Q (F0 m 40 ls []) := by
      intro u_40 hf H locs hP hD hS ls hl
      unfold fX4_innerAllowed_J40 at hf
      refine lv_iconst (v := 0) hx hb dX4_innerAllowed_40 (by decide) ?_
      exact J41 0 hf _ _ hP hD hS ls (lv_sub hl [] rfl)
    refine lv_if_lt (tgt := 40) hx hb dX4_innerAllowed_18 (by decide) (fun c_2 => ?_) (fun c_2 => ?_)
    · rw [if_pos c_2] at hf
      exact J40 () hf _ _ hP hD hS ls (lv_sub hl [] rfl)
    · rw [if_neg c_2] at hf
      refine lv_iload_n hx hb dX4_innerAllowed_21 rfl (lv_at hl 3 rfl) ?_
      refine lv_iload_n hx hb dX4_innerAllowed_22 rfl (lv_at hl 0 rfl) ?_
      refine lv_icmp_gt (tgt := 40) hx hb dX4_innerAllowed_23 (by decide) (fun c_3 => ?_) (fun c_3 => ?_)
      · rw [if_pos c_3] at hf
        exact J40 () hf _ _ hP hD hS ls (lv_sub hl [] rfl)
      · rw [if_neg c_3] at hf
        refine lv_iload_n hx hb dX4_innerAllowed_26 rfl (lv_at hl 3 rfl) ?_
        refine lv_aload_n hx hb dX4_innerAllowed_27 rfl (lv_at hl 1 rfl) ?_
        refine va_get (D := (dC, dI)) (ci := 4) (C := RX4) (T := TX4) (N := 5) hx hb hts (fun _ h => List.mem_cons_of_mem _ (List.mem_append_right _ h)) hown hK hP 0 rfl rfl 2 (by decide) (hts (.fieldLink RX4 9 "SkewBoard$Plan" "outer" "[I") (List.mem_of_getElem? (i := 2) rfl)) (fun _ h9 => h9) rfl dX4_innerAllowed_28 ?_
        refine lv_iload_n hx hb dX4_innerAllowed_31 rfl (lv_at hl 2 rfl) ?_
        obtain ⟨g_4, hf⟩ := gd_some hf
        refine va_iald hx hb hK hP 1 0 rfl rfl (inb_vp g_4) dX4_innerAllowed_32 ?_
        refine lv_icmp_gt (tgt := 40) hx hb dX4_innerAllowed_33 (by decide) (fun c_5 => ?_) (fun c_5 => ?_)
        · rw [if_pos c_5] at hf
          exact J40 () hf _ _ hP hD hS ls (lv_sub hl [] rfl)
        · rw [if_neg c_5] at hf
          refine lv_iconst (v := 1) hx hb dX4_innerAllowed_36 (by decide) ?_
          refine lv_goto (tgt := 41) hx hb dX4_innerAllowed_37 (by decide) ?_
          exact J41 1 hf _ _ hP hD hS ls (lv_sub hl [] rfl)
  refine lv_if_ne (tgt := 8) hx hb dX4_innerAllowed_1 (by decide) (fun c_6 => ?_) (fun c_6 => ?_)
  · rw [if_neg c_6] at hf
    refine lv_aload_n hx hb dX4_innerAllowed_8 rfl (lv_at hl 0 rfl) ?_
    refine va_get (D := (dC, dI)) (ci := 4) (C := RX4) (T := TX4) (N := 5) hx hb hts (fun _ h => List.mem_cons_of_mem _ (List.mem_append_right _ h)) hown hK hP 0 rfl rfl 3 (by decide) (hts (.fieldLink RX4 15 "SkewBoard$Plan" "inner" "[I") (List.mem_of_getElem? (i := 1) rfl)) (fun _ h9 => h9) rfl dX4_innerAllowed_9 ?_
    refine lv_iload_n hx hb dX4_innerAllowed_12 rfl (lv_at hl 1 rfl) ?_
    refine lv_iconst (v := 1) hx hb dX4_innerAllowed_13 (by decide) ?_
    refine lv_isub hx hb dX4_innerAllowed_14 ?_
    obtain ⟨g_7, hf⟩ := gd_some hf
    refine va_iald hx hb hK hP 2 0 rfl rfl (inb_vp g_7) dX4_innerAllowed_15 ?_
    exact J16 (v_inner (p1 - 1).toNatClampNeg) hf _ _ hP hD hS ls (lv_sub hl [0, 1, 2] rfl)
  · rw [if_pos c_6] at hf
    refine lv_iconst (v := 5) hx hb dX4_innerAllowed_4 (by decide) ?_
    refine lv_goto (tgt := 16) hx hb dX4_innerAllowed_5 (by decide) ?_
    exact J16 5 hf _ _ hP hD hS ls (lv_sub hl [0, 1, 2] rfl)

def fX4_lengthsAllowed_J38 (u_38 : Unit) : Option (Int32) :=
    some 0
def fX4_lengthsAllowed_L2 (v_rows : Int32) (v_outer : Nat → Int32) (v_inner : Nat → Int32) (k38 : Unit → Option (Int32)) : Nat → Int32 → Option (Int32)
  | 0, _ => none
  | n + 1, x1_2 =>
    if v_rows ≤ x1_2 then (some 1) else (gd (inb x1_2 4) (bd (fX4_outerAllowed x1_2 (v_outer x1_2.toNatClampNeg) v_outer) (fun r_3 => if r_3 = 0 then (k38 ()) else (bd (fX4_innerAllowed x1_2 (v_inner x1_2.toNatClampNeg) v_outer v_inner) (fun r_5 => if r_5 = 0 then (k38 ()) else (fX4_lengthsAllowed_L2 v_rows v_outer v_inner k38 n (x1_2 + 1)))))))
def fX4_lengthsAllowed (v_rows : Int32) (v_outer : Nat → Int32) (v_inner : Nat → Int32) : Option (Int32) :=
  fX4_lengthsAllowed_L2 v_rows v_outer v_inner fX4_lengthsAllowed_J38 fu 0
def rmX4_lengthsAllowed : Room := { frames := 1, cells := 0, slots := 0, locals := 23 }
set_option maxRecDepth 100000 in
set_option maxHeartbeats 4000000 in
theorem ctX4_lengthsAllowed (l : Launch) (z : Nat × Nat × Nat) (dC : Nat → ClassId) (dI : Nat → Nat → Nat) (cI cB cE : ClassId) (a : Nat → Nat) (v_kind : Int32) (v_rows : Int32) (v_outer : Nat → Int32) (v_inner : Nat → Int32) (v_content : Nat → Int32) (fin : Int32) (hf : fX4_lengthsAllowed v_rows v_outer v_inner = some fin) : Ct l z (dC, dI) (tyL cI cB cE) yX4_lengthsAllowed wsX4_lengthsAllowed rmX4_lengthsAllowed [.ref (a 0)] (wX4 cI cB cE a v_kind v_rows v_outer v_inner v_content) (some (.int fin)) (wX4 cI cB cE a v_kind v_rows v_outer v_inner v_content) := by
  refine Met.ofC (cc := cX4_lengthsAllowed) (maxL := 2) (ret := (some .boolean)) (by decide) rfl (Nat.le_of_ble_eq_true rfl) ?_
  intro p e s m args below meth c A Q ls hx hb hr hml hts hown hlocks hA hK hP hD hZ hS hQ hl
  have hown : s.vm.findClass RX4 = some m.cls := hown
  have hl : lv_has ls 2 [(0, .ref (a 0))] := hl
  unfold fX4_lengthsAllowed at hf
  refine lv_iconst (v := 0) hx hb dX4_lengthsAllowed_0 (by decide) ?_
  refine lv_istore_n (lv' := [(1, .int 0), (0, .ref (a 0))]) hx hb dX4_lengthsAllowed_1 rfl hl (by decide) rfl (fun ls hl => ?_)
  have J38 : ∀ (u_38 : Unit), fX4_lengthsAllowed_J38  u_38 = some fin → ∀ (H : Heap) (locs : List Loc), va_P (dC, dI) vwCl (wX4 cI cB cE a v_kind v_rows v_outer v_inner v_content) H → va_D A (wX4 cI cB cE a v_kind v_rows v_outer v_inner v_content) → va_S A s.heap H locs → ∀ (ls : Array Slot), lv_has ls 2 [] → W p l e rmX4_lengthsAllowed s m args below meth c H locs 0 0 Q (F0 m 38 ls []) := by
    intro u_38 hf H locs hP hD hS ls hl
    unfold fX4_lengthsAllowed_J38 at hf
    refine lv_iconst (v := 0) hx hb dX4_lengthsAllowed_38 (by decide) ?_
    have hQ2 := hQ
    rw [← Option.some.inj hf] at hQ2
    exact cx_zret rfl hQ2 hx hb hr hlocks hK hP hD hS dX4_lengthsAllowed_39
  have L2 : ∀ (n2 : Nat) (x1_2 : Int32), fX4_lengthsAllowed_L2 v_rows v_outer v_inner (fX4_lengthsAllowed_J38) n2 x1_2 = some fin → ∀ (H : Heap) (locs : List Loc), va_P (dC, dI) vwCl (wX4 cI cB cE a v_kind v_rows v_outer v_inner v_content) H → va_D A (wX4 cI cB cE a v_kind v_rows v_outer v_inner v_content) → va_S A s.heap H locs → ∀ (ls : Array Slot), lv_has ls 2 [(0, .ref (a 0)), (1, .int x1_2)] → W p l e rmX4_lengthsAllowed s m args below meth c H locs 0 0 Q (F0 m 2 ls []) := by
    intro n2
    induction n2 with
    | zero =>
      intro x1_2 hf
      rw [fX4_lengthsAllowed_L2] at hf
      cases hf
    | succ n2 ih2 =>
      intro x1_2 hf H locs hP hD hS ls hl
      rw [fX4_lengthsAllowed_L2] at hf
      refine lv_iload_n hx hb dX4_lengthsAllowed_2 rfl (lv_at hl 1 rfl) ?_
      refine lv_aload_n hx hb dX4_lengthsAllowed_3 rfl (lv_at hl 0 rfl) ?_
      refine va_get (D := (dC, dI)) (ci := 4) (C := RX4) (T := TX4) (N := 5) hx hb hts (fun _ h => List.mem_cons_of_mem _ (List.mem_append_right _ h)) hown hK hP 0 rfl rfl 1 (by decide) (hts (.fieldLink RX4 21 "SkewBoard$Plan" "rows" "I") (List.mem_of_getElem? (i := 1) rfl)) (fun _ h9 => h9) rfl dX4_lengthsAllowed_4 ?_
      refine lv_icmp_ge (tgt := 46) hx hb dX4_lengthsAllowed_7 (by decide) (fun c_1 => ?_) (fun c_1 => ?_)
      · rw [if_pos c_1] at hf
        refine lv_iconst (v := 1) hx hb dX4_lengthsAllowed_46 (by decide) ?_
        have hQ2 := hQ
        rw [← Option.some.inj hf] at hQ2
        exact cx_zret rfl hQ2 hx hb hr hlocks hK hP hD hS dX4_lengthsAllowed_47
      · rw [if_neg c_1] at hf
        refine lv_aload_n hx hb dX4_lengthsAllowed_10 rfl (lv_at hl 0 rfl) ?_
        refine lv_iload_n hx hb dX4_lengthsAllowed_11 rfl (lv_at hl 1 rfl) ?_
        refine lv_aload_n hx hb dX4_lengthsAllowed_12 rfl (lv_at hl 0 rfl) ?_
        refine va_get (D := (dC, dI)) (ci := 4) (C := RX4) (T := TX4) (N := 5) hx hb hts (fun _ h => List.mem_cons_of_mem _ (List.mem_append_right _ h)) hown hK hP 0 rfl rfl 2 (by decide) (hts (.fieldLink RX4 9 "SkewBoard$Plan" "outer" "[I") (List.mem_of_getElem? (i := 2) rfl)) (fun _ h9 => h9) rfl dX4_lengthsAllowed_13 ?_
        refine lv_iload_n hx hb dX4_lengthsAllowed_16 rfl (lv_at hl 1 rfl) ?_
        obtain ⟨g_2, hf⟩ := gd_some hf
        refine va_iald hx hb hK hP 1 0 rfl rfl (inb_vp g_2) dX4_lengthsAllowed_17 ?_
        obtain ⟨r_3, hr_3, hf⟩ := bd_some hf
        refine cx_runW (cx_V (As := [.int x1_2, .int (v_outer x1_2.toNatClampNeg)]) (rest := []) ⟨hx, hb, hml, hown, hts⟩ (ctX4_outerAllowed l z dC dI cI cB cE a v_kind v_rows v_outer v_inner v_content x1_2 (v_outer x1_2.toNatClampNeg) r_3 hr_3) (cwV 2 hts gX4_lengthsAllowed_X4_outerAllowed rfl rfl rfl (by decide +kernel) ⟨Nat.le_of_ble_eq_true rfl, Nat.le_of_ble_eq_true rfl⟩) hK hP hD hZ hS hA (ci := 4) (q0 := 0) rfl rfl rfl hl.1 rfl (Nat.le_of_ble_eq_true rfl) dX4_lengthsAllowed_18) hD hS hA [.int r_3] rfl (fun H locs hP hD hS => ?_)
        refine lv_if_eq (tgt := 38) hx hb dX4_lengthsAllowed_21 (by decide) (fun c_4 => ?_) (fun c_4 => ?_)
        · rw [if_pos c_4] at hf
          exact J38 () hf _ _ hP hD hS ls (lv_sub hl [] rfl)
        · rw [if_neg c_4] at hf
          refine lv_aload_n hx hb dX4_lengthsAllowed_24 rfl (lv_at hl 0 rfl) ?_
          refine lv_iload_n hx hb dX4_lengthsAllowed_25 rfl (lv_at hl 1 rfl) ?_
          refine lv_aload_n hx hb dX4_lengthsAllowed_26 rfl (lv_at hl 0 rfl) ?_
          refine va_get (D := (dC, dI)) (ci := 4) (C := RX4) (T := TX4) (N := 5) hx hb hts (fun _ h => List.mem_cons_of_mem _ (List.mem_append_right _ h)) hown hK hP 0 rfl rfl 3 (by decide) (hts (.fieldLink RX4 15 "SkewBoard$Plan" "inner" "[I") (List.mem_of_getElem? (i := 3) rfl)) (fun _ h9 => h9) rfl dX4_lengthsAllowed_27 ?_
          refine lv_iload_n hx hb dX4_lengthsAllowed_30 rfl (lv_at hl 1 rfl) ?_
          refine va_iald hx hb hK hP 2 0 rfl rfl (inb_vp g_2) dX4_lengthsAllowed_31 ?_
          obtain ⟨r_5, hr_5, hf⟩ := bd_some hf
          refine cx_runW (cx_V (As := [.int x1_2, .int (v_inner x1_2.toNatClampNeg)]) (rest := []) ⟨hx, hb, hml, hown, hts⟩ (ctX4_innerAllowed l z dC dI cI cB cE a v_kind v_rows v_outer v_inner v_content x1_2 (v_inner x1_2.toNatClampNeg) r_5 hr_5) (cwV 2 hts gX4_lengthsAllowed_X4_innerAllowed rfl rfl rfl (by decide +kernel) ⟨Nat.le_of_ble_eq_true rfl, Nat.le_of_ble_eq_true rfl⟩) hK hP hD hZ hS hA (ci := 4) (q0 := 0) rfl rfl rfl hl.1 rfl (Nat.le_of_ble_eq_true rfl) dX4_lengthsAllowed_32) hD hS hA [.int r_5] rfl (fun H locs hP hD hS => ?_)
          refine lv_if_ne (tgt := 40) hx hb dX4_lengthsAllowed_35 (by decide) (fun c_6 => ?_) (fun c_6 => ?_)
          · rw [if_neg c_6] at hf
            refine lv_iinc (v := (x1_2 + 1)) (lv' := [(1, .int (x1_2 + 1)), (0, .ref (a 0))]) hx hb dX4_lengthsAllowed_40 hl (k := 1) rfl rfl (by decide) rfl (fun ls hl => ?_)
            refine lv_goto (tgt := 2) hx hb dX4_lengthsAllowed_43 (by decide) ?_
            exact ih2 (x1_2 + 1) hf _ _ hP hD hS ls (lv_sub hl [1, 0] rfl)
          · rw [if_pos c_6] at hf
            exact J38 () hf _ _ hP hD hS ls (lv_sub hl [] rfl)
  exact L2 fu 0 hf _ _ hP hD hS ls (lv_sub hl [1, 0] rfl)

def fX4_signCount_J21 (y0_21 : Int32) : Option (Int32) :=
    some y0_21
def fX4_signCount (v_rows : Int32) : Option (Int32) :=
  fX4_signCount_J21 (if v_rows = 0 then 0 else ((3 + (2 * v_rows)) + 4))
def rmX4_signCount : Room := { frames := 0, cells := 0, slots := 0, locals := 0 }
set_option maxRecDepth 100000 in
set_option maxHeartbeats 4000000 in
theorem ctX4_signCount (l : Launch) (z : Nat × Nat × Nat) (dC : Nat → ClassId) (dI : Nat → Nat → Nat) (cI cB cE : ClassId) (a : Nat → Nat) (v_kind : Int32) (v_rows : Int32) (v_outer : Nat → Int32) (v_inner : Nat → Int32) (v_content : Nat → Int32) (fin : Int32) (hf : fX4_signCount v_rows = some fin) : Ct l z (dC, dI) (tyL cI cB cE) yX4_signCount wsX4_signCount rmX4_signCount [.ref (a 0)] (wX4 cI cB cE a v_kind v_rows v_outer v_inner v_content) (some (.int fin)) (wX4 cI cB cE a v_kind v_rows v_outer v_inner v_content) := by
  refine Met.ofC (cc := cX4_signCount) (maxL := 1) (ret := (some .int)) (by decide) rfl (Nat.le_of_ble_eq_true rfl) ?_
  intro p e s m args below meth c A Q ls hx hb hr hml hts hown hlocks hA hK hP hD hZ hS hQ hl
  have hown : s.vm.findClass RX4 = some m.cls := hown
  have hl : lv_has ls 1 [(0, .ref (a 0))] := hl
  unfold fX4_signCount at hf
  refine lv_aload_n hx hb dX4_signCount_0 rfl (lv_at hl 0 rfl) ?_
  refine va_get (D := (dC, dI)) (ci := 4) (C := RX4) (T := TX4) (N := 5) hx hb hts (fun _ h => List.mem_cons_of_mem _ (List.mem_append_right _ h)) hown hK hP 0 rfl rfl 1 (by decide) (hts (.fieldLink RX4 21 "SkewBoard$Plan" "rows" "I") (List.mem_of_getElem? (i := 1) rfl)) (fun _ h9 => h9) rfl dX4_signCount_1 ?_
  have J21 : ∀ (y0_21 : Int32), fX4_signCount_J21  y0_21 = some fin → ∀ (H : Heap) (locs : List Loc), va_P (dC, dI) vwCl (wX4 cI cB cE a v_kind v_rows v_outer v_inner v_content) H → va_D A (wX4 cI cB cE a v_kind v_rows v_outer v_inner v_content) → va_S A s.heap H locs → ∀ (ls : Array Slot), lv_has ls 1 [] → W p l e rmX4_signCount s m args below meth c H locs 0 0 Q (F0 m 21 ls [.int y0_21]) := by
    intro y0_21 hf H locs hP hD hS ls hl
    unfold fX4_signCount_J21 at hf
    have hQ2 := hQ
    rw [← Option.some.inj hf] at hQ2
    exact cx_iret hQ2 hx hb hr hlocks hK hP hD hS dX4_signCount_21
  refine lv_if_ne (tgt := 11) hx hb dX4_signCount_4 (by decide) (fun c_1 => ?_) (fun c_1 => ?_)
  · rw [if_neg c_1] at hf
    refine lv_iconst (v := 3) hx hb dX4_signCount_11 (by decide) ?_
    refine lv_iconst (v := 2) hx hb dX4_signCount_12 (by decide) ?_
    refine lv_aload_n hx hb dX4_signCount_13 rfl (lv_at hl 0 rfl) ?_
    refine va_get (D := (dC, dI)) (ci := 4) (C := RX4) (T := TX4) (N := 5) hx hb hts (fun _ h => List.mem_cons_of_mem _ (List.mem_append_right _ h)) hown hK hP 0 rfl rfl 1 (by decide) (hts (.fieldLink RX4 21 "SkewBoard$Plan" "rows" "I") (List.mem_of_getElem? (i := 1) rfl)) (fun _ h9 => h9) rfl dX4_signCount_14 ?_
    refine lv_imul hx hb dX4_signCount_17 ?_
    refine lv_iadd hx hb dX4_signCount_18 ?_
    refine lv_iconst (v := 4) hx hb dX4_signCount_19 (by decide) ?_
    refine lv_iadd hx hb dX4_signCount_20 ?_
    exact J21 ((3 + (2 * v_rows)) + 4) hf _ _ hP hD hS ls (lv_sub hl [] rfl)
  · rw [if_pos c_1] at hf
    refine lv_iconst (v := 0) hx hb dX4_signCount_7 (by decide) ?_
    refine lv_goto (tgt := 21) hx hb dX4_signCount_8 (by decide) ?_
    exact J21 0 hf _ _ hP hD hS ls (lv_sub hl [] rfl)

def fX4_signAt_J12 (u_12 : Unit) : Option (Int32) :=
    some (-101)
def fX4_signAt_J112 (y0_112 : Int32) : Option (Int32) :=
    some y0_112
def fX4_signAt (p1 : Int32) (v_kind : Int32) (v_rows : Int32) (v_outer : Nat → Int32) (v_inner : Nat → Int32) (v_content : Nat → Int32) : Option (Int32) :=
  if p1 < 0 then (fX4_signAt_J12 ()) else (bd (fX4_signCount v_rows) (fun r_2 => if p1 < r_2 then (if p1 = 0 then (bd (fJ0_charAt_5068e v_kind) (fun r_12 => some r_12)) else (if (1 + v_rows) ≤ p1 then (if p1 = (1 + v_rows) then (some 47) else (if (((1 + v_rows) + 1) + v_rows) ≤ p1 then (if p1 = (((1 + v_rows) + 1) + v_rows) then (fX4_signAt_J112 58) else (gd (inb ((p1 - (((1 + v_rows) + 1) + v_rows)) - 1) 4) (fX4_signAt_J112 (48 + (v_content ((p1 - (((1 + v_rows) + 1) + v_rows)) - 1).toNatClampNeg))))) else (gd (inb ((p1 - (1 + v_rows)) - 1) 4) (some (48 + (v_inner ((p1 - (1 + v_rows)) - 1).toNatClampNeg)))))) else (gd (inb (p1 - 1) 4) (some (48 + (v_outer (p1 - 1).toNatClampNeg)))))) else (fX4_signAt_J12 ())))
def rmX4_signAt : Room := { frames := 4, cells := 0, slots := 0, locals := 121 }
set_option maxRecDepth 100000 in
set_option maxHeartbeats 4000000 in
theorem ctX4_signAt (l : Launch) (z : Nat × Nat × Nat) (dC : Nat → ClassId) (dI : Nat → Nat → Nat) (cI cB cE : ClassId) (a : Nat → Nat) (v_kind : Int32) (v_rows : Int32) (v_outer : Nat → Int32) (v_inner : Nat → Int32) (v_content : Nat → Int32) (p1 : Int32) (fin : Int32) (hf : fX4_signAt p1 v_kind v_rows v_outer v_inner v_content = some fin) : Ct l z (dC, dI) (tyL cI cB cE) yX4_signAt wsX4_signAt rmX4_signAt [.ref (a 0), .int p1] (wX4 cI cB cE a v_kind v_rows v_outer v_inner v_content) (some (.int fin)) (wX4 cI cB cE a v_kind v_rows v_outer v_inner v_content) := by
  refine Met.ofC (cc := cX4_signAt) (maxL := 4) (ret := (some .int)) (by decide) rfl (Nat.le_of_ble_eq_true rfl) ?_
  intro p e s m args below meth c A Q ls hx hb hr hml hts hown hlocks hA hK hP hD hZ hS hQ hl
  have hown : s.vm.findClass RX4 = some m.cls := hown
  have hl : lv_has ls 4 [(0, .ref (a 0)), (1, .int p1)] := hl
  unfold fX4_signAt at hf
  refine lv_iload_n hx hb dX4_signAt_0 rfl (lv_at hl 1 rfl) ?_
  have J12 : ∀ (u_12 : Unit), fX4_signAt_J12  u_12 = some fin → ∀ (H : Heap) (locs : List Loc), va_P (dC, dI) vwCl (wX4 cI cB cE a v_kind v_rows v_outer v_inner v_content) H → va_D A (wX4 cI cB cE a v_kind v_rows v_outer v_inner v_content) → va_S A s.heap H locs → ∀ (ls : Array Slot), lv_has ls 4 [] → W p l e rmX4_signAt s m args below meth c H locs 0 0 Q (F0 m 12 ls []) := by
    intro u_12 hf H locs hP hD hS ls hl
    unfold fX4_signAt_J12 at hf
    refine lv_bipush (v := (-101)) hx hb dX4_signAt_12 (by decide) ?_
    have hQ2 := hQ
    rw [← Option.some.inj hf] at hQ2
    exact cx_iret hQ2 hx hb hr hlocks hK hP hD hS dX4_signAt_14
  refine lv_if_lt (tgt := 12) hx hb dX4_signAt_1 (by decide) (fun c_1 => ?_) (fun c_1 => ?_)
  · rw [if_pos c_1] at hf
    exact J12 () hf _ _ hP hD hS ls (lv_sub hl [] rfl)
  · rw [if_neg c_1] at hf
    refine lv_iload_n hx hb dX4_signAt_4 rfl (lv_at hl 1 rfl) ?_
    refine lv_aload_n hx hb dX4_signAt_5 rfl (lv_at hl 0 rfl) ?_
    obtain ⟨r_2, hr_2, hf⟩ := bd_some hf
    refine cx_runW (cx_V (As := []) (rest := [.int p1]) ⟨hx, hb, hml, hown, hts⟩ (ctX4_signCount l z dC dI cI cB cE a v_kind v_rows v_outer v_inner v_content r_2 hr_2) (cwV 0 hts gX4_signAt_X4_signCount rfl rfl rfl (by decide +kernel) ⟨Nat.le_of_ble_eq_true rfl, Nat.le_of_ble_eq_true rfl⟩) hK hP hD hZ hS hA (ci := 4) (q0 := 0) rfl rfl rfl hl.1 rfl (Nat.le_of_ble_eq_true rfl) dX4_signAt_6) hD hS hA [.int r_2, .int p1] rfl (fun H locs hP hD hS => ?_)
    refine lv_icmp_lt (tgt := 15) hx hb dX4_signAt_9 (by decide) (fun c_3 => ?_) (fun c_3 => ?_)
    · rw [if_pos c_3] at hf
      refine lv_iconst (v := 1) hx hb dX4_signAt_15 (by decide) ?_
      refine lv_aload_n hx hb dX4_signAt_16 rfl (lv_at hl 0 rfl) ?_
      refine va_get (D := (dC, dI)) (ci := 4) (C := RX4) (T := TX4) (N := 5) hx hb hts (fun _ h => List.mem_cons_of_mem _ (List.mem_append_right _ h)) hown hK hP 0 rfl rfl 1 (by decide) (hts (.fieldLink RX4 21 "SkewBoard$Plan" "rows" "I") (List.mem_of_getElem? (i := 1) rfl)) (fun _ h9 => h9) rfl dX4_signAt_17 ?_
      refine lv_iadd hx hb dX4_signAt_20 ?_
      refine lv_istore_n (lv' := [(2, .int (1 + v_rows)), (0, .ref (a 0)), (1, .int p1)]) hx hb dX4_signAt_21 rfl hl (by decide) rfl (fun ls hl => ?_)
      refine lv_iload_n hx hb dX4_signAt_22 rfl (lv_at hl 0 rfl) ?_
      refine lv_iconst (v := 1) hx hb dX4_signAt_23 (by decide) ?_
      refine lv_iadd hx hb dX4_signAt_24 ?_
      refine lv_aload_n hx hb dX4_signAt_25 rfl (lv_at hl 1 rfl) ?_
      refine va_get (D := (dC, dI)) (ci := 4) (C := RX4) (T := TX4) (N := 5) hx hb hts (fun _ h => List.mem_cons_of_mem _ (List.mem_append_right _ h)) hown hK hP 0 rfl rfl 1 (by decide) (hts (.fieldLink RX4 21 "SkewBoard$Plan" "rows" "I") (List.mem_of_getElem? (i := 1) rfl)) (fun _ h9 => h9) rfl dX4_signAt_26 ?_
      refine lv_iadd hx hb dX4_signAt_29 ?_
      refine lv_istore_n (lv' := [(3, .int (((1 + v_rows) + 1) + v_rows)), (2, .int (1 + v_rows)), (0, .ref (a 0)), (1, .int p1)]) hx hb dX4_signAt_30 rfl hl (by decide) rfl (fun ls hl => ?_)
      refine lv_iload_n hx hb dX4_signAt_31 rfl (lv_at hl 3 rfl) ?_
      refine lv_if_ne (tgt := 45) hx hb dX4_signAt_32 (by decide) (fun c_4 => ?_) (fun c_4 => ?_)
      · rw [if_neg c_4] at hf
        refine lv_iload_n hx hb dX4_signAt_45 rfl (lv_at hl 3 rfl) ?_
        refine lv_iload_n hx hb dX4_signAt_46 rfl (lv_at hl 1 rfl) ?_
        refine lv_icmp_ge (tgt := 62) hx hb dX4_signAt_47 (by decide) (fun c_5 => ?_) (fun c_5 => ?_)
        · rw [if_pos c_5] at hf
          refine lv_iload_n hx hb dX4_signAt_62 rfl (lv_at hl 3 rfl) ?_
          refine lv_iload_n hx hb dX4_signAt_63 rfl (lv_at hl 1 rfl) ?_
          refine lv_icmp_ne (tgt := 70) hx hb dX4_signAt_64 (by decide) (fun c_6 => ?_) (fun c_6 => ?_)
          · rw [if_neg c_6] at hf
            refine lv_iload_n hx hb dX4_signAt_70 rfl (lv_at hl 3 rfl) ?_
            refine lv_iload_n hx hb dX4_signAt_71 rfl (lv_at hl 0 rfl) ?_
            refine lv_icmp_ge (tgt := 89) hx hb dX4_signAt_72 (by decide) (fun c_7 => ?_) (fun c_7 => ?_)
            · rw [if_pos c_7] at hf
              refine lv_iload_n hx hb dX4_signAt_89 rfl (lv_at hl 3 rfl) ?_
              refine lv_iload_n hx hb dX4_signAt_90 rfl (lv_at hl 0 rfl) ?_
              have J112 : ∀ (y0_112 : Int32), fX4_signAt_J112  y0_112 = some fin → ∀ (H : Heap) (locs : List Loc), va_P (dC, dI) vwCl (wX4 cI cB cE a v_kind v_rows v_outer v_inner v_content) H → va_D A (wX4 cI cB cE a v_kind v_rows v_outer v_inner v_content) → va_S A s.heap H locs → ∀ (ls : Array Slot), lv_has ls 4 [] → W p l e rmX4_signAt s m args below meth c H locs 0 0 Q (F0 m 112 ls [.int y0_112]) := by
                intro y0_112 hf H locs hP hD hS ls hl
                unfold fX4_signAt_J112 at hf
                have hQ2 := hQ
                rw [← Option.some.inj hf] at hQ2
                exact cx_iret hQ2 hx hb hr hlocks hK hP hD hS dX4_signAt_112
              refine lv_icmp_ne (tgt := 99) hx hb dX4_signAt_91 (by decide) (fun c_8 => ?_) (fun c_8 => ?_)
              · rw [if_neg c_8] at hf
                refine lv_bipush (v := 48) hx hb dX4_signAt_99 (by decide) ?_
                refine lv_aload_n hx hb dX4_signAt_101 rfl (lv_at hl 2 rfl) ?_
                refine va_get (D := (dC, dI)) (ci := 4) (C := RX4) (T := TX4) (N := 5) hx hb hts (fun _ h => List.mem_cons_of_mem _ (List.mem_append_right _ h)) hown hK hP 0 rfl rfl 4 (by decide) (hts (.fieldLink RX4 18 "SkewBoard$Plan" "content" "[I") (List.mem_of_getElem? (i := 5) rfl)) (fun _ h9 => h9) rfl dX4_signAt_102 ?_
                refine lv_iload_n hx hb dX4_signAt_105 rfl (lv_at hl 3 rfl) ?_
                refine lv_iload_n hx hb dX4_signAt_106 rfl (lv_at hl 0 rfl) ?_
                refine lv_isub hx hb dX4_signAt_107 ?_
                refine lv_iconst (v := 1) hx hb dX4_signAt_108 (by decide) ?_
                refine lv_isub hx hb dX4_signAt_109 ?_
                obtain ⟨g_9, hf⟩ := gd_some hf
                refine va_iald hx hb hK hP 3 0 rfl rfl (inb_vp g_9) dX4_signAt_110 ?_
                refine lv_iadd hx hb dX4_signAt_111 ?_
                exact J112 (48 + (v_content ((p1 - (((1 + v_rows) + 1) + v_rows)) - 1).toNatClampNeg)) hf _ _ hP hD hS ls (lv_sub hl [] rfl)
              · rw [if_pos c_8] at hf
                refine lv_bipush (v := 58) hx hb dX4_signAt_94 (by decide) ?_
                refine lv_goto (tgt := 112) hx hb dX4_signAt_96 (by decide) ?_
                exact J112 58 hf _ _ hP hD hS ls (lv_sub hl [] rfl)
            · rw [if_neg c_7] at hf
              refine lv_bipush (v := 48) hx hb dX4_signAt_75 (by decide) ?_
              refine lv_aload_n hx hb dX4_signAt_77 rfl (lv_at hl 2 rfl) ?_
              refine va_get (D := (dC, dI)) (ci := 4) (C := RX4) (T := TX4) (N := 5) hx hb hts (fun _ h => List.mem_cons_of_mem _ (List.mem_append_right _ h)) hown hK hP 0 rfl rfl 3 (by decide) (hts (.fieldLink RX4 15 "SkewBoard$Plan" "inner" "[I") (List.mem_of_getElem? (i := 4) rfl)) (fun _ h9 => h9) rfl dX4_signAt_78 ?_
              refine lv_iload_n hx hb dX4_signAt_81 rfl (lv_at hl 3 rfl) ?_
              refine lv_iload_n hx hb dX4_signAt_82 rfl (lv_at hl 1 rfl) ?_
              refine lv_isub hx hb dX4_signAt_83 ?_
              refine lv_iconst (v := 1) hx hb dX4_signAt_84 (by decide) ?_
              refine lv_isub hx hb dX4_signAt_85 ?_
              obtain ⟨g_10, hf⟩ := gd_some hf
              refine va_iald hx hb hK hP 2 0 rfl rfl (inb_vp g_10) dX4_signAt_86 ?_
              refine lv_iadd hx hb dX4_signAt_87 ?_
              have hQ2 := hQ
              rw [← Option.some.inj hf] at hQ2
              exact cx_iret hQ2 hx hb hr hlocks hK hP hD hS dX4_signAt_88
          · rw [if_pos c_6] at hf
            refine lv_bipush (v := 47) hx hb dX4_signAt_67 (by decide) ?_
            have hQ2 := hQ
            rw [← Option.some.inj hf] at hQ2
            exact cx_iret hQ2 hx hb hr hlocks hK hP hD hS dX4_signAt_69
        · rw [if_neg c_5] at hf
          refine lv_bipush (v := 48) hx hb dX4_signAt_50 (by decide) ?_
          refine lv_aload_n hx hb dX4_signAt_52 rfl (lv_at hl 2 rfl) ?_
          refine va_get (D := (dC, dI)) (ci := 4) (C := RX4) (T := TX4) (N := 5) hx hb hts (fun _ h => List.mem_cons_of_mem _ (List.mem_append_right _ h)) hown hK hP 0 rfl rfl 2 (by decide) (hts (.fieldLink RX4 9 "SkewBoard$Plan" "outer" "[I") (List.mem_of_getElem? (i := 3) rfl)) (fun _ h9 => h9) rfl dX4_signAt_53 ?_
          refine lv_iload_n hx hb dX4_signAt_56 rfl (lv_at hl 3 rfl) ?_
          refine lv_iconst (v := 1) hx hb dX4_signAt_57 (by decide) ?_
          refine lv_isub hx hb dX4_signAt_58 ?_
          obtain ⟨g_11, hf⟩ := gd_some hf
          refine va_iald hx hb hK hP 1 0 rfl rfl (inb_vp g_11) dX4_signAt_59 ?_
          refine lv_iadd hx hb dX4_signAt_60 ?_
          have hQ2 := hQ
          rw [← Option.some.inj hf] at hQ2
          exact cx_iret hQ2 hx hb hr hlocks hK hP hD hS dX4_signAt_61
      · rw [if_pos c_4] at hf
        refine va_ldcS hx hb hown hZ.2.2.2.2.2.2.1 dX4_signAt_35 ?_
        refine lv_aload_n hx hb dX4_signAt_37 rfl (lv_at hl 2 rfl) ?_
        refine va_get (D := (dC, dI)) (ci := 4) (C := RX4) (T := TX4) (N := 5) hx hb hts (fun _ h => List.mem_cons_of_mem _ (List.mem_append_right _ h)) hown hK hP 0 rfl rfl 0 (by decide) (hts (.fieldLink RX4 25 "SkewBoard$Plan" "kind" "I") (List.mem_of_getElem? (i := 2) rfl)) (fun _ h9 => h9) rfl dX4_signAt_38 ?_
        obtain ⟨r_12, hr_12, hf⟩ := bd_some hf
        refine cx_run0 (cx_VR (A := A) (As := [.int v_kind]) (rest := []) ⟨hx, hb, hml, hown, hts⟩ (ctJ0_charAt_5068e l z dC dI cI cB cE v_kind r_12 hr_12) (cwV 1 hts gX4_signAt_J0_charAt_5068e rfl rfl rfl (by decide +kernel) ⟨Nat.le_of_ble_eq_true rfl, Nat.le_of_ble_eq_true rfl⟩) hK vaP0 vaD0 hZ hS hA (vk_recv (i := 0) hZ.2.2.2.2.1 (by decide) hS) rfl hl.1 rfl (Nat.le_of_ble_eq_true rfl) dX4_signAt_41) hP hS hA [.int r_12] rfl (fun H locs hP hS => ?_)
        have hQ2 := hQ
        rw [← Option.some.inj hf] at hQ2
        exact cx_iret hQ2 hx hb hr hlocks hK hP hD hS dX4_signAt_44
    · rw [if_neg c_3] at hf
      exact J12 () hf _ _ hP hD hS ls (lv_sub hl [] rfl)

