def fX8_term_J57 (r_3 : Int32 × Int32 × (Nat → Int32) × (Nat → Int32) × Int32 × (Nat → Int32) × (Nat → Int32) × (Nat → Int32) × (Nat → Int32)) (y0_57 : Int32) : Option (Int32 × Int32 × Int32 × (Nat → Int32) × (Nat → Int32) × Int32 × (Nat → Int32) × (Nat → Int32) × (Nat → Int32) × (Nat → Int32)) :=
    some (y0_57, r_3.1, r_3.2.1, r_3.2.2.1, r_3.2.2.2.1, r_3.2.2.2.2.1, r_3.2.2.2.2.2.1, r_3.2.2.2.2.2.2.1, r_3.2.2.2.2.2.2.2.1, r_3.2.2.2.2.2.2.2.2)
def fX8_term (p1 : Int32) (p2 : Int32) (v_rows : Int32) (v_inner : Nat → Int32) (v_content : Nat → Int32) (v_isTermed : Int32) (v_terms : Int32) (v_term : Nat → Int32) (v_shape : Nat → Int32) (v_readBoxes : Int32) (v_readRow : Nat → Int32) (v_readColumn : Nat → Int32) (v_grid : Nat → Int32) (v_often : Nat → Int32) : Option (Int32 × Int32 × Int32 × (Nat → Int32) × (Nat → Int32) × Int32 × (Nat → Int32) × (Nat → Int32) × (Nat → Int32) × (Nat → Int32)) :=
  bd (fX8_isBoard v_rows) (fun r_1 => if r_1 = 0 then (some ((-101), v_isTermed, v_terms, v_term, v_shape, v_readBoxes, v_readRow, v_readColumn, v_grid, v_often)) else (bd (fX8_layTerms v_inner v_content v_isTermed v_terms v_term v_shape v_readBoxes v_readRow v_readColumn v_grid v_often) (fun r_3 => bd (fX8_within p1 0 (r_3.2.1 - 1)) (fun r_4 => if r_4 = 0 then (fX8_term_J57 r_3 (-101)) else (bd (fX8_within p2 0 4) (fun r_6 => if r_6 = 0 then (fX8_term_J57 r_3 (-102)) else (gd (inb ((5 * p1) + p2) 1500) (fX8_term_J57 r_3 (r_3.2.2.1 ((5 * p1) + p2).toNatClampNeg)))))))))
def rmX8_term : Room := { frames := 6, cells := 0, slots := 0, locals := 139 }
set_option maxRecDepth 100000 in
set_option maxHeartbeats 4000000 in
theorem ctX8_term (l : Launch) (z : Nat × Nat × Nat) (dC : Nat → ClassId) (dI : Nat → Nat → Nat) (cI cB cE : ClassId) (a : Nat → Nat) (v_boards : Int32) (v_kind : Int32) (v_rows : Int32) (v_outer : Nat → Int32) (v_inner : Nat → Int32) (v_content : Nat → Int32) (v_boxes : Int32) (v_rowOf : Nat → Int32) (v_columnOf : Nat → Int32) (v_seen : Int32) (v_seenWhat : Nat → Int32) (v_seenCan : Nat → Int32) (v_pageLength : Int32) (v_page : Nat → Int32) (v_isWhole : Int32) (v_newKind : Int32) (v_newRows : Int32) (v_newOuter : Nat → Int32) (v_newInner : Nat → Int32) (v_newContent : Nat → Int32) (v_now : Nat → Int32) (v_left : Nat → Int32) (v_box : Int32) (v_isCounted : Int32) (v_counted : Int32) (v_given : Nat → Int32) (v_isTermed : Int32) (v_terms : Int32) (v_term : Nat → Int32) (v_shape : Nat → Int32) (v_readBoxes : Int32) (v_readRow : Nat → Int32) (v_readColumn : Nat → Int32) (v_grid : Nat → Int32) (v_often : Nat → Int32) (v_seedNow : Int64) (v_isKept : Int32) (v_keptBoard : Int32) (v_keptKind : Int32) (v_keptRows : Int32) (v_keptSeen : Int32) (v_keptOuter : Nat → Int32) (v_keptInner : Nat → Int32) (v_keptContent : Nat → Int32) (v_keptWhat : Nat → Int32) (v_keptCan : Nat → Int32) (v_h : Int64) (p1 : Int32) (p2 : Int32) (fin : Int32 × Int32 × Int32 × (Nat → Int32) × (Nat → Int32) × Int32 × (Nat → Int32) × (Nat → Int32) × (Nat → Int32) × (Nat → Int32)) (hf : fX8_term p1 p2 v_rows v_inner v_content v_isTermed v_terms v_term v_shape v_readBoxes v_readRow v_readColumn v_grid v_often = some fin) : Ct l z (dC, dI) (tyL cI cB cE) yX8_term wsX8_term rmX8_term [.ref (a 0), .int p1, .int p2] (wX8 cI cB cE a v_boards v_kind v_rows v_outer v_inner v_content v_boxes v_rowOf v_columnOf v_seen v_seenWhat v_seenCan v_pageLength v_page v_isWhole v_newKind v_newRows v_newOuter v_newInner v_newContent v_now v_left v_box v_isCounted v_counted v_given v_isTermed v_terms v_term v_shape v_readBoxes v_readRow v_readColumn v_grid v_often v_seedNow v_isKept v_keptBoard v_keptKind v_keptRows v_keptSeen v_keptOuter v_keptInner v_keptContent v_keptWhat v_keptCan v_h) (some (.int fin.1)) (wX8 cI cB cE a v_boards v_kind v_rows v_outer v_inner v_content v_boxes v_rowOf v_columnOf v_seen v_seenWhat v_seenCan v_pageLength v_page v_isWhole v_newKind v_newRows v_newOuter v_newInner v_newContent v_now v_left v_box v_isCounted v_counted v_given fin.2.1 fin.2.2.1 fin.2.2.2.1 fin.2.2.2.2.1 fin.2.2.2.2.2.1 fin.2.2.2.2.2.2.1 fin.2.2.2.2.2.2.2.1 fin.2.2.2.2.2.2.2.2.1 fin.2.2.2.2.2.2.2.2.2 v_seedNow v_isKept v_keptBoard v_keptKind v_keptRows v_keptSeen v_keptOuter v_keptInner v_keptContent v_keptWhat v_keptCan v_h) := by
  refine Met.ofC (cc := cX8_term) (maxL := 3) (ret := (some .int)) (by decide) rfl (Nat.le_of_ble_eq_true rfl) ?_
  intro p e s m args below meth c A Q ls hx hb hr hml hts hown hlocks hA hK hP hD hZ hS hQ hl
  have hown : s.vm.findClass RX8 = some m.cls := hown
  have hl : lv_has ls 3 [(0, .ref (a 0)), (1, .int p1), (2, .int p2)] := hl
  unfold fX8_term at hf
  refine lv_aload_n hx hb dX8_term_0 rfl (lv_at hl 0 rfl) ?_
  obtain ⟨r_1, hr_1, hf⟩ := bd_some hf
  refine cx_runW (cx_V (As := []) (rest := []) ⟨hx, hb, hml, hown, hts⟩ (ctX8_isBoard l z dC dI cI cB cE a v_boards v_kind v_rows v_outer v_inner v_content v_boxes v_rowOf v_columnOf v_seen v_seenWhat v_seenCan v_pageLength v_page v_isWhole v_newKind v_newRows v_newOuter v_newInner v_newContent v_now v_left v_box v_isCounted v_counted v_given v_isTermed v_terms v_term v_shape v_readBoxes v_readRow v_readColumn v_grid v_often v_seedNow v_isKept v_keptBoard v_keptKind v_keptRows v_keptSeen v_keptOuter v_keptInner v_keptContent v_keptWhat v_keptCan v_h r_1 hr_1) (cwV 0 hts gX8_term_X8_isBoard rfl rfl rfl (by decide +kernel) ⟨Nat.le_of_ble_eq_true rfl, Nat.le_of_ble_eq_true rfl⟩) hK hP hD hZ hS hA (ci := 8) (q0 := 0) rfl rfl rfl hl.1 rfl (Nat.le_of_ble_eq_true rfl) dX8_term_1) hD hS hA [.int r_1] rfl (fun H locs hP hD hS => ?_)
  refine lv_if_ne (tgt := 10) hx hb dX8_term_4 (by decide) (fun c_2 => ?_) (fun c_2 => ?_)
  · rw [if_neg c_2] at hf
    refine lv_aload_n hx hb dX8_term_10 rfl (lv_at hl 0 rfl) ?_
    obtain ⟨r_3, hr_3, hf⟩ := bd_some hf
    refine cx_runW (cx_V (As := []) (rest := []) ⟨hx, hb, hml, hown, hts⟩ (ctX8_layTerms l z dC dI cI cB cE a v_boards v_kind v_rows v_outer v_inner v_content v_boxes v_rowOf v_columnOf v_seen v_seenWhat v_seenCan v_pageLength v_page v_isWhole v_newKind v_newRows v_newOuter v_newInner v_newContent v_now v_left v_box v_isCounted v_counted v_given v_isTermed v_terms v_term v_shape v_readBoxes v_readRow v_readColumn v_grid v_often v_seedNow v_isKept v_keptBoard v_keptKind v_keptRows v_keptSeen v_keptOuter v_keptInner v_keptContent v_keptWhat v_keptCan v_h r_3 hr_3) (cwV 0 hts gX8_term_X8_layTerms rfl rfl rfl (by decide +kernel) ⟨Nat.le_of_ble_eq_true rfl, Nat.le_of_ble_eq_true rfl⟩) hK hP hD hZ hS hA (ci := 8) (q0 := 0) rfl rfl rfl hl.1 rfl (Nat.le_of_ble_eq_true rfl) dX8_term_11) hD hS hA [] rfl (fun H locs hP hD hS => ?_)
    refine lv_iload_n hx hb dX8_term_14 rfl (lv_at hl 1 rfl) ?_
    refine lv_iconst (v := 0) hx hb dX8_term_15 (by decide) ?_
    refine lv_aload_n hx hb dX8_term_16 rfl (lv_at hl 0 rfl) ?_
    refine va_get (D := (dC, dI)) (ci := 8) (C := RX8) (T := TX8) (N := 47) hx hb hts (fun _ h => List.mem_cons_of_mem _ (List.mem_append_right _ h)) hown hK hP 0 rfl rfl 27 (by decide) (hts (.fieldLink RX8 248 "SkewBoardModel" "terms" "I") (List.mem_of_getElem? (i := 1) rfl)) (fun _ h9 => h9) rfl dX8_term_17 ?_
    refine lv_iconst (v := 1) hx hb dX8_term_20 (by decide) ?_
    refine lv_isub hx hb dX8_term_21 ?_
    obtain ⟨r_4, hr_4, hf⟩ := bd_some hf
    refine cx_run0 (cx_S (A := A) (As := [.int p1, .int 0, .int (r_3.2.1 - 1)]) (rest := []) ⟨hx, hb, hml, hown, hts⟩ (ctX8_within l z dC dI cI cB cE p1 0 (r_3.2.1 - 1) r_4 hr_4) (va_cwS 3 hts gX8_term_X8_within rfl rfl rfl (by decide +kernel) ⟨Nat.le_of_ble_eq_true rfl, Nat.le_of_ble_eq_true rfl⟩) hK vaP0 vaD0 hZ hS hA rfl hl.1 rfl (Nat.le_of_ble_eq_true rfl) dX8_term_22) hP hS hA [.int r_4] rfl (fun H locs hP hS => ?_)
    have J57 : ∀ (y0_57 : Int32), fX8_term_J57 r_3 y0_57 = some fin → ∀ (H : Heap) (locs : List Loc), va_P (dC, dI) vwCl (wX8 cI cB cE a v_boards v_kind v_rows v_outer v_inner v_content v_boxes v_rowOf v_columnOf v_seen v_seenWhat v_seenCan v_pageLength v_page v_isWhole v_newKind v_newRows v_newOuter v_newInner v_newContent v_now v_left v_box v_isCounted v_counted v_given r_3.1 r_3.2.1 r_3.2.2.1 r_3.2.2.2.1 r_3.2.2.2.2.1 r_3.2.2.2.2.2.1 r_3.2.2.2.2.2.2.1 r_3.2.2.2.2.2.2.2.1 r_3.2.2.2.2.2.2.2.2 v_seedNow v_isKept v_keptBoard v_keptKind v_keptRows v_keptSeen v_keptOuter v_keptInner v_keptContent v_keptWhat v_keptCan v_h) H → va_D A (wX8 cI cB cE a v_boards v_kind v_rows v_outer v_inner v_content v_boxes v_rowOf v_columnOf v_seen v_seenWhat v_seenCan v_pageLength v_page v_isWhole v_newKind v_newRows v_newOuter v_newInner v_newContent v_now v_left v_box v_isCounted v_counted v_given r_3.1 r_3.2.1 r_3.2.2.1 r_3.2.2.2.1 r_3.2.2.2.2.1 r_3.2.2.2.2.2.1 r_3.2.2.2.2.2.2.1 r_3.2.2.2.2.2.2.2.1 r_3.2.2.2.2.2.2.2.2 v_seedNow v_isKept v_keptBoard v_keptKind v_keptRows v_keptSeen v_keptOuter v_keptInner v_keptContent v_keptWhat v_keptCan v_h) → va_S A s.heap H locs → ∀ (ls : Array Slot), lv_has ls 3 [] → W p l e rmX8_term s m args below meth c H locs 0 0 Q (F0 m 57 ls [.int y0_57]) := by
      intro y0_57 hf H locs hP hD hS ls hl
      unfold fX8_term_J57 at hf
      have hQ2 := hQ
      rw [← Option.some.inj hf] at hQ2
      exact cx_iret hQ2 hx hb hr hlocks hK hP hD hS dX8_term_57
    refine lv_if_ne (tgt := 33) hx hb dX8_term_25 (by decide) (fun c_5 => ?_) (fun c_5 => ?_)
    · rw [if_neg c_5] at hf
      refine lv_iload_n hx hb dX8_term_33 rfl (lv_at hl 2 rfl) ?_
      refine lv_iconst (v := 0) hx hb dX8_term_34 (by decide) ?_
      refine lv_iconst (v := 4) hx hb dX8_term_35 (by decide) ?_
      obtain ⟨r_6, hr_6, hf⟩ := bd_some hf
      refine cx_run0 (cx_S (A := A) (As := [.int p2, .int 0, .int 4]) (rest := []) ⟨hx, hb, hml, hown, hts⟩ (ctX8_within l z dC dI cI cB cE p2 0 4 r_6 hr_6) (va_cwS 3 hts gX8_term_X8_within rfl rfl rfl (by decide +kernel) ⟨Nat.le_of_ble_eq_true rfl, Nat.le_of_ble_eq_true rfl⟩) hK vaP0 vaD0 hZ hS hA rfl hl.1 rfl (Nat.le_of_ble_eq_true rfl) dX8_term_36) hP hS hA [.int r_6] rfl (fun H locs hP hS => ?_)
      refine lv_if_eq (tgt := 55) hx hb dX8_term_39 (by decide) (fun c_7 => ?_) (fun c_7 => ?_)
      · rw [if_pos c_7] at hf
        refine lv_bipush (v := (-102)) hx hb dX8_term_55 (by decide) ?_
        exact J57 (-102) hf _ _ hP hD hS ls (lv_sub hl [] rfl)
      · rw [if_neg c_7] at hf
        refine lv_aload_n hx hb dX8_term_42 rfl (lv_at hl 0 rfl) ?_
        refine va_get (D := (dC, dI)) (ci := 8) (C := RX8) (T := TX8) (N := 47) hx hb hts (fun _ h => List.mem_cons_of_mem _ (List.mem_append_right _ h)) hown hK hP 0 rfl rfl 28 (by decide) (hts (.fieldLink RX8 53 "SkewBoardModel" "term" "[I") (List.mem_of_getElem? (i := 2) rfl)) (fun _ h9 => h9) rfl dX8_term_43 ?_
        refine lv_iconst (v := 5) hx hb dX8_term_46 (by decide) ?_
        refine lv_iload_n hx hb dX8_term_47 rfl (lv_at hl 1 rfl) ?_
        refine lv_imul hx hb dX8_term_48 ?_
        refine lv_iload_n hx hb dX8_term_49 rfl (lv_at hl 2 rfl) ?_
        refine lv_iadd hx hb dX8_term_50 ?_
        obtain ⟨g_8, hf⟩ := gd_some hf
        refine va_iald hx hb hK hP 15 0 rfl rfl (inb_vp g_8) dX8_term_51 ?_
        refine lv_goto (tgt := 57) hx hb dX8_term_52 (by decide) ?_
        exact J57 (r_3.2.2.1 ((5 * p1) + p2).toNatClampNeg) hf _ _ hP hD hS ls (lv_sub hl [] rfl)
    · rw [if_pos c_5] at hf
      refine lv_bipush (v := (-101)) hx hb dX8_term_28 (by decide) ?_
      refine lv_goto (tgt := 57) hx hb dX8_term_30 (by decide) ?_
      exact J57 (-101) hf _ _ hP hD hS ls (lv_sub hl [] rfl)
  · rw [if_pos c_2] at hf
    refine lv_bipush (v := (-101)) hx hb dX8_term_7 (by decide) ?_
    have hQ2 := hQ
    rw [← Option.some.inj hf] at hQ2
    exact cx_iret hQ2 hx hb hr hlocks hK hP hD hS dX8_term_9

def fX8_timesOfAll_L8 (r_1 : Int32 × Int32 × (Nat → Int32) × (Nat → Int32) × Int32 × (Nat → Int32) × (Nat → Int32) × (Nat → Int32) × (Nat → Int32)) : Nat → Int32 → Int32 → Option (Int32 × Int32 × Int32 × (Nat → Int32) × (Nat → Int32) × Int32 × (Nat → Int32) × (Nat → Int32) × (Nat → Int32) × (Nat → Int32))
  | 0, _, _ => none
  | n + 1, x1_8, x2_8 =>
    if r_1.2.1 ≤ x2_8 then (some (x1_8, r_1.1, r_1.2.1, r_1.2.2.1, r_1.2.2.2.1, r_1.2.2.2.2.1, r_1.2.2.2.2.2.1, r_1.2.2.2.2.2.2.1, r_1.2.2.2.2.2.2.2.1, r_1.2.2.2.2.2.2.2.2)) else (gd (inb ((5 * x2_8) + 4) 1500) (fX8_timesOfAll_L8 r_1 n (x1_8 + (r_1.2.2.1 ((5 * x2_8) + 4).toNatClampNeg)) (x2_8 + 1)))
def fX8_timesOfAll (v_inner : Nat → Int32) (v_content : Nat → Int32) (v_isTermed : Int32) (v_terms : Int32) (v_term : Nat → Int32) (v_shape : Nat → Int32) (v_readBoxes : Int32) (v_readRow : Nat → Int32) (v_readColumn : Nat → Int32) (v_grid : Nat → Int32) (v_often : Nat → Int32) : Option (Int32 × Int32 × Int32 × (Nat → Int32) × (Nat → Int32) × Int32 × (Nat → Int32) × (Nat → Int32) × (Nat → Int32) × (Nat → Int32)) :=
  bd (fX8_layTerms v_inner v_content v_isTermed v_terms v_term v_shape v_readBoxes v_readRow v_readColumn v_grid v_often) (fun r_1 => fX8_timesOfAll_L8 r_1 fu 0 0)
def rmX8_timesOfAll : Room := { frames := 6, cells := 0, slots := 0, locals := 139 }
set_option maxRecDepth 100000 in
set_option maxHeartbeats 4000000 in
theorem ctX8_timesOfAll (l : Launch) (z : Nat × Nat × Nat) (dC : Nat → ClassId) (dI : Nat → Nat → Nat) (cI cB cE : ClassId) (a : Nat → Nat) (v_boards : Int32) (v_kind : Int32) (v_rows : Int32) (v_outer : Nat → Int32) (v_inner : Nat → Int32) (v_content : Nat → Int32) (v_boxes : Int32) (v_rowOf : Nat → Int32) (v_columnOf : Nat → Int32) (v_seen : Int32) (v_seenWhat : Nat → Int32) (v_seenCan : Nat → Int32) (v_pageLength : Int32) (v_page : Nat → Int32) (v_isWhole : Int32) (v_newKind : Int32) (v_newRows : Int32) (v_newOuter : Nat → Int32) (v_newInner : Nat → Int32) (v_newContent : Nat → Int32) (v_now : Nat → Int32) (v_left : Nat → Int32) (v_box : Int32) (v_isCounted : Int32) (v_counted : Int32) (v_given : Nat → Int32) (v_isTermed : Int32) (v_terms : Int32) (v_term : Nat → Int32) (v_shape : Nat → Int32) (v_readBoxes : Int32) (v_readRow : Nat → Int32) (v_readColumn : Nat → Int32) (v_grid : Nat → Int32) (v_often : Nat → Int32) (v_seedNow : Int64) (v_isKept : Int32) (v_keptBoard : Int32) (v_keptKind : Int32) (v_keptRows : Int32) (v_keptSeen : Int32) (v_keptOuter : Nat → Int32) (v_keptInner : Nat → Int32) (v_keptContent : Nat → Int32) (v_keptWhat : Nat → Int32) (v_keptCan : Nat → Int32) (v_h : Int64) (fin : Int32 × Int32 × Int32 × (Nat → Int32) × (Nat → Int32) × Int32 × (Nat → Int32) × (Nat → Int32) × (Nat → Int32) × (Nat → Int32)) (hf : fX8_timesOfAll v_inner v_content v_isTermed v_terms v_term v_shape v_readBoxes v_readRow v_readColumn v_grid v_often = some fin) : Ct l z (dC, dI) (tyL cI cB cE) yX8_timesOfAll wsX8_timesOfAll rmX8_timesOfAll [.ref (a 0)] (wX8 cI cB cE a v_boards v_kind v_rows v_outer v_inner v_content v_boxes v_rowOf v_columnOf v_seen v_seenWhat v_seenCan v_pageLength v_page v_isWhole v_newKind v_newRows v_newOuter v_newInner v_newContent v_now v_left v_box v_isCounted v_counted v_given v_isTermed v_terms v_term v_shape v_readBoxes v_readRow v_readColumn v_grid v_often v_seedNow v_isKept v_keptBoard v_keptKind v_keptRows v_keptSeen v_keptOuter v_keptInner v_keptContent v_keptWhat v_keptCan v_h) (some (.int fin.1)) (wX8 cI cB cE a v_boards v_kind v_rows v_outer v_inner v_content v_boxes v_rowOf v_columnOf v_seen v_seenWhat v_seenCan v_pageLength v_page v_isWhole v_newKind v_newRows v_newOuter v_newInner v_newContent v_now v_left v_box v_isCounted v_counted v_given fin.2.1 fin.2.2.1 fin.2.2.2.1 fin.2.2.2.2.1 fin.2.2.2.2.2.1 fin.2.2.2.2.2.2.1 fin.2.2.2.2.2.2.2.1 fin.2.2.2.2.2.2.2.2.1 fin.2.2.2.2.2.2.2.2.2 v_seedNow v_isKept v_keptBoard v_keptKind v_keptRows v_keptSeen v_keptOuter v_keptInner v_keptContent v_keptWhat v_keptCan v_h) := by
  refine Met.ofC (cc := cX8_timesOfAll) (maxL := 3) (ret := (some .int)) (by decide) rfl (Nat.le_of_ble_eq_true rfl) ?_
  intro p e s m args below meth c A Q ls hx hb hr hml hts hown hlocks hA hK hP hD hZ hS hQ hl
  have hown : s.vm.findClass RX8 = some m.cls := hown
  have hl : lv_has ls 3 [(0, .ref (a 0))] := hl
  unfold fX8_timesOfAll at hf
  refine lv_aload_n hx hb dX8_timesOfAll_0 rfl (lv_at hl 0 rfl) ?_
  obtain ⟨r_1, hr_1, hf⟩ := bd_some hf
  refine cx_runW (cx_V (As := []) (rest := []) ⟨hx, hb, hml, hown, hts⟩ (ctX8_layTerms l z dC dI cI cB cE a v_boards v_kind v_rows v_outer v_inner v_content v_boxes v_rowOf v_columnOf v_seen v_seenWhat v_seenCan v_pageLength v_page v_isWhole v_newKind v_newRows v_newOuter v_newInner v_newContent v_now v_left v_box v_isCounted v_counted v_given v_isTermed v_terms v_term v_shape v_readBoxes v_readRow v_readColumn v_grid v_often v_seedNow v_isKept v_keptBoard v_keptKind v_keptRows v_keptSeen v_keptOuter v_keptInner v_keptContent v_keptWhat v_keptCan v_h r_1 hr_1) (cwV 0 hts gX8_timesOfAll_X8_layTerms rfl rfl rfl (by decide +kernel) ⟨Nat.le_of_ble_eq_true rfl, Nat.le_of_ble_eq_true rfl⟩) hK hP hD hZ hS hA (ci := 8) (q0 := 0) rfl rfl rfl hl.1 rfl (Nat.le_of_ble_eq_true rfl) dX8_timesOfAll_1) hD hS hA [] rfl (fun H locs hP hD hS => ?_)
  refine lv_iconst (v := 0) hx hb dX8_timesOfAll_4 (by decide) ?_
  refine lv_istore_n (lv' := [(1, .int 0), (0, .ref (a 0))]) hx hb dX8_timesOfAll_5 rfl hl (by decide) rfl (fun ls hl => ?_)
  refine lv_iconst (v := 0) hx hb dX8_timesOfAll_6 (by decide) ?_
  refine lv_istore_n (lv' := [(2, .int 0), (1, .int 0), (0, .ref (a 0))]) hx hb dX8_timesOfAll_7 rfl hl (by decide) rfl (fun ls hl => ?_)
  have L8 : ∀ (n8 : Nat) (x1_8 : Int32) (x2_8 : Int32), fX8_timesOfAll_L8 r_1 n8 x1_8 x2_8 = some fin → ∀ (H : Heap) (locs : List Loc), va_P (dC, dI) vwCl (wX8 cI cB cE a v_boards v_kind v_rows v_outer v_inner v_content v_boxes v_rowOf v_columnOf v_seen v_seenWhat v_seenCan v_pageLength v_page v_isWhole v_newKind v_newRows v_newOuter v_newInner v_newContent v_now v_left v_box v_isCounted v_counted v_given r_1.1 r_1.2.1 r_1.2.2.1 r_1.2.2.2.1 r_1.2.2.2.2.1 r_1.2.2.2.2.2.1 r_1.2.2.2.2.2.2.1 r_1.2.2.2.2.2.2.2.1 r_1.2.2.2.2.2.2.2.2 v_seedNow v_isKept v_keptBoard v_keptKind v_keptRows v_keptSeen v_keptOuter v_keptInner v_keptContent v_keptWhat v_keptCan v_h) H → va_D A (wX8 cI cB cE a v_boards v_kind v_rows v_outer v_inner v_content v_boxes v_rowOf v_columnOf v_seen v_seenWhat v_seenCan v_pageLength v_page v_isWhole v_newKind v_newRows v_newOuter v_newInner v_newContent v_now v_left v_box v_isCounted v_counted v_given r_1.1 r_1.2.1 r_1.2.2.1 r_1.2.2.2.1 r_1.2.2.2.2.1 r_1.2.2.2.2.2.1 r_1.2.2.2.2.2.2.1 r_1.2.2.2.2.2.2.2.1 r_1.2.2.2.2.2.2.2.2 v_seedNow v_isKept v_keptBoard v_keptKind v_keptRows v_keptSeen v_keptOuter v_keptInner v_keptContent v_keptWhat v_keptCan v_h) → va_S A s.heap H locs → ∀ (ls : Array Slot), lv_has ls 3 [(0, .ref (a 0)), (1, .int x1_8), (2, .int x2_8)] → W p l e rmX8_timesOfAll s m args below meth c H locs 0 0 Q (F0 m 8 ls []) := by
    intro n8
    induction n8 with
    | zero =>
      intro x1_8 x2_8 hf
      rw [fX8_timesOfAll_L8] at hf
      cases hf
    | succ n8 ih8 =>
      intro x1_8 x2_8 hf H locs hP hD hS ls hl
      rw [fX8_timesOfAll_L8] at hf
      refine lv_iload_n hx hb dX8_timesOfAll_8 rfl (lv_at hl 2 rfl) ?_
      refine lv_aload_n hx hb dX8_timesOfAll_9 rfl (lv_at hl 0 rfl) ?_
      refine va_get (D := (dC, dI)) (ci := 8) (C := RX8) (T := TX8) (N := 47) hx hb hts (fun _ h => List.mem_cons_of_mem _ (List.mem_append_right _ h)) hown hK hP 0 rfl rfl 27 (by decide) (hts (.fieldLink RX8 248 "SkewBoardModel" "terms" "I") (List.mem_of_getElem? (i := 1) rfl)) (fun _ h9 => h9) rfl dX8_timesOfAll_10 ?_
      refine lv_icmp_ge (tgt := 35) hx hb dX8_timesOfAll_13 (by decide) (fun c_2 => ?_) (fun c_2 => ?_)
      · rw [if_pos c_2] at hf
        refine lv_iload_n hx hb dX8_timesOfAll_35 rfl (lv_at hl 1 rfl) ?_
        have hQ2 := hQ
        rw [← Option.some.inj hf] at hQ2
        exact cx_iret hQ2 hx hb hr hlocks hK hP hD hS dX8_timesOfAll_36
      · rw [if_neg c_2] at hf
        refine lv_iload_n hx hb dX8_timesOfAll_16 rfl (lv_at hl 1 rfl) ?_
        refine lv_aload_n hx hb dX8_timesOfAll_17 rfl (lv_at hl 0 rfl) ?_
        refine va_get (D := (dC, dI)) (ci := 8) (C := RX8) (T := TX8) (N := 47) hx hb hts (fun _ h => List.mem_cons_of_mem _ (List.mem_append_right _ h)) hown hK hP 0 rfl rfl 28 (by decide) (hts (.fieldLink RX8 53 "SkewBoardModel" "term" "[I") (List.mem_of_getElem? (i := 2) rfl)) (fun _ h9 => h9) rfl dX8_timesOfAll_18 ?_
        refine lv_iconst (v := 5) hx hb dX8_timesOfAll_21 (by decide) ?_
        refine lv_iload_n hx hb dX8_timesOfAll_22 rfl (lv_at hl 2 rfl) ?_
        refine lv_imul hx hb dX8_timesOfAll_23 ?_
        refine lv_iconst (v := 4) hx hb dX8_timesOfAll_24 (by decide) ?_
        refine lv_iadd hx hb dX8_timesOfAll_25 ?_
        obtain ⟨g_3, hf⟩ := gd_some hf
        refine va_iald hx hb hK hP 15 0 rfl rfl (inb_vp g_3) dX8_timesOfAll_26 ?_
        refine lv_iadd hx hb dX8_timesOfAll_27 ?_
        refine lv_istore_n (lv' := [(1, .int (x1_8 + (r_1.2.2.1 ((5 * x2_8) + 4).toNatClampNeg))), (0, .ref (a 0)), (2, .int x2_8)]) hx hb dX8_timesOfAll_28 rfl hl (by decide) rfl (fun ls hl => ?_)
        refine lv_iinc (v := (x2_8 + 1)) (lv' := [(2, .int (x2_8 + 1)), (1, .int (x1_8 + (r_1.2.2.1 ((5 * x2_8) + 4).toNatClampNeg))), (0, .ref (a 0))]) hx hb dX8_timesOfAll_29 hl (k := 2) rfl rfl (by decide) rfl (fun ls hl => ?_)
        refine lv_goto (tgt := 8) hx hb dX8_timesOfAll_32 (by decide) ?_
        exact ih8 (x1_8 + (r_1.2.2.1 ((5 * x2_8) + 4).toNatClampNeg)) (x2_8 + 1) hf _ _ hP hD hS ls (lv_sub hl [2, 1, 0] rfl)
  exact L8 fu 0 0 hf _ _ hP hD hS ls (lv_sub hl [2, 1, 0] rfl)

def fX8_could_J38 (y0_38 : Int32) : Option (Int32) :=
    gd (isb y0_38) (some y0_38)
def fX8_could_J53 (y0_53 : Int32) : Option (Int32) :=
    gd (isb y0_53) (some y0_53)
def fX8_could_J48 (k53 : Int32 → Option (Int32)) (u_48 : Unit) : Option (Int32) :=
    k53 1
def fX8_could_J64 (y0_64 : Int32) : Option (Int32) :=
    gd (isb y0_64) (some y0_64)
def fX8_could_J75 (y0_75 : Int32) : Option (Int32) :=
    gd (isb y0_75) (some y0_75)
def fX8_could (p1 : Int32) (p2 : Int32) : Option (Int32) :=
  if p2 = 0 then (fX8_could_J38 (if p1 = 3 then 0 else 1)) else if p2 = 1 then (if p1 = 0 then (fX8_could_J48 fX8_could_J53 ()) else (if p1 = 3 then (fX8_could_J48 fX8_could_J53 ()) else (fX8_could_J53 0))) else if p2 = 2 then (fX8_could_J64 (if p1 = 4 then 1 else 0)) else (fX8_could_J75 (if p1 = 2 then 0 else 1))
def rmX8_could : Room := { frames := 0, cells := 0, slots := 0, locals := 0 }
set_option maxRecDepth 100000 in
set_option maxHeartbeats 4000000 in
theorem ctX8_could (l : Launch) (z : Nat × Nat × Nat) (dC : Nat → ClassId) (dI : Nat → Nat → Nat) (cI cB cE : ClassId) (p1 : Int32) (p2 : Int32) (fin : Int32) (hf : fX8_could p1 p2 = some fin) : Ct l z (dC, dI) (tyL cI cB cE) yX8_could wsX8_could rmX8_could [.int p1, .int p2] [] (some (.int fin)) [] := by
  refine Met.ofC (cc := cX8_could) (maxL := 2) (ret := (some .boolean)) (by decide) rfl (Nat.le_of_ble_eq_true rfl) ?_
  intro p e s m args below meth c A Q ls hx hb hr hml hts hown hlocks hA hK hP hD hZ hS hQ hl
  have hown : s.vm.findClass RX8 = some m.cls := hown
  have hl : lv_has ls 2 [(0, .int p1), (1, .int p2)] := hl
  unfold fX8_could at hf
  refine lv_iload_n hx hb dX8_could_0 rfl (lv_at hl 1 rfl) ?_
  by_cases c_1 : p2 = 0
  · rw [if_pos c_1] at hf
    refine lv_tableIn (off := 27) (tgt := 28) hx hb dX8_could_1 (by rw [c_1]; decide) (by rw [c_1]; decide) (by rw [c_1]; rfl) (by decide) ?_
    refine lv_iload_n hx hb dX8_could_28 rfl (lv_at hl 0 rfl) ?_
    refine lv_iconst (v := 3) hx hb dX8_could_29 (by decide) ?_
    have J38 : ∀ (y0_38 : Int32), fX8_could_J38  y0_38 = some fin → ∀ (H : Heap) (locs : List Loc), va_P (dC, dI) vwCl [] H → va_D A [] → va_S A s.heap H locs → ∀ (ls : Array Slot), lv_has ls 2 [] → W p l e rmX8_could s m args below meth c H locs 0 0 Q (F0 m 38 ls [.int y0_38]) := by
      intro y0_38 hf H locs hP hD hS ls hl
      unfold fX8_could_J38 at hf
      obtain ⟨g_2, hf⟩ := gd_some hf
      have hQ2 := hQ
      rw [← Option.some.inj hf] at hQ2
      exact cx_zret (isb_nar g_2) hQ2 hx hb hr hlocks hK hP hD hS dX8_could_38
    refine lv_icmp_eq (tgt := 37) hx hb dX8_could_30 (by decide) (fun c_3 => ?_) (fun c_3 => ?_)
    · rw [if_pos c_3] at hf
      refine lv_iconst (v := 0) hx hb dX8_could_37 (by decide) ?_
      exact J38 0 hf _ _ hP hD hS ls (lv_sub hl [] rfl)
    · rw [if_neg c_3] at hf
      refine lv_iconst (v := 1) hx hb dX8_could_33 (by decide) ?_
      refine lv_goto (tgt := 38) hx hb dX8_could_34 (by decide) ?_
      exact J38 1 hf _ _ hP hD hS ls (lv_sub hl [] rfl)
  · rw [if_neg c_1] at hf
    by_cases c_4 : p2 = 1
    · rw [if_pos c_4] at hf
      refine lv_tableIn (off := 38) (tgt := 39) hx hb dX8_could_1 (by rw [c_4]; decide) (by rw [c_4]; decide) (by rw [c_4]; rfl) (by decide) ?_
      refine lv_iload_n hx hb dX8_could_39 rfl (lv_at hl 0 rfl) ?_
      have J53 : ∀ (y0_53 : Int32), fX8_could_J53  y0_53 = some fin → ∀ (H : Heap) (locs : List Loc), va_P (dC, dI) vwCl [] H → va_D A [] → va_S A s.heap H locs → ∀ (ls : Array Slot), lv_has ls 2 [] → W p l e rmX8_could s m args below meth c H locs 0 0 Q (F0 m 53 ls [.int y0_53]) := by
        intro y0_53 hf H locs hP hD hS ls hl
        unfold fX8_could_J53 at hf
        obtain ⟨g_5, hf⟩ := gd_some hf
        have hQ2 := hQ
        rw [← Option.some.inj hf] at hQ2
        exact cx_zret (isb_nar g_5) hQ2 hx hb hr hlocks hK hP hD hS dX8_could_53
      have J48 : ∀ (u_48 : Unit), fX8_could_J48 (fX8_could_J53) u_48 = some fin → ∀ (H : Heap) (locs : List Loc), va_P (dC, dI) vwCl [] H → va_D A [] → va_S A s.heap H locs → ∀ (ls : Array Slot), lv_has ls 2 [] → W p l e rmX8_could s m args below meth c H locs 0 0 Q (F0 m 48 ls []) := by
        intro u_48 hf H locs hP hD hS ls hl
        unfold fX8_could_J48 at hf
        refine lv_iconst (v := 1) hx hb dX8_could_48 (by decide) ?_
        refine lv_goto (tgt := 53) hx hb dX8_could_49 (by decide) ?_
        exact J53 1 hf _ _ hP hD hS ls (lv_sub hl [] rfl)
      refine lv_if_eq (tgt := 48) hx hb dX8_could_40 (by decide) (fun c_6 => ?_) (fun c_6 => ?_)
      · rw [if_pos c_6] at hf
        exact J48 () hf _ _ hP hD hS ls (lv_sub hl [] rfl)
      · rw [if_neg c_6] at hf
        refine lv_iload_n hx hb dX8_could_43 rfl (lv_at hl 0 rfl) ?_
        refine lv_iconst (v := 3) hx hb dX8_could_44 (by decide) ?_
        refine lv_icmp_ne (tgt := 52) hx hb dX8_could_45 (by decide) (fun c_7 => ?_) (fun c_7 => ?_)
        · rw [if_neg c_7] at hf
          refine lv_iconst (v := 0) hx hb dX8_could_52 (by decide) ?_
          exact J53 0 hf _ _ hP hD hS ls (lv_sub hl [] rfl)
        · rw [if_pos c_7] at hf
          exact J48 () hf _ _ hP hD hS ls (lv_sub hl [] rfl)
    · rw [if_neg c_4] at hf
      by_cases c_8 : p2 = 2
      · rw [if_pos c_8] at hf
        refine lv_tableIn (off := 53) (tgt := 54) hx hb dX8_could_1 (by rw [c_8]; decide) (by rw [c_8]; decide) (by rw [c_8]; rfl) (by decide) ?_
        refine lv_iload_n hx hb dX8_could_54 rfl (lv_at hl 0 rfl) ?_
        refine lv_iconst (v := 4) hx hb dX8_could_55 (by decide) ?_
        have J64 : ∀ (y0_64 : Int32), fX8_could_J64  y0_64 = some fin → ∀ (H : Heap) (locs : List Loc), va_P (dC, dI) vwCl [] H → va_D A [] → va_S A s.heap H locs → ∀ (ls : Array Slot), lv_has ls 2 [] → W p l e rmX8_could s m args below meth c H locs 0 0 Q (F0 m 64 ls [.int y0_64]) := by
          intro y0_64 hf H locs hP hD hS ls hl
          unfold fX8_could_J64 at hf
          obtain ⟨g_9, hf⟩ := gd_some hf
          have hQ2 := hQ
          rw [← Option.some.inj hf] at hQ2
          exact cx_zret (isb_nar g_9) hQ2 hx hb hr hlocks hK hP hD hS dX8_could_64
        refine lv_icmp_ne (tgt := 63) hx hb dX8_could_56 (by decide) (fun c_10 => ?_) (fun c_10 => ?_)
        · rw [if_neg c_10] at hf
          refine lv_iconst (v := 0) hx hb dX8_could_63 (by decide) ?_
          exact J64 0 hf _ _ hP hD hS ls (lv_sub hl [] rfl)
        · rw [if_pos c_10] at hf
          refine lv_iconst (v := 1) hx hb dX8_could_59 (by decide) ?_
          refine lv_goto (tgt := 64) hx hb dX8_could_60 (by decide) ?_
          exact J64 1 hf _ _ hP hD hS ls (lv_sub hl [] rfl)
      · rw [if_neg c_8] at hf
        have tc_1 : ¬ (p2).toInt = 0 := fun h => c_1 (Int32.toInt_inj.mp h)
        have tc_4 : ¬ (p2).toInt = 1 := fun h => c_4 (Int32.toInt_inj.mp h)
        have tc_8 : ¬ (p2).toInt = 2 := fun h => c_8 (Int32.toInt_inj.mp h)
        refine lv_tableOut (tgt := 65) hx hb dX8_could_1 (by omega) (by decide) ?_
        refine lv_iload_n hx hb dX8_could_65 rfl (lv_at hl 0 rfl) ?_
        refine lv_iconst (v := 2) hx hb dX8_could_66 (by decide) ?_
        have J75 : ∀ (y0_75 : Int32), fX8_could_J75  y0_75 = some fin → ∀ (H : Heap) (locs : List Loc), va_P (dC, dI) vwCl [] H → va_D A [] → va_S A s.heap H locs → ∀ (ls : Array Slot), lv_has ls 2 [] → W p l e rmX8_could s m args below meth c H locs 0 0 Q (F0 m 75 ls [.int y0_75]) := by
          intro y0_75 hf H locs hP hD hS ls hl
          unfold fX8_could_J75 at hf
          obtain ⟨g_11, hf⟩ := gd_some hf
          have hQ2 := hQ
          rw [← Option.some.inj hf] at hQ2
          exact cx_zret (isb_nar g_11) hQ2 hx hb hr hlocks hK hP hD hS dX8_could_75
        refine lv_icmp_eq (tgt := 74) hx hb dX8_could_67 (by decide) (fun c_12 => ?_) (fun c_12 => ?_)
        · rw [if_pos c_12] at hf
          refine lv_iconst (v := 0) hx hb dX8_could_74 (by decide) ?_
          exact J75 0 hf _ _ hP hD hS ls (lv_sub hl [] rfl)
        · rw [if_neg c_12] at hf
          refine lv_iconst (v := 1) hx hb dX8_could_70 (by decide) ?_
          refine lv_goto (tgt := 75) hx hb dX8_could_71 (by decide) ?_
          exact J75 1 hf _ _ hP hD hS ls (lv_sub hl [] rfl)

def fX8_see_J61 (v_seen : Int32) (v_seenWhat : Nat → Int32) (v_seenCan : Nat → Int32) (p1 : Int32) (y2_61 : Int32) : Option (Int32 × Int32 × (Nat → Int32) × (Nat → Int32)) :=
    some ((v_seen + 1), (v_seen + 1), (upd v_seenWhat v_seen.toNatClampNeg p1), (upd v_seenCan v_seen.toNatClampNeg y2_61))
def fX8_see (p1 : Int32) (p2 : Int32) (v_rows : Int32) (v_seen : Int32) (v_seenWhat : Nat → Int32) (v_seenCan : Nat → Int32) : Option (Int32 × Int32 × (Nat → Int32) × (Nat → Int32)) :=
  bd (fX8_within p1 0 3) (fun r_1 => if r_1 = 0 then (some ((-102), v_seen, v_seenWhat, v_seenCan)) else (bd (fX8_isBoard v_rows) (fun r_3 => if r_3 = 0 then (some ((-103), v_seen, v_seenWhat, v_seenCan)) else (if v_seen = 6 then (some ((-104), v_seen, v_seenWhat, v_seenCan)) else (gd (inb v_seen 6) (fX8_see_J61 v_seen v_seenWhat v_seenCan p1 (if p2 = 0 then 0 else 1)))))))
def rmX8_see : Room := { frames := 1, cells := 0, slots := 0, locals := 22 }
set_option maxRecDepth 100000 in
set_option maxHeartbeats 4000000 in
theorem ctX8_see (l : Launch) (z : Nat × Nat × Nat) (dC : Nat → ClassId) (dI : Nat → Nat → Nat) (cI cB cE : ClassId) (a : Nat → Nat) (v_boards : Int32) (v_kind : Int32) (v_rows : Int32) (v_outer : Nat → Int32) (v_inner : Nat → Int32) (v_content : Nat → Int32) (v_boxes : Int32) (v_rowOf : Nat → Int32) (v_columnOf : Nat → Int32) (v_seen : Int32) (v_seenWhat : Nat → Int32) (v_seenCan : Nat → Int32) (v_pageLength : Int32) (v_page : Nat → Int32) (v_isWhole : Int32) (v_newKind : Int32) (v_newRows : Int32) (v_newOuter : Nat → Int32) (v_newInner : Nat → Int32) (v_newContent : Nat → Int32) (v_now : Nat → Int32) (v_left : Nat → Int32) (v_box : Int32) (v_isCounted : Int32) (v_counted : Int32) (v_given : Nat → Int32) (v_isTermed : Int32) (v_terms : Int32) (v_term : Nat → Int32) (v_shape : Nat → Int32) (v_readBoxes : Int32) (v_readRow : Nat → Int32) (v_readColumn : Nat → Int32) (v_grid : Nat → Int32) (v_often : Nat → Int32) (v_seedNow : Int64) (v_isKept : Int32) (v_keptBoard : Int32) (v_keptKind : Int32) (v_keptRows : Int32) (v_keptSeen : Int32) (v_keptOuter : Nat → Int32) (v_keptInner : Nat → Int32) (v_keptContent : Nat → Int32) (v_keptWhat : Nat → Int32) (v_keptCan : Nat → Int32) (v_h : Int64) (p1 : Int32) (p2 : Int32) (fin : Int32 × Int32 × (Nat → Int32) × (Nat → Int32)) (hf : fX8_see p1 p2 v_rows v_seen v_seenWhat v_seenCan = some fin) : Ct l z (dC, dI) (tyL cI cB cE) yX8_see wsX8_see rmX8_see [.ref (a 0), .int p1, .int p2] (wX8 cI cB cE a v_boards v_kind v_rows v_outer v_inner v_content v_boxes v_rowOf v_columnOf v_seen v_seenWhat v_seenCan v_pageLength v_page v_isWhole v_newKind v_newRows v_newOuter v_newInner v_newContent v_now v_left v_box v_isCounted v_counted v_given v_isTermed v_terms v_term v_shape v_readBoxes v_readRow v_readColumn v_grid v_often v_seedNow v_isKept v_keptBoard v_keptKind v_keptRows v_keptSeen v_keptOuter v_keptInner v_keptContent v_keptWhat v_keptCan v_h) (some (.int fin.1)) (wX8 cI cB cE a v_boards v_kind v_rows v_outer v_inner v_content v_boxes v_rowOf v_columnOf fin.2.1 fin.2.2.1 fin.2.2.2 v_pageLength v_page v_isWhole v_newKind v_newRows v_newOuter v_newInner v_newContent v_now v_left v_box v_isCounted v_counted v_given v_isTermed v_terms v_term v_shape v_readBoxes v_readRow v_readColumn v_grid v_often v_seedNow v_isKept v_keptBoard v_keptKind v_keptRows v_keptSeen v_keptOuter v_keptInner v_keptContent v_keptWhat v_keptCan v_h) := by
  refine Met.ofC (cc := cX8_see) (maxL := 3) (ret := (some .int)) (by decide) rfl (Nat.le_of_ble_eq_true rfl) ?_
  intro p e s m args below meth c A Q ls hx hb hr hml hts hown hlocks hA hK hP hD hZ hS hQ hl
  have hown : s.vm.findClass RX8 = some m.cls := hown
  have hl : lv_has ls 3 [(0, .ref (a 0)), (1, .int p1), (2, .int p2)] := hl
  unfold fX8_see at hf
  refine lv_iload_n hx hb dX8_see_0 rfl (lv_at hl 1 rfl) ?_
  refine lv_iconst (v := 0) hx hb dX8_see_1 (by decide) ?_
  refine lv_iconst (v := 3) hx hb dX8_see_2 (by decide) ?_
  obtain ⟨r_1, hr_1, hf⟩ := bd_some hf
  refine cx_run0 (cx_S (A := A) (As := [.int p1, .int 0, .int 3]) (rest := []) ⟨hx, hb, hml, hown, hts⟩ (ctX8_within l z dC dI cI cB cE p1 0 3 r_1 hr_1) (va_cwS 3 hts gX8_see_X8_within rfl rfl rfl (by decide +kernel) ⟨Nat.le_of_ble_eq_true rfl, Nat.le_of_ble_eq_true rfl⟩) hK vaP0 vaD0 hZ hS hA rfl hl.1 rfl (Nat.le_of_ble_eq_true rfl) dX8_see_3) hP hS hA [.int r_1] rfl (fun H locs hP hS => ?_)
  refine lv_if_ne (tgt := 12) hx hb dX8_see_6 (by decide) (fun c_2 => ?_) (fun c_2 => ?_)
  · rw [if_neg c_2] at hf
    refine lv_aload_n hx hb dX8_see_12 rfl (lv_at hl 0 rfl) ?_
    obtain ⟨r_3, hr_3, hf⟩ := bd_some hf
    refine cx_runW (cx_V (As := []) (rest := []) ⟨hx, hb, hml, hown, hts⟩ (ctX8_isBoard l z dC dI cI cB cE a v_boards v_kind v_rows v_outer v_inner v_content v_boxes v_rowOf v_columnOf v_seen v_seenWhat v_seenCan v_pageLength v_page v_isWhole v_newKind v_newRows v_newOuter v_newInner v_newContent v_now v_left v_box v_isCounted v_counted v_given v_isTermed v_terms v_term v_shape v_readBoxes v_readRow v_readColumn v_grid v_often v_seedNow v_isKept v_keptBoard v_keptKind v_keptRows v_keptSeen v_keptOuter v_keptInner v_keptContent v_keptWhat v_keptCan v_h r_3 hr_3) (cwV 0 hts gX8_see_X8_isBoard rfl rfl rfl (by decide +kernel) ⟨Nat.le_of_ble_eq_true rfl, Nat.le_of_ble_eq_true rfl⟩) hK hP hD hZ hS hA (ci := 8) (q0 := 0) rfl rfl rfl hl.1 rfl (Nat.le_of_ble_eq_true rfl) dX8_see_13) hD hS hA [.int r_3] rfl (fun H locs hP hD hS => ?_)
    refine lv_if_ne (tgt := 22) hx hb dX8_see_16 (by decide) (fun c_4 => ?_) (fun c_4 => ?_)
    · rw [if_neg c_4] at hf
      refine lv_aload_n hx hb dX8_see_22 rfl (lv_at hl 0 rfl) ?_
      refine va_get (D := (dC, dI)) (ci := 8) (C := RX8) (T := TX8) (N := 47) hx hb hts (fun _ h => List.mem_cons_of_mem _ (List.mem_append_right _ h)) hown hK hP 0 rfl rfl 9 (by decide) (hts (.fieldLink RX8 148 "SkewBoardModel" "seen" "I") (List.mem_of_getElem? (i := 1) rfl)) (fun _ h9 => h9) rfl dX8_see_23 ?_
      refine lv_bipush (v := 6) hx hb dX8_see_26 (by decide) ?_
      refine lv_icmp_ne (tgt := 34) hx hb dX8_see_28 (by decide) (fun c_5 => ?_) (fun c_5 => ?_)
      · rw [if_neg c_5] at hf
        refine lv_aload_n hx hb dX8_see_34 rfl (lv_at hl 0 rfl) ?_
        refine va_get (D := (dC, dI)) (ci := 8) (C := RX8) (T := TX8) (N := 47) hx hb hts (fun _ h => List.mem_cons_of_mem _ (List.mem_append_right _ h)) hown hK hP 0 rfl rfl 10 (by decide) (hts (.fieldLink RX8 25 "SkewBoardModel" "seenWhat" "[I") (List.mem_of_getElem? (i := 2) rfl)) (fun _ h9 => h9) rfl dX8_see_35 ?_
        refine lv_aload_n hx hb dX8_see_38 rfl (lv_at hl 0 rfl) ?_
        refine va_get (D := (dC, dI)) (ci := 8) (C := RX8) (T := TX8) (N := 47) hx hb hts (fun _ h => List.mem_cons_of_mem _ (List.mem_append_right _ h)) hown hK hP 0 rfl rfl 9 (by decide) (hts (.fieldLink RX8 148 "SkewBoardModel" "seen" "I") (List.mem_of_getElem? (i := 1) rfl)) (fun _ h9 => h9) rfl dX8_see_39 ?_
        refine lv_iload_n hx hb dX8_see_42 rfl (lv_at hl 1 rfl) ?_
        obtain ⟨g_6, hf⟩ := gd_some hf
        refine va_iast hx hb hK hP hD hS 6 0 rfl rfl (inb_vp g_6) dX8_see_43 (fun H locs hP hD hS => ?_)
        have hP : va_P (dC, dI) vwCl (wX8 cI cB cE a v_boards v_kind v_rows v_outer v_inner v_content v_boxes v_rowOf v_columnOf v_seen (upd v_seenWhat v_seen.toNatClampNeg p1) v_seenCan v_pageLength v_page v_isWhole v_newKind v_newRows v_newOuter v_newInner v_newContent v_now v_left v_box v_isCounted v_counted v_given v_isTermed v_terms v_term v_shape v_readBoxes v_readRow v_readColumn v_grid v_often v_seedNow v_isKept v_keptBoard v_keptKind v_keptRows v_keptSeen v_keptOuter v_keptInner v_keptContent v_keptWhat v_keptCan v_h) H := hP
        have hD : va_D A (wX8 cI cB cE a v_boards v_kind v_rows v_outer v_inner v_content v_boxes v_rowOf v_columnOf v_seen (upd v_seenWhat v_seen.toNatClampNeg p1) v_seenCan v_pageLength v_page v_isWhole v_newKind v_newRows v_newOuter v_newInner v_newContent v_now v_left v_box v_isCounted v_counted v_given v_isTermed v_terms v_term v_shape v_readBoxes v_readRow v_readColumn v_grid v_often v_seedNow v_isKept v_keptBoard v_keptKind v_keptRows v_keptSeen v_keptOuter v_keptInner v_keptContent v_keptWhat v_keptCan v_h) := hD
        refine lv_aload_n hx hb dX8_see_44 rfl (lv_at hl 0 rfl) ?_
        refine va_get (D := (dC, dI)) (ci := 8) (C := RX8) (T := TX8) (N := 47) hx hb hts (fun _ h => List.mem_cons_of_mem _ (List.mem_append_right _ h)) hown hK hP 0 rfl rfl 11 (by decide) (hts (.fieldLink RX8 28 "SkewBoardModel" "seenCan" "[I") (List.mem_of_getElem? (i := 3) rfl)) (fun _ h9 => h9) rfl dX8_see_45 ?_
        refine lv_aload_n hx hb dX8_see_48 rfl (lv_at hl 0 rfl) ?_
        refine va_get (D := (dC, dI)) (ci := 8) (C := RX8) (T := TX8) (N := 47) hx hb hts (fun _ h => List.mem_cons_of_mem _ (List.mem_append_right _ h)) hown hK hP 0 rfl rfl 9 (by decide) (hts (.fieldLink RX8 148 "SkewBoardModel" "seen" "I") (List.mem_of_getElem? (i := 1) rfl)) (fun _ h9 => h9) rfl dX8_see_49 ?_
        refine lv_iload_n hx hb dX8_see_52 rfl (lv_at hl 2 rfl) ?_
        have J61 : ∀ (y2_61 : Int32), fX8_see_J61 v_seen v_seenWhat v_seenCan p1 y2_61 = some fin → ∀ (H : Heap) (locs : List Loc), va_P (dC, dI) vwCl (wX8 cI cB cE a v_boards v_kind v_rows v_outer v_inner v_content v_boxes v_rowOf v_columnOf v_seen (upd v_seenWhat v_seen.toNatClampNeg p1) v_seenCan v_pageLength v_page v_isWhole v_newKind v_newRows v_newOuter v_newInner v_newContent v_now v_left v_box v_isCounted v_counted v_given v_isTermed v_terms v_term v_shape v_readBoxes v_readRow v_readColumn v_grid v_often v_seedNow v_isKept v_keptBoard v_keptKind v_keptRows v_keptSeen v_keptOuter v_keptInner v_keptContent v_keptWhat v_keptCan v_h) H → va_D A (wX8 cI cB cE a v_boards v_kind v_rows v_outer v_inner v_content v_boxes v_rowOf v_columnOf v_seen (upd v_seenWhat v_seen.toNatClampNeg p1) v_seenCan v_pageLength v_page v_isWhole v_newKind v_newRows v_newOuter v_newInner v_newContent v_now v_left v_box v_isCounted v_counted v_given v_isTermed v_terms v_term v_shape v_readBoxes v_readRow v_readColumn v_grid v_often v_seedNow v_isKept v_keptBoard v_keptKind v_keptRows v_keptSeen v_keptOuter v_keptInner v_keptContent v_keptWhat v_keptCan v_h) → va_S A s.heap H locs → ∀ (ls : Array Slot), lv_has ls 3 [(0, .ref (a 0))] → W p l e rmX8_see s m args below meth c H locs 0 0 Q (F0 m 61 ls [.int y2_61, .int v_seen, .ref (a 7)]) := by
          intro y2_61 hf H locs hP hD hS ls hl
          unfold fX8_see_J61 at hf
          refine va_iast hx hb hK hP hD hS 7 0 rfl rfl (inb_vp g_6) dX8_see_61 (fun H locs hP hD hS => ?_)
          have hP : va_P (dC, dI) vwCl (wX8 cI cB cE a v_boards v_kind v_rows v_outer v_inner v_content v_boxes v_rowOf v_columnOf v_seen (upd v_seenWhat v_seen.toNatClampNeg p1) (upd v_seenCan v_seen.toNatClampNeg y2_61) v_pageLength v_page v_isWhole v_newKind v_newRows v_newOuter v_newInner v_newContent v_now v_left v_box v_isCounted v_counted v_given v_isTermed v_terms v_term v_shape v_readBoxes v_readRow v_readColumn v_grid v_often v_seedNow v_isKept v_keptBoard v_keptKind v_keptRows v_keptSeen v_keptOuter v_keptInner v_keptContent v_keptWhat v_keptCan v_h) H := hP
          have hD : va_D A (wX8 cI cB cE a v_boards v_kind v_rows v_outer v_inner v_content v_boxes v_rowOf v_columnOf v_seen (upd v_seenWhat v_seen.toNatClampNeg p1) (upd v_seenCan v_seen.toNatClampNeg y2_61) v_pageLength v_page v_isWhole v_newKind v_newRows v_newOuter v_newInner v_newContent v_now v_left v_box v_isCounted v_counted v_given v_isTermed v_terms v_term v_shape v_readBoxes v_readRow v_readColumn v_grid v_often v_seedNow v_isKept v_keptBoard v_keptKind v_keptRows v_keptSeen v_keptOuter v_keptInner v_keptContent v_keptWhat v_keptCan v_h) := hD
          refine lv_aload_n hx hb dX8_see_62 rfl (lv_at hl 0 rfl) ?_
          refine lv_dup hx hb dX8_see_63 rfl ?_
          refine va_get (D := (dC, dI)) (ci := 8) (C := RX8) (T := TX8) (N := 47) hx hb hts (fun _ h => List.mem_cons_of_mem _ (List.mem_append_right _ h)) hown hK hP 0 rfl rfl 9 (by decide) (hts (.fieldLink RX8 148 "SkewBoardModel" "seen" "I") (List.mem_of_getElem? (i := 1) rfl)) (fun _ h9 => h9) rfl dX8_see_64 ?_
          refine lv_iconst (v := 1) hx hb dX8_see_67 (by decide) ?_
          refine lv_iadd hx hb dX8_see_68 ?_
          refine va_put (D := (dC, dI)) (ci := 8) (v := .int (v_seen + 1)) (ty := .int) (C := RX8) (T := TX8) (N := 47) hx hb hts (fun _ h => List.mem_cons_of_mem _ (List.mem_append_right _ h)) tyX8 tyX8_ok nmX8 hown hK hP hD hS 0 rfl rfl 9 (by decide) (hts (.fieldLink RX8 148 "SkewBoardModel" "seen" "I") (List.mem_of_getElem? (i := 1) rfl)) (fun _ h9 => h9) rfl (by decide +kernel) rfl rfl (Nat.le_of_ble_eq_true rfl) dX8_see_69 (fun H locs hP hD hS => ?_)
          have hP : va_P (dC, dI) vwCl (wX8 cI cB cE a v_boards v_kind v_rows v_outer v_inner v_content v_boxes v_rowOf v_columnOf (v_seen + 1) (upd v_seenWhat v_seen.toNatClampNeg p1) (upd v_seenCan v_seen.toNatClampNeg y2_61) v_pageLength v_page v_isWhole v_newKind v_newRows v_newOuter v_newInner v_newContent v_now v_left v_box v_isCounted v_counted v_given v_isTermed v_terms v_term v_shape v_readBoxes v_readRow v_readColumn v_grid v_often v_seedNow v_isKept v_keptBoard v_keptKind v_keptRows v_keptSeen v_keptOuter v_keptInner v_keptContent v_keptWhat v_keptCan v_h) H := hP
          have hD : va_D A (wX8 cI cB cE a v_boards v_kind v_rows v_outer v_inner v_content v_boxes v_rowOf v_columnOf (v_seen + 1) (upd v_seenWhat v_seen.toNatClampNeg p1) (upd v_seenCan v_seen.toNatClampNeg y2_61) v_pageLength v_page v_isWhole v_newKind v_newRows v_newOuter v_newInner v_newContent v_now v_left v_box v_isCounted v_counted v_given v_isTermed v_terms v_term v_shape v_readBoxes v_readRow v_readColumn v_grid v_often v_seedNow v_isKept v_keptBoard v_keptKind v_keptRows v_keptSeen v_keptOuter v_keptInner v_keptContent v_keptWhat v_keptCan v_h) := hD
          refine lv_aload_n hx hb dX8_see_72 rfl (lv_at hl 0 rfl) ?_
          refine va_get (D := (dC, dI)) (ci := 8) (C := RX8) (T := TX8) (N := 47) hx hb hts (fun _ h => List.mem_cons_of_mem _ (List.mem_append_right _ h)) hown hK hP 0 rfl rfl 9 (by decide) (hts (.fieldLink RX8 148 "SkewBoardModel" "seen" "I") (List.mem_of_getElem? (i := 1) rfl)) (fun _ h9 => h9) rfl dX8_see_73 ?_
          have hQ2 := hQ
          rw [← Option.some.inj hf] at hQ2
          exact cx_iret hQ2 hx hb hr hlocks hK hP hD hS dX8_see_76
        refine lv_if_eq (tgt := 60) hx hb dX8_see_53 (by decide) (fun c_7 => ?_) (fun c_7 => ?_)
        · rw [if_pos c_7] at hf
          refine lv_iconst (v := 0) hx hb dX8_see_60 (by decide) ?_
          exact J61 0 hf _ _ hP hD hS ls (lv_sub hl [0] rfl)
        · rw [if_neg c_7] at hf
          refine lv_iconst (v := 1) hx hb dX8_see_56 (by decide) ?_
          refine lv_goto (tgt := 61) hx hb dX8_see_57 (by decide) ?_
          exact J61 1 hf _ _ hP hD hS ls (lv_sub hl [0] rfl)
      · rw [if_pos c_5] at hf
        refine lv_bipush (v := (-104)) hx hb dX8_see_31 (by decide) ?_
        have hQ2 := hQ
        rw [← Option.some.inj hf] at hQ2
        exact cx_iret hQ2 hx hb hr hlocks hK hP hD hS dX8_see_33
    · rw [if_pos c_4] at hf
      refine lv_bipush (v := (-103)) hx hb dX8_see_19 (by decide) ?_
      have hQ2 := hQ
      rw [← Option.some.inj hf] at hQ2
      exact cx_iret hQ2 hx hb hr hlocks hK hP hD hS dX8_see_21
  · rw [if_pos c_2] at hf
    refine lv_bipush (v := (-102)) hx hb dX8_see_9 (by decide) ?_
    have hQ2 := hQ
    rw [← Option.some.inj hf] at hQ2
    exact cx_iret hQ2 hx hb hr hlocks hK hP hD hS dX8_see_11

def fX8_forget (v_seen : Int32) : Option (Int32 × Int32) :=
  some (v_seen, 0)
def rmX8_forget : Room := { frames := 0, cells := 0, slots := 0, locals := 0 }
set_option maxRecDepth 100000 in
set_option maxHeartbeats 4000000 in
theorem ctX8_forget (l : Launch) (z : Nat × Nat × Nat) (dC : Nat → ClassId) (dI : Nat → Nat → Nat) (cI cB cE : ClassId) (a : Nat → Nat) (v_boards : Int32) (v_kind : Int32) (v_rows : Int32) (v_outer : Nat → Int32) (v_inner : Nat → Int32) (v_content : Nat → Int32) (v_boxes : Int32) (v_rowOf : Nat → Int32) (v_columnOf : Nat → Int32) (v_seen : Int32) (v_seenWhat : Nat → Int32) (v_seenCan : Nat → Int32) (v_pageLength : Int32) (v_page : Nat → Int32) (v_isWhole : Int32) (v_newKind : Int32) (v_newRows : Int32) (v_newOuter : Nat → Int32) (v_newInner : Nat → Int32) (v_newContent : Nat → Int32) (v_now : Nat → Int32) (v_left : Nat → Int32) (v_box : Int32) (v_isCounted : Int32) (v_counted : Int32) (v_given : Nat → Int32) (v_isTermed : Int32) (v_terms : Int32) (v_term : Nat → Int32) (v_shape : Nat → Int32) (v_readBoxes : Int32) (v_readRow : Nat → Int32) (v_readColumn : Nat → Int32) (v_grid : Nat → Int32) (v_often : Nat → Int32) (v_seedNow : Int64) (v_isKept : Int32) (v_keptBoard : Int32) (v_keptKind : Int32) (v_keptRows : Int32) (v_keptSeen : Int32) (v_keptOuter : Nat → Int32) (v_keptInner : Nat → Int32) (v_keptContent : Nat → Int32) (v_keptWhat : Nat → Int32) (v_keptCan : Nat → Int32) (v_h : Int64) (fin : Int32 × Int32) (hf : fX8_forget v_seen = some fin) : Ct l z (dC, dI) (tyL cI cB cE) yX8_forget wsX8_forget rmX8_forget [.ref (a 0)] (wX8 cI cB cE a v_boards v_kind v_rows v_outer v_inner v_content v_boxes v_rowOf v_columnOf v_seen v_seenWhat v_seenCan v_pageLength v_page v_isWhole v_newKind v_newRows v_newOuter v_newInner v_newContent v_now v_left v_box v_isCounted v_counted v_given v_isTermed v_terms v_term v_shape v_readBoxes v_readRow v_readColumn v_grid v_often v_seedNow v_isKept v_keptBoard v_keptKind v_keptRows v_keptSeen v_keptOuter v_keptInner v_keptContent v_keptWhat v_keptCan v_h) (some (.int fin.1)) (wX8 cI cB cE a v_boards v_kind v_rows v_outer v_inner v_content v_boxes v_rowOf v_columnOf fin.2 v_seenWhat v_seenCan v_pageLength v_page v_isWhole v_newKind v_newRows v_newOuter v_newInner v_newContent v_now v_left v_box v_isCounted v_counted v_given v_isTermed v_terms v_term v_shape v_readBoxes v_readRow v_readColumn v_grid v_often v_seedNow v_isKept v_keptBoard v_keptKind v_keptRows v_keptSeen v_keptOuter v_keptInner v_keptContent v_keptWhat v_keptCan v_h) := by
  refine Met.ofC (cc := cX8_forget) (maxL := 2) (ret := (some .int)) (by decide) rfl (Nat.le_of_ble_eq_true rfl) ?_
  intro p e s m args below meth c A Q ls hx hb hr hml hts hown hlocks hA hK hP hD hZ hS hQ hl
  have hown : s.vm.findClass RX8 = some m.cls := hown
  have hl : lv_has ls 2 [(0, .ref (a 0))] := hl
  unfold fX8_forget at hf
  refine lv_aload_n hx hb dX8_forget_0 rfl (lv_at hl 0 rfl) ?_
  refine va_get (D := (dC, dI)) (ci := 8) (C := RX8) (T := TX8) (N := 47) hx hb hts (fun _ h => List.mem_cons_of_mem _ (List.mem_append_right _ h)) hown hK hP 0 rfl rfl 9 (by decide) (hts (.fieldLink RX8 148 "SkewBoardModel" "seen" "I") (List.mem_of_getElem? (i := 1) rfl)) (fun _ h9 => h9) rfl dX8_forget_1 ?_
  refine lv_istore_n (lv' := [(1, .int v_seen), (0, .ref (a 0))]) hx hb dX8_forget_4 rfl hl (by decide) rfl (fun ls hl => ?_)
  refine lv_aload_n hx hb dX8_forget_5 rfl (lv_at hl 1 rfl) ?_
  refine lv_iconst (v := 0) hx hb dX8_forget_6 (by decide) ?_
  refine va_put (D := (dC, dI)) (ci := 8) (v := .int 0) (ty := .int) (C := RX8) (T := TX8) (N := 47) hx hb hts (fun _ h => List.mem_cons_of_mem _ (List.mem_append_right _ h)) tyX8 tyX8_ok nmX8 hown hK hP hD hS 0 rfl rfl 9 (by decide) (hts (.fieldLink RX8 148 "SkewBoardModel" "seen" "I") (List.mem_of_getElem? (i := 1) rfl)) (fun _ h9 => h9) rfl (by decide +kernel) rfl rfl (Nat.le_of_ble_eq_true rfl) dX8_forget_7 (fun H locs hP hD hS => ?_)
  have hP : va_P (dC, dI) vwCl (wX8 cI cB cE a v_boards v_kind v_rows v_outer v_inner v_content v_boxes v_rowOf v_columnOf 0 v_seenWhat v_seenCan v_pageLength v_page v_isWhole v_newKind v_newRows v_newOuter v_newInner v_newContent v_now v_left v_box v_isCounted v_counted v_given v_isTermed v_terms v_term v_shape v_readBoxes v_readRow v_readColumn v_grid v_often v_seedNow v_isKept v_keptBoard v_keptKind v_keptRows v_keptSeen v_keptOuter v_keptInner v_keptContent v_keptWhat v_keptCan v_h) H := hP
  have hD : va_D A (wX8 cI cB cE a v_boards v_kind v_rows v_outer v_inner v_content v_boxes v_rowOf v_columnOf 0 v_seenWhat v_seenCan v_pageLength v_page v_isWhole v_newKind v_newRows v_newOuter v_newInner v_newContent v_now v_left v_box v_isCounted v_counted v_given v_isTermed v_terms v_term v_shape v_readBoxes v_readRow v_readColumn v_grid v_often v_seedNow v_isKept v_keptBoard v_keptKind v_keptRows v_keptSeen v_keptOuter v_keptInner v_keptContent v_keptWhat v_keptCan v_h) := hD
  refine lv_iload_n hx hb dX8_forget_10 rfl (lv_at hl 0 rfl) ?_
  have hQ2 := hQ
  rw [← Option.some.inj hf] at hQ2
  exact cx_iret hQ2 hx hb hr hlocks hK hP hD hS dX8_forget_11

def fX8_sortsNow_J81 (x1_4 : Int32) (x2_4 : Int32) (k4 : Int32 → Int32 → Option (Int32)) (y1_81 : Int32) : Option (Int32) :=
    k4 (x1_4 ||| y1_81) (x2_4 + 1)
def fX8_sortsNow_J62 (x4_14 : Int32) (k14 : Int32 → Int32 → Option (Int32)) (y0_62 : Int32) : Option (Int32) :=
    k14 y0_62 (x4_14 + 1)
def fX8_sortsNow_J61 (k62 : Int32 → Option (Int32)) (u_61 : Unit) : Option (Int32) :=
    k62 0
def fX8_sortsNow_J54 (r_6 : Int32) (k61 : Unit → Option (Int32)) (k62 : Int32 → Option (Int32)) (y1_54 : Int32) : Option (Int32) :=
    if r_6 = y1_54 then (k62 1) else (k61 ())
def fX8_sortsNow_L14 (v_seen : Int32) (v_seenWhat : Nat → Int32) (v_seenCan : Nat → Int32) (x1_4 : Int32) (x2_4 : Int32) (k4 : Int32 → Int32 → Option (Int32)) : Nat → Int32 → Int32 → Option (Int32)
  | 0, _, _ => none
  | n + 1, x3_14, x4_14 =>
    if v_seen ≤ x4_14 then (fX8_sortsNow_J81 x1_4 x2_4 k4 (if x3_14 = 0 then 0 else ((1 : Int32) <<< (x2_4 &&& 31)))) else (if x3_14 = 0 then (fX8_sortsNow_J61 (fX8_sortsNow_J62 x4_14 (fX8_sortsNow_L14 v_seen v_seenWhat v_seenCan x1_4 x2_4 k4 n)) ()) else (gd (inb x4_14 6) (bd (fX8_could x2_4 (v_seenWhat x4_14.toNatClampNeg)) (fun r_6 => fX8_sortsNow_J54 r_6 (fX8_sortsNow_J61 (fX8_sortsNow_J62 x4_14 (fX8_sortsNow_L14 v_seen v_seenWhat v_seenCan x1_4 x2_4 k4 n))) (fX8_sortsNow_J62 x4_14 (fX8_sortsNow_L14 v_seen v_seenWhat v_seenCan x1_4 x2_4 k4 n)) (if (v_seenCan x4_14.toNatClampNeg) = 1 then 1 else 0)))))
def fX8_sortsNow_L4 (v_seen : Int32) (v_seenWhat : Nat → Int32) (v_seenCan : Nat → Int32) : Nat → Int32 → Int32 → Option (Int32)
  | 0, _, _ => none
  | n + 1, x1_4, x2_4 =>
    if 4 < x2_4 then (some x1_4) else (fX8_sortsNow_L14 v_seen v_seenWhat v_seenCan x1_4 x2_4 (fX8_sortsNow_L4 v_seen v_seenWhat v_seenCan n) fu 1 0)
def fX8_sortsNow (v_seen : Int32) (v_seenWhat : Nat → Int32) (v_seenCan : Nat → Int32) : Option (Int32) :=
  fX8_sortsNow_L4 v_seen v_seenWhat v_seenCan fu 0 0
def rmX8_sortsNow : Room := { frames := 1, cells := 0, slots := 0, locals := 21 }
set_option maxRecDepth 100000 in
set_option maxHeartbeats 4000000 in
theorem ctX8_sortsNow (l : Launch) (z : Nat × Nat × Nat) (dC : Nat → ClassId) (dI : Nat → Nat → Nat) (cI cB cE : ClassId) (a : Nat → Nat) (v_boards : Int32) (v_kind : Int32) (v_rows : Int32) (v_outer : Nat → Int32) (v_inner : Nat → Int32) (v_content : Nat → Int32) (v_boxes : Int32) (v_rowOf : Nat → Int32) (v_columnOf : Nat → Int32) (v_seen : Int32) (v_seenWhat : Nat → Int32) (v_seenCan : Nat → Int32) (v_pageLength : Int32) (v_page : Nat → Int32) (v_isWhole : Int32) (v_newKind : Int32) (v_newRows : Int32) (v_newOuter : Nat → Int32) (v_newInner : Nat → Int32) (v_newContent : Nat → Int32) (v_now : Nat → Int32) (v_left : Nat → Int32) (v_box : Int32) (v_isCounted : Int32) (v_counted : Int32) (v_given : Nat → Int32) (v_isTermed : Int32) (v_terms : Int32) (v_term : Nat → Int32) (v_shape : Nat → Int32) (v_readBoxes : Int32) (v_readRow : Nat → Int32) (v_readColumn : Nat → Int32) (v_grid : Nat → Int32) (v_often : Nat → Int32) (v_seedNow : Int64) (v_isKept : Int32) (v_keptBoard : Int32) (v_keptKind : Int32) (v_keptRows : Int32) (v_keptSeen : Int32) (v_keptOuter : Nat → Int32) (v_keptInner : Nat → Int32) (v_keptContent : Nat → Int32) (v_keptWhat : Nat → Int32) (v_keptCan : Nat → Int32) (v_h : Int64) (fin : Int32) (hf : fX8_sortsNow v_seen v_seenWhat v_seenCan = some fin) : Ct l z (dC, dI) (tyL cI cB cE) yX8_sortsNow wsX8_sortsNow rmX8_sortsNow [.ref (a 0)] (wX8 cI cB cE a v_boards v_kind v_rows v_outer v_inner v_content v_boxes v_rowOf v_columnOf v_seen v_seenWhat v_seenCan v_pageLength v_page v_isWhole v_newKind v_newRows v_newOuter v_newInner v_newContent v_now v_left v_box v_isCounted v_counted v_given v_isTermed v_terms v_term v_shape v_readBoxes v_readRow v_readColumn v_grid v_often v_seedNow v_isKept v_keptBoard v_keptKind v_keptRows v_keptSeen v_keptOuter v_keptInner v_keptContent v_keptWhat v_keptCan v_h) (some (.int fin)) (wX8 cI cB cE a v_boards v_kind v_rows v_outer v_inner v_content v_boxes v_rowOf v_columnOf v_seen v_seenWhat v_seenCan v_pageLength v_page v_isWhole v_newKind v_newRows v_newOuter v_newInner v_newContent v_now v_left v_box v_isCounted v_counted v_given v_isTermed v_terms v_term v_shape v_readBoxes v_readRow v_readColumn v_grid v_often v_seedNow v_isKept v_keptBoard v_keptKind v_keptRows v_keptSeen v_keptOuter v_keptInner v_keptContent v_keptWhat v_keptCan v_h) := by
  refine Met.ofC (cc := cX8_sortsNow) (maxL := 5) (ret := (some .int)) (by decide) rfl (Nat.le_of_ble_eq_true rfl) ?_
  intro p e s m args below meth c A Q ls hx hb hr hml hts hown hlocks hA hK hP hD hZ hS hQ hl
  have hown : s.vm.findClass RX8 = some m.cls := hown
  have hl : lv_has ls 5 [(0, .ref (a 0))] := hl
  unfold fX8_sortsNow at hf
  refine lv_iconst (v := 0) hx hb dX8_sortsNow_0 (by decide) ?_
  refine lv_istore_n (lv' := [(1, .int 0), (0, .ref (a 0))]) hx hb dX8_sortsNow_1 rfl hl (by decide) rfl (fun ls hl => ?_)
  refine lv_iconst (v := 0) hx hb dX8_sortsNow_2 (by decide) ?_
  refine lv_istore_n (lv' := [(2, .int 0), (1, .int 0), (0, .ref (a 0))]) hx hb dX8_sortsNow_3 rfl hl (by decide) rfl (fun ls hl => ?_)
  have L4 : ∀ (n4 : Nat) (x1_4 : Int32) (x2_4 : Int32), fX8_sortsNow_L4 v_seen v_seenWhat v_seenCan n4 x1_4 x2_4 = some fin → ∀ (H : Heap) (locs : List Loc), va_P (dC, dI) vwCl (wX8 cI cB cE a v_boards v_kind v_rows v_outer v_inner v_content v_boxes v_rowOf v_columnOf v_seen v_seenWhat v_seenCan v_pageLength v_page v_isWhole v_newKind v_newRows v_newOuter v_newInner v_newContent v_now v_left v_box v_isCounted v_counted v_given v_isTermed v_terms v_term v_shape v_readBoxes v_readRow v_readColumn v_grid v_often v_seedNow v_isKept v_keptBoard v_keptKind v_keptRows v_keptSeen v_keptOuter v_keptInner v_keptContent v_keptWhat v_keptCan v_h) H → va_D A (wX8 cI cB cE a v_boards v_kind v_rows v_outer v_inner v_content v_boxes v_rowOf v_columnOf v_seen v_seenWhat v_seenCan v_pageLength v_page v_isWhole v_newKind v_newRows v_newOuter v_newInner v_newContent v_now v_left v_box v_isCounted v_counted v_given v_isTermed v_terms v_term v_shape v_readBoxes v_readRow v_readColumn v_grid v_often v_seedNow v_isKept v_keptBoard v_keptKind v_keptRows v_keptSeen v_keptOuter v_keptInner v_keptContent v_keptWhat v_keptCan v_h) → va_S A s.heap H locs → ∀ (ls : Array Slot), lv_has ls 5 [(0, .ref (a 0)), (1, .int x1_4), (2, .int x2_4)] → W p l e rmX8_sortsNow s m args below meth c H locs 0 0 Q (F0 m 4 ls []) := by
    intro n4
    induction n4 with
    | zero =>
      intro x1_4 x2_4 hf
      rw [fX8_sortsNow_L4] at hf
      cases hf
    | succ n4 ih4 =>
      intro x1_4 x2_4 hf H locs hP hD hS ls hl
      rw [fX8_sortsNow_L4] at hf
      refine lv_iload_n hx hb dX8_sortsNow_4 rfl (lv_at hl 2 rfl) ?_
      refine lv_iconst (v := 4) hx hb dX8_sortsNow_5 (by decide) ?_
      refine lv_icmp_gt (tgt := 89) hx hb dX8_sortsNow_6 (by decide) (fun c_1 => ?_) (fun c_1 => ?_)
      · rw [if_pos c_1] at hf
        refine lv_iload_n hx hb dX8_sortsNow_89 rfl (lv_at hl 1 rfl) ?_
        have hQ2 := hQ
        rw [← Option.some.inj hf] at hQ2
        exact cx_iret hQ2 hx hb hr hlocks hK hP hD hS dX8_sortsNow_90
      · rw [if_neg c_1] at hf
        refine lv_iconst (v := 1) hx hb dX8_sortsNow_9 (by decide) ?_
        refine lv_istore_n (lv' := [(3, .int 1), (0, .ref (a 0)), (1, .int x1_4), (2, .int x2_4)]) hx hb dX8_sortsNow_10 rfl hl (by decide) rfl (fun ls hl => ?_)
        refine lv_iconst (v := 0) hx hb dX8_sortsNow_11 (by decide) ?_
        refine lv_istore (lv' := [(4, .int 0), (3, .int 1), (0, .ref (a 0)), (1, .int x1_4), (2, .int x2_4)]) hx hb dX8_sortsNow_12 hl (by decide) rfl (fun ls hl => ?_)
        have L14 : ∀ (n14 : Nat) (x3_14 : Int32) (x4_14 : Int32), fX8_sortsNow_L14 v_seen v_seenWhat v_seenCan x1_4 x2_4 (fX8_sortsNow_L4 v_seen v_seenWhat v_seenCan n4) n14 x3_14 x4_14 = some fin → ∀ (H : Heap) (locs : List Loc), va_P (dC, dI) vwCl (wX8 cI cB cE a v_boards v_kind v_rows v_outer v_inner v_content v_boxes v_rowOf v_columnOf v_seen v_seenWhat v_seenCan v_pageLength v_page v_isWhole v_newKind v_newRows v_newOuter v_newInner v_newContent v_now v_left v_box v_isCounted v_counted v_given v_isTermed v_terms v_term v_shape v_readBoxes v_readRow v_readColumn v_grid v_often v_seedNow v_isKept v_keptBoard v_keptKind v_keptRows v_keptSeen v_keptOuter v_keptInner v_keptContent v_keptWhat v_keptCan v_h) H → va_D A (wX8 cI cB cE a v_boards v_kind v_rows v_outer v_inner v_content v_boxes v_rowOf v_columnOf v_seen v_seenWhat v_seenCan v_pageLength v_page v_isWhole v_newKind v_newRows v_newOuter v_newInner v_newContent v_now v_left v_box v_isCounted v_counted v_given v_isTermed v_terms v_term v_shape v_readBoxes v_readRow v_readColumn v_grid v_often v_seedNow v_isKept v_keptBoard v_keptKind v_keptRows v_keptSeen v_keptOuter v_keptInner v_keptContent v_keptWhat v_keptCan v_h) → va_S A s.heap H locs → ∀ (ls : Array Slot), lv_has ls 5 [(0, .ref (a 0)), (1, .int x1_4), (2, .int x2_4), (3, .int x3_14), (4, .int x4_14)] → W p l e rmX8_sortsNow s m args below meth c H locs 0 0 Q (F0 m 14 ls []) := by
          intro n14
          induction n14 with
          | zero =>
            intro x3_14 x4_14 hf
            rw [fX8_sortsNow_L14] at hf
            cases hf
          | succ n14 ih14 =>
            intro x3_14 x4_14 hf H locs hP hD hS ls hl
            rw [fX8_sortsNow_L14] at hf
            refine lv_iload hx hb dX8_sortsNow_14 (lv_at hl 4 rfl) ?_
            refine lv_aload_n hx hb dX8_sortsNow_16 rfl (lv_at hl 0 rfl) ?_
            refine va_get (D := (dC, dI)) (ci := 8) (C := RX8) (T := TX8) (N := 47) hx hb hts (fun _ h => List.mem_cons_of_mem _ (List.mem_append_right _ h)) hown hK hP 0 rfl rfl 9 (by decide) (hts (.fieldLink RX8 148 "SkewBoardModel" "seen" "I") (List.mem_of_getElem? (i := 1) rfl)) (fun _ h9 => h9) rfl dX8_sortsNow_17 ?_
            refine lv_icmp_ge (tgt := 69) hx hb dX8_sortsNow_20 (by decide) (fun c_2 => ?_) (fun c_2 => ?_)
            · rw [if_pos c_2] at hf
              refine lv_iload_n hx hb dX8_sortsNow_69 rfl (lv_at hl 1 rfl) ?_
              refine lv_iload_n hx hb dX8_sortsNow_70 rfl (lv_at hl 3 rfl) ?_
              have J81 : ∀ (y1_81 : Int32), fX8_sortsNow_J81 x1_4 x2_4 (fX8_sortsNow_L4 v_seen v_seenWhat v_seenCan n4) y1_81 = some fin → ∀ (H : Heap) (locs : List Loc), va_P (dC, dI) vwCl (wX8 cI cB cE a v_boards v_kind v_rows v_outer v_inner v_content v_boxes v_rowOf v_columnOf v_seen v_seenWhat v_seenCan v_pageLength v_page v_isWhole v_newKind v_newRows v_newOuter v_newInner v_newContent v_now v_left v_box v_isCounted v_counted v_given v_isTermed v_terms v_term v_shape v_readBoxes v_readRow v_readColumn v_grid v_often v_seedNow v_isKept v_keptBoard v_keptKind v_keptRows v_keptSeen v_keptOuter v_keptInner v_keptContent v_keptWhat v_keptCan v_h) H → va_D A (wX8 cI cB cE a v_boards v_kind v_rows v_outer v_inner v_content v_boxes v_rowOf v_columnOf v_seen v_seenWhat v_seenCan v_pageLength v_page v_isWhole v_newKind v_newRows v_newOuter v_newInner v_newContent v_now v_left v_box v_isCounted v_counted v_given v_isTermed v_terms v_term v_shape v_readBoxes v_readRow v_readColumn v_grid v_often v_seedNow v_isKept v_keptBoard v_keptKind v_keptRows v_keptSeen v_keptOuter v_keptInner v_keptContent v_keptWhat v_keptCan v_h) → va_S A s.heap H locs → ∀ (ls : Array Slot), lv_has ls 5 [(0, .ref (a 0)), (2, .int x2_4)] → W p l e rmX8_sortsNow s m args below meth c H locs 0 0 Q (F0 m 81 ls [.int y1_81, .int x1_4]) := by
                intro y1_81 hf H locs hP hD hS ls hl
                unfold fX8_sortsNow_J81 at hf
                refine lv_ior hx hb dX8_sortsNow_81 ?_
                refine lv_istore_n (lv' := [(1, .int (x1_4 ||| y1_81)), (0, .ref (a 0)), (2, .int x2_4)]) hx hb dX8_sortsNow_82 rfl hl (by decide) rfl (fun ls hl => ?_)
                refine lv_iinc (v := (x2_4 + 1)) (lv' := [(2, .int (x2_4 + 1)), (1, .int (x1_4 ||| y1_81)), (0, .ref (a 0))]) hx hb dX8_sortsNow_83 hl (k := 2) rfl rfl (by decide) rfl (fun ls hl => ?_)
                refine lv_goto (tgt := 4) hx hb dX8_sortsNow_86 (by decide) ?_
                exact ih4 (x1_4 ||| y1_81) (x2_4 + 1) hf _ _ hP hD hS ls (lv_sub hl [2, 1, 0] rfl)
              refine lv_if_eq (tgt := 80) hx hb dX8_sortsNow_71 (by decide) (fun c_3 => ?_) (fun c_3 => ?_)
              · rw [if_pos c_3] at hf
                refine lv_iconst (v := 0) hx hb dX8_sortsNow_80 (by decide) ?_
                exact J81 0 hf _ _ hP hD hS ls (lv_sub hl [0, 2] rfl)
              · rw [if_neg c_3] at hf
                refine lv_iconst (v := 1) hx hb dX8_sortsNow_74 (by decide) ?_
                refine lv_iload_n hx hb dX8_sortsNow_75 rfl (lv_at hl 2 rfl) ?_
                refine lv_ishl hx hb dX8_sortsNow_76 ?_
                refine lv_goto (tgt := 81) hx hb dX8_sortsNow_77 (by decide) ?_
                exact J81 ((1 : Int32) <<< (x2_4 &&& 31)) hf _ _ hP hD hS ls (lv_sub hl [0, 2] rfl)
            · rw [if_neg c_2] at hf
              refine lv_iload_n hx hb dX8_sortsNow_23 rfl (lv_at hl 3 rfl) ?_
              have J62 : ∀ (y0_62 : Int32), fX8_sortsNow_J62 x4_14 (fX8_sortsNow_L14 v_seen v_seenWhat v_seenCan x1_4 x2_4 (fX8_sortsNow_L4 v_seen v_seenWhat v_seenCan n4) n14) y0_62 = some fin → ∀ (H : Heap) (locs : List Loc), va_P (dC, dI) vwCl (wX8 cI cB cE a v_boards v_kind v_rows v_outer v_inner v_content v_boxes v_rowOf v_columnOf v_seen v_seenWhat v_seenCan v_pageLength v_page v_isWhole v_newKind v_newRows v_newOuter v_newInner v_newContent v_now v_left v_box v_isCounted v_counted v_given v_isTermed v_terms v_term v_shape v_readBoxes v_readRow v_readColumn v_grid v_often v_seedNow v_isKept v_keptBoard v_keptKind v_keptRows v_keptSeen v_keptOuter v_keptInner v_keptContent v_keptWhat v_keptCan v_h) H → va_D A (wX8 cI cB cE a v_boards v_kind v_rows v_outer v_inner v_content v_boxes v_rowOf v_columnOf v_seen v_seenWhat v_seenCan v_pageLength v_page v_isWhole v_newKind v_newRows v_newOuter v_newInner v_newContent v_now v_left v_box v_isCounted v_counted v_given v_isTermed v_terms v_term v_shape v_readBoxes v_readRow v_readColumn v_grid v_often v_seedNow v_isKept v_keptBoard v_keptKind v_keptRows v_keptSeen v_keptOuter v_keptInner v_keptContent v_keptWhat v_keptCan v_h) → va_S A s.heap H locs → ∀ (ls : Array Slot), lv_has ls 5 [(0, .ref (a 0)), (1, .int x1_4), (2, .int x2_4), (4, .int x4_14)] → W p l e rmX8_sortsNow s m args below meth c H locs 0 0 Q (F0 m 62 ls [.int y0_62]) := by
                intro y0_62 hf H locs hP hD hS ls hl
                unfold fX8_sortsNow_J62 at hf
                refine lv_istore_n (lv' := [(3, .int y0_62), (0, .ref (a 0)), (1, .int x1_4), (2, .int x2_4), (4, .int x4_14)]) hx hb dX8_sortsNow_62 rfl hl (by decide) rfl (fun ls hl => ?_)
                refine lv_iinc (v := (x4_14 + 1)) (lv' := [(4, .int (x4_14 + 1)), (3, .int y0_62), (0, .ref (a 0)), (1, .int x1_4), (2, .int x2_4)]) hx hb dX8_sortsNow_63 hl (k := 4) rfl rfl (by decide) rfl (fun ls hl => ?_)
                refine lv_goto (tgt := 14) hx hb dX8_sortsNow_66 (by decide) ?_
                exact ih14 y0_62 (x4_14 + 1) hf _ _ hP hD hS ls (lv_sub hl [2, 3, 4, 1, 0] rfl)
              have J61 : ∀ (u_61 : Unit), fX8_sortsNow_J61 (fX8_sortsNow_J62 x4_14 (fX8_sortsNow_L14 v_seen v_seenWhat v_seenCan x1_4 x2_4 (fX8_sortsNow_L4 v_seen v_seenWhat v_seenCan n4) n14)) u_61 = some fin → ∀ (H : Heap) (locs : List Loc), va_P (dC, dI) vwCl (wX8 cI cB cE a v_boards v_kind v_rows v_outer v_inner v_content v_boxes v_rowOf v_columnOf v_seen v_seenWhat v_seenCan v_pageLength v_page v_isWhole v_newKind v_newRows v_newOuter v_newInner v_newContent v_now v_left v_box v_isCounted v_counted v_given v_isTermed v_terms v_term v_shape v_readBoxes v_readRow v_readColumn v_grid v_often v_seedNow v_isKept v_keptBoard v_keptKind v_keptRows v_keptSeen v_keptOuter v_keptInner v_keptContent v_keptWhat v_keptCan v_h) H → va_D A (wX8 cI cB cE a v_boards v_kind v_rows v_outer v_inner v_content v_boxes v_rowOf v_columnOf v_seen v_seenWhat v_seenCan v_pageLength v_page v_isWhole v_newKind v_newRows v_newOuter v_newInner v_newContent v_now v_left v_box v_isCounted v_counted v_given v_isTermed v_terms v_term v_shape v_readBoxes v_readRow v_readColumn v_grid v_often v_seedNow v_isKept v_keptBoard v_keptKind v_keptRows v_keptSeen v_keptOuter v_keptInner v_keptContent v_keptWhat v_keptCan v_h) → va_S A s.heap H locs → ∀ (ls : Array Slot), lv_has ls 5 [(0, .ref (a 0)), (1, .int x1_4), (2, .int x2_4), (4, .int x4_14)] → W p l e rmX8_sortsNow s m args below meth c H locs 0 0 Q (F0 m 61 ls []) := by
                intro u_61 hf H locs hP hD hS ls hl
                unfold fX8_sortsNow_J61 at hf
                refine lv_iconst (v := 0) hx hb dX8_sortsNow_61 (by decide) ?_
                exact J62 0 hf _ _ hP hD hS ls (lv_sub hl [0, 1, 2, 3] rfl)
              refine lv_if_eq (tgt := 61) hx hb dX8_sortsNow_24 (by decide) (fun c_4 => ?_) (fun c_4 => ?_)
              · rw [if_pos c_4] at hf
                exact J61 () hf _ _ hP hD hS ls (lv_sub hl [0, 1, 2, 4] rfl)
              · rw [if_neg c_4] at hf
                refine lv_iload_n hx hb dX8_sortsNow_27 rfl (lv_at hl 2 rfl) ?_
                refine lv_aload_n hx hb dX8_sortsNow_28 rfl (lv_at hl 0 rfl) ?_
                refine va_get (D := (dC, dI)) (ci := 8) (C := RX8) (T := TX8) (N := 47) hx hb hts (fun _ h => List.mem_cons_of_mem _ (List.mem_append_right _ h)) hown hK hP 0 rfl rfl 10 (by decide) (hts (.fieldLink RX8 25 "SkewBoardModel" "seenWhat" "[I") (List.mem_of_getElem? (i := 2) rfl)) (fun _ h9 => h9) rfl dX8_sortsNow_29 ?_
                refine lv_iload hx hb dX8_sortsNow_32 (lv_at hl 4 rfl) ?_
                obtain ⟨g_5, hf⟩ := gd_some hf
                refine va_iald hx hb hK hP 6 0 rfl rfl (inb_vp g_5) dX8_sortsNow_34 ?_
                obtain ⟨r_6, hr_6, hf⟩ := bd_some hf
                refine cx_run0 (cx_S (A := A) (As := [.int x2_4, .int (v_seenWhat x4_14.toNatClampNeg)]) (rest := []) ⟨hx, hb, hml, hown, hts⟩ (ctX8_could l z dC dI cI cB cE x2_4 (v_seenWhat x4_14.toNatClampNeg) r_6 hr_6) (va_cwS 2 hts gX8_sortsNow_X8_could rfl rfl rfl (by decide +kernel) ⟨Nat.le_of_ble_eq_true rfl, Nat.le_of_ble_eq_true rfl⟩) hK vaP0 vaD0 hZ hS hA rfl hl.1 rfl (Nat.le_of_ble_eq_true rfl) dX8_sortsNow_35) hP hS hA [.int r_6] rfl (fun H locs hP hS => ?_)
                refine lv_aload_n hx hb dX8_sortsNow_38 rfl (lv_at hl 0 rfl) ?_
                refine va_get (D := (dC, dI)) (ci := 8) (C := RX8) (T := TX8) (N := 47) hx hb hts (fun _ h => List.mem_cons_of_mem _ (List.mem_append_right _ h)) hown hK hP 0 rfl rfl 11 (by decide) (hts (.fieldLink RX8 28 "SkewBoardModel" "seenCan" "[I") (List.mem_of_getElem? (i := 3) rfl)) (fun _ h9 => h9) rfl dX8_sortsNow_39 ?_
                refine lv_iload hx hb dX8_sortsNow_42 (lv_at hl 4 rfl) ?_
                refine va_iald hx hb hK hP 7 0 rfl rfl (inb_vp g_5) dX8_sortsNow_44 ?_
                refine lv_iconst (v := 1) hx hb dX8_sortsNow_45 (by decide) ?_
                have J54 : ∀ (y1_54 : Int32), fX8_sortsNow_J54 r_6 (fX8_sortsNow_J61 (fX8_sortsNow_J62 x4_14 (fX8_sortsNow_L14 v_seen v_seenWhat v_seenCan x1_4 x2_4 (fX8_sortsNow_L4 v_seen v_seenWhat v_seenCan n4) n14))) (fX8_sortsNow_J62 x4_14 (fX8_sortsNow_L14 v_seen v_seenWhat v_seenCan x1_4 x2_4 (fX8_sortsNow_L4 v_seen v_seenWhat v_seenCan n4) n14)) y1_54 = some fin → ∀ (H : Heap) (locs : List Loc), va_P (dC, dI) vwCl (wX8 cI cB cE a v_boards v_kind v_rows v_outer v_inner v_content v_boxes v_rowOf v_columnOf v_seen v_seenWhat v_seenCan v_pageLength v_page v_isWhole v_newKind v_newRows v_newOuter v_newInner v_newContent v_now v_left v_box v_isCounted v_counted v_given v_isTermed v_terms v_term v_shape v_readBoxes v_readRow v_readColumn v_grid v_often v_seedNow v_isKept v_keptBoard v_keptKind v_keptRows v_keptSeen v_keptOuter v_keptInner v_keptContent v_keptWhat v_keptCan v_h) H → va_D A (wX8 cI cB cE a v_boards v_kind v_rows v_outer v_inner v_content v_boxes v_rowOf v_columnOf v_seen v_seenWhat v_seenCan v_pageLength v_page v_isWhole v_newKind v_newRows v_newOuter v_newInner v_newContent v_now v_left v_box v_isCounted v_counted v_given v_isTermed v_terms v_term v_shape v_readBoxes v_readRow v_readColumn v_grid v_often v_seedNow v_isKept v_keptBoard v_keptKind v_keptRows v_keptSeen v_keptOuter v_keptInner v_keptContent v_keptWhat v_keptCan v_h) → va_S A s.heap H locs → ∀ (ls : Array Slot), lv_has ls 5 [(0, .ref (a 0)), (1, .int x1_4), (2, .int x2_4), (4, .int x4_14)] → W p l e rmX8_sortsNow s m args below meth c H locs 0 0 Q (F0 m 54 ls [.int y1_54, .int r_6]) := by
                  intro y1_54 hf H locs hP hD hS ls hl
                  unfold fX8_sortsNow_J54 at hf
                  refine lv_icmp_ne (tgt := 61) hx hb dX8_sortsNow_54 (by decide) (fun c_7 => ?_) (fun c_7 => ?_)
                  · rw [if_neg c_7] at hf
                    exact J61 () hf _ _ hP hD hS ls (lv_sub hl [0, 1, 2, 3] rfl)
                  · rw [if_pos c_7] at hf
                    refine lv_iconst (v := 1) hx hb dX8_sortsNow_57 (by decide) ?_
                    refine lv_goto (tgt := 62) hx hb dX8_sortsNow_58 (by decide) ?_
                    exact J62 1 hf _ _ hP hD hS ls (lv_sub hl [0, 1, 2, 3] rfl)
                refine lv_icmp_ne (tgt := 53) hx hb dX8_sortsNow_46 (by decide) (fun c_8 => ?_) (fun c_8 => ?_)
                · rw [if_neg c_8] at hf
                  refine lv_iconst (v := 0) hx hb dX8_sortsNow_53 (by decide) ?_
                  exact J54 0 hf _ _ hP hD hS ls (lv_sub hl [0, 1, 2, 4] rfl)
                · rw [if_pos c_8] at hf
                  refine lv_iconst (v := 1) hx hb dX8_sortsNow_49 (by decide) ?_
                  refine lv_goto (tgt := 54) hx hb dX8_sortsNow_50 (by decide) ?_
                  exact J54 1 hf _ _ hP hD hS ls (lv_sub hl [0, 1, 2, 4] rfl)
        exact L14 fu 1 0 hf _ _ hP hD hS ls (lv_sub hl [2, 3, 4, 1, 0] rfl)
  exact L4 fu 0 0 hf _ _ hP hD hS ls (lv_sub hl [2, 1, 0] rfl)

def fX8_askNow_J128 (x2_128 : Int32) : Option (Int32) :=
    some x2_128
def fX8_askNow_J121 (x4_14 : Int32) (y0_108 : Int32) (k14 : Int32 → Int32 → Int32 → Option (Int32)) (y0_121 : Int32) : Option (Int32) :=
    k14 y0_108 y0_121 (x4_14 + 1)
def fX8_askNow_J108 (x3_14 : Int32) (x4_14 : Int32) (y0_94 : Int32) (k14 : Int32 → Int32 → Int32 → Option (Int32)) (y0_108 : Int32) : Option (Int32) :=
    fX8_askNow_J121 x4_14 y0_108 k14 (if x3_14 ≤ y0_94 then x3_14 else y0_94)
def fX8_askNow_J94 (x2_14 : Int32) (x3_14 : Int32) (x4_14 : Int32) (k14 : Int32 → Int32 → Int32 → Option (Int32)) (y0_94 : Int32) : Option (Int32) :=
    fX8_askNow_J108 x3_14 x4_14 y0_94 k14 (if x3_14 ≤ y0_94 then x2_14 else x4_14)
def fX8_askNow_J62 (x5_30 : Int32) (x6_30 : Int32) (k30 : Int32 → Int32 → Option (Int32)) (y1_62 : Int32) : Option (Int32) :=
    k30 (x5_30 + y1_62) (x6_30 + 1)
def fX8_askNow_J61 (k62 : Int32 → Option (Int32)) (u_61 : Unit) : Option (Int32) :=
    k62 0
def fX8_askNow_L30 (r_1 : Int32) (x2_14 : Int32) (x3_14 : Int32) (x4_14 : Int32) (k14 : Int32 → Int32 → Int32 → Option (Int32)) : Nat → Int32 → Int32 → Option (Int32)
  | 0, _, _ => none
  | n + 1, x5_30, x6_30 =>
    if 4 < x6_30 then (bd (fX8_size r_1) (fun r_5 => fX8_askNow_J94 x2_14 x3_14 x4_14 k14 (if x5_30 ≤ (r_5 - x5_30) then (r_5 - x5_30) else x5_30))) else (bd (fX8_isIn r_1 x6_30) (fun r_9 => if r_9 = 0 then (fX8_askNow_J61 (fX8_askNow_J62 x5_30 x6_30 (fX8_askNow_L30 r_1 x2_14 x3_14 x4_14 k14 n)) ()) else (bd (fX8_could x6_30 x4_14) (fun r_11 => if r_11 = 0 then (fX8_askNow_J61 (fX8_askNow_J62 x5_30 x6_30 (fX8_askNow_L30 r_1 x2_14 x3_14 x4_14 k14 n)) ()) else (fX8_askNow_J62 x5_30 x6_30 (fX8_askNow_L30 r_1 x2_14 x3_14 x4_14 k14 n) 1)))))
def fX8_askNow_L14 (r_1 : Int32) (k128 : Int32 → Option (Int32)) : Nat → Int32 → Int32 → Int32 → Option (Int32)
  | 0, _, _, _ => none
  | n + 1, x2_14, x3_14, x4_14 =>
    if 4 ≤ x4_14 then (k128 x2_14) else (if r_1 = 0 then (k128 x2_14) else (fX8_askNow_L30 r_1 x2_14 x3_14 x4_14 (fX8_askNow_L14 r_1 k128 n) fu 0 0))
def fX8_askNow (v_seen : Int32) (v_seenWhat : Nat → Int32) (v_seenCan : Nat → Int32) : Option (Int32) :=
  bd (fX8_sortsNow v_seen v_seenWhat v_seenCan) (fun r_1 => fX8_askNow_L14 r_1 fX8_askNow_J128 fu (-1) 268435456 0)
def rmX8_askNow : Room := { frames := 2, cells := 0, slots := 0, locals := 45 }
set_option maxRecDepth 100000 in
set_option maxHeartbeats 4000000 in
theorem ctX8_askNow (l : Launch) (z : Nat × Nat × Nat) (dC : Nat → ClassId) (dI : Nat → Nat → Nat) (cI cB cE : ClassId) (a : Nat → Nat) (v_boards : Int32) (v_kind : Int32) (v_rows : Int32) (v_outer : Nat → Int32) (v_inner : Nat → Int32) (v_content : Nat → Int32) (v_boxes : Int32) (v_rowOf : Nat → Int32) (v_columnOf : Nat → Int32) (v_seen : Int32) (v_seenWhat : Nat → Int32) (v_seenCan : Nat → Int32) (v_pageLength : Int32) (v_page : Nat → Int32) (v_isWhole : Int32) (v_newKind : Int32) (v_newRows : Int32) (v_newOuter : Nat → Int32) (v_newInner : Nat → Int32) (v_newContent : Nat → Int32) (v_now : Nat → Int32) (v_left : Nat → Int32) (v_box : Int32) (v_isCounted : Int32) (v_counted : Int32) (v_given : Nat → Int32) (v_isTermed : Int32) (v_terms : Int32) (v_term : Nat → Int32) (v_shape : Nat → Int32) (v_readBoxes : Int32) (v_readRow : Nat → Int32) (v_readColumn : Nat → Int32) (v_grid : Nat → Int32) (v_often : Nat → Int32) (v_seedNow : Int64) (v_isKept : Int32) (v_keptBoard : Int32) (v_keptKind : Int32) (v_keptRows : Int32) (v_keptSeen : Int32) (v_keptOuter : Nat → Int32) (v_keptInner : Nat → Int32) (v_keptContent : Nat → Int32) (v_keptWhat : Nat → Int32) (v_keptCan : Nat → Int32) (v_h : Int64) (fin : Int32) (hf : fX8_askNow v_seen v_seenWhat v_seenCan = some fin) : Ct l z (dC, dI) (tyL cI cB cE) yX8_askNow wsX8_askNow rmX8_askNow [.ref (a 0)] (wX8 cI cB cE a v_boards v_kind v_rows v_outer v_inner v_content v_boxes v_rowOf v_columnOf v_seen v_seenWhat v_seenCan v_pageLength v_page v_isWhole v_newKind v_newRows v_newOuter v_newInner v_newContent v_now v_left v_box v_isCounted v_counted v_given v_isTermed v_terms v_term v_shape v_readBoxes v_readRow v_readColumn v_grid v_often v_seedNow v_isKept v_keptBoard v_keptKind v_keptRows v_keptSeen v_keptOuter v_keptInner v_keptContent v_keptWhat v_keptCan v_h) (some (.int fin)) (wX8 cI cB cE a v_boards v_kind v_rows v_outer v_inner v_content v_boxes v_rowOf v_columnOf v_seen v_seenWhat v_seenCan v_pageLength v_page v_isWhole v_newKind v_newRows v_newOuter v_newInner v_newContent v_now v_left v_box v_isCounted v_counted v_given v_isTermed v_terms v_term v_shape v_readBoxes v_readRow v_readColumn v_grid v_often v_seedNow v_isKept v_keptBoard v_keptKind v_keptRows v_keptSeen v_keptOuter v_keptInner v_keptContent v_keptWhat v_keptCan v_h) := by
  refine Met.ofC (cc := cX8_askNow) (maxL := 8) (ret := (some .int)) (by decide) rfl (Nat.le_of_ble_eq_true rfl) ?_
  intro p e s m args below meth c A Q ls hx hb hr hml hts hown hlocks hA hK hP hD hZ hS hQ hl
  have hown : s.vm.findClass RX8 = some m.cls := hown
  have hl : lv_has ls 8 [(0, .ref (a 0))] := hl
  unfold fX8_askNow at hf
  refine lv_aload_n hx hb dX8_askNow_0 rfl (lv_at hl 0 rfl) ?_
  obtain ⟨r_1, hr_1, hf⟩ := bd_some hf
  refine cx_runW (cx_V (As := []) (rest := []) ⟨hx, hb, hml, hown, hts⟩ (ctX8_sortsNow l z dC dI cI cB cE a v_boards v_kind v_rows v_outer v_inner v_content v_boxes v_rowOf v_columnOf v_seen v_seenWhat v_seenCan v_pageLength v_page v_isWhole v_newKind v_newRows v_newOuter v_newInner v_newContent v_now v_left v_box v_isCounted v_counted v_given v_isTermed v_terms v_term v_shape v_readBoxes v_readRow v_readColumn v_grid v_often v_seedNow v_isKept v_keptBoard v_keptKind v_keptRows v_keptSeen v_keptOuter v_keptInner v_keptContent v_keptWhat v_keptCan v_h r_1 hr_1) (cwV 0 hts gX8_askNow_X8_sortsNow rfl rfl rfl (by decide +kernel) ⟨Nat.le_of_ble_eq_true rfl, Nat.le_of_ble_eq_true rfl⟩) hK hP hD hZ hS hA (ci := 8) (q0 := 0) rfl rfl rfl hl.1 rfl (Nat.le_of_ble_eq_true rfl) dX8_askNow_1) hD hS hA [.int r_1] rfl (fun H locs hP hD hS => ?_)
  refine lv_istore_n (lv' := [(1, .int r_1), (0, .ref (a 0))]) hx hb dX8_askNow_4 rfl hl (by decide) rfl (fun ls hl => ?_)
  refine lv_iconst (v := (-1)) hx hb dX8_askNow_5 (by decide) ?_
  refine lv_istore_n (lv' := [(2, .int (-1)), (1, .int r_1), (0, .ref (a 0))]) hx hb dX8_askNow_6 rfl hl (by decide) rfl (fun ls hl => ?_)
  refine lv_ldcw (v := 268435456) hx hb hown (hts (.constant RX8 267 (268435456)) (List.mem_of_getElem? (i := 1) rfl)) dX8_askNow_7 ?_
  refine lv_istore_n (lv' := [(3, .int 268435456), (2, .int (-1)), (1, .int r_1), (0, .ref (a 0))]) hx hb dX8_askNow_10 rfl hl (by decide) rfl (fun ls hl => ?_)
  refine lv_iconst (v := 0) hx hb dX8_askNow_11 (by decide) ?_
  refine lv_istore (lv' := [(4, .int 0), (3, .int 268435456), (2, .int (-1)), (1, .int r_1), (0, .ref (a 0))]) hx hb dX8_askNow_12 hl (by decide) rfl (fun ls hl => ?_)
  have J128 : ∀ (x2_128 : Int32), fX8_askNow_J128  x2_128 = some fin → ∀ (H : Heap) (locs : List Loc), va_P (dC, dI) vwCl (wX8 cI cB cE a v_boards v_kind v_rows v_outer v_inner v_content v_boxes v_rowOf v_columnOf v_seen v_seenWhat v_seenCan v_pageLength v_page v_isWhole v_newKind v_newRows v_newOuter v_newInner v_newContent v_now v_left v_box v_isCounted v_counted v_given v_isTermed v_terms v_term v_shape v_readBoxes v_readRow v_readColumn v_grid v_often v_seedNow v_isKept v_keptBoard v_keptKind v_keptRows v_keptSeen v_keptOuter v_keptInner v_keptContent v_keptWhat v_keptCan v_h) H → va_D A (wX8 cI cB cE a v_boards v_kind v_rows v_outer v_inner v_content v_boxes v_rowOf v_columnOf v_seen v_seenWhat v_seenCan v_pageLength v_page v_isWhole v_newKind v_newRows v_newOuter v_newInner v_newContent v_now v_left v_box v_isCounted v_counted v_given v_isTermed v_terms v_term v_shape v_readBoxes v_readRow v_readColumn v_grid v_often v_seedNow v_isKept v_keptBoard v_keptKind v_keptRows v_keptSeen v_keptOuter v_keptInner v_keptContent v_keptWhat v_keptCan v_h) → va_S A s.heap H locs → ∀ (ls : Array Slot), lv_has ls 8 [(2, .int x2_128)] → W p l e rmX8_askNow s m args below meth c H locs 0 0 Q (F0 m 128 ls []) := by
    intro x2_128 hf H locs hP hD hS ls hl
    unfold fX8_askNow_J128 at hf
    refine lv_iload_n hx hb dX8_askNow_128 rfl (lv_at hl 0 rfl) ?_
    have hQ2 := hQ
    rw [← Option.some.inj hf] at hQ2
    exact cx_iret hQ2 hx hb hr hlocks hK hP hD hS dX8_askNow_129
  have L14 : ∀ (n14 : Nat) (x2_14 : Int32) (x3_14 : Int32) (x4_14 : Int32), fX8_askNow_L14 r_1 (fX8_askNow_J128) n14 x2_14 x3_14 x4_14 = some fin → ∀ (H : Heap) (locs : List Loc), va_P (dC, dI) vwCl (wX8 cI cB cE a v_boards v_kind v_rows v_outer v_inner v_content v_boxes v_rowOf v_columnOf v_seen v_seenWhat v_seenCan v_pageLength v_page v_isWhole v_newKind v_newRows v_newOuter v_newInner v_newContent v_now v_left v_box v_isCounted v_counted v_given v_isTermed v_terms v_term v_shape v_readBoxes v_readRow v_readColumn v_grid v_often v_seedNow v_isKept v_keptBoard v_keptKind v_keptRows v_keptSeen v_keptOuter v_keptInner v_keptContent v_keptWhat v_keptCan v_h) H → va_D A (wX8 cI cB cE a v_boards v_kind v_rows v_outer v_inner v_content v_boxes v_rowOf v_columnOf v_seen v_seenWhat v_seenCan v_pageLength v_page v_isWhole v_newKind v_newRows v_newOuter v_newInner v_newContent v_now v_left v_box v_isCounted v_counted v_given v_isTermed v_terms v_term v_shape v_readBoxes v_readRow v_readColumn v_grid v_often v_seedNow v_isKept v_keptBoard v_keptKind v_keptRows v_keptSeen v_keptOuter v_keptInner v_keptContent v_keptWhat v_keptCan v_h) → va_S A s.heap H locs → ∀ (ls : Array Slot), lv_has ls 8 [(1, .int r_1), (2, .int x2_14), (3, .int x3_14), (4, .int x4_14)] → W p l e rmX8_askNow s m args below meth c H locs 0 0 Q (F0 m 14 ls []) := by
    intro n14
    induction n14 with
    | zero =>
      intro x2_14 x3_14 x4_14 hf
      rw [fX8_askNow_L14] at hf
      cases hf
    | succ n14 ih14 =>
      intro x2_14 x3_14 x4_14 hf H locs hP hD hS ls hl
      rw [fX8_askNow_L14] at hf
      refine lv_iload hx hb dX8_askNow_14 (lv_at hl 3 rfl) ?_
      refine lv_iconst (v := 4) hx hb dX8_askNow_16 (by decide) ?_
      refine lv_icmp_ge (tgt := 128) hx hb dX8_askNow_17 (by decide) (fun c_2 => ?_) (fun c_2 => ?_)
      · rw [if_pos c_2] at hf
        exact J128 x2_14 hf _ _ hP hD hS ls (lv_sub hl [1] rfl)
      · rw [if_neg c_2] at hf
        refine lv_iload_n hx hb dX8_askNow_20 rfl (lv_at hl 0 rfl) ?_
        refine lv_if_eq (tgt := 128) hx hb dX8_askNow_21 (by decide) (fun c_3 => ?_) (fun c_3 => ?_)
        · rw [if_pos c_3] at hf
          exact J128 x2_14 hf _ _ hP hD hS ls (lv_sub hl [1] rfl)
        · rw [if_neg c_3] at hf
          refine lv_iconst (v := 0) hx hb dX8_askNow_24 (by decide) ?_
          refine lv_istore (lv' := [(5, .int 0), (1, .int r_1), (2, .int x2_14), (3, .int x3_14), (4, .int x4_14)]) hx hb dX8_askNow_25 hl (by decide) rfl (fun ls hl => ?_)
          refine lv_iconst (v := 0) hx hb dX8_askNow_27 (by decide) ?_
          refine lv_istore (lv' := [(6, .int 0), (5, .int 0), (1, .int r_1), (2, .int x2_14), (3, .int x3_14), (4, .int x4_14)]) hx hb dX8_askNow_28 hl (by decide) rfl (fun ls hl => ?_)
          have L30 : ∀ (n30 : Nat) (x5_30 : Int32) (x6_30 : Int32), fX8_askNow_L30 r_1 x2_14 x3_14 x4_14 (fX8_askNow_L14 r_1 (fX8_askNow_J128) n14) n30 x5_30 x6_30 = some fin → ∀ (H : Heap) (locs : List Loc), va_P (dC, dI) vwCl (wX8 cI cB cE a v_boards v_kind v_rows v_outer v_inner v_content v_boxes v_rowOf v_columnOf v_seen v_seenWhat v_seenCan v_pageLength v_page v_isWhole v_newKind v_newRows v_newOuter v_newInner v_newContent v_now v_left v_box v_isCounted v_counted v_given v_isTermed v_terms v_term v_shape v_readBoxes v_readRow v_readColumn v_grid v_often v_seedNow v_isKept v_keptBoard v_keptKind v_keptRows v_keptSeen v_keptOuter v_keptInner v_keptContent v_keptWhat v_keptCan v_h) H → va_D A (wX8 cI cB cE a v_boards v_kind v_rows v_outer v_inner v_content v_boxes v_rowOf v_columnOf v_seen v_seenWhat v_seenCan v_pageLength v_page v_isWhole v_newKind v_newRows v_newOuter v_newInner v_newContent v_now v_left v_box v_isCounted v_counted v_given v_isTermed v_terms v_term v_shape v_readBoxes v_readRow v_readColumn v_grid v_often v_seedNow v_isKept v_keptBoard v_keptKind v_keptRows v_keptSeen v_keptOuter v_keptInner v_keptContent v_keptWhat v_keptCan v_h) → va_S A s.heap H locs → ∀ (ls : Array Slot), lv_has ls 8 [(1, .int r_1), (2, .int x2_14), (3, .int x3_14), (4, .int x4_14), (5, .int x5_30), (6, .int x6_30)] → W p l e rmX8_askNow s m args below meth c H locs 0 0 Q (F0 m 30 ls []) := by
            intro n30
            induction n30 with
            | zero =>
              intro x5_30 x6_30 hf
              rw [fX8_askNow_L30] at hf
              cases hf
            | succ n30 ih30 =>
              intro x5_30 x6_30 hf H locs hP hD hS ls hl
              rw [fX8_askNow_L30] at hf
              refine lv_iload hx hb dX8_askNow_30 (lv_at hl 5 rfl) ?_
              refine lv_iconst (v := 4) hx hb dX8_askNow_32 (by decide) ?_
              refine lv_icmp_gt (tgt := 71) hx hb dX8_askNow_33 (by decide) (fun c_4 => ?_) (fun c_4 => ?_)
              · rw [if_pos c_4] at hf
                refine lv_iload_n hx hb dX8_askNow_71 rfl (lv_at hl 0 rfl) ?_
                obtain ⟨r_5, hr_5, hf⟩ := bd_some hf
                refine cx_run0 (cx_S (A := A) (As := [.int r_1]) (rest := []) ⟨hx, hb, hml, hown, hts⟩ (ctX8_size l z dC dI cI cB cE r_1 r_5 hr_5) (va_cwS 1 hts gX8_askNow_X8_size rfl rfl rfl (by decide +kernel) ⟨Nat.le_of_ble_eq_true rfl, Nat.le_of_ble_eq_true rfl⟩) hK vaP0 vaD0 hZ hS hA rfl hl.1 rfl (Nat.le_of_ble_eq_true rfl) dX8_askNow_72) hP hS hA [.int r_5] rfl (fun H locs hP hS => ?_)
                refine lv_iload hx hb dX8_askNow_75 (lv_at hl 4 rfl) ?_
                refine lv_isub hx hb dX8_askNow_77 ?_
                refine lv_istore (lv' := [(6, .int (r_5 - x5_30)), (1, .int r_1), (2, .int x2_14), (3, .int x3_14), (4, .int x4_14), (5, .int x5_30)]) hx hb dX8_askNow_78 hl (by decide) rfl (fun ls hl => ?_)
                refine lv_iload hx hb dX8_askNow_80 (lv_at hl 5 rfl) ?_
                refine lv_iload hx hb dX8_askNow_82 (lv_at hl 0 rfl) ?_
                have J94 : ∀ (y0_94 : Int32), fX8_askNow_J94 x2_14 x3_14 x4_14 (fX8_askNow_L14 r_1 (fX8_askNow_J128) n14) y0_94 = some fin → ∀ (H : Heap) (locs : List Loc), va_P (dC, dI) vwCl (wX8 cI cB cE a v_boards v_kind v_rows v_outer v_inner v_content v_boxes v_rowOf v_columnOf v_seen v_seenWhat v_seenCan v_pageLength v_page v_isWhole v_newKind v_newRows v_newOuter v_newInner v_newContent v_now v_left v_box v_isCounted v_counted v_given v_isTermed v_terms v_term v_shape v_readBoxes v_readRow v_readColumn v_grid v_often v_seedNow v_isKept v_keptBoard v_keptKind v_keptRows v_keptSeen v_keptOuter v_keptInner v_keptContent v_keptWhat v_keptCan v_h) H → va_D A (wX8 cI cB cE a v_boards v_kind v_rows v_outer v_inner v_content v_boxes v_rowOf v_columnOf v_seen v_seenWhat v_seenCan v_pageLength v_page v_isWhole v_newKind v_newRows v_newOuter v_newInner v_newContent v_now v_left v_box v_isCounted v_counted v_given v_isTermed v_terms v_term v_shape v_readBoxes v_readRow v_readColumn v_grid v_often v_seedNow v_isKept v_keptBoard v_keptKind v_keptRows v_keptSeen v_keptOuter v_keptInner v_keptContent v_keptWhat v_keptCan v_h) → va_S A s.heap H locs → ∀ (ls : Array Slot), lv_has ls 8 [(1, .int r_1), (2, .int x2_14), (3, .int x3_14), (4, .int x4_14)] → W p l e rmX8_askNow s m args below meth c H locs 0 0 Q (F0 m 94 ls [.int y0_94]) := by
                  intro y0_94 hf H locs hP hD hS ls hl
                  unfold fX8_askNow_J94 at hf
                  refine lv_istore (lv' := [(7, .int y0_94), (1, .int r_1), (2, .int x2_14), (3, .int x3_14), (4, .int x4_14)]) hx hb dX8_askNow_94 hl (by decide) rfl (fun ls hl => ?_)
                  refine lv_iload hx hb dX8_askNow_96 (lv_at hl 0 rfl) ?_
                  refine lv_iload_n hx hb dX8_askNow_98 rfl (lv_at hl 3 rfl) ?_
                  have J108 : ∀ (y0_108 : Int32), fX8_askNow_J108 x3_14 x4_14 y0_94 (fX8_askNow_L14 r_1 (fX8_askNow_J128) n14) y0_108 = some fin → ∀ (H : Heap) (locs : List Loc), va_P (dC, dI) vwCl (wX8 cI cB cE a v_boards v_kind v_rows v_outer v_inner v_content v_boxes v_rowOf v_columnOf v_seen v_seenWhat v_seenCan v_pageLength v_page v_isWhole v_newKind v_newRows v_newOuter v_newInner v_newContent v_now v_left v_box v_isCounted v_counted v_given v_isTermed v_terms v_term v_shape v_readBoxes v_readRow v_readColumn v_grid v_often v_seedNow v_isKept v_keptBoard v_keptKind v_keptRows v_keptSeen v_keptOuter v_keptInner v_keptContent v_keptWhat v_keptCan v_h) H → va_D A (wX8 cI cB cE a v_boards v_kind v_rows v_outer v_inner v_content v_boxes v_rowOf v_columnOf v_seen v_seenWhat v_seenCan v_pageLength v_page v_isWhole v_newKind v_newRows v_newOuter v_newInner v_newContent v_now v_left v_box v_isCounted v_counted v_given v_isTermed v_terms v_term v_shape v_readBoxes v_readRow v_readColumn v_grid v_often v_seedNow v_isKept v_keptBoard v_keptKind v_keptRows v_keptSeen v_keptOuter v_keptInner v_keptContent v_keptWhat v_keptCan v_h) → va_S A s.heap H locs → ∀ (ls : Array Slot), lv_has ls 8 [(1, .int r_1), (3, .int x3_14), (4, .int x4_14), (7, .int y0_94)] → W p l e rmX8_askNow s m args below meth c H locs 0 0 Q (F0 m 108 ls [.int y0_108]) := by
                    intro y0_108 hf H locs hP hD hS ls hl
                    unfold fX8_askNow_J108 at hf
                    refine lv_istore_n (lv' := [(2, .int y0_108), (1, .int r_1), (3, .int x3_14), (4, .int x4_14), (7, .int y0_94)]) hx hb dX8_askNow_108 rfl hl (by decide) rfl (fun ls hl => ?_)
                    refine lv_iload hx hb dX8_askNow_109 (lv_at hl 4 rfl) ?_
                    refine lv_iload_n hx hb dX8_askNow_111 rfl (lv_at hl 2 rfl) ?_
                    have J121 : ∀ (y0_121 : Int32), fX8_askNow_J121 x4_14 y0_108 (fX8_askNow_L14 r_1 (fX8_askNow_J128) n14) y0_121 = some fin → ∀ (H : Heap) (locs : List Loc), va_P (dC, dI) vwCl (wX8 cI cB cE a v_boards v_kind v_rows v_outer v_inner v_content v_boxes v_rowOf v_columnOf v_seen v_seenWhat v_seenCan v_pageLength v_page v_isWhole v_newKind v_newRows v_newOuter v_newInner v_newContent v_now v_left v_box v_isCounted v_counted v_given v_isTermed v_terms v_term v_shape v_readBoxes v_readRow v_readColumn v_grid v_often v_seedNow v_isKept v_keptBoard v_keptKind v_keptRows v_keptSeen v_keptOuter v_keptInner v_keptContent v_keptWhat v_keptCan v_h) H → va_D A (wX8 cI cB cE a v_boards v_kind v_rows v_outer v_inner v_content v_boxes v_rowOf v_columnOf v_seen v_seenWhat v_seenCan v_pageLength v_page v_isWhole v_newKind v_newRows v_newOuter v_newInner v_newContent v_now v_left v_box v_isCounted v_counted v_given v_isTermed v_terms v_term v_shape v_readBoxes v_readRow v_readColumn v_grid v_often v_seedNow v_isKept v_keptBoard v_keptKind v_keptRows v_keptSeen v_keptOuter v_keptInner v_keptContent v_keptWhat v_keptCan v_h) → va_S A s.heap H locs → ∀ (ls : Array Slot), lv_has ls 8 [(1, .int r_1), (2, .int y0_108), (4, .int x4_14)] → W p l e rmX8_askNow s m args below meth c H locs 0 0 Q (F0 m 121 ls [.int y0_121]) := by
                      intro y0_121 hf H locs hP hD hS ls hl
                      unfold fX8_askNow_J121 at hf
                      refine lv_istore_n (lv' := [(3, .int y0_121), (1, .int r_1), (2, .int y0_108), (4, .int x4_14)]) hx hb dX8_askNow_121 rfl hl (by decide) rfl (fun ls hl => ?_)
                      refine lv_iinc (v := (x4_14 + 1)) (lv' := [(4, .int (x4_14 + 1)), (3, .int y0_121), (1, .int r_1), (2, .int y0_108)]) hx hb dX8_askNow_122 hl (k := 3) rfl rfl (by decide) rfl (fun ls hl => ?_)
                      refine lv_goto (tgt := 14) hx hb dX8_askNow_125 (by decide) ?_
                      exact ih14 y0_108 y0_121 (x4_14 + 1) hf _ _ hP hD hS ls (lv_sub hl [2, 3, 1, 0] rfl)
                    refine lv_icmp_ge (tgt := 120) hx hb dX8_askNow_112 (by decide) (fun c_6 => ?_) (fun c_6 => ?_)
                    · rw [if_pos c_6] at hf
                      refine lv_iload_n hx hb dX8_askNow_120 rfl (lv_at hl 2 rfl) ?_
                      exact J121 x3_14 hf _ _ hP hD hS ls (lv_sub hl [1, 0, 3] rfl)
                    · rw [if_neg c_6] at hf
                      refine lv_iload hx hb dX8_askNow_115 (lv_at hl 4 rfl) ?_
                      refine lv_goto (tgt := 121) hx hb dX8_askNow_117 (by decide) ?_
                      exact J121 y0_94 hf _ _ hP hD hS ls (lv_sub hl [1, 0, 3] rfl)
                  refine lv_icmp_ge (tgt := 107) hx hb dX8_askNow_99 (by decide) (fun c_7 => ?_) (fun c_7 => ?_)
                  · rw [if_pos c_7] at hf
                    refine lv_iload_n hx hb dX8_askNow_107 rfl (lv_at hl 2 rfl) ?_
                    exact J108 x2_14 hf _ _ hP hD hS ls (lv_sub hl [1, 3, 4, 0] rfl)
                  · rw [if_neg c_7] at hf
                    refine lv_iload hx hb dX8_askNow_102 (lv_at hl 4 rfl) ?_
                    refine lv_goto (tgt := 108) hx hb dX8_askNow_104 (by decide) ?_
                    exact J108 x4_14 hf _ _ hP hD hS ls (lv_sub hl [1, 3, 4, 0] rfl)
                refine lv_icmp_le (tgt := 92) hx hb dX8_askNow_84 (by decide) (fun c_8 => ?_) (fun c_8 => ?_)
                · rw [if_pos c_8] at hf
                  refine lv_iload hx hb dX8_askNow_92 (lv_at hl 0 rfl) ?_
                  exact J94 (r_5 - x5_30) hf _ _ hP hD hS ls (lv_sub hl [1, 2, 3, 4] rfl)
                · rw [if_neg c_8] at hf
                  refine lv_iload hx hb dX8_askNow_87 (lv_at hl 5 rfl) ?_
                  refine lv_goto (tgt := 94) hx hb dX8_askNow_89 (by decide) ?_
                  exact J94 x5_30 hf _ _ hP hD hS ls (lv_sub hl [1, 2, 3, 4] rfl)
              · rw [if_neg c_4] at hf
                refine lv_iload hx hb dX8_askNow_36 (lv_at hl 4 rfl) ?_
                refine lv_iload_n hx hb dX8_askNow_38 rfl (lv_at hl 0 rfl) ?_
                refine lv_iload hx hb dX8_askNow_39 (lv_at hl 5 rfl) ?_
                obtain ⟨r_9, hr_9, hf⟩ := bd_some hf
                refine cx_run0 (cx_S (A := A) (As := [.int r_1, .int x6_30]) (rest := [.int x5_30]) ⟨hx, hb, hml, hown, hts⟩ (ctX8_isIn l z dC dI cI cB cE r_1 x6_30 r_9 hr_9) (va_cwS 2 hts gX8_askNow_X8_isIn rfl rfl rfl (by decide +kernel) ⟨Nat.le_of_ble_eq_true rfl, Nat.le_of_ble_eq_true rfl⟩) hK vaP0 vaD0 hZ hS hA rfl hl.1 rfl (Nat.le_of_ble_eq_true rfl) dX8_askNow_41) hP hS hA [.int r_9, .int x5_30] rfl (fun H locs hP hS => ?_)
                have J62 : ∀ (y1_62 : Int32), fX8_askNow_J62 x5_30 x6_30 (fX8_askNow_L30 r_1 x2_14 x3_14 x4_14 (fX8_askNow_L14 r_1 (fX8_askNow_J128) n14) n30) y1_62 = some fin → ∀ (H : Heap) (locs : List Loc), va_P (dC, dI) vwCl (wX8 cI cB cE a v_boards v_kind v_rows v_outer v_inner v_content v_boxes v_rowOf v_columnOf v_seen v_seenWhat v_seenCan v_pageLength v_page v_isWhole v_newKind v_newRows v_newOuter v_newInner v_newContent v_now v_left v_box v_isCounted v_counted v_given v_isTermed v_terms v_term v_shape v_readBoxes v_readRow v_readColumn v_grid v_often v_seedNow v_isKept v_keptBoard v_keptKind v_keptRows v_keptSeen v_keptOuter v_keptInner v_keptContent v_keptWhat v_keptCan v_h) H → va_D A (wX8 cI cB cE a v_boards v_kind v_rows v_outer v_inner v_content v_boxes v_rowOf v_columnOf v_seen v_seenWhat v_seenCan v_pageLength v_page v_isWhole v_newKind v_newRows v_newOuter v_newInner v_newContent v_now v_left v_box v_isCounted v_counted v_given v_isTermed v_terms v_term v_shape v_readBoxes v_readRow v_readColumn v_grid v_often v_seedNow v_isKept v_keptBoard v_keptKind v_keptRows v_keptSeen v_keptOuter v_keptInner v_keptContent v_keptWhat v_keptCan v_h) → va_S A s.heap H locs → ∀ (ls : Array Slot), lv_has ls 8 [(1, .int r_1), (2, .int x2_14), (3, .int x3_14), (4, .int x4_14), (6, .int x6_30)] → W p l e rmX8_askNow s m args below meth c H locs 0 0 Q (F0 m 62 ls [.int y1_62, .int x5_30]) := by
                  intro y1_62 hf H locs hP hD hS ls hl
                  unfold fX8_askNow_J62 at hf
                  refine lv_iadd hx hb dX8_askNow_62 ?_
                  refine lv_istore (lv' := [(5, .int (x5_30 + y1_62)), (1, .int r_1), (2, .int x2_14), (3, .int x3_14), (4, .int x4_14), (6, .int x6_30)]) hx hb dX8_askNow_63 hl (by decide) rfl (fun ls hl => ?_)
                  refine lv_iinc (v := (x6_30 + 1)) (lv' := [(6, .int (x6_30 + 1)), (5, .int (x5_30 + y1_62)), (1, .int r_1), (2, .int x2_14), (3, .int x3_14), (4, .int x4_14)]) hx hb dX8_askNow_65 hl (k := 5) rfl rfl (by decide) rfl (fun ls hl => ?_)
                  refine lv_goto (tgt := 30) hx hb dX8_askNow_68 (by decide) ?_
                  exact ih30 (x5_30 + y1_62) (x6_30 + 1) hf _ _ hP hD hS ls (lv_sub hl [2, 3, 4, 5, 1, 0] rfl)
                have J61 : ∀ (u_61 : Unit), fX8_askNow_J61 (fX8_askNow_J62 x5_30 x6_30 (fX8_askNow_L30 r_1 x2_14 x3_14 x4_14 (fX8_askNow_L14 r_1 (fX8_askNow_J128) n14) n30)) u_61 = some fin → ∀ (H : Heap) (locs : List Loc), va_P (dC, dI) vwCl (wX8 cI cB cE a v_boards v_kind v_rows v_outer v_inner v_content v_boxes v_rowOf v_columnOf v_seen v_seenWhat v_seenCan v_pageLength v_page v_isWhole v_newKind v_newRows v_newOuter v_newInner v_newContent v_now v_left v_box v_isCounted v_counted v_given v_isTermed v_terms v_term v_shape v_readBoxes v_readRow v_readColumn v_grid v_often v_seedNow v_isKept v_keptBoard v_keptKind v_keptRows v_keptSeen v_keptOuter v_keptInner v_keptContent v_keptWhat v_keptCan v_h) H → va_D A (wX8 cI cB cE a v_boards v_kind v_rows v_outer v_inner v_content v_boxes v_rowOf v_columnOf v_seen v_seenWhat v_seenCan v_pageLength v_page v_isWhole v_newKind v_newRows v_newOuter v_newInner v_newContent v_now v_left v_box v_isCounted v_counted v_given v_isTermed v_terms v_term v_shape v_readBoxes v_readRow v_readColumn v_grid v_often v_seedNow v_isKept v_keptBoard v_keptKind v_keptRows v_keptSeen v_keptOuter v_keptInner v_keptContent v_keptWhat v_keptCan v_h) → va_S A s.heap H locs → ∀ (ls : Array Slot), lv_has ls 8 [(1, .int r_1), (2, .int x2_14), (3, .int x3_14), (4, .int x4_14), (6, .int x6_30)] → W p l e rmX8_askNow s m args below meth c H locs 0 0 Q (F0 m 61 ls [.int x5_30]) := by
                  intro u_61 hf H locs hP hD hS ls hl
                  unfold fX8_askNow_J61 at hf
                  refine lv_iconst (v := 0) hx hb dX8_askNow_61 (by decide) ?_
                  exact J62 0 hf _ _ hP hD hS ls (lv_sub hl [0, 1, 2, 3, 4] rfl)
                refine lv_if_eq (tgt := 61) hx hb dX8_askNow_44 (by decide) (fun c_10 => ?_) (fun c_10 => ?_)
                · rw [if_pos c_10] at hf
                  exact J61 () hf _ _ hP hD hS ls (lv_sub hl [0, 1, 2, 3, 5] rfl)
                · rw [if_neg c_10] at hf
                  refine lv_iload hx hb dX8_askNow_47 (lv_at hl 5 rfl) ?_
                  refine lv_iload hx hb dX8_askNow_49 (lv_at hl 3 rfl) ?_
                  obtain ⟨r_11, hr_11, hf⟩ := bd_some hf
                  refine cx_run0 (cx_S (A := A) (As := [.int x6_30, .int x4_14]) (rest := [.int x5_30]) ⟨hx, hb, hml, hown, hts⟩ (ctX8_could l z dC dI cI cB cE x6_30 x4_14 r_11 hr_11) (va_cwS 2 hts gX8_askNow_X8_could rfl rfl rfl (by decide +kernel) ⟨Nat.le_of_ble_eq_true rfl, Nat.le_of_ble_eq_true rfl⟩) hK vaP0 vaD0 hZ hS hA rfl hl.1 rfl (Nat.le_of_ble_eq_true rfl) dX8_askNow_51) hP hS hA [.int r_11, .int x5_30] rfl (fun H locs hP hS => ?_)
                  refine lv_if_eq (tgt := 61) hx hb dX8_askNow_54 (by decide) (fun c_12 => ?_) (fun c_12 => ?_)
                  · rw [if_pos c_12] at hf
                    exact J61 () hf _ _ hP hD hS ls (lv_sub hl [0, 1, 2, 3, 5] rfl)
                  · rw [if_neg c_12] at hf
                    refine lv_iconst (v := 1) hx hb dX8_askNow_57 (by decide) ?_
                    refine lv_goto (tgt := 62) hx hb dX8_askNow_58 (by decide) ?_
                    exact J62 1 hf _ _ hP hD hS ls (lv_sub hl [0, 1, 2, 3, 5] rfl)
          exact L30 fu 0 0 hf _ _ hP hD hS ls (lv_sub hl [2, 3, 4, 5, 1, 0] rfl)
  exact L14 fu (-1) 268435456 0 hf _ _ hP hD hS ls (lv_sub hl [3, 2, 1, 0] rfl)

def fX8_sorts_J29 (y0_29 : Int32) : Option (Int32) :=
    some y0_29
def fX8_sorts (p1 : Int32) (v_seen : Int32) (v_seenWhat : Nat → Int32) (v_seenCan : Nat → Int32) : Option (Int32) :=
  bd (fX8_within p1 0 1) (fun r_1 => if r_1 = 0 then (fX8_sorts_J29 (-102)) else (if p1 = 0 then (bd (fX8_sortsNow v_seen v_seenWhat v_seenCan) (fun r_5 => fX8_sorts_J29 r_5)) else (bd (fX8_askNow v_seen v_seenWhat v_seenCan) (fun r_4 => fX8_sorts_J29 r_4))))
def rmX8_sorts : Room := { frames := 3, cells := 0, slots := 0, locals := 72 }
set_option maxRecDepth 100000 in
set_option maxHeartbeats 4000000 in
theorem ctX8_sorts (l : Launch) (z : Nat × Nat × Nat) (dC : Nat → ClassId) (dI : Nat → Nat → Nat) (cI cB cE : ClassId) (a : Nat → Nat) (v_boards : Int32) (v_kind : Int32) (v_rows : Int32) (v_outer : Nat → Int32) (v_inner : Nat → Int32) (v_content : Nat → Int32) (v_boxes : Int32) (v_rowOf : Nat → Int32) (v_columnOf : Nat → Int32) (v_seen : Int32) (v_seenWhat : Nat → Int32) (v_seenCan : Nat → Int32) (v_pageLength : Int32) (v_page : Nat → Int32) (v_isWhole : Int32) (v_newKind : Int32) (v_newRows : Int32) (v_newOuter : Nat → Int32) (v_newInner : Nat → Int32) (v_newContent : Nat → Int32) (v_now : Nat → Int32) (v_left : Nat → Int32) (v_box : Int32) (v_isCounted : Int32) (v_counted : Int32) (v_given : Nat → Int32) (v_isTermed : Int32) (v_terms : Int32) (v_term : Nat → Int32) (v_shape : Nat → Int32) (v_readBoxes : Int32) (v_readRow : Nat → Int32) (v_readColumn : Nat → Int32) (v_grid : Nat → Int32) (v_often : Nat → Int32) (v_seedNow : Int64) (v_isKept : Int32) (v_keptBoard : Int32) (v_keptKind : Int32) (v_keptRows : Int32) (v_keptSeen : Int32) (v_keptOuter : Nat → Int32) (v_keptInner : Nat → Int32) (v_keptContent : Nat → Int32) (v_keptWhat : Nat → Int32) (v_keptCan : Nat → Int32) (v_h : Int64) (p1 : Int32) (fin : Int32) (hf : fX8_sorts p1 v_seen v_seenWhat v_seenCan = some fin) : Ct l z (dC, dI) (tyL cI cB cE) yX8_sorts wsX8_sorts rmX8_sorts [.ref (a 0), .int p1] (wX8 cI cB cE a v_boards v_kind v_rows v_outer v_inner v_content v_boxes v_rowOf v_columnOf v_seen v_seenWhat v_seenCan v_pageLength v_page v_isWhole v_newKind v_newRows v_newOuter v_newInner v_newContent v_now v_left v_box v_isCounted v_counted v_given v_isTermed v_terms v_term v_shape v_readBoxes v_readRow v_readColumn v_grid v_often v_seedNow v_isKept v_keptBoard v_keptKind v_keptRows v_keptSeen v_keptOuter v_keptInner v_keptContent v_keptWhat v_keptCan v_h) (some (.int fin)) (wX8 cI cB cE a v_boards v_kind v_rows v_outer v_inner v_content v_boxes v_rowOf v_columnOf v_seen v_seenWhat v_seenCan v_pageLength v_page v_isWhole v_newKind v_newRows v_newOuter v_newInner v_newContent v_now v_left v_box v_isCounted v_counted v_given v_isTermed v_terms v_term v_shape v_readBoxes v_readRow v_readColumn v_grid v_often v_seedNow v_isKept v_keptBoard v_keptKind v_keptRows v_keptSeen v_keptOuter v_keptInner v_keptContent v_keptWhat v_keptCan v_h) := by
  refine Met.ofC (cc := cX8_sorts) (maxL := 2) (ret := (some .int)) (by decide) rfl (Nat.le_of_ble_eq_true rfl) ?_
  intro p e s m args below meth c A Q ls hx hb hr hml hts hown hlocks hA hK hP hD hZ hS hQ hl
  have hown : s.vm.findClass RX8 = some m.cls := hown
  have hl : lv_has ls 2 [(0, .ref (a 0)), (1, .int p1)] := hl
  unfold fX8_sorts at hf
  refine lv_iload_n hx hb dX8_sorts_0 rfl (lv_at hl 1 rfl) ?_
  refine lv_iconst (v := 0) hx hb dX8_sorts_1 (by decide) ?_
  refine lv_iconst (v := 1) hx hb dX8_sorts_2 (by decide) ?_
  obtain ⟨r_1, hr_1, hf⟩ := bd_some hf
  refine cx_run0 (cx_S (A := A) (As := [.int p1, .int 0, .int 1]) (rest := []) ⟨hx, hb, hml, hown, hts⟩ (ctX8_within l z dC dI cI cB cE p1 0 1 r_1 hr_1) (va_cwS 3 hts gX8_sorts_X8_within rfl rfl rfl (by decide +kernel) ⟨Nat.le_of_ble_eq_true rfl, Nat.le_of_ble_eq_true rfl⟩) hK vaP0 vaD0 hZ hS hA rfl hl.1 rfl (Nat.le_of_ble_eq_true rfl) dX8_sorts_3) hP hS hA [.int r_1] rfl (fun H locs hP hS => ?_)
  have J29 : ∀ (y0_29 : Int32), fX8_sorts_J29  y0_29 = some fin → ∀ (H : Heap) (locs : List Loc), va_P (dC, dI) vwCl (wX8 cI cB cE a v_boards v_kind v_rows v_outer v_inner v_content v_boxes v_rowOf v_columnOf v_seen v_seenWhat v_seenCan v_pageLength v_page v_isWhole v_newKind v_newRows v_newOuter v_newInner v_newContent v_now v_left v_box v_isCounted v_counted v_given v_isTermed v_terms v_term v_shape v_readBoxes v_readRow v_readColumn v_grid v_often v_seedNow v_isKept v_keptBoard v_keptKind v_keptRows v_keptSeen v_keptOuter v_keptInner v_keptContent v_keptWhat v_keptCan v_h) H → va_D A (wX8 cI cB cE a v_boards v_kind v_rows v_outer v_inner v_content v_boxes v_rowOf v_columnOf v_seen v_seenWhat v_seenCan v_pageLength v_page v_isWhole v_newKind v_newRows v_newOuter v_newInner v_newContent v_now v_left v_box v_isCounted v_counted v_given v_isTermed v_terms v_term v_shape v_readBoxes v_readRow v_readColumn v_grid v_often v_seedNow v_isKept v_keptBoard v_keptKind v_keptRows v_keptSeen v_keptOuter v_keptInner v_keptContent v_keptWhat v_keptCan v_h) → va_S A s.heap H locs → ∀ (ls : Array Slot), lv_has ls 2 [] → W p l e rmX8_sorts s m args below meth c H locs 0 0 Q (F0 m 29 ls [.int y0_29]) := by
    intro y0_29 hf H locs hP hD hS ls hl
    unfold fX8_sorts_J29 at hf
    have hQ2 := hQ
    rw [← Option.some.inj hf] at hQ2
    exact cx_iret hQ2 hx hb hr hlocks hK hP hD hS dX8_sorts_29
  refine lv_if_ne (tgt := 14) hx hb dX8_sorts_6 (by decide) (fun c_2 => ?_) (fun c_2 => ?_)
  · rw [if_neg c_2] at hf
    refine lv_iload_n hx hb dX8_sorts_14 rfl (lv_at hl 1 rfl) ?_
    refine lv_if_ne (tgt := 25) hx hb dX8_sorts_15 (by decide) (fun c_3 => ?_) (fun c_3 => ?_)
    · rw [if_neg c_3] at hf
      refine lv_aload_n hx hb dX8_sorts_25 rfl (lv_at hl 0 rfl) ?_
      obtain ⟨r_4, hr_4, hf⟩ := bd_some hf
      refine cx_runW (cx_V (As := []) (rest := []) ⟨hx, hb, hml, hown, hts⟩ (ctX8_askNow l z dC dI cI cB cE a v_boards v_kind v_rows v_outer v_inner v_content v_boxes v_rowOf v_columnOf v_seen v_seenWhat v_seenCan v_pageLength v_page v_isWhole v_newKind v_newRows v_newOuter v_newInner v_newContent v_now v_left v_box v_isCounted v_counted v_given v_isTermed v_terms v_term v_shape v_readBoxes v_readRow v_readColumn v_grid v_often v_seedNow v_isKept v_keptBoard v_keptKind v_keptRows v_keptSeen v_keptOuter v_keptInner v_keptContent v_keptWhat v_keptCan v_h r_4 hr_4) (cwV 0 hts gX8_sorts_X8_askNow rfl rfl rfl (by decide +kernel) ⟨Nat.le_of_ble_eq_true rfl, Nat.le_of_ble_eq_true rfl⟩) hK hP hD hZ hS hA (ci := 8) (q0 := 0) rfl rfl rfl hl.1 rfl (Nat.le_of_ble_eq_true rfl) dX8_sorts_26) hD hS hA [.int r_4] rfl (fun H locs hP hD hS => ?_)
      exact J29 r_4 hf _ _ hP hD hS ls (lv_sub hl [] rfl)
    · rw [if_pos c_3] at hf
      refine lv_aload_n hx hb dX8_sorts_18 rfl (lv_at hl 0 rfl) ?_
      obtain ⟨r_5, hr_5, hf⟩ := bd_some hf
      refine cx_runW (cx_V (As := []) (rest := []) ⟨hx, hb, hml, hown, hts⟩ (ctX8_sortsNow l z dC dI cI cB cE a v_boards v_kind v_rows v_outer v_inner v_content v_boxes v_rowOf v_columnOf v_seen v_seenWhat v_seenCan v_pageLength v_page v_isWhole v_newKind v_newRows v_newOuter v_newInner v_newContent v_now v_left v_box v_isCounted v_counted v_given v_isTermed v_terms v_term v_shape v_readBoxes v_readRow v_readColumn v_grid v_often v_seedNow v_isKept v_keptBoard v_keptKind v_keptRows v_keptSeen v_keptOuter v_keptInner v_keptContent v_keptWhat v_keptCan v_h r_5 hr_5) (cwV 0 hts gX8_sorts_X8_sortsNow rfl rfl rfl (by decide +kernel) ⟨Nat.le_of_ble_eq_true rfl, Nat.le_of_ble_eq_true rfl⟩) hK hP hD hZ hS hA (ci := 8) (q0 := 0) rfl rfl rfl hl.1 rfl (Nat.le_of_ble_eq_true rfl) dX8_sorts_19) hD hS hA [.int r_5] rfl (fun H locs hP hD hS => ?_)
      refine lv_goto (tgt := 29) hx hb dX8_sorts_22 (by decide) ?_
      exact J29 r_5 hf _ _ hP hD hS ls (lv_sub hl [] rfl)
  · rw [if_pos c_2] at hf
    refine lv_bipush (v := (-102)) hx hb dX8_sorts_9 (by decide) ?_
    refine lv_goto (tgt := 29) hx hb dX8_sorts_11 (by decide) ?_
    exact J29 (-102) hf _ _ hP hD hS ls (lv_sub hl [] rfl)

def fX8_draw (p1 : Int32) (v_seedNow : Int64) : Option (Int32 × Int64) :=
  gd (!(decide (p1.toInt64 = 0))) (some ((((((1103515245 * v_seedNow) + 12345) &&& 2147483647) / 65536) - ((((1103515245 * v_seedNow) + 12345) &&& 2147483647) / 65536) / p1.toInt64 * p1.toInt64).toInt32, (((1103515245 * v_seedNow) + 12345) &&& 2147483647)))
def rmX8_draw : Room := { frames := 0, cells := 0, slots := 0, locals := 0 }
set_option maxRecDepth 100000 in
set_option maxHeartbeats 4000000 in
theorem ctX8_draw (l : Launch) (z : Nat × Nat × Nat) (dC : Nat → ClassId) (dI : Nat → Nat → Nat) (cI cB cE : ClassId) (a : Nat → Nat) (v_boards : Int32) (v_kind : Int32) (v_rows : Int32) (v_outer : Nat → Int32) (v_inner : Nat → Int32) (v_content : Nat → Int32) (v_boxes : Int32) (v_rowOf : Nat → Int32) (v_columnOf : Nat → Int32) (v_seen : Int32) (v_seenWhat : Nat → Int32) (v_seenCan : Nat → Int32) (v_pageLength : Int32) (v_page : Nat → Int32) (v_isWhole : Int32) (v_newKind : Int32) (v_newRows : Int32) (v_newOuter : Nat → Int32) (v_newInner : Nat → Int32) (v_newContent : Nat → Int32) (v_now : Nat → Int32) (v_left : Nat → Int32) (v_box : Int32) (v_isCounted : Int32) (v_counted : Int32) (v_given : Nat → Int32) (v_isTermed : Int32) (v_terms : Int32) (v_term : Nat → Int32) (v_shape : Nat → Int32) (v_readBoxes : Int32) (v_readRow : Nat → Int32) (v_readColumn : Nat → Int32) (v_grid : Nat → Int32) (v_often : Nat → Int32) (v_seedNow : Int64) (v_isKept : Int32) (v_keptBoard : Int32) (v_keptKind : Int32) (v_keptRows : Int32) (v_keptSeen : Int32) (v_keptOuter : Nat → Int32) (v_keptInner : Nat → Int32) (v_keptContent : Nat → Int32) (v_keptWhat : Nat → Int32) (v_keptCan : Nat → Int32) (v_h : Int64) (p1 : Int32) (fin : Int32 × Int64) (hf : fX8_draw p1 v_seedNow = some fin) : Ct l z (dC, dI) (tyL cI cB cE) yX8_draw wsX8_draw rmX8_draw [.ref (a 0), .int p1] (wX8 cI cB cE a v_boards v_kind v_rows v_outer v_inner v_content v_boxes v_rowOf v_columnOf v_seen v_seenWhat v_seenCan v_pageLength v_page v_isWhole v_newKind v_newRows v_newOuter v_newInner v_newContent v_now v_left v_box v_isCounted v_counted v_given v_isTermed v_terms v_term v_shape v_readBoxes v_readRow v_readColumn v_grid v_often v_seedNow v_isKept v_keptBoard v_keptKind v_keptRows v_keptSeen v_keptOuter v_keptInner v_keptContent v_keptWhat v_keptCan v_h) (some (.int fin.1)) (wX8 cI cB cE a v_boards v_kind v_rows v_outer v_inner v_content v_boxes v_rowOf v_columnOf v_seen v_seenWhat v_seenCan v_pageLength v_page v_isWhole v_newKind v_newRows v_newOuter v_newInner v_newContent v_now v_left v_box v_isCounted v_counted v_given v_isTermed v_terms v_term v_shape v_readBoxes v_readRow v_readColumn v_grid v_often fin.2 v_isKept v_keptBoard v_keptKind v_keptRows v_keptSeen v_keptOuter v_keptInner v_keptContent v_keptWhat v_keptCan v_h) := by
  refine Met.ofC (cc := cX8_draw) (maxL := 2) (ret := (some .int)) (by decide) rfl (Nat.le_of_ble_eq_true rfl) ?_
  intro p e s m args below meth c A Q ls hx hb hr hml hts hown hlocks hA hK hP hD hZ hS hQ hl
  have hown : s.vm.findClass RX8 = some m.cls := hown
  have hl : lv_has ls 2 [(0, .ref (a 0)), (1, .int p1)] := hl
  unfold fX8_draw at hf
  refine lv_aload_n hx hb dX8_draw_0 rfl (lv_at hl 0 rfl) ?_
  refine lv_ldc2 (v := 1103515245) hx hb hown (hts (.constantLong RX8 277 (1103515245)) (List.mem_of_getElem? (i := 1) rfl)) dX8_draw_1 ?_
  refine lv_aload_n hx hb dX8_draw_4 rfl (lv_at hl 0 rfl) ?_
  refine va_get (D := (dC, dI)) (ci := 8) (C := RX8) (T := TX8) (N := 47) hx hb hts (fun _ h => List.mem_cons_of_mem _ (List.mem_append_right _ h)) hown hK hP 0 rfl rfl 35 (by decide) (hts (.fieldLink RX8 279 "SkewBoardModel" "seedNow" "J") (List.mem_of_getElem? (i := 2) rfl)) (fun _ h9 => h9) rfl dX8_draw_5 ?_
  refine lv_lmul hx hb dX8_draw_8 ?_
  refine lv_ldc2 (v := 12345) hx hb hown (hts (.constantLong RX8 283 (12345)) (List.mem_of_getElem? (i := 3) rfl)) dX8_draw_9 ?_
  refine lv_ladd hx hb dX8_draw_12 ?_
  refine lv_ldc2 (v := 2147483647) hx hb hown (hts (.constantLong RX8 285 (2147483647)) (List.mem_of_getElem? (i := 4) rfl)) dX8_draw_13 ?_
  refine lv_land hx hb dX8_draw_16 ?_
  refine va_put (D := (dC, dI)) (ci := 8) (v := .long (((1103515245 * v_seedNow) + 12345) &&& 2147483647)) (ty := .long) (C := RX8) (T := TX8) (N := 47) hx hb hts (fun _ h => List.mem_cons_of_mem _ (List.mem_append_right _ h)) tyX8 tyX8_ok nmX8 hown hK hP hD hS 0 rfl rfl 35 (by decide) (hts (.fieldLink RX8 279 "SkewBoardModel" "seedNow" "J") (List.mem_of_getElem? (i := 2) rfl)) (fun _ h9 => h9) rfl (by decide +kernel) rfl rfl (Nat.le_of_ble_eq_true rfl) dX8_draw_17 (fun H locs hP hD hS => ?_)
  have hP : va_P (dC, dI) vwCl (wX8 cI cB cE a v_boards v_kind v_rows v_outer v_inner v_content v_boxes v_rowOf v_columnOf v_seen v_seenWhat v_seenCan v_pageLength v_page v_isWhole v_newKind v_newRows v_newOuter v_newInner v_newContent v_now v_left v_box v_isCounted v_counted v_given v_isTermed v_terms v_term v_shape v_readBoxes v_readRow v_readColumn v_grid v_often (((1103515245 * v_seedNow) + 12345) &&& 2147483647) v_isKept v_keptBoard v_keptKind v_keptRows v_keptSeen v_keptOuter v_keptInner v_keptContent v_keptWhat v_keptCan v_h) H := hP
  have hD : va_D A (wX8 cI cB cE a v_boards v_kind v_rows v_outer v_inner v_content v_boxes v_rowOf v_columnOf v_seen v_seenWhat v_seenCan v_pageLength v_page v_isWhole v_newKind v_newRows v_newOuter v_newInner v_newContent v_now v_left v_box v_isCounted v_counted v_given v_isTermed v_terms v_term v_shape v_readBoxes v_readRow v_readColumn v_grid v_often (((1103515245 * v_seedNow) + 12345) &&& 2147483647) v_isKept v_keptBoard v_keptKind v_keptRows v_keptSeen v_keptOuter v_keptInner v_keptContent v_keptWhat v_keptCan v_h) := hD
  refine lv_aload_n hx hb dX8_draw_20 rfl (lv_at hl 0 rfl) ?_
  refine va_get (D := (dC, dI)) (ci := 8) (C := RX8) (T := TX8) (N := 47) hx hb hts (fun _ h => List.mem_cons_of_mem _ (List.mem_append_right _ h)) hown hK hP 0 rfl rfl 35 (by decide) (hts (.fieldLink RX8 279 "SkewBoardModel" "seedNow" "J") (List.mem_of_getElem? (i := 2) rfl)) (fun _ h9 => h9) rfl dX8_draw_21 ?_
  refine lv_ldc2 (v := 65536) hx hb hown (hts (.constantLong RX8 287 (65536)) (List.mem_of_getElem? (i := 5) rfl)) dX8_draw_24 ?_
  refine lv_ldiv hx hb dX8_draw_27 (by decide) ?_
  refine lv_iload_n hx hb dX8_draw_28 rfl (lv_at hl 1 rfl) ?_
  refine lv_i2l hx hb dX8_draw_29 rfl ?_
  obtain ⟨g_1, hf⟩ := gd_some hf
  refine lv_lrem hx hb dX8_draw_30 (by simpa using g_1) ?_
  refine lv_l2i hx hb dX8_draw_31 rfl ?_
  have hQ2 := hQ
  rw [← Option.some.inj hf] at hQ2
  exact cx_iret hQ2 hx hb hr hlocks hK hP hD hS dX8_draw_32

def fX8_isAsTold_J69 (x2_4 : Int32) (k4 : Int32 → Int32 → Option (Int32)) (y0_69 : Int32) : Option (Int32) :=
    k4 y0_69 (x2_4 + 1)
def fX8_isAsTold_J68 (k69 : Int32 → Option (Int32)) (u_68 : Unit) : Option (Int32) :=
    k69 0
def fX8_isAsTold_J40 (x3_14 : Int32) (x4_14 : Int32) (k14 : Int32 → Int32 → Option (Int32)) (y1_40 : Int32) : Option (Int32) :=
    k14 (x3_14 + y1_40) (x4_14 + 1)
def fX8_isAsTold_L14 (v_content : Nat → Int32) (v_boxes : Int32) (v_now : Nat → Int32) (x1_4 : Int32) (x2_4 : Int32) (k4 : Int32 → Int32 → Option (Int32)) : Nat → Int32 → Int32 → Option (Int32)
  | 0, _, _ => none
  | n + 1, x3_14, x4_14 =>
    if v_boxes ≤ x4_14 then (if x1_4 = 0 then (fX8_isAsTold_J68 (fX8_isAsTold_J69 x2_4 k4) ()) else (gd (inb (x2_4 - 1) 4) (if x3_14 = (v_content (x2_4 - 1).toNatClampNeg) then (fX8_isAsTold_J69 x2_4 k4 1) else (fX8_isAsTold_J68 (fX8_isAsTold_J69 x2_4 k4) ())))) else (gd (inb x4_14 9) (fX8_isAsTold_J40 x3_14 x4_14 (fX8_isAsTold_L14 v_content v_boxes v_now x1_4 x2_4 k4 n) (if (v_now x4_14.toNatClampNeg) = x2_4 then 1 else 0)))
def fX8_isAsTold_L4 (v_content : Nat → Int32) (v_boxes : Int32) (v_now : Nat → Int32) : Nat → Int32 → Int32 → Option (Int32)
  | 0, _, _ => none
  | n + 1, x1_4, x2_4 =>
    if 4 < x2_4 then (gd (isb x1_4) (some x1_4)) else (fX8_isAsTold_L14 v_content v_boxes v_now x1_4 x2_4 (fX8_isAsTold_L4 v_content v_boxes v_now n) fu 0 0)
def fX8_isAsTold (v_content : Nat → Int32) (v_boxes : Int32) (v_now : Nat → Int32) : Option (Int32) :=
  fX8_isAsTold_L4 v_content v_boxes v_now fu 1 1
def rmX8_isAsTold : Room := { frames := 0, cells := 0, slots := 0, locals := 0 }
set_option maxRecDepth 100000 in
set_option maxHeartbeats 4000000 in
theorem ctX8_isAsTold (l : Launch) (z : Nat × Nat × Nat) (dC : Nat → ClassId) (dI : Nat → Nat → Nat) (cI cB cE : ClassId) (a : Nat → Nat) (v_boards : Int32) (v_kind : Int32) (v_rows : Int32) (v_outer : Nat → Int32) (v_inner : Nat → Int32) (v_content : Nat → Int32) (v_boxes : Int32) (v_rowOf : Nat → Int32) (v_columnOf : Nat → Int32) (v_seen : Int32) (v_seenWhat : Nat → Int32) (v_seenCan : Nat → Int32) (v_pageLength : Int32) (v_page : Nat → Int32) (v_isWhole : Int32) (v_newKind : Int32) (v_newRows : Int32) (v_newOuter : Nat → Int32) (v_newInner : Nat → Int32) (v_newContent : Nat → Int32) (v_now : Nat → Int32) (v_left : Nat → Int32) (v_box : Int32) (v_isCounted : Int32) (v_counted : Int32) (v_given : Nat → Int32) (v_isTermed : Int32) (v_terms : Int32) (v_term : Nat → Int32) (v_shape : Nat → Int32) (v_readBoxes : Int32) (v_readRow : Nat → Int32) (v_readColumn : Nat → Int32) (v_grid : Nat → Int32) (v_often : Nat → Int32) (v_seedNow : Int64) (v_isKept : Int32) (v_keptBoard : Int32) (v_keptKind : Int32) (v_keptRows : Int32) (v_keptSeen : Int32) (v_keptOuter : Nat → Int32) (v_keptInner : Nat → Int32) (v_keptContent : Nat → Int32) (v_keptWhat : Nat → Int32) (v_keptCan : Nat → Int32) (v_h : Int64) (fin : Int32) (hf : fX8_isAsTold v_content v_boxes v_now = some fin) : Ct l z (dC, dI) (tyL cI cB cE) yX8_isAsTold wsX8_isAsTold rmX8_isAsTold [.ref (a 0)] (wX8 cI cB cE a v_boards v_kind v_rows v_outer v_inner v_content v_boxes v_rowOf v_columnOf v_seen v_seenWhat v_seenCan v_pageLength v_page v_isWhole v_newKind v_newRows v_newOuter v_newInner v_newContent v_now v_left v_box v_isCounted v_counted v_given v_isTermed v_terms v_term v_shape v_readBoxes v_readRow v_readColumn v_grid v_often v_seedNow v_isKept v_keptBoard v_keptKind v_keptRows v_keptSeen v_keptOuter v_keptInner v_keptContent v_keptWhat v_keptCan v_h) (some (.int fin)) (wX8 cI cB cE a v_boards v_kind v_rows v_outer v_inner v_content v_boxes v_rowOf v_columnOf v_seen v_seenWhat v_seenCan v_pageLength v_page v_isWhole v_newKind v_newRows v_newOuter v_newInner v_newContent v_now v_left v_box v_isCounted v_counted v_given v_isTermed v_terms v_term v_shape v_readBoxes v_readRow v_readColumn v_grid v_often v_seedNow v_isKept v_keptBoard v_keptKind v_keptRows v_keptSeen v_keptOuter v_keptInner v_keptContent v_keptWhat v_keptCan v_h) := by
  refine Met.ofC (cc := cX8_isAsTold) (maxL := 5) (ret := (some .boolean)) (by decide) rfl (Nat.le_of_ble_eq_true rfl) ?_
  intro p e s m args below meth c A Q ls hx hb hr hml hts hown hlocks hA hK hP hD hZ hS hQ hl
  have hown : s.vm.findClass RX8 = some m.cls := hown
  have hl : lv_has ls 5 [(0, .ref (a 0))] := hl
  unfold fX8_isAsTold at hf
  refine lv_iconst (v := 1) hx hb dX8_isAsTold_0 (by decide) ?_
  refine lv_istore_n (lv' := [(1, .int 1), (0, .ref (a 0))]) hx hb dX8_isAsTold_1 rfl hl (by decide) rfl (fun ls hl => ?_)
  refine lv_iconst (v := 1) hx hb dX8_isAsTold_2 (by decide) ?_
  refine lv_istore_n (lv' := [(2, .int 1), (1, .int 1), (0, .ref (a 0))]) hx hb dX8_isAsTold_3 rfl hl (by decide) rfl (fun ls hl => ?_)
  have L4 : ∀ (n4 : Nat) (x1_4 : Int32) (x2_4 : Int32), fX8_isAsTold_L4 v_content v_boxes v_now n4 x1_4 x2_4 = some fin → ∀ (H : Heap) (locs : List Loc), va_P (dC, dI) vwCl (wX8 cI cB cE a v_boards v_kind v_rows v_outer v_inner v_content v_boxes v_rowOf v_columnOf v_seen v_seenWhat v_seenCan v_pageLength v_page v_isWhole v_newKind v_newRows v_newOuter v_newInner v_newContent v_now v_left v_box v_isCounted v_counted v_given v_isTermed v_terms v_term v_shape v_readBoxes v_readRow v_readColumn v_grid v_often v_seedNow v_isKept v_keptBoard v_keptKind v_keptRows v_keptSeen v_keptOuter v_keptInner v_keptContent v_keptWhat v_keptCan v_h) H → va_D A (wX8 cI cB cE a v_boards v_kind v_rows v_outer v_inner v_content v_boxes v_rowOf v_columnOf v_seen v_seenWhat v_seenCan v_pageLength v_page v_isWhole v_newKind v_newRows v_newOuter v_newInner v_newContent v_now v_left v_box v_isCounted v_counted v_given v_isTermed v_terms v_term v_shape v_readBoxes v_readRow v_readColumn v_grid v_often v_seedNow v_isKept v_keptBoard v_keptKind v_keptRows v_keptSeen v_keptOuter v_keptInner v_keptContent v_keptWhat v_keptCan v_h) → va_S A s.heap H locs → ∀ (ls : Array Slot), lv_has ls 5 [(0, .ref (a 0)), (1, .int x1_4), (2, .int x2_4)] → W p l e rmX8_isAsTold s m args below meth c H locs 0 0 Q (F0 m 4 ls []) := by
    intro n4
    induction n4 with
    | zero =>
      intro x1_4 x2_4 hf
      rw [fX8_isAsTold_L4] at hf
      cases hf
    | succ n4 ih4 =>
      intro x1_4 x2_4 hf H locs hP hD hS ls hl
      rw [fX8_isAsTold_L4] at hf
      refine lv_iload_n hx hb dX8_isAsTold_4 rfl (lv_at hl 2 rfl) ?_
      refine lv_iconst (v := 4) hx hb dX8_isAsTold_5 (by decide) ?_
      refine lv_icmp_gt (tgt := 76) hx hb dX8_isAsTold_6 (by decide) (fun c_1 => ?_) (fun c_1 => ?_)
      · rw [if_pos c_1] at hf
        refine lv_iload_n hx hb dX8_isAsTold_76 rfl (lv_at hl 1 rfl) ?_
        obtain ⟨g_2, hf⟩ := gd_some hf
        have hQ2 := hQ
        rw [← Option.some.inj hf] at hQ2
        exact cx_zret (isb_nar g_2) hQ2 hx hb hr hlocks hK hP hD hS dX8_isAsTold_77
      · rw [if_neg c_1] at hf
        refine lv_iconst (v := 0) hx hb dX8_isAsTold_9 (by decide) ?_
        refine lv_istore_n (lv' := [(3, .int 0), (0, .ref (a 0)), (1, .int x1_4), (2, .int x2_4)]) hx hb dX8_isAsTold_10 rfl hl (by decide) rfl (fun ls hl => ?_)
        refine lv_iconst (v := 0) hx hb dX8_isAsTold_11 (by decide) ?_
        refine lv_istore (lv' := [(4, .int 0), (3, .int 0), (0, .ref (a 0)), (1, .int x1_4), (2, .int x2_4)]) hx hb dX8_isAsTold_12 hl (by decide) rfl (fun ls hl => ?_)
        have L14 : ∀ (n14 : Nat) (x3_14 : Int32) (x4_14 : Int32), fX8_isAsTold_L14 v_content v_boxes v_now x1_4 x2_4 (fX8_isAsTold_L4 v_content v_boxes v_now n4) n14 x3_14 x4_14 = some fin → ∀ (H : Heap) (locs : List Loc), va_P (dC, dI) vwCl (wX8 cI cB cE a v_boards v_kind v_rows v_outer v_inner v_content v_boxes v_rowOf v_columnOf v_seen v_seenWhat v_seenCan v_pageLength v_page v_isWhole v_newKind v_newRows v_newOuter v_newInner v_newContent v_now v_left v_box v_isCounted v_counted v_given v_isTermed v_terms v_term v_shape v_readBoxes v_readRow v_readColumn v_grid v_often v_seedNow v_isKept v_keptBoard v_keptKind v_keptRows v_keptSeen v_keptOuter v_keptInner v_keptContent v_keptWhat v_keptCan v_h) H → va_D A (wX8 cI cB cE a v_boards v_kind v_rows v_outer v_inner v_content v_boxes v_rowOf v_columnOf v_seen v_seenWhat v_seenCan v_pageLength v_page v_isWhole v_newKind v_newRows v_newOuter v_newInner v_newContent v_now v_left v_box v_isCounted v_counted v_given v_isTermed v_terms v_term v_shape v_readBoxes v_readRow v_readColumn v_grid v_often v_seedNow v_isKept v_keptBoard v_keptKind v_keptRows v_keptSeen v_keptOuter v_keptInner v_keptContent v_keptWhat v_keptCan v_h) → va_S A s.heap H locs → ∀ (ls : Array Slot), lv_has ls 5 [(0, .ref (a 0)), (1, .int x1_4), (2, .int x2_4), (3, .int x3_14), (4, .int x4_14)] → W p l e rmX8_isAsTold s m args below meth c H locs 0 0 Q (F0 m 14 ls []) := by
          intro n14
          induction n14 with
          | zero =>
            intro x3_14 x4_14 hf
            rw [fX8_isAsTold_L14] at hf
            cases hf
          | succ n14 ih14 =>
            intro x3_14 x4_14 hf H locs hP hD hS ls hl
            rw [fX8_isAsTold_L14] at hf
            refine lv_iload hx hb dX8_isAsTold_14 (lv_at hl 4 rfl) ?_
            refine lv_aload_n hx hb dX8_isAsTold_16 rfl (lv_at hl 0 rfl) ?_
            refine va_get (D := (dC, dI)) (ci := 8) (C := RX8) (T := TX8) (N := 47) hx hb hts (fun _ h => List.mem_cons_of_mem _ (List.mem_append_right _ h)) hown hK hP 0 rfl rfl 6 (by decide) (hts (.fieldLink RX8 124 "SkewBoardModel" "boxes" "I") (List.mem_of_getElem? (i := 1) rfl)) (fun _ h9 => h9) rfl dX8_isAsTold_17 ?_
            refine lv_icmp_ge (tgt := 48) hx hb dX8_isAsTold_20 (by decide) (fun c_3 => ?_) (fun c_3 => ?_)
            · rw [if_pos c_3] at hf
              refine lv_iload_n hx hb dX8_isAsTold_48 rfl (lv_at hl 1 rfl) ?_
              have J69 : ∀ (y0_69 : Int32), fX8_isAsTold_J69 x2_4 (fX8_isAsTold_L4 v_content v_boxes v_now n4) y0_69 = some fin → ∀ (H : Heap) (locs : List Loc), va_P (dC, dI) vwCl (wX8 cI cB cE a v_boards v_kind v_rows v_outer v_inner v_content v_boxes v_rowOf v_columnOf v_seen v_seenWhat v_seenCan v_pageLength v_page v_isWhole v_newKind v_newRows v_newOuter v_newInner v_newContent v_now v_left v_box v_isCounted v_counted v_given v_isTermed v_terms v_term v_shape v_readBoxes v_readRow v_readColumn v_grid v_often v_seedNow v_isKept v_keptBoard v_keptKind v_keptRows v_keptSeen v_keptOuter v_keptInner v_keptContent v_keptWhat v_keptCan v_h) H → va_D A (wX8 cI cB cE a v_boards v_kind v_rows v_outer v_inner v_content v_boxes v_rowOf v_columnOf v_seen v_seenWhat v_seenCan v_pageLength v_page v_isWhole v_newKind v_newRows v_newOuter v_newInner v_newContent v_now v_left v_box v_isCounted v_counted v_given v_isTermed v_terms v_term v_shape v_readBoxes v_readRow v_readColumn v_grid v_often v_seedNow v_isKept v_keptBoard v_keptKind v_keptRows v_keptSeen v_keptOuter v_keptInner v_keptContent v_keptWhat v_keptCan v_h) → va_S A s.heap H locs → ∀ (ls : Array Slot), lv_has ls 5 [(0, .ref (a 0)), (2, .int x2_4)] → W p l e rmX8_isAsTold s m args below meth c H locs 0 0 Q (F0 m 69 ls [.int y0_69]) := by
                intro y0_69 hf H locs hP hD hS ls hl
                unfold fX8_isAsTold_J69 at hf
                refine lv_istore_n (lv' := [(1, .int y0_69), (0, .ref (a 0)), (2, .int x2_4)]) hx hb dX8_isAsTold_69 rfl hl (by decide) rfl (fun ls hl => ?_)
                refine lv_iinc (v := (x2_4 + 1)) (lv' := [(2, .int (x2_4 + 1)), (1, .int y0_69), (0, .ref (a 0))]) hx hb dX8_isAsTold_70 hl (k := 2) rfl rfl (by decide) rfl (fun ls hl => ?_)
                refine lv_goto (tgt := 4) hx hb dX8_isAsTold_73 (by decide) ?_
                exact ih4 y0_69 (x2_4 + 1) hf _ _ hP hD hS ls (lv_sub hl [2, 1, 0] rfl)
              have J68 : ∀ (u_68 : Unit), fX8_isAsTold_J68 (fX8_isAsTold_J69 x2_4 (fX8_isAsTold_L4 v_content v_boxes v_now n4)) u_68 = some fin → ∀ (H : Heap) (locs : List Loc), va_P (dC, dI) vwCl (wX8 cI cB cE a v_boards v_kind v_rows v_outer v_inner v_content v_boxes v_rowOf v_columnOf v_seen v_seenWhat v_seenCan v_pageLength v_page v_isWhole v_newKind v_newRows v_newOuter v_newInner v_newContent v_now v_left v_box v_isCounted v_counted v_given v_isTermed v_terms v_term v_shape v_readBoxes v_readRow v_readColumn v_grid v_often v_seedNow v_isKept v_keptBoard v_keptKind v_keptRows v_keptSeen v_keptOuter v_keptInner v_keptContent v_keptWhat v_keptCan v_h) H → va_D A (wX8 cI cB cE a v_boards v_kind v_rows v_outer v_inner v_content v_boxes v_rowOf v_columnOf v_seen v_seenWhat v_seenCan v_pageLength v_page v_isWhole v_newKind v_newRows v_newOuter v_newInner v_newContent v_now v_left v_box v_isCounted v_counted v_given v_isTermed v_terms v_term v_shape v_readBoxes v_readRow v_readColumn v_grid v_often v_seedNow v_isKept v_keptBoard v_keptKind v_keptRows v_keptSeen v_keptOuter v_keptInner v_keptContent v_keptWhat v_keptCan v_h) → va_S A s.heap H locs → ∀ (ls : Array Slot), lv_has ls 5 [(0, .ref (a 0)), (2, .int x2_4)] → W p l e rmX8_isAsTold s m args below meth c H locs 0 0 Q (F0 m 68 ls []) := by
                intro u_68 hf H locs hP hD hS ls hl
                unfold fX8_isAsTold_J68 at hf
                refine lv_iconst (v := 0) hx hb dX8_isAsTold_68 (by decide) ?_
                exact J69 0 hf _ _ hP hD hS ls (lv_sub hl [0, 1] rfl)
              refine lv_if_eq (tgt := 68) hx hb dX8_isAsTold_49 (by decide) (fun c_4 => ?_) (fun c_4 => ?_)
              · rw [if_pos c_4] at hf
                exact J68 () hf _ _ hP hD hS ls (lv_sub hl [0, 2] rfl)
              · rw [if_neg c_4] at hf
                refine lv_iload_n hx hb dX8_isAsTold_52 rfl (lv_at hl 3 rfl) ?_
                refine lv_aload_n hx hb dX8_isAsTold_53 rfl (lv_at hl 0 rfl) ?_
                refine va_get (D := (dC, dI)) (ci := 8) (C := RX8) (T := TX8) (N := 47) hx hb hts (fun _ h => List.mem_cons_of_mem _ (List.mem_append_right _ h)) hown hK hP 0 rfl rfl 5 (by decide) (hts (.fieldLink RX8 16 "SkewBoardModel" "content" "[I") (List.mem_of_getElem? (i := 3) rfl)) (fun _ h9 => h9) rfl dX8_isAsTold_54 ?_
                refine lv_iload_n hx hb dX8_isAsTold_57 rfl (lv_at hl 2 rfl) ?_
                refine lv_iconst (v := 1) hx hb dX8_isAsTold_58 (by decide) ?_
                refine lv_isub hx hb dX8_isAsTold_59 ?_
                obtain ⟨g_5, hf⟩ := gd_some hf
                refine va_iald hx hb hK hP 3 0 rfl rfl (inb_vp g_5) dX8_isAsTold_60 ?_
                refine lv_icmp_ne (tgt := 68) hx hb dX8_isAsTold_61 (by decide) (fun c_6 => ?_) (fun c_6 => ?_)
                · rw [if_neg c_6] at hf
                  exact J68 () hf _ _ hP hD hS ls (lv_sub hl [0, 2] rfl)
                · rw [if_pos c_6] at hf
                  refine lv_iconst (v := 1) hx hb dX8_isAsTold_64 (by decide) ?_
                  refine lv_goto (tgt := 69) hx hb dX8_isAsTold_65 (by decide) ?_
                  exact J69 1 hf _ _ hP hD hS ls (lv_sub hl [0, 2] rfl)
            · rw [if_neg c_3] at hf
              refine lv_iload_n hx hb dX8_isAsTold_23 rfl (lv_at hl 3 rfl) ?_
              refine lv_aload_n hx hb dX8_isAsTold_24 rfl (lv_at hl 0 rfl) ?_
              refine va_get (D := (dC, dI)) (ci := 8) (C := RX8) (T := TX8) (N := 47) hx hb hts (fun _ h => List.mem_cons_of_mem _ (List.mem_append_right _ h)) hown hK hP 0 rfl rfl 20 (by decide) (hts (.fieldLink RX8 44 "SkewBoardModel" "now" "[I") (List.mem_of_getElem? (i := 2) rfl)) (fun _ h9 => h9) rfl dX8_isAsTold_25 ?_
              refine lv_iload hx hb dX8_isAsTold_28 (lv_at hl 4 rfl) ?_
              obtain ⟨g_7, hf⟩ := gd_some hf
              refine va_iald hx hb hK hP 12 0 rfl rfl (inb_vp g_7) dX8_isAsTold_30 ?_
              refine lv_iload_n hx hb dX8_isAsTold_31 rfl (lv_at hl 2 rfl) ?_
              have J40 : ∀ (y1_40 : Int32), fX8_isAsTold_J40 x3_14 x4_14 (fX8_isAsTold_L14 v_content v_boxes v_now x1_4 x2_4 (fX8_isAsTold_L4 v_content v_boxes v_now n4) n14) y1_40 = some fin → ∀ (H : Heap) (locs : List Loc), va_P (dC, dI) vwCl (wX8 cI cB cE a v_boards v_kind v_rows v_outer v_inner v_content v_boxes v_rowOf v_columnOf v_seen v_seenWhat v_seenCan v_pageLength v_page v_isWhole v_newKind v_newRows v_newOuter v_newInner v_newContent v_now v_left v_box v_isCounted v_counted v_given v_isTermed v_terms v_term v_shape v_readBoxes v_readRow v_readColumn v_grid v_often v_seedNow v_isKept v_keptBoard v_keptKind v_keptRows v_keptSeen v_keptOuter v_keptInner v_keptContent v_keptWhat v_keptCan v_h) H → va_D A (wX8 cI cB cE a v_boards v_kind v_rows v_outer v_inner v_content v_boxes v_rowOf v_columnOf v_seen v_seenWhat v_seenCan v_pageLength v_page v_isWhole v_newKind v_newRows v_newOuter v_newInner v_newContent v_now v_left v_box v_isCounted v_counted v_given v_isTermed v_terms v_term v_shape v_readBoxes v_readRow v_readColumn v_grid v_often v_seedNow v_isKept v_keptBoard v_keptKind v_keptRows v_keptSeen v_keptOuter v_keptInner v_keptContent v_keptWhat v_keptCan v_h) → va_S A s.heap H locs → ∀ (ls : Array Slot), lv_has ls 5 [(0, .ref (a 0)), (1, .int x1_4), (2, .int x2_4), (4, .int x4_14)] → W p l e rmX8_isAsTold s m args below meth c H locs 0 0 Q (F0 m 40 ls [.int y1_40, .int x3_14]) := by
                intro y1_40 hf H locs hP hD hS ls hl
                unfold fX8_isAsTold_J40 at hf
                refine lv_iadd hx hb dX8_isAsTold_40 ?_
                refine lv_istore_n (lv' := [(3, .int (x3_14 + y1_40)), (0, .ref (a 0)), (1, .int x1_4), (2, .int x2_4), (4, .int x4_14)]) hx hb dX8_isAsTold_41 rfl hl (by decide) rfl (fun ls hl => ?_)
                refine lv_iinc (v := (x4_14 + 1)) (lv' := [(4, .int (x4_14 + 1)), (3, .int (x3_14 + y1_40)), (0, .ref (a 0)), (1, .int x1_4), (2, .int x2_4)]) hx hb dX8_isAsTold_42 hl (k := 4) rfl rfl (by decide) rfl (fun ls hl => ?_)
                refine lv_goto (tgt := 14) hx hb dX8_isAsTold_45 (by decide) ?_
                exact ih14 (x3_14 + y1_40) (x4_14 + 1) hf _ _ hP hD hS ls (lv_sub hl [2, 3, 4, 1, 0] rfl)
              refine lv_icmp_ne (tgt := 39) hx hb dX8_isAsTold_32 (by decide) (fun c_8 => ?_) (fun c_8 => ?_)
              · rw [if_neg c_8] at hf
                refine lv_iconst (v := 0) hx hb dX8_isAsTold_39 (by decide) ?_
                exact J40 0 hf _ _ hP hD hS ls (lv_sub hl [0, 1, 2, 4] rfl)
              · rw [if_pos c_8] at hf
                refine lv_iconst (v := 1) hx hb dX8_isAsTold_35 (by decide) ?_
                refine lv_goto (tgt := 40) hx hb dX8_isAsTold_36 (by decide) ?_
                exact J40 1 hf _ _ hP hD hS ls (lv_sub hl [0, 1, 2, 4] rfl)
        exact L14 fu 0 0 hf _ _ hP hD hS ls (lv_sub hl [2, 3, 4, 1, 0] rfl)
  exact L4 fu 1 1 hf _ _ hP hD hS ls (lv_sub hl [2, 1, 0] rfl)

def fX8_drawnNow_J126 (v_now_15 : Nat → Int32) (v_seedNow_15 : Int64) (y0_126 : Int32) : Option (Int32 × (Nat → Int32) × Int64) :=
    some (y0_126, v_now_15, v_seedNow_15)
def fX8_drawnNow_J93 (x4_15 : Int32) (x5_15 : Int32) (x6_15 : Int32) (v_now_24 : Nat → Int32) (v_seedNow_24 : Int64) (y1_71 : Int32) (k15 : Int32 → Int32 → Int32 → (Nat → Int32) → Int64 → Option (Int32 × (Nat → Int32) × Int64)) (y1_93 : Int32) : Option (Int32 × (Nat → Int32) × Int64) :=
    k15 (x4_15 + y1_71) (x5_15 + y1_93) (x6_15 + 1) v_now_24 v_seedNow_24
def fX8_drawnNow_J92 (k93 : Int32 → Option (Int32 × (Nat → Int32) × Int64)) (u_92 : Unit) : Option (Int32 × (Nat → Int32) × Int64) :=
    k93 0
def fX8_drawnNow_J71 (v_content : Nat → Int32) (v_boxes : Int32) (x4_15 : Int32) (x5_15 : Int32) (x6_15 : Int32) (v_now_24 : Nat → Int32) (v_seedNow_24 : Int64) (r_5 : Int32) (k15 : Int32 → Int32 → Int32 → (Nat → Int32) → Int64 → Option (Int32 × (Nat → Int32) × Int64)) (y1_71 : Int32) : Option (Int32 × (Nat → Int32) × Int64) :=
    if r_5 = 0 then (fX8_drawnNow_J92 (fX8_drawnNow_J93 x4_15 x5_15 x6_15 v_now_24 v_seedNow_24 y1_71 k15) ()) else (bd (fX8_isAsTold v_content v_boxes v_now_24) (fun r_7 => if r_7 = 0 then (fX8_drawnNow_J92 (fX8_drawnNow_J93 x4_15 x5_15 x6_15 v_now_24 v_seedNow_24 y1_71 k15) ()) else (fX8_drawnNow_J93 x4_15 x5_15 x6_15 v_now_24 v_seedNow_24 y1_71 k15 1)))
def fX8_drawnNow_L24 (v_kind : Int32) (v_rows : Int32) (v_content : Nat → Int32) (v_boxes : Int32) (v_rowOf : Nat → Int32) (v_columnOf : Nat → Int32) (x4_15 : Int32) (x5_15 : Int32) (x6_15 : Int32) (k15 : Int32 → Int32 → Int32 → (Nat → Int32) → Int64 → Option (Int32 × (Nat → Int32) × Int64)) : Nat → Int32 → (Nat → Int32) → Int64 → Option (Int32 × (Nat → Int32) × Int64)
  | 0, _, _, _ => none
  | n + 1, x7_24, v_now_24, v_seedNow_24 =>
    if v_boxes ≤ x7_24 then (bd (fX8_keeps v_kind v_rows v_boxes v_rowOf v_columnOf v_now_24) (fun r_5 => fX8_drawnNow_J71 v_content v_boxes x4_15 x5_15 x6_15 v_now_24 v_seedNow_24 r_5 k15 (if r_5 = 0 then 0 else 1))) else (bd (fX8_draw 4 v_seedNow_24) (fun r_10 => gd (inb x7_24 9) (fX8_drawnNow_L24 v_kind v_rows v_content v_boxes v_rowOf v_columnOf x4_15 x5_15 x6_15 k15 n (x7_24 + 1) (upd v_now_24 x7_24.toNatClampNeg (r_10.1 + 1)) r_10.2)))
def fX8_drawnNow_L15 (v_kind : Int32) (v_rows : Int32) (v_content : Nat → Int32) (v_boxes : Int32) (v_rowOf : Nat → Int32) (v_columnOf : Nat → Int32) (p1 : Int32) (p3 : Int32) : Nat → Int32 → Int32 → Int32 → (Nat → Int32) → Int64 → Option (Int32 × (Nat → Int32) × Int64)
  | 0, _, _, _, _, _ => none
  | n + 1, x4_15, x5_15, x6_15, v_now_15, v_seedNow_15 =>
    if p1 ≤ x6_15 then (fX8_drawnNow_J126 v_now_15 v_seedNow_15 (if p3 = 0 then x4_15 else (if p3 = 1 then x5_15 else v_seedNow_15.toInt32))) else (fX8_drawnNow_L24 v_kind v_rows v_content v_boxes v_rowOf v_columnOf x4_15 x5_15 x6_15 (fX8_drawnNow_L15 v_kind v_rows v_content v_boxes v_rowOf v_columnOf p1 p3 n) fu 0 v_now_15 v_seedNow_15)
def fX8_drawnNow (p1 : Int32) (p2 : Int32) (p3 : Int32) (v_kind : Int32) (v_rows : Int32) (v_content : Nat → Int32) (v_boxes : Int32) (v_rowOf : Nat → Int32) (v_columnOf : Nat → Int32) (v_now : Nat → Int32) : Option (Int32 × (Nat → Int32) × Int64) :=
  fX8_drawnNow_L15 v_kind v_rows v_content v_boxes v_rowOf v_columnOf p1 p3 fu 0 0 0 v_now p2.toInt64
def rmX8_drawnNow : Room := { frames := 3, cells := 0, slots := 0, locals := 67 }
set_option maxRecDepth 100000 in
set_option maxHeartbeats 4000000 in
theorem ctX8_drawnNow (l : Launch) (z : Nat × Nat × Nat) (dC : Nat → ClassId) (dI : Nat → Nat → Nat) (cI cB cE : ClassId) (a : Nat → Nat) (v_boards : Int32) (v_kind : Int32) (v_rows : Int32) (v_outer : Nat → Int32) (v_inner : Nat → Int32) (v_content : Nat → Int32) (v_boxes : Int32) (v_rowOf : Nat → Int32) (v_columnOf : Nat → Int32) (v_seen : Int32) (v_seenWhat : Nat → Int32) (v_seenCan : Nat → Int32) (v_pageLength : Int32) (v_page : Nat → Int32) (v_isWhole : Int32) (v_newKind : Int32) (v_newRows : Int32) (v_newOuter : Nat → Int32) (v_newInner : Nat → Int32) (v_newContent : Nat → Int32) (v_now : Nat → Int32) (v_left : Nat → Int32) (v_box : Int32) (v_isCounted : Int32) (v_counted : Int32) (v_given : Nat → Int32) (v_isTermed : Int32) (v_terms : Int32) (v_term : Nat → Int32) (v_shape : Nat → Int32) (v_readBoxes : Int32) (v_readRow : Nat → Int32) (v_readColumn : Nat → Int32) (v_grid : Nat → Int32) (v_often : Nat → Int32) (v_seedNow : Int64) (v_isKept : Int32) (v_keptBoard : Int32) (v_keptKind : Int32) (v_keptRows : Int32) (v_keptSeen : Int32) (v_keptOuter : Nat → Int32) (v_keptInner : Nat → Int32) (v_keptContent : Nat → Int32) (v_keptWhat : Nat → Int32) (v_keptCan : Nat → Int32) (v_h : Int64) (p1 : Int32) (p2 : Int32) (p3 : Int32) (fin : Int32 × (Nat → Int32) × Int64) (hf : fX8_drawnNow p1 p2 p3 v_kind v_rows v_content v_boxes v_rowOf v_columnOf v_now = some fin) : Ct l z (dC, dI) (tyL cI cB cE) yX8_drawnNow wsX8_drawnNow rmX8_drawnNow [.ref (a 0), .int p1, .int p2, .int p3] (wX8 cI cB cE a v_boards v_kind v_rows v_outer v_inner v_content v_boxes v_rowOf v_columnOf v_seen v_seenWhat v_seenCan v_pageLength v_page v_isWhole v_newKind v_newRows v_newOuter v_newInner v_newContent v_now v_left v_box v_isCounted v_counted v_given v_isTermed v_terms v_term v_shape v_readBoxes v_readRow v_readColumn v_grid v_often v_seedNow v_isKept v_keptBoard v_keptKind v_keptRows v_keptSeen v_keptOuter v_keptInner v_keptContent v_keptWhat v_keptCan v_h) (some (.int fin.1)) (wX8 cI cB cE a v_boards v_kind v_rows v_outer v_inner v_content v_boxes v_rowOf v_columnOf v_seen v_seenWhat v_seenCan v_pageLength v_page v_isWhole v_newKind v_newRows v_newOuter v_newInner v_newContent fin.2.1 v_left v_box v_isCounted v_counted v_given v_isTermed v_terms v_term v_shape v_readBoxes v_readRow v_readColumn v_grid v_often fin.2.2 v_isKept v_keptBoard v_keptKind v_keptRows v_keptSeen v_keptOuter v_keptInner v_keptContent v_keptWhat v_keptCan v_h) := by
  refine Met.ofC (cc := cX8_drawnNow) (maxL := 8) (ret := (some .int)) (by decide) rfl (Nat.le_of_ble_eq_true rfl) ?_
  intro p e s m args below meth c A Q ls hx hb hr hml hts hown hlocks hA hK hP hD hZ hS hQ hl
  have hown : s.vm.findClass RX8 = some m.cls := hown
  have hl : lv_has ls 8 [(0, .ref (a 0)), (1, .int p1), (2, .int p2), (3, .int p3)] := hl
  unfold fX8_drawnNow at hf
  refine lv_aload_n hx hb dX8_drawnNow_0 rfl (lv_at hl 0 rfl) ?_
  refine lv_iload_n hx hb dX8_drawnNow_1 rfl (lv_at hl 2 rfl) ?_
  refine lv_i2l hx hb dX8_drawnNow_2 rfl ?_
  refine va_put (D := (dC, dI)) (ci := 8) (v := .long p2.toInt64) (ty := .long) (C := RX8) (T := TX8) (N := 47) hx hb hts (fun _ h => List.mem_cons_of_mem _ (List.mem_append_right _ h)) tyX8 tyX8_ok nmX8 hown hK hP hD hS 0 rfl rfl 35 (by decide) (hts (.fieldLink RX8 279 "SkewBoardModel" "seedNow" "J") (List.mem_of_getElem? (i := 1) rfl)) (fun _ h9 => h9) rfl (by decide +kernel) rfl rfl (Nat.le_of_ble_eq_true rfl) dX8_drawnNow_3 (fun H locs hP hD hS => ?_)
  have hP : va_P (dC, dI) vwCl (wX8 cI cB cE a v_boards v_kind v_rows v_outer v_inner v_content v_boxes v_rowOf v_columnOf v_seen v_seenWhat v_seenCan v_pageLength v_page v_isWhole v_newKind v_newRows v_newOuter v_newInner v_newContent v_now v_left v_box v_isCounted v_counted v_given v_isTermed v_terms v_term v_shape v_readBoxes v_readRow v_readColumn v_grid v_often p2.toInt64 v_isKept v_keptBoard v_keptKind v_keptRows v_keptSeen v_keptOuter v_keptInner v_keptContent v_keptWhat v_keptCan v_h) H := hP
  have hD : va_D A (wX8 cI cB cE a v_boards v_kind v_rows v_outer v_inner v_content v_boxes v_rowOf v_columnOf v_seen v_seenWhat v_seenCan v_pageLength v_page v_isWhole v_newKind v_newRows v_newOuter v_newInner v_newContent v_now v_left v_box v_isCounted v_counted v_given v_isTermed v_terms v_term v_shape v_readBoxes v_readRow v_readColumn v_grid v_often p2.toInt64 v_isKept v_keptBoard v_keptKind v_keptRows v_keptSeen v_keptOuter v_keptInner v_keptContent v_keptWhat v_keptCan v_h) := hD
  refine lv_iconst (v := 0) hx hb dX8_drawnNow_6 (by decide) ?_
  refine lv_istore (lv' := [(4, .int 0), (0, .ref (a 0)), (1, .int p1), (2, .int p2), (3, .int p3)]) hx hb dX8_drawnNow_7 hl (by decide) rfl (fun ls hl => ?_)
  refine lv_iconst (v := 0) hx hb dX8_drawnNow_9 (by decide) ?_
  refine lv_istore (lv' := [(5, .int 0), (4, .int 0), (0, .ref (a 0)), (1, .int p1), (2, .int p2), (3, .int p3)]) hx hb dX8_drawnNow_10 hl (by decide) rfl (fun ls hl => ?_)
  refine lv_iconst (v := 0) hx hb dX8_drawnNow_12 (by decide) ?_
  refine lv_istore (lv' := [(6, .int 0), (5, .int 0), (4, .int 0), (0, .ref (a 0)), (1, .int p1), (2, .int p2), (3, .int p3)]) hx hb dX8_drawnNow_13 hl (by decide) rfl (fun ls hl => ?_)
  have L15 : ∀ (n15 : Nat) (x4_15 : Int32) (x5_15 : Int32) (x6_15 : Int32) (v_now_15 : Nat → Int32) (v_seedNow_15 : Int64), fX8_drawnNow_L15 v_kind v_rows v_content v_boxes v_rowOf v_columnOf p1 p3 n15 x4_15 x5_15 x6_15 v_now_15 v_seedNow_15 = some fin → ∀ (H : Heap) (locs : List Loc), va_P (dC, dI) vwCl (wX8 cI cB cE a v_boards v_kind v_rows v_outer v_inner v_content v_boxes v_rowOf v_columnOf v_seen v_seenWhat v_seenCan v_pageLength v_page v_isWhole v_newKind v_newRows v_newOuter v_newInner v_newContent v_now_15 v_left v_box v_isCounted v_counted v_given v_isTermed v_terms v_term v_shape v_readBoxes v_readRow v_readColumn v_grid v_often v_seedNow_15 v_isKept v_keptBoard v_keptKind v_keptRows v_keptSeen v_keptOuter v_keptInner v_keptContent v_keptWhat v_keptCan v_h) H → va_D A (wX8 cI cB cE a v_boards v_kind v_rows v_outer v_inner v_content v_boxes v_rowOf v_columnOf v_seen v_seenWhat v_seenCan v_pageLength v_page v_isWhole v_newKind v_newRows v_newOuter v_newInner v_newContent v_now_15 v_left v_box v_isCounted v_counted v_given v_isTermed v_terms v_term v_shape v_readBoxes v_readRow v_readColumn v_grid v_often v_seedNow_15 v_isKept v_keptBoard v_keptKind v_keptRows v_keptSeen v_keptOuter v_keptInner v_keptContent v_keptWhat v_keptCan v_h) → va_S A s.heap H locs → ∀ (ls : Array Slot), lv_has ls 8 [(0, .ref (a 0)), (1, .int p1), (3, .int p3), (4, .int x4_15), (5, .int x5_15), (6, .int x6_15)] → W p l e rmX8_drawnNow s m args below meth c H locs 0 0 Q (F0 m 15 ls []) := by
    intro n15
    induction n15 with
    | zero =>
      intro x4_15 x5_15 x6_15 v_now_15 v_seedNow_15 hf
      rw [fX8_drawnNow_L15] at hf
      cases hf
    | succ n15 ih15 =>
      intro x4_15 x5_15 x6_15 v_now_15 v_seedNow_15 hf H locs hP hD hS ls hl
      rw [fX8_drawnNow_L15] at hf
      refine lv_iload hx hb dX8_drawnNow_15 (lv_at hl 5 rfl) ?_
      refine lv_iload_n hx hb dX8_drawnNow_17 rfl (lv_at hl 1 rfl) ?_
      refine lv_icmp_ge (tgt := 102) hx hb dX8_drawnNow_18 (by decide) (fun c_1 => ?_) (fun c_1 => ?_)
      · rw [if_pos c_1] at hf
        refine lv_iload_n hx hb dX8_drawnNow_102 rfl (lv_at hl 2 rfl) ?_
        have J126 : ∀ (y0_126 : Int32), fX8_drawnNow_J126 v_now_15 v_seedNow_15 y0_126 = some fin → ∀ (H : Heap) (locs : List Loc), va_P (dC, dI) vwCl (wX8 cI cB cE a v_boards v_kind v_rows v_outer v_inner v_content v_boxes v_rowOf v_columnOf v_seen v_seenWhat v_seenCan v_pageLength v_page v_isWhole v_newKind v_newRows v_newOuter v_newInner v_newContent v_now_15 v_left v_box v_isCounted v_counted v_given v_isTermed v_terms v_term v_shape v_readBoxes v_readRow v_readColumn v_grid v_often v_seedNow_15 v_isKept v_keptBoard v_keptKind v_keptRows v_keptSeen v_keptOuter v_keptInner v_keptContent v_keptWhat v_keptCan v_h) H → va_D A (wX8 cI cB cE a v_boards v_kind v_rows v_outer v_inner v_content v_boxes v_rowOf v_columnOf v_seen v_seenWhat v_seenCan v_pageLength v_page v_isWhole v_newKind v_newRows v_newOuter v_newInner v_newContent v_now_15 v_left v_box v_isCounted v_counted v_given v_isTermed v_terms v_term v_shape v_readBoxes v_readRow v_readColumn v_grid v_often v_seedNow_15 v_isKept v_keptBoard v_keptKind v_keptRows v_keptSeen v_keptOuter v_keptInner v_keptContent v_keptWhat v_keptCan v_h) → va_S A s.heap H locs → ∀ (ls : Array Slot), lv_has ls 8 [] → W p l e rmX8_drawnNow s m args below meth c H locs 0 0 Q (F0 m 126 ls [.int y0_126]) := by
          intro y0_126 hf H locs hP hD hS ls hl
          unfold fX8_drawnNow_J126 at hf
          have hQ2 := hQ
          rw [← Option.some.inj hf] at hQ2
          exact cx_iret hQ2 hx hb hr hlocks hK hP hD hS dX8_drawnNow_126
        refine lv_if_ne (tgt := 111) hx hb dX8_drawnNow_103 (by decide) (fun c_2 => ?_) (fun c_2 => ?_)
        · rw [if_neg c_2] at hf
          refine lv_iload_n hx hb dX8_drawnNow_111 rfl (lv_at hl 2 rfl) ?_
          refine lv_iconst (v := 1) hx hb dX8_drawnNow_112 (by decide) ?_
          refine lv_icmp_ne (tgt := 121) hx hb dX8_drawnNow_113 (by decide) (fun c_3 => ?_) (fun c_3 => ?_)
          · rw [if_neg c_3] at hf
            refine lv_aload_n hx hb dX8_drawnNow_121 rfl (lv_at hl 0 rfl) ?_
            refine va_get (D := (dC, dI)) (ci := 8) (C := RX8) (T := TX8) (N := 47) hx hb hts (fun _ h => List.mem_cons_of_mem _ (List.mem_append_right _ h)) hown hK hP 0 rfl rfl 35 (by decide) (hts (.fieldLink RX8 279 "SkewBoardModel" "seedNow" "J") (List.mem_of_getElem? (i := 1) rfl)) (fun _ h9 => h9) rfl dX8_drawnNow_122 ?_
            refine lv_l2i hx hb dX8_drawnNow_125 rfl ?_
            exact J126 v_seedNow_15.toInt32 hf _ _ hP hD hS ls (lv_sub hl [] rfl)
          · rw [if_pos c_3] at hf
            refine lv_iload hx hb dX8_drawnNow_116 (lv_at hl 4 rfl) ?_
            refine lv_goto (tgt := 126) hx hb dX8_drawnNow_118 (by decide) ?_
            exact J126 x5_15 hf _ _ hP hD hS ls (lv_sub hl [] rfl)
        · rw [if_pos c_2] at hf
          refine lv_iload hx hb dX8_drawnNow_106 (lv_at hl 3 rfl) ?_
          refine lv_goto (tgt := 126) hx hb dX8_drawnNow_108 (by decide) ?_
          exact J126 x4_15 hf _ _ hP hD hS ls (lv_sub hl [] rfl)
      · rw [if_neg c_1] at hf
        refine lv_iconst (v := 0) hx hb dX8_drawnNow_21 (by decide) ?_
        refine lv_istore (lv' := [(7, .int 0), (0, .ref (a 0)), (1, .int p1), (3, .int p3), (4, .int x4_15), (5, .int x5_15), (6, .int x6_15)]) hx hb dX8_drawnNow_22 hl (by decide) rfl (fun ls hl => ?_)
        have L24 : ∀ (n24 : Nat) (x7_24 : Int32) (v_now_24 : Nat → Int32) (v_seedNow_24 : Int64), fX8_drawnNow_L24 v_kind v_rows v_content v_boxes v_rowOf v_columnOf x4_15 x5_15 x6_15 (fX8_drawnNow_L15 v_kind v_rows v_content v_boxes v_rowOf v_columnOf p1 p3 n15) n24 x7_24 v_now_24 v_seedNow_24 = some fin → ∀ (H : Heap) (locs : List Loc), va_P (dC, dI) vwCl (wX8 cI cB cE a v_boards v_kind v_rows v_outer v_inner v_content v_boxes v_rowOf v_columnOf v_seen v_seenWhat v_seenCan v_pageLength v_page v_isWhole v_newKind v_newRows v_newOuter v_newInner v_newContent v_now_24 v_left v_box v_isCounted v_counted v_given v_isTermed v_terms v_term v_shape v_readBoxes v_readRow v_readColumn v_grid v_often v_seedNow_24 v_isKept v_keptBoard v_keptKind v_keptRows v_keptSeen v_keptOuter v_keptInner v_keptContent v_keptWhat v_keptCan v_h) H → va_D A (wX8 cI cB cE a v_boards v_kind v_rows v_outer v_inner v_content v_boxes v_rowOf v_columnOf v_seen v_seenWhat v_seenCan v_pageLength v_page v_isWhole v_newKind v_newRows v_newOuter v_newInner v_newContent v_now_24 v_left v_box v_isCounted v_counted v_given v_isTermed v_terms v_term v_shape v_readBoxes v_readRow v_readColumn v_grid v_often v_seedNow_24 v_isKept v_keptBoard v_keptKind v_keptRows v_keptSeen v_keptOuter v_keptInner v_keptContent v_keptWhat v_keptCan v_h) → va_S A s.heap H locs → ∀ (ls : Array Slot), lv_has ls 8 [(0, .ref (a 0)), (1, .int p1), (3, .int p3), (4, .int x4_15), (5, .int x5_15), (6, .int x6_15), (7, .int x7_24)] → W p l e rmX8_drawnNow s m args below meth c H locs 0 0 Q (F0 m 24 ls []) := by
          intro n24
          induction n24 with
          | zero =>
            intro x7_24 v_now_24 v_seedNow_24 hf
            rw [fX8_drawnNow_L24] at hf
            cases hf
          | succ n24 ih24 =>
            intro x7_24 v_now_24 v_seedNow_24 hf H locs hP hD hS ls hl
            rw [fX8_drawnNow_L24] at hf
            refine lv_iload hx hb dX8_drawnNow_24 (lv_at hl 6 rfl) ?_
            refine lv_aload_n hx hb dX8_drawnNow_26 rfl (lv_at hl 0 rfl) ?_
            refine va_get (D := (dC, dI)) (ci := 8) (C := RX8) (T := TX8) (N := 47) hx hb hts (fun _ h => List.mem_cons_of_mem _ (List.mem_append_right _ h)) hown hK hP 0 rfl rfl 6 (by decide) (hts (.fieldLink RX8 124 "SkewBoardModel" "boxes" "I") (List.mem_of_getElem? (i := 2) rfl)) (fun _ h9 => h9) rfl dX8_drawnNow_27 ?_
            refine lv_icmp_ge (tgt := 53) hx hb dX8_drawnNow_30 (by decide) (fun c_4 => ?_) (fun c_4 => ?_)
            · rw [if_pos c_4] at hf
              refine lv_aload_n hx hb dX8_drawnNow_53 rfl (lv_at hl 0 rfl) ?_
              obtain ⟨r_5, hr_5, hf⟩ := bd_some hf
              refine cx_runW (cx_V (As := []) (rest := []) ⟨hx, hb, hml, hown, hts⟩ (ctX8_keeps l z dC dI cI cB cE a v_boards v_kind v_rows v_outer v_inner v_content v_boxes v_rowOf v_columnOf v_seen v_seenWhat v_seenCan v_pageLength v_page v_isWhole v_newKind v_newRows v_newOuter v_newInner v_newContent v_now_24 v_left v_box v_isCounted v_counted v_given v_isTermed v_terms v_term v_shape v_readBoxes v_readRow v_readColumn v_grid v_often v_seedNow_24 v_isKept v_keptBoard v_keptKind v_keptRows v_keptSeen v_keptOuter v_keptInner v_keptContent v_keptWhat v_keptCan v_h r_5 hr_5) (cwV 0 hts gX8_drawnNow_X8_keeps rfl rfl rfl (by decide +kernel) ⟨Nat.le_of_ble_eq_true rfl, Nat.le_of_ble_eq_true rfl⟩) hK hP hD hZ hS hA (ci := 8) (q0 := 0) rfl rfl rfl hl.1 rfl (Nat.le_of_ble_eq_true rfl) dX8_drawnNow_54) hD hS hA [.int r_5] rfl (fun H locs hP hD hS => ?_)
              refine lv_istore (lv' := [(7, .int r_5), (0, .ref (a 0)), (1, .int p1), (3, .int p3), (4, .int x4_15), (5, .int x5_15), (6, .int x6_15)]) hx hb dX8_drawnNow_57 hl (by decide) rfl (fun ls hl => ?_)
              refine lv_iload hx hb dX8_drawnNow_59 (lv_at hl 4 rfl) ?_
              refine lv_iload hx hb dX8_drawnNow_61 (lv_at hl 0 rfl) ?_
              have J71 : ∀ (y1_71 : Int32), fX8_drawnNow_J71 v_content v_boxes x4_15 x5_15 x6_15 v_now_24 v_seedNow_24 r_5 (fX8_drawnNow_L15 v_kind v_rows v_content v_boxes v_rowOf v_columnOf p1 p3 n15) y1_71 = some fin → ∀ (H : Heap) (locs : List Loc), va_P (dC, dI) vwCl (wX8 cI cB cE a v_boards v_kind v_rows v_outer v_inner v_content v_boxes v_rowOf v_columnOf v_seen v_seenWhat v_seenCan v_pageLength v_page v_isWhole v_newKind v_newRows v_newOuter v_newInner v_newContent v_now_24 v_left v_box v_isCounted v_counted v_given v_isTermed v_terms v_term v_shape v_readBoxes v_readRow v_readColumn v_grid v_often v_seedNow_24 v_isKept v_keptBoard v_keptKind v_keptRows v_keptSeen v_keptOuter v_keptInner v_keptContent v_keptWhat v_keptCan v_h) H → va_D A (wX8 cI cB cE a v_boards v_kind v_rows v_outer v_inner v_content v_boxes v_rowOf v_columnOf v_seen v_seenWhat v_seenCan v_pageLength v_page v_isWhole v_newKind v_newRows v_newOuter v_newInner v_newContent v_now_24 v_left v_box v_isCounted v_counted v_given v_isTermed v_terms v_term v_shape v_readBoxes v_readRow v_readColumn v_grid v_often v_seedNow_24 v_isKept v_keptBoard v_keptKind v_keptRows v_keptSeen v_keptOuter v_keptInner v_keptContent v_keptWhat v_keptCan v_h) → va_S A s.heap H locs → ∀ (ls : Array Slot), lv_has ls 8 [(0, .ref (a 0)), (1, .int p1), (3, .int p3), (5, .int x5_15), (6, .int x6_15), (7, .int r_5)] → W p l e rmX8_drawnNow s m args below meth c H locs 0 0 Q (F0 m 71 ls [.int y1_71, .int x4_15]) := by
                intro y1_71 hf H locs hP hD hS ls hl
                unfold fX8_drawnNow_J71 at hf
                refine lv_iadd hx hb dX8_drawnNow_71 ?_
                refine lv_istore (lv' := [(4, .int (x4_15 + y1_71)), (0, .ref (a 0)), (1, .int p1), (3, .int p3), (5, .int x5_15), (6, .int x6_15), (7, .int r_5)]) hx hb dX8_drawnNow_72 hl (by decide) rfl (fun ls hl => ?_)
                refine lv_iload hx hb dX8_drawnNow_74 (lv_at hl 4 rfl) ?_
                refine lv_iload hx hb dX8_drawnNow_76 (lv_at hl 6 rfl) ?_
                have J93 : ∀ (y1_93 : Int32), fX8_drawnNow_J93 x4_15 x5_15 x6_15 v_now_24 v_seedNow_24 y1_71 (fX8_drawnNow_L15 v_kind v_rows v_content v_boxes v_rowOf v_columnOf p1 p3 n15) y1_93 = some fin → ∀ (H : Heap) (locs : List Loc), va_P (dC, dI) vwCl (wX8 cI cB cE a v_boards v_kind v_rows v_outer v_inner v_content v_boxes v_rowOf v_columnOf v_seen v_seenWhat v_seenCan v_pageLength v_page v_isWhole v_newKind v_newRows v_newOuter v_newInner v_newContent v_now_24 v_left v_box v_isCounted v_counted v_given v_isTermed v_terms v_term v_shape v_readBoxes v_readRow v_readColumn v_grid v_often v_seedNow_24 v_isKept v_keptBoard v_keptKind v_keptRows v_keptSeen v_keptOuter v_keptInner v_keptContent v_keptWhat v_keptCan v_h) H → va_D A (wX8 cI cB cE a v_boards v_kind v_rows v_outer v_inner v_content v_boxes v_rowOf v_columnOf v_seen v_seenWhat v_seenCan v_pageLength v_page v_isWhole v_newKind v_newRows v_newOuter v_newInner v_newContent v_now_24 v_left v_box v_isCounted v_counted v_given v_isTermed v_terms v_term v_shape v_readBoxes v_readRow v_readColumn v_grid v_often v_seedNow_24 v_isKept v_keptBoard v_keptKind v_keptRows v_keptSeen v_keptOuter v_keptInner v_keptContent v_keptWhat v_keptCan v_h) → va_S A s.heap H locs → ∀ (ls : Array Slot), lv_has ls 8 [(0, .ref (a 0)), (1, .int p1), (3, .int p3), (4, .int (x4_15 + y1_71)), (6, .int x6_15)] → W p l e rmX8_drawnNow s m args below meth c H locs 0 0 Q (F0 m 93 ls [.int y1_93, .int x5_15]) := by
                  intro y1_93 hf H locs hP hD hS ls hl
                  unfold fX8_drawnNow_J93 at hf
                  refine lv_iadd hx hb dX8_drawnNow_93 ?_
                  refine lv_istore (lv' := [(5, .int (x5_15 + y1_93)), (0, .ref (a 0)), (1, .int p1), (3, .int p3), (4, .int (x4_15 + y1_71)), (6, .int x6_15)]) hx hb dX8_drawnNow_94 hl (by decide) rfl (fun ls hl => ?_)
                  refine lv_iinc (v := (x6_15 + 1)) (lv' := [(6, .int (x6_15 + 1)), (5, .int (x5_15 + y1_93)), (0, .ref (a 0)), (1, .int p1), (3, .int p3), (4, .int (x4_15 + y1_71))]) hx hb dX8_drawnNow_96 hl (k := 5) rfl rfl (by decide) rfl (fun ls hl => ?_)
                  refine lv_goto (tgt := 15) hx hb dX8_drawnNow_99 (by decide) ?_
                  exact ih15 (x4_15 + y1_71) (x5_15 + y1_93) (x6_15 + 1) v_now_24 v_seedNow_24 hf _ _ hP hD hS ls (lv_sub hl [2, 3, 4, 5, 1, 0] rfl)
                have J92 : ∀ (u_92 : Unit), fX8_drawnNow_J92 (fX8_drawnNow_J93 x4_15 x5_15 x6_15 v_now_24 v_seedNow_24 y1_71 (fX8_drawnNow_L15 v_kind v_rows v_content v_boxes v_rowOf v_columnOf p1 p3 n15)) u_92 = some fin → ∀ (H : Heap) (locs : List Loc), va_P (dC, dI) vwCl (wX8 cI cB cE a v_boards v_kind v_rows v_outer v_inner v_content v_boxes v_rowOf v_columnOf v_seen v_seenWhat v_seenCan v_pageLength v_page v_isWhole v_newKind v_newRows v_newOuter v_newInner v_newContent v_now_24 v_left v_box v_isCounted v_counted v_given v_isTermed v_terms v_term v_shape v_readBoxes v_readRow v_readColumn v_grid v_often v_seedNow_24 v_isKept v_keptBoard v_keptKind v_keptRows v_keptSeen v_keptOuter v_keptInner v_keptContent v_keptWhat v_keptCan v_h) H → va_D A (wX8 cI cB cE a v_boards v_kind v_rows v_outer v_inner v_content v_boxes v_rowOf v_columnOf v_seen v_seenWhat v_seenCan v_pageLength v_page v_isWhole v_newKind v_newRows v_newOuter v_newInner v_newContent v_now_24 v_left v_box v_isCounted v_counted v_given v_isTermed v_terms v_term v_shape v_readBoxes v_readRow v_readColumn v_grid v_often v_seedNow_24 v_isKept v_keptBoard v_keptKind v_keptRows v_keptSeen v_keptOuter v_keptInner v_keptContent v_keptWhat v_keptCan v_h) → va_S A s.heap H locs → ∀ (ls : Array Slot), lv_has ls 8 [(0, .ref (a 0)), (1, .int p1), (3, .int p3), (4, .int (x4_15 + y1_71)), (6, .int x6_15)] → W p l e rmX8_drawnNow s m args below meth c H locs 0 0 Q (F0 m 92 ls [.int x5_15]) := by
                  intro u_92 hf H locs hP hD hS ls hl
                  unfold fX8_drawnNow_J92 at hf
                  refine lv_iconst (v := 0) hx hb dX8_drawnNow_92 (by decide) ?_
                  exact J93 0 hf _ _ hP hD hS ls (lv_sub hl [0, 1, 2, 3, 4] rfl)
                refine lv_if_eq (tgt := 92) hx hb dX8_drawnNow_78 (by decide) (fun c_6 => ?_) (fun c_6 => ?_)
                · rw [if_pos c_6] at hf
                  exact J92 () hf _ _ hP hD hS ls (lv_sub hl [1, 2, 3, 0, 5] rfl)
                · rw [if_neg c_6] at hf
                  refine lv_aload_n hx hb dX8_drawnNow_81 rfl (lv_at hl 1 rfl) ?_
                  obtain ⟨r_7, hr_7, hf⟩ := bd_some hf
                  refine cx_runW (cx_V (As := []) (rest := [.int x5_15]) ⟨hx, hb, hml, hown, hts⟩ (ctX8_isAsTold l z dC dI cI cB cE a v_boards v_kind v_rows v_outer v_inner v_content v_boxes v_rowOf v_columnOf v_seen v_seenWhat v_seenCan v_pageLength v_page v_isWhole v_newKind v_newRows v_newOuter v_newInner v_newContent v_now_24 v_left v_box v_isCounted v_counted v_given v_isTermed v_terms v_term v_shape v_readBoxes v_readRow v_readColumn v_grid v_often v_seedNow_24 v_isKept v_keptBoard v_keptKind v_keptRows v_keptSeen v_keptOuter v_keptInner v_keptContent v_keptWhat v_keptCan v_h r_7 hr_7) (cwV 0 hts gX8_drawnNow_X8_isAsTold rfl rfl rfl (by decide +kernel) ⟨Nat.le_of_ble_eq_true rfl, Nat.le_of_ble_eq_true rfl⟩) hK hP hD hZ hS hA (ci := 8) (q0 := 0) rfl rfl rfl hl.1 rfl (Nat.le_of_ble_eq_true rfl) dX8_drawnNow_82) hD hS hA [.int r_7, .int x5_15] rfl (fun H locs hP hD hS => ?_)
                  refine lv_if_eq (tgt := 92) hx hb dX8_drawnNow_85 (by decide) (fun c_8 => ?_) (fun c_8 => ?_)
                  · rw [if_pos c_8] at hf
                    exact J92 () hf _ _ hP hD hS ls (lv_sub hl [1, 2, 3, 0, 5] rfl)
                  · rw [if_neg c_8] at hf
                    refine lv_iconst (v := 1) hx hb dX8_drawnNow_88 (by decide) ?_
                    refine lv_goto (tgt := 93) hx hb dX8_drawnNow_89 (by decide) ?_
                    exact J93 1 hf _ _ hP hD hS ls (lv_sub hl [1, 2, 3, 0, 5] rfl)
              refine lv_if_eq (tgt := 70) hx hb dX8_drawnNow_63 (by decide) (fun c_9 => ?_) (fun c_9 => ?_)
              · rw [if_pos c_9] at hf
                refine lv_iconst (v := 0) hx hb dX8_drawnNow_70 (by decide) ?_
                exact J71 0 hf _ _ hP hD hS ls (lv_sub hl [1, 2, 3, 5, 6, 0] rfl)
              · rw [if_neg c_9] at hf
                refine lv_iconst (v := 1) hx hb dX8_drawnNow_66 (by decide) ?_
                refine lv_goto (tgt := 71) hx hb dX8_drawnNow_67 (by decide) ?_
                exact J71 1 hf _ _ hP hD hS ls (lv_sub hl [1, 2, 3, 5, 6, 0] rfl)
            · rw [if_neg c_4] at hf
              refine lv_aload_n hx hb dX8_drawnNow_33 rfl (lv_at hl 0 rfl) ?_
              refine va_get (D := (dC, dI)) (ci := 8) (C := RX8) (T := TX8) (N := 47) hx hb hts (fun _ h => List.mem_cons_of_mem _ (List.mem_append_right _ h)) hown hK hP 0 rfl rfl 20 (by decide) (hts (.fieldLink RX8 44 "SkewBoardModel" "now" "[I") (List.mem_of_getElem? (i := 3) rfl)) (fun _ h9 => h9) rfl dX8_drawnNow_34 ?_
              refine lv_iload hx hb dX8_drawnNow_37 (lv_at hl 6 rfl) ?_
              refine lv_aload_n hx hb dX8_drawnNow_39 rfl (lv_at hl 0 rfl) ?_
              refine lv_iconst (v := 4) hx hb dX8_drawnNow_40 (by decide) ?_
              obtain ⟨r_10, hr_10, hf⟩ := bd_some hf
              refine cx_runW (cx_V (As := [.int 4]) (rest := [.int x7_24, .ref (a 12)]) ⟨hx, hb, hml, hown, hts⟩ (ctX8_draw l z dC dI cI cB cE a v_boards v_kind v_rows v_outer v_inner v_content v_boxes v_rowOf v_columnOf v_seen v_seenWhat v_seenCan v_pageLength v_page v_isWhole v_newKind v_newRows v_newOuter v_newInner v_newContent v_now_24 v_left v_box v_isCounted v_counted v_given v_isTermed v_terms v_term v_shape v_readBoxes v_readRow v_readColumn v_grid v_often v_seedNow_24 v_isKept v_keptBoard v_keptKind v_keptRows v_keptSeen v_keptOuter v_keptInner v_keptContent v_keptWhat v_keptCan v_h 4 r_10 hr_10) (cwV 1 hts gX8_drawnNow_X8_draw rfl rfl rfl (by decide +kernel) ⟨Nat.le_of_ble_eq_true rfl, Nat.le_of_ble_eq_true rfl⟩) hK hP hD hZ hS hA (ci := 8) (q0 := 0) rfl rfl rfl hl.1 rfl (Nat.le_of_ble_eq_true rfl) dX8_drawnNow_41) hD hS hA [.int r_10.1, .int x7_24, .ref (a 12)] rfl (fun H locs hP hD hS => ?_)
              refine lv_iconst (v := 1) hx hb dX8_drawnNow_44 (by decide) ?_
              refine lv_iadd hx hb dX8_drawnNow_45 ?_
              obtain ⟨g_11, hf⟩ := gd_some hf
              refine va_iast hx hb hK hP hD hS 12 0 rfl rfl (inb_vp g_11) dX8_drawnNow_46 (fun H locs hP hD hS => ?_)
              have hP : va_P (dC, dI) vwCl (wX8 cI cB cE a v_boards v_kind v_rows v_outer v_inner v_content v_boxes v_rowOf v_columnOf v_seen v_seenWhat v_seenCan v_pageLength v_page v_isWhole v_newKind v_newRows v_newOuter v_newInner v_newContent (upd v_now_24 x7_24.toNatClampNeg (r_10.1 + 1)) v_left v_box v_isCounted v_counted v_given v_isTermed v_terms v_term v_shape v_readBoxes v_readRow v_readColumn v_grid v_often r_10.2 v_isKept v_keptBoard v_keptKind v_keptRows v_keptSeen v_keptOuter v_keptInner v_keptContent v_keptWhat v_keptCan v_h) H := hP
              have hD : va_D A (wX8 cI cB cE a v_boards v_kind v_rows v_outer v_inner v_content v_boxes v_rowOf v_columnOf v_seen v_seenWhat v_seenCan v_pageLength v_page v_isWhole v_newKind v_newRows v_newOuter v_newInner v_newContent (upd v_now_24 x7_24.toNatClampNeg (r_10.1 + 1)) v_left v_box v_isCounted v_counted v_given v_isTermed v_terms v_term v_shape v_readBoxes v_readRow v_readColumn v_grid v_often r_10.2 v_isKept v_keptBoard v_keptKind v_keptRows v_keptSeen v_keptOuter v_keptInner v_keptContent v_keptWhat v_keptCan v_h) := hD
              refine lv_iinc (v := (x7_24 + 1)) (lv' := [(7, .int (x7_24 + 1)), (0, .ref (a 0)), (1, .int p1), (3, .int p3), (4, .int x4_15), (5, .int x5_15), (6, .int x6_15)]) hx hb dX8_drawnNow_47 hl (k := 6) rfl rfl (by decide) rfl (fun ls hl => ?_)
              refine lv_goto (tgt := 24) hx hb dX8_drawnNow_50 (by decide) ?_
              exact ih24 (x7_24 + 1) (upd v_now_24 x7_24.toNatClampNeg (r_10.1 + 1)) r_10.2 hf _ _ hP hD hS ls (lv_sub hl [1, 2, 3, 4, 5, 6, 0] rfl)
        exact L24 fu 0 v_now_15 v_seedNow_15 hf _ _ hP hD hS ls (lv_sub hl [1, 2, 3, 4, 5, 6, 0] rfl)
  exact L15 fu 0 0 0 v_now p2.toInt64 hf _ _ hP hD hS ls (lv_sub hl [3, 4, 6, 2, 1, 0] rfl)

def fX8_drawn_J23 (v_now : Nat → Int32) (v_seedNow : Int64) (u_23 : Unit) : Option (Int32 × (Nat → Int32) × Int64) :=
    some ((-102), v_now, v_seedNow)
def fX8_drawn_J45 (y0_45 : Int32) (v_now_45 : Nat → Int32) (v_seedNow_45 : Int64) : Option (Int32 × (Nat → Int32) × Int64) :=
    some (y0_45, v_now_45, v_seedNow_45)
def fX8_drawn (p1 : Int32) (p2 : Int32) (p3 : Int32) (v_kind : Int32) (v_rows : Int32) (v_content : Nat → Int32) (v_boxes : Int32) (v_rowOf : Nat → Int32) (v_columnOf : Nat → Int32) (v_now : Nat → Int32) (v_seedNow : Int64) : Option (Int32 × (Nat → Int32) × Int64) :=
  bd (fX8_within p1 1 100) (fun r_1 => if r_1 = 0 then (fX8_drawn_J23 v_now v_seedNow ()) else (if p2 < 0 then (fX8_drawn_J23 v_now v_seedNow ()) else (bd (fX8_within p3 0 2) (fun r_4 => if r_4 = 0 then (fX8_drawn_J23 v_now v_seedNow ()) else (bd (fX8_isBoard v_rows) (fun r_6 => if r_6 = 0 then (fX8_drawn_J45 (-103) v_now v_seedNow) else (bd (fX8_drawnNow p1 p2 p3 v_kind v_rows v_content v_boxes v_rowOf v_columnOf v_now) (fun r_8 => fX8_drawn_J45 r_8.1 r_8.2.1 r_8.2.2))))))))
def rmX8_drawn : Room := { frames := 4, cells := 0, slots := 0, locals := 94 }
set_option maxRecDepth 100000 in
set_option maxHeartbeats 4000000 in
theorem ctX8_drawn (l : Launch) (z : Nat × Nat × Nat) (dC : Nat → ClassId) (dI : Nat → Nat → Nat) (cI cB cE : ClassId) (a : Nat → Nat) (v_boards : Int32) (v_kind : Int32) (v_rows : Int32) (v_outer : Nat → Int32) (v_inner : Nat → Int32) (v_content : Nat → Int32) (v_boxes : Int32) (v_rowOf : Nat → Int32) (v_columnOf : Nat → Int32) (v_seen : Int32) (v_seenWhat : Nat → Int32) (v_seenCan : Nat → Int32) (v_pageLength : Int32) (v_page : Nat → Int32) (v_isWhole : Int32) (v_newKind : Int32) (v_newRows : Int32) (v_newOuter : Nat → Int32) (v_newInner : Nat → Int32) (v_newContent : Nat → Int32) (v_now : Nat → Int32) (v_left : Nat → Int32) (v_box : Int32) (v_isCounted : Int32) (v_counted : Int32) (v_given : Nat → Int32) (v_isTermed : Int32) (v_terms : Int32) (v_term : Nat → Int32) (v_shape : Nat → Int32) (v_readBoxes : Int32) (v_readRow : Nat → Int32) (v_readColumn : Nat → Int32) (v_grid : Nat → Int32) (v_often : Nat → Int32) (v_seedNow : Int64) (v_isKept : Int32) (v_keptBoard : Int32) (v_keptKind : Int32) (v_keptRows : Int32) (v_keptSeen : Int32) (v_keptOuter : Nat → Int32) (v_keptInner : Nat → Int32) (v_keptContent : Nat → Int32) (v_keptWhat : Nat → Int32) (v_keptCan : Nat → Int32) (v_h : Int64) (p1 : Int32) (p2 : Int32) (p3 : Int32) (fin : Int32 × (Nat → Int32) × Int64) (hf : fX8_drawn p1 p2 p3 v_kind v_rows v_content v_boxes v_rowOf v_columnOf v_now v_seedNow = some fin) : Ct l z (dC, dI) (tyL cI cB cE) yX8_drawn wsX8_drawn rmX8_drawn [.ref (a 0), .int p1, .int p2, .int p3] (wX8 cI cB cE a v_boards v_kind v_rows v_outer v_inner v_content v_boxes v_rowOf v_columnOf v_seen v_seenWhat v_seenCan v_pageLength v_page v_isWhole v_newKind v_newRows v_newOuter v_newInner v_newContent v_now v_left v_box v_isCounted v_counted v_given v_isTermed v_terms v_term v_shape v_readBoxes v_readRow v_readColumn v_grid v_often v_seedNow v_isKept v_keptBoard v_keptKind v_keptRows v_keptSeen v_keptOuter v_keptInner v_keptContent v_keptWhat v_keptCan v_h) (some (.int fin.1)) (wX8 cI cB cE a v_boards v_kind v_rows v_outer v_inner v_content v_boxes v_rowOf v_columnOf v_seen v_seenWhat v_seenCan v_pageLength v_page v_isWhole v_newKind v_newRows v_newOuter v_newInner v_newContent fin.2.1 v_left v_box v_isCounted v_counted v_given v_isTermed v_terms v_term v_shape v_readBoxes v_readRow v_readColumn v_grid v_often fin.2.2 v_isKept v_keptBoard v_keptKind v_keptRows v_keptSeen v_keptOuter v_keptInner v_keptContent v_keptWhat v_keptCan v_h) := by
  refine Met.ofC (cc := cX8_drawn) (maxL := 4) (ret := (some .int)) (by decide) rfl (Nat.le_of_ble_eq_true rfl) ?_
  intro p e s m args below meth c A Q ls hx hb hr hml hts hown hlocks hA hK hP hD hZ hS hQ hl
  have hown : s.vm.findClass RX8 = some m.cls := hown
  have hl : lv_has ls 4 [(0, .ref (a 0)), (1, .int p1), (2, .int p2), (3, .int p3)] := hl
  unfold fX8_drawn at hf
  refine lv_iload_n hx hb dX8_drawn_0 rfl (lv_at hl 1 rfl) ?_
  refine lv_iconst (v := 1) hx hb dX8_drawn_1 (by decide) ?_
  refine lv_bipush (v := 100) hx hb dX8_drawn_2 (by decide) ?_
  obtain ⟨r_1, hr_1, hf⟩ := bd_some hf
  refine cx_run0 (cx_S (A := A) (As := [.int p1, .int 1, .int 100]) (rest := []) ⟨hx, hb, hml, hown, hts⟩ (ctX8_within l z dC dI cI cB cE p1 1 100 r_1 hr_1) (va_cwS 3 hts gX8_drawn_X8_within rfl rfl rfl (by decide +kernel) ⟨Nat.le_of_ble_eq_true rfl, Nat.le_of_ble_eq_true rfl⟩) hK vaP0 vaD0 hZ hS hA rfl hl.1 rfl (Nat.le_of_ble_eq_true rfl) dX8_drawn_4) hP hS hA [.int r_1] rfl (fun H locs hP hS => ?_)
  have J23 : ∀ (u_23 : Unit), fX8_drawn_J23 v_now v_seedNow u_23 = some fin → ∀ (H : Heap) (locs : List Loc), va_P (dC, dI) vwCl (wX8 cI cB cE a v_boards v_kind v_rows v_outer v_inner v_content v_boxes v_rowOf v_columnOf v_seen v_seenWhat v_seenCan v_pageLength v_page v_isWhole v_newKind v_newRows v_newOuter v_newInner v_newContent v_now v_left v_box v_isCounted v_counted v_given v_isTermed v_terms v_term v_shape v_readBoxes v_readRow v_readColumn v_grid v_often v_seedNow v_isKept v_keptBoard v_keptKind v_keptRows v_keptSeen v_keptOuter v_keptInner v_keptContent v_keptWhat v_keptCan v_h) H → va_D A (wX8 cI cB cE a v_boards v_kind v_rows v_outer v_inner v_content v_boxes v_rowOf v_columnOf v_seen v_seenWhat v_seenCan v_pageLength v_page v_isWhole v_newKind v_newRows v_newOuter v_newInner v_newContent v_now v_left v_box v_isCounted v_counted v_given v_isTermed v_terms v_term v_shape v_readBoxes v_readRow v_readColumn v_grid v_often v_seedNow v_isKept v_keptBoard v_keptKind v_keptRows v_keptSeen v_keptOuter v_keptInner v_keptContent v_keptWhat v_keptCan v_h) → va_S A s.heap H locs → ∀ (ls : Array Slot), lv_has ls 4 [] → W p l e rmX8_drawn s m args below meth c H locs 0 0 Q (F0 m 23 ls []) := by
    intro u_23 hf H locs hP hD hS ls hl
    unfold fX8_drawn_J23 at hf
    refine lv_bipush (v := (-102)) hx hb dX8_drawn_23 (by decide) ?_
    have hQ2 := hQ
    rw [← Option.some.inj hf] at hQ2
    exact cx_iret hQ2 hx hb hr hlocks hK hP hD hS dX8_drawn_25
  refine lv_if_eq (tgt := 23) hx hb dX8_drawn_7 (by decide) (fun c_2 => ?_) (fun c_2 => ?_)
  · rw [if_pos c_2] at hf
    exact J23 () hf _ _ hP hD hS ls (lv_sub hl [] rfl)
  · rw [if_neg c_2] at hf
    refine lv_iload_n hx hb dX8_drawn_10 rfl (lv_at hl 2 rfl) ?_
    refine lv_if_lt (tgt := 23) hx hb dX8_drawn_11 (by decide) (fun c_3 => ?_) (fun c_3 => ?_)
    · rw [if_pos c_3] at hf
      exact J23 () hf _ _ hP hD hS ls (lv_sub hl [] rfl)
    · rw [if_neg c_3] at hf
      refine lv_iload_n hx hb dX8_drawn_14 rfl (lv_at hl 3 rfl) ?_
      refine lv_iconst (v := 0) hx hb dX8_drawn_15 (by decide) ?_
      refine lv_iconst (v := 2) hx hb dX8_drawn_16 (by decide) ?_
      obtain ⟨r_4, hr_4, hf⟩ := bd_some hf
      refine cx_run0 (cx_S (A := A) (As := [.int p3, .int 0, .int 2]) (rest := []) ⟨hx, hb, hml, hown, hts⟩ (ctX8_within l z dC dI cI cB cE p3 0 2 r_4 hr_4) (va_cwS 3 hts gX8_drawn_X8_within rfl rfl rfl (by decide +kernel) ⟨Nat.le_of_ble_eq_true rfl, Nat.le_of_ble_eq_true rfl⟩) hK vaP0 vaD0 hZ hS hA rfl hl.1 rfl (Nat.le_of_ble_eq_true rfl) dX8_drawn_17) hP hS hA [.int r_4] rfl (fun H locs hP hS => ?_)
      refine lv_if_ne (tgt := 26) hx hb dX8_drawn_20 (by decide) (fun c_5 => ?_) (fun c_5 => ?_)
      · rw [if_neg c_5] at hf
        refine lv_aload_n hx hb dX8_drawn_26 rfl (lv_at hl 0 rfl) ?_
        obtain ⟨r_6, hr_6, hf⟩ := bd_some hf
        refine cx_runW (cx_V (As := []) (rest := []) ⟨hx, hb, hml, hown, hts⟩ (ctX8_isBoard l z dC dI cI cB cE a v_boards v_kind v_rows v_outer v_inner v_content v_boxes v_rowOf v_columnOf v_seen v_seenWhat v_seenCan v_pageLength v_page v_isWhole v_newKind v_newRows v_newOuter v_newInner v_newContent v_now v_left v_box v_isCounted v_counted v_given v_isTermed v_terms v_term v_shape v_readBoxes v_readRow v_readColumn v_grid v_often v_seedNow v_isKept v_keptBoard v_keptKind v_keptRows v_keptSeen v_keptOuter v_keptInner v_keptContent v_keptWhat v_keptCan v_h r_6 hr_6) (cwV 0 hts gX8_drawn_X8_isBoard rfl rfl rfl (by decide +kernel) ⟨Nat.le_of_ble_eq_true rfl, Nat.le_of_ble_eq_true rfl⟩) hK hP hD hZ hS hA (ci := 8) (q0 := 0) rfl rfl rfl hl.1 rfl (Nat.le_of_ble_eq_true rfl) dX8_drawn_27) hD hS hA [.int r_6] rfl (fun H locs hP hD hS => ?_)
        have J45 : ∀ (y0_45 : Int32) (v_now_45 : Nat → Int32) (v_seedNow_45 : Int64), fX8_drawn_J45  y0_45 v_now_45 v_seedNow_45 = some fin → ∀ (H : Heap) (locs : List Loc), va_P (dC, dI) vwCl (wX8 cI cB cE a v_boards v_kind v_rows v_outer v_inner v_content v_boxes v_rowOf v_columnOf v_seen v_seenWhat v_seenCan v_pageLength v_page v_isWhole v_newKind v_newRows v_newOuter v_newInner v_newContent v_now_45 v_left v_box v_isCounted v_counted v_given v_isTermed v_terms v_term v_shape v_readBoxes v_readRow v_readColumn v_grid v_often v_seedNow_45 v_isKept v_keptBoard v_keptKind v_keptRows v_keptSeen v_keptOuter v_keptInner v_keptContent v_keptWhat v_keptCan v_h) H → va_D A (wX8 cI cB cE a v_boards v_kind v_rows v_outer v_inner v_content v_boxes v_rowOf v_columnOf v_seen v_seenWhat v_seenCan v_pageLength v_page v_isWhole v_newKind v_newRows v_newOuter v_newInner v_newContent v_now_45 v_left v_box v_isCounted v_counted v_given v_isTermed v_terms v_term v_shape v_readBoxes v_readRow v_readColumn v_grid v_often v_seedNow_45 v_isKept v_keptBoard v_keptKind v_keptRows v_keptSeen v_keptOuter v_keptInner v_keptContent v_keptWhat v_keptCan v_h) → va_S A s.heap H locs → ∀ (ls : Array Slot), lv_has ls 4 [] → W p l e rmX8_drawn s m args below meth c H locs 0 0 Q (F0 m 45 ls [.int y0_45]) := by
          intro y0_45 v_now_45 v_seedNow_45 hf H locs hP hD hS ls hl
          unfold fX8_drawn_J45 at hf
          have hQ2 := hQ
          rw [← Option.some.inj hf] at hQ2
          exact cx_iret hQ2 hx hb hr hlocks hK hP hD hS dX8_drawn_45
        refine lv_if_eq (tgt := 43) hx hb dX8_drawn_30 (by decide) (fun c_7 => ?_) (fun c_7 => ?_)
        · rw [if_pos c_7] at hf
          refine lv_bipush (v := (-103)) hx hb dX8_drawn_43 (by decide) ?_
          exact J45 (-103) v_now v_seedNow hf _ _ hP hD hS ls (lv_sub hl [] rfl)
        · rw [if_neg c_7] at hf
          refine lv_aload_n hx hb dX8_drawn_33 rfl (lv_at hl 0 rfl) ?_
          refine lv_iload_n hx hb dX8_drawn_34 rfl (lv_at hl 1 rfl) ?_
          refine lv_iload_n hx hb dX8_drawn_35 rfl (lv_at hl 2 rfl) ?_
          refine lv_iload_n hx hb dX8_drawn_36 rfl (lv_at hl 3 rfl) ?_
          obtain ⟨r_8, hr_8, hf⟩ := bd_some hf
          refine cx_runW (cx_V (As := [.int p1, .int p2, .int p3]) (rest := []) ⟨hx, hb, hml, hown, hts⟩ (ctX8_drawnNow l z dC dI cI cB cE a v_boards v_kind v_rows v_outer v_inner v_content v_boxes v_rowOf v_columnOf v_seen v_seenWhat v_seenCan v_pageLength v_page v_isWhole v_newKind v_newRows v_newOuter v_newInner v_newContent v_now v_left v_box v_isCounted v_counted v_given v_isTermed v_terms v_term v_shape v_readBoxes v_readRow v_readColumn v_grid v_often v_seedNow v_isKept v_keptBoard v_keptKind v_keptRows v_keptSeen v_keptOuter v_keptInner v_keptContent v_keptWhat v_keptCan v_h p1 p2 p3 r_8 hr_8) (cwV 3 hts gX8_drawn_X8_drawnNow rfl rfl rfl (by decide +kernel) ⟨Nat.le_of_ble_eq_true rfl, Nat.le_of_ble_eq_true rfl⟩) hK hP hD hZ hS hA (ci := 8) (q0 := 0) rfl rfl rfl hl.1 rfl (Nat.le_of_ble_eq_true rfl) dX8_drawn_37) hD hS hA [.int r_8.1] rfl (fun H locs hP hD hS => ?_)
          refine lv_goto (tgt := 45) hx hb dX8_drawn_40 (by decide) ?_
          exact J45 r_8.1 r_8.2.1 r_8.2.2 hf _ _ hP hD hS ls (lv_sub hl [] rfl)
      · rw [if_pos c_5] at hf
        exact J23 () hf _ _ hP hD hS ls (lv_sub hl [] rfl)

def fX8_image_L98 (v_boards : Int32) (v_kind : Int32) (v_rows : Int32) (v_boxes : Int32) (v_seen : Int32) (v_seenWhat : Nat → Int32) (v_seenCan : Nat → Int32) (v_keptOuter_49 : Nat → Int32) (v_keptInner_49 : Nat → Int32) (v_keptContent_49 : Nat → Int32) : Nat → Int32 → (Nat → Int32) → (Nat → Int32) → Option (Int32 × Int32 × Int32 × Int32 × Int32 × Int32 × (Nat → Int32) × (Nat → Int32) × (Nat → Int32) × (Nat → Int32) × (Nat → Int32))
  | 0, _, _, _ => none
  | n + 1, x1_98, v_keptWhat_98, v_keptCan_98 =>
    if 6 ≤ x1_98 then (some (v_boxes, 1, v_boards, v_kind, v_rows, v_seen, v_keptOuter_49, v_keptInner_49, v_keptContent_49, v_keptWhat_98, v_keptCan_98)) else (gd (inb x1_98 6) (fX8_image_L98 v_boards v_kind v_rows v_boxes v_seen v_seenWhat v_seenCan v_keptOuter_49 v_keptInner_49 v_keptContent_49 n (x1_98 + 1) (upd v_keptWhat_98 x1_98.toNatClampNeg (v_seenWhat x1_98.toNatClampNeg)) (upd v_keptCan_98 x1_98.toNatClampNeg (v_seenCan x1_98.toNatClampNeg))))
def fX8_image_L49 (v_boards : Int32) (v_kind : Int32) (v_rows : Int32) (v_outer : Nat → Int32) (v_inner : Nat → Int32) (v_content : Nat → Int32) (v_boxes : Int32) (v_seen : Int32) (v_seenWhat : Nat → Int32) (v_seenCan : Nat → Int32) (v_keptWhat : Nat → Int32) (v_keptCan : Nat → Int32) : Nat → Int32 → (Nat → Int32) → (Nat → Int32) → (Nat → Int32) → Option (Int32 × Int32 × Int32 × Int32 × Int32 × Int32 × (Nat → Int32) × (Nat → Int32) × (Nat → Int32) × (Nat → Int32) × (Nat → Int32))
  | 0, _, _, _, _ => none
  | n + 1, x1_49, v_keptOuter_49, v_keptInner_49, v_keptContent_49 =>
    if 4 ≤ x1_49 then (fX8_image_L98 v_boards v_kind v_rows v_boxes v_seen v_seenWhat v_seenCan v_keptOuter_49 v_keptInner_49 v_keptContent_49 fu 0 v_keptWhat v_keptCan) else (gd (inb x1_49 4) (fX8_image_L49 v_boards v_kind v_rows v_outer v_inner v_content v_boxes v_seen v_seenWhat v_seenCan v_keptWhat v_keptCan n (x1_49 + 1) (upd v_keptOuter_49 x1_49.toNatClampNeg (v_outer x1_49.toNatClampNeg)) (upd v_keptInner_49 x1_49.toNatClampNeg (v_inner x1_49.toNatClampNeg)) (upd v_keptContent_49 x1_49.toNatClampNeg (v_content x1_49.toNatClampNeg))))
def fX8_image (v_boards : Int32) (v_kind : Int32) (v_rows : Int32) (v_outer : Nat → Int32) (v_inner : Nat → Int32) (v_content : Nat → Int32) (v_boxes : Int32) (v_seen : Int32) (v_seenWhat : Nat → Int32) (v_seenCan : Nat → Int32) (v_isKept : Int32) (v_keptBoard : Int32) (v_keptKind : Int32) (v_keptRows : Int32) (v_keptSeen : Int32) (v_keptOuter : Nat → Int32) (v_keptInner : Nat → Int32) (v_keptContent : Nat → Int32) (v_keptWhat : Nat → Int32) (v_keptCan : Nat → Int32) : Option (Int32 × Int32 × Int32 × Int32 × Int32 × Int32 × (Nat → Int32) × (Nat → Int32) × (Nat → Int32) × (Nat → Int32) × (Nat → Int32)) :=
  bd (fX8_isBoard v_rows) (fun r_1 => if r_1 = 0 then (some ((-103), v_isKept, v_keptBoard, v_keptKind, v_keptRows, v_keptSeen, v_keptOuter, v_keptInner, v_keptContent, v_keptWhat, v_keptCan)) else (fX8_image_L49 v_boards v_kind v_rows v_outer v_inner v_content v_boxes v_seen v_seenWhat v_seenCan v_keptWhat v_keptCan fu 0 v_keptOuter v_keptInner v_keptContent))
def rmX8_image : Room := { frames := 1, cells := 0, slots := 0, locals := 20 }
set_option maxRecDepth 100000 in
set_option maxHeartbeats 4000000 in
theorem ctX8_image (l : Launch) (z : Nat × Nat × Nat) (dC : Nat → ClassId) (dI : Nat → Nat → Nat) (cI cB cE : ClassId) (a : Nat → Nat) (v_boards : Int32) (v_kind : Int32) (v_rows : Int32) (v_outer : Nat → Int32) (v_inner : Nat → Int32) (v_content : Nat → Int32) (v_boxes : Int32) (v_rowOf : Nat → Int32) (v_columnOf : Nat → Int32) (v_seen : Int32) (v_seenWhat : Nat → Int32) (v_seenCan : Nat → Int32) (v_pageLength : Int32) (v_page : Nat → Int32) (v_isWhole : Int32) (v_newKind : Int32) (v_newRows : Int32) (v_newOuter : Nat → Int32) (v_newInner : Nat → Int32) (v_newContent : Nat → Int32) (v_now : Nat → Int32) (v_left : Nat → Int32) (v_box : Int32) (v_isCounted : Int32) (v_counted : Int32) (v_given : Nat → Int32) (v_isTermed : Int32) (v_terms : Int32) (v_term : Nat → Int32) (v_shape : Nat → Int32) (v_readBoxes : Int32) (v_readRow : Nat → Int32) (v_readColumn : Nat → Int32) (v_grid : Nat → Int32) (v_often : Nat → Int32) (v_seedNow : Int64) (v_isKept : Int32) (v_keptBoard : Int32) (v_keptKind : Int32) (v_keptRows : Int32) (v_keptSeen : Int32) (v_keptOuter : Nat → Int32) (v_keptInner : Nat → Int32) (v_keptContent : Nat → Int32) (v_keptWhat : Nat → Int32) (v_keptCan : Nat → Int32) (v_h : Int64) (fin : Int32 × Int32 × Int32 × Int32 × Int32 × Int32 × (Nat → Int32) × (Nat → Int32) × (Nat → Int32) × (Nat → Int32) × (Nat → Int32)) (hf : fX8_image v_boards v_kind v_rows v_outer v_inner v_content v_boxes v_seen v_seenWhat v_seenCan v_isKept v_keptBoard v_keptKind v_keptRows v_keptSeen v_keptOuter v_keptInner v_keptContent v_keptWhat v_keptCan = some fin) : Ct l z (dC, dI) (tyL cI cB cE) yX8_image wsX8_image rmX8_image [.ref (a 0)] (wX8 cI cB cE a v_boards v_kind v_rows v_outer v_inner v_content v_boxes v_rowOf v_columnOf v_seen v_seenWhat v_seenCan v_pageLength v_page v_isWhole v_newKind v_newRows v_newOuter v_newInner v_newContent v_now v_left v_box v_isCounted v_counted v_given v_isTermed v_terms v_term v_shape v_readBoxes v_readRow v_readColumn v_grid v_often v_seedNow v_isKept v_keptBoard v_keptKind v_keptRows v_keptSeen v_keptOuter v_keptInner v_keptContent v_keptWhat v_keptCan v_h) (some (.int fin.1)) (wX8 cI cB cE a v_boards v_kind v_rows v_outer v_inner v_content v_boxes v_rowOf v_columnOf v_seen v_seenWhat v_seenCan v_pageLength v_page v_isWhole v_newKind v_newRows v_newOuter v_newInner v_newContent v_now v_left v_box v_isCounted v_counted v_given v_isTermed v_terms v_term v_shape v_readBoxes v_readRow v_readColumn v_grid v_often v_seedNow fin.2.1 fin.2.2.1 fin.2.2.2.1 fin.2.2.2.2.1 fin.2.2.2.2.2.1 fin.2.2.2.2.2.2.1 fin.2.2.2.2.2.2.2.1 fin.2.2.2.2.2.2.2.2.1 fin.2.2.2.2.2.2.2.2.2.1 fin.2.2.2.2.2.2.2.2.2.2 v_h) := by
  refine Met.ofC (cc := cX8_image) (maxL := 2) (ret := (some .int)) (by decide) rfl (Nat.le_of_ble_eq_true rfl) ?_
  intro p e s m args below meth c A Q ls hx hb hr hml hts hown hlocks hA hK hP hD hZ hS hQ hl
  have hown : s.vm.findClass RX8 = some m.cls := hown
  have hl : lv_has ls 2 [(0, .ref (a 0))] := hl
  unfold fX8_image at hf
  refine lv_aload_n hx hb dX8_image_0 rfl (lv_at hl 0 rfl) ?_
  obtain ⟨r_1, hr_1, hf⟩ := bd_some hf
  refine cx_runW (cx_V (As := []) (rest := []) ⟨hx, hb, hml, hown, hts⟩ (ctX8_isBoard l z dC dI cI cB cE a v_boards v_kind v_rows v_outer v_inner v_content v_boxes v_rowOf v_columnOf v_seen v_seenWhat v_seenCan v_pageLength v_page v_isWhole v_newKind v_newRows v_newOuter v_newInner v_newContent v_now v_left v_box v_isCounted v_counted v_given v_isTermed v_terms v_term v_shape v_readBoxes v_readRow v_readColumn v_grid v_often v_seedNow v_isKept v_keptBoard v_keptKind v_keptRows v_keptSeen v_keptOuter v_keptInner v_keptContent v_keptWhat v_keptCan v_h r_1 hr_1) (cwV 0 hts gX8_image_X8_isBoard rfl rfl rfl (by decide +kernel) ⟨Nat.le_of_ble_eq_true rfl, Nat.le_of_ble_eq_true rfl⟩) hK hP hD hZ hS hA (ci := 8) (q0 := 0) rfl rfl rfl hl.1 rfl (Nat.le_of_ble_eq_true rfl) dX8_image_1) hD hS hA [.int r_1] rfl (fun H locs hP hD hS => ?_)
  refine lv_if_ne (tgt := 10) hx hb dX8_image_4 (by decide) (fun c_2 => ?_) (fun c_2 => ?_)
  · rw [if_neg c_2] at hf
    refine lv_aload_n hx hb dX8_image_10 rfl (lv_at hl 0 rfl) ?_
    refine lv_iconst (v := 1) hx hb dX8_image_11 (by decide) ?_
    refine va_put (D := (dC, dI)) (ci := 8) (v := .int 1) (ty := .boolean) (C := RX8) (T := TX8) (N := 47) hx hb hts (fun _ h => List.mem_cons_of_mem _ (List.mem_append_right _ h)) tyX8 tyX8_ok nmX8 hown hK hP hD hS 0 rfl rfl 36 (by decide) (hts (.fieldLink RX8 302 "SkewBoardModel" "isKept" "Z") (List.mem_of_getElem? (i := 1) rfl)) (fun _ h9 => h9) rfl (by decide +kernel) rfl rfl (Nat.le_of_ble_eq_true rfl) dX8_image_12 (fun H locs hP hD hS => ?_)
    have hP : va_P (dC, dI) vwCl (wX8 cI cB cE a v_boards v_kind v_rows v_outer v_inner v_content v_boxes v_rowOf v_columnOf v_seen v_seenWhat v_seenCan v_pageLength v_page v_isWhole v_newKind v_newRows v_newOuter v_newInner v_newContent v_now v_left v_box v_isCounted v_counted v_given v_isTermed v_terms v_term v_shape v_readBoxes v_readRow v_readColumn v_grid v_often v_seedNow 1 v_keptBoard v_keptKind v_keptRows v_keptSeen v_keptOuter v_keptInner v_keptContent v_keptWhat v_keptCan v_h) H := hP
    have hD : va_D A (wX8 cI cB cE a v_boards v_kind v_rows v_outer v_inner v_content v_boxes v_rowOf v_columnOf v_seen v_seenWhat v_seenCan v_pageLength v_page v_isWhole v_newKind v_newRows v_newOuter v_newInner v_newContent v_now v_left v_box v_isCounted v_counted v_given v_isTermed v_terms v_term v_shape v_readBoxes v_readRow v_readColumn v_grid v_often v_seedNow 1 v_keptBoard v_keptKind v_keptRows v_keptSeen v_keptOuter v_keptInner v_keptContent v_keptWhat v_keptCan v_h) := hD
    refine lv_aload_n hx hb dX8_image_15 rfl (lv_at hl 0 rfl) ?_
    refine lv_aload_n hx hb dX8_image_16 rfl (lv_at hl 0 rfl) ?_
    refine va_get (D := (dC, dI)) (ci := 8) (C := RX8) (T := TX8) (N := 47) hx hb hts (fun _ h => List.mem_cons_of_mem _ (List.mem_append_right _ h)) hown hK hP 0 rfl rfl 0 (by decide) (hts (.fieldLink RX8 145 "SkewBoardModel" "boards" "I") (List.mem_of_getElem? (i := 2) rfl)) (fun _ h9 => h9) rfl dX8_image_17 ?_
    refine va_put (D := (dC, dI)) (ci := 8) (v := .int v_boards) (ty := .int) (C := RX8) (T := TX8) (N := 47) hx hb hts (fun _ h => List.mem_cons_of_mem _ (List.mem_append_right _ h)) tyX8 tyX8_ok nmX8 hown hK hP hD hS 0 rfl rfl 37 (by decide) (hts (.fieldLink RX8 305 "SkewBoardModel" "keptBoard" "I") (List.mem_of_getElem? (i := 3) rfl)) (fun _ h9 => h9) rfl (by decide +kernel) rfl rfl (Nat.le_of_ble_eq_true rfl) dX8_image_20 (fun H locs hP hD hS => ?_)
    have hP : va_P (dC, dI) vwCl (wX8 cI cB cE a v_boards v_kind v_rows v_outer v_inner v_content v_boxes v_rowOf v_columnOf v_seen v_seenWhat v_seenCan v_pageLength v_page v_isWhole v_newKind v_newRows v_newOuter v_newInner v_newContent v_now v_left v_box v_isCounted v_counted v_given v_isTermed v_terms v_term v_shape v_readBoxes v_readRow v_readColumn v_grid v_often v_seedNow 1 v_boards v_keptKind v_keptRows v_keptSeen v_keptOuter v_keptInner v_keptContent v_keptWhat v_keptCan v_h) H := hP
    have hD : va_D A (wX8 cI cB cE a v_boards v_kind v_rows v_outer v_inner v_content v_boxes v_rowOf v_columnOf v_seen v_seenWhat v_seenCan v_pageLength v_page v_isWhole v_newKind v_newRows v_newOuter v_newInner v_newContent v_now v_left v_box v_isCounted v_counted v_given v_isTermed v_terms v_term v_shape v_readBoxes v_readRow v_readColumn v_grid v_often v_seedNow 1 v_boards v_keptKind v_keptRows v_keptSeen v_keptOuter v_keptInner v_keptContent v_keptWhat v_keptCan v_h) := hD
    refine lv_aload_n hx hb dX8_image_23 rfl (lv_at hl 0 rfl) ?_
    refine lv_aload_n hx hb dX8_image_24 rfl (lv_at hl 0 rfl) ?_
    refine va_get (D := (dC, dI)) (ci := 8) (C := RX8) (T := TX8) (N := 47) hx hb hts (fun _ h => List.mem_cons_of_mem _ (List.mem_append_right _ h)) hown hK hP 0 rfl rfl 1 (by decide) (hts (.fieldLink RX8 139 "SkewBoardModel" "kind" "I") (List.mem_of_getElem? (i := 4) rfl)) (fun _ h9 => h9) rfl dX8_image_25 ?_
    refine va_put (D := (dC, dI)) (ci := 8) (v := .int v_kind) (ty := .int) (C := RX8) (T := TX8) (N := 47) hx hb hts (fun _ h => List.mem_cons_of_mem _ (List.mem_append_right _ h)) tyX8 tyX8_ok nmX8 hown hK hP hD hS 0 rfl rfl 38 (by decide) (hts (.fieldLink RX8 308 "SkewBoardModel" "keptKind" "I") (List.mem_of_getElem? (i := 5) rfl)) (fun _ h9 => h9) rfl (by decide +kernel) rfl rfl (Nat.le_of_ble_eq_true rfl) dX8_image_28 (fun H locs hP hD hS => ?_)
    have hP : va_P (dC, dI) vwCl (wX8 cI cB cE a v_boards v_kind v_rows v_outer v_inner v_content v_boxes v_rowOf v_columnOf v_seen v_seenWhat v_seenCan v_pageLength v_page v_isWhole v_newKind v_newRows v_newOuter v_newInner v_newContent v_now v_left v_box v_isCounted v_counted v_given v_isTermed v_terms v_term v_shape v_readBoxes v_readRow v_readColumn v_grid v_often v_seedNow 1 v_boards v_kind v_keptRows v_keptSeen v_keptOuter v_keptInner v_keptContent v_keptWhat v_keptCan v_h) H := hP
    have hD : va_D A (wX8 cI cB cE a v_boards v_kind v_rows v_outer v_inner v_content v_boxes v_rowOf v_columnOf v_seen v_seenWhat v_seenCan v_pageLength v_page v_isWhole v_newKind v_newRows v_newOuter v_newInner v_newContent v_now v_left v_box v_isCounted v_counted v_given v_isTermed v_terms v_term v_shape v_readBoxes v_readRow v_readColumn v_grid v_often v_seedNow 1 v_boards v_kind v_keptRows v_keptSeen v_keptOuter v_keptInner v_keptContent v_keptWhat v_keptCan v_h) := hD
    refine lv_aload_n hx hb dX8_image_31 rfl (lv_at hl 0 rfl) ?_
    refine lv_aload_n hx hb dX8_image_32 rfl (lv_at hl 0 rfl) ?_
    refine va_get (D := (dC, dI)) (ci := 8) (C := RX8) (T := TX8) (N := 47) hx hb hts (fun _ h => List.mem_cons_of_mem _ (List.mem_append_right _ h)) hown hK hP 0 rfl rfl 2 (by decide) (hts (.fieldLink RX8 127 "SkewBoardModel" "rows" "I") (List.mem_of_getElem? (i := 6) rfl)) (fun _ h9 => h9) rfl dX8_image_33 ?_
    refine va_put (D := (dC, dI)) (ci := 8) (v := .int v_rows) (ty := .int) (C := RX8) (T := TX8) (N := 47) hx hb hts (fun _ h => List.mem_cons_of_mem _ (List.mem_append_right _ h)) tyX8 tyX8_ok nmX8 hown hK hP hD hS 0 rfl rfl 39 (by decide) (hts (.fieldLink RX8 311 "SkewBoardModel" "keptRows" "I") (List.mem_of_getElem? (i := 7) rfl)) (fun _ h9 => h9) rfl (by decide +kernel) rfl rfl (Nat.le_of_ble_eq_true rfl) dX8_image_36 (fun H locs hP hD hS => ?_)
    have hP : va_P (dC, dI) vwCl (wX8 cI cB cE a v_boards v_kind v_rows v_outer v_inner v_content v_boxes v_rowOf v_columnOf v_seen v_seenWhat v_seenCan v_pageLength v_page v_isWhole v_newKind v_newRows v_newOuter v_newInner v_newContent v_now v_left v_box v_isCounted v_counted v_given v_isTermed v_terms v_term v_shape v_readBoxes v_readRow v_readColumn v_grid v_often v_seedNow 1 v_boards v_kind v_rows v_keptSeen v_keptOuter v_keptInner v_keptContent v_keptWhat v_keptCan v_h) H := hP
    have hD : va_D A (wX8 cI cB cE a v_boards v_kind v_rows v_outer v_inner v_content v_boxes v_rowOf v_columnOf v_seen v_seenWhat v_seenCan v_pageLength v_page v_isWhole v_newKind v_newRows v_newOuter v_newInner v_newContent v_now v_left v_box v_isCounted v_counted v_given v_isTermed v_terms v_term v_shape v_readBoxes v_readRow v_readColumn v_grid v_often v_seedNow 1 v_boards v_kind v_rows v_keptSeen v_keptOuter v_keptInner v_keptContent v_keptWhat v_keptCan v_h) := hD
    refine lv_aload_n hx hb dX8_image_39 rfl (lv_at hl 0 rfl) ?_
    refine lv_aload_n hx hb dX8_image_40 rfl (lv_at hl 0 rfl) ?_
    refine va_get (D := (dC, dI)) (ci := 8) (C := RX8) (T := TX8) (N := 47) hx hb hts (fun _ h => List.mem_cons_of_mem _ (List.mem_append_right _ h)) hown hK hP 0 rfl rfl 9 (by decide) (hts (.fieldLink RX8 148 "SkewBoardModel" "seen" "I") (List.mem_of_getElem? (i := 8) rfl)) (fun _ h9 => h9) rfl dX8_image_41 ?_
    refine va_put (D := (dC, dI)) (ci := 8) (v := .int v_seen) (ty := .int) (C := RX8) (T := TX8) (N := 47) hx hb hts (fun _ h => List.mem_cons_of_mem _ (List.mem_append_right _ h)) tyX8 tyX8_ok nmX8 hown hK hP hD hS 0 rfl rfl 40 (by decide) (hts (.fieldLink RX8 314 "SkewBoardModel" "keptSeen" "I") (List.mem_of_getElem? (i := 9) rfl)) (fun _ h9 => h9) rfl (by decide +kernel) rfl rfl (Nat.le_of_ble_eq_true rfl) dX8_image_44 (fun H locs hP hD hS => ?_)
    have hP : va_P (dC, dI) vwCl (wX8 cI cB cE a v_boards v_kind v_rows v_outer v_inner v_content v_boxes v_rowOf v_columnOf v_seen v_seenWhat v_seenCan v_pageLength v_page v_isWhole v_newKind v_newRows v_newOuter v_newInner v_newContent v_now v_left v_box v_isCounted v_counted v_given v_isTermed v_terms v_term v_shape v_readBoxes v_readRow v_readColumn v_grid v_often v_seedNow 1 v_boards v_kind v_rows v_seen v_keptOuter v_keptInner v_keptContent v_keptWhat v_keptCan v_h) H := hP
    have hD : va_D A (wX8 cI cB cE a v_boards v_kind v_rows v_outer v_inner v_content v_boxes v_rowOf v_columnOf v_seen v_seenWhat v_seenCan v_pageLength v_page v_isWhole v_newKind v_newRows v_newOuter v_newInner v_newContent v_now v_left v_box v_isCounted v_counted v_given v_isTermed v_terms v_term v_shape v_readBoxes v_readRow v_readColumn v_grid v_often v_seedNow 1 v_boards v_kind v_rows v_seen v_keptOuter v_keptInner v_keptContent v_keptWhat v_keptCan v_h) := hD
    refine lv_iconst (v := 0) hx hb dX8_image_47 (by decide) ?_
    refine lv_istore_n (lv' := [(1, .int 0), (0, .ref (a 0))]) hx hb dX8_image_48 rfl hl (by decide) rfl (fun ls hl => ?_)
    have L49 : ∀ (n49 : Nat) (x1_49 : Int32) (v_keptOuter_49 : Nat → Int32) (v_keptInner_49 : Nat → Int32) (v_keptContent_49 : Nat → Int32), fX8_image_L49 v_boards v_kind v_rows v_outer v_inner v_content v_boxes v_seen v_seenWhat v_seenCan v_keptWhat v_keptCan n49 x1_49 v_keptOuter_49 v_keptInner_49 v_keptContent_49 = some fin → ∀ (H : Heap) (locs : List Loc), va_P (dC, dI) vwCl (wX8 cI cB cE a v_boards v_kind v_rows v_outer v_inner v_content v_boxes v_rowOf v_columnOf v_seen v_seenWhat v_seenCan v_pageLength v_page v_isWhole v_newKind v_newRows v_newOuter v_newInner v_newContent v_now v_left v_box v_isCounted v_counted v_given v_isTermed v_terms v_term v_shape v_readBoxes v_readRow v_readColumn v_grid v_often v_seedNow 1 v_boards v_kind v_rows v_seen v_keptOuter_49 v_keptInner_49 v_keptContent_49 v_keptWhat v_keptCan v_h) H → va_D A (wX8 cI cB cE a v_boards v_kind v_rows v_outer v_inner v_content v_boxes v_rowOf v_columnOf v_seen v_seenWhat v_seenCan v_pageLength v_page v_isWhole v_newKind v_newRows v_newOuter v_newInner v_newContent v_now v_left v_box v_isCounted v_counted v_given v_isTermed v_terms v_term v_shape v_readBoxes v_readRow v_readColumn v_grid v_often v_seedNow 1 v_boards v_kind v_rows v_seen v_keptOuter_49 v_keptInner_49 v_keptContent_49 v_keptWhat v_keptCan v_h) → va_S A s.heap H locs → ∀ (ls : Array Slot), lv_has ls 2 [(0, .ref (a 0)), (1, .int x1_49)] → W p l e rmX8_image s m args below meth c H locs 0 0 Q (F0 m 49 ls []) := by
      intro n49
      induction n49 with
      | zero =>
        intro x1_49 v_keptOuter_49 v_keptInner_49 v_keptContent_49 hf
        rw [fX8_image_L49] at hf
        cases hf
      | succ n49 ih49 =>
        intro x1_49 v_keptOuter_49 v_keptInner_49 v_keptContent_49 hf H locs hP hD hS ls hl
        rw [fX8_image_L49] at hf
        refine lv_iload_n hx hb dX8_image_49 rfl (lv_at hl 1 rfl) ?_
        refine lv_iconst (v := 4) hx hb dX8_image_50 (by decide) ?_
        refine lv_icmp_ge (tgt := 96) hx hb dX8_image_51 (by decide) (fun c_3 => ?_) (fun c_3 => ?_)
        · rw [if_pos c_3] at hf
          refine lv_iconst (v := 0) hx hb dX8_image_96 (by decide) ?_
          refine lv_istore_n (lv' := [(1, .int 0), (0, .ref (a 0))]) hx hb dX8_image_97 rfl hl (by decide) rfl (fun ls hl => ?_)
          have L98 : ∀ (n98 : Nat) (x1_98 : Int32) (v_keptWhat_98 : Nat → Int32) (v_keptCan_98 : Nat → Int32), fX8_image_L98 v_boards v_kind v_rows v_boxes v_seen v_seenWhat v_seenCan v_keptOuter_49 v_keptInner_49 v_keptContent_49 n98 x1_98 v_keptWhat_98 v_keptCan_98 = some fin → ∀ (H : Heap) (locs : List Loc), va_P (dC, dI) vwCl (wX8 cI cB cE a v_boards v_kind v_rows v_outer v_inner v_content v_boxes v_rowOf v_columnOf v_seen v_seenWhat v_seenCan v_pageLength v_page v_isWhole v_newKind v_newRows v_newOuter v_newInner v_newContent v_now v_left v_box v_isCounted v_counted v_given v_isTermed v_terms v_term v_shape v_readBoxes v_readRow v_readColumn v_grid v_often v_seedNow 1 v_boards v_kind v_rows v_seen v_keptOuter_49 v_keptInner_49 v_keptContent_49 v_keptWhat_98 v_keptCan_98 v_h) H → va_D A (wX8 cI cB cE a v_boards v_kind v_rows v_outer v_inner v_content v_boxes v_rowOf v_columnOf v_seen v_seenWhat v_seenCan v_pageLength v_page v_isWhole v_newKind v_newRows v_newOuter v_newInner v_newContent v_now v_left v_box v_isCounted v_counted v_given v_isTermed v_terms v_term v_shape v_readBoxes v_readRow v_readColumn v_grid v_often v_seedNow 1 v_boards v_kind v_rows v_seen v_keptOuter_49 v_keptInner_49 v_keptContent_49 v_keptWhat_98 v_keptCan_98 v_h) → va_S A s.heap H locs → ∀ (ls : Array Slot), lv_has ls 2 [(0, .ref (a 0)), (1, .int x1_98)] → W p l e rmX8_image s m args below meth c H locs 0 0 Q (F0 m 98 ls []) := by
            intro n98
            induction n98 with
            | zero =>
              intro x1_98 v_keptWhat_98 v_keptCan_98 hf
              rw [fX8_image_L98] at hf
              cases hf
            | succ n98 ih98 =>
              intro x1_98 v_keptWhat_98 v_keptCan_98 hf H locs hP hD hS ls hl
              rw [fX8_image_L98] at hf
              refine lv_iload_n hx hb dX8_image_98 rfl (lv_at hl 1 rfl) ?_
              refine lv_bipush (v := 6) hx hb dX8_image_99 (by decide) ?_
              refine lv_icmp_ge (tgt := 134) hx hb dX8_image_101 (by decide) (fun c_4 => ?_) (fun c_4 => ?_)
              · rw [if_pos c_4] at hf
                refine lv_aload_n hx hb dX8_image_134 rfl (lv_at hl 0 rfl) ?_
                refine va_get (D := (dC, dI)) (ci := 8) (C := RX8) (T := TX8) (N := 47) hx hb hts (fun _ h => List.mem_cons_of_mem _ (List.mem_append_right _ h)) hown hK hP 0 rfl rfl 6 (by decide) (hts (.fieldLink RX8 124 "SkewBoardModel" "boxes" "I") (List.mem_of_getElem? (i := 20) rfl)) (fun _ h9 => h9) rfl dX8_image_135 ?_
                have hQ2 := hQ
                rw [← Option.some.inj hf] at hQ2
                exact cx_iret hQ2 hx hb hr hlocks hK hP hD hS dX8_image_138
              · rw [if_neg c_4] at hf
                refine lv_aload_n hx hb dX8_image_104 rfl (lv_at hl 0 rfl) ?_
                refine va_get (D := (dC, dI)) (ci := 8) (C := RX8) (T := TX8) (N := 47) hx hb hts (fun _ h => List.mem_cons_of_mem _ (List.mem_append_right _ h)) hown hK hP 0 rfl rfl 44 (by decide) (hts (.fieldLink RX8 80 "SkewBoardModel" "keptWhat" "[I") (List.mem_of_getElem? (i := 16) rfl)) (fun _ h9 => h9) rfl dX8_image_105 ?_
                refine lv_iload_n hx hb dX8_image_108 rfl (lv_at hl 1 rfl) ?_
                refine lv_aload_n hx hb dX8_image_109 rfl (lv_at hl 0 rfl) ?_
                refine va_get (D := (dC, dI)) (ci := 8) (C := RX8) (T := TX8) (N := 47) hx hb hts (fun _ h => List.mem_cons_of_mem _ (List.mem_append_right _ h)) hown hK hP 0 rfl rfl 10 (by decide) (hts (.fieldLink RX8 25 "SkewBoardModel" "seenWhat" "[I") (List.mem_of_getElem? (i := 17) rfl)) (fun _ h9 => h9) rfl dX8_image_110 ?_
                refine lv_iload_n hx hb dX8_image_113 rfl (lv_at hl 1 rfl) ?_
                obtain ⟨g_5, hf⟩ := gd_some hf
                refine va_iald hx hb hK hP 6 0 rfl rfl (inb_vp g_5) dX8_image_114 ?_
                refine va_iast hx hb hK hP hD hS 24 0 rfl rfl (inb_vp g_5) dX8_image_115 (fun H locs hP hD hS => ?_)
                have hP : va_P (dC, dI) vwCl (wX8 cI cB cE a v_boards v_kind v_rows v_outer v_inner v_content v_boxes v_rowOf v_columnOf v_seen v_seenWhat v_seenCan v_pageLength v_page v_isWhole v_newKind v_newRows v_newOuter v_newInner v_newContent v_now v_left v_box v_isCounted v_counted v_given v_isTermed v_terms v_term v_shape v_readBoxes v_readRow v_readColumn v_grid v_often v_seedNow 1 v_boards v_kind v_rows v_seen v_keptOuter_49 v_keptInner_49 v_keptContent_49 (upd v_keptWhat_98 x1_98.toNatClampNeg (v_seenWhat x1_98.toNatClampNeg)) v_keptCan_98 v_h) H := hP
                have hD : va_D A (wX8 cI cB cE a v_boards v_kind v_rows v_outer v_inner v_content v_boxes v_rowOf v_columnOf v_seen v_seenWhat v_seenCan v_pageLength v_page v_isWhole v_newKind v_newRows v_newOuter v_newInner v_newContent v_now v_left v_box v_isCounted v_counted v_given v_isTermed v_terms v_term v_shape v_readBoxes v_readRow v_readColumn v_grid v_often v_seedNow 1 v_boards v_kind v_rows v_seen v_keptOuter_49 v_keptInner_49 v_keptContent_49 (upd v_keptWhat_98 x1_98.toNatClampNeg (v_seenWhat x1_98.toNatClampNeg)) v_keptCan_98 v_h) := hD
                refine lv_aload_n hx hb dX8_image_116 rfl (lv_at hl 0 rfl) ?_
                refine va_get (D := (dC, dI)) (ci := 8) (C := RX8) (T := TX8) (N := 47) hx hb hts (fun _ h => List.mem_cons_of_mem _ (List.mem_append_right _ h)) hown hK hP 0 rfl rfl 45 (by decide) (hts (.fieldLink RX8 83 "SkewBoardModel" "keptCan" "[I") (List.mem_of_getElem? (i := 18) rfl)) (fun _ h9 => h9) rfl dX8_image_117 ?_
                refine lv_iload_n hx hb dX8_image_120 rfl (lv_at hl 1 rfl) ?_
                refine lv_aload_n hx hb dX8_image_121 rfl (lv_at hl 0 rfl) ?_
                refine va_get (D := (dC, dI)) (ci := 8) (C := RX8) (T := TX8) (N := 47) hx hb hts (fun _ h => List.mem_cons_of_mem _ (List.mem_append_right _ h)) hown hK hP 0 rfl rfl 11 (by decide) (hts (.fieldLink RX8 28 "SkewBoardModel" "seenCan" "[I") (List.mem_of_getElem? (i := 19) rfl)) (fun _ h9 => h9) rfl dX8_image_122 ?_
                refine lv_iload_n hx hb dX8_image_125 rfl (lv_at hl 1 rfl) ?_
                refine va_iald hx hb hK hP 7 0 rfl rfl (inb_vp g_5) dX8_image_126 ?_
                refine va_iast hx hb hK hP hD hS 25 0 rfl rfl (inb_vp g_5) dX8_image_127 (fun H locs hP hD hS => ?_)
                have hP : va_P (dC, dI) vwCl (wX8 cI cB cE a v_boards v_kind v_rows v_outer v_inner v_content v_boxes v_rowOf v_columnOf v_seen v_seenWhat v_seenCan v_pageLength v_page v_isWhole v_newKind v_newRows v_newOuter v_newInner v_newContent v_now v_left v_box v_isCounted v_counted v_given v_isTermed v_terms v_term v_shape v_readBoxes v_readRow v_readColumn v_grid v_often v_seedNow 1 v_boards v_kind v_rows v_seen v_keptOuter_49 v_keptInner_49 v_keptContent_49 (upd v_keptWhat_98 x1_98.toNatClampNeg (v_seenWhat x1_98.toNatClampNeg)) (upd v_keptCan_98 x1_98.toNatClampNeg (v_seenCan x1_98.toNatClampNeg)) v_h) H := hP
                have hD : va_D A (wX8 cI cB cE a v_boards v_kind v_rows v_outer v_inner v_content v_boxes v_rowOf v_columnOf v_seen v_seenWhat v_seenCan v_pageLength v_page v_isWhole v_newKind v_newRows v_newOuter v_newInner v_newContent v_now v_left v_box v_isCounted v_counted v_given v_isTermed v_terms v_term v_shape v_readBoxes v_readRow v_readColumn v_grid v_often v_seedNow 1 v_boards v_kind v_rows v_seen v_keptOuter_49 v_keptInner_49 v_keptContent_49 (upd v_keptWhat_98 x1_98.toNatClampNeg (v_seenWhat x1_98.toNatClampNeg)) (upd v_keptCan_98 x1_98.toNatClampNeg (v_seenCan x1_98.toNatClampNeg)) v_h) := hD
                refine lv_iinc (v := (x1_98 + 1)) (lv' := [(1, .int (x1_98 + 1)), (0, .ref (a 0))]) hx hb dX8_image_128 hl (k := 1) rfl rfl (by decide) rfl (fun ls hl => ?_)
                refine lv_goto (tgt := 98) hx hb dX8_image_131 (by decide) ?_
                exact ih98 (x1_98 + 1) (upd v_keptWhat_98 x1_98.toNatClampNeg (v_seenWhat x1_98.toNatClampNeg)) (upd v_keptCan_98 x1_98.toNatClampNeg (v_seenCan x1_98.toNatClampNeg)) hf _ _ hP hD hS ls (lv_sub hl [1, 0] rfl)
          exact L98 fu 0 v_keptWhat v_keptCan hf _ _ hP hD hS ls (lv_sub hl [1, 0] rfl)
        · rw [if_neg c_3] at hf
          refine lv_aload_n hx hb dX8_image_54 rfl (lv_at hl 0 rfl) ?_
          refine va_get (D := (dC, dI)) (ci := 8) (C := RX8) (T := TX8) (N := 47) hx hb hts (fun _ h => List.mem_cons_of_mem _ (List.mem_append_right _ h)) hown hK hP 0 rfl rfl 41 (by decide) (hts (.fieldLink RX8 71 "SkewBoardModel" "keptOuter" "[I") (List.mem_of_getElem? (i := 10) rfl)) (fun _ h9 => h9) rfl dX8_image_55 ?_
          refine lv_iload_n hx hb dX8_image_58 rfl (lv_at hl 1 rfl) ?_
          refine lv_aload_n hx hb dX8_image_59 rfl (lv_at hl 0 rfl) ?_
          refine va_get (D := (dC, dI)) (ci := 8) (C := RX8) (T := TX8) (N := 47) hx hb hts (fun _ h => List.mem_cons_of_mem _ (List.mem_append_right _ h)) hown hK hP 0 rfl rfl 3 (by decide) (hts (.fieldLink RX8 7 "SkewBoardModel" "outer" "[I") (List.mem_of_getElem? (i := 11) rfl)) (fun _ h9 => h9) rfl dX8_image_60 ?_
          refine lv_iload_n hx hb dX8_image_63 rfl (lv_at hl 1 rfl) ?_
          obtain ⟨g_6, hf⟩ := gd_some hf
          refine va_iald hx hb hK hP 1 0 rfl rfl (inb_vp g_6) dX8_image_64 ?_
          refine va_iast hx hb hK hP hD hS 21 0 rfl rfl (inb_vp g_6) dX8_image_65 (fun H locs hP hD hS => ?_)
          have hP : va_P (dC, dI) vwCl (wX8 cI cB cE a v_boards v_kind v_rows v_outer v_inner v_content v_boxes v_rowOf v_columnOf v_seen v_seenWhat v_seenCan v_pageLength v_page v_isWhole v_newKind v_newRows v_newOuter v_newInner v_newContent v_now v_left v_box v_isCounted v_counted v_given v_isTermed v_terms v_term v_shape v_readBoxes v_readRow v_readColumn v_grid v_often v_seedNow 1 v_boards v_kind v_rows v_seen (upd v_keptOuter_49 x1_49.toNatClampNeg (v_outer x1_49.toNatClampNeg)) v_keptInner_49 v_keptContent_49 v_keptWhat v_keptCan v_h) H := hP
          have hD : va_D A (wX8 cI cB cE a v_boards v_kind v_rows v_outer v_inner v_content v_boxes v_rowOf v_columnOf v_seen v_seenWhat v_seenCan v_pageLength v_page v_isWhole v_newKind v_newRows v_newOuter v_newInner v_newContent v_now v_left v_box v_isCounted v_counted v_given v_isTermed v_terms v_term v_shape v_readBoxes v_readRow v_readColumn v_grid v_often v_seedNow 1 v_boards v_kind v_rows v_seen (upd v_keptOuter_49 x1_49.toNatClampNeg (v_outer x1_49.toNatClampNeg)) v_keptInner_49 v_keptContent_49 v_keptWhat v_keptCan v_h) := hD
          refine lv_aload_n hx hb dX8_image_66 rfl (lv_at hl 0 rfl) ?_
          refine va_get (D := (dC, dI)) (ci := 8) (C := RX8) (T := TX8) (N := 47) hx hb hts (fun _ h => List.mem_cons_of_mem _ (List.mem_append_right _ h)) hown hK hP 0 rfl rfl 42 (by decide) (hts (.fieldLink RX8 74 "SkewBoardModel" "keptInner" "[I") (List.mem_of_getElem? (i := 12) rfl)) (fun _ h9 => h9) rfl dX8_image_67 ?_
          refine lv_iload_n hx hb dX8_image_70 rfl (lv_at hl 1 rfl) ?_
          refine lv_aload_n hx hb dX8_image_71 rfl (lv_at hl 0 rfl) ?_
          refine va_get (D := (dC, dI)) (ci := 8) (C := RX8) (T := TX8) (N := 47) hx hb hts (fun _ h => List.mem_cons_of_mem _ (List.mem_append_right _ h)) hown hK hP 0 rfl rfl 4 (by decide) (hts (.fieldLink RX8 13 "SkewBoardModel" "inner" "[I") (List.mem_of_getElem? (i := 13) rfl)) (fun _ h9 => h9) rfl dX8_image_72 ?_
          refine lv_iload_n hx hb dX8_image_75 rfl (lv_at hl 1 rfl) ?_
          refine va_iald hx hb hK hP 2 0 rfl rfl (inb_vp g_6) dX8_image_76 ?_
          refine va_iast hx hb hK hP hD hS 22 0 rfl rfl (inb_vp g_6) dX8_image_77 (fun H locs hP hD hS => ?_)
          have hP : va_P (dC, dI) vwCl (wX8 cI cB cE a v_boards v_kind v_rows v_outer v_inner v_content v_boxes v_rowOf v_columnOf v_seen v_seenWhat v_seenCan v_pageLength v_page v_isWhole v_newKind v_newRows v_newOuter v_newInner v_newContent v_now v_left v_box v_isCounted v_counted v_given v_isTermed v_terms v_term v_shape v_readBoxes v_readRow v_readColumn v_grid v_often v_seedNow 1 v_boards v_kind v_rows v_seen (upd v_keptOuter_49 x1_49.toNatClampNeg (v_outer x1_49.toNatClampNeg)) (upd v_keptInner_49 x1_49.toNatClampNeg (v_inner x1_49.toNatClampNeg)) v_keptContent_49 v_keptWhat v_keptCan v_h) H := hP
          have hD : va_D A (wX8 cI cB cE a v_boards v_kind v_rows v_outer v_inner v_content v_boxes v_rowOf v_columnOf v_seen v_seenWhat v_seenCan v_pageLength v_page v_isWhole v_newKind v_newRows v_newOuter v_newInner v_newContent v_now v_left v_box v_isCounted v_counted v_given v_isTermed v_terms v_term v_shape v_readBoxes v_readRow v_readColumn v_grid v_often v_seedNow 1 v_boards v_kind v_rows v_seen (upd v_keptOuter_49 x1_49.toNatClampNeg (v_outer x1_49.toNatClampNeg)) (upd v_keptInner_49 x1_49.toNatClampNeg (v_inner x1_49.toNatClampNeg)) v_keptContent_49 v_keptWhat v_keptCan v_h) := hD
          refine lv_aload_n hx hb dX8_image_78 rfl (lv_at hl 0 rfl) ?_
          refine va_get (D := (dC, dI)) (ci := 8) (C := RX8) (T := TX8) (N := 47) hx hb hts (fun _ h => List.mem_cons_of_mem _ (List.mem_append_right _ h)) hown hK hP 0 rfl rfl 43 (by decide) (hts (.fieldLink RX8 77 "SkewBoardModel" "keptContent" "[I") (List.mem_of_getElem? (i := 14) rfl)) (fun _ h9 => h9) rfl dX8_image_79 ?_
          refine lv_iload_n hx hb dX8_image_82 rfl (lv_at hl 1 rfl) ?_
          refine lv_aload_n hx hb dX8_image_83 rfl (lv_at hl 0 rfl) ?_
          refine va_get (D := (dC, dI)) (ci := 8) (C := RX8) (T := TX8) (N := 47) hx hb hts (fun _ h => List.mem_cons_of_mem _ (List.mem_append_right _ h)) hown hK hP 0 rfl rfl 5 (by decide) (hts (.fieldLink RX8 16 "SkewBoardModel" "content" "[I") (List.mem_of_getElem? (i := 15) rfl)) (fun _ h9 => h9) rfl dX8_image_84 ?_
          refine lv_iload_n hx hb dX8_image_87 rfl (lv_at hl 1 rfl) ?_
          refine va_iald hx hb hK hP 3 0 rfl rfl (inb_vp g_6) dX8_image_88 ?_
          refine va_iast hx hb hK hP hD hS 23 0 rfl rfl (inb_vp g_6) dX8_image_89 (fun H locs hP hD hS => ?_)
          have hP : va_P (dC, dI) vwCl (wX8 cI cB cE a v_boards v_kind v_rows v_outer v_inner v_content v_boxes v_rowOf v_columnOf v_seen v_seenWhat v_seenCan v_pageLength v_page v_isWhole v_newKind v_newRows v_newOuter v_newInner v_newContent v_now v_left v_box v_isCounted v_counted v_given v_isTermed v_terms v_term v_shape v_readBoxes v_readRow v_readColumn v_grid v_often v_seedNow 1 v_boards v_kind v_rows v_seen (upd v_keptOuter_49 x1_49.toNatClampNeg (v_outer x1_49.toNatClampNeg)) (upd v_keptInner_49 x1_49.toNatClampNeg (v_inner x1_49.toNatClampNeg)) (upd v_keptContent_49 x1_49.toNatClampNeg (v_content x1_49.toNatClampNeg)) v_keptWhat v_keptCan v_h) H := hP
          have hD : va_D A (wX8 cI cB cE a v_boards v_kind v_rows v_outer v_inner v_content v_boxes v_rowOf v_columnOf v_seen v_seenWhat v_seenCan v_pageLength v_page v_isWhole v_newKind v_newRows v_newOuter v_newInner v_newContent v_now v_left v_box v_isCounted v_counted v_given v_isTermed v_terms v_term v_shape v_readBoxes v_readRow v_readColumn v_grid v_often v_seedNow 1 v_boards v_kind v_rows v_seen (upd v_keptOuter_49 x1_49.toNatClampNeg (v_outer x1_49.toNatClampNeg)) (upd v_keptInner_49 x1_49.toNatClampNeg (v_inner x1_49.toNatClampNeg)) (upd v_keptContent_49 x1_49.toNatClampNeg (v_content x1_49.toNatClampNeg)) v_keptWhat v_keptCan v_h) := hD
          refine lv_iinc (v := (x1_49 + 1)) (lv' := [(1, .int (x1_49 + 1)), (0, .ref (a 0))]) hx hb dX8_image_90 hl (k := 1) rfl rfl (by decide) rfl (fun ls hl => ?_)
          refine lv_goto (tgt := 49) hx hb dX8_image_93 (by decide) ?_
          exact ih49 (x1_49 + 1) (upd v_keptOuter_49 x1_49.toNatClampNeg (v_outer x1_49.toNatClampNeg)) (upd v_keptInner_49 x1_49.toNatClampNeg (v_inner x1_49.toNatClampNeg)) (upd v_keptContent_49 x1_49.toNatClampNeg (v_content x1_49.toNatClampNeg)) hf _ _ hP hD hS ls (lv_sub hl [1, 0] rfl)
    exact L49 fu 0 v_keptOuter v_keptInner v_keptContent hf _ _ hP hD hS ls (lv_sub hl [1, 0] rfl)
  · rw [if_pos c_2] at hf
    refine lv_bipush (v := (-103)) hx hb dX8_image_7 (by decide) ?_
    have hQ2 := hQ
    rw [← Option.some.inj hf] at hQ2
    exact cx_iret hQ2 hx hb hr hlocks hK hP hD hS dX8_image_9

