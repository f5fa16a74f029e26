def fX8_find_J21 (v_now_21 : Nat → Int32) (v_left_21 : Nat → Int32) (v_box_21 : Int32) (v_isCounted_21 : Int32) (v_counted_21 : Int32) : Option (Int32 × (Nat → Int32) × (Nat → Int32) × Int32 × Int32 × Int32) :=
    some (0, v_now_21, v_left_21, v_box_21, v_isCounted_21, v_counted_21)
def fX8_find_J52 (r_3 : Int32 × (Nat → Int32) × (Nat → Int32) × Int32 × Int32 × Int32) (v_now_52 : Nat → Int32) (v_left_52 : Nat → Int32) (v_box_52 : Int32) : Option (Int32 × (Nat → Int32) × (Nat → Int32) × Int32 × Int32 × Int32) :=
    some (1, v_now_52, v_left_52, v_box_52, r_3.2.2.2.2.1, r_3.2.2.2.2.2)
def fX8_find_L29 (v_kind : Int32) (v_rows : Int32) (v_boxes : Int32) (v_rowOf : Nat → Int32) (v_columnOf : Nat → Int32) (p1 : Int32) (k52 : (Nat → Int32) → (Nat → Int32) → Int32 → Option (Int32 × (Nat → Int32) × (Nat → Int32) × Int32 × Int32 × Int32)) : Nat → Int32 → (Nat → Int32) → (Nat → Int32) → Int32 → Option (Int32 × (Nat → Int32) × (Nat → Int32) × Int32 × Int32 × Int32)
  | 0, _, _, _, _ => none
  | n + 1, x2_29, v_now_29, v_left_29, v_box_29 =>
    if p1 < x2_29 then (k52 v_now_29 v_left_29 v_box_29) else (if v_boxes ≤ 0 then (k52 v_now_29 v_left_29 v_box_29) else (bd (fX8_next v_kind v_rows v_boxes v_rowOf v_columnOf v_now_29 v_left_29 v_box_29) (fun r_9 => fX8_find_L29 v_kind v_rows v_boxes v_rowOf v_columnOf p1 k52 n (x2_29 + 1) r_9.2.1 r_9.2.2.1 r_9.2.2.2)))
def fX8_find (p1 : Int32) (v_kind : Int32) (v_rows : Int32) (v_content : Nat → Int32) (v_boxes : Int32) (v_rowOf : Nat → Int32) (v_columnOf : Nat → Int32) (v_now : Nat → Int32) (v_left : Nat → Int32) (v_box : Int32) (v_isCounted : Int32) (v_counted : Int32) : Option (Int32 × (Nat → Int32) × (Nat → Int32) × Int32 × Int32 × Int32) :=
  bd (fX8_isBoard v_rows) (fun r_1 => if r_1 = 0 then (fX8_find_J21 v_now v_left v_box v_isCounted v_counted) else (bd (fX8_ways v_kind v_rows v_content v_boxes v_rowOf v_columnOf v_now v_left v_box v_isCounted v_counted) (fun r_3 => bd (fX8_within p1 0 (r_3.1 - 1)) (fun r_4 => if r_4 = 0 then (fX8_find_J21 r_3.2.1 r_3.2.2.1 r_3.2.2.2.1 r_3.2.2.2.2.1 r_3.2.2.2.2.2) else (bd (fX8_begin v_content r_3.2.1 r_3.2.2.1) (fun r_6 => fX8_find_L29 v_kind v_rows v_boxes v_rowOf v_columnOf p1 (fX8_find_J52 r_3) fu 0 r_6.1 r_6.2.1 r_6.2.2))))))
def rmX8_find : Room := { frames := 5, cells := 0, slots := 0, locals := 105 }
set_option maxRecDepth 100000 in
set_option maxHeartbeats 4000000 in
theorem ctX8_find (l : Launch) (z : Nat × Nat × Nat) (dC : Nat → ClassId) (dI : Nat → Nat → Nat) (cI cB cE : ClassId) (a : Nat → Nat) (v_boards : Int32) (v_kind : Int32) (v_rows : Int32) (v_outer : Nat → Int32) (v_inner : Nat → Int32) (v_content : Nat → Int32) (v_boxes : Int32) (v_rowOf : Nat → Int32) (v_columnOf : Nat → Int32) (v_seen : Int32) (v_seenWhat : Nat → Int32) (v_seenCan : Nat → Int32) (v_pageLength : Int32) (v_page : Nat → Int32) (v_isWhole : Int32) (v_newKind : Int32) (v_newRows : Int32) (v_newOuter : Nat → Int32) (v_newInner : Nat → Int32) (v_newContent : Nat → Int32) (v_now : Nat → Int32) (v_left : Nat → Int32) (v_box : Int32) (v_isCounted : Int32) (v_counted : Int32) (v_given : Nat → Int32) (v_isTermed : Int32) (v_terms : Int32) (v_term : Nat → Int32) (v_shape : Nat → Int32) (v_readBoxes : Int32) (v_readRow : Nat → Int32) (v_readColumn : Nat → Int32) (v_grid : Nat → Int32) (v_often : Nat → Int32) (v_seedNow : Int64) (v_isKept : Int32) (v_keptBoard : Int32) (v_keptKind : Int32) (v_keptRows : Int32) (v_keptSeen : Int32) (v_keptOuter : Nat → Int32) (v_keptInner : Nat → Int32) (v_keptContent : Nat → Int32) (v_keptWhat : Nat → Int32) (v_keptCan : Nat → Int32) (v_h : Int64) (p1 : Int32) (fin : Int32 × (Nat → Int32) × (Nat → Int32) × Int32 × Int32 × Int32) (hf : fX8_find p1 v_kind v_rows v_content v_boxes v_rowOf v_columnOf v_now v_left v_box v_isCounted v_counted = some fin) : Ct l z (dC, dI) (tyL cI cB cE) yX8_find wsX8_find rmX8_find [.ref (a 0), .int p1] (wX8 cI cB cE a v_boards v_kind v_rows v_outer v_inner v_content v_boxes v_rowOf v_columnOf v_seen v_seenWhat v_seenCan v_pageLength v_page v_isWhole v_newKind v_newRows v_newOuter v_newInner v_newContent v_now v_left v_box v_isCounted v_counted v_given v_isTermed v_terms v_term v_shape v_readBoxes v_readRow v_readColumn v_grid v_often v_seedNow v_isKept v_keptBoard v_keptKind v_keptRows v_keptSeen v_keptOuter v_keptInner v_keptContent v_keptWhat v_keptCan v_h) (some (.int fin.1)) (wX8 cI cB cE a v_boards v_kind v_rows v_outer v_inner v_content v_boxes v_rowOf v_columnOf v_seen v_seenWhat v_seenCan v_pageLength v_page v_isWhole v_newKind v_newRows v_newOuter v_newInner v_newContent fin.2.1 fin.2.2.1 fin.2.2.2.1 fin.2.2.2.2.1 fin.2.2.2.2.2 v_given v_isTermed v_terms v_term v_shape v_readBoxes v_readRow v_readColumn v_grid v_often v_seedNow v_isKept v_keptBoard v_keptKind v_keptRows v_keptSeen v_keptOuter v_keptInner v_keptContent v_keptWhat v_keptCan v_h) := by
  refine Met.ofC (cc := cX8_find) (maxL := 3) (ret := (some .boolean)) (by decide) rfl (Nat.le_of_ble_eq_true rfl) ?_
  intro p e s m args below meth c A Q ls hx hb hr hml hts hown hlocks hA hK hP hD hZ hS hQ hl
  have hown : s.vm.findClass RX8 = some m.cls := hown
  have hl : lv_has ls 3 [(0, .ref (a 0)), (1, .int p1)] := hl
  unfold fX8_find at hf
  refine lv_aload_n hx hb dX8_find_0 rfl (lv_at hl 0 rfl) ?_
  obtain ⟨r_1, hr_1, hf⟩ := bd_some hf
  refine cx_runW (cx_V (As := []) (rest := []) ⟨hx, hb, hml, hown, hts⟩ (ctX8_isBoard l z dC dI cI cB cE a v_boards v_kind v_rows v_outer v_inner v_content v_boxes v_rowOf v_columnOf v_seen v_seenWhat v_seenCan v_pageLength v_page v_isWhole v_newKind v_newRows v_newOuter v_newInner v_newContent v_now v_left v_box v_isCounted v_counted v_given v_isTermed v_terms v_term v_shape v_readBoxes v_readRow v_readColumn v_grid v_often v_seedNow v_isKept v_keptBoard v_keptKind v_keptRows v_keptSeen v_keptOuter v_keptInner v_keptContent v_keptWhat v_keptCan v_h r_1 hr_1) (cwV 0 hts gX8_find_X8_isBoard rfl rfl rfl (by decide +kernel) ⟨Nat.le_of_ble_eq_true rfl, Nat.le_of_ble_eq_true rfl⟩) hK hP hD hZ hS hA (ci := 8) (q0 := 0) rfl rfl rfl hl.1 rfl (Nat.le_of_ble_eq_true rfl) dX8_find_1) hD hS hA [.int r_1] rfl (fun H locs hP hD hS => ?_)
  have J21 : ∀ (v_now_21 : Nat → Int32) (v_left_21 : Nat → Int32) (v_box_21 : Int32) (v_isCounted_21 : Int32) (v_counted_21 : Int32), fX8_find_J21  v_now_21 v_left_21 v_box_21 v_isCounted_21 v_counted_21 = some fin → ∀ (H : Heap) (locs : List Loc), va_P (dC, dI) vwCl (wX8 cI cB cE a v_boards v_kind v_rows v_outer v_inner v_content v_boxes v_rowOf v_columnOf v_seen v_seenWhat v_seenCan v_pageLength v_page v_isWhole v_newKind v_newRows v_newOuter v_newInner v_newContent v_now_21 v_left_21 v_box_21 v_isCounted_21 v_counted_21 v_given v_isTermed v_terms v_term v_shape v_readBoxes v_readRow v_readColumn v_grid v_often v_seedNow v_isKept v_keptBoard v_keptKind v_keptRows v_keptSeen v_keptOuter v_keptInner v_keptContent v_keptWhat v_keptCan v_h) H → va_D A (wX8 cI cB cE a v_boards v_kind v_rows v_outer v_inner v_content v_boxes v_rowOf v_columnOf v_seen v_seenWhat v_seenCan v_pageLength v_page v_isWhole v_newKind v_newRows v_newOuter v_newInner v_newContent v_now_21 v_left_21 v_box_21 v_isCounted_21 v_counted_21 v_given v_isTermed v_terms v_term v_shape v_readBoxes v_readRow v_readColumn v_grid v_often v_seedNow v_isKept v_keptBoard v_keptKind v_keptRows v_keptSeen v_keptOuter v_keptInner v_keptContent v_keptWhat v_keptCan v_h) → va_S A s.heap H locs → ∀ (ls : Array Slot), lv_has ls 3 [] → W p l e rmX8_find s m args below meth c H locs 0 0 Q (F0 m 21 ls []) := by
    intro v_now_21 v_left_21 v_box_21 v_isCounted_21 v_counted_21 hf H locs hP hD hS ls hl
    unfold fX8_find_J21 at hf
    refine lv_iconst (v := 0) hx hb dX8_find_21 (by decide) ?_
    have hQ2 := hQ
    rw [← Option.some.inj hf] at hQ2
    exact cx_zret rfl hQ2 hx hb hr hlocks hK hP hD hS dX8_find_22
  refine lv_if_eq (tgt := 21) hx hb dX8_find_4 (by decide) (fun c_2 => ?_) (fun c_2 => ?_)
  · rw [if_pos c_2] at hf
    exact J21 v_now v_left v_box v_isCounted v_counted hf _ _ hP hD hS ls (lv_sub hl [] rfl)
  · rw [if_neg c_2] at hf
    refine lv_iload_n hx hb dX8_find_7 rfl (lv_at hl 1 rfl) ?_
    refine lv_iconst (v := 0) hx hb dX8_find_8 (by decide) ?_
    refine lv_aload_n hx hb dX8_find_9 rfl (lv_at hl 0 rfl) ?_
    obtain ⟨r_3, hr_3, hf⟩ := bd_some hf
    refine cx_runW (cx_V (As := []) (rest := [.int 0, .int p1]) ⟨hx, hb, hml, hown, hts⟩ (ctX8_ways l z dC dI cI cB cE a v_boards v_kind v_rows v_outer v_inner v_content v_boxes v_rowOf v_columnOf v_seen v_seenWhat v_seenCan v_pageLength v_page v_isWhole v_newKind v_newRows v_newOuter v_newInner v_newContent v_now v_left v_box v_isCounted v_counted v_given v_isTermed v_terms v_term v_shape v_readBoxes v_readRow v_readColumn v_grid v_often v_seedNow v_isKept v_keptBoard v_keptKind v_keptRows v_keptSeen v_keptOuter v_keptInner v_keptContent v_keptWhat v_keptCan v_h r_3 hr_3) (cwV 0 hts gX8_find_X8_ways rfl rfl rfl (by decide +kernel) ⟨Nat.le_of_ble_eq_true rfl, Nat.le_of_ble_eq_true rfl⟩) hK hP hD hZ hS hA (ci := 8) (q0 := 0) rfl rfl rfl hl.1 rfl (Nat.le_of_ble_eq_true rfl) dX8_find_10) hD hS hA [.int r_3.1, .int 0, .int p1] rfl (fun H locs hP hD hS => ?_)
    refine lv_iconst (v := 1) hx hb dX8_find_13 (by decide) ?_
    refine lv_isub hx hb dX8_find_14 ?_
    obtain ⟨r_4, hr_4, hf⟩ := bd_some hf
    refine cx_run0 (cx_S (A := A) (As := [.int p1, .int 0, .int (r_3.1 - 1)]) (rest := []) ⟨hx, hb, hml, hown, hts⟩ (ctX8_within l z dC dI cI cB cE p1 0 (r_3.1 - 1) r_4 hr_4) (va_cwS 3 hts gX8_find_X8_within rfl rfl rfl (by decide +kernel) ⟨Nat.le_of_ble_eq_true rfl, Nat.le_of_ble_eq_true rfl⟩) hK vaP0 vaD0 hZ hS hA rfl hl.1 rfl (Nat.le_of_ble_eq_true rfl) dX8_find_15) hP hS hA [.int r_4] rfl (fun H locs hP hS => ?_)
    refine lv_if_ne (tgt := 23) hx hb dX8_find_18 (by decide) (fun c_5 => ?_) (fun c_5 => ?_)
    · rw [if_neg c_5] at hf
      refine lv_aload_n hx hb dX8_find_23 rfl (lv_at hl 0 rfl) ?_
      obtain ⟨r_6, hr_6, hf⟩ := bd_some hf
      refine cx_runW (cx_V (As := []) (rest := []) ⟨hx, hb, hml, hown, hts⟩ (ctX8_begin l z dC dI cI cB cE a v_boards v_kind v_rows v_outer v_inner v_content v_boxes v_rowOf v_columnOf v_seen v_seenWhat v_seenCan v_pageLength v_page v_isWhole v_newKind v_newRows v_newOuter v_newInner v_newContent r_3.2.1 r_3.2.2.1 r_3.2.2.2.1 r_3.2.2.2.2.1 r_3.2.2.2.2.2 v_given v_isTermed v_terms v_term v_shape v_readBoxes v_readRow v_readColumn v_grid v_often v_seedNow v_isKept v_keptBoard v_keptKind v_keptRows v_keptSeen v_keptOuter v_keptInner v_keptContent v_keptWhat v_keptCan v_h r_6 hr_6) (cwV 0 hts gX8_find_X8_begin rfl rfl rfl (by decide +kernel) ⟨Nat.le_of_ble_eq_true rfl, Nat.le_of_ble_eq_true rfl⟩) hK hP hD hZ hS hA (ci := 8) (q0 := 0) rfl rfl rfl hl.1 rfl (Nat.le_of_ble_eq_true rfl) dX8_find_24) hD hS hA [] rfl (fun H locs hP hD hS => ?_)
      refine lv_iconst (v := 0) hx hb dX8_find_27 (by decide) ?_
      refine lv_istore_n (lv' := [(2, .int 0), (0, .ref (a 0)), (1, .int p1)]) hx hb dX8_find_28 rfl hl (by decide) rfl (fun ls hl => ?_)
      have J52 : ∀ (v_now_52 : Nat → Int32) (v_left_52 : Nat → Int32) (v_box_52 : Int32), fX8_find_J52 r_3 v_now_52 v_left_52 v_box_52 = some fin → ∀ (H : Heap) (locs : List Loc), va_P (dC, dI) vwCl (wX8 cI cB cE a v_boards v_kind v_rows v_outer v_inner v_content v_boxes v_rowOf v_columnOf v_seen v_seenWhat v_seenCan v_pageLength v_page v_isWhole v_newKind v_newRows v_newOuter v_newInner v_newContent v_now_52 v_left_52 v_box_52 r_3.2.2.2.2.1 r_3.2.2.2.2.2 v_given v_isTermed v_terms v_term v_shape v_readBoxes v_readRow v_readColumn v_grid v_often v_seedNow v_isKept v_keptBoard v_keptKind v_keptRows v_keptSeen v_keptOuter v_keptInner v_keptContent v_keptWhat v_keptCan v_h) H → va_D A (wX8 cI cB cE a v_boards v_kind v_rows v_outer v_inner v_content v_boxes v_rowOf v_columnOf v_seen v_seenWhat v_seenCan v_pageLength v_page v_isWhole v_newKind v_newRows v_newOuter v_newInner v_newContent v_now_52 v_left_52 v_box_52 r_3.2.2.2.2.1 r_3.2.2.2.2.2 v_given v_isTermed v_terms v_term v_shape v_readBoxes v_readRow v_readColumn v_grid v_often v_seedNow v_isKept v_keptBoard v_keptKind v_keptRows v_keptSeen v_keptOuter v_keptInner v_keptContent v_keptWhat v_keptCan v_h) → va_S A s.heap H locs → ∀ (ls : Array Slot), lv_has ls 3 [] → W p l e rmX8_find s m args below meth c H locs 0 0 Q (F0 m 52 ls []) := by
        intro v_now_52 v_left_52 v_box_52 hf H locs hP hD hS ls hl
        unfold fX8_find_J52 at hf
        refine lv_iconst (v := 1) hx hb dX8_find_52 (by decide) ?_
        have hQ2 := hQ
        rw [← Option.some.inj hf] at hQ2
        exact cx_zret rfl hQ2 hx hb hr hlocks hK hP hD hS dX8_find_53
      have L29 : ∀ (n29 : Nat) (x2_29 : Int32) (v_now_29 : Nat → Int32) (v_left_29 : Nat → Int32) (v_box_29 : Int32), fX8_find_L29 v_kind v_rows v_boxes v_rowOf v_columnOf p1 (fX8_find_J52 r_3) n29 x2_29 v_now_29 v_left_29 v_box_29 = some fin → ∀ (H : Heap) (locs : List Loc), va_P (dC, dI) vwCl (wX8 cI cB cE a v_boards v_kind v_rows v_outer v_inner v_content v_boxes v_rowOf v_columnOf v_seen v_seenWhat v_seenCan v_pageLength v_page v_isWhole v_newKind v_newRows v_newOuter v_newInner v_newContent v_now_29 v_left_29 v_box_29 r_3.2.2.2.2.1 r_3.2.2.2.2.2 v_given v_isTermed v_terms v_term v_shape v_readBoxes v_readRow v_readColumn v_grid v_often v_seedNow v_isKept v_keptBoard v_keptKind v_keptRows v_keptSeen v_keptOuter v_keptInner v_keptContent v_keptWhat v_keptCan v_h) H → va_D A (wX8 cI cB cE a v_boards v_kind v_rows v_outer v_inner v_content v_boxes v_rowOf v_columnOf v_seen v_seenWhat v_seenCan v_pageLength v_page v_isWhole v_newKind v_newRows v_newOuter v_newInner v_newContent v_now_29 v_left_29 v_box_29 r_3.2.2.2.2.1 r_3.2.2.2.2.2 v_given v_isTermed v_terms v_term v_shape v_readBoxes v_readRow v_readColumn v_grid v_often v_seedNow v_isKept v_keptBoard v_keptKind v_keptRows v_keptSeen v_keptOuter v_keptInner v_keptContent v_keptWhat v_keptCan v_h) → va_S A s.heap H locs → ∀ (ls : Array Slot), lv_has ls 3 [(0, .ref (a 0)), (1, .int p1), (2, .int x2_29)] → W p l e rmX8_find s m args below meth c H locs 0 0 Q (F0 m 29 ls []) := by
        intro n29
        induction n29 with
        | zero =>
          intro x2_29 v_now_29 v_left_29 v_box_29 hf
          rw [fX8_find_L29] at hf
          cases hf
        | succ n29 ih29 =>
          intro x2_29 v_now_29 v_left_29 v_box_29 hf H locs hP hD hS ls hl
          rw [fX8_find_L29] at hf
          refine lv_iload_n hx hb dX8_find_29 rfl (lv_at hl 2 rfl) ?_
          refine lv_iload_n hx hb dX8_find_30 rfl (lv_at hl 1 rfl) ?_
          refine lv_icmp_gt (tgt := 52) hx hb dX8_find_31 (by decide) (fun c_7 => ?_) (fun c_7 => ?_)
          · rw [if_pos c_7] at hf
            exact J52 v_now_29 v_left_29 v_box_29 hf _ _ hP hD hS ls (lv_sub hl [] rfl)
          · rw [if_neg c_7] at hf
            refine lv_aload_n hx hb dX8_find_34 rfl (lv_at hl 0 rfl) ?_
            refine va_get (D := (dC, dI)) (ci := 8) (C := RX8) (T := TX8) (N := 47) hx hb hts (fun _ h => List.mem_cons_of_mem _ (List.mem_append_right _ h)) hown hK hP 0 rfl rfl 6 (by decide) (hts (.fieldLink RX8 124 "SkewBoardModel" "boxes" "I") (List.mem_of_getElem? (i := 1) rfl)) (fun _ h9 => h9) rfl dX8_find_35 ?_
            refine lv_if_le (tgt := 52) hx hb dX8_find_38 (by decide) (fun c_8 => ?_) (fun c_8 => ?_)
            · rw [if_pos c_8] at hf
              exact J52 v_now_29 v_left_29 v_box_29 hf _ _ hP hD hS ls (lv_sub hl [] rfl)
            · rw [if_neg c_8] at hf
              refine lv_aload_n hx hb dX8_find_41 rfl (lv_at hl 0 rfl) ?_
              obtain ⟨r_9, hr_9, hf⟩ := bd_some hf
              refine cx_runW (cx_V (As := []) (rest := []) ⟨hx, hb, hml, hown, hts⟩ (ctX8_next l z dC dI cI cB cE a v_boards v_kind v_rows v_outer v_inner v_content v_boxes v_rowOf v_columnOf v_seen v_seenWhat v_seenCan v_pageLength v_page v_isWhole v_newKind v_newRows v_newOuter v_newInner v_newContent v_now_29 v_left_29 v_box_29 r_3.2.2.2.2.1 r_3.2.2.2.2.2 v_given v_isTermed v_terms v_term v_shape v_readBoxes v_readRow v_readColumn v_grid v_often v_seedNow v_isKept v_keptBoard v_keptKind v_keptRows v_keptSeen v_keptOuter v_keptInner v_keptContent v_keptWhat v_keptCan v_h r_9 hr_9) (cwV 0 hts gX8_find_X8_next rfl rfl rfl (by decide +kernel) ⟨Nat.le_of_ble_eq_true rfl, Nat.le_of_ble_eq_true rfl⟩) hK hP hD hZ hS hA (ci := 8) (q0 := 0) rfl rfl rfl hl.1 rfl (Nat.le_of_ble_eq_true rfl) dX8_find_42) hD hS hA [.int r_9.1] rfl (fun H locs hP hD hS => ?_)
              refine lv_pop hx hb dX8_find_45 rfl ?_
              refine lv_iinc (v := (x2_29 + 1)) (lv' := [(2, .int (x2_29 + 1)), (0, .ref (a 0)), (1, .int p1)]) hx hb dX8_find_46 hl (k := 2) rfl rfl (by decide) rfl (fun ls hl => ?_)
              refine lv_goto (tgt := 29) hx hb dX8_find_49 (by decide) ?_
              exact ih29 (x2_29 + 1) r_9.2.1 r_9.2.2.1 r_9.2.2.2 hf _ _ hP hD hS ls (lv_sub hl [1, 2, 0] rfl)
      exact L29 fu 0 r_6.1 r_6.2.1 r_6.2.2 hf _ _ hP hD hS ls (lv_sub hl [1, 2, 0] rfl)
    · rw [if_pos c_5] at hf
      exact J21 r_3.2.1 r_3.2.2.1 r_3.2.2.2.1 r_3.2.2.2.2.1 r_3.2.2.2.2.2 hf _ _ hP hD hS ls (lv_sub hl [] rfl)

def fX8_isGiven_J36 (x2_4 : Int32) (k4 : Int32 → Int32 → Option (Int32)) (y0_36 : Int32) : Option (Int32) :=
    k4 y0_36 (x2_4 + 1)
def fX8_isGiven_J35 (k36 : Int32 → Option (Int32)) (u_35 : Unit) : Option (Int32) :=
    k36 0
def fX8_isGiven_L4 (v_boxes : Int32) (v_now : Nat → Int32) (v_given : Nat → Int32) : Nat → Int32 → Int32 → Option (Int32)
  | 0, _, _ => none
  | n + 1, x1_4, x2_4 =>
    if v_boxes ≤ x2_4 then (gd (isb x1_4) (some x1_4)) else (if x1_4 = 0 then (fX8_isGiven_J35 (fX8_isGiven_J36 x2_4 (fX8_isGiven_L4 v_boxes v_now v_given n)) ()) else (gd (inb x2_4 9) (if (v_now x2_4.toNatClampNeg) = (v_given x2_4.toNatClampNeg) then (fX8_isGiven_J36 x2_4 (fX8_isGiven_L4 v_boxes v_now v_given n) 1) else (fX8_isGiven_J35 (fX8_isGiven_J36 x2_4 (fX8_isGiven_L4 v_boxes v_now v_given n)) ()))))
def fX8_isGiven (v_boxes : Int32) (v_now : Nat → Int32) (v_given : Nat → Int32) : Option (Int32) :=
  fX8_isGiven_L4 v_boxes v_now v_given fu 1 0
def rmX8_isGiven : Room := { frames := 0, cells := 0, slots := 0, locals := 0 }
set_option maxRecDepth 100000 in
set_option maxHeartbeats 4000000 in
theorem ctX8_isGiven (l : Launch) (z : Nat × Nat × Nat) (dC : Nat → ClassId) (dI : Nat → Nat → Nat) (cI cB cE : ClassId) (a : Nat → Nat) (v_boards : Int32) (v_kind : Int32) (v_rows : Int32) (v_outer : Nat → Int32) (v_inner : Nat → Int32) (v_content : Nat → Int32) (v_boxes : Int32) (v_rowOf : Nat → Int32) (v_columnOf : Nat → Int32) (v_seen : Int32) (v_seenWhat : Nat → Int32) (v_seenCan : Nat → Int32) (v_pageLength : Int32) (v_page : Nat → Int32) (v_isWhole : Int32) (v_newKind : Int32) (v_newRows : Int32) (v_newOuter : Nat → Int32) (v_newInner : Nat → Int32) (v_newContent : Nat → Int32) (v_now : Nat → Int32) (v_left : Nat → Int32) (v_box : Int32) (v_isCounted : Int32) (v_counted : Int32) (v_given : Nat → Int32) (v_isTermed : Int32) (v_terms : Int32) (v_term : Nat → Int32) (v_shape : Nat → Int32) (v_readBoxes : Int32) (v_readRow : Nat → Int32) (v_readColumn : Nat → Int32) (v_grid : Nat → Int32) (v_often : Nat → Int32) (v_seedNow : Int64) (v_isKept : Int32) (v_keptBoard : Int32) (v_keptKind : Int32) (v_keptRows : Int32) (v_keptSeen : Int32) (v_keptOuter : Nat → Int32) (v_keptInner : Nat → Int32) (v_keptContent : Nat → Int32) (v_keptWhat : Nat → Int32) (v_keptCan : Nat → Int32) (v_h : Int64) (fin : Int32) (hf : fX8_isGiven v_boxes v_now v_given = some fin) : Ct l z (dC, dI) (tyL cI cB cE) yX8_isGiven wsX8_isGiven rmX8_isGiven [.ref (a 0)] (wX8 cI cB cE a v_boards v_kind v_rows v_outer v_inner v_content v_boxes v_rowOf v_columnOf v_seen v_seenWhat v_seenCan v_pageLength v_page v_isWhole v_newKind v_newRows v_newOuter v_newInner v_newContent v_now v_left v_box v_isCounted v_counted v_given v_isTermed v_terms v_term v_shape v_readBoxes v_readRow v_readColumn v_grid v_often v_seedNow v_isKept v_keptBoard v_keptKind v_keptRows v_keptSeen v_keptOuter v_keptInner v_keptContent v_keptWhat v_keptCan v_h) (some (.int fin)) (wX8 cI cB cE a v_boards v_kind v_rows v_outer v_inner v_content v_boxes v_rowOf v_columnOf v_seen v_seenWhat v_seenCan v_pageLength v_page v_isWhole v_newKind v_newRows v_newOuter v_newInner v_newContent v_now v_left v_box v_isCounted v_counted v_given v_isTermed v_terms v_term v_shape v_readBoxes v_readRow v_readColumn v_grid v_often v_seedNow v_isKept v_keptBoard v_keptKind v_keptRows v_keptSeen v_keptOuter v_keptInner v_keptContent v_keptWhat v_keptCan v_h) := by
  refine Met.ofC (cc := cX8_isGiven) (maxL := 3) (ret := (some .boolean)) (by decide) rfl (Nat.le_of_ble_eq_true rfl) ?_
  intro p e s m args below meth c A Q ls hx hb hr hml hts hown hlocks hA hK hP hD hZ hS hQ hl
  have hown : s.vm.findClass RX8 = some m.cls := hown
  have hl : lv_has ls 3 [(0, .ref (a 0))] := hl
  unfold fX8_isGiven at hf
  refine lv_iconst (v := 1) hx hb dX8_isGiven_0 (by decide) ?_
  refine lv_istore_n (lv' := [(1, .int 1), (0, .ref (a 0))]) hx hb dX8_isGiven_1 rfl hl (by decide) rfl (fun ls hl => ?_)
  refine lv_iconst (v := 0) hx hb dX8_isGiven_2 (by decide) ?_
  refine lv_istore_n (lv' := [(2, .int 0), (1, .int 1), (0, .ref (a 0))]) hx hb dX8_isGiven_3 rfl hl (by decide) rfl (fun ls hl => ?_)
  have L4 : ∀ (n4 : Nat) (x1_4 : Int32) (x2_4 : Int32), fX8_isGiven_L4 v_boxes v_now v_given n4 x1_4 x2_4 = some fin → ∀ (H : Heap) (locs : List Loc), va_P (dC, dI) vwCl (wX8 cI cB cE a v_boards v_kind v_rows v_outer v_inner v_content v_boxes v_rowOf v_columnOf v_seen v_seenWhat v_seenCan v_pageLength v_page v_isWhole v_newKind v_newRows v_newOuter v_newInner v_newContent v_now v_left v_box v_isCounted v_counted v_given v_isTermed v_terms v_term v_shape v_readBoxes v_readRow v_readColumn v_grid v_often v_seedNow v_isKept v_keptBoard v_keptKind v_keptRows v_keptSeen v_keptOuter v_keptInner v_keptContent v_keptWhat v_keptCan v_h) H → va_D A (wX8 cI cB cE a v_boards v_kind v_rows v_outer v_inner v_content v_boxes v_rowOf v_columnOf v_seen v_seenWhat v_seenCan v_pageLength v_page v_isWhole v_newKind v_newRows v_newOuter v_newInner v_newContent v_now v_left v_box v_isCounted v_counted v_given v_isTermed v_terms v_term v_shape v_readBoxes v_readRow v_readColumn v_grid v_often v_seedNow v_isKept v_keptBoard v_keptKind v_keptRows v_keptSeen v_keptOuter v_keptInner v_keptContent v_keptWhat v_keptCan v_h) → va_S A s.heap H locs → ∀ (ls : Array Slot), lv_has ls 3 [(0, .ref (a 0)), (1, .int x1_4), (2, .int x2_4)] → W p l e rmX8_isGiven s m args below meth c H locs 0 0 Q (F0 m 4 ls []) := by
    intro n4
    induction n4 with
    | zero =>
      intro x1_4 x2_4 hf
      rw [fX8_isGiven_L4] at hf
      cases hf
    | succ n4 ih4 =>
      intro x1_4 x2_4 hf H locs hP hD hS ls hl
      rw [fX8_isGiven_L4] at hf
      refine lv_iload_n hx hb dX8_isGiven_4 rfl (lv_at hl 2 rfl) ?_
      refine lv_aload_n hx hb dX8_isGiven_5 rfl (lv_at hl 0 rfl) ?_
      refine va_get (D := (dC, dI)) (ci := 8) (C := RX8) (T := TX8) (N := 47) hx hb hts (fun _ h => List.mem_cons_of_mem _ (List.mem_append_right _ h)) hown hK hP 0 rfl rfl 6 (by decide) (hts (.fieldLink RX8 124 "SkewBoardModel" "boxes" "I") (List.mem_of_getElem? (i := 1) rfl)) (fun _ h9 => h9) rfl dX8_isGiven_6 ?_
      refine lv_icmp_ge (tgt := 43) hx hb dX8_isGiven_9 (by decide) (fun c_1 => ?_) (fun c_1 => ?_)
      · rw [if_pos c_1] at hf
        refine lv_iload_n hx hb dX8_isGiven_43 rfl (lv_at hl 1 rfl) ?_
        obtain ⟨g_2, hf⟩ := gd_some hf
        have hQ2 := hQ
        rw [← Option.some.inj hf] at hQ2
        exact cx_zret (isb_nar g_2) hQ2 hx hb hr hlocks hK hP hD hS dX8_isGiven_44
      · rw [if_neg c_1] at hf
        refine lv_iload_n hx hb dX8_isGiven_12 rfl (lv_at hl 1 rfl) ?_
        have J36 : ∀ (y0_36 : Int32), fX8_isGiven_J36 x2_4 (fX8_isGiven_L4 v_boxes v_now v_given n4) y0_36 = some fin → ∀ (H : Heap) (locs : List Loc), va_P (dC, dI) vwCl (wX8 cI cB cE a v_boards v_kind v_rows v_outer v_inner v_content v_boxes v_rowOf v_columnOf v_seen v_seenWhat v_seenCan v_pageLength v_page v_isWhole v_newKind v_newRows v_newOuter v_newInner v_newContent v_now v_left v_box v_isCounted v_counted v_given v_isTermed v_terms v_term v_shape v_readBoxes v_readRow v_readColumn v_grid v_often v_seedNow v_isKept v_keptBoard v_keptKind v_keptRows v_keptSeen v_keptOuter v_keptInner v_keptContent v_keptWhat v_keptCan v_h) H → va_D A (wX8 cI cB cE a v_boards v_kind v_rows v_outer v_inner v_content v_boxes v_rowOf v_columnOf v_seen v_seenWhat v_seenCan v_pageLength v_page v_isWhole v_newKind v_newRows v_newOuter v_newInner v_newContent v_now v_left v_box v_isCounted v_counted v_given v_isTermed v_terms v_term v_shape v_readBoxes v_readRow v_readColumn v_grid v_often v_seedNow v_isKept v_keptBoard v_keptKind v_keptRows v_keptSeen v_keptOuter v_keptInner v_keptContent v_keptWhat v_keptCan v_h) → va_S A s.heap H locs → ∀ (ls : Array Slot), lv_has ls 3 [(0, .ref (a 0)), (2, .int x2_4)] → W p l e rmX8_isGiven s m args below meth c H locs 0 0 Q (F0 m 36 ls [.int y0_36]) := by
          intro y0_36 hf H locs hP hD hS ls hl
          unfold fX8_isGiven_J36 at hf
          refine lv_istore_n (lv' := [(1, .int y0_36), (0, .ref (a 0)), (2, .int x2_4)]) hx hb dX8_isGiven_36 rfl hl (by decide) rfl (fun ls hl => ?_)
          refine lv_iinc (v := (x2_4 + 1)) (lv' := [(2, .int (x2_4 + 1)), (1, .int y0_36), (0, .ref (a 0))]) hx hb dX8_isGiven_37 hl (k := 2) rfl rfl (by decide) rfl (fun ls hl => ?_)
          refine lv_goto (tgt := 4) hx hb dX8_isGiven_40 (by decide) ?_
          exact ih4 y0_36 (x2_4 + 1) hf _ _ hP hD hS ls (lv_sub hl [2, 1, 0] rfl)
        have J35 : ∀ (u_35 : Unit), fX8_isGiven_J35 (fX8_isGiven_J36 x2_4 (fX8_isGiven_L4 v_boxes v_now v_given n4)) u_35 = some fin → ∀ (H : Heap) (locs : List Loc), va_P (dC, dI) vwCl (wX8 cI cB cE a v_boards v_kind v_rows v_outer v_inner v_content v_boxes v_rowOf v_columnOf v_seen v_seenWhat v_seenCan v_pageLength v_page v_isWhole v_newKind v_newRows v_newOuter v_newInner v_newContent v_now v_left v_box v_isCounted v_counted v_given v_isTermed v_terms v_term v_shape v_readBoxes v_readRow v_readColumn v_grid v_often v_seedNow v_isKept v_keptBoard v_keptKind v_keptRows v_keptSeen v_keptOuter v_keptInner v_keptContent v_keptWhat v_keptCan v_h) H → va_D A (wX8 cI cB cE a v_boards v_kind v_rows v_outer v_inner v_content v_boxes v_rowOf v_columnOf v_seen v_seenWhat v_seenCan v_pageLength v_page v_isWhole v_newKind v_newRows v_newOuter v_newInner v_newContent v_now v_left v_box v_isCounted v_counted v_given v_isTermed v_terms v_term v_shape v_readBoxes v_readRow v_readColumn v_grid v_often v_seedNow v_isKept v_keptBoard v_keptKind v_keptRows v_keptSeen v_keptOuter v_keptInner v_keptContent v_keptWhat v_keptCan v_h) → va_S A s.heap H locs → ∀ (ls : Array Slot), lv_has ls 3 [(0, .ref (a 0)), (2, .int x2_4)] → W p l e rmX8_isGiven s m args below meth c H locs 0 0 Q (F0 m 35 ls []) := by
          intro u_35 hf H locs hP hD hS ls hl
          unfold fX8_isGiven_J35 at hf
          refine lv_iconst (v := 0) hx hb dX8_isGiven_35 (by decide) ?_
          exact J36 0 hf _ _ hP hD hS ls (lv_sub hl [0, 1] rfl)
        refine lv_if_eq (tgt := 35) hx hb dX8_isGiven_13 (by decide) (fun c_3 => ?_) (fun c_3 => ?_)
        · rw [if_pos c_3] at hf
          exact J35 () hf _ _ hP hD hS ls (lv_sub hl [0, 2] rfl)
        · rw [if_neg c_3] at hf
          refine lv_aload_n hx hb dX8_isGiven_16 rfl (lv_at hl 0 rfl) ?_
          refine va_get (D := (dC, dI)) (ci := 8) (C := RX8) (T := TX8) (N := 47) hx hb hts (fun _ h => List.mem_cons_of_mem _ (List.mem_append_right _ h)) hown hK hP 0 rfl rfl 20 (by decide) (hts (.fieldLink RX8 44 "SkewBoardModel" "now" "[I") (List.mem_of_getElem? (i := 2) rfl)) (fun _ h9 => h9) rfl dX8_isGiven_17 ?_
          refine lv_iload_n hx hb dX8_isGiven_20 rfl (lv_at hl 2 rfl) ?_
          obtain ⟨g_4, hf⟩ := gd_some hf
          refine va_iald hx hb hK hP 12 0 rfl rfl (inb_vp g_4) dX8_isGiven_21 ?_
          refine lv_aload_n hx hb dX8_isGiven_22 rfl (lv_at hl 0 rfl) ?_
          refine va_get (D := (dC, dI)) (ci := 8) (C := RX8) (T := TX8) (N := 47) hx hb hts (fun _ h => List.mem_cons_of_mem _ (List.mem_append_right _ h)) hown hK hP 0 rfl rfl 25 (by decide) (hts (.fieldLink RX8 50 "SkewBoardModel" "given" "[I") (List.mem_of_getElem? (i := 3) rfl)) (fun _ h9 => h9) rfl dX8_isGiven_23 ?_
          refine lv_iload_n hx hb dX8_isGiven_26 rfl (lv_at hl 2 rfl) ?_
          refine va_iald hx hb hK hP 14 0 rfl rfl (inb_vp g_4) dX8_isGiven_27 ?_
          refine lv_icmp_ne (tgt := 35) hx hb dX8_isGiven_28 (by decide) (fun c_5 => ?_) (fun c_5 => ?_)
          · rw [if_neg c_5] at hf
            exact J35 () hf _ _ hP hD hS ls (lv_sub hl [0, 2] rfl)
          · rw [if_pos c_5] at hf
            refine lv_iconst (v := 1) hx hb dX8_isGiven_31 (by decide) ?_
            refine lv_goto (tgt := 36) hx hb dX8_isGiven_32 (by decide) ?_
            exact J36 1 hf _ _ hP hD hS ls (lv_sub hl [0, 2] rfl)
  exact L4 fu 1 0 hf _ _ hP hD hS ls (lv_sub hl [2, 1, 0] rfl)

def fX8_numberOf_J28 (v_boxes : Int32) (v_given : Nat → Int32) (r_1 : Int32 × (Nat → Int32) × (Nat → Int32) × Int32 × Int32 × Int32) (x2_11 : Int32) (k11 : Int32 → (Nat → Int32) → (Nat → Int32) → Int32 → Option (Int32 × (Nat → Int32) × (Nat → Int32) × Int32 × Int32 × Int32)) (v_now_28 : Nat → Int32) (v_left_28 : Nat → Int32) (v_box_28 : Int32) : Option (Int32 × (Nat → Int32) × (Nat → Int32) × Int32 × Int32 × Int32) :=
    bd (fX8_isGiven v_boxes v_now_28 v_given) (fun r_4 => if r_4 = 0 then (k11 (x2_11 + 1) v_now_28 v_left_28 v_box_28) else (some (x2_11, v_now_28, v_left_28, v_box_28, r_1.2.2.2.2.1, r_1.2.2.2.2.2)))
def fX8_numberOf_L11 (v_kind : Int32) (v_rows : Int32) (v_boxes : Int32) (v_rowOf : Nat → Int32) (v_columnOf : Nat → Int32) (v_given : Nat → Int32) (r_1 : Int32 × (Nat → Int32) × (Nat → Int32) × Int32 × Int32 × Int32) : Nat → Int32 → (Nat → Int32) → (Nat → Int32) → Int32 → Option (Int32 × (Nat → Int32) × (Nat → Int32) × Int32 × Int32 × Int32)
  | 0, _, _, _, _ => none
  | n + 1, x2_11, v_now_11, v_left_11, v_box_11 =>
    if r_1.1 ≤ x2_11 then (some ((-1), v_now_11, v_left_11, v_box_11, r_1.2.2.2.2.1, r_1.2.2.2.2.2)) else (if v_boxes ≤ 0 then (fX8_numberOf_J28 v_boxes v_given r_1 x2_11 (fX8_numberOf_L11 v_kind v_rows v_boxes v_rowOf v_columnOf v_given r_1 n) v_now_11 v_left_11 v_box_11) else (bd (fX8_next v_kind v_rows v_boxes v_rowOf v_columnOf v_now_11 v_left_11 v_box_11) (fun r_7 => fX8_numberOf_J28 v_boxes v_given r_1 x2_11 (fX8_numberOf_L11 v_kind v_rows v_boxes v_rowOf v_columnOf v_given r_1 n) r_7.2.1 r_7.2.2.1 r_7.2.2.2)))
def fX8_numberOf (v_kind : Int32) (v_rows : Int32) (v_content : Nat → Int32) (v_boxes : Int32) (v_rowOf : Nat → Int32) (v_columnOf : Nat → Int32) (v_now : Nat → Int32) (v_left : Nat → Int32) (v_box : Int32) (v_isCounted : Int32) (v_counted : Int32) (v_given : Nat → Int32) : Option (Int32 × (Nat → Int32) × (Nat → Int32) × Int32 × Int32 × Int32) :=
  bd (fX8_ways v_kind v_rows v_content v_boxes v_rowOf v_columnOf v_now v_left v_box v_isCounted v_counted) (fun r_1 => bd (fX8_begin v_content r_1.2.1 r_1.2.2.1) (fun r_2 => fX8_numberOf_L11 v_kind v_rows v_boxes v_rowOf v_columnOf v_given r_1 fu 0 r_2.1 r_2.2.1 r_2.2.2))
def rmX8_numberOf : Room := { frames := 5, cells := 0, slots := 0, locals := 105 }
set_option maxRecDepth 100000 in
set_option maxHeartbeats 4000000 in
theorem ctX8_numberOf (l : Launch) (z : Nat × Nat × Nat) (dC : Nat → ClassId) (dI : Nat → Nat → Nat) (cI cB cE : ClassId) (a : Nat → Nat) (v_boards : Int32) (v_kind : Int32) (v_rows : Int32) (v_outer : Nat → Int32) (v_inner : Nat → Int32) (v_content : Nat → Int32) (v_boxes : Int32) (v_rowOf : Nat → Int32) (v_columnOf : Nat → Int32) (v_seen : Int32) (v_seenWhat : Nat → Int32) (v_seenCan : Nat → Int32) (v_pageLength : Int32) (v_page : Nat → Int32) (v_isWhole : Int32) (v_newKind : Int32) (v_newRows : Int32) (v_newOuter : Nat → Int32) (v_newInner : Nat → Int32) (v_newContent : Nat → Int32) (v_now : Nat → Int32) (v_left : Nat → Int32) (v_box : Int32) (v_isCounted : Int32) (v_counted : Int32) (v_given : Nat → Int32) (v_isTermed : Int32) (v_terms : Int32) (v_term : Nat → Int32) (v_shape : Nat → Int32) (v_readBoxes : Int32) (v_readRow : Nat → Int32) (v_readColumn : Nat → Int32) (v_grid : Nat → Int32) (v_often : Nat → Int32) (v_seedNow : Int64) (v_isKept : Int32) (v_keptBoard : Int32) (v_keptKind : Int32) (v_keptRows : Int32) (v_keptSeen : Int32) (v_keptOuter : Nat → Int32) (v_keptInner : Nat → Int32) (v_keptContent : Nat → Int32) (v_keptWhat : Nat → Int32) (v_keptCan : Nat → Int32) (v_h : Int64) (fin : Int32 × (Nat → Int32) × (Nat → Int32) × Int32 × Int32 × Int32) (hf : fX8_numberOf v_kind v_rows v_content v_boxes v_rowOf v_columnOf v_now v_left v_box v_isCounted v_counted v_given = some fin) : Ct l z (dC, dI) (tyL cI cB cE) yX8_numberOf wsX8_numberOf rmX8_numberOf [.ref (a 0)] (wX8 cI cB cE a v_boards v_kind v_rows v_outer v_inner v_content v_boxes v_rowOf v_columnOf v_seen v_seenWhat v_seenCan v_pageLength v_page v_isWhole v_newKind v_newRows v_newOuter v_newInner v_newContent v_now v_left v_box v_isCounted v_counted v_given v_isTermed v_terms v_term v_shape v_readBoxes v_readRow v_readColumn v_grid v_often v_seedNow v_isKept v_keptBoard v_keptKind v_keptRows v_keptSeen v_keptOuter v_keptInner v_keptContent v_keptWhat v_keptCan v_h) (some (.int fin.1)) (wX8 cI cB cE a v_boards v_kind v_rows v_outer v_inner v_content v_boxes v_rowOf v_columnOf v_seen v_seenWhat v_seenCan v_pageLength v_page v_isWhole v_newKind v_newRows v_newOuter v_newInner v_newContent fin.2.1 fin.2.2.1 fin.2.2.2.1 fin.2.2.2.2.1 fin.2.2.2.2.2 v_given v_isTermed v_terms v_term v_shape v_readBoxes v_readRow v_readColumn v_grid v_often v_seedNow v_isKept v_keptBoard v_keptKind v_keptRows v_keptSeen v_keptOuter v_keptInner v_keptContent v_keptWhat v_keptCan v_h) := by
  refine Met.ofC (cc := cX8_numberOf) (maxL := 3) (ret := (some .int)) (by decide) rfl (Nat.le_of_ble_eq_true rfl) ?_
  intro p e s m args below meth c A Q ls hx hb hr hml hts hown hlocks hA hK hP hD hZ hS hQ hl
  have hown : s.vm.findClass RX8 = some m.cls := hown
  have hl : lv_has ls 3 [(0, .ref (a 0))] := hl
  unfold fX8_numberOf at hf
  refine lv_aload_n hx hb dX8_numberOf_0 rfl (lv_at hl 0 rfl) ?_
  obtain ⟨r_1, hr_1, hf⟩ := bd_some hf
  refine cx_runW (cx_V (As := []) (rest := []) ⟨hx, hb, hml, hown, hts⟩ (ctX8_ways l z dC dI cI cB cE a v_boards v_kind v_rows v_outer v_inner v_content v_boxes v_rowOf v_columnOf v_seen v_seenWhat v_seenCan v_pageLength v_page v_isWhole v_newKind v_newRows v_newOuter v_newInner v_newContent v_now v_left v_box v_isCounted v_counted v_given v_isTermed v_terms v_term v_shape v_readBoxes v_readRow v_readColumn v_grid v_often v_seedNow v_isKept v_keptBoard v_keptKind v_keptRows v_keptSeen v_keptOuter v_keptInner v_keptContent v_keptWhat v_keptCan v_h r_1 hr_1) (cwV 0 hts gX8_numberOf_X8_ways rfl rfl rfl (by decide +kernel) ⟨Nat.le_of_ble_eq_true rfl, Nat.le_of_ble_eq_true rfl⟩) hK hP hD hZ hS hA (ci := 8) (q0 := 0) rfl rfl rfl hl.1 rfl (Nat.le_of_ble_eq_true rfl) dX8_numberOf_1) hD hS hA [.int r_1.1] rfl (fun H locs hP hD hS => ?_)
  refine lv_istore_n (lv' := [(1, .int r_1.1), (0, .ref (a 0))]) hx hb dX8_numberOf_4 rfl hl (by decide) rfl (fun ls hl => ?_)
  refine lv_aload_n hx hb dX8_numberOf_5 rfl (lv_at hl 1 rfl) ?_
  obtain ⟨r_2, hr_2, hf⟩ := bd_some hf
  refine cx_runW (cx_V (As := []) (rest := []) ⟨hx, hb, hml, hown, hts⟩ (ctX8_begin l z dC dI cI cB cE a v_boards v_kind v_rows v_outer v_inner v_content v_boxes v_rowOf v_columnOf v_seen v_seenWhat v_seenCan v_pageLength v_page v_isWhole v_newKind v_newRows v_newOuter v_newInner v_newContent r_1.2.1 r_1.2.2.1 r_1.2.2.2.1 r_1.2.2.2.2.1 r_1.2.2.2.2.2 v_given v_isTermed v_terms v_term v_shape v_readBoxes v_readRow v_readColumn v_grid v_often v_seedNow v_isKept v_keptBoard v_keptKind v_keptRows v_keptSeen v_keptOuter v_keptInner v_keptContent v_keptWhat v_keptCan v_h r_2 hr_2) (cwV 0 hts gX8_numberOf_X8_begin rfl rfl rfl (by decide +kernel) ⟨Nat.le_of_ble_eq_true rfl, Nat.le_of_ble_eq_true rfl⟩) hK hP hD hZ hS hA (ci := 8) (q0 := 0) rfl rfl rfl hl.1 rfl (Nat.le_of_ble_eq_true rfl) dX8_numberOf_6) hD hS hA [] rfl (fun H locs hP hD hS => ?_)
  refine lv_iconst (v := 0) hx hb dX8_numberOf_9 (by decide) ?_
  refine lv_istore_n (lv' := [(2, .int 0), (1, .int r_1.1), (0, .ref (a 0))]) hx hb dX8_numberOf_10 rfl hl (by decide) rfl (fun ls hl => ?_)
  have L11 : ∀ (n11 : Nat) (x2_11 : Int32) (v_now_11 : Nat → Int32) (v_left_11 : Nat → Int32) (v_box_11 : Int32), fX8_numberOf_L11 v_kind v_rows v_boxes v_rowOf v_columnOf v_given r_1 n11 x2_11 v_now_11 v_left_11 v_box_11 = some fin → ∀ (H : Heap) (locs : List Loc), va_P (dC, dI) vwCl (wX8 cI cB cE a v_boards v_kind v_rows v_outer v_inner v_content v_boxes v_rowOf v_columnOf v_seen v_seenWhat v_seenCan v_pageLength v_page v_isWhole v_newKind v_newRows v_newOuter v_newInner v_newContent v_now_11 v_left_11 v_box_11 r_1.2.2.2.2.1 r_1.2.2.2.2.2 v_given v_isTermed v_terms v_term v_shape v_readBoxes v_readRow v_readColumn v_grid v_often v_seedNow v_isKept v_keptBoard v_keptKind v_keptRows v_keptSeen v_keptOuter v_keptInner v_keptContent v_keptWhat v_keptCan v_h) H → va_D A (wX8 cI cB cE a v_boards v_kind v_rows v_outer v_inner v_content v_boxes v_rowOf v_columnOf v_seen v_seenWhat v_seenCan v_pageLength v_page v_isWhole v_newKind v_newRows v_newOuter v_newInner v_newContent v_now_11 v_left_11 v_box_11 r_1.2.2.2.2.1 r_1.2.2.2.2.2 v_given v_isTermed v_terms v_term v_shape v_readBoxes v_readRow v_readColumn v_grid v_often v_seedNow v_isKept v_keptBoard v_keptKind v_keptRows v_keptSeen v_keptOuter v_keptInner v_keptContent v_keptWhat v_keptCan v_h) → va_S A s.heap H locs → ∀ (ls : Array Slot), lv_has ls 3 [(0, .ref (a 0)), (1, .int r_1.1), (2, .int x2_11)] → W p l e rmX8_numberOf s m args below meth c H locs 0 0 Q (F0 m 11 ls []) := by
    intro n11
    induction n11 with
    | zero =>
      intro x2_11 v_now_11 v_left_11 v_box_11 hf
      rw [fX8_numberOf_L11] at hf
      cases hf
    | succ n11 ih11 =>
      intro x2_11 v_now_11 v_left_11 v_box_11 hf H locs hP hD hS ls hl
      rw [fX8_numberOf_L11] at hf
      refine lv_iload_n hx hb dX8_numberOf_11 rfl (lv_at hl 2 rfl) ?_
      refine lv_iload_n hx hb dX8_numberOf_12 rfl (lv_at hl 1 rfl) ?_
      refine lv_icmp_ge (tgt := 43) hx hb dX8_numberOf_13 (by decide) (fun c_3 => ?_) (fun c_3 => ?_)
      · rw [if_pos c_3] at hf
        refine lv_iconst (v := (-1)) hx hb dX8_numberOf_43 (by decide) ?_
        have hQ2 := hQ
        rw [← Option.some.inj hf] at hQ2
        exact cx_iret hQ2 hx hb hr hlocks hK hP hD hS dX8_numberOf_44
      · rw [if_neg c_3] at hf
        refine lv_aload_n hx hb dX8_numberOf_16 rfl (lv_at hl 0 rfl) ?_
        refine va_get (D := (dC, dI)) (ci := 8) (C := RX8) (T := TX8) (N := 47) hx hb hts (fun _ h => List.mem_cons_of_mem _ (List.mem_append_right _ h)) hown hK hP 0 rfl rfl 6 (by decide) (hts (.fieldLink RX8 124 "SkewBoardModel" "boxes" "I") (List.mem_of_getElem? (i := 1) rfl)) (fun _ h9 => h9) rfl dX8_numberOf_17 ?_
        have J28 : ∀ (v_now_28 : Nat → Int32) (v_left_28 : Nat → Int32) (v_box_28 : Int32), fX8_numberOf_J28 v_boxes v_given r_1 x2_11 (fX8_numberOf_L11 v_kind v_rows v_boxes v_rowOf v_columnOf v_given r_1 n11) v_now_28 v_left_28 v_box_28 = some fin → ∀ (H : Heap) (locs : List Loc), va_P (dC, dI) vwCl (wX8 cI cB cE a v_boards v_kind v_rows v_outer v_inner v_content v_boxes v_rowOf v_columnOf v_seen v_seenWhat v_seenCan v_pageLength v_page v_isWhole v_newKind v_newRows v_newOuter v_newInner v_newContent v_now_28 v_left_28 v_box_28 r_1.2.2.2.2.1 r_1.2.2.2.2.2 v_given v_isTermed v_terms v_term v_shape v_readBoxes v_readRow v_readColumn v_grid v_often v_seedNow v_isKept v_keptBoard v_keptKind v_keptRows v_keptSeen v_keptOuter v_keptInner v_keptContent v_keptWhat v_keptCan v_h) H → va_D A (wX8 cI cB cE a v_boards v_kind v_rows v_outer v_inner v_content v_boxes v_rowOf v_columnOf v_seen v_seenWhat v_seenCan v_pageLength v_page v_isWhole v_newKind v_newRows v_newOuter v_newInner v_newContent v_now_28 v_left_28 v_box_28 r_1.2.2.2.2.1 r_1.2.2.2.2.2 v_given v_isTermed v_terms v_term v_shape v_readBoxes v_readRow v_readColumn v_grid v_often v_seedNow v_isKept v_keptBoard v_keptKind v_keptRows v_keptSeen v_keptOuter v_keptInner v_keptContent v_keptWhat v_keptCan v_h) → va_S A s.heap H locs → ∀ (ls : Array Slot), lv_has ls 3 [(0, .ref (a 0)), (1, .int r_1.1), (2, .int x2_11)] → W p l e rmX8_numberOf s m args below meth c H locs 0 0 Q (F0 m 28 ls []) := by
          intro v_now_28 v_left_28 v_box_28 hf H locs hP hD hS ls hl
          unfold fX8_numberOf_J28 at hf
          refine lv_aload_n hx hb dX8_numberOf_28 rfl (lv_at hl 0 rfl) ?_
          obtain ⟨r_4, hr_4, hf⟩ := bd_some hf
          refine cx_runW (cx_V (As := []) (rest := []) ⟨hx, hb, hml, hown, hts⟩ (ctX8_isGiven l z dC dI cI cB cE a v_boards v_kind v_rows v_outer v_inner v_content v_boxes v_rowOf v_columnOf v_seen v_seenWhat v_seenCan v_pageLength v_page v_isWhole v_newKind v_newRows v_newOuter v_newInner v_newContent v_now_28 v_left_28 v_box_28 r_1.2.2.2.2.1 r_1.2.2.2.2.2 v_given v_isTermed v_terms v_term v_shape v_readBoxes v_readRow v_readColumn v_grid v_often v_seedNow v_isKept v_keptBoard v_keptKind v_keptRows v_keptSeen v_keptOuter v_keptInner v_keptContent v_keptWhat v_keptCan v_h r_4 hr_4) (cwV 0 hts gX8_numberOf_X8_isGiven rfl rfl rfl (by decide +kernel) ⟨Nat.le_of_ble_eq_true rfl, Nat.le_of_ble_eq_true rfl⟩) hK hP hD hZ hS hA (ci := 8) (q0 := 0) rfl rfl rfl hl.1 rfl (Nat.le_of_ble_eq_true rfl) dX8_numberOf_29) hD hS hA [.int r_4] rfl (fun H locs hP hD hS => ?_)
          refine lv_if_eq (tgt := 37) hx hb dX8_numberOf_32 (by decide) (fun c_5 => ?_) (fun c_5 => ?_)
          · rw [if_pos c_5] at hf
            refine lv_iinc (v := (x2_11 + 1)) (lv' := [(2, .int (x2_11 + 1)), (0, .ref (a 0)), (1, .int r_1.1)]) hx hb dX8_numberOf_37 hl (k := 2) rfl rfl (by decide) rfl (fun ls hl => ?_)
            refine lv_goto (tgt := 11) hx hb dX8_numberOf_40 (by decide) ?_
            exact ih11 (x2_11 + 1) v_now_28 v_left_28 v_box_28 hf _ _ hP hD hS ls (lv_sub hl [1, 2, 0] rfl)
          · rw [if_neg c_5] at hf
            refine lv_iload_n hx hb dX8_numberOf_35 rfl (lv_at hl 2 rfl) ?_
            have hQ2 := hQ
            rw [← Option.some.inj hf] at hQ2
            exact cx_iret hQ2 hx hb hr hlocks hK hP hD hS dX8_numberOf_36
        refine lv_if_le (tgt := 28) hx hb dX8_numberOf_20 (by decide) (fun c_6 => ?_) (fun c_6 => ?_)
        · rw [if_pos c_6] at hf
          exact J28 v_now_11 v_left_11 v_box_11 hf _ _ hP hD hS ls (lv_sub hl [0, 1, 2] rfl)
        · rw [if_neg c_6] at hf
          refine lv_aload_n hx hb dX8_numberOf_23 rfl (lv_at hl 0 rfl) ?_
          obtain ⟨r_7, hr_7, hf⟩ := bd_some hf
          refine cx_runW (cx_V (As := []) (rest := []) ⟨hx, hb, hml, hown, hts⟩ (ctX8_next l z dC dI cI cB cE a v_boards v_kind v_rows v_outer v_inner v_content v_boxes v_rowOf v_columnOf v_seen v_seenWhat v_seenCan v_pageLength v_page v_isWhole v_newKind v_newRows v_newOuter v_newInner v_newContent v_now_11 v_left_11 v_box_11 r_1.2.2.2.2.1 r_1.2.2.2.2.2 v_given v_isTermed v_terms v_term v_shape v_readBoxes v_readRow v_readColumn v_grid v_often v_seedNow v_isKept v_keptBoard v_keptKind v_keptRows v_keptSeen v_keptOuter v_keptInner v_keptContent v_keptWhat v_keptCan v_h r_7 hr_7) (cwV 0 hts gX8_numberOf_X8_next rfl rfl rfl (by decide +kernel) ⟨Nat.le_of_ble_eq_true rfl, Nat.le_of_ble_eq_true rfl⟩) hK hP hD hZ hS hA (ci := 8) (q0 := 0) rfl rfl rfl hl.1 rfl (Nat.le_of_ble_eq_true rfl) dX8_numberOf_24) hD hS hA [.int r_7.1] rfl (fun H locs hP hD hS => ?_)
          refine lv_pop hx hb dX8_numberOf_27 rfl ?_
          exact J28 r_7.2.1 r_7.2.2.1 r_7.2.2.2 hf _ _ hP hD hS ls (lv_sub hl [0, 1, 2] rfl)
  exact L11 fu 0 r_2.1 r_2.2.1 r_2.2.2 hf _ _ hP hD hS ls (lv_sub hl [2, 1, 0] rfl)

def fX8_filling_J71 (v_kind : Int32) (v_rows : Int32) (v_content : Nat → Int32) (v_boxes : Int32) (v_rowOf : Nat → Int32) (v_columnOf : Nat → Int32) (v_pageLength : Int32) (v_now : Nat → Int32) (v_left : Nat → Int32) (v_box : Int32) (v_isCounted : Int32) (v_counted : Int32) (x1_71 : Int32) (v_given_71 : Nat → Int32) : Option (Int32 × Int32 × (Nat → Int32) × (Nat → Int32) × Int32 × Int32 × Int32 × (Nat → Int32)) :=
    if x1_71 = 0 then (some ((-103), v_pageLength, v_now, v_left, v_box, v_isCounted, v_counted, v_given_71)) else (bd (fX8_numberOf v_kind v_rows v_content v_boxes v_rowOf v_columnOf v_now v_left v_box v_isCounted v_counted v_given_71) (fun r_3 => some (r_3.1, 0, r_3.2.1, r_3.2.2.1, r_3.2.2.2.1, r_3.2.2.2.2.1, r_3.2.2.2.2.2, v_given_71)))
def fX8_filling_L26 (v_boxes : Int32) (v_page : Nat → Int32) (k71 : Int32 → (Nat → Int32) → Option (Int32 × Int32 × (Nat → Int32) × (Nat → Int32) × Int32 × Int32 × Int32 × (Nat → Int32))) : Nat → Int32 → Int32 → (Nat → Int32) → Option (Int32 × Int32 × (Nat → Int32) × (Nat → Int32) × Int32 × Int32 × Int32 × (Nat → Int32))
  | 0, _, _, _ => none
  | n + 1, x1_26, x2_26, v_given_26 =>
    if v_boxes ≤ x2_26 then (k71 x1_26 v_given_26) else (if x1_26 = 0 then (k71 x1_26 v_given_26) else (gd (inb x2_26 20) (gd (inb x2_26 9) (bd (fX8_within ((upd v_given_26 x2_26.toNatClampNeg ((v_page x2_26.toNatClampNeg) - 48)) x2_26.toNatClampNeg) 1 4) (fun r_8 => fX8_filling_L26 v_boxes v_page k71 n r_8 (x2_26 + 1) (upd v_given_26 x2_26.toNatClampNeg ((v_page x2_26.toNatClampNeg) - 48)))))))
def fX8_filling_J23 (v_kind : Int32) (v_rows : Int32) (v_content : Nat → Int32) (v_boxes : Int32) (v_rowOf : Nat → Int32) (v_columnOf : Nat → Int32) (v_pageLength : Int32) (v_page : Nat → Int32) (v_now : Nat → Int32) (v_left : Nat → Int32) (v_box : Int32) (v_isCounted : Int32) (v_counted : Int32) (v_given : Nat → Int32) (y0_23 : Int32) : Option (Int32 × Int32 × (Nat → Int32) × (Nat → Int32) × Int32 × Int32 × Int32 × (Nat → Int32)) :=
    fX8_filling_L26 v_boxes v_page (fX8_filling_J71 v_kind v_rows v_content v_boxes v_rowOf v_columnOf v_pageLength v_now v_left v_box v_isCounted v_counted) fu y0_23 0 v_given
def fX8_filling_J22 (k23 : Int32 → Option (Int32 × Int32 × (Nat → Int32) × (Nat → Int32) × Int32 × Int32 × Int32 × (Nat → Int32))) (u_22 : Unit) : Option (Int32 × Int32 × (Nat → Int32) × (Nat → Int32) × Int32 × Int32 × Int32 × (Nat → Int32)) :=
    k23 0
def fX8_filling (v_kind : Int32) (v_rows : Int32) (v_content : Nat → Int32) (v_boxes : Int32) (v_rowOf : Nat → Int32) (v_columnOf : Nat → Int32) (v_pageLength : Int32) (v_page : Nat → Int32) (v_now : Nat → Int32) (v_left : Nat → Int32) (v_box : Int32) (v_isCounted : Int32) (v_counted : Int32) (v_given : Nat → Int32) : Option (Int32 × Int32 × (Nat → Int32) × (Nat → Int32) × Int32 × Int32 × Int32 × (Nat → Int32)) :=
  bd (fX8_isBoard v_rows) (fun r_1 => if r_1 = 0 then (fX8_filling_J22 (fX8_filling_J23 v_kind v_rows v_content v_boxes v_rowOf v_columnOf v_pageLength v_page v_now v_left v_box v_isCounted v_counted v_given) ()) else (if v_pageLength = v_boxes then (fX8_filling_J23 v_kind v_rows v_content v_boxes v_rowOf v_columnOf v_pageLength v_page v_now v_left v_box v_isCounted v_counted v_given 1) else (fX8_filling_J22 (fX8_filling_J23 v_kind v_rows v_content v_boxes v_rowOf v_columnOf v_pageLength v_page v_now v_left v_box v_isCounted v_counted v_given) ())))
def rmX8_filling : Room := { frames := 6, cells := 0, slots := 0, locals := 127 }
set_option maxRecDepth 100000 in
set_option maxHeartbeats 4000000 in
theorem ctX8_filling (l : Launch) (z : Nat × Nat × Nat) (dC : Nat → ClassId) (dI : Nat → Nat → Nat) (cI cB cE : ClassId) (a : Nat → Nat) (v_boards : Int32) (v_kind : Int32) (v_rows : Int32) (v_outer : Nat → Int32) (v_inner : Nat → Int32) (v_content : Nat → Int32) (v_boxes : Int32) (v_rowOf : Nat → Int32) (v_columnOf : Nat → Int32) (v_seen : Int32) (v_seenWhat : Nat → Int32) (v_seenCan : Nat → Int32) (v_pageLength : Int32) (v_page : Nat → Int32) (v_isWhole : Int32) (v_newKind : Int32) (v_newRows : Int32) (v_newOuter : Nat → Int32) (v_newInner : Nat → Int32) (v_newContent : Nat → Int32) (v_now : Nat → Int32) (v_left : Nat → Int32) (v_box : Int32) (v_isCounted : Int32) (v_counted : Int32) (v_given : Nat → Int32) (v_isTermed : Int32) (v_terms : Int32) (v_term : Nat → Int32) (v_shape : Nat → Int32) (v_readBoxes : Int32) (v_readRow : Nat → Int32) (v_readColumn : Nat → Int32) (v_grid : Nat → Int32) (v_often : Nat → Int32) (v_seedNow : Int64) (v_isKept : Int32) (v_keptBoard : Int32) (v_keptKind : Int32) (v_keptRows : Int32) (v_keptSeen : Int32) (v_keptOuter : Nat → Int32) (v_keptInner : Nat → Int32) (v_keptContent : Nat → Int32) (v_keptWhat : Nat → Int32) (v_keptCan : Nat → Int32) (v_h : Int64) (fin : Int32 × Int32 × (Nat → Int32) × (Nat → Int32) × Int32 × Int32 × Int32 × (Nat → Int32)) (hf : fX8_filling v_kind v_rows v_content v_boxes v_rowOf v_columnOf v_pageLength v_page v_now v_left v_box v_isCounted v_counted v_given = some fin) : Ct l z (dC, dI) (tyL cI cB cE) yX8_filling wsX8_filling rmX8_filling [.ref (a 0)] (wX8 cI cB cE a v_boards v_kind v_rows v_outer v_inner v_content v_boxes v_rowOf v_columnOf v_seen v_seenWhat v_seenCan v_pageLength v_page v_isWhole v_newKind v_newRows v_newOuter v_newInner v_newContent v_now v_left v_box v_isCounted v_counted v_given v_isTermed v_terms v_term v_shape v_readBoxes v_readRow v_readColumn v_grid v_often v_seedNow v_isKept v_keptBoard v_keptKind v_keptRows v_keptSeen v_keptOuter v_keptInner v_keptContent v_keptWhat v_keptCan v_h) (some (.int fin.1)) (wX8 cI cB cE a v_boards v_kind v_rows v_outer v_inner v_content v_boxes v_rowOf v_columnOf v_seen v_seenWhat v_seenCan fin.2.1 v_page v_isWhole v_newKind v_newRows v_newOuter v_newInner v_newContent fin.2.2.1 fin.2.2.2.1 fin.2.2.2.2.1 fin.2.2.2.2.2.1 fin.2.2.2.2.2.2.1 fin.2.2.2.2.2.2.2 v_isTermed v_terms v_term v_shape v_readBoxes v_readRow v_readColumn v_grid v_often v_seedNow v_isKept v_keptBoard v_keptKind v_keptRows v_keptSeen v_keptOuter v_keptInner v_keptContent v_keptWhat v_keptCan v_h) := by
  refine Met.ofC (cc := cX8_filling) (maxL := 3) (ret := (some .int)) (by decide) rfl (Nat.le_of_ble_eq_true rfl) ?_
  intro p e s m args below meth c A Q ls hx hb hr hml hts hown hlocks hA hK hP hD hZ hS hQ hl
  have hown : s.vm.findClass RX8 = some m.cls := hown
  have hl : lv_has ls 3 [(0, .ref (a 0))] := hl
  unfold fX8_filling at hf
  refine lv_aload_n hx hb dX8_filling_0 rfl (lv_at hl 0 rfl) ?_
  obtain ⟨r_1, hr_1, hf⟩ := bd_some hf
  refine cx_runW (cx_V (As := []) (rest := []) ⟨hx, hb, hml, hown, hts⟩ (ctX8_isBoard l z dC dI cI cB cE a v_boards v_kind v_rows v_outer v_inner v_content v_boxes v_rowOf v_columnOf v_seen v_seenWhat v_seenCan v_pageLength v_page v_isWhole v_newKind v_newRows v_newOuter v_newInner v_newContent v_now v_left v_box v_isCounted v_counted v_given v_isTermed v_terms v_term v_shape v_readBoxes v_readRow v_readColumn v_grid v_often v_seedNow v_isKept v_keptBoard v_keptKind v_keptRows v_keptSeen v_keptOuter v_keptInner v_keptContent v_keptWhat v_keptCan v_h r_1 hr_1) (cwV 0 hts gX8_filling_X8_isBoard rfl rfl rfl (by decide +kernel) ⟨Nat.le_of_ble_eq_true rfl, Nat.le_of_ble_eq_true rfl⟩) hK hP hD hZ hS hA (ci := 8) (q0 := 0) rfl rfl rfl hl.1 rfl (Nat.le_of_ble_eq_true rfl) dX8_filling_1) hD hS hA [.int r_1] rfl (fun H locs hP hD hS => ?_)
  have J23 : ∀ (y0_23 : Int32), fX8_filling_J23 v_kind v_rows v_content v_boxes v_rowOf v_columnOf v_pageLength v_page v_now v_left v_box v_isCounted v_counted v_given y0_23 = some fin → ∀ (H : Heap) (locs : List Loc), va_P (dC, dI) vwCl (wX8 cI cB cE a v_boards v_kind v_rows v_outer v_inner v_content v_boxes v_rowOf v_columnOf v_seen v_seenWhat v_seenCan v_pageLength v_page v_isWhole v_newKind v_newRows v_newOuter v_newInner v_newContent v_now v_left v_box v_isCounted v_counted v_given v_isTermed v_terms v_term v_shape v_readBoxes v_readRow v_readColumn v_grid v_often v_seedNow v_isKept v_keptBoard v_keptKind v_keptRows v_keptSeen v_keptOuter v_keptInner v_keptContent v_keptWhat v_keptCan v_h) H → va_D A (wX8 cI cB cE a v_boards v_kind v_rows v_outer v_inner v_content v_boxes v_rowOf v_columnOf v_seen v_seenWhat v_seenCan v_pageLength v_page v_isWhole v_newKind v_newRows v_newOuter v_newInner v_newContent v_now v_left v_box v_isCounted v_counted v_given v_isTermed v_terms v_term v_shape v_readBoxes v_readRow v_readColumn v_grid v_often v_seedNow v_isKept v_keptBoard v_keptKind v_keptRows v_keptSeen v_keptOuter v_keptInner v_keptContent v_keptWhat v_keptCan v_h) → va_S A s.heap H locs → ∀ (ls : Array Slot), lv_has ls 3 [(0, .ref (a 0))] → W p l e rmX8_filling s m args below meth c H locs 0 0 Q (F0 m 23 ls [.int y0_23]) := by
    intro y0_23 hf H locs hP hD hS ls hl
    unfold fX8_filling_J23 at hf
    refine lv_istore_n (lv' := [(1, .int y0_23), (0, .ref (a 0))]) hx hb dX8_filling_23 rfl hl (by decide) rfl (fun ls hl => ?_)
    refine lv_iconst (v := 0) hx hb dX8_filling_24 (by decide) ?_
    refine lv_istore_n (lv' := [(2, .int 0), (1, .int y0_23), (0, .ref (a 0))]) hx hb dX8_filling_25 rfl hl (by decide) rfl (fun ls hl => ?_)
    have J71 : ∀ (x1_71 : Int32) (v_given_71 : Nat → Int32), fX8_filling_J71 v_kind v_rows v_content v_boxes v_rowOf v_columnOf v_pageLength v_now v_left v_box v_isCounted v_counted x1_71 v_given_71 = some fin → ∀ (H : Heap) (locs : List Loc), va_P (dC, dI) vwCl (wX8 cI cB cE a v_boards v_kind v_rows v_outer v_inner v_content v_boxes v_rowOf v_columnOf v_seen v_seenWhat v_seenCan v_pageLength v_page v_isWhole v_newKind v_newRows v_newOuter v_newInner v_newContent v_now v_left v_box v_isCounted v_counted v_given_71 v_isTermed v_terms v_term v_shape v_readBoxes v_readRow v_readColumn v_grid v_often v_seedNow v_isKept v_keptBoard v_keptKind v_keptRows v_keptSeen v_keptOuter v_keptInner v_keptContent v_keptWhat v_keptCan v_h) H → va_D A (wX8 cI cB cE a v_boards v_kind v_rows v_outer v_inner v_content v_boxes v_rowOf v_columnOf v_seen v_seenWhat v_seenCan v_pageLength v_page v_isWhole v_newKind v_newRows v_newOuter v_newInner v_newContent v_now v_left v_box v_isCounted v_counted v_given_71 v_isTermed v_terms v_term v_shape v_readBoxes v_readRow v_readColumn v_grid v_often v_seedNow v_isKept v_keptBoard v_keptKind v_keptRows v_keptSeen v_keptOuter v_keptInner v_keptContent v_keptWhat v_keptCan v_h) → va_S A s.heap H locs → ∀ (ls : Array Slot), lv_has ls 3 [(0, .ref (a 0)), (1, .int x1_71)] → W p l e rmX8_filling s m args below meth c H locs 0 0 Q (F0 m 71 ls []) := by
      intro x1_71 v_given_71 hf H locs hP hD hS ls hl
      unfold fX8_filling_J71 at hf
      refine lv_iload_n hx hb dX8_filling_71 rfl (lv_at hl 1 rfl) ?_
      refine lv_if_ne (tgt := 78) hx hb dX8_filling_72 (by decide) (fun c_2 => ?_) (fun c_2 => ?_)
      · rw [if_neg c_2] at hf
        refine lv_aload_n hx hb dX8_filling_78 rfl (lv_at hl 0 rfl) ?_
        refine lv_iconst (v := 0) hx hb dX8_filling_79 (by decide) ?_
        refine va_put (D := (dC, dI)) (ci := 8) (v := .int 0) (ty := .int) (C := RX8) (T := TX8) (N := 47) hx hb hts (fun _ h => List.mem_cons_of_mem _ (List.mem_append_right _ h)) tyX8 tyX8_ok nmX8 hown hK hP hD hS 0 rfl rfl 12 (by decide) (hts (.fieldLink RX8 90 "SkewBoardModel" "pageLength" "I") (List.mem_of_getElem? (i := 1) rfl)) (fun _ h9 => h9) rfl (by decide +kernel) rfl rfl (Nat.le_of_ble_eq_true rfl) dX8_filling_80 (fun H locs hP hD hS => ?_)
        have hP : va_P (dC, dI) vwCl (wX8 cI cB cE a v_boards v_kind v_rows v_outer v_inner v_content v_boxes v_rowOf v_columnOf v_seen v_seenWhat v_seenCan 0 v_page v_isWhole v_newKind v_newRows v_newOuter v_newInner v_newContent v_now v_left v_box v_isCounted v_counted v_given_71 v_isTermed v_terms v_term v_shape v_readBoxes v_readRow v_readColumn v_grid v_often v_seedNow v_isKept v_keptBoard v_keptKind v_keptRows v_keptSeen v_keptOuter v_keptInner v_keptContent v_keptWhat v_keptCan v_h) H := hP
        have hD : va_D A (wX8 cI cB cE a v_boards v_kind v_rows v_outer v_inner v_content v_boxes v_rowOf v_columnOf v_seen v_seenWhat v_seenCan 0 v_page v_isWhole v_newKind v_newRows v_newOuter v_newInner v_newContent v_now v_left v_box v_isCounted v_counted v_given_71 v_isTermed v_terms v_term v_shape v_readBoxes v_readRow v_readColumn v_grid v_often v_seedNow v_isKept v_keptBoard v_keptKind v_keptRows v_keptSeen v_keptOuter v_keptInner v_keptContent v_keptWhat v_keptCan v_h) := hD
        refine lv_aload_n hx hb dX8_filling_83 rfl (lv_at hl 0 rfl) ?_
        obtain ⟨r_3, hr_3, hf⟩ := bd_some hf
        refine cx_runW (cx_V (As := []) (rest := []) ⟨hx, hb, hml, hown, hts⟩ (ctX8_numberOf l z dC dI cI cB cE a v_boards v_kind v_rows v_outer v_inner v_content v_boxes v_rowOf v_columnOf v_seen v_seenWhat v_seenCan 0 v_page v_isWhole v_newKind v_newRows v_newOuter v_newInner v_newContent v_now v_left v_box v_isCounted v_counted v_given_71 v_isTermed v_terms v_term v_shape v_readBoxes v_readRow v_readColumn v_grid v_often v_seedNow v_isKept v_keptBoard v_keptKind v_keptRows v_keptSeen v_keptOuter v_keptInner v_keptContent v_keptWhat v_keptCan v_h r_3 hr_3) (cwV 0 hts gX8_filling_X8_numberOf rfl rfl rfl (by decide +kernel) ⟨Nat.le_of_ble_eq_true rfl, Nat.le_of_ble_eq_true rfl⟩) hK hP hD hZ hS hA (ci := 8) (q0 := 0) rfl rfl rfl hl.1 rfl (Nat.le_of_ble_eq_true rfl) dX8_filling_84) hD hS hA [.int r_3.1] rfl (fun H locs hP hD hS => ?_)
        have hQ2 := hQ
        rw [← Option.some.inj hf] at hQ2
        exact cx_iret hQ2 hx hb hr hlocks hK hP hD hS dX8_filling_87
      · rw [if_pos c_2] at hf
        refine lv_bipush (v := (-103)) hx hb dX8_filling_75 (by decide) ?_
        have hQ2 := hQ
        rw [← Option.some.inj hf] at hQ2
        exact cx_iret hQ2 hx hb hr hlocks hK hP hD hS dX8_filling_77
    have L26 : ∀ (n26 : Nat) (x1_26 : Int32) (x2_26 : Int32) (v_given_26 : Nat → Int32), fX8_filling_L26 v_boxes v_page (fX8_filling_J71 v_kind v_rows v_content v_boxes v_rowOf v_columnOf v_pageLength v_now v_left v_box v_isCounted v_counted) n26 x1_26 x2_26 v_given_26 = some fin → ∀ (H : Heap) (locs : List Loc), va_P (dC, dI) vwCl (wX8 cI cB cE a v_boards v_kind v_rows v_outer v_inner v_content v_boxes v_rowOf v_columnOf v_seen v_seenWhat v_seenCan v_pageLength v_page v_isWhole v_newKind v_newRows v_newOuter v_newInner v_newContent v_now v_left v_box v_isCounted v_counted v_given_26 v_isTermed v_terms v_term v_shape v_readBoxes v_readRow v_readColumn v_grid v_often v_seedNow v_isKept v_keptBoard v_keptKind v_keptRows v_keptSeen v_keptOuter v_keptInner v_keptContent v_keptWhat v_keptCan v_h) H → va_D A (wX8 cI cB cE a v_boards v_kind v_rows v_outer v_inner v_content v_boxes v_rowOf v_columnOf v_seen v_seenWhat v_seenCan v_pageLength v_page v_isWhole v_newKind v_newRows v_newOuter v_newInner v_newContent v_now v_left v_box v_isCounted v_counted v_given_26 v_isTermed v_terms v_term v_shape v_readBoxes v_readRow v_readColumn v_grid v_often v_seedNow v_isKept v_keptBoard v_keptKind v_keptRows v_keptSeen v_keptOuter v_keptInner v_keptContent v_keptWhat v_keptCan v_h) → va_S A s.heap H locs → ∀ (ls : Array Slot), lv_has ls 3 [(0, .ref (a 0)), (1, .int x1_26), (2, .int x2_26)] → W p l e rmX8_filling s m args below meth c H locs 0 0 Q (F0 m 26 ls []) := by
      intro n26
      induction n26 with
      | zero =>
        intro x1_26 x2_26 v_given_26 hf
        rw [fX8_filling_L26] at hf
        cases hf
      | succ n26 ih26 =>
        intro x1_26 x2_26 v_given_26 hf H locs hP hD hS ls hl
        rw [fX8_filling_L26] at hf
        refine lv_iload_n hx hb dX8_filling_26 rfl (lv_at hl 2 rfl) ?_
        refine lv_aload_n hx hb dX8_filling_27 rfl (lv_at hl 0 rfl) ?_
        refine va_get (D := (dC, dI)) (ci := 8) (C := RX8) (T := TX8) (N := 47) hx hb hts (fun _ h => List.mem_cons_of_mem _ (List.mem_append_right _ h)) hown hK hP 0 rfl rfl 6 (by decide) (hts (.fieldLink RX8 124 "SkewBoardModel" "boxes" "I") (List.mem_of_getElem? (i := 2) rfl)) (fun _ h9 => h9) rfl dX8_filling_28 ?_
        refine lv_icmp_ge (tgt := 71) hx hb dX8_filling_31 (by decide) (fun c_4 => ?_) (fun c_4 => ?_)
        · rw [if_pos c_4] at hf
          exact J71 x1_26 v_given_26 hf _ _ hP hD hS ls (lv_sub hl [0, 1] rfl)
        · rw [if_neg c_4] at hf
          refine lv_iload_n hx hb dX8_filling_34 rfl (lv_at hl 1 rfl) ?_
          refine lv_if_eq (tgt := 71) hx hb dX8_filling_35 (by decide) (fun c_5 => ?_) (fun c_5 => ?_)
          · rw [if_pos c_5] at hf
            exact J71 x1_26 v_given_26 hf _ _ hP hD hS ls (lv_sub hl [0, 1] rfl)
          · rw [if_neg c_5] at hf
            refine lv_aload_n hx hb dX8_filling_38 rfl (lv_at hl 0 rfl) ?_
            refine va_get (D := (dC, dI)) (ci := 8) (C := RX8) (T := TX8) (N := 47) hx hb hts (fun _ h => List.mem_cons_of_mem _ (List.mem_append_right _ h)) hown hK hP 0 rfl rfl 25 (by decide) (hts (.fieldLink RX8 50 "SkewBoardModel" "given" "[I") (List.mem_of_getElem? (i := 3) rfl)) (fun _ h9 => h9) rfl dX8_filling_39 ?_
            refine lv_iload_n hx hb dX8_filling_42 rfl (lv_at hl 2 rfl) ?_
            refine lv_aload_n hx hb dX8_filling_43 rfl (lv_at hl 0 rfl) ?_
            refine va_get (D := (dC, dI)) (ci := 8) (C := RX8) (T := TX8) (N := 47) hx hb hts (fun _ h => List.mem_cons_of_mem _ (List.mem_append_right _ h)) hown hK hP 0 rfl rfl 13 (by decide) (hts (.fieldLink RX8 31 "SkewBoardModel" "page" "[B") (List.mem_of_getElem? (i := 4) rfl)) (fun _ h9 => h9) rfl dX8_filling_44 ?_
            refine lv_iload_n hx hb dX8_filling_47 rfl (lv_at hl 2 rfl) ?_
            obtain ⟨g_6, hf⟩ := gd_some hf
            refine va_bald hx hb hK hP 8 1 rfl rfl (inb_vp g_6) dX8_filling_48 ?_
            refine lv_bipush (v := 48) hx hb dX8_filling_49 (by decide) ?_
            refine lv_isub hx hb dX8_filling_51 ?_
            obtain ⟨g_7, hf⟩ := gd_some hf
            refine va_iast hx hb hK hP hD hS 14 0 rfl rfl (inb_vp g_7) dX8_filling_52 (fun H locs hP hD hS => ?_)
            have hP : va_P (dC, dI) vwCl (wX8 cI cB cE a v_boards v_kind v_rows v_outer v_inner v_content v_boxes v_rowOf v_columnOf v_seen v_seenWhat v_seenCan v_pageLength v_page v_isWhole v_newKind v_newRows v_newOuter v_newInner v_newContent v_now v_left v_box v_isCounted v_counted (upd v_given_26 x2_26.toNatClampNeg ((v_page x2_26.toNatClampNeg) - 48)) v_isTermed v_terms v_term v_shape v_readBoxes v_readRow v_readColumn v_grid v_often v_seedNow v_isKept v_keptBoard v_keptKind v_keptRows v_keptSeen v_keptOuter v_keptInner v_keptContent v_keptWhat v_keptCan v_h) H := hP
            have hD : va_D A (wX8 cI cB cE a v_boards v_kind v_rows v_outer v_inner v_content v_boxes v_rowOf v_columnOf v_seen v_seenWhat v_seenCan v_pageLength v_page v_isWhole v_newKind v_newRows v_newOuter v_newInner v_newContent v_now v_left v_box v_isCounted v_counted (upd v_given_26 x2_26.toNatClampNeg ((v_page x2_26.toNatClampNeg) - 48)) v_isTermed v_terms v_term v_shape v_readBoxes v_readRow v_readColumn v_grid v_often v_seedNow v_isKept v_keptBoard v_keptKind v_keptRows v_keptSeen v_keptOuter v_keptInner v_keptContent v_keptWhat v_keptCan v_h) := hD
            refine lv_aload_n hx hb dX8_filling_53 rfl (lv_at hl 0 rfl) ?_
            refine va_get (D := (dC, dI)) (ci := 8) (C := RX8) (T := TX8) (N := 47) hx hb hts (fun _ h => List.mem_cons_of_mem _ (List.mem_append_right _ h)) hown hK hP 0 rfl rfl 25 (by decide) (hts (.fieldLink RX8 50 "SkewBoardModel" "given" "[I") (List.mem_of_getElem? (i := 3) rfl)) (fun _ h9 => h9) rfl dX8_filling_54 ?_
            refine lv_iload_n hx hb dX8_filling_57 rfl (lv_at hl 2 rfl) ?_
            refine va_iald hx hb hK hP 14 0 rfl rfl (inb_vp g_7) dX8_filling_58 ?_
            refine lv_iconst (v := 1) hx hb dX8_filling_59 (by decide) ?_
            refine lv_iconst (v := 4) hx hb dX8_filling_60 (by decide) ?_
            obtain ⟨r_8, hr_8, hf⟩ := bd_some hf
            refine cx_run0 (cx_S (A := A) (As := [.int ((upd v_given_26 x2_26.toNatClampNeg ((v_page x2_26.toNatClampNeg) - 48)) x2_26.toNatClampNeg), .int 1, .int 4]) (rest := []) ⟨hx, hb, hml, hown, hts⟩ (ctX8_within l z dC dI cI cB cE ((upd v_given_26 x2_26.toNatClampNeg ((v_page x2_26.toNatClampNeg) - 48)) x2_26.toNatClampNeg) 1 4 r_8 hr_8) (va_cwS 3 hts gX8_filling_X8_within rfl rfl rfl (by decide +kernel) ⟨Nat.le_of_ble_eq_true rfl, Nat.le_of_ble_eq_true rfl⟩) hK vaP0 vaD0 hZ hS hA rfl hl.1 rfl (Nat.le_of_ble_eq_true rfl) dX8_filling_61) hP hS hA [.int r_8] rfl (fun H locs hP hS => ?_)
            refine lv_istore_n (lv' := [(1, .int r_8), (0, .ref (a 0)), (2, .int x2_26)]) hx hb dX8_filling_64 rfl hl (by decide) rfl (fun ls hl => ?_)
            refine lv_iinc (v := (x2_26 + 1)) (lv' := [(2, .int (x2_26 + 1)), (1, .int r_8), (0, .ref (a 0))]) hx hb dX8_filling_65 hl (k := 2) rfl rfl (by decide) rfl (fun ls hl => ?_)
            refine lv_goto (tgt := 26) hx hb dX8_filling_68 (by decide) ?_
            exact ih26 r_8 (x2_26 + 1) (upd v_given_26 x2_26.toNatClampNeg ((v_page x2_26.toNatClampNeg) - 48)) hf _ _ hP hD hS ls (lv_sub hl [2, 1, 0] rfl)
    exact L26 fu y0_23 0 v_given hf _ _ hP hD hS ls (lv_sub hl [2, 1, 0] rfl)
  have J22 : ∀ (u_22 : Unit), fX8_filling_J22 (fX8_filling_J23 v_kind v_rows v_content v_boxes v_rowOf v_columnOf v_pageLength v_page v_now v_left v_box v_isCounted v_counted v_given) u_22 = some fin → ∀ (H : Heap) (locs : List Loc), va_P (dC, dI) vwCl (wX8 cI cB cE a v_boards v_kind v_rows v_outer v_inner v_content v_boxes v_rowOf v_columnOf v_seen v_seenWhat v_seenCan v_pageLength v_page v_isWhole v_newKind v_newRows v_newOuter v_newInner v_newContent v_now v_left v_box v_isCounted v_counted v_given v_isTermed v_terms v_term v_shape v_readBoxes v_readRow v_readColumn v_grid v_often v_seedNow v_isKept v_keptBoard v_keptKind v_keptRows v_keptSeen v_keptOuter v_keptInner v_keptContent v_keptWhat v_keptCan v_h) H → va_D A (wX8 cI cB cE a v_boards v_kind v_rows v_outer v_inner v_content v_boxes v_rowOf v_columnOf v_seen v_seenWhat v_seenCan v_pageLength v_page v_isWhole v_newKind v_newRows v_newOuter v_newInner v_newContent v_now v_left v_box v_isCounted v_counted v_given v_isTermed v_terms v_term v_shape v_readBoxes v_readRow v_readColumn v_grid v_often v_seedNow v_isKept v_keptBoard v_keptKind v_keptRows v_keptSeen v_keptOuter v_keptInner v_keptContent v_keptWhat v_keptCan v_h) → va_S A s.heap H locs → ∀ (ls : Array Slot), lv_has ls 3 [(0, .ref (a 0))] → W p l e rmX8_filling s m args below meth c H locs 0 0 Q (F0 m 22 ls []) := by
    intro u_22 hf H locs hP hD hS ls hl
    unfold fX8_filling_J22 at hf
    refine lv_iconst (v := 0) hx hb dX8_filling_22 (by decide) ?_
    exact J23 0 hf _ _ hP hD hS ls (lv_sub hl [0] rfl)
  refine lv_if_eq (tgt := 22) hx hb dX8_filling_4 (by decide) (fun c_9 => ?_) (fun c_9 => ?_)
  · rw [if_pos c_9] at hf
    exact J22 () hf _ _ hP hD hS ls (lv_sub hl [0] rfl)
  · rw [if_neg c_9] at hf
    refine lv_aload_n hx hb dX8_filling_7 rfl (lv_at hl 0 rfl) ?_
    refine va_get (D := (dC, dI)) (ci := 8) (C := RX8) (T := TX8) (N := 47) hx hb hts (fun _ h => List.mem_cons_of_mem _ (List.mem_append_right _ h)) hown hK hP 0 rfl rfl 12 (by decide) (hts (.fieldLink RX8 90 "SkewBoardModel" "pageLength" "I") (List.mem_of_getElem? (i := 1) rfl)) (fun _ h9 => h9) rfl dX8_filling_8 ?_
    refine lv_aload_n hx hb dX8_filling_11 rfl (lv_at hl 0 rfl) ?_
    refine va_get (D := (dC, dI)) (ci := 8) (C := RX8) (T := TX8) (N := 47) hx hb hts (fun _ h => List.mem_cons_of_mem _ (List.mem_append_right _ h)) hown hK hP 0 rfl rfl 6 (by decide) (hts (.fieldLink RX8 124 "SkewBoardModel" "boxes" "I") (List.mem_of_getElem? (i := 2) rfl)) (fun _ h9 => h9) rfl dX8_filling_12 ?_
    refine lv_icmp_ne (tgt := 22) hx hb dX8_filling_15 (by decide) (fun c_10 => ?_) (fun c_10 => ?_)
    · rw [if_neg c_10] at hf
      exact J22 () hf _ _ hP hD hS ls (lv_sub hl [0] rfl)
    · rw [if_pos c_10] at hf
      refine lv_iconst (v := 1) hx hb dX8_filling_18 (by decide) ?_
      refine lv_goto (tgt := 23) hx hb dX8_filling_19 (by decide) ?_
      exact J23 1 hf _ _ hP hD hS ls (lv_sub hl [0] rfl)

def fX8_aboutNow_J51 (y0_51 : Int32) (v_now_51 : Nat → Int32) (v_left_51 : Nat → Int32) (v_box_51 : Int32) (v_isCounted_51 : Int32) (v_counted_51 : Int32) : Option (Int32 × (Nat → Int32) × (Nat → Int32) × Int32 × Int32 × Int32) :=
    some (y0_51, v_now_51, v_left_51, v_box_51, v_isCounted_51, v_counted_51)
def fX8_aboutNow (p1 : Int32) (v_kind : Int32) (v_rows : Int32) (v_content : Nat → Int32) (v_boxes : Int32) (v_rowOf : Nat → Int32) (v_columnOf : Nat → Int32) (v_now : Nat → Int32) (v_left : Nat → Int32) (v_box : Int32) (v_isCounted : Int32) (v_counted : Int32) : Option (Int32 × (Nat → Int32) × (Nat → Int32) × Int32 × Int32 × Int32) :=
  if p1 = 0 then (fX8_aboutNow_J51 v_kind v_now v_left v_box v_isCounted v_counted) else (if p1 = 1 then (fX8_aboutNow_J51 v_boxes v_now v_left v_box v_isCounted v_counted) else (if p1 = 2 then (fX8_aboutNow_J51 v_rows v_now v_left v_box v_isCounted v_counted) else (if p1 = 3 then (bd (fX8_told v_content) (fun r_6 => fX8_aboutNow_J51 r_6 v_now v_left v_box v_isCounted v_counted)) else (bd (fX8_ways v_kind v_rows v_content v_boxes v_rowOf v_columnOf v_now v_left v_box v_isCounted v_counted) (fun r_5 => fX8_aboutNow_J51 r_5.1 r_5.2.1 r_5.2.2.1 r_5.2.2.2.1 r_5.2.2.2.2.1 r_5.2.2.2.2.2)))))
def rmX8_aboutNow : Room := { frames := 5, cells := 0, slots := 0, locals := 105 }
set_option maxRecDepth 100000 in
set_option maxHeartbeats 4000000 in
theorem ctX8_aboutNow (l : Launch) (z : Nat × Nat × Nat) (dC : Nat → ClassId) (dI : Nat → Nat → Nat) (cI cB cE : ClassId) (a : Nat → Nat) (v_boards : Int32) (v_kind : Int32) (v_rows : Int32) (v_outer : Nat → Int32) (v_inner : Nat → Int32) (v_content : Nat → Int32) (v_boxes : Int32) (v_rowOf : Nat → Int32) (v_columnOf : Nat → Int32) (v_seen : Int32) (v_seenWhat : Nat → Int32) (v_seenCan : Nat → Int32) (v_pageLength : Int32) (v_page : Nat → Int32) (v_isWhole : Int32) (v_newKind : Int32) (v_newRows : Int32) (v_newOuter : Nat → Int32) (v_newInner : Nat → Int32) (v_newContent : Nat → Int32) (v_now : Nat → Int32) (v_left : Nat → Int32) (v_box : Int32) (v_isCounted : Int32) (v_counted : Int32) (v_given : Nat → Int32) (v_isTermed : Int32) (v_terms : Int32) (v_term : Nat → Int32) (v_shape : Nat → Int32) (v_readBoxes : Int32) (v_readRow : Nat → Int32) (v_readColumn : Nat → Int32) (v_grid : Nat → Int32) (v_often : Nat → Int32) (v_seedNow : Int64) (v_isKept : Int32) (v_keptBoard : Int32) (v_keptKind : Int32) (v_keptRows : Int32) (v_keptSeen : Int32) (v_keptOuter : Nat → Int32) (v_keptInner : Nat → Int32) (v_keptContent : Nat → Int32) (v_keptWhat : Nat → Int32) (v_keptCan : Nat → Int32) (v_h : Int64) (p1 : Int32) (fin : Int32 × (Nat → Int32) × (Nat → Int32) × Int32 × Int32 × Int32) (hf : fX8_aboutNow p1 v_kind v_rows v_content v_boxes v_rowOf v_columnOf v_now v_left v_box v_isCounted v_counted = some fin) : Ct l z (dC, dI) (tyL cI cB cE) yX8_aboutNow wsX8_aboutNow rmX8_aboutNow [.ref (a 0), .int p1] (wX8 cI cB cE a v_boards v_kind v_rows v_outer v_inner v_content v_boxes v_rowOf v_columnOf v_seen v_seenWhat v_seenCan v_pageLength v_page v_isWhole v_newKind v_newRows v_newOuter v_newInner v_newContent v_now v_left v_box v_isCounted v_counted v_given v_isTermed v_terms v_term v_shape v_readBoxes v_readRow v_readColumn v_grid v_often v_seedNow v_isKept v_keptBoard v_keptKind v_keptRows v_keptSeen v_keptOuter v_keptInner v_keptContent v_keptWhat v_keptCan v_h) (some (.int fin.1)) (wX8 cI cB cE a v_boards v_kind v_rows v_outer v_inner v_content v_boxes v_rowOf v_columnOf v_seen v_seenWhat v_seenCan v_pageLength v_page v_isWhole v_newKind v_newRows v_newOuter v_newInner v_newContent fin.2.1 fin.2.2.1 fin.2.2.2.1 fin.2.2.2.2.1 fin.2.2.2.2.2 v_given v_isTermed v_terms v_term v_shape v_readBoxes v_readRow v_readColumn v_grid v_often v_seedNow v_isKept v_keptBoard v_keptKind v_keptRows v_keptSeen v_keptOuter v_keptInner v_keptContent v_keptWhat v_keptCan v_h) := by
  refine Met.ofC (cc := cX8_aboutNow) (maxL := 2) (ret := (some .int)) (by decide) rfl (Nat.le_of_ble_eq_true rfl) ?_
  intro p e s m args below meth c A Q ls hx hb hr hml hts hown hlocks hA hK hP hD hZ hS hQ hl
  have hown : s.vm.findClass RX8 = some m.cls := hown
  have hl : lv_has ls 2 [(0, .ref (a 0)), (1, .int p1)] := hl
  unfold fX8_aboutNow at hf
  refine lv_iload_n hx hb dX8_aboutNow_0 rfl (lv_at hl 1 rfl) ?_
  have J51 : ∀ (y0_51 : Int32) (v_now_51 : Nat → Int32) (v_left_51 : Nat → Int32) (v_box_51 : Int32) (v_isCounted_51 : Int32) (v_counted_51 : Int32), fX8_aboutNow_J51  y0_51 v_now_51 v_left_51 v_box_51 v_isCounted_51 v_counted_51 = some fin → ∀ (H : Heap) (locs : List Loc), va_P (dC, dI) vwCl (wX8 cI cB cE a v_boards v_kind v_rows v_outer v_inner v_content v_boxes v_rowOf v_columnOf v_seen v_seenWhat v_seenCan v_pageLength v_page v_isWhole v_newKind v_newRows v_newOuter v_newInner v_newContent v_now_51 v_left_51 v_box_51 v_isCounted_51 v_counted_51 v_given v_isTermed v_terms v_term v_shape v_readBoxes v_readRow v_readColumn v_grid v_often v_seedNow v_isKept v_keptBoard v_keptKind v_keptRows v_keptSeen v_keptOuter v_keptInner v_keptContent v_keptWhat v_keptCan v_h) H → va_D A (wX8 cI cB cE a v_boards v_kind v_rows v_outer v_inner v_content v_boxes v_rowOf v_columnOf v_seen v_seenWhat v_seenCan v_pageLength v_page v_isWhole v_newKind v_newRows v_newOuter v_newInner v_newContent v_now_51 v_left_51 v_box_51 v_isCounted_51 v_counted_51 v_given v_isTermed v_terms v_term v_shape v_readBoxes v_readRow v_readColumn v_grid v_often v_seedNow v_isKept v_keptBoard v_keptKind v_keptRows v_keptSeen v_keptOuter v_keptInner v_keptContent v_keptWhat v_keptCan v_h) → va_S A s.heap H locs → ∀ (ls : Array Slot), lv_has ls 2 [] → W p l e rmX8_aboutNow s m args below meth c H locs 0 0 Q (F0 m 51 ls [.int y0_51]) := by
    intro y0_51 v_now_51 v_left_51 v_box_51 v_isCounted_51 v_counted_51 hf H locs hP hD hS ls hl
    unfold fX8_aboutNow_J51 at hf
    have hQ2 := hQ
    rw [← Option.some.inj hf] at hQ2
    exact cx_iret hQ2 hx hb hr hlocks hK hP hD hS dX8_aboutNow_51
  refine lv_if_ne (tgt := 11) hx hb dX8_aboutNow_1 (by decide) (fun c_1 => ?_) (fun c_1 => ?_)
  · rw [if_neg c_1] at hf
    refine lv_iload_n hx hb dX8_aboutNow_11 rfl (lv_at hl 1 rfl) ?_
    refine lv_iconst (v := 1) hx hb dX8_aboutNow_12 (by decide) ?_
    refine lv_icmp_ne (tgt := 23) hx hb dX8_aboutNow_13 (by decide) (fun c_2 => ?_) (fun c_2 => ?_)
    · rw [if_neg c_2] at hf
      refine lv_iload_n hx hb dX8_aboutNow_23 rfl (lv_at hl 1 rfl) ?_
      refine lv_iconst (v := 2) hx hb dX8_aboutNow_24 (by decide) ?_
      refine lv_icmp_ne (tgt := 35) hx hb dX8_aboutNow_25 (by decide) (fun c_3 => ?_) (fun c_3 => ?_)
      · rw [if_neg c_3] at hf
        refine lv_iload_n hx hb dX8_aboutNow_35 rfl (lv_at hl 1 rfl) ?_
        refine lv_iconst (v := 3) hx hb dX8_aboutNow_36 (by decide) ?_
        refine lv_icmp_ne (tgt := 47) hx hb dX8_aboutNow_37 (by decide) (fun c_4 => ?_) (fun c_4 => ?_)
        · rw [if_neg c_4] at hf
          refine lv_aload_n hx hb dX8_aboutNow_47 rfl (lv_at hl 0 rfl) ?_
          obtain ⟨r_5, hr_5, hf⟩ := bd_some hf
          refine cx_runW (cx_V (As := []) (rest := []) ⟨hx, hb, hml, hown, hts⟩ (ctX8_ways l z dC dI cI cB cE a v_boards v_kind v_rows v_outer v_inner v_content v_boxes v_rowOf v_columnOf v_seen v_seenWhat v_seenCan v_pageLength v_page v_isWhole v_newKind v_newRows v_newOuter v_newInner v_newContent v_now v_left v_box v_isCounted v_counted v_given v_isTermed v_terms v_term v_shape v_readBoxes v_readRow v_readColumn v_grid v_often v_seedNow v_isKept v_keptBoard v_keptKind v_keptRows v_keptSeen v_keptOuter v_keptInner v_keptContent v_keptWhat v_keptCan v_h r_5 hr_5) (cwV 0 hts gX8_aboutNow_X8_ways rfl rfl rfl (by decide +kernel) ⟨Nat.le_of_ble_eq_true rfl, Nat.le_of_ble_eq_true rfl⟩) hK hP hD hZ hS hA (ci := 8) (q0 := 0) rfl rfl rfl hl.1 rfl (Nat.le_of_ble_eq_true rfl) dX8_aboutNow_48) hD hS hA [.int r_5.1] rfl (fun H locs hP hD hS => ?_)
          exact J51 r_5.1 r_5.2.1 r_5.2.2.1 r_5.2.2.2.1 r_5.2.2.2.2.1 r_5.2.2.2.2.2 hf _ _ hP hD hS ls (lv_sub hl [] rfl)
        · rw [if_pos c_4] at hf
          refine lv_aload_n hx hb dX8_aboutNow_40 rfl (lv_at hl 0 rfl) ?_
          obtain ⟨r_6, hr_6, hf⟩ := bd_some hf
          refine cx_runW (cx_V (As := []) (rest := []) ⟨hx, hb, hml, hown, hts⟩ (ctX8_told l z dC dI cI cB cE a v_boards v_kind v_rows v_outer v_inner v_content v_boxes v_rowOf v_columnOf v_seen v_seenWhat v_seenCan v_pageLength v_page v_isWhole v_newKind v_newRows v_newOuter v_newInner v_newContent v_now v_left v_box v_isCounted v_counted v_given v_isTermed v_terms v_term v_shape v_readBoxes v_readRow v_readColumn v_grid v_often v_seedNow v_isKept v_keptBoard v_keptKind v_keptRows v_keptSeen v_keptOuter v_keptInner v_keptContent v_keptWhat v_keptCan v_h r_6 hr_6) (cwV 0 hts gX8_aboutNow_X8_told rfl rfl rfl (by decide +kernel) ⟨Nat.le_of_ble_eq_true rfl, Nat.le_of_ble_eq_true rfl⟩) hK hP hD hZ hS hA (ci := 8) (q0 := 0) rfl rfl rfl hl.1 rfl (Nat.le_of_ble_eq_true rfl) dX8_aboutNow_41) hD hS hA [.int r_6] rfl (fun H locs hP hD hS => ?_)
          refine lv_goto (tgt := 51) hx hb dX8_aboutNow_44 (by decide) ?_
          exact J51 r_6 v_now v_left v_box v_isCounted v_counted hf _ _ hP hD hS ls (lv_sub hl [] rfl)
      · rw [if_pos c_3] at hf
        refine lv_aload_n hx hb dX8_aboutNow_28 rfl (lv_at hl 0 rfl) ?_
        refine va_get (D := (dC, dI)) (ci := 8) (C := RX8) (T := TX8) (N := 47) hx hb hts (fun _ h => List.mem_cons_of_mem _ (List.mem_append_right _ h)) hown hK hP 0 rfl rfl 2 (by decide) (hts (.fieldLink RX8 127 "SkewBoardModel" "rows" "I") (List.mem_of_getElem? (i := 3) rfl)) (fun _ h9 => h9) rfl dX8_aboutNow_29 ?_
        refine lv_goto (tgt := 51) hx hb dX8_aboutNow_32 (by decide) ?_
        exact J51 v_rows v_now v_left v_box v_isCounted v_counted hf _ _ hP hD hS ls (lv_sub hl [] rfl)
    · rw [if_pos c_2] at hf
      refine lv_aload_n hx hb dX8_aboutNow_16 rfl (lv_at hl 0 rfl) ?_
      refine va_get (D := (dC, dI)) (ci := 8) (C := RX8) (T := TX8) (N := 47) hx hb hts (fun _ h => List.mem_cons_of_mem _ (List.mem_append_right _ h)) hown hK hP 0 rfl rfl 6 (by decide) (hts (.fieldLink RX8 124 "SkewBoardModel" "boxes" "I") (List.mem_of_getElem? (i := 2) rfl)) (fun _ h9 => h9) rfl dX8_aboutNow_17 ?_
      refine lv_goto (tgt := 51) hx hb dX8_aboutNow_20 (by decide) ?_
      exact J51 v_boxes v_now v_left v_box v_isCounted v_counted hf _ _ hP hD hS ls (lv_sub hl [] rfl)
  · rw [if_pos c_1] at hf
    refine lv_aload_n hx hb dX8_aboutNow_4 rfl (lv_at hl 0 rfl) ?_
    refine va_get (D := (dC, dI)) (ci := 8) (C := RX8) (T := TX8) (N := 47) hx hb hts (fun _ h => List.mem_cons_of_mem _ (List.mem_append_right _ h)) hown hK hP 0 rfl rfl 1 (by decide) (hts (.fieldLink RX8 139 "SkewBoardModel" "kind" "I") (List.mem_of_getElem? (i := 1) rfl)) (fun _ h9 => h9) rfl dX8_aboutNow_5 ?_
    refine lv_goto (tgt := 51) hx hb dX8_aboutNow_8 (by decide) ?_
    exact J51 v_kind v_now v_left v_box v_isCounted v_counted hf _ _ hP hD hS ls (lv_sub hl [] rfl)

def fX8_about_J29 (y0_29 : Int32) (v_now_29 : Nat → Int32) (v_left_29 : Nat → Int32) (v_box_29 : Int32) (v_isCounted_29 : Int32) (v_counted_29 : Int32) : Option (Int32 × (Nat → Int32) × (Nat → Int32) × Int32 × Int32 × Int32) :=
    some (y0_29, v_now_29, v_left_29, v_box_29, v_isCounted_29, v_counted_29)
def fX8_about (p1 : Int32) (v_kind : Int32) (v_rows : Int32) (v_content : Nat → Int32) (v_boxes : Int32) (v_rowOf : Nat → Int32) (v_columnOf : Nat → Int32) (v_now : Nat → Int32) (v_left : Nat → Int32) (v_box : Int32) (v_isCounted : Int32) (v_counted : Int32) : Option (Int32 × (Nat → Int32) × (Nat → Int32) × Int32 × Int32 × Int32) :=
  bd (fX8_within p1 0 4) (fun r_1 => if r_1 = 0 then (some ((-102), v_now, v_left, v_box, v_isCounted, v_counted)) else (bd (fX8_isBoard v_rows) (fun r_3 => if r_3 = 0 then (fX8_about_J29 (-103) v_now v_left v_box v_isCounted v_counted) else (bd (fX8_aboutNow p1 v_kind v_rows v_content v_boxes v_rowOf v_columnOf v_now v_left v_box v_isCounted v_counted) (fun r_5 => fX8_about_J29 r_5.1 r_5.2.1 r_5.2.2.1 r_5.2.2.2.1 r_5.2.2.2.2.1 r_5.2.2.2.2.2)))))
def rmX8_about : Room := { frames := 6, cells := 0, slots := 0, locals := 126 }
set_option maxRecDepth 100000 in
set_option maxHeartbeats 4000000 in
theorem ctX8_about (l : Launch) (z : Nat × Nat × Nat) (dC : Nat → ClassId) (dI : Nat → Nat → Nat) (cI cB cE : ClassId) (a : Nat → Nat) (v_boards : Int32) (v_kind : Int32) (v_rows : Int32) (v_outer : Nat → Int32) (v_inner : Nat → Int32) (v_content : Nat → Int32) (v_boxes : Int32) (v_rowOf : Nat → Int32) (v_columnOf : Nat → Int32) (v_seen : Int32) (v_seenWhat : Nat → Int32) (v_seenCan : Nat → Int32) (v_pageLength : Int32) (v_page : Nat → Int32) (v_isWhole : Int32) (v_newKind : Int32) (v_newRows : Int32) (v_newOuter : Nat → Int32) (v_newInner : Nat → Int32) (v_newContent : Nat → Int32) (v_now : Nat → Int32) (v_left : Nat → Int32) (v_box : Int32) (v_isCounted : Int32) (v_counted : Int32) (v_given : Nat → Int32) (v_isTermed : Int32) (v_terms : Int32) (v_term : Nat → Int32) (v_shape : Nat → Int32) (v_readBoxes : Int32) (v_readRow : Nat → Int32) (v_readColumn : Nat → Int32) (v_grid : Nat → Int32) (v_often : Nat → Int32) (v_seedNow : Int64) (v_isKept : Int32) (v_keptBoard : Int32) (v_keptKind : Int32) (v_keptRows : Int32) (v_keptSeen : Int32) (v_keptOuter : Nat → Int32) (v_keptInner : Nat → Int32) (v_keptContent : Nat → Int32) (v_keptWhat : Nat → Int32) (v_keptCan : Nat → Int32) (v_h : Int64) (p1 : Int32) (fin : Int32 × (Nat → Int32) × (Nat → Int32) × Int32 × Int32 × Int32) (hf : fX8_about p1 v_kind v_rows v_content v_boxes v_rowOf v_columnOf v_now v_left v_box v_isCounted v_counted = some fin) : Ct l z (dC, dI) (tyL cI cB cE) yX8_about wsX8_about rmX8_about [.ref (a 0), .int p1] (wX8 cI cB cE a v_boards v_kind v_rows v_outer v_inner v_content v_boxes v_rowOf v_columnOf v_seen v_seenWhat v_seenCan v_pageLength v_page v_isWhole v_newKind v_newRows v_newOuter v_newInner v_newContent v_now v_left v_box v_isCounted v_counted v_given v_isTermed v_terms v_term v_shape v_readBoxes v_readRow v_readColumn v_grid v_often v_seedNow v_isKept v_keptBoard v_keptKind v_keptRows v_keptSeen v_keptOuter v_keptInner v_keptContent v_keptWhat v_keptCan v_h) (some (.int fin.1)) (wX8 cI cB cE a v_boards v_kind v_rows v_outer v_inner v_content v_boxes v_rowOf v_columnOf v_seen v_seenWhat v_seenCan v_pageLength v_page v_isWhole v_newKind v_newRows v_newOuter v_newInner v_newContent fin.2.1 fin.2.2.1 fin.2.2.2.1 fin.2.2.2.2.1 fin.2.2.2.2.2 v_given v_isTermed v_terms v_term v_shape v_readBoxes v_readRow v_readColumn v_grid v_often v_seedNow v_isKept v_keptBoard v_keptKind v_keptRows v_keptSeen v_keptOuter v_keptInner v_keptContent v_keptWhat v_keptCan v_h) := by
  refine Met.ofC (cc := cX8_about) (maxL := 2) (ret := (some .int)) (by decide) rfl (Nat.le_of_ble_eq_true rfl) ?_
  intro p e s m args below meth c A Q ls hx hb hr hml hts hown hlocks hA hK hP hD hZ hS hQ hl
  have hown : s.vm.findClass RX8 = some m.cls := hown
  have hl : lv_has ls 2 [(0, .ref (a 0)), (1, .int p1)] := hl
  unfold fX8_about at hf
  refine lv_iload_n hx hb dX8_about_0 rfl (lv_at hl 1 rfl) ?_
  refine lv_iconst (v := 0) hx hb dX8_about_1 (by decide) ?_
  refine lv_iconst (v := 4) hx hb dX8_about_2 (by decide) ?_
  obtain ⟨r_1, hr_1, hf⟩ := bd_some hf
  refine cx_run0 (cx_S (A := A) (As := [.int p1, .int 0, .int 4]) (rest := []) ⟨hx, hb, hml, hown, hts⟩ (ctX8_within l z dC dI cI cB cE p1 0 4 r_1 hr_1) (va_cwS 3 hts gX8_about_X8_within rfl rfl rfl (by decide +kernel) ⟨Nat.le_of_ble_eq_true rfl, Nat.le_of_ble_eq_true rfl⟩) hK vaP0 vaD0 hZ hS hA rfl hl.1 rfl (Nat.le_of_ble_eq_true rfl) dX8_about_3) hP hS hA [.int r_1] rfl (fun H locs hP hS => ?_)
  refine lv_if_ne (tgt := 12) hx hb dX8_about_6 (by decide) (fun c_2 => ?_) (fun c_2 => ?_)
  · rw [if_neg c_2] at hf
    refine lv_aload_n hx hb dX8_about_12 rfl (lv_at hl 0 rfl) ?_
    obtain ⟨r_3, hr_3, hf⟩ := bd_some hf
    refine cx_runW (cx_V (As := []) (rest := []) ⟨hx, hb, hml, hown, hts⟩ (ctX8_isBoard l z dC dI cI cB cE a v_boards v_kind v_rows v_outer v_inner v_content v_boxes v_rowOf v_columnOf v_seen v_seenWhat v_seenCan v_pageLength v_page v_isWhole v_newKind v_newRows v_newOuter v_newInner v_newContent v_now v_left v_box v_isCounted v_counted v_given v_isTermed v_terms v_term v_shape v_readBoxes v_readRow v_readColumn v_grid v_often v_seedNow v_isKept v_keptBoard v_keptKind v_keptRows v_keptSeen v_keptOuter v_keptInner v_keptContent v_keptWhat v_keptCan v_h r_3 hr_3) (cwV 0 hts gX8_about_X8_isBoard rfl rfl rfl (by decide +kernel) ⟨Nat.le_of_ble_eq_true rfl, Nat.le_of_ble_eq_true rfl⟩) hK hP hD hZ hS hA (ci := 8) (q0 := 0) rfl rfl rfl hl.1 rfl (Nat.le_of_ble_eq_true rfl) dX8_about_13) hD hS hA [.int r_3] rfl (fun H locs hP hD hS => ?_)
    have J29 : ∀ (y0_29 : Int32) (v_now_29 : Nat → Int32) (v_left_29 : Nat → Int32) (v_box_29 : Int32) (v_isCounted_29 : Int32) (v_counted_29 : Int32), fX8_about_J29  y0_29 v_now_29 v_left_29 v_box_29 v_isCounted_29 v_counted_29 = some fin → ∀ (H : Heap) (locs : List Loc), va_P (dC, dI) vwCl (wX8 cI cB cE a v_boards v_kind v_rows v_outer v_inner v_content v_boxes v_rowOf v_columnOf v_seen v_seenWhat v_seenCan v_pageLength v_page v_isWhole v_newKind v_newRows v_newOuter v_newInner v_newContent v_now_29 v_left_29 v_box_29 v_isCounted_29 v_counted_29 v_given v_isTermed v_terms v_term v_shape v_readBoxes v_readRow v_readColumn v_grid v_often v_seedNow v_isKept v_keptBoard v_keptKind v_keptRows v_keptSeen v_keptOuter v_keptInner v_keptContent v_keptWhat v_keptCan v_h) H → va_D A (wX8 cI cB cE a v_boards v_kind v_rows v_outer v_inner v_content v_boxes v_rowOf v_columnOf v_seen v_seenWhat v_seenCan v_pageLength v_page v_isWhole v_newKind v_newRows v_newOuter v_newInner v_newContent v_now_29 v_left_29 v_box_29 v_isCounted_29 v_counted_29 v_given v_isTermed v_terms v_term v_shape v_readBoxes v_readRow v_readColumn v_grid v_often v_seedNow v_isKept v_keptBoard v_keptKind v_keptRows v_keptSeen v_keptOuter v_keptInner v_keptContent v_keptWhat v_keptCan v_h) → va_S A s.heap H locs → ∀ (ls : Array Slot), lv_has ls 2 [] → W p l e rmX8_about s m args below meth c H locs 0 0 Q (F0 m 29 ls [.int y0_29]) := by
      intro y0_29 v_now_29 v_left_29 v_box_29 v_isCounted_29 v_counted_29 hf H locs hP hD hS ls hl
      unfold fX8_about_J29 at hf
      have hQ2 := hQ
      rw [← Option.some.inj hf] at hQ2
      exact cx_iret hQ2 hx hb hr hlocks hK hP hD hS dX8_about_29
    refine lv_if_eq (tgt := 27) hx hb dX8_about_16 (by decide) (fun c_4 => ?_) (fun c_4 => ?_)
    · rw [if_pos c_4] at hf
      refine lv_bipush (v := (-103)) hx hb dX8_about_27 (by decide) ?_
      exact J29 (-103) v_now v_left v_box v_isCounted v_counted hf _ _ hP hD hS ls (lv_sub hl [] rfl)
    · rw [if_neg c_4] at hf
      refine lv_aload_n hx hb dX8_about_19 rfl (lv_at hl 0 rfl) ?_
      refine lv_iload_n hx hb dX8_about_20 rfl (lv_at hl 1 rfl) ?_
      obtain ⟨r_5, hr_5, hf⟩ := bd_some hf
      refine cx_runW (cx_V (As := [.int p1]) (rest := []) ⟨hx, hb, hml, hown, hts⟩ (ctX8_aboutNow l z dC dI cI cB cE a v_boards v_kind v_rows v_outer v_inner v_content v_boxes v_rowOf v_columnOf v_seen v_seenWhat v_seenCan v_pageLength v_page v_isWhole v_newKind v_newRows v_newOuter v_newInner v_newContent v_now v_left v_box v_isCounted v_counted v_given v_isTermed v_terms v_term v_shape v_readBoxes v_readRow v_readColumn v_grid v_often v_seedNow v_isKept v_keptBoard v_keptKind v_keptRows v_keptSeen v_keptOuter v_keptInner v_keptContent v_keptWhat v_keptCan v_h p1 r_5 hr_5) (cwV 1 hts gX8_about_X8_aboutNow rfl rfl rfl (by decide +kernel) ⟨Nat.le_of_ble_eq_true rfl, Nat.le_of_ble_eq_true rfl⟩) hK hP hD hZ hS hA (ci := 8) (q0 := 0) rfl rfl rfl hl.1 rfl (Nat.le_of_ble_eq_true rfl) dX8_about_21) hD hS hA [.int r_5.1] rfl (fun H locs hP hD hS => ?_)
      refine lv_goto (tgt := 29) hx hb dX8_about_24 (by decide) ?_
      exact J29 r_5.1 r_5.2.1 r_5.2.2.1 r_5.2.2.2.1 r_5.2.2.2.2.1 r_5.2.2.2.2.2 hf _ _ hP hD hS ls (lv_sub hl [] rfl)
  · rw [if_pos c_2] at hf
    refine lv_bipush (v := (-102)) hx hb dX8_about_9 (by decide) ?_
    have hQ2 := hQ
    rw [← Option.some.inj hf] at hQ2
    exact cx_iret hQ2 hx hb hr hlocks hK hP hD hS dX8_about_11

def fX8_isKind (p1 : Int32) : Option (Int32) :=
  bd (fX8_within p1 0 4) (fun r_1 => gd (isb r_1) (some r_1))
def rmX8_isKind : Room := { frames := 1, cells := 0, slots := 0, locals := 22 }
set_option maxRecDepth 100000 in
set_option maxHeartbeats 4000000 in
theorem ctX8_isKind (l : Launch) (z : Nat × Nat × Nat) (dC : Nat → ClassId) (dI : Nat → Nat → Nat) (cI cB cE : ClassId) (p1 : Int32) (fin : Int32) (hf : fX8_isKind p1 = some fin) : Ct l z (dC, dI) (tyL cI cB cE) yX8_isKind wsX8_isKind rmX8_isKind [.int p1] [] (some (.int fin)) [] := by
  refine Met.ofC (cc := cX8_isKind) (maxL := 1) (ret := (some .boolean)) (by decide) rfl (Nat.le_of_ble_eq_true rfl) ?_
  intro p e s m args below meth c A Q ls hx hb hr hml hts hown hlocks hA hK hP hD hZ hS hQ hl
  have hown : s.vm.findClass RX8 = some m.cls := hown
  have hl : lv_has ls 1 [(0, .int p1)] := hl
  unfold fX8_isKind at hf
  refine lv_iload_n hx hb dX8_isKind_0 rfl (lv_at hl 0 rfl) ?_
  refine lv_iconst (v := 0) hx hb dX8_isKind_1 (by decide) ?_
  refine lv_iconst (v := 4) hx hb dX8_isKind_2 (by decide) ?_
  obtain ⟨r_1, hr_1, hf⟩ := bd_some hf
  refine cx_run0 (cx_S (A := A) (As := [.int p1, .int 0, .int 4]) (rest := []) ⟨hx, hb, hml, hown, hts⟩ (ctX8_within l z dC dI cI cB cE p1 0 4 r_1 hr_1) (va_cwS 3 hts gX8_isKind_X8_within rfl rfl rfl (by decide +kernel) ⟨Nat.le_of_ble_eq_true rfl, Nat.le_of_ble_eq_true rfl⟩) hK vaP0 vaD0 hZ hS hA rfl hl.1 rfl (Nat.le_of_ble_eq_true rfl) dX8_isKind_3) hP hS hA [.int r_1] rfl (fun H locs hP hS => ?_)
  obtain ⟨g_2, hf⟩ := gd_some hf
  have hQ2 := hQ
  rw [← Option.some.inj hf] at hQ2
  exact cx_zret (isb_nar g_2) hQ2 hx hb hr hlocks hK hP hD hS dX8_isKind_6

def fX8_as_J53 (y0_53 : Int32) : Option (Int32) :=
    some y0_53
def fX8_as_J45 (v_kind : Int32) (k53 : Int32 → Option (Int32)) (u_45 : Unit) : Option (Int32) :=
    k53 v_kind
def fX8_as_J52 (k53 : Int32 → Option (Int32)) (u_52 : Unit) : Option (Int32) :=
    k53 (-1)
def fX8_as (p1 : Int32) (v_kind : Int32) (v_rows : Int32) : Option (Int32) :=
  bd (fX8_isKind p1) (fun r_1 => if r_1 = 0 then (some (-102)) else (bd (fX8_isBoard v_rows) (fun r_3 => if r_3 = 0 then (some (-103)) else (if p1 = 0 then (fX8_as_J45 v_kind fX8_as_J53 ()) else (if p1 = v_kind then (fX8_as_J45 v_kind fX8_as_J53 ()) else (if p1 = 1 then (if v_kind = 2 then (fX8_as_J45 v_kind fX8_as_J53 ()) else (fX8_as_J52 fX8_as_J53 ())) else (fX8_as_J52 fX8_as_J53 ())))))))
def rmX8_as : Room := { frames := 2, cells := 0, slots := 0, locals := 42 }
set_option maxRecDepth 100000 in
set_option maxHeartbeats 4000000 in
theorem ctX8_as (l : Launch) (z : Nat × Nat × Nat) (dC : Nat → ClassId) (dI : Nat → Nat → Nat) (cI cB cE : ClassId) (a : Nat → Nat) (v_boards : Int32) (v_kind : Int32) (v_rows : Int32) (v_outer : Nat → Int32) (v_inner : Nat → Int32) (v_content : Nat → Int32) (v_boxes : Int32) (v_rowOf : Nat → Int32) (v_columnOf : Nat → Int32) (v_seen : Int32) (v_seenWhat : Nat → Int32) (v_seenCan : Nat → Int32) (v_pageLength : Int32) (v_page : Nat → Int32) (v_isWhole : Int32) (v_newKind : Int32) (v_newRows : Int32) (v_newOuter : Nat → Int32) (v_newInner : Nat → Int32) (v_newContent : Nat → Int32) (v_now : Nat → Int32) (v_left : Nat → Int32) (v_box : Int32) (v_isCounted : Int32) (v_counted : Int32) (v_given : Nat → Int32) (v_isTermed : Int32) (v_terms : Int32) (v_term : Nat → Int32) (v_shape : Nat → Int32) (v_readBoxes : Int32) (v_readRow : Nat → Int32) (v_readColumn : Nat → Int32) (v_grid : Nat → Int32) (v_often : Nat → Int32) (v_seedNow : Int64) (v_isKept : Int32) (v_keptBoard : Int32) (v_keptKind : Int32) (v_keptRows : Int32) (v_keptSeen : Int32) (v_keptOuter : Nat → Int32) (v_keptInner : Nat → Int32) (v_keptContent : Nat → Int32) (v_keptWhat : Nat → Int32) (v_keptCan : Nat → Int32) (v_h : Int64) (p1 : Int32) (fin : Int32) (hf : fX8_as p1 v_kind v_rows = some fin) : Ct l z (dC, dI) (tyL cI cB cE) yX8_as wsX8_as rmX8_as [.ref (a 0), .int p1] (wX8 cI cB cE a v_boards v_kind v_rows v_outer v_inner v_content v_boxes v_rowOf v_columnOf v_seen v_seenWhat v_seenCan v_pageLength v_page v_isWhole v_newKind v_newRows v_newOuter v_newInner v_newContent v_now v_left v_box v_isCounted v_counted v_given v_isTermed v_terms v_term v_shape v_readBoxes v_readRow v_readColumn v_grid v_often v_seedNow v_isKept v_keptBoard v_keptKind v_keptRows v_keptSeen v_keptOuter v_keptInner v_keptContent v_keptWhat v_keptCan v_h) (some (.int fin)) (wX8 cI cB cE a v_boards v_kind v_rows v_outer v_inner v_content v_boxes v_rowOf v_columnOf v_seen v_seenWhat v_seenCan v_pageLength v_page v_isWhole v_newKind v_newRows v_newOuter v_newInner v_newContent v_now v_left v_box v_isCounted v_counted v_given v_isTermed v_terms v_term v_shape v_readBoxes v_readRow v_readColumn v_grid v_often v_seedNow v_isKept v_keptBoard v_keptKind v_keptRows v_keptSeen v_keptOuter v_keptInner v_keptContent v_keptWhat v_keptCan v_h) := by
  refine Met.ofC (cc := cX8_as) (maxL := 2) (ret := (some .int)) (by decide) rfl (Nat.le_of_ble_eq_true rfl) ?_
  intro p e s m args below meth c A Q ls hx hb hr hml hts hown hlocks hA hK hP hD hZ hS hQ hl
  have hown : s.vm.findClass RX8 = some m.cls := hown
  have hl : lv_has ls 2 [(0, .ref (a 0)), (1, .int p1)] := hl
  unfold fX8_as at hf
  refine lv_iload_n hx hb dX8_as_0 rfl (lv_at hl 1 rfl) ?_
  obtain ⟨r_1, hr_1, hf⟩ := bd_some hf
  refine cx_run0 (cx_S (A := A) (As := [.int p1]) (rest := []) ⟨hx, hb, hml, hown, hts⟩ (ctX8_isKind l z dC dI cI cB cE p1 r_1 hr_1) (va_cwS 1 hts gX8_as_X8_isKind rfl rfl rfl (by decide +kernel) ⟨Nat.le_of_ble_eq_true rfl, Nat.le_of_ble_eq_true rfl⟩) hK vaP0 vaD0 hZ hS hA rfl hl.1 rfl (Nat.le_of_ble_eq_true rfl) dX8_as_1) hP hS hA [.int r_1] rfl (fun H locs hP hS => ?_)
  refine lv_if_ne (tgt := 10) hx hb dX8_as_4 (by decide) (fun c_2 => ?_) (fun c_2 => ?_)
  · rw [if_neg c_2] at hf
    refine lv_aload_n hx hb dX8_as_10 rfl (lv_at hl 0 rfl) ?_
    obtain ⟨r_3, hr_3, hf⟩ := bd_some hf
    refine cx_runW (cx_V (As := []) (rest := []) ⟨hx, hb, hml, hown, hts⟩ (ctX8_isBoard l z dC dI cI cB cE a v_boards v_kind v_rows v_outer v_inner v_content v_boxes v_rowOf v_columnOf v_seen v_seenWhat v_seenCan v_pageLength v_page v_isWhole v_newKind v_newRows v_newOuter v_newInner v_newContent v_now v_left v_box v_isCounted v_counted v_given v_isTermed v_terms v_term v_shape v_readBoxes v_readRow v_readColumn v_grid v_often v_seedNow v_isKept v_keptBoard v_keptKind v_keptRows v_keptSeen v_keptOuter v_keptInner v_keptContent v_keptWhat v_keptCan v_h r_3 hr_3) (cwV 0 hts gX8_as_X8_isBoard rfl rfl rfl (by decide +kernel) ⟨Nat.le_of_ble_eq_true rfl, Nat.le_of_ble_eq_true rfl⟩) hK hP hD hZ hS hA (ci := 8) (q0 := 0) rfl rfl rfl hl.1 rfl (Nat.le_of_ble_eq_true rfl) dX8_as_11) hD hS hA [.int r_3] rfl (fun H locs hP hD hS => ?_)
    refine lv_if_ne (tgt := 20) hx hb dX8_as_14 (by decide) (fun c_4 => ?_) (fun c_4 => ?_)
    · rw [if_neg c_4] at hf
      refine lv_iload_n hx hb dX8_as_20 rfl (lv_at hl 1 rfl) ?_
      have J53 : ∀ (y0_53 : Int32), fX8_as_J53  y0_53 = some fin → ∀ (H : Heap) (locs : List Loc), va_P (dC, dI) vwCl (wX8 cI cB cE a v_boards v_kind v_rows v_outer v_inner v_content v_boxes v_rowOf v_columnOf v_seen v_seenWhat v_seenCan v_pageLength v_page v_isWhole v_newKind v_newRows v_newOuter v_newInner v_newContent v_now v_left v_box v_isCounted v_counted v_given v_isTermed v_terms v_term v_shape v_readBoxes v_readRow v_readColumn v_grid v_often v_seedNow v_isKept v_keptBoard v_keptKind v_keptRows v_keptSeen v_keptOuter v_keptInner v_keptContent v_keptWhat v_keptCan v_h) H → va_D A (wX8 cI cB cE a v_boards v_kind v_rows v_outer v_inner v_content v_boxes v_rowOf v_columnOf v_seen v_seenWhat v_seenCan v_pageLength v_page v_isWhole v_newKind v_newRows v_newOuter v_newInner v_newContent v_now v_left v_box v_isCounted v_counted v_given v_isTermed v_terms v_term v_shape v_readBoxes v_readRow v_readColumn v_grid v_often v_seedNow v_isKept v_keptBoard v_keptKind v_keptRows v_keptSeen v_keptOuter v_keptInner v_keptContent v_keptWhat v_keptCan v_h) → va_S A s.heap H locs → ∀ (ls : Array Slot), lv_has ls 2 [] → W p l e rmX8_as s m args below meth c H locs 0 0 Q (F0 m 53 ls [.int y0_53]) := by
        intro y0_53 hf H locs hP hD hS ls hl
        unfold fX8_as_J53 at hf
        have hQ2 := hQ
        rw [← Option.some.inj hf] at hQ2
        exact cx_iret hQ2 hx hb hr hlocks hK hP hD hS dX8_as_53
      have J45 : ∀ (u_45 : Unit), fX8_as_J45 v_kind (fX8_as_J53) u_45 = some fin → ∀ (H : Heap) (locs : List Loc), va_P (dC, dI) vwCl (wX8 cI cB cE a v_boards v_kind v_rows v_outer v_inner v_content v_boxes v_rowOf v_columnOf v_seen v_seenWhat v_seenCan v_pageLength v_page v_isWhole v_newKind v_newRows v_newOuter v_newInner v_newContent v_now v_left v_box v_isCounted v_counted v_given v_isTermed v_terms v_term v_shape v_readBoxes v_readRow v_readColumn v_grid v_often v_seedNow v_isKept v_keptBoard v_keptKind v_keptRows v_keptSeen v_keptOuter v_keptInner v_keptContent v_keptWhat v_keptCan v_h) H → va_D A (wX8 cI cB cE a v_boards v_kind v_rows v_outer v_inner v_content v_boxes v_rowOf v_columnOf v_seen v_seenWhat v_seenCan v_pageLength v_page v_isWhole v_newKind v_newRows v_newOuter v_newInner v_newContent v_now v_left v_box v_isCounted v_counted v_given v_isTermed v_terms v_term v_shape v_readBoxes v_readRow v_readColumn v_grid v_often v_seedNow v_isKept v_keptBoard v_keptKind v_keptRows v_keptSeen v_keptOuter v_keptInner v_keptContent v_keptWhat v_keptCan v_h) → va_S A s.heap H locs → ∀ (ls : Array Slot), lv_has ls 2 [(0, .ref (a 0))] → W p l e rmX8_as s m args below meth c H locs 0 0 Q (F0 m 45 ls []) := by
        intro u_45 hf H locs hP hD hS ls hl
        unfold fX8_as_J45 at hf
        refine lv_aload_n hx hb dX8_as_45 rfl (lv_at hl 0 rfl) ?_
        refine va_get (D := (dC, dI)) (ci := 8) (C := RX8) (T := TX8) (N := 47) hx hb hts (fun _ h => List.mem_cons_of_mem _ (List.mem_append_right _ h)) hown hK hP 0 rfl rfl 1 (by decide) (hts (.fieldLink RX8 139 "SkewBoardModel" "kind" "I") (List.mem_of_getElem? (i := 1) rfl)) (fun _ h9 => h9) rfl dX8_as_46 ?_
        refine lv_goto (tgt := 53) hx hb dX8_as_49 (by decide) ?_
        exact J53 v_kind hf _ _ hP hD hS ls (lv_sub hl [] rfl)
      refine lv_if_eq (tgt := 45) hx hb dX8_as_21 (by decide) (fun c_5 => ?_) (fun c_5 => ?_)
      · rw [if_pos c_5] at hf
        exact J45 () hf _ _ hP hD hS ls (lv_sub hl [0] rfl)
      · rw [if_neg c_5] at hf
        refine lv_iload_n hx hb dX8_as_24 rfl (lv_at hl 1 rfl) ?_
        refine lv_aload_n hx hb dX8_as_25 rfl (lv_at hl 0 rfl) ?_
        refine va_get (D := (dC, dI)) (ci := 8) (C := RX8) (T := TX8) (N := 47) hx hb hts (fun _ h => List.mem_cons_of_mem _ (List.mem_append_right _ h)) hown hK hP 0 rfl rfl 1 (by decide) (hts (.fieldLink RX8 139 "SkewBoardModel" "kind" "I") (List.mem_of_getElem? (i := 1) rfl)) (fun _ h9 => h9) rfl dX8_as_26 ?_
        refine lv_icmp_eq (tgt := 45) hx hb dX8_as_29 (by decide) (fun c_6 => ?_) (fun c_6 => ?_)
        · rw [if_pos c_6] at hf
          exact J45 () hf _ _ hP hD hS ls (lv_sub hl [0] rfl)
        · rw [if_neg c_6] at hf
          refine lv_iload_n hx hb dX8_as_32 rfl (lv_at hl 1 rfl) ?_
          refine lv_iconst (v := 1) hx hb dX8_as_33 (by decide) ?_
          have J52 : ∀ (u_52 : Unit), fX8_as_J52 (fX8_as_J53) u_52 = some fin → ∀ (H : Heap) (locs : List Loc), va_P (dC, dI) vwCl (wX8 cI cB cE a v_boards v_kind v_rows v_outer v_inner v_content v_boxes v_rowOf v_columnOf v_seen v_seenWhat v_seenCan v_pageLength v_page v_isWhole v_newKind v_newRows v_newOuter v_newInner v_newContent v_now v_left v_box v_isCounted v_counted v_given v_isTermed v_terms v_term v_shape v_readBoxes v_readRow v_readColumn v_grid v_often v_seedNow v_isKept v_keptBoard v_keptKind v_keptRows v_keptSeen v_keptOuter v_keptInner v_keptContent v_keptWhat v_keptCan v_h) H → va_D A (wX8 cI cB cE a v_boards v_kind v_rows v_outer v_inner v_content v_boxes v_rowOf v_columnOf v_seen v_seenWhat v_seenCan v_pageLength v_page v_isWhole v_newKind v_newRows v_newOuter v_newInner v_newContent v_now v_left v_box v_isCounted v_counted v_given v_isTermed v_terms v_term v_shape v_readBoxes v_readRow v_readColumn v_grid v_often v_seedNow v_isKept v_keptBoard v_keptKind v_keptRows v_keptSeen v_keptOuter v_keptInner v_keptContent v_keptWhat v_keptCan v_h) → va_S A s.heap H locs → ∀ (ls : Array Slot), lv_has ls 2 [] → W p l e rmX8_as s m args below meth c H locs 0 0 Q (F0 m 52 ls []) := by
            intro u_52 hf H locs hP hD hS ls hl
            unfold fX8_as_J52 at hf
            refine lv_iconst (v := (-1)) hx hb dX8_as_52 (by decide) ?_
            exact J53 (-1) hf _ _ hP hD hS ls (lv_sub hl [] rfl)
          refine lv_icmp_ne (tgt := 52) hx hb dX8_as_34 (by decide) (fun c_7 => ?_) (fun c_7 => ?_)
          · rw [if_neg c_7] at hf
            exact J52 () hf _ _ hP hD hS ls (lv_sub hl [] rfl)
          · rw [if_pos c_7] at hf
            refine lv_aload_n hx hb dX8_as_37 rfl (lv_at hl 0 rfl) ?_
            refine va_get (D := (dC, dI)) (ci := 8) (C := RX8) (T := TX8) (N := 47) hx hb hts (fun _ h => List.mem_cons_of_mem _ (List.mem_append_right _ h)) hown hK hP 0 rfl rfl 1 (by decide) (hts (.fieldLink RX8 139 "SkewBoardModel" "kind" "I") (List.mem_of_getElem? (i := 1) rfl)) (fun _ h9 => h9) rfl dX8_as_38 ?_
            refine lv_iconst (v := 2) hx hb dX8_as_41 (by decide) ?_
            refine lv_icmp_ne (tgt := 52) hx hb dX8_as_42 (by decide) (fun c_8 => ?_) (fun c_8 => ?_)
            · rw [if_neg c_8] at hf
              exact J52 () hf _ _ hP hD hS ls (lv_sub hl [] rfl)
            · rw [if_pos c_8] at hf
              exact J45 () hf _ _ hP hD hS ls (lv_sub hl [0] rfl)
    · rw [if_pos c_4] at hf
      refine lv_bipush (v := (-103)) hx hb dX8_as_17 (by decide) ?_
      have hQ2 := hQ
      rw [← Option.some.inj hf] at hQ2
      exact cx_iret hQ2 hx hb hr hlocks hK hP hD hS dX8_as_19
  · rw [if_pos c_2] at hf
    refine lv_bipush (v := (-102)) hx hb dX8_as_7 (by decide) ?_
    have hQ2 := hQ
    rw [← Option.some.inj hf] at hQ2
    exact cx_iret hQ2 hx hb hr hlocks hK hP hD hS dX8_as_9

def fX8_isRow (p1 : Int32) (v_rows : Int32) : Option (Int32) :=
  bd (fX8_within p1 0 (v_rows - 1)) (fun r_1 => gd (isb r_1) (some r_1))
def rmX8_isRow : Room := { frames := 1, cells := 0, slots := 0, locals := 22 }
set_option maxRecDepth 100000 in
set_option maxHeartbeats 4000000 in
theorem ctX8_isRow (l : Launch) (z : Nat × Nat × Nat) (dC : Nat → ClassId) (dI : Nat → Nat → Nat) (cI cB cE : ClassId) (a : Nat → Nat) (v_boards : Int32) (v_kind : Int32) (v_rows : Int32) (v_outer : Nat → Int32) (v_inner : Nat → Int32) (v_content : Nat → Int32) (v_boxes : Int32) (v_rowOf : Nat → Int32) (v_columnOf : Nat → Int32) (v_seen : Int32) (v_seenWhat : Nat → Int32) (v_seenCan : Nat → Int32) (v_pageLength : Int32) (v_page : Nat → Int32) (v_isWhole : Int32) (v_newKind : Int32) (v_newRows : Int32) (v_newOuter : Nat → Int32) (v_newInner : Nat → Int32) (v_newContent : Nat → Int32) (v_now : Nat → Int32) (v_left : Nat → Int32) (v_box : Int32) (v_isCounted : Int32) (v_counted : Int32) (v_given : Nat → Int32) (v_isTermed : Int32) (v_terms : Int32) (v_term : Nat → Int32) (v_shape : Nat → Int32) (v_readBoxes : Int32) (v_readRow : Nat → Int32) (v_readColumn : Nat → Int32) (v_grid : Nat → Int32) (v_often : Nat → Int32) (v_seedNow : Int64) (v_isKept : Int32) (v_keptBoard : Int32) (v_keptKind : Int32) (v_keptRows : Int32) (v_keptSeen : Int32) (v_keptOuter : Nat → Int32) (v_keptInner : Nat → Int32) (v_keptContent : Nat → Int32) (v_keptWhat : Nat → Int32) (v_keptCan : Nat → Int32) (v_h : Int64) (p1 : Int32) (fin : Int32) (hf : fX8_isRow p1 v_rows = some fin) : Ct l z (dC, dI) (tyL cI cB cE) yX8_isRow wsX8_isRow rmX8_isRow [.ref (a 0), .int p1] (wX8 cI cB cE a v_boards v_kind v_rows v_outer v_inner v_content v_boxes v_rowOf v_columnOf v_seen v_seenWhat v_seenCan v_pageLength v_page v_isWhole v_newKind v_newRows v_newOuter v_newInner v_newContent v_now v_left v_box v_isCounted v_counted v_given v_isTermed v_terms v_term v_shape v_readBoxes v_readRow v_readColumn v_grid v_often v_seedNow v_isKept v_keptBoard v_keptKind v_keptRows v_keptSeen v_keptOuter v_keptInner v_keptContent v_keptWhat v_keptCan v_h) (some (.int fin)) (wX8 cI cB cE a v_boards v_kind v_rows v_outer v_inner v_content v_boxes v_rowOf v_columnOf v_seen v_seenWhat v_seenCan v_pageLength v_page v_isWhole v_newKind v_newRows v_newOuter v_newInner v_newContent v_now v_left v_box v_isCounted v_counted v_given v_isTermed v_terms v_term v_shape v_readBoxes v_readRow v_readColumn v_grid v_often v_seedNow v_isKept v_keptBoard v_keptKind v_keptRows v_keptSeen v_keptOuter v_keptInner v_keptContent v_keptWhat v_keptCan v_h) := by
  refine Met.ofC (cc := cX8_isRow) (maxL := 2) (ret := (some .boolean)) (by decide) rfl (Nat.le_of_ble_eq_true rfl) ?_
  intro p e s m args below meth c A Q ls hx hb hr hml hts hown hlocks hA hK hP hD hZ hS hQ hl
  have hown : s.vm.findClass RX8 = some m.cls := hown
  have hl : lv_has ls 2 [(0, .ref (a 0)), (1, .int p1)] := hl
  unfold fX8_isRow at hf
  refine lv_iload_n hx hb dX8_isRow_0 rfl (lv_at hl 1 rfl) ?_
  refine lv_iconst (v := 0) hx hb dX8_isRow_1 (by decide) ?_
  refine lv_aload_n hx hb dX8_isRow_2 rfl (lv_at hl 0 rfl) ?_
  refine va_get (D := (dC, dI)) (ci := 8) (C := RX8) (T := TX8) (N := 47) hx hb hts (fun _ h => List.mem_cons_of_mem _ (List.mem_append_right _ h)) hown hK hP 0 rfl rfl 2 (by decide) (hts (.fieldLink RX8 127 "SkewBoardModel" "rows" "I") (List.mem_of_getElem? (i := 1) rfl)) (fun _ h9 => h9) rfl dX8_isRow_3 ?_
  refine lv_iconst (v := 1) hx hb dX8_isRow_6 (by decide) ?_
  refine lv_isub hx hb dX8_isRow_7 ?_
  obtain ⟨r_1, hr_1, hf⟩ := bd_some hf
  refine cx_run0 (cx_S (A := A) (As := [.int p1, .int 0, .int (v_rows - 1)]) (rest := []) ⟨hx, hb, hml, hown, hts⟩ (ctX8_within l z dC dI cI cB cE p1 0 (v_rows - 1) r_1 hr_1) (va_cwS 3 hts gX8_isRow_X8_within rfl rfl rfl (by decide +kernel) ⟨Nat.le_of_ble_eq_true rfl, Nat.le_of_ble_eq_true rfl⟩) hK vaP0 vaD0 hZ hS hA rfl hl.1 rfl (Nat.le_of_ble_eq_true rfl) dX8_isRow_8) hP hS hA [.int r_1] rfl (fun H locs hP hS => ?_)
  obtain ⟨g_2, hf⟩ := gd_some hf
  have hQ2 := hQ
  rw [← Option.some.inj hf] at hQ2
  exact cx_zret (isb_nar g_2) hQ2 hx hb hr hlocks hK hP hD hS dX8_isRow_11

def fX8_row_J46 (y0_46 : Int32) : Option (Int32) :=
    some y0_46
def fX8_row (p1 : Int32) (p2 : Int32) (v_rows : Int32) (v_outer : Nat → Int32) (v_inner : Nat → Int32) : Option (Int32) :=
  bd (fX8_isRow p1 v_rows) (fun r_1 => if r_1 = 0 then (fX8_row_J46 (-101)) else (bd (fX8_within p2 0 1) (fun r_3 => if r_3 = 0 then (fX8_row_J46 (-102)) else (if p2 = 0 then (gd (inb p1 4) (fX8_row_J46 (v_outer p1.toNatClampNeg))) else (gd (inb p1 4) (fX8_row_J46 (v_inner p1.toNatClampNeg)))))))
def rmX8_row : Room := { frames := 2, cells := 0, slots := 0, locals := 43 }
set_option maxRecDepth 100000 in
set_option maxHeartbeats 4000000 in
theorem ctX8_row (l : Launch) (z : Nat × Nat × Nat) (dC : Nat → ClassId) (dI : Nat → Nat → Nat) (cI cB cE : ClassId) (a : Nat → Nat) (v_boards : Int32) (v_kind : Int32) (v_rows : Int32) (v_outer : Nat → Int32) (v_inner : Nat → Int32) (v_content : Nat → Int32) (v_boxes : Int32) (v_rowOf : Nat → Int32) (v_columnOf : Nat → Int32) (v_seen : Int32) (v_seenWhat : Nat → Int32) (v_seenCan : Nat → Int32) (v_pageLength : Int32) (v_page : Nat → Int32) (v_isWhole : Int32) (v_newKind : Int32) (v_newRows : Int32) (v_newOuter : Nat → Int32) (v_newInner : Nat → Int32) (v_newContent : Nat → Int32) (v_now : Nat → Int32) (v_left : Nat → Int32) (v_box : Int32) (v_isCounted : Int32) (v_counted : Int32) (v_given : Nat → Int32) (v_isTermed : Int32) (v_terms : Int32) (v_term : Nat → Int32) (v_shape : Nat → Int32) (v_readBoxes : Int32) (v_readRow : Nat → Int32) (v_readColumn : Nat → Int32) (v_grid : Nat → Int32) (v_often : Nat → Int32) (v_seedNow : Int64) (v_isKept : Int32) (v_keptBoard : Int32) (v_keptKind : Int32) (v_keptRows : Int32) (v_keptSeen : Int32) (v_keptOuter : Nat → Int32) (v_keptInner : Nat → Int32) (v_keptContent : Nat → Int32) (v_keptWhat : Nat → Int32) (v_keptCan : Nat → Int32) (v_h : Int64) (p1 : Int32) (p2 : Int32) (fin : Int32) (hf : fX8_row p1 p2 v_rows v_outer v_inner = some fin) : Ct l z (dC, dI) (tyL cI cB cE) yX8_row wsX8_row rmX8_row [.ref (a 0), .int p1, .int p2] (wX8 cI cB cE a v_boards v_kind v_rows v_outer v_inner v_content v_boxes v_rowOf v_columnOf v_seen v_seenWhat v_seenCan v_pageLength v_page v_isWhole v_newKind v_newRows v_newOuter v_newInner v_newContent v_now v_left v_box v_isCounted v_counted v_given v_isTermed v_terms v_term v_shape v_readBoxes v_readRow v_readColumn v_grid v_often v_seedNow v_isKept v_keptBoard v_keptKind v_keptRows v_keptSeen v_keptOuter v_keptInner v_keptContent v_keptWhat v_keptCan v_h) (some (.int fin)) (wX8 cI cB cE a v_boards v_kind v_rows v_outer v_inner v_content v_boxes v_rowOf v_columnOf v_seen v_seenWhat v_seenCan v_pageLength v_page v_isWhole v_newKind v_newRows v_newOuter v_newInner v_newContent v_now v_left v_box v_isCounted v_counted v_given v_isTermed v_terms v_term v_shape v_readBoxes v_readRow v_readColumn v_grid v_often v_seedNow v_isKept v_keptBoard v_keptKind v_keptRows v_keptSeen v_keptOuter v_keptInner v_keptContent v_keptWhat v_keptCan v_h) := by
  refine Met.ofC (cc := cX8_row) (maxL := 3) (ret := (some .int)) (by decide) rfl (Nat.le_of_ble_eq_true rfl) ?_
  intro p e s m args below meth c A Q ls hx hb hr hml hts hown hlocks hA hK hP hD hZ hS hQ hl
  have hown : s.vm.findClass RX8 = some m.cls := hown
  have hl : lv_has ls 3 [(0, .ref (a 0)), (1, .int p1), (2, .int p2)] := hl
  unfold fX8_row at hf
  refine lv_aload_n hx hb dX8_row_0 rfl (lv_at hl 0 rfl) ?_
  refine lv_iload_n hx hb dX8_row_1 rfl (lv_at hl 1 rfl) ?_
  obtain ⟨r_1, hr_1, hf⟩ := bd_some hf
  refine cx_runW (cx_V (As := [.int p1]) (rest := []) ⟨hx, hb, hml, hown, hts⟩ (ctX8_isRow l z dC dI cI cB cE a v_boards v_kind v_rows v_outer v_inner v_content v_boxes v_rowOf v_columnOf v_seen v_seenWhat v_seenCan v_pageLength v_page v_isWhole v_newKind v_newRows v_newOuter v_newInner v_newContent v_now v_left v_box v_isCounted v_counted v_given v_isTermed v_terms v_term v_shape v_readBoxes v_readRow v_readColumn v_grid v_often v_seedNow v_isKept v_keptBoard v_keptKind v_keptRows v_keptSeen v_keptOuter v_keptInner v_keptContent v_keptWhat v_keptCan v_h p1 r_1 hr_1) (cwV 1 hts gX8_row_X8_isRow rfl rfl rfl (by decide +kernel) ⟨Nat.le_of_ble_eq_true rfl, Nat.le_of_ble_eq_true rfl⟩) hK hP hD hZ hS hA (ci := 8) (q0 := 0) rfl rfl rfl hl.1 rfl (Nat.le_of_ble_eq_true rfl) dX8_row_2) hD hS hA [.int r_1] rfl (fun H locs hP hD hS => ?_)
  have J46 : ∀ (y0_46 : Int32), fX8_row_J46  y0_46 = some fin → ∀ (H : Heap) (locs : List Loc), va_P (dC, dI) vwCl (wX8 cI cB cE a v_boards v_kind v_rows v_outer v_inner v_content v_boxes v_rowOf v_columnOf v_seen v_seenWhat v_seenCan v_pageLength v_page v_isWhole v_newKind v_newRows v_newOuter v_newInner v_newContent v_now v_left v_box v_isCounted v_counted v_given v_isTermed v_terms v_term v_shape v_readBoxes v_readRow v_readColumn v_grid v_often v_seedNow v_isKept v_keptBoard v_keptKind v_keptRows v_keptSeen v_keptOuter v_keptInner v_keptContent v_keptWhat v_keptCan v_h) H → va_D A (wX8 cI cB cE a v_boards v_kind v_rows v_outer v_inner v_content v_boxes v_rowOf v_columnOf v_seen v_seenWhat v_seenCan v_pageLength v_page v_isWhole v_newKind v_newRows v_newOuter v_newInner v_newContent v_now v_left v_box v_isCounted v_counted v_given v_isTermed v_terms v_term v_shape v_readBoxes v_readRow v_readColumn v_grid v_often v_seedNow v_isKept v_keptBoard v_keptKind v_keptRows v_keptSeen v_keptOuter v_keptInner v_keptContent v_keptWhat v_keptCan v_h) → va_S A s.heap H locs → ∀ (ls : Array Slot), lv_has ls 3 [] → W p l e rmX8_row s m args below meth c H locs 0 0 Q (F0 m 46 ls [.int y0_46]) := by
    intro y0_46 hf H locs hP hD hS ls hl
    unfold fX8_row_J46 at hf
    have hQ2 := hQ
    rw [← Option.some.inj hf] at hQ2
    exact cx_iret hQ2 hx hb hr hlocks hK hP hD hS dX8_row_46
  refine lv_if_ne (tgt := 13) hx hb dX8_row_5 (by decide) (fun c_2 => ?_) (fun c_2 => ?_)
  · rw [if_neg c_2] at hf
    refine lv_iload_n hx hb dX8_row_13 rfl (lv_at hl 2 rfl) ?_
    refine lv_iconst (v := 0) hx hb dX8_row_14 (by decide) ?_
    refine lv_iconst (v := 1) hx hb dX8_row_15 (by decide) ?_
    obtain ⟨r_3, hr_3, hf⟩ := bd_some hf
    refine cx_run0 (cx_S (A := A) (As := [.int p2, .int 0, .int 1]) (rest := []) ⟨hx, hb, hml, hown, hts⟩ (ctX8_within l z dC dI cI cB cE p2 0 1 r_3 hr_3) (va_cwS 3 hts gX8_row_X8_within rfl rfl rfl (by decide +kernel) ⟨Nat.le_of_ble_eq_true rfl, Nat.le_of_ble_eq_true rfl⟩) hK vaP0 vaD0 hZ hS hA rfl hl.1 rfl (Nat.le_of_ble_eq_true rfl) dX8_row_16) hP hS hA [.int r_3] rfl (fun H locs hP hS => ?_)
    refine lv_if_ne (tgt := 27) hx hb dX8_row_19 (by decide) (fun c_4 => ?_) (fun c_4 => ?_)
    · rw [if_neg c_4] at hf
      refine lv_iload_n hx hb dX8_row_27 rfl (lv_at hl 2 rfl) ?_
      refine lv_if_ne (tgt := 40) hx hb dX8_row_28 (by decide) (fun c_5 => ?_) (fun c_5 => ?_)
      · rw [if_neg c_5] at hf
        refine lv_aload_n hx hb dX8_row_40 rfl (lv_at hl 0 rfl) ?_
        refine va_get (D := (dC, dI)) (ci := 8) (C := RX8) (T := TX8) (N := 47) hx hb hts (fun _ h => List.mem_cons_of_mem _ (List.mem_append_right _ h)) hown hK hP 0 rfl rfl 4 (by decide) (hts (.fieldLink RX8 13 "SkewBoardModel" "inner" "[I") (List.mem_of_getElem? (i := 2) rfl)) (fun _ h9 => h9) rfl dX8_row_41 ?_
        refine lv_iload_n hx hb dX8_row_44 rfl (lv_at hl 1 rfl) ?_
        obtain ⟨g_6, hf⟩ := gd_some hf
        refine va_iald hx hb hK hP 2 0 rfl rfl (inb_vp g_6) dX8_row_45 ?_
        exact J46 (v_inner p1.toNatClampNeg) hf _ _ hP hD hS ls (lv_sub hl [] rfl)
      · rw [if_pos c_5] at hf
        refine lv_aload_n hx hb dX8_row_31 rfl (lv_at hl 0 rfl) ?_
        refine va_get (D := (dC, dI)) (ci := 8) (C := RX8) (T := TX8) (N := 47) hx hb hts (fun _ h => List.mem_cons_of_mem _ (List.mem_append_right _ h)) hown hK hP 0 rfl rfl 3 (by decide) (hts (.fieldLink RX8 7 "SkewBoardModel" "outer" "[I") (List.mem_of_getElem? (i := 1) rfl)) (fun _ h9 => h9) rfl dX8_row_32 ?_
        refine lv_iload_n hx hb dX8_row_35 rfl (lv_at hl 1 rfl) ?_
        obtain ⟨g_7, hf⟩ := gd_some hf
        refine va_iald hx hb hK hP 1 0 rfl rfl (inb_vp g_7) dX8_row_36 ?_
        refine lv_goto (tgt := 46) hx hb dX8_row_37 (by decide) ?_
        exact J46 (v_outer p1.toNatClampNeg) hf _ _ hP hD hS ls (lv_sub hl [] rfl)
    · rw [if_pos c_4] at hf
      refine lv_bipush (v := (-102)) hx hb dX8_row_22 (by decide) ?_
      refine lv_goto (tgt := 46) hx hb dX8_row_24 (by decide) ?_
      exact J46 (-102) hf _ _ hP hD hS ls (lv_sub hl [] rfl)
  · rw [if_pos c_2] at hf
    refine lv_bipush (v := (-101)) hx hb dX8_row_8 (by decide) ?_
    refine lv_goto (tgt := 46) hx hb dX8_row_10 (by decide) ?_
    exact J46 (-101) hf _ _ hP hD hS ls (lv_sub hl [] rfl)

def fX8_content_J32 (y0_32 : Int32) : Option (Int32) :=
    some y0_32
def fX8_content (p1 : Int32) (v_rows : Int32) (v_content : Nat → Int32) : Option (Int32) :=
  bd (fX8_within p1 1 4) (fun r_1 => if r_1 = 0 then (some (-102)) else (bd (fX8_isBoard v_rows) (fun r_3 => if r_3 = 0 then (fX8_content_J32 (-103)) else (gd (inb (p1 - 1) 4) (fX8_content_J32 (v_content (p1 - 1).toNatClampNeg))))))
def rmX8_content : Room := { frames := 1, cells := 0, slots := 0, locals := 22 }
set_option maxRecDepth 100000 in
set_option maxHeartbeats 4000000 in
theorem ctX8_content (l : Launch) (z : Nat × Nat × Nat) (dC : Nat → ClassId) (dI : Nat → Nat → Nat) (cI cB cE : ClassId) (a : Nat → Nat) (v_boards : Int32) (v_kind : Int32) (v_rows : Int32) (v_outer : Nat → Int32) (v_inner : Nat → Int32) (v_content : Nat → Int32) (v_boxes : Int32) (v_rowOf : Nat → Int32) (v_columnOf : Nat → Int32) (v_seen : Int32) (v_seenWhat : Nat → Int32) (v_seenCan : Nat → Int32) (v_pageLength : Int32) (v_page : Nat → Int32) (v_isWhole : Int32) (v_newKind : Int32) (v_newRows : Int32) (v_newOuter : Nat → Int32) (v_newInner : Nat → Int32) (v_newContent : Nat → Int32) (v_now : Nat → Int32) (v_left : Nat → Int32) (v_box : Int32) (v_isCounted : Int32) (v_counted : Int32) (v_given : Nat → Int32) (v_isTermed : Int32) (v_terms : Int32) (v_term : Nat → Int32) (v_shape : Nat → Int32) (v_readBoxes : Int32) (v_readRow : Nat → Int32) (v_readColumn : Nat → Int32) (v_grid : Nat → Int32) (v_often : Nat → Int32) (v_seedNow : Int64) (v_isKept : Int32) (v_keptBoard : Int32) (v_keptKind : Int32) (v_keptRows : Int32) (v_keptSeen : Int32) (v_keptOuter : Nat → Int32) (v_keptInner : Nat → Int32) (v_keptContent : Nat → Int32) (v_keptWhat : Nat → Int32) (v_keptCan : Nat → Int32) (v_h : Int64) (p1 : Int32) (fin : Int32) (hf : fX8_content p1 v_rows v_content = some fin) : Ct l z (dC, dI) (tyL cI cB cE) yX8_content wsX8_content rmX8_content [.ref (a 0), .int p1] (wX8 cI cB cE a v_boards v_kind v_rows v_outer v_inner v_content v_boxes v_rowOf v_columnOf v_seen v_seenWhat v_seenCan v_pageLength v_page v_isWhole v_newKind v_newRows v_newOuter v_newInner v_newContent v_now v_left v_box v_isCounted v_counted v_given v_isTermed v_terms v_term v_shape v_readBoxes v_readRow v_readColumn v_grid v_often v_seedNow v_isKept v_keptBoard v_keptKind v_keptRows v_keptSeen v_keptOuter v_keptInner v_keptContent v_keptWhat v_keptCan v_h) (some (.int fin)) (wX8 cI cB cE a v_boards v_kind v_rows v_outer v_inner v_content v_boxes v_rowOf v_columnOf v_seen v_seenWhat v_seenCan v_pageLength v_page v_isWhole v_newKind v_newRows v_newOuter v_newInner v_newContent v_now v_left v_box v_isCounted v_counted v_given v_isTermed v_terms v_term v_shape v_readBoxes v_readRow v_readColumn v_grid v_often v_seedNow v_isKept v_keptBoard v_keptKind v_keptRows v_keptSeen v_keptOuter v_keptInner v_keptContent v_keptWhat v_keptCan v_h) := by
  refine Met.ofC (cc := cX8_content) (maxL := 2) (ret := (some .int)) (by decide) rfl (Nat.le_of_ble_eq_true rfl) ?_
  intro p e s m args below meth c A Q ls hx hb hr hml hts hown hlocks hA hK hP hD hZ hS hQ hl
  have hown : s.vm.findClass RX8 = some m.cls := hown
  have hl : lv_has ls 2 [(0, .ref (a 0)), (1, .int p1)] := hl
  unfold fX8_content at hf
  refine lv_iload_n hx hb dX8_content_0 rfl (lv_at hl 1 rfl) ?_
  refine lv_iconst (v := 1) hx hb dX8_content_1 (by decide) ?_
  refine lv_iconst (v := 4) hx hb dX8_content_2 (by decide) ?_
  obtain ⟨r_1, hr_1, hf⟩ := bd_some hf
  refine cx_run0 (cx_S (A := A) (As := [.int p1, .int 1, .int 4]) (rest := []) ⟨hx, hb, hml, hown, hts⟩ (ctX8_within l z dC dI cI cB cE p1 1 4 r_1 hr_1) (va_cwS 3 hts gX8_content_X8_within rfl rfl rfl (by decide +kernel) ⟨Nat.le_of_ble_eq_true rfl, Nat.le_of_ble_eq_true rfl⟩) hK vaP0 vaD0 hZ hS hA rfl hl.1 rfl (Nat.le_of_ble_eq_true rfl) dX8_content_3) hP hS hA [.int r_1] rfl (fun H locs hP hS => ?_)
  refine lv_if_ne (tgt := 12) hx hb dX8_content_6 (by decide) (fun c_2 => ?_) (fun c_2 => ?_)
  · rw [if_neg c_2] at hf
    refine lv_aload_n hx hb dX8_content_12 rfl (lv_at hl 0 rfl) ?_
    obtain ⟨r_3, hr_3, hf⟩ := bd_some hf
    refine cx_runW (cx_V (As := []) (rest := []) ⟨hx, hb, hml, hown, hts⟩ (ctX8_isBoard l z dC dI cI cB cE a v_boards v_kind v_rows v_outer v_inner v_content v_boxes v_rowOf v_columnOf v_seen v_seenWhat v_seenCan v_pageLength v_page v_isWhole v_newKind v_newRows v_newOuter v_newInner v_newContent v_now v_left v_box v_isCounted v_counted v_given v_isTermed v_terms v_term v_shape v_readBoxes v_readRow v_readColumn v_grid v_often v_seedNow v_isKept v_keptBoard v_keptKind v_keptRows v_keptSeen v_keptOuter v_keptInner v_keptContent v_keptWhat v_keptCan v_h r_3 hr_3) (cwV 0 hts gX8_content_X8_isBoard rfl rfl rfl (by decide +kernel) ⟨Nat.le_of_ble_eq_true rfl, Nat.le_of_ble_eq_true rfl⟩) hK hP hD hZ hS hA (ci := 8) (q0 := 0) rfl rfl rfl hl.1 rfl (Nat.le_of_ble_eq_true rfl) dX8_content_13) hD hS hA [.int r_3] rfl (fun H locs hP hD hS => ?_)
    have J32 : ∀ (y0_32 : Int32), fX8_content_J32  y0_32 = some fin → ∀ (H : Heap) (locs : List Loc), va_P (dC, dI) vwCl (wX8 cI cB cE a v_boards v_kind v_rows v_outer v_inner v_content v_boxes v_rowOf v_columnOf v_seen v_seenWhat v_seenCan v_pageLength v_page v_isWhole v_newKind v_newRows v_newOuter v_newInner v_newContent v_now v_left v_box v_isCounted v_counted v_given v_isTermed v_terms v_term v_shape v_readBoxes v_readRow v_readColumn v_grid v_often v_seedNow v_isKept v_keptBoard v_keptKind v_keptRows v_keptSeen v_keptOuter v_keptInner v_keptContent v_keptWhat v_keptCan v_h) H → va_D A (wX8 cI cB cE a v_boards v_kind v_rows v_outer v_inner v_content v_boxes v_rowOf v_columnOf v_seen v_seenWhat v_seenCan v_pageLength v_page v_isWhole v_newKind v_newRows v_newOuter v_newInner v_newContent v_now v_left v_box v_isCounted v_counted v_given v_isTermed v_terms v_term v_shape v_readBoxes v_readRow v_readColumn v_grid v_often v_seedNow v_isKept v_keptBoard v_keptKind v_keptRows v_keptSeen v_keptOuter v_keptInner v_keptContent v_keptWhat v_keptCan v_h) → va_S A s.heap H locs → ∀ (ls : Array Slot), lv_has ls 2 [] → W p l e rmX8_content s m args below meth c H locs 0 0 Q (F0 m 32 ls [.int y0_32]) := by
      intro y0_32 hf H locs hP hD hS ls hl
      unfold fX8_content_J32 at hf
      have hQ2 := hQ
      rw [← Option.some.inj hf] at hQ2
      exact cx_iret hQ2 hx hb hr hlocks hK hP hD hS dX8_content_32
    refine lv_if_eq (tgt := 30) hx hb dX8_content_16 (by decide) (fun c_4 => ?_) (fun c_4 => ?_)
    · rw [if_pos c_4] at hf
      refine lv_bipush (v := (-103)) hx hb dX8_content_30 (by decide) ?_
      exact J32 (-103) hf _ _ hP hD hS ls (lv_sub hl [] rfl)
    · rw [if_neg c_4] at hf
      refine lv_aload_n hx hb dX8_content_19 rfl (lv_at hl 0 rfl) ?_
      refine va_get (D := (dC, dI)) (ci := 8) (C := RX8) (T := TX8) (N := 47) hx hb hts (fun _ h => List.mem_cons_of_mem _ (List.mem_append_right _ h)) hown hK hP 0 rfl rfl 5 (by decide) (hts (.fieldLink RX8 16 "SkewBoardModel" "content" "[I") (List.mem_of_getElem? (i := 1) rfl)) (fun _ h9 => h9) rfl dX8_content_20 ?_
      refine lv_iload_n hx hb dX8_content_23 rfl (lv_at hl 1 rfl) ?_
      refine lv_iconst (v := 1) hx hb dX8_content_24 (by decide) ?_
      refine lv_isub hx hb dX8_content_25 ?_
      obtain ⟨g_5, hf⟩ := gd_some hf
      refine va_iald hx hb hK hP 3 0 rfl rfl (inb_vp g_5) dX8_content_26 ?_
      refine lv_goto (tgt := 32) hx hb dX8_content_27 (by decide) ?_
      exact J32 (v_content (p1 - 1).toNatClampNeg) hf _ _ hP hD hS ls (lv_sub hl [] rfl)
  · rw [if_pos c_2] at hf
    refine lv_bipush (v := (-102)) hx hb dX8_content_9 (by decide) ?_
    have hQ2 := hQ
    rw [← Option.some.inj hf] at hQ2
    exact cx_iret hQ2 hx hb hr hlocks hK hP hD hS dX8_content_11

def fX8_box_J52 (y0_52 : Int32) : Option (Int32) :=
    some y0_52
def fX8_box (p1 : Int32) (p2 : Int32) (v_boxes : Int32) (v_rowOf : Nat → Int32) (v_columnOf : Nat → Int32) : Option (Int32) :=
  bd (fX8_within p1 0 (v_boxes - 1)) (fun r_1 => if r_1 = 0 then (fX8_box_J52 (-101)) else (bd (fX8_within p2 0 1) (fun r_3 => if r_3 = 0 then (fX8_box_J52 (-102)) else (if p2 = 0 then (gd (inb p1 9) (fX8_box_J52 (v_rowOf p1.toNatClampNeg))) else (gd (inb p1 9) (fX8_box_J52 (v_columnOf p1.toNatClampNeg)))))))
def rmX8_box : Room := { frames := 1, cells := 0, slots := 0, locals := 22 }
set_option maxRecDepth 100000 in
set_option maxHeartbeats 4000000 in
theorem ctX8_box (l : Launch) (z : Nat × Nat × Nat) (dC : Nat → ClassId) (dI : Nat → Nat → Nat) (cI cB cE : ClassId) (a : Nat → Nat) (v_boards : Int32) (v_kind : Int32) (v_rows : Int32) (v_outer : Nat → Int32) (v_inner : Nat → Int32) (v_content : Nat → Int32) (v_boxes : Int32) (v_rowOf : Nat → Int32) (v_columnOf : Nat → Int32) (v_seen : Int32) (v_seenWhat : Nat → Int32) (v_seenCan : Nat → Int32) (v_pageLength : Int32) (v_page : Nat → Int32) (v_isWhole : Int32) (v_newKind : Int32) (v_newRows : Int32) (v_newOuter : Nat → Int32) (v_newInner : Nat → Int32) (v_newContent : Nat → Int32) (v_now : Nat → Int32) (v_left : Nat → Int32) (v_box : Int32) (v_isCounted : Int32) (v_counted : Int32) (v_given : Nat → Int32) (v_isTermed : Int32) (v_terms : Int32) (v_term : Nat → Int32) (v_shape : Nat → Int32) (v_readBoxes : Int32) (v_readRow : Nat → Int32) (v_readColumn : Nat → Int32) (v_grid : Nat → Int32) (v_often : Nat → Int32) (v_seedNow : Int64) (v_isKept : Int32) (v_keptBoard : Int32) (v_keptKind : Int32) (v_keptRows : Int32) (v_keptSeen : Int32) (v_keptOuter : Nat → Int32) (v_keptInner : Nat → Int32) (v_keptContent : Nat → Int32) (v_keptWhat : Nat → Int32) (v_keptCan : Nat → Int32) (v_h : Int64) (p1 : Int32) (p2 : Int32) (fin : Int32) (hf : fX8_box p1 p2 v_boxes v_rowOf v_columnOf = some fin) : Ct l z (dC, dI) (tyL cI cB cE) yX8_box wsX8_box rmX8_box [.ref (a 0), .int p1, .int p2] (wX8 cI cB cE a v_boards v_kind v_rows v_outer v_inner v_content v_boxes v_rowOf v_columnOf v_seen v_seenWhat v_seenCan v_pageLength v_page v_isWhole v_newKind v_newRows v_newOuter v_newInner v_newContent v_now v_left v_box v_isCounted v_counted v_given v_isTermed v_terms v_term v_shape v_readBoxes v_readRow v_readColumn v_grid v_often v_seedNow v_isKept v_keptBoard v_keptKind v_keptRows v_keptSeen v_keptOuter v_keptInner v_keptContent v_keptWhat v_keptCan v_h) (some (.int fin)) (wX8 cI cB cE a v_boards v_kind v_rows v_outer v_inner v_content v_boxes v_rowOf v_columnOf v_seen v_seenWhat v_seenCan v_pageLength v_page v_isWhole v_newKind v_newRows v_newOuter v_newInner v_newContent v_now v_left v_box v_isCounted v_counted v_given v_isTermed v_terms v_term v_shape v_readBoxes v_readRow v_readColumn v_grid v_often v_seedNow v_isKept v_keptBoard v_keptKind v_keptRows v_keptSeen v_keptOuter v_keptInner v_keptContent v_keptWhat v_keptCan v_h) := by
  refine Met.ofC (cc := cX8_box) (maxL := 3) (ret := (some .int)) (by decide) rfl (Nat.le_of_ble_eq_true rfl) ?_
  intro p e s m args below meth c A Q ls hx hb hr hml hts hown hlocks hA hK hP hD hZ hS hQ hl
  have hown : s.vm.findClass RX8 = some m.cls := hown
  have hl : lv_has ls 3 [(0, .ref (a 0)), (1, .int p1), (2, .int p2)] := hl
  unfold fX8_box at hf
  refine lv_iload_n hx hb dX8_box_0 rfl (lv_at hl 1 rfl) ?_
  refine lv_iconst (v := 0) hx hb dX8_box_1 (by decide) ?_
  refine lv_aload_n hx hb dX8_box_2 rfl (lv_at hl 0 rfl) ?_
  refine va_get (D := (dC, dI)) (ci := 8) (C := RX8) (T := TX8) (N := 47) hx hb hts (fun _ h => List.mem_cons_of_mem _ (List.mem_append_right _ h)) hown hK hP 0 rfl rfl 6 (by decide) (hts (.fieldLink RX8 124 "SkewBoardModel" "boxes" "I") (List.mem_of_getElem? (i := 1) rfl)) (fun _ h9 => h9) rfl dX8_box_3 ?_
  refine lv_iconst (v := 1) hx hb dX8_box_6 (by decide) ?_
  refine lv_isub hx hb dX8_box_7 ?_
  obtain ⟨r_1, hr_1, hf⟩ := bd_some hf
  refine cx_run0 (cx_S (A := A) (As := [.int p1, .int 0, .int (v_boxes - 1)]) (rest := []) ⟨hx, hb, hml, hown, hts⟩ (ctX8_within l z dC dI cI cB cE p1 0 (v_boxes - 1) r_1 hr_1) (va_cwS 3 hts gX8_box_X8_within rfl rfl rfl (by decide +kernel) ⟨Nat.le_of_ble_eq_true rfl, Nat.le_of_ble_eq_true rfl⟩) hK vaP0 vaD0 hZ hS hA rfl hl.1 rfl (Nat.le_of_ble_eq_true rfl) dX8_box_8) hP hS hA [.int r_1] rfl (fun H locs hP hS => ?_)
  have J52 : ∀ (y0_52 : Int32), fX8_box_J52  y0_52 = some fin → ∀ (H : Heap) (locs : List Loc), va_P (dC, dI) vwCl (wX8 cI cB cE a v_boards v_kind v_rows v_outer v_inner v_content v_boxes v_rowOf v_columnOf v_seen v_seenWhat v_seenCan v_pageLength v_page v_isWhole v_newKind v_newRows v_newOuter v_newInner v_newContent v_now v_left v_box v_isCounted v_counted v_given v_isTermed v_terms v_term v_shape v_readBoxes v_readRow v_readColumn v_grid v_often v_seedNow v_isKept v_keptBoard v_keptKind v_keptRows v_keptSeen v_keptOuter v_keptInner v_keptContent v_keptWhat v_keptCan v_h) H → va_D A (wX8 cI cB cE a v_boards v_kind v_rows v_outer v_inner v_content v_boxes v_rowOf v_columnOf v_seen v_seenWhat v_seenCan v_pageLength v_page v_isWhole v_newKind v_newRows v_newOuter v_newInner v_newContent v_now v_left v_box v_isCounted v_counted v_given v_isTermed v_terms v_term v_shape v_readBoxes v_readRow v_readColumn v_grid v_often v_seedNow v_isKept v_keptBoard v_keptKind v_keptRows v_keptSeen v_keptOuter v_keptInner v_keptContent v_keptWhat v_keptCan v_h) → va_S A s.heap H locs → ∀ (ls : Array Slot), lv_has ls 3 [] → W p l e rmX8_box s m args below meth c H locs 0 0 Q (F0 m 52 ls [.int y0_52]) := by
    intro y0_52 hf H locs hP hD hS ls hl
    unfold fX8_box_J52 at hf
    have hQ2 := hQ
    rw [← Option.some.inj hf] at hQ2
    exact cx_iret hQ2 hx hb hr hlocks hK hP hD hS dX8_box_52
  refine lv_if_ne (tgt := 19) hx hb dX8_box_11 (by decide) (fun c_2 => ?_) (fun c_2 => ?_)
  · rw [if_neg c_2] at hf
    refine lv_iload_n hx hb dX8_box_19 rfl (lv_at hl 2 rfl) ?_
    refine lv_iconst (v := 0) hx hb dX8_box_20 (by decide) ?_
    refine lv_iconst (v := 1) hx hb dX8_box_21 (by decide) ?_
    obtain ⟨r_3, hr_3, hf⟩ := bd_some hf
    refine cx_run0 (cx_S (A := A) (As := [.int p2, .int 0, .int 1]) (rest := []) ⟨hx, hb, hml, hown, hts⟩ (ctX8_within l z dC dI cI cB cE p2 0 1 r_3 hr_3) (va_cwS 3 hts gX8_box_X8_within rfl rfl rfl (by decide +kernel) ⟨Nat.le_of_ble_eq_true rfl, Nat.le_of_ble_eq_true rfl⟩) hK vaP0 vaD0 hZ hS hA rfl hl.1 rfl (Nat.le_of_ble_eq_true rfl) dX8_box_22) hP hS hA [.int r_3] rfl (fun H locs hP hS => ?_)
    refine lv_if_ne (tgt := 33) hx hb dX8_box_25 (by decide) (fun c_4 => ?_) (fun c_4 => ?_)
    · rw [if_neg c_4] at hf
      refine lv_iload_n hx hb dX8_box_33 rfl (lv_at hl 2 rfl) ?_
      refine lv_if_ne (tgt := 46) hx hb dX8_box_34 (by decide) (fun c_5 => ?_) (fun c_5 => ?_)
      · rw [if_neg c_5] at hf
        refine lv_aload_n hx hb dX8_box_46 rfl (lv_at hl 0 rfl) ?_
        refine va_get (D := (dC, dI)) (ci := 8) (C := RX8) (T := TX8) (N := 47) hx hb hts (fun _ h => List.mem_cons_of_mem _ (List.mem_append_right _ h)) hown hK hP 0 rfl rfl 8 (by decide) (hts (.fieldLink RX8 22 "SkewBoardModel" "columnOf" "[I") (List.mem_of_getElem? (i := 3) rfl)) (fun _ h9 => h9) rfl dX8_box_47 ?_
        refine lv_iload_n hx hb dX8_box_50 rfl (lv_at hl 1 rfl) ?_
        obtain ⟨g_6, hf⟩ := gd_some hf
        refine va_iald hx hb hK hP 5 0 rfl rfl (inb_vp g_6) dX8_box_51 ?_
        exact J52 (v_columnOf p1.toNatClampNeg) hf _ _ hP hD hS ls (lv_sub hl [] rfl)
      · rw [if_pos c_5] at hf
        refine lv_aload_n hx hb dX8_box_37 rfl (lv_at hl 0 rfl) ?_
        refine va_get (D := (dC, dI)) (ci := 8) (C := RX8) (T := TX8) (N := 47) hx hb hts (fun _ h => List.mem_cons_of_mem _ (List.mem_append_right _ h)) hown hK hP 0 rfl rfl 7 (by decide) (hts (.fieldLink RX8 19 "SkewBoardModel" "rowOf" "[I") (List.mem_of_getElem? (i := 2) rfl)) (fun _ h9 => h9) rfl dX8_box_38 ?_
        refine lv_iload_n hx hb dX8_box_41 rfl (lv_at hl 1 rfl) ?_
        obtain ⟨g_7, hf⟩ := gd_some hf
        refine va_iald hx hb hK hP 4 0 rfl rfl (inb_vp g_7) dX8_box_42 ?_
        refine lv_goto (tgt := 52) hx hb dX8_box_43 (by decide) ?_
        exact J52 (v_rowOf p1.toNatClampNeg) hf _ _ hP hD hS ls (lv_sub hl [] rfl)
    · rw [if_pos c_4] at hf
      refine lv_bipush (v := (-102)) hx hb dX8_box_28 (by decide) ?_
      refine lv_goto (tgt := 52) hx hb dX8_box_30 (by decide) ?_
      exact J52 (-102) hf _ _ hP hD hS ls (lv_sub hl [] rfl)
  · rw [if_pos c_2] at hf
    refine lv_bipush (v := (-101)) hx hb dX8_box_14 (by decide) ?_
    refine lv_goto (tgt := 52) hx hb dX8_box_16 (by decide) ?_
    exact J52 (-101) hf _ _ hP hD hS ls (lv_sub hl [] rfl)

def fX8_be (p1 : Int32) (v_kind : Int32) (v_rows : Int32) (v_isCounted : Int32) : Option (Int32 × Int32 × Int32) :=
  bd (fX8_isKind p1) (fun r_1 => if r_1 = 0 then (some ((-102), v_kind, v_isCounted)) else (bd (fX8_isBoard v_rows) (fun r_3 => if r_3 = 0 then (some ((-103), v_kind, v_isCounted)) else (some (v_kind, p1, 0)))))
def rmX8_be : Room := { frames := 2, cells := 0, slots := 0, locals := 42 }
set_option maxRecDepth 100000 in
set_option maxHeartbeats 4000000 in
theorem ctX8_be (l : Launch) (z : Nat × Nat × Nat) (dC : Nat → ClassId) (dI : Nat → Nat → Nat) (cI cB cE : ClassId) (a : Nat → Nat) (v_boards : Int32) (v_kind : Int32) (v_rows : Int32) (v_outer : Nat → Int32) (v_inner : Nat → Int32) (v_content : Nat → Int32) (v_boxes : Int32) (v_rowOf : Nat → Int32) (v_columnOf : Nat → Int32) (v_seen : Int32) (v_seenWhat : Nat → Int32) (v_seenCan : Nat → Int32) (v_pageLength : Int32) (v_page : Nat → Int32) (v_isWhole : Int32) (v_newKind : Int32) (v_newRows : Int32) (v_newOuter : Nat → Int32) (v_newInner : Nat → Int32) (v_newContent : Nat → Int32) (v_now : Nat → Int32) (v_left : Nat → Int32) (v_box : Int32) (v_isCounted : Int32) (v_counted : Int32) (v_given : Nat → Int32) (v_isTermed : Int32) (v_terms : Int32) (v_term : Nat → Int32) (v_shape : Nat → Int32) (v_readBoxes : Int32) (v_readRow : Nat → Int32) (v_readColumn : Nat → Int32) (v_grid : Nat → Int32) (v_often : Nat → Int32) (v_seedNow : Int64) (v_isKept : Int32) (v_keptBoard : Int32) (v_keptKind : Int32) (v_keptRows : Int32) (v_keptSeen : Int32) (v_keptOuter : Nat → Int32) (v_keptInner : Nat → Int32) (v_keptContent : Nat → Int32) (v_keptWhat : Nat → Int32) (v_keptCan : Nat → Int32) (v_h : Int64) (p1 : Int32) (fin : Int32 × Int32 × Int32) (hf : fX8_be p1 v_kind v_rows v_isCounted = some fin) : Ct l z (dC, dI) (tyL cI cB cE) yX8_be wsX8_be rmX8_be [.ref (a 0), .int p1] (wX8 cI cB cE a v_boards v_kind v_rows v_outer v_inner v_content v_boxes v_rowOf v_columnOf v_seen v_seenWhat v_seenCan v_pageLength v_page v_isWhole v_newKind v_newRows v_newOuter v_newInner v_newContent v_now v_left v_box v_isCounted v_counted v_given v_isTermed v_terms v_term v_shape v_readBoxes v_readRow v_readColumn v_grid v_often v_seedNow v_isKept v_keptBoard v_keptKind v_keptRows v_keptSeen v_keptOuter v_keptInner v_keptContent v_keptWhat v_keptCan v_h) (some (.int fin.1)) (wX8 cI cB cE a v_boards fin.2.1 v_rows v_outer v_inner v_content v_boxes v_rowOf v_columnOf v_seen v_seenWhat v_seenCan v_pageLength v_page v_isWhole v_newKind v_newRows v_newOuter v_newInner v_newContent v_now v_left v_box fin.2.2 v_counted v_given v_isTermed v_terms v_term v_shape v_readBoxes v_readRow v_readColumn v_grid v_often v_seedNow v_isKept v_keptBoard v_keptKind v_keptRows v_keptSeen v_keptOuter v_keptInner v_keptContent v_keptWhat v_keptCan v_h) := by
  refine Met.ofC (cc := cX8_be) (maxL := 3) (ret := (some .int)) (by decide) rfl (Nat.le_of_ble_eq_true rfl) ?_
  intro p e s m args below meth c A Q ls hx hb hr hml hts hown hlocks hA hK hP hD hZ hS hQ hl
  have hown : s.vm.findClass RX8 = some m.cls := hown
  have hl : lv_has ls 3 [(0, .ref (a 0)), (1, .int p1)] := hl
  unfold fX8_be at hf
  refine lv_iload_n hx hb dX8_be_0 rfl (lv_at hl 1 rfl) ?_
  obtain ⟨r_1, hr_1, hf⟩ := bd_some hf
  refine cx_run0 (cx_S (A := A) (As := [.int p1]) (rest := []) ⟨hx, hb, hml, hown, hts⟩ (ctX8_isKind l z dC dI cI cB cE p1 r_1 hr_1) (va_cwS 1 hts gX8_be_X8_isKind rfl rfl rfl (by decide +kernel) ⟨Nat.le_of_ble_eq_true rfl, Nat.le_of_ble_eq_true rfl⟩) hK vaP0 vaD0 hZ hS hA rfl hl.1 rfl (Nat.le_of_ble_eq_true rfl) dX8_be_1) hP hS hA [.int r_1] rfl (fun H locs hP hS => ?_)
  refine lv_if_ne (tgt := 10) hx hb dX8_be_4 (by decide) (fun c_2 => ?_) (fun c_2 => ?_)
  · rw [if_neg c_2] at hf
    refine lv_aload_n hx hb dX8_be_10 rfl (lv_at hl 0 rfl) ?_
    obtain ⟨r_3, hr_3, hf⟩ := bd_some hf
    refine cx_runW (cx_V (As := []) (rest := []) ⟨hx, hb, hml, hown, hts⟩ (ctX8_isBoard l z dC dI cI cB cE a v_boards v_kind v_rows v_outer v_inner v_content v_boxes v_rowOf v_columnOf v_seen v_seenWhat v_seenCan v_pageLength v_page v_isWhole v_newKind v_newRows v_newOuter v_newInner v_newContent v_now v_left v_box v_isCounted v_counted v_given v_isTermed v_terms v_term v_shape v_readBoxes v_readRow v_readColumn v_grid v_often v_seedNow v_isKept v_keptBoard v_keptKind v_keptRows v_keptSeen v_keptOuter v_keptInner v_keptContent v_keptWhat v_keptCan v_h r_3 hr_3) (cwV 0 hts gX8_be_X8_isBoard rfl rfl rfl (by decide +kernel) ⟨Nat.le_of_ble_eq_true rfl, Nat.le_of_ble_eq_true rfl⟩) hK hP hD hZ hS hA (ci := 8) (q0 := 0) rfl rfl rfl hl.1 rfl (Nat.le_of_ble_eq_true rfl) dX8_be_11) hD hS hA [.int r_3] rfl (fun H locs hP hD hS => ?_)
    refine lv_if_ne (tgt := 20) hx hb dX8_be_14 (by decide) (fun c_4 => ?_) (fun c_4 => ?_)
    · rw [if_neg c_4] at hf
      refine lv_aload_n hx hb dX8_be_20 rfl (lv_at hl 0 rfl) ?_
      refine va_get (D := (dC, dI)) (ci := 8) (C := RX8) (T := TX8) (N := 47) hx hb hts (fun _ h => List.mem_cons_of_mem _ (List.mem_append_right _ h)) hown hK hP 0 rfl rfl 1 (by decide) (hts (.fieldLink RX8 139 "SkewBoardModel" "kind" "I") (List.mem_of_getElem? (i := 1) rfl)) (fun _ h9 => h9) rfl dX8_be_21 ?_
      refine lv_istore_n (lv' := [(2, .int v_kind), (0, .ref (a 0)), (1, .int p1)]) hx hb dX8_be_24 rfl hl (by decide) rfl (fun ls hl => ?_)
      refine lv_aload_n hx hb dX8_be_25 rfl (lv_at hl 1 rfl) ?_
      refine lv_iload_n hx hb dX8_be_26 rfl (lv_at hl 2 rfl) ?_
      refine va_put (D := (dC, dI)) (ci := 8) (v := .int p1) (ty := .int) (C := RX8) (T := TX8) (N := 47) hx hb hts (fun _ h => List.mem_cons_of_mem _ (List.mem_append_right _ h)) tyX8 tyX8_ok nmX8 hown hK hP hD hS 0 rfl rfl 1 (by decide) (hts (.fieldLink RX8 139 "SkewBoardModel" "kind" "I") (List.mem_of_getElem? (i := 1) rfl)) (fun _ h9 => h9) rfl (by decide +kernel) rfl rfl (Nat.le_of_ble_eq_true rfl) dX8_be_27 (fun H locs hP hD hS => ?_)
      have hP : va_P (dC, dI) vwCl (wX8 cI cB cE a v_boards p1 v_rows v_outer v_inner v_content v_boxes v_rowOf v_columnOf v_seen v_seenWhat v_seenCan v_pageLength v_page v_isWhole v_newKind v_newRows v_newOuter v_newInner v_newContent v_now v_left v_box v_isCounted v_counted v_given v_isTermed v_terms v_term v_shape v_readBoxes v_readRow v_readColumn v_grid v_often v_seedNow v_isKept v_keptBoard v_keptKind v_keptRows v_keptSeen v_keptOuter v_keptInner v_keptContent v_keptWhat v_keptCan v_h) H := hP
      have hD : va_D A (wX8 cI cB cE a v_boards p1 v_rows v_outer v_inner v_content v_boxes v_rowOf v_columnOf v_seen v_seenWhat v_seenCan v_pageLength v_page v_isWhole v_newKind v_newRows v_newOuter v_newInner v_newContent v_now v_left v_box v_isCounted v_counted v_given v_isTermed v_terms v_term v_shape v_readBoxes v_readRow v_readColumn v_grid v_often v_seedNow v_isKept v_keptBoard v_keptKind v_keptRows v_keptSeen v_keptOuter v_keptInner v_keptContent v_keptWhat v_keptCan v_h) := hD
      refine lv_aload_n hx hb dX8_be_30 rfl (lv_at hl 1 rfl) ?_
      refine lv_iconst (v := 0) hx hb dX8_be_31 (by decide) ?_
      refine va_put (D := (dC, dI)) (ci := 8) (v := .int 0) (ty := .boolean) (C := RX8) (T := TX8) (N := 47) hx hb hts (fun _ h => List.mem_cons_of_mem _ (List.mem_append_right _ h)) tyX8 tyX8_ok nmX8 hown hK hP hD hS 0 rfl rfl 23 (by decide) (hts (.fieldLink RX8 130 "SkewBoardModel" "isCounted" "Z") (List.mem_of_getElem? (i := 2) rfl)) (fun _ h9 => h9) rfl (by decide +kernel) rfl rfl (Nat.le_of_ble_eq_true rfl) dX8_be_32 (fun H locs hP hD hS => ?_)
      have hP : va_P (dC, dI) vwCl (wX8 cI cB cE a v_boards p1 v_rows v_outer v_inner v_content v_boxes v_rowOf v_columnOf v_seen v_seenWhat v_seenCan v_pageLength v_page v_isWhole v_newKind v_newRows v_newOuter v_newInner v_newContent v_now v_left v_box 0 v_counted v_given v_isTermed v_terms v_term v_shape v_readBoxes v_readRow v_readColumn v_grid v_often v_seedNow v_isKept v_keptBoard v_keptKind v_keptRows v_keptSeen v_keptOuter v_keptInner v_keptContent v_keptWhat v_keptCan v_h) H := hP
      have hD : va_D A (wX8 cI cB cE a v_boards p1 v_rows v_outer v_inner v_content v_boxes v_rowOf v_columnOf v_seen v_seenWhat v_seenCan v_pageLength v_page v_isWhole v_newKind v_newRows v_newOuter v_newInner v_newContent v_now v_left v_box 0 v_counted v_given v_isTermed v_terms v_term v_shape v_readBoxes v_readRow v_readColumn v_grid v_often v_seedNow v_isKept v_keptBoard v_keptKind v_keptRows v_keptSeen v_keptOuter v_keptInner v_keptContent v_keptWhat v_keptCan v_h) := hD
      refine lv_iload_n hx hb dX8_be_35 rfl (lv_at hl 0 rfl) ?_
      have hQ2 := hQ
      rw [← Option.some.inj hf] at hQ2
      exact cx_iret hQ2 hx hb hr hlocks hK hP hD hS dX8_be_36
    · rw [if_pos c_4] at hf
      refine lv_bipush (v := (-103)) hx hb dX8_be_17 (by decide) ?_
      have hQ2 := hQ
      rw [← Option.some.inj hf] at hQ2
      exact cx_iret hQ2 hx hb hr hlocks hK hP hD hS dX8_be_19
  · rw [if_pos c_2] at hf
    refine lv_bipush (v := (-102)) hx hb dX8_be_7 (by decide) ?_
    have hQ2 := hQ
    rw [← Option.some.inj hf] at hQ2
    exact cx_iret hQ2 hx hb hr hlocks hK hP hD hS dX8_be_9

def fX8_mayBeOuter_J82 (y0_82 : Int32) : Option (Int32) :=
    gd (isb y0_82) (some y0_82)
def fX8_mayBeOuter_J81 (k82 : Int32 → Option (Int32)) (u_81 : Unit) : Option (Int32) :=
    k82 0
def fX8_mayBeOuter_J77 (k82 : Int32 → Option (Int32)) (u_77 : Unit) : Option (Int32) :=
    k82 1
def fX8_mayBeOuter_J50 (v_rows : Int32) (v_outer : Nat → Int32) (p1 : Int32) (p2 : Int32) (y0_50 : Int32) : Option (Int32) :=
    if y0_50 = 0 then (fX8_mayBeOuter_J81 fX8_mayBeOuter_J82 ()) else (if p1 = (v_rows - 1) then (fX8_mayBeOuter_J77 fX8_mayBeOuter_J82 ()) else (gd (inb (p1 + 1) 4) (if p2 < (v_outer (p1 + 1).toNatClampNeg) then (fX8_mayBeOuter_J81 fX8_mayBeOuter_J82 ()) else (fX8_mayBeOuter_J77 fX8_mayBeOuter_J82 ()))))
def fX8_mayBeOuter_J49 (k50 : Int32 → Option (Int32)) (u_49 : Unit) : Option (Int32) :=
    k50 0
def fX8_mayBeOuter_J45 (k50 : Int32 → Option (Int32)) (u_45 : Unit) : Option (Int32) :=
    k50 1
def fX8_mayBeOuter_J24 (v_rows : Int32) (v_outer : Nat → Int32) (p1 : Int32) (p2 : Int32) (y0_24 : Int32) : Option (Int32) :=
    if y0_24 = 0 then (fX8_mayBeOuter_J49 (fX8_mayBeOuter_J50 v_rows v_outer p1 p2) ()) else (if p1 = 0 then (fX8_mayBeOuter_J45 (fX8_mayBeOuter_J50 v_rows v_outer p1 p2) ()) else (gd (inb (p1 - 1) 4) (if (v_outer (p1 - 1).toNatClampNeg) < p2 then (fX8_mayBeOuter_J49 (fX8_mayBeOuter_J50 v_rows v_outer p1 p2) ()) else (fX8_mayBeOuter_J45 (fX8_mayBeOuter_J50 v_rows v_outer p1 p2) ()))))
def fX8_mayBeOuter_J23 (k24 : Int32 → Option (Int32)) (u_23 : Unit) : Option (Int32) :=
    k24 0
def fX8_mayBeOuter (p1 : Int32) (p2 : Int32) (v_rows : Int32) (v_outer : Nat → Int32) (v_inner : Nat → Int32) : Option (Int32) :=
  bd (fX8_within p2 1 5) (fun r_1 => if r_1 = 0 then (fX8_mayBeOuter_J23 (fX8_mayBeOuter_J24 v_rows v_outer p1 p2) ()) else (gd (inb p1 4) (if p2 < (v_inner p1.toNatClampNeg) then (fX8_mayBeOuter_J23 (fX8_mayBeOuter_J24 v_rows v_outer p1 p2) ()) else (fX8_mayBeOuter_J24 v_rows v_outer p1 p2 1))))
def rmX8_mayBeOuter : Room := { frames := 1, cells := 0, slots := 0, locals := 22 }
set_option maxRecDepth 100000 in
set_option maxHeartbeats 4000000 in
theorem ctX8_mayBeOuter (l : Launch) (z : Nat × Nat × Nat) (dC : Nat → ClassId) (dI : Nat → Nat → Nat) (cI cB cE : ClassId) (a : Nat → Nat) (v_boards : Int32) (v_kind : Int32) (v_rows : Int32) (v_outer : Nat → Int32) (v_inner : Nat → Int32) (v_content : Nat → Int32) (v_boxes : Int32) (v_rowOf : Nat → Int32) (v_columnOf : Nat → Int32) (v_seen : Int32) (v_seenWhat : Nat → Int32) (v_seenCan : Nat → Int32) (v_pageLength : Int32) (v_page : Nat → Int32) (v_isWhole : Int32) (v_newKind : Int32) (v_newRows : Int32) (v_newOuter : Nat → Int32) (v_newInner : Nat → Int32) (v_newContent : Nat → Int32) (v_now : Nat → Int32) (v_left : Nat → Int32) (v_box : Int32) (v_isCounted : Int32) (v_counted : Int32) (v_given : Nat → Int32) (v_isTermed : Int32) (v_terms : Int32) (v_term : Nat → Int32) (v_shape : Nat → Int32) (v_readBoxes : Int32) (v_readRow : Nat → Int32) (v_readColumn : Nat → Int32) (v_grid : Nat → Int32) (v_often : Nat → Int32) (v_seedNow : Int64) (v_isKept : Int32) (v_keptBoard : Int32) (v_keptKind : Int32) (v_keptRows : Int32) (v_keptSeen : Int32) (v_keptOuter : Nat → Int32) (v_keptInner : Nat → Int32) (v_keptContent : Nat → Int32) (v_keptWhat : Nat → Int32) (v_keptCan : Nat → Int32) (v_h : Int64) (p1 : Int32) (p2 : Int32) (fin : Int32) (hf : fX8_mayBeOuter p1 p2 v_rows v_outer v_inner = some fin) : Ct l z (dC, dI) (tyL cI cB cE) yX8_mayBeOuter wsX8_mayBeOuter rmX8_mayBeOuter [.ref (a 0), .int p1, .int p2] (wX8 cI cB cE a v_boards v_kind v_rows v_outer v_inner v_content v_boxes v_rowOf v_columnOf v_seen v_seenWhat v_seenCan v_pageLength v_page v_isWhole v_newKind v_newRows v_newOuter v_newInner v_newContent v_now v_left v_box v_isCounted v_counted v_given v_isTermed v_terms v_term v_shape v_readBoxes v_readRow v_readColumn v_grid v_often v_seedNow v_isKept v_keptBoard v_keptKind v_keptRows v_keptSeen v_keptOuter v_keptInner v_keptContent v_keptWhat v_keptCan v_h) (some (.int fin)) (wX8 cI cB cE a v_boards v_kind v_rows v_outer v_inner v_content v_boxes v_rowOf v_columnOf v_seen v_seenWhat v_seenCan v_pageLength v_page v_isWhole v_newKind v_newRows v_newOuter v_newInner v_newContent v_now v_left v_box v_isCounted v_counted v_given v_isTermed v_terms v_term v_shape v_readBoxes v_readRow v_readColumn v_grid v_often v_seedNow v_isKept v_keptBoard v_keptKind v_keptRows v_keptSeen v_keptOuter v_keptInner v_keptContent v_keptWhat v_keptCan v_h) := by
  refine Met.ofC (cc := cX8_mayBeOuter) (maxL := 4) (ret := (some .boolean)) (by decide) rfl (Nat.le_of_ble_eq_true rfl) ?_
  intro p e s m args below meth c A Q ls hx hb hr hml hts hown hlocks hA hK hP hD hZ hS hQ hl
  have hown : s.vm.findClass RX8 = some m.cls := hown
  have hl : lv_has ls 4 [(0, .ref (a 0)), (1, .int p1), (2, .int p2)] := hl
  unfold fX8_mayBeOuter at hf
  refine lv_iload_n hx hb dX8_mayBeOuter_0 rfl (lv_at hl 2 rfl) ?_
  refine lv_iconst (v := 1) hx hb dX8_mayBeOuter_1 (by decide) ?_
  refine lv_iconst (v := 5) hx hb dX8_mayBeOuter_2 (by decide) ?_
  obtain ⟨r_1, hr_1, hf⟩ := bd_some hf
  refine cx_run0 (cx_S (A := A) (As := [.int p2, .int 1, .int 5]) (rest := []) ⟨hx, hb, hml, hown, hts⟩ (ctX8_within l z dC dI cI cB cE p2 1 5 r_1 hr_1) (va_cwS 3 hts gX8_mayBeOuter_X8_within rfl rfl rfl (by decide +kernel) ⟨Nat.le_of_ble_eq_true rfl, Nat.le_of_ble_eq_true rfl⟩) hK vaP0 vaD0 hZ hS hA rfl hl.1 rfl (Nat.le_of_ble_eq_true rfl) dX8_mayBeOuter_3) hP hS hA [.int r_1] rfl (fun H locs hP hS => ?_)
  have J24 : ∀ (y0_24 : Int32), fX8_mayBeOuter_J24 v_rows v_outer p1 p2 y0_24 = some fin → ∀ (H : Heap) (locs : List Loc), va_P (dC, dI) vwCl (wX8 cI cB cE a v_boards v_kind v_rows v_outer v_inner v_content v_boxes v_rowOf v_columnOf v_seen v_seenWhat v_seenCan v_pageLength v_page v_isWhole v_newKind v_newRows v_newOuter v_newInner v_newContent v_now v_left v_box v_isCounted v_counted v_given v_isTermed v_terms v_term v_shape v_readBoxes v_readRow v_readColumn v_grid v_often v_seedNow v_isKept v_keptBoard v_keptKind v_keptRows v_keptSeen v_keptOuter v_keptInner v_keptContent v_keptWhat v_keptCan v_h) H → va_D A (wX8 cI cB cE a v_boards v_kind v_rows v_outer v_inner v_content v_boxes v_rowOf v_columnOf v_seen v_seenWhat v_seenCan v_pageLength v_page v_isWhole v_newKind v_newRows v_newOuter v_newInner v_newContent v_now v_left v_box v_isCounted v_counted v_given v_isTermed v_terms v_term v_shape v_readBoxes v_readRow v_readColumn v_grid v_often v_seedNow v_isKept v_keptBoard v_keptKind v_keptRows v_keptSeen v_keptOuter v_keptInner v_keptContent v_keptWhat v_keptCan v_h) → va_S A s.heap H locs → ∀ (ls : Array Slot), lv_has ls 4 [(0, .ref (a 0)), (1, .int p1), (2, .int p2)] → W p l e rmX8_mayBeOuter s m args below meth c H locs 0 0 Q (F0 m 24 ls [.int y0_24]) := by
    intro y0_24 hf H locs hP hD hS ls hl
    unfold fX8_mayBeOuter_J24 at hf
    refine lv_istore_n (lv' := [(3, .int y0_24), (0, .ref (a 0)), (1, .int p1), (2, .int p2)]) hx hb dX8_mayBeOuter_24 rfl hl (by decide) rfl (fun ls hl => ?_)
    refine lv_iload_n hx hb dX8_mayBeOuter_25 rfl (lv_at hl 0 rfl) ?_
    have J50 : ∀ (y0_50 : Int32), fX8_mayBeOuter_J50 v_rows v_outer p1 p2 y0_50 = some fin → ∀ (H : Heap) (locs : List Loc), va_P (dC, dI) vwCl (wX8 cI cB cE a v_boards v_kind v_rows v_outer v_inner v_content v_boxes v_rowOf v_columnOf v_seen v_seenWhat v_seenCan v_pageLength v_page v_isWhole v_newKind v_newRows v_newOuter v_newInner v_newContent v_now v_left v_box v_isCounted v_counted v_given v_isTermed v_terms v_term v_shape v_readBoxes v_readRow v_readColumn v_grid v_often v_seedNow v_isKept v_keptBoard v_keptKind v_keptRows v_keptSeen v_keptOuter v_keptInner v_keptContent v_keptWhat v_keptCan v_h) H → va_D A (wX8 cI cB cE a v_boards v_kind v_rows v_outer v_inner v_content v_boxes v_rowOf v_columnOf v_seen v_seenWhat v_seenCan v_pageLength v_page v_isWhole v_newKind v_newRows v_newOuter v_newInner v_newContent v_now v_left v_box v_isCounted v_counted v_given v_isTermed v_terms v_term v_shape v_readBoxes v_readRow v_readColumn v_grid v_often v_seedNow v_isKept v_keptBoard v_keptKind v_keptRows v_keptSeen v_keptOuter v_keptInner v_keptContent v_keptWhat v_keptCan v_h) → va_S A s.heap H locs → ∀ (ls : Array Slot), lv_has ls 4 [(0, .ref (a 0)), (1, .int p1), (2, .int p2)] → W p l e rmX8_mayBeOuter s m args below meth c H locs 0 0 Q (F0 m 50 ls [.int y0_50]) := by
      intro y0_50 hf H locs hP hD hS ls hl
      unfold fX8_mayBeOuter_J50 at hf
      refine lv_istore_n (lv' := [(3, .int y0_50), (0, .ref (a 0)), (1, .int p1), (2, .int p2)]) hx hb dX8_mayBeOuter_50 rfl hl (by decide) rfl (fun ls hl => ?_)
      refine lv_iload_n hx hb dX8_mayBeOuter_51 rfl (lv_at hl 0 rfl) ?_
      have J82 : ∀ (y0_82 : Int32), fX8_mayBeOuter_J82  y0_82 = some fin → ∀ (H : Heap) (locs : List Loc), va_P (dC, dI) vwCl (wX8 cI cB cE a v_boards v_kind v_rows v_outer v_inner v_content v_boxes v_rowOf v_columnOf v_seen v_seenWhat v_seenCan v_pageLength v_page v_isWhole v_newKind v_newRows v_newOuter v_newInner v_newContent v_now v_left v_box v_isCounted v_counted v_given v_isTermed v_terms v_term v_shape v_readBoxes v_readRow v_readColumn v_grid v_often v_seedNow v_isKept v_keptBoard v_keptKind v_keptRows v_keptSeen v_keptOuter v_keptInner v_keptContent v_keptWhat v_keptCan v_h) H → va_D A (wX8 cI cB cE a v_boards v_kind v_rows v_outer v_inner v_content v_boxes v_rowOf v_columnOf v_seen v_seenWhat v_seenCan v_pageLength v_page v_isWhole v_newKind v_newRows v_newOuter v_newInner v_newContent v_now v_left v_box v_isCounted v_counted v_given v_isTermed v_terms v_term v_shape v_readBoxes v_readRow v_readColumn v_grid v_often v_seedNow v_isKept v_keptBoard v_keptKind v_keptRows v_keptSeen v_keptOuter v_keptInner v_keptContent v_keptWhat v_keptCan v_h) → va_S A s.heap H locs → ∀ (ls : Array Slot), lv_has ls 4 [] → W p l e rmX8_mayBeOuter s m args below meth c H locs 0 0 Q (F0 m 82 ls [.int y0_82]) := by
        intro y0_82 hf H locs hP hD hS ls hl
        unfold fX8_mayBeOuter_J82 at hf
        obtain ⟨g_2, hf⟩ := gd_some hf
        have hQ2 := hQ
        rw [← Option.some.inj hf] at hQ2
        exact cx_zret (isb_nar g_2) hQ2 hx hb hr hlocks hK hP hD hS dX8_mayBeOuter_82
      have J81 : ∀ (u_81 : Unit), fX8_mayBeOuter_J81 (fX8_mayBeOuter_J82) u_81 = some fin → ∀ (H : Heap) (locs : List Loc), va_P (dC, dI) vwCl (wX8 cI cB cE a v_boards v_kind v_rows v_outer v_inner v_content v_boxes v_rowOf v_columnOf v_seen v_seenWhat v_seenCan v_pageLength v_page v_isWhole v_newKind v_newRows v_newOuter v_newInner v_newContent v_now v_left v_box v_isCounted v_counted v_given v_isTermed v_terms v_term v_shape v_readBoxes v_readRow v_readColumn v_grid v_often v_seedNow v_isKept v_keptBoard v_keptKind v_keptRows v_keptSeen v_keptOuter v_keptInner v_keptContent v_keptWhat v_keptCan v_h) H → va_D A (wX8 cI cB cE a v_boards v_kind v_rows v_outer v_inner v_content v_boxes v_rowOf v_columnOf v_seen v_seenWhat v_seenCan v_pageLength v_page v_isWhole v_newKind v_newRows v_newOuter v_newInner v_newContent v_now v_left v_box v_isCounted v_counted v_given v_isTermed v_terms v_term v_shape v_readBoxes v_readRow v_readColumn v_grid v_often v_seedNow v_isKept v_keptBoard v_keptKind v_keptRows v_keptSeen v_keptOuter v_keptInner v_keptContent v_keptWhat v_keptCan v_h) → va_S A s.heap H locs → ∀ (ls : Array Slot), lv_has ls 4 [] → W p l e rmX8_mayBeOuter s m args below meth c H locs 0 0 Q (F0 m 81 ls []) := by
        intro u_81 hf H locs hP hD hS ls hl
        unfold fX8_mayBeOuter_J81 at hf
        refine lv_iconst (v := 0) hx hb dX8_mayBeOuter_81 (by decide) ?_
        exact J82 0 hf _ _ hP hD hS ls (lv_sub hl [] rfl)
      refine lv_if_eq (tgt := 81) hx hb dX8_mayBeOuter_52 (by decide) (fun c_3 => ?_) (fun c_3 => ?_)
      · rw [if_pos c_3] at hf
        exact J81 () hf _ _ hP hD hS ls (lv_sub hl [] rfl)
      · rw [if_neg c_3] at hf
        refine lv_iload_n hx hb dX8_mayBeOuter_55 rfl (lv_at hl 2 rfl) ?_
        refine lv_aload_n hx hb dX8_mayBeOuter_56 rfl (lv_at hl 1 rfl) ?_
        refine va_get (D := (dC, dI)) (ci := 8) (C := RX8) (T := TX8) (N := 47) hx hb hts (fun _ h => List.mem_cons_of_mem _ (List.mem_append_right _ h)) hown hK hP 0 rfl rfl 2 (by decide) (hts (.fieldLink RX8 127 "SkewBoardModel" "rows" "I") (List.mem_of_getElem? (i := 3) rfl)) (fun _ h9 => h9) rfl dX8_mayBeOuter_57 ?_
        refine lv_iconst (v := 1) hx hb dX8_mayBeOuter_60 (by decide) ?_
        refine lv_isub hx hb dX8_mayBeOuter_61 ?_
        have J77 : ∀ (u_77 : Unit), fX8_mayBeOuter_J77 (fX8_mayBeOuter_J82) u_77 = some fin → ∀ (H : Heap) (locs : List Loc), va_P (dC, dI) vwCl (wX8 cI cB cE a v_boards v_kind v_rows v_outer v_inner v_content v_boxes v_rowOf v_columnOf v_seen v_seenWhat v_seenCan v_pageLength v_page v_isWhole v_newKind v_newRows v_newOuter v_newInner v_newContent v_now v_left v_box v_isCounted v_counted v_given v_isTermed v_terms v_term v_shape v_readBoxes v_readRow v_readColumn v_grid v_often v_seedNow v_isKept v_keptBoard v_keptKind v_keptRows v_keptSeen v_keptOuter v_keptInner v_keptContent v_keptWhat v_keptCan v_h) H → va_D A (wX8 cI cB cE a v_boards v_kind v_rows v_outer v_inner v_content v_boxes v_rowOf v_columnOf v_seen v_seenWhat v_seenCan v_pageLength v_page v_isWhole v_newKind v_newRows v_newOuter v_newInner v_newContent v_now v_left v_box v_isCounted v_counted v_given v_isTermed v_terms v_term v_shape v_readBoxes v_readRow v_readColumn v_grid v_often v_seedNow v_isKept v_keptBoard v_keptKind v_keptRows v_keptSeen v_keptOuter v_keptInner v_keptContent v_keptWhat v_keptCan v_h) → va_S A s.heap H locs → ∀ (ls : Array Slot), lv_has ls 4 [] → W p l e rmX8_mayBeOuter s m args below meth c H locs 0 0 Q (F0 m 77 ls []) := by
          intro u_77 hf H locs hP hD hS ls hl
          unfold fX8_mayBeOuter_J77 at hf
          refine lv_iconst (v := 1) hx hb dX8_mayBeOuter_77 (by decide) ?_
          refine lv_goto (tgt := 82) hx hb dX8_mayBeOuter_78 (by decide) ?_
          exact J82 1 hf _ _ hP hD hS ls (lv_sub hl [] rfl)
        refine lv_icmp_eq (tgt := 77) hx hb dX8_mayBeOuter_62 (by decide) (fun c_4 => ?_) (fun c_4 => ?_)
        · rw [if_pos c_4] at hf
          exact J77 () hf _ _ hP hD hS ls (lv_sub hl [] rfl)
        · rw [if_neg c_4] at hf
          refine lv_iload_n hx hb dX8_mayBeOuter_65 rfl (lv_at hl 3 rfl) ?_
          refine lv_aload_n hx hb dX8_mayBeOuter_66 rfl (lv_at hl 1 rfl) ?_
          refine va_get (D := (dC, dI)) (ci := 8) (C := RX8) (T := TX8) (N := 47) hx hb hts (fun _ h => List.mem_cons_of_mem _ (List.mem_append_right _ h)) hown hK hP 0 rfl rfl 3 (by decide) (hts (.fieldLink RX8 7 "SkewBoardModel" "outer" "[I") (List.mem_of_getElem? (i := 2) rfl)) (fun _ h9 => h9) rfl dX8_mayBeOuter_67 ?_
          refine lv_iload_n hx hb dX8_mayBeOuter_70 rfl (lv_at hl 2 rfl) ?_
          refine lv_iconst (v := 1) hx hb dX8_mayBeOuter_71 (by decide) ?_
          refine lv_iadd hx hb dX8_mayBeOuter_72 ?_
          obtain ⟨g_5, hf⟩ := gd_some hf
          refine va_iald hx hb hK hP 1 0 rfl rfl (inb_vp g_5) dX8_mayBeOuter_73 ?_
          refine lv_icmp_lt (tgt := 81) hx hb dX8_mayBeOuter_74 (by decide) (fun c_6 => ?_) (fun c_6 => ?_)
          · rw [if_pos c_6] at hf
            exact J81 () hf _ _ hP hD hS ls (lv_sub hl [] rfl)
          · rw [if_neg c_6] at hf
            exact J77 () hf _ _ hP hD hS ls (lv_sub hl [] rfl)
    have J49 : ∀ (u_49 : Unit), fX8_mayBeOuter_J49 (fX8_mayBeOuter_J50 v_rows v_outer p1 p2) u_49 = some fin → ∀ (H : Heap) (locs : List Loc), va_P (dC, dI) vwCl (wX8 cI cB cE a v_boards v_kind v_rows v_outer v_inner v_content v_boxes v_rowOf v_columnOf v_seen v_seenWhat v_seenCan v_pageLength v_page v_isWhole v_newKind v_newRows v_newOuter v_newInner v_newContent v_now v_left v_box v_isCounted v_counted v_given v_isTermed v_terms v_term v_shape v_readBoxes v_readRow v_readColumn v_grid v_often v_seedNow v_isKept v_keptBoard v_keptKind v_keptRows v_keptSeen v_keptOuter v_keptInner v_keptContent v_keptWhat v_keptCan v_h) H → va_D A (wX8 cI cB cE a v_boards v_kind v_rows v_outer v_inner v_content v_boxes v_rowOf v_columnOf v_seen v_seenWhat v_seenCan v_pageLength v_page v_isWhole v_newKind v_newRows v_newOuter v_newInner v_newContent v_now v_left v_box v_isCounted v_counted v_given v_isTermed v_terms v_term v_shape v_readBoxes v_readRow v_readColumn v_grid v_often v_seedNow v_isKept v_keptBoard v_keptKind v_keptRows v_keptSeen v_keptOuter v_keptInner v_keptContent v_keptWhat v_keptCan v_h) → va_S A s.heap H locs → ∀ (ls : Array Slot), lv_has ls 4 [(0, .ref (a 0)), (1, .int p1), (2, .int p2)] → W p l e rmX8_mayBeOuter s m args below meth c H locs 0 0 Q (F0 m 49 ls []) := by
      intro u_49 hf H locs hP hD hS ls hl
      unfold fX8_mayBeOuter_J49 at hf
      refine lv_iconst (v := 0) hx hb dX8_mayBeOuter_49 (by decide) ?_
      exact J50 0 hf _ _ hP hD hS ls (lv_sub hl [0, 1, 2] rfl)
    refine lv_if_eq (tgt := 49) hx hb dX8_mayBeOuter_26 (by decide) (fun c_7 => ?_) (fun c_7 => ?_)
    · rw [if_pos c_7] at hf
      exact J49 () hf _ _ hP hD hS ls (lv_sub hl [1, 2, 3] rfl)
    · rw [if_neg c_7] at hf
      refine lv_iload_n hx hb dX8_mayBeOuter_29 rfl (lv_at hl 2 rfl) ?_
      have J45 : ∀ (u_45 : Unit), fX8_mayBeOuter_J45 (fX8_mayBeOuter_J50 v_rows v_outer p1 p2) u_45 = some fin → ∀ (H : Heap) (locs : List Loc), va_P (dC, dI) vwCl (wX8 cI cB cE a v_boards v_kind v_rows v_outer v_inner v_content v_boxes v_rowOf v_columnOf v_seen v_seenWhat v_seenCan v_pageLength v_page v_isWhole v_newKind v_newRows v_newOuter v_newInner v_newContent v_now v_left v_box v_isCounted v_counted v_given v_isTermed v_terms v_term v_shape v_readBoxes v_readRow v_readColumn v_grid v_often v_seedNow v_isKept v_keptBoard v_keptKind v_keptRows v_keptSeen v_keptOuter v_keptInner v_keptContent v_keptWhat v_keptCan v_h) H → va_D A (wX8 cI cB cE a v_boards v_kind v_rows v_outer v_inner v_content v_boxes v_rowOf v_columnOf v_seen v_seenWhat v_seenCan v_pageLength v_page v_isWhole v_newKind v_newRows v_newOuter v_newInner v_newContent v_now v_left v_box v_isCounted v_counted v_given v_isTermed v_terms v_term v_shape v_readBoxes v_readRow v_readColumn v_grid v_often v_seedNow v_isKept v_keptBoard v_keptKind v_keptRows v_keptSeen v_keptOuter v_keptInner v_keptContent v_keptWhat v_keptCan v_h) → va_S A s.heap H locs → ∀ (ls : Array Slot), lv_has ls 4 [(0, .ref (a 0)), (1, .int p1), (2, .int p2)] → W p l e rmX8_mayBeOuter s m args below meth c H locs 0 0 Q (F0 m 45 ls []) := by
        intro u_45 hf H locs hP hD hS ls hl
        unfold fX8_mayBeOuter_J45 at hf
        refine lv_iconst (v := 1) hx hb dX8_mayBeOuter_45 (by decide) ?_
        refine lv_goto (tgt := 50) hx hb dX8_mayBeOuter_46 (by decide) ?_
        exact J50 1 hf _ _ hP hD hS ls (lv_sub hl [0, 1, 2] rfl)
      refine lv_if_eq (tgt := 45) hx hb dX8_mayBeOuter_30 (by decide) (fun c_8 => ?_) (fun c_8 => ?_)
      · rw [if_pos c_8] at hf
        exact J45 () hf _ _ hP hD hS ls (lv_sub hl [1, 2, 3] rfl)
      · rw [if_neg c_8] at hf
        refine lv_iload_n hx hb dX8_mayBeOuter_33 rfl (lv_at hl 3 rfl) ?_
        refine lv_aload_n hx hb dX8_mayBeOuter_34 rfl (lv_at hl 1 rfl) ?_
        refine va_get (D := (dC, dI)) (ci := 8) (C := RX8) (T := TX8) (N := 47) hx hb hts (fun _ h => List.mem_cons_of_mem _ (List.mem_append_right _ h)) hown hK hP 0 rfl rfl 3 (by decide) (hts (.fieldLink RX8 7 "SkewBoardModel" "outer" "[I") (List.mem_of_getElem? (i := 2) rfl)) (fun _ h9 => h9) rfl dX8_mayBeOuter_35 ?_
        refine lv_iload_n hx hb dX8_mayBeOuter_38 rfl (lv_at hl 2 rfl) ?_
        refine lv_iconst (v := 1) hx hb dX8_mayBeOuter_39 (by decide) ?_
        refine lv_isub hx hb dX8_mayBeOuter_40 ?_
        obtain ⟨g_9, hf⟩ := gd_some hf
        refine va_iald hx hb hK hP 1 0 rfl rfl (inb_vp g_9) dX8_mayBeOuter_41 ?_
        refine lv_icmp_gt (tgt := 49) hx hb dX8_mayBeOuter_42 (by decide) (fun c_10 => ?_) (fun c_10 => ?_)
        · rw [if_pos c_10] at hf
          exact J49 () hf _ _ hP hD hS ls (lv_sub hl [1, 2, 3] rfl)
        · rw [if_neg c_10] at hf
          exact J45 () hf _ _ hP hD hS ls (lv_sub hl [1, 2, 3] rfl)
  have J23 : ∀ (u_23 : Unit), fX8_mayBeOuter_J23 (fX8_mayBeOuter_J24 v_rows v_outer p1 p2) u_23 = some fin → ∀ (H : Heap) (locs : List Loc), va_P (dC, dI) vwCl (wX8 cI cB cE a v_boards v_kind v_rows v_outer v_inner v_content v_boxes v_rowOf v_columnOf v_seen v_seenWhat v_seenCan v_pageLength v_page v_isWhole v_newKind v_newRows v_newOuter v_newInner v_newContent v_now v_left v_box v_isCounted v_counted v_given v_isTermed v_terms v_term v_shape v_readBoxes v_readRow v_readColumn v_grid v_often v_seedNow v_isKept v_keptBoard v_keptKind v_keptRows v_keptSeen v_keptOuter v_keptInner v_keptContent v_keptWhat v_keptCan v_h) H → va_D A (wX8 cI cB cE a v_boards v_kind v_rows v_outer v_inner v_content v_boxes v_rowOf v_columnOf v_seen v_seenWhat v_seenCan v_pageLength v_page v_isWhole v_newKind v_newRows v_newOuter v_newInner v_newContent v_now v_left v_box v_isCounted v_counted v_given v_isTermed v_terms v_term v_shape v_readBoxes v_readRow v_readColumn v_grid v_often v_seedNow v_isKept v_keptBoard v_keptKind v_keptRows v_keptSeen v_keptOuter v_keptInner v_keptContent v_keptWhat v_keptCan v_h) → va_S A s.heap H locs → ∀ (ls : Array Slot), lv_has ls 4 [(0, .ref (a 0)), (1, .int p1), (2, .int p2)] → W p l e rmX8_mayBeOuter s m args below meth c H locs 0 0 Q (F0 m 23 ls []) := by
    intro u_23 hf H locs hP hD hS ls hl
    unfold fX8_mayBeOuter_J23 at hf
    refine lv_iconst (v := 0) hx hb dX8_mayBeOuter_23 (by decide) ?_
    exact J24 0 hf _ _ hP hD hS ls (lv_sub hl [0, 1, 2] rfl)
  refine lv_if_eq (tgt := 23) hx hb dX8_mayBeOuter_6 (by decide) (fun c_11 => ?_) (fun c_11 => ?_)
  · rw [if_pos c_11] at hf
    exact J23 () hf _ _ hP hD hS ls (lv_sub hl [0, 1, 2] rfl)
  · rw [if_neg c_11] at hf
    refine lv_iload_n hx hb dX8_mayBeOuter_9 rfl (lv_at hl 2 rfl) ?_
    refine lv_aload_n hx hb dX8_mayBeOuter_10 rfl (lv_at hl 0 rfl) ?_
    refine va_get (D := (dC, dI)) (ci := 8) (C := RX8) (T := TX8) (N := 47) hx hb hts (fun _ h => List.mem_cons_of_mem _ (List.mem_append_right _ h)) hown hK hP 0 rfl rfl 4 (by decide) (hts (.fieldLink RX8 13 "SkewBoardModel" "inner" "[I") (List.mem_of_getElem? (i := 1) rfl)) (fun _ h9 => h9) rfl dX8_mayBeOuter_11 ?_
    refine lv_iload_n hx hb dX8_mayBeOuter_14 rfl (lv_at hl 1 rfl) ?_
    obtain ⟨g_12, hf⟩ := gd_some hf
    refine va_iald hx hb hK hP 2 0 rfl rfl (inb_vp g_12) dX8_mayBeOuter_15 ?_
    refine lv_icmp_lt (tgt := 23) hx hb dX8_mayBeOuter_16 (by decide) (fun c_13 => ?_) (fun c_13 => ?_)
    · rw [if_pos c_13] at hf
      exact J23 () hf _ _ hP hD hS ls (lv_sub hl [0, 1, 2] rfl)
    · rw [if_neg c_13] at hf
      refine lv_iconst (v := 1) hx hb dX8_mayBeOuter_19 (by decide) ?_
      refine lv_goto (tgt := 24) hx hb dX8_mayBeOuter_20 (by decide) ?_
      exact J24 1 hf _ _ hP hD hS ls (lv_sub hl [0, 1, 2] rfl)

def fX8_grow_J56 (v_rows : Int32) (v_outer : Nat → Int32) (v_inner : Nat → Int32) (v_rowOf : Nat → Int32) (v_columnOf : Nat → Int32) (p1 : Int32) (y1_26 : Int32) (u_56 : Unit) : Option (Int32 × (Nat → Int32) × Int32 × (Nat → Int32) × (Nat → Int32) × Int32 × Int32) :=
    bd (fX8_lay v_rows (upd v_outer p1.toNatClampNeg ((v_outer p1.toNatClampNeg) + y1_26)) v_inner v_rowOf v_columnOf) (fun r_6 => some (r_6.1, (upd v_outer p1.toNatClampNeg ((v_outer p1.toNatClampNeg) + y1_26)), r_6.1, r_6.2.1, r_6.2.2.1, r_6.2.2.2.1, r_6.2.2.2.2))
def fX8_grow_J26 (v_rows : Int32) (v_outer : Nat → Int32) (v_inner : Nat → Int32) (v_boxes : Int32) (v_rowOf : Nat → Int32) (v_columnOf : Nat → Int32) (v_isCounted : Int32) (v_isTermed : Int32) (p1 : Int32) (p2 : Int32) (y1_26 : Int32) : Option (Int32 × (Nat → Int32) × Int32 × (Nat → Int32) × (Nat → Int32) × Int32 × Int32) :=
    bd (fX8_mayBeOuter p1 ((v_outer p1.toNatClampNeg) + y1_26) v_rows v_outer v_inner) (fun r_4 => if r_4 = 0 then (some ((-103), v_outer, v_boxes, v_rowOf, v_columnOf, v_isCounted, v_isTermed)) else (if p2 = 0 then (fX8_grow_J56 v_rows v_outer v_inner v_rowOf v_columnOf p1 y1_26 ()) else (if v_boxes = 9 then (some ((-104), v_outer, v_boxes, v_rowOf, v_columnOf, v_isCounted, v_isTermed)) else (fX8_grow_J56 v_rows v_outer v_inner v_rowOf v_columnOf p1 y1_26 ()))))
def fX8_grow (p1 : Int32) (p2 : Int32) (v_rows : Int32) (v_outer : Nat → Int32) (v_inner : Nat → Int32) (v_boxes : Int32) (v_rowOf : Nat → Int32) (v_columnOf : Nat → Int32) (v_isCounted : Int32) (v_isTermed : Int32) : Option (Int32 × (Nat → Int32) × Int32 × (Nat → Int32) × (Nat → Int32) × Int32 × Int32) :=
  bd (fX8_isRow p1 v_rows) (fun r_1 => if r_1 = 0 then (some ((-101), v_outer, v_boxes, v_rowOf, v_columnOf, v_isCounted, v_isTermed)) else (gd (inb p1 4) (fX8_grow_J26 v_rows v_outer v_inner v_boxes v_rowOf v_columnOf v_isCounted v_isTermed p1 p2 (if p2 = 0 then (-1) else 1))))
def rmX8_grow : Room := { frames := 2, cells := 0, slots := 0, locals := 45 }
set_option maxRecDepth 100000 in
set_option maxHeartbeats 4000000 in
theorem ctX8_grow (l : Launch) (z : Nat × Nat × Nat) (dC : Nat → ClassId) (dI : Nat → Nat → Nat) (cI cB cE : ClassId) (a : Nat → Nat) (v_boards : Int32) (v_kind : Int32) (v_rows : Int32) (v_outer : Nat → Int32) (v_inner : Nat → Int32) (v_content : Nat → Int32) (v_boxes : Int32) (v_rowOf : Nat → Int32) (v_columnOf : Nat → Int32) (v_seen : Int32) (v_seenWhat : Nat → Int32) (v_seenCan : Nat → Int32) (v_pageLength : Int32) (v_page : Nat → Int32) (v_isWhole : Int32) (v_newKind : Int32) (v_newRows : Int32) (v_newOuter : Nat → Int32) (v_newInner : Nat → Int32) (v_newContent : Nat → Int32) (v_now : Nat → Int32) (v_left : Nat → Int32) (v_box : Int32) (v_isCounted : Int32) (v_counted : Int32) (v_given : Nat → Int32) (v_isTermed : Int32) (v_terms : Int32) (v_term : Nat → Int32) (v_shape : Nat → Int32) (v_readBoxes : Int32) (v_readRow : Nat → Int32) (v_readColumn : Nat → Int32) (v_grid : Nat → Int32) (v_often : Nat → Int32) (v_seedNow : Int64) (v_isKept : Int32) (v_keptBoard : Int32) (v_keptKind : Int32) (v_keptRows : Int32) (v_keptSeen : Int32) (v_keptOuter : Nat → Int32) (v_keptInner : Nat → Int32) (v_keptContent : Nat → Int32) (v_keptWhat : Nat → Int32) (v_keptCan : Nat → Int32) (v_h : Int64) (p1 : Int32) (p2 : Int32) (fin : Int32 × (Nat → Int32) × Int32 × (Nat → Int32) × (Nat → Int32) × Int32 × Int32) (hf : fX8_grow p1 p2 v_rows v_outer v_inner v_boxes v_rowOf v_columnOf v_isCounted v_isTermed = some fin) : Ct l z (dC, dI) (tyL cI cB cE) yX8_grow wsX8_grow rmX8_grow [.ref (a 0), .int p1, .int p2] (wX8 cI cB cE a v_boards v_kind v_rows v_outer v_inner v_content v_boxes v_rowOf v_columnOf v_seen v_seenWhat v_seenCan v_pageLength v_page v_isWhole v_newKind v_newRows v_newOuter v_newInner v_newContent v_now v_left v_box v_isCounted v_counted v_given v_isTermed v_terms v_term v_shape v_readBoxes v_readRow v_readColumn v_grid v_often v_seedNow v_isKept v_keptBoard v_keptKind v_keptRows v_keptSeen v_keptOuter v_keptInner v_keptContent v_keptWhat v_keptCan v_h) (some (.int fin.1)) (wX8 cI cB cE a v_boards v_kind v_rows fin.2.1 v_inner v_content fin.2.2.1 fin.2.2.2.1 fin.2.2.2.2.1 v_seen v_seenWhat v_seenCan v_pageLength v_page v_isWhole v_newKind v_newRows v_newOuter v_newInner v_newContent v_now v_left v_box fin.2.2.2.2.2.1 v_counted v_given fin.2.2.2.2.2.2 v_terms v_term v_shape v_readBoxes v_readRow v_readColumn v_grid v_often v_seedNow v_isKept v_keptBoard v_keptKind v_keptRows v_keptSeen v_keptOuter v_keptInner v_keptContent v_keptWhat v_keptCan v_h) := by
  refine Met.ofC (cc := cX8_grow) (maxL := 4) (ret := (some .int)) (by decide) rfl (Nat.le_of_ble_eq_true rfl) ?_
  intro p e s m args below meth c A Q ls hx hb hr hml hts hown hlocks hA hK hP hD hZ hS hQ hl
  have hown : s.vm.findClass RX8 = some m.cls := hown
  have hl : lv_has ls 4 [(0, .ref (a 0)), (1, .int p1), (2, .int p2)] := hl
  unfold fX8_grow at hf
  refine lv_aload_n hx hb dX8_grow_0 rfl (lv_at hl 0 rfl) ?_
  refine lv_iload_n hx hb dX8_grow_1 rfl (lv_at hl 1 rfl) ?_
  obtain ⟨r_1, hr_1, hf⟩ := bd_some hf
  refine cx_runW (cx_V (As := [.int p1]) (rest := []) ⟨hx, hb, hml, hown, hts⟩ (ctX8_isRow l z dC dI cI cB cE a v_boards v_kind v_rows v_outer v_inner v_content v_boxes v_rowOf v_columnOf v_seen v_seenWhat v_seenCan v_pageLength v_page v_isWhole v_newKind v_newRows v_newOuter v_newInner v_newContent v_now v_left v_box v_isCounted v_counted v_given v_isTermed v_terms v_term v_shape v_readBoxes v_readRow v_readColumn v_grid v_often v_seedNow v_isKept v_keptBoard v_keptKind v_keptRows v_keptSeen v_keptOuter v_keptInner v_keptContent v_keptWhat v_keptCan v_h p1 r_1 hr_1) (cwV 1 hts gX8_grow_X8_isRow rfl rfl rfl (by decide +kernel) ⟨Nat.le_of_ble_eq_true rfl, Nat.le_of_ble_eq_true rfl⟩) hK hP hD hZ hS hA (ci := 8) (q0 := 0) rfl rfl rfl hl.1 rfl (Nat.le_of_ble_eq_true rfl) dX8_grow_2) hD hS hA [.int r_1] rfl (fun H locs hP hD hS => ?_)
  refine lv_if_ne (tgt := 11) hx hb dX8_grow_5 (by decide) (fun c_2 => ?_) (fun c_2 => ?_)
  · rw [if_neg c_2] at hf
    refine lv_aload_n hx hb dX8_grow_11 rfl (lv_at hl 0 rfl) ?_
    refine va_get (D := (dC, dI)) (ci := 8) (C := RX8) (T := TX8) (N := 47) hx hb hts (fun _ h => List.mem_cons_of_mem _ (List.mem_append_right _ h)) hown hK hP 0 rfl rfl 3 (by decide) (hts (.fieldLink RX8 7 "SkewBoardModel" "outer" "[I") (List.mem_of_getElem? (i := 1) rfl)) (fun _ h9 => h9) rfl dX8_grow_12 ?_
    refine lv_iload_n hx hb dX8_grow_15 rfl (lv_at hl 1 rfl) ?_
    obtain ⟨g_3, hf⟩ := gd_some hf
    refine va_iald hx hb hK hP 1 0 rfl rfl (inb_vp g_3) dX8_grow_16 ?_
    refine lv_iload_n hx hb dX8_grow_17 rfl (lv_at hl 2 rfl) ?_
    have J26 : ∀ (y1_26 : Int32), fX8_grow_J26 v_rows v_outer v_inner v_boxes v_rowOf v_columnOf v_isCounted v_isTermed p1 p2 y1_26 = some fin → ∀ (H : Heap) (locs : List Loc), va_P (dC, dI) vwCl (wX8 cI cB cE a v_boards v_kind v_rows v_outer v_inner v_content v_boxes v_rowOf v_columnOf v_seen v_seenWhat v_seenCan v_pageLength v_page v_isWhole v_newKind v_newRows v_newOuter v_newInner v_newContent v_now v_left v_box v_isCounted v_counted v_given v_isTermed v_terms v_term v_shape v_readBoxes v_readRow v_readColumn v_grid v_often v_seedNow v_isKept v_keptBoard v_keptKind v_keptRows v_keptSeen v_keptOuter v_keptInner v_keptContent v_keptWhat v_keptCan v_h) H → va_D A (wX8 cI cB cE a v_boards v_kind v_rows v_outer v_inner v_content v_boxes v_rowOf v_columnOf v_seen v_seenWhat v_seenCan v_pageLength v_page v_isWhole v_newKind v_newRows v_newOuter v_newInner v_newContent v_now v_left v_box v_isCounted v_counted v_given v_isTermed v_terms v_term v_shape v_readBoxes v_readRow v_readColumn v_grid v_often v_seedNow v_isKept v_keptBoard v_keptKind v_keptRows v_keptSeen v_keptOuter v_keptInner v_keptContent v_keptWhat v_keptCan v_h) → va_S A s.heap H locs → ∀ (ls : Array Slot), lv_has ls 4 [(0, .ref (a 0)), (1, .int p1), (2, .int p2)] → W p l e rmX8_grow s m args below meth c H locs 0 0 Q (F0 m 26 ls [.int y1_26, .int (v_outer p1.toNatClampNeg)]) := by
      intro y1_26 hf H locs hP hD hS ls hl
      unfold fX8_grow_J26 at hf
      refine lv_iadd hx hb dX8_grow_26 ?_
      refine lv_istore_n (lv' := [(3, .int ((v_outer p1.toNatClampNeg) + y1_26)), (0, .ref (a 0)), (1, .int p1), (2, .int p2)]) hx hb dX8_grow_27 rfl hl (by decide) rfl (fun ls hl => ?_)
      refine lv_aload_n hx hb dX8_grow_28 rfl (lv_at hl 1 rfl) ?_
      refine lv_iload_n hx hb dX8_grow_29 rfl (lv_at hl 2 rfl) ?_
      refine lv_iload_n hx hb dX8_grow_30 rfl (lv_at hl 0 rfl) ?_
      obtain ⟨r_4, hr_4, hf⟩ := bd_some hf
      refine cx_runW (cx_V (As := [.int p1, .int ((v_outer p1.toNatClampNeg) + y1_26)]) (rest := []) ⟨hx, hb, hml, hown, hts⟩ (ctX8_mayBeOuter l z dC dI cI cB cE a v_boards v_kind v_rows v_outer v_inner v_content v_boxes v_rowOf v_columnOf v_seen v_seenWhat v_seenCan v_pageLength v_page v_isWhole v_newKind v_newRows v_newOuter v_newInner v_newContent v_now v_left v_box v_isCounted v_counted v_given v_isTermed v_terms v_term v_shape v_readBoxes v_readRow v_readColumn v_grid v_often v_seedNow v_isKept v_keptBoard v_keptKind v_keptRows v_keptSeen v_keptOuter v_keptInner v_keptContent v_keptWhat v_keptCan v_h p1 ((v_outer p1.toNatClampNeg) + y1_26) r_4 hr_4) (cwV 2 hts gX8_grow_X8_mayBeOuter rfl rfl rfl (by decide +kernel) ⟨Nat.le_of_ble_eq_true rfl, Nat.le_of_ble_eq_true rfl⟩) hK hP hD hZ hS hA (ci := 8) (q0 := 0) rfl rfl rfl hl.1 rfl (Nat.le_of_ble_eq_true rfl) dX8_grow_31) hD hS hA [.int r_4] rfl (fun H locs hP hD hS => ?_)
      refine lv_if_ne (tgt := 40) hx hb dX8_grow_34 (by decide) (fun c_5 => ?_) (fun c_5 => ?_)
      · rw [if_neg c_5] at hf
        refine lv_iload_n hx hb dX8_grow_40 rfl (lv_at hl 3 rfl) ?_
        have J56 : ∀ (u_56 : Unit), fX8_grow_J56 v_rows v_outer v_inner v_rowOf v_columnOf p1 y1_26 u_56 = some fin → ∀ (H : Heap) (locs : List Loc), va_P (dC, dI) vwCl (wX8 cI cB cE a v_boards v_kind v_rows v_outer v_inner v_content v_boxes v_rowOf v_columnOf v_seen v_seenWhat v_seenCan v_pageLength v_page v_isWhole v_newKind v_newRows v_newOuter v_newInner v_newContent v_now v_left v_box v_isCounted v_counted v_given v_isTermed v_terms v_term v_shape v_readBoxes v_readRow v_readColumn v_grid v_often v_seedNow v_isKept v_keptBoard v_keptKind v_keptRows v_keptSeen v_keptOuter v_keptInner v_keptContent v_keptWhat v_keptCan v_h) H → va_D A (wX8 cI cB cE a v_boards v_kind v_rows v_outer v_inner v_content v_boxes v_rowOf v_columnOf v_seen v_seenWhat v_seenCan v_pageLength v_page v_isWhole v_newKind v_newRows v_newOuter v_newInner v_newContent v_now v_left v_box v_isCounted v_counted v_given v_isTermed v_terms v_term v_shape v_readBoxes v_readRow v_readColumn v_grid v_often v_seedNow v_isKept v_keptBoard v_keptKind v_keptRows v_keptSeen v_keptOuter v_keptInner v_keptContent v_keptWhat v_keptCan v_h) → va_S A s.heap H locs → ∀ (ls : Array Slot), lv_has ls 4 [(0, .ref (a 0)), (1, .int p1), (3, .int ((v_outer p1.toNatClampNeg) + y1_26))] → W p l e rmX8_grow s m args below meth c H locs 0 0 Q (F0 m 56 ls []) := by
          intro u_56 hf H locs hP hD hS ls hl
          unfold fX8_grow_J56 at hf
          refine lv_aload_n hx hb dX8_grow_56 rfl (lv_at hl 0 rfl) ?_
          refine va_get (D := (dC, dI)) (ci := 8) (C := RX8) (T := TX8) (N := 47) hx hb hts (fun _ h => List.mem_cons_of_mem _ (List.mem_append_right _ h)) hown hK hP 0 rfl rfl 3 (by decide) (hts (.fieldLink RX8 7 "SkewBoardModel" "outer" "[I") (List.mem_of_getElem? (i := 1) rfl)) (fun _ h9 => h9) rfl dX8_grow_57 ?_
          refine lv_iload_n hx hb dX8_grow_60 rfl (lv_at hl 1 rfl) ?_
          refine lv_iload_n hx hb dX8_grow_61 rfl (lv_at hl 2 rfl) ?_
          refine va_iast hx hb hK hP hD hS 1 0 rfl rfl (inb_vp g_3) dX8_grow_62 (fun H locs hP hD hS => ?_)
          have hP : va_P (dC, dI) vwCl (wX8 cI cB cE a v_boards v_kind v_rows (upd v_outer p1.toNatClampNeg ((v_outer p1.toNatClampNeg) + y1_26)) v_inner v_content v_boxes v_rowOf v_columnOf v_seen v_seenWhat v_seenCan v_pageLength v_page v_isWhole v_newKind v_newRows v_newOuter v_newInner v_newContent v_now v_left v_box v_isCounted v_counted v_given v_isTermed v_terms v_term v_shape v_readBoxes v_readRow v_readColumn v_grid v_often v_seedNow v_isKept v_keptBoard v_keptKind v_keptRows v_keptSeen v_keptOuter v_keptInner v_keptContent v_keptWhat v_keptCan v_h) H := hP
          have hD : va_D A (wX8 cI cB cE a v_boards v_kind v_rows (upd v_outer p1.toNatClampNeg ((v_outer p1.toNatClampNeg) + y1_26)) v_inner v_content v_boxes v_rowOf v_columnOf v_seen v_seenWhat v_seenCan v_pageLength v_page v_isWhole v_newKind v_newRows v_newOuter v_newInner v_newContent v_now v_left v_box v_isCounted v_counted v_given v_isTermed v_terms v_term v_shape v_readBoxes v_readRow v_readColumn v_grid v_often v_seedNow v_isKept v_keptBoard v_keptKind v_keptRows v_keptSeen v_keptOuter v_keptInner v_keptContent v_keptWhat v_keptCan v_h) := hD
          refine lv_aload_n hx hb dX8_grow_63 rfl (lv_at hl 0 rfl) ?_
          obtain ⟨r_6, hr_6, hf⟩ := bd_some hf
          refine cx_runW (cx_V (As := []) (rest := []) ⟨hx, hb, hml, hown, hts⟩ (ctX8_lay l z dC dI cI cB cE a v_boards v_kind v_rows (upd v_outer p1.toNatClampNeg ((v_outer p1.toNatClampNeg) + y1_26)) v_inner v_content v_boxes v_rowOf v_columnOf v_seen v_seenWhat v_seenCan v_pageLength v_page v_isWhole v_newKind v_newRows v_newOuter v_newInner v_newContent v_now v_left v_box v_isCounted v_counted v_given v_isTermed v_terms v_term v_shape v_readBoxes v_readRow v_readColumn v_grid v_often v_seedNow v_isKept v_keptBoard v_keptKind v_keptRows v_keptSeen v_keptOuter v_keptInner v_keptContent v_keptWhat v_keptCan v_h r_6 hr_6) (cwV 0 hts gX8_grow_X8_lay rfl rfl rfl (by decide +kernel) ⟨Nat.le_of_ble_eq_true rfl, Nat.le_of_ble_eq_true rfl⟩) hK hP hD hZ hS hA (ci := 8) (q0 := 0) rfl rfl rfl hl.1 rfl (Nat.le_of_ble_eq_true rfl) dX8_grow_64) hD hS hA [] rfl (fun H locs hP hD hS => ?_)
          refine lv_aload_n hx hb dX8_grow_67 rfl (lv_at hl 0 rfl) ?_
          refine va_get (D := (dC, dI)) (ci := 8) (C := RX8) (T := TX8) (N := 47) hx hb hts (fun _ h => List.mem_cons_of_mem _ (List.mem_append_right _ h)) hown hK hP 0 rfl rfl 6 (by decide) (hts (.fieldLink RX8 124 "SkewBoardModel" "boxes" "I") (List.mem_of_getElem? (i := 2) rfl)) (fun _ h9 => h9) rfl dX8_grow_68 ?_
          have hQ2 := hQ
          rw [← Option.some.inj hf] at hQ2
          exact cx_iret hQ2 hx hb hr hlocks hK hP hD hS dX8_grow_71
        refine lv_if_eq (tgt := 56) hx hb dX8_grow_41 (by decide) (fun c_7 => ?_) (fun c_7 => ?_)
        · rw [if_pos c_7] at hf
          exact J56 () hf _ _ hP hD hS ls (lv_sub hl [1, 2, 0] rfl)
        · rw [if_neg c_7] at hf
          refine lv_aload_n hx hb dX8_grow_44 rfl (lv_at hl 1 rfl) ?_
          refine va_get (D := (dC, dI)) (ci := 8) (C := RX8) (T := TX8) (N := 47) hx hb hts (fun _ h => List.mem_cons_of_mem _ (List.mem_append_right _ h)) hown hK hP 0 rfl rfl 6 (by decide) (hts (.fieldLink RX8 124 "SkewBoardModel" "boxes" "I") (List.mem_of_getElem? (i := 2) rfl)) (fun _ h9 => h9) rfl dX8_grow_45 ?_
          refine lv_bipush (v := 9) hx hb dX8_grow_48 (by decide) ?_
          refine lv_icmp_ne (tgt := 56) hx hb dX8_grow_50 (by decide) (fun c_8 => ?_) (fun c_8 => ?_)
          · rw [if_neg c_8] at hf
            exact J56 () hf _ _ hP hD hS ls (lv_sub hl [1, 2, 0] rfl)
          · rw [if_pos c_8] at hf
            refine lv_bipush (v := (-104)) hx hb dX8_grow_53 (by decide) ?_
            have hQ2 := hQ
            rw [← Option.some.inj hf] at hQ2
            exact cx_iret hQ2 hx hb hr hlocks hK hP hD hS dX8_grow_55
      · rw [if_pos c_5] at hf
        refine lv_bipush (v := (-103)) hx hb dX8_grow_37 (by decide) ?_
        have hQ2 := hQ
        rw [← Option.some.inj hf] at hQ2
        exact cx_iret hQ2 hx hb hr hlocks hK hP hD hS dX8_grow_39
    refine lv_if_eq (tgt := 25) hx hb dX8_grow_18 (by decide) (fun c_9 => ?_) (fun c_9 => ?_)
    · rw [if_pos c_9] at hf
      refine lv_iconst (v := (-1)) hx hb dX8_grow_25 (by decide) ?_
      exact J26 (-1) hf _ _ hP hD hS ls (lv_sub hl [0, 1, 2] rfl)
    · rw [if_neg c_9] at hf
      refine lv_iconst (v := 1) hx hb dX8_grow_21 (by decide) ?_
      refine lv_goto (tgt := 26) hx hb dX8_grow_22 (by decide) ?_
      exact J26 1 hf _ _ hP hD hS ls (lv_sub hl [0, 1, 2] rfl)
  · rw [if_pos c_2] at hf
    refine lv_bipush (v := (-101)) hx hb dX8_grow_8 (by decide) ?_
    have hQ2 := hQ
    rw [← Option.some.inj hf] at hQ2
    exact cx_iret hQ2 hx hb hr hlocks hK hP hD hS dX8_grow_10

def fX8_mayBeInner_J69 (y0_69 : Int32) : Option (Int32) :=
    gd (isb y0_69) (some y0_69)
def fX8_mayBeInner_J68 (k69 : Int32 → Option (Int32)) (u_68 : Unit) : Option (Int32) :=
    k69 0
def fX8_mayBeInner_J64 (k69 : Int32 → Option (Int32)) (u_64 : Unit) : Option (Int32) :=
    k69 1
def fX8_mayBeInner_J37 (v_rows : Int32) (v_inner : Nat → Int32) (p1 : Int32) (p2 : Int32) (y0_37 : Int32) : Option (Int32) :=
    if y0_37 = 0 then (fX8_mayBeInner_J68 fX8_mayBeInner_J69 ()) else (if p1 = (v_rows - 1) then (fX8_mayBeInner_J64 fX8_mayBeInner_J69 ()) else (gd (inb (p1 + 1) 4) (if p2 < (v_inner (p1 + 1).toNatClampNeg) then (fX8_mayBeInner_J68 fX8_mayBeInner_J69 ()) else (fX8_mayBeInner_J64 fX8_mayBeInner_J69 ()))))
def fX8_mayBeInner_J36 (k37 : Int32 → Option (Int32)) (u_36 : Unit) : Option (Int32) :=
    k37 0
def fX8_mayBeInner_J32 (k37 : Int32 → Option (Int32)) (u_32 : Unit) : Option (Int32) :=
    k37 1
def fX8_mayBeInner (p1 : Int32) (p2 : Int32) (v_rows : Int32) (v_outer : Nat → Int32) (v_inner : Nat → Int32) : Option (Int32) :=
  gd (inb p1 4) (bd (fX8_within p2 0 (v_outer p1.toNatClampNeg)) (fun r_2 => if r_2 = 0 then (fX8_mayBeInner_J36 (fX8_mayBeInner_J37 v_rows v_inner p1 p2) ()) else (if p1 = 0 then (fX8_mayBeInner_J32 (fX8_mayBeInner_J37 v_rows v_inner p1 p2) ()) else (gd (inb (p1 - 1) 4) (if (v_inner (p1 - 1).toNatClampNeg) < p2 then (fX8_mayBeInner_J36 (fX8_mayBeInner_J37 v_rows v_inner p1 p2) ()) else (fX8_mayBeInner_J32 (fX8_mayBeInner_J37 v_rows v_inner p1 p2) ()))))))
def rmX8_mayBeInner : Room := { frames := 1, cells := 0, slots := 0, locals := 22 }
set_option maxRecDepth 100000 in
set_option maxHeartbeats 4000000 in
theorem ctX8_mayBeInner (l : Launch) (z : Nat × Nat × Nat) (dC : Nat → ClassId) (dI : Nat → Nat → Nat) (cI cB cE : ClassId) (a : Nat → Nat) (v_boards : Int32) (v_kind : Int32) (v_rows : Int32) (v_outer : Nat → Int32) (v_inner : Nat → Int32) (v_content : Nat → Int32) (v_boxes : Int32) (v_rowOf : Nat → Int32) (v_columnOf : Nat → Int32) (v_seen : Int32) (v_seenWhat : Nat → Int32) (v_seenCan : Nat → Int32) (v_pageLength : Int32) (v_page : Nat → Int32) (v_isWhole : Int32) (v_newKind : Int32) (v_newRows : Int32) (v_newOuter : Nat → Int32) (v_newInner : Nat → Int32) (v_newContent : Nat → Int32) (v_now : Nat → Int32) (v_left : Nat → Int32) (v_box : Int32) (v_isCounted : Int32) (v_counted : Int32) (v_given : Nat → Int32) (v_isTermed : Int32) (v_terms : Int32) (v_term : Nat → Int32) (v_shape : Nat → Int32) (v_readBoxes : Int32) (v_readRow : Nat → Int32) (v_readColumn : Nat → Int32) (v_grid : Nat → Int32) (v_often : Nat → Int32) (v_seedNow : Int64) (v_isKept : Int32) (v_keptBoard : Int32) (v_keptKind : Int32) (v_keptRows : Int32) (v_keptSeen : Int32) (v_keptOuter : Nat → Int32) (v_keptInner : Nat → Int32) (v_keptContent : Nat → Int32) (v_keptWhat : Nat → Int32) (v_keptCan : Nat → Int32) (v_h : Int64) (p1 : Int32) (p2 : Int32) (fin : Int32) (hf : fX8_mayBeInner p1 p2 v_rows v_outer v_inner = some fin) : Ct l z (dC, dI) (tyL cI cB cE) yX8_mayBeInner wsX8_mayBeInner rmX8_mayBeInner [.ref (a 0), .int p1, .int p2] (wX8 cI cB cE a v_boards v_kind v_rows v_outer v_inner v_content v_boxes v_rowOf v_columnOf v_seen v_seenWhat v_seenCan v_pageLength v_page v_isWhole v_newKind v_newRows v_newOuter v_newInner v_newContent v_now v_left v_box v_isCounted v_counted v_given v_isTermed v_terms v_term v_shape v_readBoxes v_readRow v_readColumn v_grid v_often v_seedNow v_isKept v_keptBoard v_keptKind v_keptRows v_keptSeen v_keptOuter v_keptInner v_keptContent v_keptWhat v_keptCan v_h) (some (.int fin)) (wX8 cI cB cE a v_boards v_kind v_rows v_outer v_inner v_content v_boxes v_rowOf v_columnOf v_seen v_seenWhat v_seenCan v_pageLength v_page v_isWhole v_newKind v_newRows v_newOuter v_newInner v_newContent v_now v_left v_box v_isCounted v_counted v_given v_isTermed v_terms v_term v_shape v_readBoxes v_readRow v_readColumn v_grid v_often v_seedNow v_isKept v_keptBoard v_keptKind v_keptRows v_keptSeen v_keptOuter v_keptInner v_keptContent v_keptWhat v_keptCan v_h) := by
  refine Met.ofC (cc := cX8_mayBeInner) (maxL := 4) (ret := (some .boolean)) (by decide) rfl (Nat.le_of_ble_eq_true rfl) ?_
  intro p e s m args below meth c A Q ls hx hb hr hml hts hown hlocks hA hK hP hD hZ hS hQ hl
  have hown : s.vm.findClass RX8 = some m.cls := hown
  have hl : lv_has ls 4 [(0, .ref (a 0)), (1, .int p1), (2, .int p2)] := hl
  unfold fX8_mayBeInner at hf
  refine lv_iload_n hx hb dX8_mayBeInner_0 rfl (lv_at hl 2 rfl) ?_
  refine lv_iconst (v := 0) hx hb dX8_mayBeInner_1 (by decide) ?_
  refine lv_aload_n hx hb dX8_mayBeInner_2 rfl (lv_at hl 0 rfl) ?_
  refine va_get (D := (dC, dI)) (ci := 8) (C := RX8) (T := TX8) (N := 47) hx hb hts (fun _ h => List.mem_cons_of_mem _ (List.mem_append_right _ h)) hown hK hP 0 rfl rfl 3 (by decide) (hts (.fieldLink RX8 7 "SkewBoardModel" "outer" "[I") (List.mem_of_getElem? (i := 1) rfl)) (fun _ h9 => h9) rfl dX8_mayBeInner_3 ?_
  refine lv_iload_n hx hb dX8_mayBeInner_6 rfl (lv_at hl 1 rfl) ?_
  obtain ⟨g_1, hf⟩ := gd_some hf
  refine va_iald hx hb hK hP 1 0 rfl rfl (inb_vp g_1) dX8_mayBeInner_7 ?_
  obtain ⟨r_2, hr_2, hf⟩ := bd_some hf
  refine cx_run0 (cx_S (A := A) (As := [.int p2, .int 0, .int (v_outer p1.toNatClampNeg)]) (rest := []) ⟨hx, hb, hml, hown, hts⟩ (ctX8_within l z dC dI cI cB cE p2 0 (v_outer p1.toNatClampNeg) r_2 hr_2) (va_cwS 3 hts gX8_mayBeInner_X8_within rfl rfl rfl (by decide +kernel) ⟨Nat.le_of_ble_eq_true rfl, Nat.le_of_ble_eq_true rfl⟩) hK vaP0 vaD0 hZ hS hA rfl hl.1 rfl (Nat.le_of_ble_eq_true rfl) dX8_mayBeInner_8) hP hS hA [.int r_2] rfl (fun H locs hP hS => ?_)
  refine lv_istore_n (lv' := [(3, .int r_2), (0, .ref (a 0)), (1, .int p1), (2, .int p2)]) hx hb dX8_mayBeInner_11 rfl hl (by decide) rfl (fun ls hl => ?_)
  refine lv_iload_n hx hb dX8_mayBeInner_12 rfl (lv_at hl 0 rfl) ?_
  have J37 : ∀ (y0_37 : Int32), fX8_mayBeInner_J37 v_rows v_inner p1 p2 y0_37 = some fin → ∀ (H : Heap) (locs : List Loc), va_P (dC, dI) vwCl (wX8 cI cB cE a v_boards v_kind v_rows v_outer v_inner v_content v_boxes v_rowOf v_columnOf v_seen v_seenWhat v_seenCan v_pageLength v_page v_isWhole v_newKind v_newRows v_newOuter v_newInner v_newContent v_now v_left v_box v_isCounted v_counted v_given v_isTermed v_terms v_term v_shape v_readBoxes v_readRow v_readColumn v_grid v_often v_seedNow v_isKept v_keptBoard v_keptKind v_keptRows v_keptSeen v_keptOuter v_keptInner v_keptContent v_keptWhat v_keptCan v_h) H → va_D A (wX8 cI cB cE a v_boards v_kind v_rows v_outer v_inner v_content v_boxes v_rowOf v_columnOf v_seen v_seenWhat v_seenCan v_pageLength v_page v_isWhole v_newKind v_newRows v_newOuter v_newInner v_newContent v_now v_left v_box v_isCounted v_counted v_given v_isTermed v_terms v_term v_shape v_readBoxes v_readRow v_readColumn v_grid v_often v_seedNow v_isKept v_keptBoard v_keptKind v_keptRows v_keptSeen v_keptOuter v_keptInner v_keptContent v_keptWhat v_keptCan v_h) → va_S A s.heap H locs → ∀ (ls : Array Slot), lv_has ls 4 [(0, .ref (a 0)), (1, .int p1), (2, .int p2)] → W p l e rmX8_mayBeInner s m args below meth c H locs 0 0 Q (F0 m 37 ls [.int y0_37]) := by
    intro y0_37 hf H locs hP hD hS ls hl
    unfold fX8_mayBeInner_J37 at hf
    refine lv_istore_n (lv' := [(3, .int y0_37), (0, .ref (a 0)), (1, .int p1), (2, .int p2)]) hx hb dX8_mayBeInner_37 rfl hl (by decide) rfl (fun ls hl => ?_)
    refine lv_iload_n hx hb dX8_mayBeInner_38 rfl (lv_at hl 0 rfl) ?_
    have J69 : ∀ (y0_69 : Int32), fX8_mayBeInner_J69  y0_69 = some fin → ∀ (H : Heap) (locs : List Loc), va_P (dC, dI) vwCl (wX8 cI cB cE a v_boards v_kind v_rows v_outer v_inner v_content v_boxes v_rowOf v_columnOf v_seen v_seenWhat v_seenCan v_pageLength v_page v_isWhole v_newKind v_newRows v_newOuter v_newInner v_newContent v_now v_left v_box v_isCounted v_counted v_given v_isTermed v_terms v_term v_shape v_readBoxes v_readRow v_readColumn v_grid v_often v_seedNow v_isKept v_keptBoard v_keptKind v_keptRows v_keptSeen v_keptOuter v_keptInner v_keptContent v_keptWhat v_keptCan v_h) H → va_D A (wX8 cI cB cE a v_boards v_kind v_rows v_outer v_inner v_content v_boxes v_rowOf v_columnOf v_seen v_seenWhat v_seenCan v_pageLength v_page v_isWhole v_newKind v_newRows v_newOuter v_newInner v_newContent v_now v_left v_box v_isCounted v_counted v_given v_isTermed v_terms v_term v_shape v_readBoxes v_readRow v_readColumn v_grid v_often v_seedNow v_isKept v_keptBoard v_keptKind v_keptRows v_keptSeen v_keptOuter v_keptInner v_keptContent v_keptWhat v_keptCan v_h) → va_S A s.heap H locs → ∀ (ls : Array Slot), lv_has ls 4 [] → W p l e rmX8_mayBeInner s m args below meth c H locs 0 0 Q (F0 m 69 ls [.int y0_69]) := by
      intro y0_69 hf H locs hP hD hS ls hl
      unfold fX8_mayBeInner_J69 at hf
      obtain ⟨g_3, hf⟩ := gd_some hf
      have hQ2 := hQ
      rw [← Option.some.inj hf] at hQ2
      exact cx_zret (isb_nar g_3) hQ2 hx hb hr hlocks hK hP hD hS dX8_mayBeInner_69
    have J68 : ∀ (u_68 : Unit), fX8_mayBeInner_J68 (fX8_mayBeInner_J69) u_68 = some fin → ∀ (H : Heap) (locs : List Loc), va_P (dC, dI) vwCl (wX8 cI cB cE a v_boards v_kind v_rows v_outer v_inner v_content v_boxes v_rowOf v_columnOf v_seen v_seenWhat v_seenCan v_pageLength v_page v_isWhole v_newKind v_newRows v_newOuter v_newInner v_newContent v_now v_left v_box v_isCounted v_counted v_given v_isTermed v_terms v_term v_shape v_readBoxes v_readRow v_readColumn v_grid v_often v_seedNow v_isKept v_keptBoard v_keptKind v_keptRows v_keptSeen v_keptOuter v_keptInner v_keptContent v_keptWhat v_keptCan v_h) H → va_D A (wX8 cI cB cE a v_boards v_kind v_rows v_outer v_inner v_content v_boxes v_rowOf v_columnOf v_seen v_seenWhat v_seenCan v_pageLength v_page v_isWhole v_newKind v_newRows v_newOuter v_newInner v_newContent v_now v_left v_box v_isCounted v_counted v_given v_isTermed v_terms v_term v_shape v_readBoxes v_readRow v_readColumn v_grid v_often v_seedNow v_isKept v_keptBoard v_keptKind v_keptRows v_keptSeen v_keptOuter v_keptInner v_keptContent v_keptWhat v_keptCan v_h) → va_S A s.heap H locs → ∀ (ls : Array Slot), lv_has ls 4 [] → W p l e rmX8_mayBeInner s m args below meth c H locs 0 0 Q (F0 m 68 ls []) := by
      intro u_68 hf H locs hP hD hS ls hl
      unfold fX8_mayBeInner_J68 at hf
      refine lv_iconst (v := 0) hx hb dX8_mayBeInner_68 (by decide) ?_
      exact J69 0 hf _ _ hP hD hS ls (lv_sub hl [] rfl)
    refine lv_if_eq (tgt := 68) hx hb dX8_mayBeInner_39 (by decide) (fun c_4 => ?_) (fun c_4 => ?_)
    · rw [if_pos c_4] at hf
      exact J68 () hf _ _ hP hD hS ls (lv_sub hl [] rfl)
    · rw [if_neg c_4] at hf
      refine lv_iload_n hx hb dX8_mayBeInner_42 rfl (lv_at hl 2 rfl) ?_
      refine lv_aload_n hx hb dX8_mayBeInner_43 rfl (lv_at hl 1 rfl) ?_
      refine va_get (D := (dC, dI)) (ci := 8) (C := RX8) (T := TX8) (N := 47) hx hb hts (fun _ h => List.mem_cons_of_mem _ (List.mem_append_right _ h)) hown hK hP 0 rfl rfl 2 (by decide) (hts (.fieldLink RX8 127 "SkewBoardModel" "rows" "I") (List.mem_of_getElem? (i := 3) rfl)) (fun _ h9 => h9) rfl dX8_mayBeInner_44 ?_
      refine lv_iconst (v := 1) hx hb dX8_mayBeInner_47 (by decide) ?_
      refine lv_isub hx hb dX8_mayBeInner_48 ?_
      have J64 : ∀ (u_64 : Unit), fX8_mayBeInner_J64 (fX8_mayBeInner_J69) u_64 = some fin → ∀ (H : Heap) (locs : List Loc), va_P (dC, dI) vwCl (wX8 cI cB cE a v_boards v_kind v_rows v_outer v_inner v_content v_boxes v_rowOf v_columnOf v_seen v_seenWhat v_seenCan v_pageLength v_page v_isWhole v_newKind v_newRows v_newOuter v_newInner v_newContent v_now v_left v_box v_isCounted v_counted v_given v_isTermed v_terms v_term v_shape v_readBoxes v_readRow v_readColumn v_grid v_often v_seedNow v_isKept v_keptBoard v_keptKind v_keptRows v_keptSeen v_keptOuter v_keptInner v_keptContent v_keptWhat v_keptCan v_h) H → va_D A (wX8 cI cB cE a v_boards v_kind v_rows v_outer v_inner v_content v_boxes v_rowOf v_columnOf v_seen v_seenWhat v_seenCan v_pageLength v_page v_isWhole v_newKind v_newRows v_newOuter v_newInner v_newContent v_now v_left v_box v_isCounted v_counted v_given v_isTermed v_terms v_term v_shape v_readBoxes v_readRow v_readColumn v_grid v_often v_seedNow v_isKept v_keptBoard v_keptKind v_keptRows v_keptSeen v_keptOuter v_keptInner v_keptContent v_keptWhat v_keptCan v_h) → va_S A s.heap H locs → ∀ (ls : Array Slot), lv_has ls 4 [] → W p l e rmX8_mayBeInner s m args below meth c H locs 0 0 Q (F0 m 64 ls []) := by
        intro u_64 hf H locs hP hD hS ls hl
        unfold fX8_mayBeInner_J64 at hf
        refine lv_iconst (v := 1) hx hb dX8_mayBeInner_64 (by decide) ?_
        refine lv_goto (tgt := 69) hx hb dX8_mayBeInner_65 (by decide) ?_
        exact J69 1 hf _ _ hP hD hS ls (lv_sub hl [] rfl)
      refine lv_icmp_eq (tgt := 64) hx hb dX8_mayBeInner_49 (by decide) (fun c_5 => ?_) (fun c_5 => ?_)
      · rw [if_pos c_5] at hf
        exact J64 () hf _ _ hP hD hS ls (lv_sub hl [] rfl)
      · rw [if_neg c_5] at hf
        refine lv_iload_n hx hb dX8_mayBeInner_52 rfl (lv_at hl 3 rfl) ?_
        refine lv_aload_n hx hb dX8_mayBeInner_53 rfl (lv_at hl 1 rfl) ?_
        refine va_get (D := (dC, dI)) (ci := 8) (C := RX8) (T := TX8) (N := 47) hx hb hts (fun _ h => List.mem_cons_of_mem _ (List.mem_append_right _ h)) hown hK hP 0 rfl rfl 4 (by decide) (hts (.fieldLink RX8 13 "SkewBoardModel" "inner" "[I") (List.mem_of_getElem? (i := 2) rfl)) (fun _ h9 => h9) rfl dX8_mayBeInner_54 ?_
        refine lv_iload_n hx hb dX8_mayBeInner_57 rfl (lv_at hl 2 rfl) ?_
        refine lv_iconst (v := 1) hx hb dX8_mayBeInner_58 (by decide) ?_
        refine lv_iadd hx hb dX8_mayBeInner_59 ?_
        obtain ⟨g_6, hf⟩ := gd_some hf
        refine va_iald hx hb hK hP 2 0 rfl rfl (inb_vp g_6) dX8_mayBeInner_60 ?_
        refine lv_icmp_lt (tgt := 68) hx hb dX8_mayBeInner_61 (by decide) (fun c_7 => ?_) (fun c_7 => ?_)
        · rw [if_pos c_7] at hf
          exact J68 () hf _ _ hP hD hS ls (lv_sub hl [] rfl)
        · rw [if_neg c_7] at hf
          exact J64 () hf _ _ hP hD hS ls (lv_sub hl [] rfl)
  have J36 : ∀ (u_36 : Unit), fX8_mayBeInner_J36 (fX8_mayBeInner_J37 v_rows v_inner p1 p2) u_36 = some fin → ∀ (H : Heap) (locs : List Loc), va_P (dC, dI) vwCl (wX8 cI cB cE a v_boards v_kind v_rows v_outer v_inner v_content v_boxes v_rowOf v_columnOf v_seen v_seenWhat v_seenCan v_pageLength v_page v_isWhole v_newKind v_newRows v_newOuter v_newInner v_newContent v_now v_left v_box v_isCounted v_counted v_given v_isTermed v_terms v_term v_shape v_readBoxes v_readRow v_readColumn v_grid v_often v_seedNow v_isKept v_keptBoard v_keptKind v_keptRows v_keptSeen v_keptOuter v_keptInner v_keptContent v_keptWhat v_keptCan v_h) H → va_D A (wX8 cI cB cE a v_boards v_kind v_rows v_outer v_inner v_content v_boxes v_rowOf v_columnOf v_seen v_seenWhat v_seenCan v_pageLength v_page v_isWhole v_newKind v_newRows v_newOuter v_newInner v_newContent v_now v_left v_box v_isCounted v_counted v_given v_isTermed v_terms v_term v_shape v_readBoxes v_readRow v_readColumn v_grid v_often v_seedNow v_isKept v_keptBoard v_keptKind v_keptRows v_keptSeen v_keptOuter v_keptInner v_keptContent v_keptWhat v_keptCan v_h) → va_S A s.heap H locs → ∀ (ls : Array Slot), lv_has ls 4 [(0, .ref (a 0)), (1, .int p1), (2, .int p2)] → W p l e rmX8_mayBeInner s m args below meth c H locs 0 0 Q (F0 m 36 ls []) := by
    intro u_36 hf H locs hP hD hS ls hl
    unfold fX8_mayBeInner_J36 at hf
    refine lv_iconst (v := 0) hx hb dX8_mayBeInner_36 (by decide) ?_
    exact J37 0 hf _ _ hP hD hS ls (lv_sub hl [0, 1, 2] rfl)
  refine lv_if_eq (tgt := 36) hx hb dX8_mayBeInner_13 (by decide) (fun c_8 => ?_) (fun c_8 => ?_)
  · rw [if_pos c_8] at hf
    exact J36 () hf _ _ hP hD hS ls (lv_sub hl [1, 2, 3] rfl)
  · rw [if_neg c_8] at hf
    refine lv_iload_n hx hb dX8_mayBeInner_16 rfl (lv_at hl 2 rfl) ?_
    have J32 : ∀ (u_32 : Unit), fX8_mayBeInner_J32 (fX8_mayBeInner_J37 v_rows v_inner p1 p2) u_32 = some fin → ∀ (H : Heap) (locs : List Loc), va_P (dC, dI) vwCl (wX8 cI cB cE a v_boards v_kind v_rows v_outer v_inner v_content v_boxes v_rowOf v_columnOf v_seen v_seenWhat v_seenCan v_pageLength v_page v_isWhole v_newKind v_newRows v_newOuter v_newInner v_newContent v_now v_left v_box v_isCounted v_counted v_given v_isTermed v_terms v_term v_shape v_readBoxes v_readRow v_readColumn v_grid v_often v_seedNow v_isKept v_keptBoard v_keptKind v_keptRows v_keptSeen v_keptOuter v_keptInner v_keptContent v_keptWhat v_keptCan v_h) H → va_D A (wX8 cI cB cE a v_boards v_kind v_rows v_outer v_inner v_content v_boxes v_rowOf v_columnOf v_seen v_seenWhat v_seenCan v_pageLength v_page v_isWhole v_newKind v_newRows v_newOuter v_newInner v_newContent v_now v_left v_box v_isCounted v_counted v_given v_isTermed v_terms v_term v_shape v_readBoxes v_readRow v_readColumn v_grid v_often v_seedNow v_isKept v_keptBoard v_keptKind v_keptRows v_keptSeen v_keptOuter v_keptInner v_keptContent v_keptWhat v_keptCan v_h) → va_S A s.heap H locs → ∀ (ls : Array Slot), lv_has ls 4 [(0, .ref (a 0)), (1, .int p1), (2, .int p2)] → W p l e rmX8_mayBeInner s m args below meth c H locs 0 0 Q (F0 m 32 ls []) := by
      intro u_32 hf H locs hP hD hS ls hl
      unfold fX8_mayBeInner_J32 at hf
      refine lv_iconst (v := 1) hx hb dX8_mayBeInner_32 (by decide) ?_
      refine lv_goto (tgt := 37) hx hb dX8_mayBeInner_33 (by decide) ?_
      exact J37 1 hf _ _ hP hD hS ls (lv_sub hl [0, 1, 2] rfl)
    refine lv_if_eq (tgt := 32) hx hb dX8_mayBeInner_17 (by decide) (fun c_9 => ?_) (fun c_9 => ?_)
    · rw [if_pos c_9] at hf
      exact J32 () hf _ _ hP hD hS ls (lv_sub hl [1, 2, 3] rfl)
    · rw [if_neg c_9] at hf
      refine lv_iload_n hx hb dX8_mayBeInner_20 rfl (lv_at hl 3 rfl) ?_
      refine lv_aload_n hx hb dX8_mayBeInner_21 rfl (lv_at hl 1 rfl) ?_
      refine va_get (D := (dC, dI)) (ci := 8) (C := RX8) (T := TX8) (N := 47) hx hb hts (fun _ h => List.mem_cons_of_mem _ (List.mem_append_right _ h)) hown hK hP 0 rfl rfl 4 (by decide) (hts (.fieldLink RX8 13 "SkewBoardModel" "inner" "[I") (List.mem_of_getElem? (i := 2) rfl)) (fun _ h9 => h9) rfl dX8_mayBeInner_22 ?_
      refine lv_iload_n hx hb dX8_mayBeInner_25 rfl (lv_at hl 2 rfl) ?_
      refine lv_iconst (v := 1) hx hb dX8_mayBeInner_26 (by decide) ?_
      refine lv_isub hx hb dX8_mayBeInner_27 ?_
      obtain ⟨g_10, hf⟩ := gd_some hf
      refine va_iald hx hb hK hP 2 0 rfl rfl (inb_vp g_10) dX8_mayBeInner_28 ?_
      refine lv_icmp_gt (tgt := 36) hx hb dX8_mayBeInner_29 (by decide) (fun c_11 => ?_) (fun c_11 => ?_)
      · rw [if_pos c_11] at hf
        exact J36 () hf _ _ hP hD hS ls (lv_sub hl [1, 2, 3] rfl)
      · rw [if_neg c_11] at hf
        exact J32 () hf _ _ hP hD hS ls (lv_sub hl [1, 2, 3] rfl)

def fX8_cut (p1 : Int32) (p2 : Int32) (v_rows : Int32) (v_outer : Nat → Int32) (v_inner : Nat → Int32) (v_boxes : Int32) (v_rowOf : Nat → Int32) (v_columnOf : Nat → Int32) (v_isCounted : Int32) (v_isTermed : Int32) : Option (Int32 × (Nat → Int32) × Int32 × (Nat → Int32) × (Nat → Int32) × Int32 × Int32) :=
  bd (fX8_isRow p1 v_rows) (fun r_1 => if r_1 = 0 then (some ((-101), v_inner, v_boxes, v_rowOf, v_columnOf, v_isCounted, v_isTermed)) else (bd (fX8_mayBeInner p1 p2 v_rows v_outer v_inner) (fun r_3 => if r_3 = 0 then (some ((-103), v_inner, v_boxes, v_rowOf, v_columnOf, v_isCounted, v_isTermed)) else (gd (inb p1 4) (if ((v_boxes + (v_inner p1.toNatClampNeg)) - p2) ≤ 9 then (bd (fX8_lay v_rows v_outer (upd v_inner p1.toNatClampNeg p2) v_rowOf v_columnOf) (fun r_7 => some ((v_inner p1.toNatClampNeg), (upd v_inner p1.toNatClampNeg p2), r_7.1, r_7.2.1, r_7.2.2.1, r_7.2.2.2.1, r_7.2.2.2.2))) else (some ((-104), v_inner, v_boxes, v_rowOf, v_columnOf, v_isCounted, v_isTermed)))))))
def rmX8_cut : Room := { frames := 2, cells := 0, slots := 0, locals := 45 }
set_option maxRecDepth 100000 in
set_option maxHeartbeats 4000000 in
theorem ctX8_cut (l : Launch) (z : Nat × Nat × Nat) (dC : Nat → ClassId) (dI : Nat → Nat → Nat) (cI cB cE : ClassId) (a : Nat → Nat) (v_boards : Int32) (v_kind : Int32) (v_rows : Int32) (v_outer : Nat → Int32) (v_inner : Nat → Int32) (v_content : Nat → Int32) (v_boxes : Int32) (v_rowOf : Nat → Int32) (v_columnOf : Nat → Int32) (v_seen : Int32) (v_seenWhat : Nat → Int32) (v_seenCan : Nat → Int32) (v_pageLength : Int32) (v_page : Nat → Int32) (v_isWhole : Int32) (v_newKind : Int32) (v_newRows : Int32) (v_newOuter : Nat → Int32) (v_newInner : Nat → Int32) (v_newContent : Nat → Int32) (v_now : Nat → Int32) (v_left : Nat → Int32) (v_box : Int32) (v_isCounted : Int32) (v_counted : Int32) (v_given : Nat → Int32) (v_isTermed : Int32) (v_terms : Int32) (v_term : Nat → Int32) (v_shape : Nat → Int32) (v_readBoxes : Int32) (v_readRow : Nat → Int32) (v_readColumn : Nat → Int32) (v_grid : Nat → Int32) (v_often : Nat → Int32) (v_seedNow : Int64) (v_isKept : Int32) (v_keptBoard : Int32) (v_keptKind : Int32) (v_keptRows : Int32) (v_keptSeen : Int32) (v_keptOuter : Nat → Int32) (v_keptInner : Nat → Int32) (v_keptContent : Nat → Int32) (v_keptWhat : Nat → Int32) (v_keptCan : Nat → Int32) (v_h : Int64) (p1 : Int32) (p2 : Int32) (fin : Int32 × (Nat → Int32) × Int32 × (Nat → Int32) × (Nat → Int32) × Int32 × Int32) (hf : fX8_cut p1 p2 v_rows v_outer v_inner v_boxes v_rowOf v_columnOf v_isCounted v_isTermed = some fin) : Ct l z (dC, dI) (tyL cI cB cE) yX8_cut wsX8_cut rmX8_cut [.ref (a 0), .int p1, .int p2] (wX8 cI cB cE a v_boards v_kind v_rows v_outer v_inner v_content v_boxes v_rowOf v_columnOf v_seen v_seenWhat v_seenCan v_pageLength v_page v_isWhole v_newKind v_newRows v_newOuter v_newInner v_newContent v_now v_left v_box v_isCounted v_counted v_given v_isTermed v_terms v_term v_shape v_readBoxes v_readRow v_readColumn v_grid v_often v_seedNow v_isKept v_keptBoard v_keptKind v_keptRows v_keptSeen v_keptOuter v_keptInner v_keptContent v_keptWhat v_keptCan v_h) (some (.int fin.1)) (wX8 cI cB cE a v_boards v_kind v_rows v_outer fin.2.1 v_content fin.2.2.1 fin.2.2.2.1 fin.2.2.2.2.1 v_seen v_seenWhat v_seenCan v_pageLength v_page v_isWhole v_newKind v_newRows v_newOuter v_newInner v_newContent v_now v_left v_box fin.2.2.2.2.2.1 v_counted v_given fin.2.2.2.2.2.2 v_terms v_term v_shape v_readBoxes v_readRow v_readColumn v_grid v_often v_seedNow v_isKept v_keptBoard v_keptKind v_keptRows v_keptSeen v_keptOuter v_keptInner v_keptContent v_keptWhat v_keptCan v_h) := by
  refine Met.ofC (cc := cX8_cut) (maxL := 4) (ret := (some .int)) (by decide) rfl (Nat.le_of_ble_eq_true rfl) ?_
  intro p e s m args below meth c A Q ls hx hb hr hml hts hown hlocks hA hK hP hD hZ hS hQ hl
  have hown : s.vm.findClass RX8 = some m.cls := hown
  have hl : lv_has ls 4 [(0, .ref (a 0)), (1, .int p1), (2, .int p2)] := hl
  unfold fX8_cut at hf
  refine lv_aload_n hx hb dX8_cut_0 rfl (lv_at hl 0 rfl) ?_
  refine lv_iload_n hx hb dX8_cut_1 rfl (lv_at hl 1 rfl) ?_
  obtain ⟨r_1, hr_1, hf⟩ := bd_some hf
  refine cx_runW (cx_V (As := [.int p1]) (rest := []) ⟨hx, hb, hml, hown, hts⟩ (ctX8_isRow l z dC dI cI cB cE a v_boards v_kind v_rows v_outer v_inner v_content v_boxes v_rowOf v_columnOf v_seen v_seenWhat v_seenCan v_pageLength v_page v_isWhole v_newKind v_newRows v_newOuter v_newInner v_newContent v_now v_left v_box v_isCounted v_counted v_given v_isTermed v_terms v_term v_shape v_readBoxes v_readRow v_readColumn v_grid v_often v_seedNow v_isKept v_keptBoard v_keptKind v_keptRows v_keptSeen v_keptOuter v_keptInner v_keptContent v_keptWhat v_keptCan v_h p1 r_1 hr_1) (cwV 1 hts gX8_cut_X8_isRow rfl rfl rfl (by decide +kernel) ⟨Nat.le_of_ble_eq_true rfl, Nat.le_of_ble_eq_true rfl⟩) hK hP hD hZ hS hA (ci := 8) (q0 := 0) rfl rfl rfl hl.1 rfl (Nat.le_of_ble_eq_true rfl) dX8_cut_2) hD hS hA [.int r_1] rfl (fun H locs hP hD hS => ?_)
  refine lv_if_ne (tgt := 11) hx hb dX8_cut_5 (by decide) (fun c_2 => ?_) (fun c_2 => ?_)
  · rw [if_neg c_2] at hf
    refine lv_aload_n hx hb dX8_cut_11 rfl (lv_at hl 0 rfl) ?_
    refine lv_iload_n hx hb dX8_cut_12 rfl (lv_at hl 1 rfl) ?_
    refine lv_iload_n hx hb dX8_cut_13 rfl (lv_at hl 2 rfl) ?_
    obtain ⟨r_3, hr_3, hf⟩ := bd_some hf
    refine cx_runW (cx_V (As := [.int p1, .int p2]) (rest := []) ⟨hx, hb, hml, hown, hts⟩ (ctX8_mayBeInner l z dC dI cI cB cE a v_boards v_kind v_rows v_outer v_inner v_content v_boxes v_rowOf v_columnOf v_seen v_seenWhat v_seenCan v_pageLength v_page v_isWhole v_newKind v_newRows v_newOuter v_newInner v_newContent v_now v_left v_box v_isCounted v_counted v_given v_isTermed v_terms v_term v_shape v_readBoxes v_readRow v_readColumn v_grid v_often v_seedNow v_isKept v_keptBoard v_keptKind v_keptRows v_keptSeen v_keptOuter v_keptInner v_keptContent v_keptWhat v_keptCan v_h p1 p2 r_3 hr_3) (cwV 2 hts gX8_cut_X8_mayBeInner rfl rfl rfl (by decide +kernel) ⟨Nat.le_of_ble_eq_true rfl, Nat.le_of_ble_eq_true rfl⟩) hK hP hD hZ hS hA (ci := 8) (q0 := 0) rfl rfl rfl hl.1 rfl (Nat.le_of_ble_eq_true rfl) dX8_cut_14) hD hS hA [.int r_3] rfl (fun H locs hP hD hS => ?_)
    refine lv_if_ne (tgt := 23) hx hb dX8_cut_17 (by decide) (fun c_4 => ?_) (fun c_4 => ?_)
    · rw [if_neg c_4] at hf
      refine lv_aload_n hx hb dX8_cut_23 rfl (lv_at hl 0 rfl) ?_
      refine va_get (D := (dC, dI)) (ci := 8) (C := RX8) (T := TX8) (N := 47) hx hb hts (fun _ h => List.mem_cons_of_mem _ (List.mem_append_right _ h)) hown hK hP 0 rfl rfl 6 (by decide) (hts (.fieldLink RX8 124 "SkewBoardModel" "boxes" "I") (List.mem_of_getElem? (i := 1) rfl)) (fun _ h9 => h9) rfl dX8_cut_24 ?_
      refine lv_aload_n hx hb dX8_cut_27 rfl (lv_at hl 0 rfl) ?_
      refine va_get (D := (dC, dI)) (ci := 8) (C := RX8) (T := TX8) (N := 47) hx hb hts (fun _ h => List.mem_cons_of_mem _ (List.mem_append_right _ h)) hown hK hP 0 rfl rfl 4 (by decide) (hts (.fieldLink RX8 13 "SkewBoardModel" "inner" "[I") (List.mem_of_getElem? (i := 2) rfl)) (fun _ h9 => h9) rfl dX8_cut_28 ?_
      refine lv_iload_n hx hb dX8_cut_31 rfl (lv_at hl 1 rfl) ?_
      obtain ⟨g_5, hf⟩ := gd_some hf
      refine va_iald hx hb hK hP 2 0 rfl rfl (inb_vp g_5) dX8_cut_32 ?_
      refine lv_iadd hx hb dX8_cut_33 ?_
      refine lv_iload_n hx hb dX8_cut_34 rfl (lv_at hl 2 rfl) ?_
      refine lv_isub hx hb dX8_cut_35 ?_
      refine lv_bipush (v := 9) hx hb dX8_cut_36 (by decide) ?_
      refine lv_icmp_le (tgt := 44) hx hb dX8_cut_38 (by decide) (fun c_6 => ?_) (fun c_6 => ?_)
      · rw [if_pos c_6] at hf
        refine lv_aload_n hx hb dX8_cut_44 rfl (lv_at hl 0 rfl) ?_
        refine va_get (D := (dC, dI)) (ci := 8) (C := RX8) (T := TX8) (N := 47) hx hb hts (fun _ h => List.mem_cons_of_mem _ (List.mem_append_right _ h)) hown hK hP 0 rfl rfl 4 (by decide) (hts (.fieldLink RX8 13 "SkewBoardModel" "inner" "[I") (List.mem_of_getElem? (i := 2) rfl)) (fun _ h9 => h9) rfl dX8_cut_45 ?_
        refine lv_iload_n hx hb dX8_cut_48 rfl (lv_at hl 1 rfl) ?_
        refine va_iald hx hb hK hP 2 0 rfl rfl (inb_vp g_5) dX8_cut_49 ?_
        refine lv_istore_n (lv' := [(3, .int (v_inner p1.toNatClampNeg)), (0, .ref (a 0)), (1, .int p1), (2, .int p2)]) hx hb dX8_cut_50 rfl hl (by decide) rfl (fun ls hl => ?_)
        refine lv_aload_n hx hb dX8_cut_51 rfl (lv_at hl 1 rfl) ?_
        refine va_get (D := (dC, dI)) (ci := 8) (C := RX8) (T := TX8) (N := 47) hx hb hts (fun _ h => List.mem_cons_of_mem _ (List.mem_append_right _ h)) hown hK hP 0 rfl rfl 4 (by decide) (hts (.fieldLink RX8 13 "SkewBoardModel" "inner" "[I") (List.mem_of_getElem? (i := 2) rfl)) (fun _ h9 => h9) rfl dX8_cut_52 ?_
        refine lv_iload_n hx hb dX8_cut_55 rfl (lv_at hl 2 rfl) ?_
        refine lv_iload_n hx hb dX8_cut_56 rfl (lv_at hl 3 rfl) ?_
        refine va_iast hx hb hK hP hD hS 2 0 rfl rfl (inb_vp g_5) dX8_cut_57 (fun H locs hP hD hS => ?_)
        have hP : va_P (dC, dI) vwCl (wX8 cI cB cE a v_boards v_kind v_rows v_outer (upd v_inner p1.toNatClampNeg p2) v_content v_boxes v_rowOf v_columnOf v_seen v_seenWhat v_seenCan v_pageLength v_page v_isWhole v_newKind v_newRows v_newOuter v_newInner v_newContent v_now v_left v_box v_isCounted v_counted v_given v_isTermed v_terms v_term v_shape v_readBoxes v_readRow v_readColumn v_grid v_often v_seedNow v_isKept v_keptBoard v_keptKind v_keptRows v_keptSeen v_keptOuter v_keptInner v_keptContent v_keptWhat v_keptCan v_h) H := hP
        have hD : va_D A (wX8 cI cB cE a v_boards v_kind v_rows v_outer (upd v_inner p1.toNatClampNeg p2) v_content v_boxes v_rowOf v_columnOf v_seen v_seenWhat v_seenCan v_pageLength v_page v_isWhole v_newKind v_newRows v_newOuter v_newInner v_newContent v_now v_left v_box v_isCounted v_counted v_given v_isTermed v_terms v_term v_shape v_readBoxes v_readRow v_readColumn v_grid v_often v_seedNow v_isKept v_keptBoard v_keptKind v_keptRows v_keptSeen v_keptOuter v_keptInner v_keptContent v_keptWhat v_keptCan v_h) := hD
        refine lv_aload_n hx hb dX8_cut_58 rfl (lv_at hl 1 rfl) ?_
        obtain ⟨r_7, hr_7, hf⟩ := bd_some hf
        refine cx_runW (cx_V (As := []) (rest := []) ⟨hx, hb, hml, hown, hts⟩ (ctX8_lay l z dC dI cI cB cE a v_boards v_kind v_rows v_outer (upd v_inner p1.toNatClampNeg p2) v_content v_boxes v_rowOf v_columnOf v_seen v_seenWhat v_seenCan v_pageLength v_page v_isWhole v_newKind v_newRows v_newOuter v_newInner v_newContent v_now v_left v_box v_isCounted v_counted v_given v_isTermed v_terms v_term v_shape v_readBoxes v_readRow v_readColumn v_grid v_often v_seedNow v_isKept v_keptBoard v_keptKind v_keptRows v_keptSeen v_keptOuter v_keptInner v_keptContent v_keptWhat v_keptCan v_h r_7 hr_7) (cwV 0 hts gX8_cut_X8_lay rfl rfl rfl (by decide +kernel) ⟨Nat.le_of_ble_eq_true rfl, Nat.le_of_ble_eq_true rfl⟩) hK hP hD hZ hS hA (ci := 8) (q0 := 0) rfl rfl rfl hl.1 rfl (Nat.le_of_ble_eq_true rfl) dX8_cut_59) hD hS hA [] rfl (fun H locs hP hD hS => ?_)
        refine lv_iload_n hx hb dX8_cut_62 rfl (lv_at hl 0 rfl) ?_
        have hQ2 := hQ
        rw [← Option.some.inj hf] at hQ2
        exact cx_iret hQ2 hx hb hr hlocks hK hP hD hS dX8_cut_63
      · rw [if_neg c_6] at hf
        refine lv_bipush (v := (-104)) hx hb dX8_cut_41 (by decide) ?_
        have hQ2 := hQ
        rw [← Option.some.inj hf] at hQ2
        exact cx_iret hQ2 hx hb hr hlocks hK hP hD hS dX8_cut_43
    · rw [if_pos c_4] at hf
      refine lv_bipush (v := (-103)) hx hb dX8_cut_20 (by decide) ?_
      have hQ2 := hQ
      rw [← Option.some.inj hf] at hQ2
      exact cx_iret hQ2 hx hb hr hlocks hK hP hD hS dX8_cut_22
  · rw [if_pos c_2] at hf
    refine lv_bipush (v := (-101)) hx hb dX8_cut_8 (by decide) ?_
    have hQ2 := hQ
    rw [← Option.some.inj hf] at hQ2
    exact cx_iret hQ2 hx hb hr hlocks hK hP hD hS dX8_cut_10

def fX8_give_J18 (v_content : Nat → Int32) (v_boxes : Int32) (v_rowOf : Nat → Int32) (v_columnOf : Nat → Int32) (v_isCounted : Int32) (v_isTermed : Int32) (u_18 : Unit) : Option (Int32 × (Nat → Int32) × Int32 × (Nat → Int32) × (Nat → Int32) × Int32 × Int32) :=
    some ((-102), v_content, v_boxes, v_rowOf, v_columnOf, v_isCounted, v_isTermed)
def fX8_give_J39 (v_content : Nat → Int32) (v_boxes : Int32) (v_rowOf : Nat → Int32) (v_columnOf : Nat → Int32) (v_isCounted : Int32) (v_isTermed : Int32) (u_39 : Unit) : Option (Int32 × (Nat → Int32) × Int32 × (Nat → Int32) × (Nat → Int32) × Int32 × Int32) :=
    some ((-103), v_content, v_boxes, v_rowOf, v_columnOf, v_isCounted, v_isTermed)
def fX8_give (p1 : Int32) (p2 : Int32) (v_rows : Int32) (v_outer : Nat → Int32) (v_inner : Nat → Int32) (v_content : Nat → Int32) (v_boxes : Int32) (v_rowOf : Nat → Int32) (v_columnOf : Nat → Int32) (v_isCounted : Int32) (v_isTermed : Int32) : Option (Int32 × (Nat → Int32) × Int32 × (Nat → Int32) × (Nat → Int32) × Int32 × Int32) :=
  bd (fX8_within p1 1 4) (fun r_1 => if r_1 = 0 then (fX8_give_J18 v_content v_boxes v_rowOf v_columnOf v_isCounted v_isTermed ()) else (bd (fX8_within p2 1 4) (fun r_3 => if r_3 = 0 then (fX8_give_J18 v_content v_boxes v_rowOf v_columnOf v_isCounted v_isTermed ()) else (bd (fX8_isBoard v_rows) (fun r_5 => if r_5 = 0 then (fX8_give_J39 v_content v_boxes v_rowOf v_columnOf v_isCounted v_isTermed ()) else (gd (inb (p1 - 1) 4) (if (v_content (p1 - 1).toNatClampNeg) = 0 then (fX8_give_J39 v_content v_boxes v_rowOf v_columnOf v_isCounted v_isTermed ()) else (gd (inb (p2 - 1) 4) (if (v_content (p2 - 1).toNatClampNeg) = 9 then (some ((-104), v_content, v_boxes, v_rowOf, v_columnOf, v_isCounted, v_isTermed)) else (bd (fX8_lay v_rows v_outer v_inner v_rowOf v_columnOf) (fun r_11 => some (((upd (upd v_content (p1 - 1).toNatClampNeg ((v_content (p1 - 1).toNatClampNeg) - 1)) (p2 - 1).toNatClampNeg (((upd v_content (p1 - 1).toNatClampNeg ((v_content (p1 - 1).toNatClampNeg) - 1)) (p2 - 1).toNatClampNeg) + 1)) (p2 - 1).toNatClampNeg), (upd (upd v_content (p1 - 1).toNatClampNeg ((v_content (p1 - 1).toNatClampNeg) - 1)) (p2 - 1).toNatClampNeg (((upd v_content (p1 - 1).toNatClampNeg ((v_content (p1 - 1).toNatClampNeg) - 1)) (p2 - 1).toNatClampNeg) + 1)), r_11.1, r_11.2.1, r_11.2.2.1, r_11.2.2.2.1, r_11.2.2.2.2))))))))))))
def rmX8_give : Room := { frames := 1, cells := 0, slots := 0, locals := 22 }
set_option maxRecDepth 100000 in
set_option maxHeartbeats 4000000 in
theorem ctX8_give (l : Launch) (z : Nat × Nat × Nat) (dC : Nat → ClassId) (dI : Nat → Nat → Nat) (cI cB cE : ClassId) (a : Nat → Nat) (v_boards : Int32) (v_kind : Int32) (v_rows : Int32) (v_outer : Nat → Int32) (v_inner : Nat → Int32) (v_content : Nat → Int32) (v_boxes : Int32) (v_rowOf : Nat → Int32) (v_columnOf : Nat → Int32) (v_seen : Int32) (v_seenWhat : Nat → Int32) (v_seenCan : Nat → Int32) (v_pageLength : Int32) (v_page : Nat → Int32) (v_isWhole : Int32) (v_newKind : Int32) (v_newRows : Int32) (v_newOuter : Nat → Int32) (v_newInner : Nat → Int32) (v_newContent : Nat → Int32) (v_now : Nat → Int32) (v_left : Nat → Int32) (v_box : Int32) (v_isCounted : Int32) (v_counted : Int32) (v_given : Nat → Int32) (v_isTermed : Int32) (v_terms : Int32) (v_term : Nat → Int32) (v_shape : Nat → Int32) (v_readBoxes : Int32) (v_readRow : Nat → Int32) (v_readColumn : Nat → Int32) (v_grid : Nat → Int32) (v_often : Nat → Int32) (v_seedNow : Int64) (v_isKept : Int32) (v_keptBoard : Int32) (v_keptKind : Int32) (v_keptRows : Int32) (v_keptSeen : Int32) (v_keptOuter : Nat → Int32) (v_keptInner : Nat → Int32) (v_keptContent : Nat → Int32) (v_keptWhat : Nat → Int32) (v_keptCan : Nat → Int32) (v_h : Int64) (p1 : Int32) (p2 : Int32) (fin : Int32 × (Nat → Int32) × Int32 × (Nat → Int32) × (Nat → Int32) × Int32 × Int32) (hf : fX8_give p1 p2 v_rows v_outer v_inner v_content v_boxes v_rowOf v_columnOf v_isCounted v_isTermed = some fin) : Ct l z (dC, dI) (tyL cI cB cE) yX8_give wsX8_give rmX8_give [.ref (a 0), .int p1, .int p2] (wX8 cI cB cE a v_boards v_kind v_rows v_outer v_inner v_content v_boxes v_rowOf v_columnOf v_seen v_seenWhat v_seenCan v_pageLength v_page v_isWhole v_newKind v_newRows v_newOuter v_newInner v_newContent v_now v_left v_box v_isCounted v_counted v_given v_isTermed v_terms v_term v_shape v_readBoxes v_readRow v_readColumn v_grid v_often v_seedNow v_isKept v_keptBoard v_keptKind v_keptRows v_keptSeen v_keptOuter v_keptInner v_keptContent v_keptWhat v_keptCan v_h) (some (.int fin.1)) (wX8 cI cB cE a v_boards v_kind v_rows v_outer v_inner fin.2.1 fin.2.2.1 fin.2.2.2.1 fin.2.2.2.2.1 v_seen v_seenWhat v_seenCan v_pageLength v_page v_isWhole v_newKind v_newRows v_newOuter v_newInner v_newContent v_now v_left v_box fin.2.2.2.2.2.1 v_counted v_given fin.2.2.2.2.2.2 v_terms v_term v_shape v_readBoxes v_readRow v_readColumn v_grid v_often v_seedNow v_isKept v_keptBoard v_keptKind v_keptRows v_keptSeen v_keptOuter v_keptInner v_keptContent v_keptWhat v_keptCan v_h) := by
  refine Met.ofC (cc := cX8_give) (maxL := 3) (ret := (some .int)) (by decide) rfl (Nat.le_of_ble_eq_true rfl) ?_
  intro p e s m args below meth c A Q ls hx hb hr hml hts hown hlocks hA hK hP hD hZ hS hQ hl
  have hown : s.vm.findClass RX8 = some m.cls := hown
  have hl : lv_has ls 3 [(0, .ref (a 0)), (1, .int p1), (2, .int p2)] := hl
  unfold fX8_give at hf
  refine lv_iload_n hx hb dX8_give_0 rfl (lv_at hl 1 rfl) ?_
  refine lv_iconst (v := 1) hx hb dX8_give_1 (by decide) ?_
  refine lv_iconst (v := 4) hx hb dX8_give_2 (by decide) ?_
  obtain ⟨r_1, hr_1, hf⟩ := bd_some hf
  refine cx_run0 (cx_S (A := A) (As := [.int p1, .int 1, .int 4]) (rest := []) ⟨hx, hb, hml, hown, hts⟩ (ctX8_within l z dC dI cI cB cE p1 1 4 r_1 hr_1) (va_cwS 3 hts gX8_give_X8_within rfl rfl rfl (by decide +kernel) ⟨Nat.le_of_ble_eq_true rfl, Nat.le_of_ble_eq_true rfl⟩) hK vaP0 vaD0 hZ hS hA rfl hl.1 rfl (Nat.le_of_ble_eq_true rfl) dX8_give_3) hP hS hA [.int r_1] rfl (fun H locs hP hS => ?_)
  have J18 : ∀ (u_18 : Unit), fX8_give_J18 v_content v_boxes v_rowOf v_columnOf v_isCounted v_isTermed u_18 = some fin → ∀ (H : Heap) (locs : List Loc), va_P (dC, dI) vwCl (wX8 cI cB cE a v_boards v_kind v_rows v_outer v_inner v_content v_boxes v_rowOf v_columnOf v_seen v_seenWhat v_seenCan v_pageLength v_page v_isWhole v_newKind v_newRows v_newOuter v_newInner v_newContent v_now v_left v_box v_isCounted v_counted v_given v_isTermed v_terms v_term v_shape v_readBoxes v_readRow v_readColumn v_grid v_often v_seedNow v_isKept v_keptBoard v_keptKind v_keptRows v_keptSeen v_keptOuter v_keptInner v_keptContent v_keptWhat v_keptCan v_h) H → va_D A (wX8 cI cB cE a v_boards v_kind v_rows v_outer v_inner v_content v_boxes v_rowOf v_columnOf v_seen v_seenWhat v_seenCan v_pageLength v_page v_isWhole v_newKind v_newRows v_newOuter v_newInner v_newContent v_now v_left v_box v_isCounted v_counted v_given v_isTermed v_terms v_term v_shape v_readBoxes v_readRow v_readColumn v_grid v_often v_seedNow v_isKept v_keptBoard v_keptKind v_keptRows v_keptSeen v_keptOuter v_keptInner v_keptContent v_keptWhat v_keptCan v_h) → va_S A s.heap H locs → ∀ (ls : Array Slot), lv_has ls 3 [] → W p l e rmX8_give s m args below meth c H locs 0 0 Q (F0 m 18 ls []) := by
    intro u_18 hf H locs hP hD hS ls hl
    unfold fX8_give_J18 at hf
    refine lv_bipush (v := (-102)) hx hb dX8_give_18 (by decide) ?_
    have hQ2 := hQ
    rw [← Option.some.inj hf] at hQ2
    exact cx_iret hQ2 hx hb hr hlocks hK hP hD hS dX8_give_20
  refine lv_if_eq (tgt := 18) hx hb dX8_give_6 (by decide) (fun c_2 => ?_) (fun c_2 => ?_)
  · rw [if_pos c_2] at hf
    exact J18 () hf _ _ hP hD hS ls (lv_sub hl [] rfl)
  · rw [if_neg c_2] at hf
    refine lv_iload_n hx hb dX8_give_9 rfl (lv_at hl 2 rfl) ?_
    refine lv_iconst (v := 1) hx hb dX8_give_10 (by decide) ?_
    refine lv_iconst (v := 4) hx hb dX8_give_11 (by decide) ?_
    obtain ⟨r_3, hr_3, hf⟩ := bd_some hf
    refine cx_run0 (cx_S (A := A) (As := [.int p2, .int 1, .int 4]) (rest := []) ⟨hx, hb, hml, hown, hts⟩ (ctX8_within l z dC dI cI cB cE p2 1 4 r_3 hr_3) (va_cwS 3 hts gX8_give_X8_within rfl rfl rfl (by decide +kernel) ⟨Nat.le_of_ble_eq_true rfl, Nat.le_of_ble_eq_true rfl⟩) hK vaP0 vaD0 hZ hS hA rfl hl.1 rfl (Nat.le_of_ble_eq_true rfl) dX8_give_12) hP hS hA [.int r_3] rfl (fun H locs hP hS => ?_)
    refine lv_if_ne (tgt := 21) hx hb dX8_give_15 (by decide) (fun c_4 => ?_) (fun c_4 => ?_)
    · rw [if_neg c_4] at hf
      refine lv_aload_n hx hb dX8_give_21 rfl (lv_at hl 0 rfl) ?_
      obtain ⟨r_5, hr_5, hf⟩ := bd_some hf
      refine cx_runW (cx_V (As := []) (rest := []) ⟨hx, hb, hml, hown, hts⟩ (ctX8_isBoard l z dC dI cI cB cE a v_boards v_kind v_rows v_outer v_inner v_content v_boxes v_rowOf v_columnOf v_seen v_seenWhat v_seenCan v_pageLength v_page v_isWhole v_newKind v_newRows v_newOuter v_newInner v_newContent v_now v_left v_box v_isCounted v_counted v_given v_isTermed v_terms v_term v_shape v_readBoxes v_readRow v_readColumn v_grid v_often v_seedNow v_isKept v_keptBoard v_keptKind v_keptRows v_keptSeen v_keptOuter v_keptInner v_keptContent v_keptWhat v_keptCan v_h r_5 hr_5) (cwV 0 hts gX8_give_X8_isBoard rfl rfl rfl (by decide +kernel) ⟨Nat.le_of_ble_eq_true rfl, Nat.le_of_ble_eq_true rfl⟩) hK hP hD hZ hS hA (ci := 8) (q0 := 0) rfl rfl rfl hl.1 rfl (Nat.le_of_ble_eq_true rfl) dX8_give_22) hD hS hA [.int r_5] rfl (fun H locs hP hD hS => ?_)
      have J39 : ∀ (u_39 : Unit), fX8_give_J39 v_content v_boxes v_rowOf v_columnOf v_isCounted v_isTermed u_39 = some fin → ∀ (H : Heap) (locs : List Loc), va_P (dC, dI) vwCl (wX8 cI cB cE a v_boards v_kind v_rows v_outer v_inner v_content v_boxes v_rowOf v_columnOf v_seen v_seenWhat v_seenCan v_pageLength v_page v_isWhole v_newKind v_newRows v_newOuter v_newInner v_newContent v_now v_left v_box v_isCounted v_counted v_given v_isTermed v_terms v_term v_shape v_readBoxes v_readRow v_readColumn v_grid v_often v_seedNow v_isKept v_keptBoard v_keptKind v_keptRows v_keptSeen v_keptOuter v_keptInner v_keptContent v_keptWhat v_keptCan v_h) H → va_D A (wX8 cI cB cE a v_boards v_kind v_rows v_outer v_inner v_content v_boxes v_rowOf v_columnOf v_seen v_seenWhat v_seenCan v_pageLength v_page v_isWhole v_newKind v_newRows v_newOuter v_newInner v_newContent v_now v_left v_box v_isCounted v_counted v_given v_isTermed v_terms v_term v_shape v_readBoxes v_readRow v_readColumn v_grid v_often v_seedNow v_isKept v_keptBoard v_keptKind v_keptRows v_keptSeen v_keptOuter v_keptInner v_keptContent v_keptWhat v_keptCan v_h) → va_S A s.heap H locs → ∀ (ls : Array Slot), lv_has ls 3 [] → W p l e rmX8_give s m args below meth c H locs 0 0 Q (F0 m 39 ls []) := by
        intro u_39 hf H locs hP hD hS ls hl
        unfold fX8_give_J39 at hf
        refine lv_bipush (v := (-103)) hx hb dX8_give_39 (by decide) ?_
        have hQ2 := hQ
        rw [← Option.some.inj hf] at hQ2
        exact cx_iret hQ2 hx hb hr hlocks hK hP hD hS dX8_give_41
      refine lv_if_eq (tgt := 39) hx hb dX8_give_25 (by decide) (fun c_6 => ?_) (fun c_6 => ?_)
      · rw [if_pos c_6] at hf
        exact J39 () hf _ _ hP hD hS ls (lv_sub hl [] rfl)
      · rw [if_neg c_6] at hf
        refine lv_aload_n hx hb dX8_give_28 rfl (lv_at hl 0 rfl) ?_
        refine va_get (D := (dC, dI)) (ci := 8) (C := RX8) (T := TX8) (N := 47) hx hb hts (fun _ h => List.mem_cons_of_mem _ (List.mem_append_right _ h)) hown hK hP 0 rfl rfl 5 (by decide) (hts (.fieldLink RX8 16 "SkewBoardModel" "content" "[I") (List.mem_of_getElem? (i := 1) rfl)) (fun _ h9 => h9) rfl dX8_give_29 ?_
        refine lv_iload_n hx hb dX8_give_32 rfl (lv_at hl 1 rfl) ?_
        refine lv_iconst (v := 1) hx hb dX8_give_33 (by decide) ?_
        refine lv_isub hx hb dX8_give_34 ?_
        obtain ⟨g_7, hf⟩ := gd_some hf
        refine va_iald hx hb hK hP 3 0 rfl rfl (inb_vp g_7) dX8_give_35 ?_
        refine lv_if_ne (tgt := 42) hx hb dX8_give_36 (by decide) (fun c_8 => ?_) (fun c_8 => ?_)
        · rw [if_neg c_8] at hf
          refine lv_aload_n hx hb dX8_give_42 rfl (lv_at hl 0 rfl) ?_
          refine va_get (D := (dC, dI)) (ci := 8) (C := RX8) (T := TX8) (N := 47) hx hb hts (fun _ h => List.mem_cons_of_mem _ (List.mem_append_right _ h)) hown hK hP 0 rfl rfl 5 (by decide) (hts (.fieldLink RX8 16 "SkewBoardModel" "content" "[I") (List.mem_of_getElem? (i := 1) rfl)) (fun _ h9 => h9) rfl dX8_give_43 ?_
          refine lv_iload_n hx hb dX8_give_46 rfl (lv_at hl 2 rfl) ?_
          refine lv_iconst (v := 1) hx hb dX8_give_47 (by decide) ?_
          refine lv_isub hx hb dX8_give_48 ?_
          obtain ⟨g_9, hf⟩ := gd_some hf
          refine va_iald hx hb hK hP 3 0 rfl rfl (inb_vp g_9) dX8_give_49 ?_
          refine lv_bipush (v := 9) hx hb dX8_give_50 (by decide) ?_
          refine lv_icmp_ne (tgt := 58) hx hb dX8_give_52 (by decide) (fun c_10 => ?_) (fun c_10 => ?_)
          · rw [if_neg c_10] at hf
            refine lv_aload_n hx hb dX8_give_58 rfl (lv_at hl 0 rfl) ?_
            refine va_get (D := (dC, dI)) (ci := 8) (C := RX8) (T := TX8) (N := 47) hx hb hts (fun _ h => List.mem_cons_of_mem _ (List.mem_append_right _ h)) hown hK hP 0 rfl rfl 5 (by decide) (hts (.fieldLink RX8 16 "SkewBoardModel" "content" "[I") (List.mem_of_getElem? (i := 1) rfl)) (fun _ h9 => h9) rfl dX8_give_59 ?_
            refine lv_iload_n hx hb dX8_give_62 rfl (lv_at hl 1 rfl) ?_
            refine lv_iconst (v := 1) hx hb dX8_give_63 (by decide) ?_
            refine lv_isub hx hb dX8_give_64 ?_
            refine lv_dup2_11 hx hb dX8_give_65 rfl rfl ?_
            refine va_iald hx hb hK hP 3 0 rfl rfl (inb_vp g_7) dX8_give_66 ?_
            refine lv_iconst (v := 1) hx hb dX8_give_67 (by decide) ?_
            refine lv_isub hx hb dX8_give_68 ?_
            refine va_iast hx hb hK hP hD hS 3 0 rfl rfl (inb_vp g_7) dX8_give_69 (fun H locs hP hD hS => ?_)
            have hP : va_P (dC, dI) vwCl (wX8 cI cB cE a v_boards v_kind v_rows v_outer v_inner (upd v_content (p1 - 1).toNatClampNeg ((v_content (p1 - 1).toNatClampNeg) - 1)) v_boxes v_rowOf v_columnOf v_seen v_seenWhat v_seenCan v_pageLength v_page v_isWhole v_newKind v_newRows v_newOuter v_newInner v_newContent v_now v_left v_box v_isCounted v_counted v_given v_isTermed v_terms v_term v_shape v_readBoxes v_readRow v_readColumn v_grid v_often v_seedNow v_isKept v_keptBoard v_keptKind v_keptRows v_keptSeen v_keptOuter v_keptInner v_keptContent v_keptWhat v_keptCan v_h) H := hP
            have hD : va_D A (wX8 cI cB cE a v_boards v_kind v_rows v_outer v_inner (upd v_content (p1 - 1).toNatClampNeg ((v_content (p1 - 1).toNatClampNeg) - 1)) v_boxes v_rowOf v_columnOf v_seen v_seenWhat v_seenCan v_pageLength v_page v_isWhole v_newKind v_newRows v_newOuter v_newInner v_newContent v_now v_left v_box v_isCounted v_counted v_given v_isTermed v_terms v_term v_shape v_readBoxes v_readRow v_readColumn v_grid v_often v_seedNow v_isKept v_keptBoard v_keptKind v_keptRows v_keptSeen v_keptOuter v_keptInner v_keptContent v_keptWhat v_keptCan v_h) := hD
            refine lv_aload_n hx hb dX8_give_70 rfl (lv_at hl 0 rfl) ?_
            refine va_get (D := (dC, dI)) (ci := 8) (C := RX8) (T := TX8) (N := 47) hx hb hts (fun _ h => List.mem_cons_of_mem _ (List.mem_append_right _ h)) hown hK hP 0 rfl rfl 5 (by decide) (hts (.fieldLink RX8 16 "SkewBoardModel" "content" "[I") (List.mem_of_getElem? (i := 1) rfl)) (fun _ h9 => h9) rfl dX8_give_71 ?_
            refine lv_iload_n hx hb dX8_give_74 rfl (lv_at hl 2 rfl) ?_
            refine lv_iconst (v := 1) hx hb dX8_give_75 (by decide) ?_
            refine lv_isub hx hb dX8_give_76 ?_
            refine lv_dup2_11 hx hb dX8_give_77 rfl rfl ?_
            refine va_iald hx hb hK hP 3 0 rfl rfl (inb_vp g_9) dX8_give_78 ?_
            refine lv_iconst (v := 1) hx hb dX8_give_79 (by decide) ?_
            refine lv_iadd hx hb dX8_give_80 ?_
            refine va_iast hx hb hK hP hD hS 3 0 rfl rfl (inb_vp g_9) dX8_give_81 (fun H locs hP hD hS => ?_)
            have hP : va_P (dC, dI) vwCl (wX8 cI cB cE a v_boards v_kind v_rows v_outer v_inner (upd (upd v_content (p1 - 1).toNatClampNeg ((v_content (p1 - 1).toNatClampNeg) - 1)) (p2 - 1).toNatClampNeg (((upd v_content (p1 - 1).toNatClampNeg ((v_content (p1 - 1).toNatClampNeg) - 1)) (p2 - 1).toNatClampNeg) + 1)) v_boxes v_rowOf v_columnOf v_seen v_seenWhat v_seenCan v_pageLength v_page v_isWhole v_newKind v_newRows v_newOuter v_newInner v_newContent v_now v_left v_box v_isCounted v_counted v_given v_isTermed v_terms v_term v_shape v_readBoxes v_readRow v_readColumn v_grid v_often v_seedNow v_isKept v_keptBoard v_keptKind v_keptRows v_keptSeen v_keptOuter v_keptInner v_keptContent v_keptWhat v_keptCan v_h) H := hP
            have hD : va_D A (wX8 cI cB cE a v_boards v_kind v_rows v_outer v_inner (upd (upd v_content (p1 - 1).toNatClampNeg ((v_content (p1 - 1).toNatClampNeg) - 1)) (p2 - 1).toNatClampNeg (((upd v_content (p1 - 1).toNatClampNeg ((v_content (p1 - 1).toNatClampNeg) - 1)) (p2 - 1).toNatClampNeg) + 1)) v_boxes v_rowOf v_columnOf v_seen v_seenWhat v_seenCan v_pageLength v_page v_isWhole v_newKind v_newRows v_newOuter v_newInner v_newContent v_now v_left v_box v_isCounted v_counted v_given v_isTermed v_terms v_term v_shape v_readBoxes v_readRow v_readColumn v_grid v_often v_seedNow v_isKept v_keptBoard v_keptKind v_keptRows v_keptSeen v_keptOuter v_keptInner v_keptContent v_keptWhat v_keptCan v_h) := hD
            refine lv_aload_n hx hb dX8_give_82 rfl (lv_at hl 0 rfl) ?_
            obtain ⟨r_11, hr_11, hf⟩ := bd_some hf
            refine cx_runW (cx_V (As := []) (rest := []) ⟨hx, hb, hml, hown, hts⟩ (ctX8_lay l z dC dI cI cB cE a v_boards v_kind v_rows v_outer v_inner (upd (upd v_content (p1 - 1).toNatClampNeg ((v_content (p1 - 1).toNatClampNeg) - 1)) (p2 - 1).toNatClampNeg (((upd v_content (p1 - 1).toNatClampNeg ((v_content (p1 - 1).toNatClampNeg) - 1)) (p2 - 1).toNatClampNeg) + 1)) v_boxes v_rowOf v_columnOf v_seen v_seenWhat v_seenCan v_pageLength v_page v_isWhole v_newKind v_newRows v_newOuter v_newInner v_newContent v_now v_left v_box v_isCounted v_counted v_given v_isTermed v_terms v_term v_shape v_readBoxes v_readRow v_readColumn v_grid v_often v_seedNow v_isKept v_keptBoard v_keptKind v_keptRows v_keptSeen v_keptOuter v_keptInner v_keptContent v_keptWhat v_keptCan v_h r_11 hr_11) (cwV 0 hts gX8_give_X8_lay rfl rfl rfl (by decide +kernel) ⟨Nat.le_of_ble_eq_true rfl, Nat.le_of_ble_eq_true rfl⟩) hK hP hD hZ hS hA (ci := 8) (q0 := 0) rfl rfl rfl hl.1 rfl (Nat.le_of_ble_eq_true rfl) dX8_give_83) hD hS hA [] rfl (fun H locs hP hD hS => ?_)
            refine lv_aload_n hx hb dX8_give_86 rfl (lv_at hl 0 rfl) ?_
            refine va_get (D := (dC, dI)) (ci := 8) (C := RX8) (T := TX8) (N := 47) hx hb hts (fun _ h => List.mem_cons_of_mem _ (List.mem_append_right _ h)) hown hK hP 0 rfl rfl 5 (by decide) (hts (.fieldLink RX8 16 "SkewBoardModel" "content" "[I") (List.mem_of_getElem? (i := 1) rfl)) (fun _ h9 => h9) rfl dX8_give_87 ?_
            refine lv_iload_n hx hb dX8_give_90 rfl (lv_at hl 2 rfl) ?_
            refine lv_iconst (v := 1) hx hb dX8_give_91 (by decide) ?_
            refine lv_isub hx hb dX8_give_92 ?_
            refine va_iald hx hb hK hP 3 0 rfl rfl (inb_vp g_9) dX8_give_93 ?_
            have hQ2 := hQ
            rw [← Option.some.inj hf] at hQ2
            exact cx_iret hQ2 hx hb hr hlocks hK hP hD hS dX8_give_94
          · rw [if_pos c_10] at hf
            refine lv_bipush (v := (-104)) hx hb dX8_give_55 (by decide) ?_
            have hQ2 := hQ
            rw [← Option.some.inj hf] at hQ2
            exact cx_iret hQ2 hx hb hr hlocks hK hP hD hS dX8_give_57
        · rw [if_pos c_8] at hf
          exact J39 () hf _ _ hP hD hS ls (lv_sub hl [] rfl)
    · rw [if_pos c_4] at hf
      exact J18 () hf _ _ hP hD hS ls (lv_sub hl [] rfl)

