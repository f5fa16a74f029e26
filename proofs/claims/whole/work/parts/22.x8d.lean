def fX8_way_J33 (y0_33 : Int32) (v_now_33 : Nat → Int32) (v_left_33 : Nat → Int32) (v_box_33 : Int32) (v_isCounted_33 : Int32) (v_counted_33 : Int32) : Option (Int32 × (Nat → Int32) × (Nat → Int32) × Int32 × Int32 × Int32) :=
    some (y0_33, v_now_33, v_left_33, v_box_33, v_isCounted_33, v_counted_33)
def fX8_way_J31 (k33 : Int32 → (Nat → Int32) → (Nat → Int32) → Int32 → Int32 → Int32 → Option (Int32 × (Nat → Int32) × (Nat → Int32) × Int32 × Int32 × Int32)) (v_now_31 : Nat → Int32) (v_left_31 : Nat → Int32) (v_box_31 : Int32) (v_isCounted_31 : Int32) (v_counted_31 : Int32) : Option (Int32 × (Nat → Int32) × (Nat → Int32) × Int32 × Int32 × Int32) :=
    k33 (-101) v_now_31 v_left_31 v_box_31 v_isCounted_31 v_counted_31
def fX8_way (p1 : Int32) (p2 : Int32) (v_kind : Int32) (v_rows : Int32) (v_content : Nat → Int32) (v_boxes : Int32) (v_rowOf : Nat → Int32) (v_columnOf : Nat → Int32) (v_now : Nat → Int32) (v_left : Nat → Int32) (v_box : Int32) (v_isCounted : Int32) (v_counted : Int32) : Option (Int32 × (Nat → Int32) × (Nat → Int32) × Int32 × Int32 × Int32) :=
  bd (fX8_within p2 0 (v_boxes - 1)) (fun r_1 => if r_1 = 0 then (fX8_way_J31 fX8_way_J33 v_now v_left v_box v_isCounted v_counted) else (bd (fX8_find p1 v_kind v_rows v_content v_boxes v_rowOf v_columnOf v_now v_left v_box v_isCounted v_counted) (fun r_3 => if r_3.1 = 0 then (fX8_way_J31 fX8_way_J33 r_3.2.1 r_3.2.2.1 r_3.2.2.2.1 r_3.2.2.2.2.1 r_3.2.2.2.2.2) else (gd (inb p2 9) (fX8_way_J33 (r_3.2.1 p2.toNatClampNeg) r_3.2.1 r_3.2.2.1 r_3.2.2.2.1 r_3.2.2.2.2.1 r_3.2.2.2.2.2)))))
def rmX8_way : Room := { frames := 6, cells := 0, slots := 0, locals := 127 }
set_option maxRecDepth 100000 in
set_option maxHeartbeats 4000000 in
theorem ctX8_way (l : Launch) (z : Nat × Nat × Nat) (dC : Nat → ClassId) (dI : Nat → Nat → Nat) (cI cB cE : ClassId) (a : Nat → Nat) (v_boards : Int32) (v_kind : Int32) (v_rows : Int32) (v_outer : Nat → Int32) (v_inner : Nat → Int32) (v_content : Nat → Int32) (v_boxes : Int32) (v_rowOf : Nat → Int32) (v_columnOf : Nat → Int32) (v_seen : Int32) (v_seenWhat : Nat → Int32) (v_seenCan : Nat → Int32) (v_pageLength : Int32) (v_page : Nat → Int32) (v_isWhole : Int32) (v_newKind : Int32) (v_newRows : Int32) (v_newOuter : Nat → Int32) (v_newInner : Nat → Int32) (v_newContent : Nat → Int32) (v_now : Nat → Int32) (v_left : Nat → Int32) (v_box : Int32) (v_isCounted : Int32) (v_counted : Int32) (v_given : Nat → Int32) (v_isTermed : Int32) (v_terms : Int32) (v_term : Nat → Int32) (v_shape : Nat → Int32) (v_readBoxes : Int32) (v_readRow : Nat → Int32) (v_readColumn : Nat → Int32) (v_grid : Nat → Int32) (v_often : Nat → Int32) (v_seedNow : Int64) (v_isKept : Int32) (v_keptBoard : Int32) (v_keptKind : Int32) (v_keptRows : Int32) (v_keptSeen : Int32) (v_keptOuter : Nat → Int32) (v_keptInner : Nat → Int32) (v_keptContent : Nat → Int32) (v_keptWhat : Nat → Int32) (v_keptCan : Nat → Int32) (v_h : Int64) (p1 : Int32) (p2 : Int32) (fin : Int32 × (Nat → Int32) × (Nat → Int32) × Int32 × Int32 × Int32) (hf : fX8_way p1 p2 v_kind v_rows v_content v_boxes v_rowOf v_columnOf v_now v_left v_box v_isCounted v_counted = some fin) : Ct l z (dC, dI) (tyL cI cB cE) yX8_way wsX8_way rmX8_way [.ref (a 0), .int p1, .int p2] (wX8 cI cB cE a v_boards v_kind v_rows v_outer v_inner v_content v_boxes v_rowOf v_columnOf v_seen v_seenWhat v_seenCan v_pageLength v_page v_isWhole v_newKind v_newRows v_newOuter v_newInner v_newContent v_now v_left v_box v_isCounted v_counted v_given v_isTermed v_terms v_term v_shape v_readBoxes v_readRow v_readColumn v_grid v_often v_seedNow v_isKept v_keptBoard v_keptKind v_keptRows v_keptSeen v_keptOuter v_keptInner v_keptContent v_keptWhat v_keptCan v_h) (some (.int fin.1)) (wX8 cI cB cE a v_boards v_kind v_rows v_outer v_inner v_content v_boxes v_rowOf v_columnOf v_seen v_seenWhat v_seenCan v_pageLength v_page v_isWhole v_newKind v_newRows v_newOuter v_newInner v_newContent fin.2.1 fin.2.2.1 fin.2.2.2.1 fin.2.2.2.2.1 fin.2.2.2.2.2 v_given v_isTermed v_terms v_term v_shape v_readBoxes v_readRow v_readColumn v_grid v_often v_seedNow v_isKept v_keptBoard v_keptKind v_keptRows v_keptSeen v_keptOuter v_keptInner v_keptContent v_keptWhat v_keptCan v_h) := by
  refine Met.ofC (cc := cX8_way) (maxL := 3) (ret := (some .int)) (by decide) rfl (Nat.le_of_ble_eq_true rfl) ?_
  intro p e s m args below meth c A Q ls hx hb hr hml hts hown hlocks hA hK hP hD hZ hS hQ hl
  have hown : s.vm.findClass RX8 = some m.cls := hown
  have hl : lv_has ls 3 [(0, .ref (a 0)), (1, .int p1), (2, .int p2)] := hl
  unfold fX8_way at hf
  refine lv_iload_n hx hb dX8_way_0 rfl (lv_at hl 2 rfl) ?_
  refine lv_iconst (v := 0) hx hb dX8_way_1 (by decide) ?_
  refine lv_aload_n hx hb dX8_way_2 rfl (lv_at hl 0 rfl) ?_
  refine va_get (D := (dC, dI)) (ci := 8) (C := RX8) (T := TX8) (N := 47) hx hb hts (fun _ h => List.mem_cons_of_mem _ (List.mem_append_right _ h)) hown hK hP 0 rfl rfl 6 (by decide) (hts (.fieldLink RX8 124 "SkewBoardModel" "boxes" "I") (List.mem_of_getElem? (i := 1) rfl)) (fun _ h9 => h9) rfl dX8_way_3 ?_
  refine lv_iconst (v := 1) hx hb dX8_way_6 (by decide) ?_
  refine lv_isub hx hb dX8_way_7 ?_
  obtain ⟨r_1, hr_1, hf⟩ := bd_some hf
  refine cx_run0 (cx_S (A := A) (As := [.int p2, .int 0, .int (v_boxes - 1)]) (rest := []) ⟨hx, hb, hml, hown, hts⟩ (ctX8_within l z dC dI cI cB cE p2 0 (v_boxes - 1) r_1 hr_1) (va_cwS 3 hts gX8_way_X8_within rfl rfl rfl (by decide +kernel) ⟨Nat.le_of_ble_eq_true rfl, Nat.le_of_ble_eq_true rfl⟩) hK vaP0 vaD0 hZ hS hA rfl hl.1 rfl (Nat.le_of_ble_eq_true rfl) dX8_way_8) hP hS hA [.int r_1] rfl (fun H locs hP hS => ?_)
  have J33 : ∀ (y0_33 : Int32) (v_now_33 : Nat → Int32) (v_left_33 : Nat → Int32) (v_box_33 : Int32) (v_isCounted_33 : Int32) (v_counted_33 : Int32), fX8_way_J33  y0_33 v_now_33 v_left_33 v_box_33 v_isCounted_33 v_counted_33 = some fin → ∀ (H : Heap) (locs : List Loc), va_P (dC, dI) vwCl (wX8 cI cB cE a v_boards v_kind v_rows v_outer v_inner v_content v_boxes v_rowOf v_columnOf v_seen v_seenWhat v_seenCan v_pageLength v_page v_isWhole v_newKind v_newRows v_newOuter v_newInner v_newContent v_now_33 v_left_33 v_box_33 v_isCounted_33 v_counted_33 v_given v_isTermed v_terms v_term v_shape v_readBoxes v_readRow v_readColumn v_grid v_often v_seedNow v_isKept v_keptBoard v_keptKind v_keptRows v_keptSeen v_keptOuter v_keptInner v_keptContent v_keptWhat v_keptCan v_h) H → va_D A (wX8 cI cB cE a v_boards v_kind v_rows v_outer v_inner v_content v_boxes v_rowOf v_columnOf v_seen v_seenWhat v_seenCan v_pageLength v_page v_isWhole v_newKind v_newRows v_newOuter v_newInner v_newContent v_now_33 v_left_33 v_box_33 v_isCounted_33 v_counted_33 v_given v_isTermed v_terms v_term v_shape v_readBoxes v_readRow v_readColumn v_grid v_often v_seedNow v_isKept v_keptBoard v_keptKind v_keptRows v_keptSeen v_keptOuter v_keptInner v_keptContent v_keptWhat v_keptCan v_h) → va_S A s.heap H locs → ∀ (ls : Array Slot), lv_has ls 3 [] → W p l e rmX8_way s m args below meth c H locs 0 0 Q (F0 m 33 ls [.int y0_33]) := by
    intro y0_33 v_now_33 v_left_33 v_box_33 v_isCounted_33 v_counted_33 hf H locs hP hD hS ls hl
    unfold fX8_way_J33 at hf
    have hQ2 := hQ
    rw [← Option.some.inj hf] at hQ2
    exact cx_iret hQ2 hx hb hr hlocks hK hP hD hS dX8_way_33
  have J31 : ∀ (v_now_31 : Nat → Int32) (v_left_31 : Nat → Int32) (v_box_31 : Int32) (v_isCounted_31 : Int32) (v_counted_31 : Int32), fX8_way_J31 (fX8_way_J33) v_now_31 v_left_31 v_box_31 v_isCounted_31 v_counted_31 = some fin → ∀ (H : Heap) (locs : List Loc), va_P (dC, dI) vwCl (wX8 cI cB cE a v_boards v_kind v_rows v_outer v_inner v_content v_boxes v_rowOf v_columnOf v_seen v_seenWhat v_seenCan v_pageLength v_page v_isWhole v_newKind v_newRows v_newOuter v_newInner v_newContent v_now_31 v_left_31 v_box_31 v_isCounted_31 v_counted_31 v_given v_isTermed v_terms v_term v_shape v_readBoxes v_readRow v_readColumn v_grid v_often v_seedNow v_isKept v_keptBoard v_keptKind v_keptRows v_keptSeen v_keptOuter v_keptInner v_keptContent v_keptWhat v_keptCan v_h) H → va_D A (wX8 cI cB cE a v_boards v_kind v_rows v_outer v_inner v_content v_boxes v_rowOf v_columnOf v_seen v_seenWhat v_seenCan v_pageLength v_page v_isWhole v_newKind v_newRows v_newOuter v_newInner v_newContent v_now_31 v_left_31 v_box_31 v_isCounted_31 v_counted_31 v_given v_isTermed v_terms v_term v_shape v_readBoxes v_readRow v_readColumn v_grid v_often v_seedNow v_isKept v_keptBoard v_keptKind v_keptRows v_keptSeen v_keptOuter v_keptInner v_keptContent v_keptWhat v_keptCan v_h) → va_S A s.heap H locs → ∀ (ls : Array Slot), lv_has ls 3 [] → W p l e rmX8_way s m args below meth c H locs 0 0 Q (F0 m 31 ls []) := by
    intro v_now_31 v_left_31 v_box_31 v_isCounted_31 v_counted_31 hf H locs hP hD hS ls hl
    unfold fX8_way_J31 at hf
    refine lv_bipush (v := (-101)) hx hb dX8_way_31 (by decide) ?_
    exact J33 (-101) v_now_31 v_left_31 v_box_31 v_isCounted_31 v_counted_31 hf _ _ hP hD hS ls (lv_sub hl [] rfl)
  refine lv_if_eq (tgt := 31) hx hb dX8_way_11 (by decide) (fun c_2 => ?_) (fun c_2 => ?_)
  · rw [if_pos c_2] at hf
    exact J31 v_now v_left v_box v_isCounted v_counted hf _ _ hP hD hS ls (lv_sub hl [] rfl)
  · rw [if_neg c_2] at hf
    refine lv_aload_n hx hb dX8_way_14 rfl (lv_at hl 0 rfl) ?_
    refine lv_iload_n hx hb dX8_way_15 rfl (lv_at hl 1 rfl) ?_
    obtain ⟨r_3, hr_3, hf⟩ := bd_some hf
    refine cx_runW (cx_V (As := [.int p1]) (rest := []) ⟨hx, hb, hml, hown, hts⟩ (ctX8_find l z dC dI cI cB cE a v_boards v_kind v_rows v_outer v_inner v_content v_boxes v_rowOf v_columnOf v_seen v_seenWhat v_seenCan v_pageLength v_page v_isWhole v_newKind v_newRows v_newOuter v_newInner v_newContent v_now v_left v_box v_isCounted v_counted v_given v_isTermed v_terms v_term v_shape v_readBoxes v_readRow v_readColumn v_grid v_often v_seedNow v_isKept v_keptBoard v_keptKind v_keptRows v_keptSeen v_keptOuter v_keptInner v_keptContent v_keptWhat v_keptCan v_h p1 r_3 hr_3) (cwV 1 hts gX8_way_X8_find rfl rfl rfl (by decide +kernel) ⟨Nat.le_of_ble_eq_true rfl, Nat.le_of_ble_eq_true rfl⟩) hK hP hD hZ hS hA (ci := 8) (q0 := 0) rfl rfl rfl hl.1 rfl (Nat.le_of_ble_eq_true rfl) dX8_way_16) hD hS hA [.int r_3.1] rfl (fun H locs hP hD hS => ?_)
    refine lv_if_eq (tgt := 31) hx hb dX8_way_19 (by decide) (fun c_4 => ?_) (fun c_4 => ?_)
    · rw [if_pos c_4] at hf
      exact J31 r_3.2.1 r_3.2.2.1 r_3.2.2.2.1 r_3.2.2.2.2.1 r_3.2.2.2.2.2 hf _ _ hP hD hS ls (lv_sub hl [] rfl)
    · rw [if_neg c_4] at hf
      refine lv_aload_n hx hb dX8_way_22 rfl (lv_at hl 0 rfl) ?_
      refine va_get (D := (dC, dI)) (ci := 8) (C := RX8) (T := TX8) (N := 47) hx hb hts (fun _ h => List.mem_cons_of_mem _ (List.mem_append_right _ h)) hown hK hP 0 rfl rfl 20 (by decide) (hts (.fieldLink RX8 44 "SkewBoardModel" "now" "[I") (List.mem_of_getElem? (i := 2) rfl)) (fun _ h9 => h9) rfl dX8_way_23 ?_
      refine lv_iload_n hx hb dX8_way_26 rfl (lv_at hl 2 rfl) ?_
      obtain ⟨g_5, hf⟩ := gd_some hf
      refine va_iald hx hb hK hP 12 0 rfl rfl (inb_vp g_5) dX8_way_27 ?_
      refine lv_goto (tgt := 33) hx hb dX8_way_28 (by decide) ?_
      exact J33 (r_3.2.1 p2.toNatClampNeg) r_3.2.1 r_3.2.2.1 r_3.2.2.2.1 r_3.2.2.2.2.1 r_3.2.2.2.2.2 hf _ _ hP hD hS ls (lv_sub hl [] rfl)

def fX8_hiveNow_J67 (x3_30 : Int32) (x4_30 : Int32) (k30 : Int32 → Int32 → Option (Int32)) (y1_67 : Int32) : Option (Int32) :=
    k30 (x3_30 + y1_67) (x4_30 + 1)
def fX8_hiveNow_J66 (k67 : Int32 → Option (Int32)) (u_66 : Unit) : Option (Int32) :=
    k67 0
def fX8_hiveNow_L30 (v_boxes : Int32) (v_rowOf : Nat → Int32) (v_now : Nat → Int32) (p1 : Int32) (p2 : Int32) : Nat → Int32 → Int32 → Option (Int32)
  | 0, _, _ => none
  | n + 1, x3_30, x4_30 =>
    if v_boxes ≤ x4_30 then (some x3_30) else (gd (inb x4_30 9) (if p1 ≤ (v_rowOf x4_30.toNatClampNeg) then (fX8_hiveNow_J66 (fX8_hiveNow_J67 x3_30 x4_30 (fX8_hiveNow_L30 v_boxes v_rowOf v_now p1 p2 n)) ()) else (if p2 < (v_now x4_30.toNatClampNeg) then (fX8_hiveNow_J66 (fX8_hiveNow_J67 x3_30 x4_30 (fX8_hiveNow_L30 v_boxes v_rowOf v_now p1 p2 n)) ()) else (fX8_hiveNow_J67 x3_30 x4_30 (fX8_hiveNow_L30 v_boxes v_rowOf v_now p1 p2 n) 1))))
def fX8_hiveNow_L5 (v_inner : Nat → Int32) (v_boxes : Int32) (v_rowOf : Nat → Int32) (v_now : Nat → Int32) (p1 : Int32) (p2 : Int32) : Nat → Int32 → Int32 → Option (Int32)
  | 0, _, _ => none
  | n + 1, x3_5, x4_5 =>
    if p1 ≤ x4_5 then (fX8_hiveNow_L30 v_boxes v_rowOf v_now p1 p2 fu x3_5 0) else (gd (inb x4_5 4) (fX8_hiveNow_L5 v_inner v_boxes v_rowOf v_now p1 p2 n (x3_5 + (v_inner x4_5.toNatClampNeg)) (x4_5 + 1)))
def fX8_hiveNow (p1 : Int32) (p2 : Int32) (v_inner : Nat → Int32) (v_boxes : Int32) (v_rowOf : Nat → Int32) (v_now : Nat → Int32) : Option (Int32) :=
  fX8_hiveNow_L5 v_inner v_boxes v_rowOf v_now p1 p2 fu 0 0
def rmX8_hiveNow : Room := { frames := 0, cells := 0, slots := 0, locals := 0 }
set_option maxRecDepth 100000 in
set_option maxHeartbeats 4000000 in
theorem ctX8_hiveNow (l : Launch) (z : Nat × Nat × Nat) (dC : Nat → ClassId) (dI : Nat → Nat → Nat) (cI cB cE : ClassId) (a : Nat → Nat) (v_boards : Int32) (v_kind : Int32) (v_rows : Int32) (v_outer : Nat → Int32) (v_inner : Nat → Int32) (v_content : Nat → Int32) (v_boxes : Int32) (v_rowOf : Nat → Int32) (v_columnOf : Nat → Int32) (v_seen : Int32) (v_seenWhat : Nat → Int32) (v_seenCan : Nat → Int32) (v_pageLength : Int32) (v_page : Nat → Int32) (v_isWhole : Int32) (v_newKind : Int32) (v_newRows : Int32) (v_newOuter : Nat → Int32) (v_newInner : Nat → Int32) (v_newContent : Nat → Int32) (v_now : Nat → Int32) (v_left : Nat → Int32) (v_box : Int32) (v_isCounted : Int32) (v_counted : Int32) (v_given : Nat → Int32) (v_isTermed : Int32) (v_terms : Int32) (v_term : Nat → Int32) (v_shape : Nat → Int32) (v_readBoxes : Int32) (v_readRow : Nat → Int32) (v_readColumn : Nat → Int32) (v_grid : Nat → Int32) (v_often : Nat → Int32) (v_seedNow : Int64) (v_isKept : Int32) (v_keptBoard : Int32) (v_keptKind : Int32) (v_keptRows : Int32) (v_keptSeen : Int32) (v_keptOuter : Nat → Int32) (v_keptInner : Nat → Int32) (v_keptContent : Nat → Int32) (v_keptWhat : Nat → Int32) (v_keptCan : Nat → Int32) (v_h : Int64) (p1 : Int32) (p2 : Int32) (fin : Int32) (hf : fX8_hiveNow p1 p2 v_inner v_boxes v_rowOf v_now = some fin) : Ct l z (dC, dI) (tyL cI cB cE) yX8_hiveNow wsX8_hiveNow rmX8_hiveNow [.ref (a 0), .int p1, .int p2] (wX8 cI cB cE a v_boards v_kind v_rows v_outer v_inner v_content v_boxes v_rowOf v_columnOf v_seen v_seenWhat v_seenCan v_pageLength v_page v_isWhole v_newKind v_newRows v_newOuter v_newInner v_newContent v_now v_left v_box v_isCounted v_counted v_given v_isTermed v_terms v_term v_shape v_readBoxes v_readRow v_readColumn v_grid v_often v_seedNow v_isKept v_keptBoard v_keptKind v_keptRows v_keptSeen v_keptOuter v_keptInner v_keptContent v_keptWhat v_keptCan v_h) (some (.int fin)) (wX8 cI cB cE a v_boards v_kind v_rows v_outer v_inner v_content v_boxes v_rowOf v_columnOf v_seen v_seenWhat v_seenCan v_pageLength v_page v_isWhole v_newKind v_newRows v_newOuter v_newInner v_newContent v_now v_left v_box v_isCounted v_counted v_given v_isTermed v_terms v_term v_shape v_readBoxes v_readRow v_readColumn v_grid v_often v_seedNow v_isKept v_keptBoard v_keptKind v_keptRows v_keptSeen v_keptOuter v_keptInner v_keptContent v_keptWhat v_keptCan v_h) := by
  refine Met.ofC (cc := cX8_hiveNow) (maxL := 5) (ret := (some .int)) (by decide) rfl (Nat.le_of_ble_eq_true rfl) ?_
  intro p e s m args below meth c A Q ls hx hb hr hml hts hown hlocks hA hK hP hD hZ hS hQ hl
  have hown : s.vm.findClass RX8 = some m.cls := hown
  have hl : lv_has ls 5 [(0, .ref (a 0)), (1, .int p1), (2, .int p2)] := hl
  unfold fX8_hiveNow at hf
  refine lv_iconst (v := 0) hx hb dX8_hiveNow_0 (by decide) ?_
  refine lv_istore_n (lv' := [(3, .int 0), (0, .ref (a 0)), (1, .int p1), (2, .int p2)]) hx hb dX8_hiveNow_1 rfl hl (by decide) rfl (fun ls hl => ?_)
  refine lv_iconst (v := 0) hx hb dX8_hiveNow_2 (by decide) ?_
  refine lv_istore (lv' := [(4, .int 0), (3, .int 0), (0, .ref (a 0)), (1, .int p1), (2, .int p2)]) hx hb dX8_hiveNow_3 hl (by decide) rfl (fun ls hl => ?_)
  have L5 : ∀ (n5 : Nat) (x3_5 : Int32) (x4_5 : Int32), fX8_hiveNow_L5 v_inner v_boxes v_rowOf v_now p1 p2 n5 x3_5 x4_5 = some fin → ∀ (H : Heap) (locs : List Loc), va_P (dC, dI) vwCl (wX8 cI cB cE a v_boards v_kind v_rows v_outer v_inner v_content v_boxes v_rowOf v_columnOf v_seen v_seenWhat v_seenCan v_pageLength v_page v_isWhole v_newKind v_newRows v_newOuter v_newInner v_newContent v_now v_left v_box v_isCounted v_counted v_given v_isTermed v_terms v_term v_shape v_readBoxes v_readRow v_readColumn v_grid v_often v_seedNow v_isKept v_keptBoard v_keptKind v_keptRows v_keptSeen v_keptOuter v_keptInner v_keptContent v_keptWhat v_keptCan v_h) H → va_D A (wX8 cI cB cE a v_boards v_kind v_rows v_outer v_inner v_content v_boxes v_rowOf v_columnOf v_seen v_seenWhat v_seenCan v_pageLength v_page v_isWhole v_newKind v_newRows v_newOuter v_newInner v_newContent v_now v_left v_box v_isCounted v_counted v_given v_isTermed v_terms v_term v_shape v_readBoxes v_readRow v_readColumn v_grid v_often v_seedNow v_isKept v_keptBoard v_keptKind v_keptRows v_keptSeen v_keptOuter v_keptInner v_keptContent v_keptWhat v_keptCan v_h) → va_S A s.heap H locs → ∀ (ls : Array Slot), lv_has ls 5 [(0, .ref (a 0)), (1, .int p1), (2, .int p2), (3, .int x3_5), (4, .int x4_5)] → W p l e rmX8_hiveNow s m args below meth c H locs 0 0 Q (F0 m 5 ls []) := by
    intro n5
    induction n5 with
    | zero =>
      intro x3_5 x4_5 hf
      rw [fX8_hiveNow_L5] at hf
      cases hf
    | succ n5 ih5 =>
      intro x3_5 x4_5 hf H locs hP hD hS ls hl
      rw [fX8_hiveNow_L5] at hf
      refine lv_iload hx hb dX8_hiveNow_5 (lv_at hl 4 rfl) ?_
      refine lv_iload_n hx hb dX8_hiveNow_7 rfl (lv_at hl 1 rfl) ?_
      refine lv_icmp_ge (tgt := 27) hx hb dX8_hiveNow_8 (by decide) (fun c_1 => ?_) (fun c_1 => ?_)
      · rw [if_pos c_1] at hf
        refine lv_iconst (v := 0) hx hb dX8_hiveNow_27 (by decide) ?_
        refine lv_istore (lv' := [(4, .int 0), (0, .ref (a 0)), (1, .int p1), (2, .int p2), (3, .int x3_5)]) hx hb dX8_hiveNow_28 hl (by decide) rfl (fun ls hl => ?_)
        have L30 : ∀ (n30 : Nat) (x3_30 : Int32) (x4_30 : Int32), fX8_hiveNow_L30 v_boxes v_rowOf v_now p1 p2 n30 x3_30 x4_30 = some fin → ∀ (H : Heap) (locs : List Loc), va_P (dC, dI) vwCl (wX8 cI cB cE a v_boards v_kind v_rows v_outer v_inner v_content v_boxes v_rowOf v_columnOf v_seen v_seenWhat v_seenCan v_pageLength v_page v_isWhole v_newKind v_newRows v_newOuter v_newInner v_newContent v_now v_left v_box v_isCounted v_counted v_given v_isTermed v_terms v_term v_shape v_readBoxes v_readRow v_readColumn v_grid v_often v_seedNow v_isKept v_keptBoard v_keptKind v_keptRows v_keptSeen v_keptOuter v_keptInner v_keptContent v_keptWhat v_keptCan v_h) H → va_D A (wX8 cI cB cE a v_boards v_kind v_rows v_outer v_inner v_content v_boxes v_rowOf v_columnOf v_seen v_seenWhat v_seenCan v_pageLength v_page v_isWhole v_newKind v_newRows v_newOuter v_newInner v_newContent v_now v_left v_box v_isCounted v_counted v_given v_isTermed v_terms v_term v_shape v_readBoxes v_readRow v_readColumn v_grid v_often v_seedNow v_isKept v_keptBoard v_keptKind v_keptRows v_keptSeen v_keptOuter v_keptInner v_keptContent v_keptWhat v_keptCan v_h) → va_S A s.heap H locs → ∀ (ls : Array Slot), lv_has ls 5 [(0, .ref (a 0)), (1, .int p1), (2, .int p2), (3, .int x3_30), (4, .int x4_30)] → W p l e rmX8_hiveNow s m args below meth c H locs 0 0 Q (F0 m 30 ls []) := by
          intro n30
          induction n30 with
          | zero =>
            intro x3_30 x4_30 hf
            rw [fX8_hiveNow_L30] at hf
            cases hf
          | succ n30 ih30 =>
            intro x3_30 x4_30 hf H locs hP hD hS ls hl
            rw [fX8_hiveNow_L30] at hf
            refine lv_iload hx hb dX8_hiveNow_30 (lv_at hl 4 rfl) ?_
            refine lv_aload_n hx hb dX8_hiveNow_32 rfl (lv_at hl 0 rfl) ?_
            refine va_get (D := (dC, dI)) (ci := 8) (C := RX8) (T := TX8) (N := 47) hx hb hts (fun _ h => List.mem_cons_of_mem _ (List.mem_append_right _ h)) hown hK hP 0 rfl rfl 6 (by decide) (hts (.fieldLink RX8 124 "SkewBoardModel" "boxes" "I") (List.mem_of_getElem? (i := 2) rfl)) (fun _ h9 => h9) rfl dX8_hiveNow_33 ?_
            refine lv_icmp_ge (tgt := 75) hx hb dX8_hiveNow_36 (by decide) (fun c_2 => ?_) (fun c_2 => ?_)
            · rw [if_pos c_2] at hf
              refine lv_iload_n hx hb dX8_hiveNow_75 rfl (lv_at hl 3 rfl) ?_
              have hQ2 := hQ
              rw [← Option.some.inj hf] at hQ2
              exact cx_iret hQ2 hx hb hr hlocks hK hP hD hS dX8_hiveNow_76
            · rw [if_neg c_2] at hf
              refine lv_iload_n hx hb dX8_hiveNow_39 rfl (lv_at hl 3 rfl) ?_
              refine lv_aload_n hx hb dX8_hiveNow_40 rfl (lv_at hl 0 rfl) ?_
              refine va_get (D := (dC, dI)) (ci := 8) (C := RX8) (T := TX8) (N := 47) hx hb hts (fun _ h => List.mem_cons_of_mem _ (List.mem_append_right _ h)) hown hK hP 0 rfl rfl 7 (by decide) (hts (.fieldLink RX8 19 "SkewBoardModel" "rowOf" "[I") (List.mem_of_getElem? (i := 3) rfl)) (fun _ h9 => h9) rfl dX8_hiveNow_41 ?_
              refine lv_iload hx hb dX8_hiveNow_44 (lv_at hl 4 rfl) ?_
              obtain ⟨g_3, hf⟩ := gd_some hf
              refine va_iald hx hb hK hP 4 0 rfl rfl (inb_vp g_3) dX8_hiveNow_46 ?_
              refine lv_iload_n hx hb dX8_hiveNow_47 rfl (lv_at hl 1 rfl) ?_
              have J67 : ∀ (y1_67 : Int32), fX8_hiveNow_J67 x3_30 x4_30 (fX8_hiveNow_L30 v_boxes v_rowOf v_now p1 p2 n30) y1_67 = some fin → ∀ (H : Heap) (locs : List Loc), va_P (dC, dI) vwCl (wX8 cI cB cE a v_boards v_kind v_rows v_outer v_inner v_content v_boxes v_rowOf v_columnOf v_seen v_seenWhat v_seenCan v_pageLength v_page v_isWhole v_newKind v_newRows v_newOuter v_newInner v_newContent v_now v_left v_box v_isCounted v_counted v_given v_isTermed v_terms v_term v_shape v_readBoxes v_readRow v_readColumn v_grid v_often v_seedNow v_isKept v_keptBoard v_keptKind v_keptRows v_keptSeen v_keptOuter v_keptInner v_keptContent v_keptWhat v_keptCan v_h) H → va_D A (wX8 cI cB cE a v_boards v_kind v_rows v_outer v_inner v_content v_boxes v_rowOf v_columnOf v_seen v_seenWhat v_seenCan v_pageLength v_page v_isWhole v_newKind v_newRows v_newOuter v_newInner v_newContent v_now v_left v_box v_isCounted v_counted v_given v_isTermed v_terms v_term v_shape v_readBoxes v_readRow v_readColumn v_grid v_often v_seedNow v_isKept v_keptBoard v_keptKind v_keptRows v_keptSeen v_keptOuter v_keptInner v_keptContent v_keptWhat v_keptCan v_h) → va_S A s.heap H locs → ∀ (ls : Array Slot), lv_has ls 5 [(0, .ref (a 0)), (1, .int p1), (2, .int p2), (4, .int x4_30)] → W p l e rmX8_hiveNow s m args below meth c H locs 0 0 Q (F0 m 67 ls [.int y1_67, .int x3_30]) := by
                intro y1_67 hf H locs hP hD hS ls hl
                unfold fX8_hiveNow_J67 at hf
                refine lv_iadd hx hb dX8_hiveNow_67 ?_
                refine lv_istore_n (lv' := [(3, .int (x3_30 + y1_67)), (0, .ref (a 0)), (1, .int p1), (2, .int p2), (4, .int x4_30)]) hx hb dX8_hiveNow_68 rfl hl (by decide) rfl (fun ls hl => ?_)
                refine lv_iinc (v := (x4_30 + 1)) (lv' := [(4, .int (x4_30 + 1)), (3, .int (x3_30 + y1_67)), (0, .ref (a 0)), (1, .int p1), (2, .int p2)]) hx hb dX8_hiveNow_69 hl (k := 4) rfl rfl (by decide) rfl (fun ls hl => ?_)
                refine lv_goto (tgt := 30) hx hb dX8_hiveNow_72 (by decide) ?_
                exact ih30 (x3_30 + y1_67) (x4_30 + 1) hf _ _ hP hD hS ls (lv_sub hl [2, 3, 4, 1, 0] rfl)
              have J66 : ∀ (u_66 : Unit), fX8_hiveNow_J66 (fX8_hiveNow_J67 x3_30 x4_30 (fX8_hiveNow_L30 v_boxes v_rowOf v_now p1 p2 n30)) u_66 = some fin → ∀ (H : Heap) (locs : List Loc), va_P (dC, dI) vwCl (wX8 cI cB cE a v_boards v_kind v_rows v_outer v_inner v_content v_boxes v_rowOf v_columnOf v_seen v_seenWhat v_seenCan v_pageLength v_page v_isWhole v_newKind v_newRows v_newOuter v_newInner v_newContent v_now v_left v_box v_isCounted v_counted v_given v_isTermed v_terms v_term v_shape v_readBoxes v_readRow v_readColumn v_grid v_often v_seedNow v_isKept v_keptBoard v_keptKind v_keptRows v_keptSeen v_keptOuter v_keptInner v_keptContent v_keptWhat v_keptCan v_h) H → va_D A (wX8 cI cB cE a v_boards v_kind v_rows v_outer v_inner v_content v_boxes v_rowOf v_columnOf v_seen v_seenWhat v_seenCan v_pageLength v_page v_isWhole v_newKind v_newRows v_newOuter v_newInner v_newContent v_now v_left v_box v_isCounted v_counted v_given v_isTermed v_terms v_term v_shape v_readBoxes v_readRow v_readColumn v_grid v_often v_seedNow v_isKept v_keptBoard v_keptKind v_keptRows v_keptSeen v_keptOuter v_keptInner v_keptContent v_keptWhat v_keptCan v_h) → va_S A s.heap H locs → ∀ (ls : Array Slot), lv_has ls 5 [(0, .ref (a 0)), (1, .int p1), (2, .int p2), (4, .int x4_30)] → W p l e rmX8_hiveNow s m args below meth c H locs 0 0 Q (F0 m 66 ls [.int x3_30]) := by
                intro u_66 hf H locs hP hD hS ls hl
                unfold fX8_hiveNow_J66 at hf
                refine lv_iconst (v := 0) hx hb dX8_hiveNow_66 (by decide) ?_
                exact J67 0 hf _ _ hP hD hS ls (lv_sub hl [0, 1, 2, 3] rfl)
              refine lv_icmp_ge (tgt := 66) hx hb dX8_hiveNow_48 (by decide) (fun c_4 => ?_) (fun c_4 => ?_)
              · rw [if_pos c_4] at hf
                exact J66 () hf _ _ hP hD hS ls (lv_sub hl [0, 1, 2, 4] rfl)
              · rw [if_neg c_4] at hf
                refine lv_aload_n hx hb dX8_hiveNow_51 rfl (lv_at hl 0 rfl) ?_
                refine va_get (D := (dC, dI)) (ci := 8) (C := RX8) (T := TX8) (N := 47) hx hb hts (fun _ h => List.mem_cons_of_mem _ (List.mem_append_right _ h)) hown hK hP 0 rfl rfl 20 (by decide) (hts (.fieldLink RX8 44 "SkewBoardModel" "now" "[I") (List.mem_of_getElem? (i := 4) rfl)) (fun _ h9 => h9) rfl dX8_hiveNow_52 ?_
                refine lv_iload hx hb dX8_hiveNow_55 (lv_at hl 4 rfl) ?_
                refine va_iald hx hb hK hP 12 0 rfl rfl (inb_vp g_3) dX8_hiveNow_57 ?_
                refine lv_iload_n hx hb dX8_hiveNow_58 rfl (lv_at hl 2 rfl) ?_
                refine lv_icmp_gt (tgt := 66) hx hb dX8_hiveNow_59 (by decide) (fun c_5 => ?_) (fun c_5 => ?_)
                · rw [if_pos c_5] at hf
                  exact J66 () hf _ _ hP hD hS ls (lv_sub hl [0, 1, 2, 4] rfl)
                · rw [if_neg c_5] at hf
                  refine lv_iconst (v := 1) hx hb dX8_hiveNow_62 (by decide) ?_
                  refine lv_goto (tgt := 67) hx hb dX8_hiveNow_63 (by decide) ?_
                  exact J67 1 hf _ _ hP hD hS ls (lv_sub hl [0, 1, 2, 4] rfl)
        exact L30 fu x3_5 0 hf _ _ hP hD hS ls (lv_sub hl [1, 2, 3, 4, 0] rfl)
      · rw [if_neg c_1] at hf
        refine lv_iload_n hx hb dX8_hiveNow_11 rfl (lv_at hl 3 rfl) ?_
        refine lv_aload_n hx hb dX8_hiveNow_12 rfl (lv_at hl 0 rfl) ?_
        refine va_get (D := (dC, dI)) (ci := 8) (C := RX8) (T := TX8) (N := 47) hx hb hts (fun _ h => List.mem_cons_of_mem _ (List.mem_append_right _ h)) hown hK hP 0 rfl rfl 4 (by decide) (hts (.fieldLink RX8 13 "SkewBoardModel" "inner" "[I") (List.mem_of_getElem? (i := 1) rfl)) (fun _ h9 => h9) rfl dX8_hiveNow_13 ?_
        refine lv_iload hx hb dX8_hiveNow_16 (lv_at hl 4 rfl) ?_
        obtain ⟨g_6, hf⟩ := gd_some hf
        refine va_iald hx hb hK hP 2 0 rfl rfl (inb_vp g_6) dX8_hiveNow_18 ?_
        refine lv_iadd hx hb dX8_hiveNow_19 ?_
        refine lv_istore_n (lv' := [(3, .int (x3_5 + (v_inner x4_5.toNatClampNeg))), (0, .ref (a 0)), (1, .int p1), (2, .int p2), (4, .int x4_5)]) hx hb dX8_hiveNow_20 rfl hl (by decide) rfl (fun ls hl => ?_)
        refine lv_iinc (v := (x4_5 + 1)) (lv' := [(4, .int (x4_5 + 1)), (3, .int (x3_5 + (v_inner x4_5.toNatClampNeg))), (0, .ref (a 0)), (1, .int p1), (2, .int p2)]) hx hb dX8_hiveNow_21 hl (k := 4) rfl rfl (by decide) rfl (fun ls hl => ?_)
        refine lv_goto (tgt := 5) hx hb dX8_hiveNow_24 (by decide) ?_
        exact ih5 (x3_5 + (v_inner x4_5.toNatClampNeg)) (x4_5 + 1) hf _ _ hP hD hS ls (lv_sub hl [2, 3, 4, 1, 0] rfl)
  exact L5 fu 0 0 hf _ _ hP hD hS ls (lv_sub hl [2, 3, 4, 1, 0] rfl)

def fX8_hive_J43 (r_1 : Int32 × (Nat → Int32) × (Nat → Int32) × Int32 × Int32 × Int32) (y0_43 : Int32) : Option (Int32 × (Nat → Int32) × (Nat → Int32) × Int32 × Int32 × Int32) :=
    some (y0_43, r_1.2.1, r_1.2.2.1, r_1.2.2.2.1, r_1.2.2.2.2.1, r_1.2.2.2.2.2)
def fX8_hive_J41 (k43 : Int32 → Option (Int32 × (Nat → Int32) × (Nat → Int32) × Int32 × Int32 × Int32)) (u_41 : Unit) : Option (Int32 × (Nat → Int32) × (Nat → Int32) × Int32 × Int32 × Int32) :=
    k43 (-102)
def fX8_hive (p1 : Int32) (p2 : Int32) (p3 : Int32) (v_kind : Int32) (v_rows : Int32) (v_inner : Nat → Int32) (v_content : Nat → Int32) (v_boxes : Int32) (v_rowOf : Nat → Int32) (v_columnOf : Nat → Int32) (v_now : Nat → Int32) (v_left : Nat → Int32) (v_box : Int32) (v_isCounted : Int32) (v_counted : Int32) : Option (Int32 × (Nat → Int32) × (Nat → Int32) × Int32 × Int32 × Int32) :=
  bd (fX8_find p1 v_kind v_rows v_content v_boxes v_rowOf v_columnOf v_now v_left v_box v_isCounted v_counted) (fun r_1 => if r_1.1 = 0 then (some ((-101), r_1.2.1, r_1.2.2.1, r_1.2.2.2.1, r_1.2.2.2.2.1, r_1.2.2.2.2.2)) else (bd (fX8_within p2 0 v_rows) (fun r_3 => if r_3 = 0 then (fX8_hive_J41 (fX8_hive_J43 r_1) ()) else (bd (fX8_within p3 0 4) (fun r_5 => if r_5 = 0 then (fX8_hive_J41 (fX8_hive_J43 r_1) ()) else (bd (fX8_hiveNow p2 p3 v_inner v_boxes v_rowOf r_1.2.1) (fun r_7 => fX8_hive_J43 r_1 r_7)))))))
def rmX8_hive : Room := { frames := 6, cells := 0, slots := 0, locals := 127 }
set_option maxRecDepth 100000 in
set_option maxHeartbeats 4000000 in
theorem ctX8_hive (l : Launch) (z : Nat × Nat × Nat) (dC : Nat → ClassId) (dI : Nat → Nat → Nat) (cI cB cE : ClassId) (a : Nat → Nat) (v_boards : Int32) (v_kind : Int32) (v_rows : Int32) (v_outer : Nat → Int32) (v_inner : Nat → Int32) (v_content : Nat → Int32) (v_boxes : Int32) (v_rowOf : Nat → Int32) (v_columnOf : Nat → Int32) (v_seen : Int32) (v_seenWhat : Nat → Int32) (v_seenCan : Nat → Int32) (v_pageLength : Int32) (v_page : Nat → Int32) (v_isWhole : Int32) (v_newKind : Int32) (v_newRows : Int32) (v_newOuter : Nat → Int32) (v_newInner : Nat → Int32) (v_newContent : Nat → Int32) (v_now : Nat → Int32) (v_left : Nat → Int32) (v_box : Int32) (v_isCounted : Int32) (v_counted : Int32) (v_given : Nat → Int32) (v_isTermed : Int32) (v_terms : Int32) (v_term : Nat → Int32) (v_shape : Nat → Int32) (v_readBoxes : Int32) (v_readRow : Nat → Int32) (v_readColumn : Nat → Int32) (v_grid : Nat → Int32) (v_often : Nat → Int32) (v_seedNow : Int64) (v_isKept : Int32) (v_keptBoard : Int32) (v_keptKind : Int32) (v_keptRows : Int32) (v_keptSeen : Int32) (v_keptOuter : Nat → Int32) (v_keptInner : Nat → Int32) (v_keptContent : Nat → Int32) (v_keptWhat : Nat → Int32) (v_keptCan : Nat → Int32) (v_h : Int64) (p1 : Int32) (p2 : Int32) (p3 : Int32) (fin : Int32 × (Nat → Int32) × (Nat → Int32) × Int32 × Int32 × Int32) (hf : fX8_hive p1 p2 p3 v_kind v_rows v_inner v_content v_boxes v_rowOf v_columnOf v_now v_left v_box v_isCounted v_counted = some fin) : Ct l z (dC, dI) (tyL cI cB cE) yX8_hive wsX8_hive rmX8_hive [.ref (a 0), .int p1, .int p2, .int p3] (wX8 cI cB cE a v_boards v_kind v_rows v_outer v_inner v_content v_boxes v_rowOf v_columnOf v_seen v_seenWhat v_seenCan v_pageLength v_page v_isWhole v_newKind v_newRows v_newOuter v_newInner v_newContent v_now v_left v_box v_isCounted v_counted v_given v_isTermed v_terms v_term v_shape v_readBoxes v_readRow v_readColumn v_grid v_often v_seedNow v_isKept v_keptBoard v_keptKind v_keptRows v_keptSeen v_keptOuter v_keptInner v_keptContent v_keptWhat v_keptCan v_h) (some (.int fin.1)) (wX8 cI cB cE a v_boards v_kind v_rows v_outer v_inner v_content v_boxes v_rowOf v_columnOf v_seen v_seenWhat v_seenCan v_pageLength v_page v_isWhole v_newKind v_newRows v_newOuter v_newInner v_newContent fin.2.1 fin.2.2.1 fin.2.2.2.1 fin.2.2.2.2.1 fin.2.2.2.2.2 v_given v_isTermed v_terms v_term v_shape v_readBoxes v_readRow v_readColumn v_grid v_often v_seedNow v_isKept v_keptBoard v_keptKind v_keptRows v_keptSeen v_keptOuter v_keptInner v_keptContent v_keptWhat v_keptCan v_h) := by
  refine Met.ofC (cc := cX8_hive) (maxL := 4) (ret := (some .int)) (by decide) rfl (Nat.le_of_ble_eq_true rfl) ?_
  intro p e s m args below meth c A Q ls hx hb hr hml hts hown hlocks hA hK hP hD hZ hS hQ hl
  have hown : s.vm.findClass RX8 = some m.cls := hown
  have hl : lv_has ls 4 [(0, .ref (a 0)), (1, .int p1), (2, .int p2), (3, .int p3)] := hl
  unfold fX8_hive at hf
  refine lv_aload_n hx hb dX8_hive_0 rfl (lv_at hl 0 rfl) ?_
  refine lv_iload_n hx hb dX8_hive_1 rfl (lv_at hl 1 rfl) ?_
  obtain ⟨r_1, hr_1, hf⟩ := bd_some hf
  refine cx_runW (cx_V (As := [.int p1]) (rest := []) ⟨hx, hb, hml, hown, hts⟩ (ctX8_find l z dC dI cI cB cE a v_boards v_kind v_rows v_outer v_inner v_content v_boxes v_rowOf v_columnOf v_seen v_seenWhat v_seenCan v_pageLength v_page v_isWhole v_newKind v_newRows v_newOuter v_newInner v_newContent v_now v_left v_box v_isCounted v_counted v_given v_isTermed v_terms v_term v_shape v_readBoxes v_readRow v_readColumn v_grid v_often v_seedNow v_isKept v_keptBoard v_keptKind v_keptRows v_keptSeen v_keptOuter v_keptInner v_keptContent v_keptWhat v_keptCan v_h p1 r_1 hr_1) (cwV 1 hts gX8_hive_X8_find rfl rfl rfl (by decide +kernel) ⟨Nat.le_of_ble_eq_true rfl, Nat.le_of_ble_eq_true rfl⟩) hK hP hD hZ hS hA (ci := 8) (q0 := 0) rfl rfl rfl hl.1 rfl (Nat.le_of_ble_eq_true rfl) dX8_hive_2) hD hS hA [.int r_1.1] rfl (fun H locs hP hD hS => ?_)
  refine lv_if_ne (tgt := 11) hx hb dX8_hive_5 (by decide) (fun c_2 => ?_) (fun c_2 => ?_)
  · rw [if_neg c_2] at hf
    refine lv_iload_n hx hb dX8_hive_11 rfl (lv_at hl 2 rfl) ?_
    refine lv_iconst (v := 0) hx hb dX8_hive_12 (by decide) ?_
    refine lv_aload_n hx hb dX8_hive_13 rfl (lv_at hl 0 rfl) ?_
    refine va_get (D := (dC, dI)) (ci := 8) (C := RX8) (T := TX8) (N := 47) hx hb hts (fun _ h => List.mem_cons_of_mem _ (List.mem_append_right _ h)) hown hK hP 0 rfl rfl 2 (by decide) (hts (.fieldLink RX8 127 "SkewBoardModel" "rows" "I") (List.mem_of_getElem? (i := 1) rfl)) (fun _ h9 => h9) rfl dX8_hive_14 ?_
    obtain ⟨r_3, hr_3, hf⟩ := bd_some hf
    refine cx_run0 (cx_S (A := A) (As := [.int p2, .int 0, .int v_rows]) (rest := []) ⟨hx, hb, hml, hown, hts⟩ (ctX8_within l z dC dI cI cB cE p2 0 v_rows r_3 hr_3) (va_cwS 3 hts gX8_hive_X8_within rfl rfl rfl (by decide +kernel) ⟨Nat.le_of_ble_eq_true rfl, Nat.le_of_ble_eq_true rfl⟩) hK vaP0 vaD0 hZ hS hA rfl hl.1 rfl (Nat.le_of_ble_eq_true rfl) dX8_hive_17) hP hS hA [.int r_3] rfl (fun H locs hP hS => ?_)
    have J43 : ∀ (y0_43 : Int32), fX8_hive_J43 r_1 y0_43 = some fin → ∀ (H : Heap) (locs : List Loc), va_P (dC, dI) vwCl (wX8 cI cB cE a v_boards v_kind v_rows v_outer v_inner v_content v_boxes v_rowOf v_columnOf v_seen v_seenWhat v_seenCan v_pageLength v_page v_isWhole v_newKind v_newRows v_newOuter v_newInner v_newContent r_1.2.1 r_1.2.2.1 r_1.2.2.2.1 r_1.2.2.2.2.1 r_1.2.2.2.2.2 v_given v_isTermed v_terms v_term v_shape v_readBoxes v_readRow v_readColumn v_grid v_often v_seedNow v_isKept v_keptBoard v_keptKind v_keptRows v_keptSeen v_keptOuter v_keptInner v_keptContent v_keptWhat v_keptCan v_h) H → va_D A (wX8 cI cB cE a v_boards v_kind v_rows v_outer v_inner v_content v_boxes v_rowOf v_columnOf v_seen v_seenWhat v_seenCan v_pageLength v_page v_isWhole v_newKind v_newRows v_newOuter v_newInner v_newContent r_1.2.1 r_1.2.2.1 r_1.2.2.2.1 r_1.2.2.2.2.1 r_1.2.2.2.2.2 v_given v_isTermed v_terms v_term v_shape v_readBoxes v_readRow v_readColumn v_grid v_often v_seedNow v_isKept v_keptBoard v_keptKind v_keptRows v_keptSeen v_keptOuter v_keptInner v_keptContent v_keptWhat v_keptCan v_h) → va_S A s.heap H locs → ∀ (ls : Array Slot), lv_has ls 4 [] → W p l e rmX8_hive s m args below meth c H locs 0 0 Q (F0 m 43 ls [.int y0_43]) := by
      intro y0_43 hf H locs hP hD hS ls hl
      unfold fX8_hive_J43 at hf
      have hQ2 := hQ
      rw [← Option.some.inj hf] at hQ2
      exact cx_iret hQ2 hx hb hr hlocks hK hP hD hS dX8_hive_43
    have J41 : ∀ (u_41 : Unit), fX8_hive_J41 (fX8_hive_J43 r_1) u_41 = some fin → ∀ (H : Heap) (locs : List Loc), va_P (dC, dI) vwCl (wX8 cI cB cE a v_boards v_kind v_rows v_outer v_inner v_content v_boxes v_rowOf v_columnOf v_seen v_seenWhat v_seenCan v_pageLength v_page v_isWhole v_newKind v_newRows v_newOuter v_newInner v_newContent r_1.2.1 r_1.2.2.1 r_1.2.2.2.1 r_1.2.2.2.2.1 r_1.2.2.2.2.2 v_given v_isTermed v_terms v_term v_shape v_readBoxes v_readRow v_readColumn v_grid v_often v_seedNow v_isKept v_keptBoard v_keptKind v_keptRows v_keptSeen v_keptOuter v_keptInner v_keptContent v_keptWhat v_keptCan v_h) H → va_D A (wX8 cI cB cE a v_boards v_kind v_rows v_outer v_inner v_content v_boxes v_rowOf v_columnOf v_seen v_seenWhat v_seenCan v_pageLength v_page v_isWhole v_newKind v_newRows v_newOuter v_newInner v_newContent r_1.2.1 r_1.2.2.1 r_1.2.2.2.1 r_1.2.2.2.2.1 r_1.2.2.2.2.2 v_given v_isTermed v_terms v_term v_shape v_readBoxes v_readRow v_readColumn v_grid v_often v_seedNow v_isKept v_keptBoard v_keptKind v_keptRows v_keptSeen v_keptOuter v_keptInner v_keptContent v_keptWhat v_keptCan v_h) → va_S A s.heap H locs → ∀ (ls : Array Slot), lv_has ls 4 [] → W p l e rmX8_hive s m args below meth c H locs 0 0 Q (F0 m 41 ls []) := by
      intro u_41 hf H locs hP hD hS ls hl
      unfold fX8_hive_J41 at hf
      refine lv_bipush (v := (-102)) hx hb dX8_hive_41 (by decide) ?_
      exact J43 (-102) hf _ _ hP hD hS ls (lv_sub hl [] rfl)
    refine lv_if_eq (tgt := 41) hx hb dX8_hive_20 (by decide) (fun c_4 => ?_) (fun c_4 => ?_)
    · rw [if_pos c_4] at hf
      exact J41 () hf _ _ hP hD hS ls (lv_sub hl [] rfl)
    · rw [if_neg c_4] at hf
      refine lv_iload_n hx hb dX8_hive_23 rfl (lv_at hl 3 rfl) ?_
      refine lv_iconst (v := 0) hx hb dX8_hive_24 (by decide) ?_
      refine lv_iconst (v := 4) hx hb dX8_hive_25 (by decide) ?_
      obtain ⟨r_5, hr_5, hf⟩ := bd_some hf
      refine cx_run0 (cx_S (A := A) (As := [.int p3, .int 0, .int 4]) (rest := []) ⟨hx, hb, hml, hown, hts⟩ (ctX8_within l z dC dI cI cB cE p3 0 4 r_5 hr_5) (va_cwS 3 hts gX8_hive_X8_within rfl rfl rfl (by decide +kernel) ⟨Nat.le_of_ble_eq_true rfl, Nat.le_of_ble_eq_true rfl⟩) hK vaP0 vaD0 hZ hS hA rfl hl.1 rfl (Nat.le_of_ble_eq_true rfl) dX8_hive_26) hP hS hA [.int r_5] rfl (fun H locs hP hS => ?_)
      refine lv_if_eq (tgt := 41) hx hb dX8_hive_29 (by decide) (fun c_6 => ?_) (fun c_6 => ?_)
      · rw [if_pos c_6] at hf
        exact J41 () hf _ _ hP hD hS ls (lv_sub hl [] rfl)
      · rw [if_neg c_6] at hf
        refine lv_aload_n hx hb dX8_hive_32 rfl (lv_at hl 0 rfl) ?_
        refine lv_iload_n hx hb dX8_hive_33 rfl (lv_at hl 2 rfl) ?_
        refine lv_iload_n hx hb dX8_hive_34 rfl (lv_at hl 3 rfl) ?_
        obtain ⟨r_7, hr_7, hf⟩ := bd_some hf
        refine cx_runW (cx_V (As := [.int p2, .int p3]) (rest := []) ⟨hx, hb, hml, hown, hts⟩ (ctX8_hiveNow l z dC dI cI cB cE a v_boards v_kind v_rows v_outer v_inner v_content v_boxes v_rowOf v_columnOf v_seen v_seenWhat v_seenCan v_pageLength v_page v_isWhole v_newKind v_newRows v_newOuter v_newInner v_newContent r_1.2.1 r_1.2.2.1 r_1.2.2.2.1 r_1.2.2.2.2.1 r_1.2.2.2.2.2 v_given v_isTermed v_terms v_term v_shape v_readBoxes v_readRow v_readColumn v_grid v_often v_seedNow v_isKept v_keptBoard v_keptKind v_keptRows v_keptSeen v_keptOuter v_keptInner v_keptContent v_keptWhat v_keptCan v_h p2 p3 r_7 hr_7) (cwV 2 hts gX8_hive_X8_hiveNow rfl rfl rfl (by decide +kernel) ⟨Nat.le_of_ble_eq_true rfl, Nat.le_of_ble_eq_true rfl⟩) hK hP hD hZ hS hA (ci := 8) (q0 := 0) rfl rfl rfl hl.1 rfl (Nat.le_of_ble_eq_true rfl) dX8_hive_35) hD hS hA [.int r_7] rfl (fun H locs hP hD hS => ?_)
        refine lv_goto (tgt := 43) hx hb dX8_hive_38 (by decide) ?_
        exact J43 r_7 hf _ _ hP hD hS ls (lv_sub hl [] rfl)
  · rw [if_pos c_2] at hf
    refine lv_bipush (v := (-101)) hx hb dX8_hive_8 (by decide) ?_
    have hQ2 := hQ
    rw [← Option.some.inj hf] at hQ2
    exact cx_iret hQ2 hx hb hr hlocks hK hP hD hS dX8_hive_10

def fX8_layReading_L96 (v_readBoxes_7 : Int32) (v_readRow_7 : Nat → Int32) (v_readColumn_7 : Nat → Int32) (v_grid_75 : Nat → Int32) : Nat → Int32 → (Nat → Int32) → Option (Int32 × (Nat → Int32) × (Nat → Int32) × (Nat → Int32) × (Nat → Int32))
  | 0, _, _ => none
  | n + 1, x1_96, v_often_96 =>
    if 5 ≤ x1_96 then (some (v_readBoxes_7, v_readRow_7, v_readColumn_7, v_grid_75, v_often_96)) else (gd (inb x1_96 5) (fX8_layReading_L96 v_readBoxes_7 v_readRow_7 v_readColumn_7 v_grid_75 n (x1_96 + 1) (upd v_often_96 x1_96.toNatClampNeg 0)))
def fX8_layReading_L75 (v_often : Nat → Int32) (v_readBoxes_7 : Int32) (v_readRow_7 : Nat → Int32) (v_readColumn_7 : Nat → Int32) : Nat → Int32 → (Nat → Int32) → Option (Int32 × (Nat → Int32) × (Nat → Int32) × (Nat → Int32) × (Nat → Int32))
  | 0, _, _ => none
  | n + 1, x1_75, v_grid_75 =>
    if 60 ≤ x1_75 then (fX8_layReading_L96 v_readBoxes_7 v_readRow_7 v_readColumn_7 v_grid_75 fu 0 v_often) else (gd (inb x1_75 60) (fX8_layReading_L75 v_often v_readBoxes_7 v_readRow_7 v_readColumn_7 n (x1_75 + 1) (upd v_grid_75 x1_75.toNatClampNeg 0)))
def fX8_layReading_L21 (v_inner : Nat → Int32) (x1_7 : Int32) (k7 : Int32 → Int32 → (Nat → Int32) → (Nat → Int32) → Option (Int32 × (Nat → Int32) × (Nat → Int32) × (Nat → Int32) × (Nat → Int32))) : Nat → Int32 → Int32 → (Nat → Int32) → (Nat → Int32) → Option (Int32 × (Nat → Int32) × (Nat → Int32) × (Nat → Int32) × (Nat → Int32))
  | 0, _, _, _, _ => none
  | n + 1, x2_21, v_readBoxes_21, v_readRow_21, v_readColumn_21 =>
    if x2_21 < (v_inner x1_7.toNatClampNeg) then (k7 (x1_7 + 1) v_readBoxes_21 v_readRow_21 v_readColumn_21) else (gd (inb v_readBoxes_21 9) (fX8_layReading_L21 v_inner x1_7 k7 n (x2_21 + (-1)) (v_readBoxes_21 + 1) (upd v_readRow_21 v_readBoxes_21.toNatClampNeg x1_7) (upd v_readColumn_21 v_readBoxes_21.toNatClampNeg x2_21)))
def fX8_layReading_L7 (v_inner : Nat → Int32) (v_shape : Nat → Int32) (v_grid : Nat → Int32) (v_often : Nat → Int32) : Nat → Int32 → Int32 → (Nat → Int32) → (Nat → Int32) → Option (Int32 × (Nat → Int32) × (Nat → Int32) × (Nat → Int32) × (Nat → Int32))
  | 0, _, _, _, _ => none
  | n + 1, x1_7, v_readBoxes_7, v_readRow_7, v_readColumn_7 =>
    if 4 ≤ x1_7 then (fX8_layReading_L75 v_often v_readBoxes_7 v_readRow_7 v_readColumn_7 fu 0 v_grid) else (gd (inb x1_7 4) (fX8_layReading_L21 v_inner x1_7 (fX8_layReading_L7 v_inner v_shape v_grid v_often n) fu ((v_shape x1_7.toNatClampNeg) - 1) v_readBoxes_7 v_readRow_7 v_readColumn_7))
def fX8_layReading (v_inner : Nat → Int32) (v_shape : Nat → Int32) (v_readRow : Nat → Int32) (v_readColumn : Nat → Int32) (v_grid : Nat → Int32) (v_often : Nat → Int32) : Option (Int32 × (Nat → Int32) × (Nat → Int32) × (Nat → Int32) × (Nat → Int32)) :=
  fX8_layReading_L7 v_inner v_shape v_grid v_often fu 0 0 v_readRow v_readColumn
def rmX8_layReading : Room := { frames := 0, cells := 0, slots := 0, locals := 0 }
set_option maxRecDepth 100000 in
set_option maxHeartbeats 4000000 in
theorem ctX8_layReading (l : Launch) (z : Nat × Nat × Nat) (dC : Nat → ClassId) (dI : Nat → Nat → Nat) (cI cB cE : ClassId) (a : Nat → Nat) (v_boards : Int32) (v_kind : Int32) (v_rows : Int32) (v_outer : Nat → Int32) (v_inner : Nat → Int32) (v_content : Nat → Int32) (v_boxes : Int32) (v_rowOf : Nat → Int32) (v_columnOf : Nat → Int32) (v_seen : Int32) (v_seenWhat : Nat → Int32) (v_seenCan : Nat → Int32) (v_pageLength : Int32) (v_page : Nat → Int32) (v_isWhole : Int32) (v_newKind : Int32) (v_newRows : Int32) (v_newOuter : Nat → Int32) (v_newInner : Nat → Int32) (v_newContent : Nat → Int32) (v_now : Nat → Int32) (v_left : Nat → Int32) (v_box : Int32) (v_isCounted : Int32) (v_counted : Int32) (v_given : Nat → Int32) (v_isTermed : Int32) (v_terms : Int32) (v_term : Nat → Int32) (v_shape : Nat → Int32) (v_readBoxes : Int32) (v_readRow : Nat → Int32) (v_readColumn : Nat → Int32) (v_grid : Nat → Int32) (v_often : Nat → Int32) (v_seedNow : Int64) (v_isKept : Int32) (v_keptBoard : Int32) (v_keptKind : Int32) (v_keptRows : Int32) (v_keptSeen : Int32) (v_keptOuter : Nat → Int32) (v_keptInner : Nat → Int32) (v_keptContent : Nat → Int32) (v_keptWhat : Nat → Int32) (v_keptCan : Nat → Int32) (v_h : Int64) (fin : Int32 × (Nat → Int32) × (Nat → Int32) × (Nat → Int32) × (Nat → Int32)) (hf : fX8_layReading v_inner v_shape v_readRow v_readColumn v_grid v_often = some fin) : Ct l z (dC, dI) (tyL cI cB cE) yX8_layReading wsX8_layReading rmX8_layReading [.ref (a 0)] (wX8 cI cB cE a v_boards v_kind v_rows v_outer v_inner v_content v_boxes v_rowOf v_columnOf v_seen v_seenWhat v_seenCan v_pageLength v_page v_isWhole v_newKind v_newRows v_newOuter v_newInner v_newContent v_now v_left v_box v_isCounted v_counted v_given v_isTermed v_terms v_term v_shape v_readBoxes v_readRow v_readColumn v_grid v_often v_seedNow v_isKept v_keptBoard v_keptKind v_keptRows v_keptSeen v_keptOuter v_keptInner v_keptContent v_keptWhat v_keptCan v_h) none (wX8 cI cB cE a v_boards v_kind v_rows v_outer v_inner v_content v_boxes v_rowOf v_columnOf v_seen v_seenWhat v_seenCan v_pageLength v_page v_isWhole v_newKind v_newRows v_newOuter v_newInner v_newContent v_now v_left v_box v_isCounted v_counted v_given v_isTermed v_terms v_term v_shape fin.1 fin.2.1 fin.2.2.1 fin.2.2.2.1 fin.2.2.2.2 v_seedNow v_isKept v_keptBoard v_keptKind v_keptRows v_keptSeen v_keptOuter v_keptInner v_keptContent v_keptWhat v_keptCan v_h) := by
  refine Met.ofC (cc := cX8_layReading) (maxL := 3) (ret := none) (by decide) rfl (Nat.le_of_ble_eq_true rfl) ?_
  intro p e s m args below meth c A Q ls hx hb hr hml hts hown hlocks hA hK hP hD hZ hS hQ hl
  have hown : s.vm.findClass RX8 = some m.cls := hown
  have hl : lv_has ls 3 [(0, .ref (a 0))] := hl
  unfold fX8_layReading at hf
  refine lv_aload_n hx hb dX8_layReading_0 rfl (lv_at hl 0 rfl) ?_
  refine lv_iconst (v := 0) hx hb dX8_layReading_1 (by decide) ?_
  refine va_put (D := (dC, dI)) (ci := 8) (v := .int 0) (ty := .int) (C := RX8) (T := TX8) (N := 47) hx hb hts (fun _ h => List.mem_cons_of_mem _ (List.mem_append_right _ h)) tyX8 tyX8_ok nmX8 hown hK hP hD hS 0 rfl rfl 30 (by decide) (hts (.fieldLink RX8 233 "SkewBoardModel" "readBoxes" "I") (List.mem_of_getElem? (i := 1) rfl)) (fun _ h9 => h9) rfl (by decide +kernel) rfl rfl (Nat.le_of_ble_eq_true rfl) dX8_layReading_2 (fun H locs hP hD hS => ?_)
  have hP : va_P (dC, dI) vwCl (wX8 cI cB cE a v_boards v_kind v_rows v_outer v_inner v_content v_boxes v_rowOf v_columnOf v_seen v_seenWhat v_seenCan v_pageLength v_page v_isWhole v_newKind v_newRows v_newOuter v_newInner v_newContent v_now v_left v_box v_isCounted v_counted v_given v_isTermed v_terms v_term v_shape 0 v_readRow v_readColumn v_grid v_often v_seedNow v_isKept v_keptBoard v_keptKind v_keptRows v_keptSeen v_keptOuter v_keptInner v_keptContent v_keptWhat v_keptCan v_h) H := hP
  have hD : va_D A (wX8 cI cB cE a v_boards v_kind v_rows v_outer v_inner v_content v_boxes v_rowOf v_columnOf v_seen v_seenWhat v_seenCan v_pageLength v_page v_isWhole v_newKind v_newRows v_newOuter v_newInner v_newContent v_now v_left v_box v_isCounted v_counted v_given v_isTermed v_terms v_term v_shape 0 v_readRow v_readColumn v_grid v_often v_seedNow v_isKept v_keptBoard v_keptKind v_keptRows v_keptSeen v_keptOuter v_keptInner v_keptContent v_keptWhat v_keptCan v_h) := hD
  refine lv_iconst (v := 0) hx hb dX8_layReading_5 (by decide) ?_
  refine lv_istore_n (lv' := [(1, .int 0), (0, .ref (a 0))]) hx hb dX8_layReading_6 rfl hl (by decide) rfl (fun ls hl => ?_)
  have L7 : ∀ (n7 : Nat) (x1_7 : Int32) (v_readBoxes_7 : Int32) (v_readRow_7 : Nat → Int32) (v_readColumn_7 : Nat → Int32), fX8_layReading_L7 v_inner v_shape v_grid v_often n7 x1_7 v_readBoxes_7 v_readRow_7 v_readColumn_7 = some fin → ∀ (H : Heap) (locs : List Loc), va_P (dC, dI) vwCl (wX8 cI cB cE a v_boards v_kind v_rows v_outer v_inner v_content v_boxes v_rowOf v_columnOf v_seen v_seenWhat v_seenCan v_pageLength v_page v_isWhole v_newKind v_newRows v_newOuter v_newInner v_newContent v_now v_left v_box v_isCounted v_counted v_given v_isTermed v_terms v_term v_shape v_readBoxes_7 v_readRow_7 v_readColumn_7 v_grid v_often v_seedNow v_isKept v_keptBoard v_keptKind v_keptRows v_keptSeen v_keptOuter v_keptInner v_keptContent v_keptWhat v_keptCan v_h) H → va_D A (wX8 cI cB cE a v_boards v_kind v_rows v_outer v_inner v_content v_boxes v_rowOf v_columnOf v_seen v_seenWhat v_seenCan v_pageLength v_page v_isWhole v_newKind v_newRows v_newOuter v_newInner v_newContent v_now v_left v_box v_isCounted v_counted v_given v_isTermed v_terms v_term v_shape v_readBoxes_7 v_readRow_7 v_readColumn_7 v_grid v_often v_seedNow v_isKept v_keptBoard v_keptKind v_keptRows v_keptSeen v_keptOuter v_keptInner v_keptContent v_keptWhat v_keptCan v_h) → va_S A s.heap H locs → ∀ (ls : Array Slot), lv_has ls 3 [(0, .ref (a 0)), (1, .int x1_7)] → W p l e rmX8_layReading s m args below meth c H locs 0 0 Q (F0 m 7 ls []) := by
    intro n7
    induction n7 with
    | zero =>
      intro x1_7 v_readBoxes_7 v_readRow_7 v_readColumn_7 hf
      rw [fX8_layReading_L7] at hf
      cases hf
    | succ n7 ih7 =>
      intro x1_7 v_readBoxes_7 v_readRow_7 v_readColumn_7 hf H locs hP hD hS ls hl
      rw [fX8_layReading_L7] at hf
      refine lv_iload_n hx hb dX8_layReading_7 rfl (lv_at hl 1 rfl) ?_
      refine lv_iconst (v := 4) hx hb dX8_layReading_8 (by decide) ?_
      refine lv_icmp_ge (tgt := 73) hx hb dX8_layReading_9 (by decide) (fun c_1 => ?_) (fun c_1 => ?_)
      · rw [if_pos c_1] at hf
        refine lv_iconst (v := 0) hx hb dX8_layReading_73 (by decide) ?_
        refine lv_istore_n (lv' := [(1, .int 0), (0, .ref (a 0))]) hx hb dX8_layReading_74 rfl hl (by decide) rfl (fun ls hl => ?_)
        have L75 : ∀ (n75 : Nat) (x1_75 : Int32) (v_grid_75 : Nat → Int32), fX8_layReading_L75 v_often v_readBoxes_7 v_readRow_7 v_readColumn_7 n75 x1_75 v_grid_75 = some fin → ∀ (H : Heap) (locs : List Loc), va_P (dC, dI) vwCl (wX8 cI cB cE a v_boards v_kind v_rows v_outer v_inner v_content v_boxes v_rowOf v_columnOf v_seen v_seenWhat v_seenCan v_pageLength v_page v_isWhole v_newKind v_newRows v_newOuter v_newInner v_newContent v_now v_left v_box v_isCounted v_counted v_given v_isTermed v_terms v_term v_shape v_readBoxes_7 v_readRow_7 v_readColumn_7 v_grid_75 v_often v_seedNow v_isKept v_keptBoard v_keptKind v_keptRows v_keptSeen v_keptOuter v_keptInner v_keptContent v_keptWhat v_keptCan v_h) H → va_D A (wX8 cI cB cE a v_boards v_kind v_rows v_outer v_inner v_content v_boxes v_rowOf v_columnOf v_seen v_seenWhat v_seenCan v_pageLength v_page v_isWhole v_newKind v_newRows v_newOuter v_newInner v_newContent v_now v_left v_box v_isCounted v_counted v_given v_isTermed v_terms v_term v_shape v_readBoxes_7 v_readRow_7 v_readColumn_7 v_grid_75 v_often v_seedNow v_isKept v_keptBoard v_keptKind v_keptRows v_keptSeen v_keptOuter v_keptInner v_keptContent v_keptWhat v_keptCan v_h) → va_S A s.heap H locs → ∀ (ls : Array Slot), lv_has ls 3 [(0, .ref (a 0)), (1, .int x1_75)] → W p l e rmX8_layReading s m args below meth c H locs 0 0 Q (F0 m 75 ls []) := by
          intro n75
          induction n75 with
          | zero =>
            intro x1_75 v_grid_75 hf
            rw [fX8_layReading_L75] at hf
            cases hf
          | succ n75 ih75 =>
            intro x1_75 v_grid_75 hf H locs hP hD hS ls hl
            rw [fX8_layReading_L75] at hf
            refine lv_iload_n hx hb dX8_layReading_75 rfl (lv_at hl 1 rfl) ?_
            refine lv_bipush (v := 60) hx hb dX8_layReading_76 (by decide) ?_
            refine lv_icmp_ge (tgt := 94) hx hb dX8_layReading_78 (by decide) (fun c_2 => ?_) (fun c_2 => ?_)
            · rw [if_pos c_2] at hf
              refine lv_iconst (v := 0) hx hb dX8_layReading_94 (by decide) ?_
              refine lv_istore_n (lv' := [(1, .int 0), (0, .ref (a 0))]) hx hb dX8_layReading_95 rfl hl (by decide) rfl (fun ls hl => ?_)
              have L96 : ∀ (n96 : Nat) (x1_96 : Int32) (v_often_96 : Nat → Int32), fX8_layReading_L96 v_readBoxes_7 v_readRow_7 v_readColumn_7 v_grid_75 n96 x1_96 v_often_96 = some fin → ∀ (H : Heap) (locs : List Loc), va_P (dC, dI) vwCl (wX8 cI cB cE a v_boards v_kind v_rows v_outer v_inner v_content v_boxes v_rowOf v_columnOf v_seen v_seenWhat v_seenCan v_pageLength v_page v_isWhole v_newKind v_newRows v_newOuter v_newInner v_newContent v_now v_left v_box v_isCounted v_counted v_given v_isTermed v_terms v_term v_shape v_readBoxes_7 v_readRow_7 v_readColumn_7 v_grid_75 v_often_96 v_seedNow v_isKept v_keptBoard v_keptKind v_keptRows v_keptSeen v_keptOuter v_keptInner v_keptContent v_keptWhat v_keptCan v_h) H → va_D A (wX8 cI cB cE a v_boards v_kind v_rows v_outer v_inner v_content v_boxes v_rowOf v_columnOf v_seen v_seenWhat v_seenCan v_pageLength v_page v_isWhole v_newKind v_newRows v_newOuter v_newInner v_newContent v_now v_left v_box v_isCounted v_counted v_given v_isTermed v_terms v_term v_shape v_readBoxes_7 v_readRow_7 v_readColumn_7 v_grid_75 v_often_96 v_seedNow v_isKept v_keptBoard v_keptKind v_keptRows v_keptSeen v_keptOuter v_keptInner v_keptContent v_keptWhat v_keptCan v_h) → va_S A s.heap H locs → ∀ (ls : Array Slot), lv_has ls 3 [(0, .ref (a 0)), (1, .int x1_96)] → W p l e rmX8_layReading s m args below meth c H locs 0 0 Q (F0 m 96 ls []) := by
                intro n96
                induction n96 with
                | zero =>
                  intro x1_96 v_often_96 hf
                  rw [fX8_layReading_L96] at hf
                  cases hf
                | succ n96 ih96 =>
                  intro x1_96 v_often_96 hf H locs hP hD hS ls hl
                  rw [fX8_layReading_L96] at hf
                  refine lv_iload_n hx hb dX8_layReading_96 rfl (lv_at hl 1 rfl) ?_
                  refine lv_iconst (v := 5) hx hb dX8_layReading_97 (by decide) ?_
                  refine lv_icmp_ge (tgt := 114) hx hb dX8_layReading_98 (by decide) (fun c_3 => ?_) (fun c_3 => ?_)
                  · rw [if_pos c_3] at hf
                    have hQ2 := hQ
                    rw [← Option.some.inj hf] at hQ2
                    exact cx_vret hQ2 hx hb hr hlocks hK hP hD hS dX8_layReading_114
                  · rw [if_neg c_3] at hf
                    refine lv_aload_n hx hb dX8_layReading_101 rfl (lv_at hl 0 rfl) ?_
                    refine va_get (D := (dC, dI)) (ci := 8) (C := RX8) (T := TX8) (N := 47) hx hb hts (fun _ h => List.mem_cons_of_mem _ (List.mem_append_right _ h)) hown hK hP 0 rfl rfl 34 (by decide) (hts (.fieldLink RX8 68 "SkewBoardModel" "often" "[I") (List.mem_of_getElem? (i := 7) rfl)) (fun _ h9 => h9) rfl dX8_layReading_102 ?_
                    refine lv_iload_n hx hb dX8_layReading_105 rfl (lv_at hl 1 rfl) ?_
                    refine lv_iconst (v := 0) hx hb dX8_layReading_106 (by decide) ?_
                    obtain ⟨g_4, hf⟩ := gd_some hf
                    refine va_iast hx hb hK hP hD hS 20 0 rfl rfl (inb_vp g_4) dX8_layReading_107 (fun H locs hP hD hS => ?_)
                    have hP : va_P (dC, dI) vwCl (wX8 cI cB cE a v_boards v_kind v_rows v_outer v_inner v_content v_boxes v_rowOf v_columnOf v_seen v_seenWhat v_seenCan v_pageLength v_page v_isWhole v_newKind v_newRows v_newOuter v_newInner v_newContent v_now v_left v_box v_isCounted v_counted v_given v_isTermed v_terms v_term v_shape v_readBoxes_7 v_readRow_7 v_readColumn_7 v_grid_75 (upd v_often_96 x1_96.toNatClampNeg 0) v_seedNow v_isKept v_keptBoard v_keptKind v_keptRows v_keptSeen v_keptOuter v_keptInner v_keptContent v_keptWhat v_keptCan v_h) H := hP
                    have hD : va_D A (wX8 cI cB cE a v_boards v_kind v_rows v_outer v_inner v_content v_boxes v_rowOf v_columnOf v_seen v_seenWhat v_seenCan v_pageLength v_page v_isWhole v_newKind v_newRows v_newOuter v_newInner v_newContent v_now v_left v_box v_isCounted v_counted v_given v_isTermed v_terms v_term v_shape v_readBoxes_7 v_readRow_7 v_readColumn_7 v_grid_75 (upd v_often_96 x1_96.toNatClampNeg 0) v_seedNow v_isKept v_keptBoard v_keptKind v_keptRows v_keptSeen v_keptOuter v_keptInner v_keptContent v_keptWhat v_keptCan v_h) := hD
                    refine lv_iinc (v := (x1_96 + 1)) (lv' := [(1, .int (x1_96 + 1)), (0, .ref (a 0))]) hx hb dX8_layReading_108 hl (k := 1) rfl rfl (by decide) rfl (fun ls hl => ?_)
                    refine lv_goto (tgt := 96) hx hb dX8_layReading_111 (by decide) ?_
                    exact ih96 (x1_96 + 1) (upd v_often_96 x1_96.toNatClampNeg 0) hf _ _ hP hD hS ls (lv_sub hl [1, 0] rfl)
              exact L96 fu 0 v_often hf _ _ hP hD hS ls (lv_sub hl [1, 0] rfl)
            · rw [if_neg c_2] at hf
              refine lv_aload_n hx hb dX8_layReading_81 rfl (lv_at hl 0 rfl) ?_
              refine va_get (D := (dC, dI)) (ci := 8) (C := RX8) (T := TX8) (N := 47) hx hb hts (fun _ h => List.mem_cons_of_mem _ (List.mem_append_right _ h)) hown hK hP 0 rfl rfl 33 (by decide) (hts (.fieldLink RX8 65 "SkewBoardModel" "grid" "[I") (List.mem_of_getElem? (i := 6) rfl)) (fun _ h9 => h9) rfl dX8_layReading_82 ?_
              refine lv_iload_n hx hb dX8_layReading_85 rfl (lv_at hl 1 rfl) ?_
              refine lv_iconst (v := 0) hx hb dX8_layReading_86 (by decide) ?_
              obtain ⟨g_5, hf⟩ := gd_some hf
              refine va_iast hx hb hK hP hD hS 19 0 rfl rfl (inb_vp g_5) dX8_layReading_87 (fun H locs hP hD hS => ?_)
              have hP : va_P (dC, dI) vwCl (wX8 cI cB cE a v_boards v_kind v_rows v_outer v_inner v_content v_boxes v_rowOf v_columnOf v_seen v_seenWhat v_seenCan v_pageLength v_page v_isWhole v_newKind v_newRows v_newOuter v_newInner v_newContent v_now v_left v_box v_isCounted v_counted v_given v_isTermed v_terms v_term v_shape v_readBoxes_7 v_readRow_7 v_readColumn_7 (upd v_grid_75 x1_75.toNatClampNeg 0) v_often v_seedNow v_isKept v_keptBoard v_keptKind v_keptRows v_keptSeen v_keptOuter v_keptInner v_keptContent v_keptWhat v_keptCan v_h) H := hP
              have hD : va_D A (wX8 cI cB cE a v_boards v_kind v_rows v_outer v_inner v_content v_boxes v_rowOf v_columnOf v_seen v_seenWhat v_seenCan v_pageLength v_page v_isWhole v_newKind v_newRows v_newOuter v_newInner v_newContent v_now v_left v_box v_isCounted v_counted v_given v_isTermed v_terms v_term v_shape v_readBoxes_7 v_readRow_7 v_readColumn_7 (upd v_grid_75 x1_75.toNatClampNeg 0) v_often v_seedNow v_isKept v_keptBoard v_keptKind v_keptRows v_keptSeen v_keptOuter v_keptInner v_keptContent v_keptWhat v_keptCan v_h) := hD
              refine lv_iinc (v := (x1_75 + 1)) (lv' := [(1, .int (x1_75 + 1)), (0, .ref (a 0))]) hx hb dX8_layReading_88 hl (k := 1) rfl rfl (by decide) rfl (fun ls hl => ?_)
              refine lv_goto (tgt := 75) hx hb dX8_layReading_91 (by decide) ?_
              exact ih75 (x1_75 + 1) (upd v_grid_75 x1_75.toNatClampNeg 0) hf _ _ hP hD hS ls (lv_sub hl [1, 0] rfl)
        exact L75 fu 0 v_grid hf _ _ hP hD hS ls (lv_sub hl [1, 0] rfl)
      · rw [if_neg c_1] at hf
        refine lv_aload_n hx hb dX8_layReading_12 rfl (lv_at hl 0 rfl) ?_
        refine va_get (D := (dC, dI)) (ci := 8) (C := RX8) (T := TX8) (N := 47) hx hb hts (fun _ h => List.mem_cons_of_mem _ (List.mem_append_right _ h)) hown hK hP 0 rfl rfl 29 (by decide) (hts (.fieldLink RX8 56 "SkewBoardModel" "shape" "[I") (List.mem_of_getElem? (i := 2) rfl)) (fun _ h9 => h9) rfl dX8_layReading_13 ?_
        refine lv_iload_n hx hb dX8_layReading_16 rfl (lv_at hl 1 rfl) ?_
        obtain ⟨g_6, hf⟩ := gd_some hf
        refine va_iald hx hb hK hP 16 0 rfl rfl (inb_vp g_6) dX8_layReading_17 ?_
        refine lv_iconst (v := 1) hx hb dX8_layReading_18 (by decide) ?_
        refine lv_isub hx hb dX8_layReading_19 ?_
        refine lv_istore_n (lv' := [(2, .int ((v_shape x1_7.toNatClampNeg) - 1)), (0, .ref (a 0)), (1, .int x1_7)]) hx hb dX8_layReading_20 rfl hl (by decide) rfl (fun ls hl => ?_)
        have L21 : ∀ (n21 : Nat) (x2_21 : Int32) (v_readBoxes_21 : Int32) (v_readRow_21 : Nat → Int32) (v_readColumn_21 : Nat → Int32), fX8_layReading_L21 v_inner x1_7 (fX8_layReading_L7 v_inner v_shape v_grid v_often n7) n21 x2_21 v_readBoxes_21 v_readRow_21 v_readColumn_21 = some fin → ∀ (H : Heap) (locs : List Loc), va_P (dC, dI) vwCl (wX8 cI cB cE a v_boards v_kind v_rows v_outer v_inner v_content v_boxes v_rowOf v_columnOf v_seen v_seenWhat v_seenCan v_pageLength v_page v_isWhole v_newKind v_newRows v_newOuter v_newInner v_newContent v_now v_left v_box v_isCounted v_counted v_given v_isTermed v_terms v_term v_shape v_readBoxes_21 v_readRow_21 v_readColumn_21 v_grid v_often v_seedNow v_isKept v_keptBoard v_keptKind v_keptRows v_keptSeen v_keptOuter v_keptInner v_keptContent v_keptWhat v_keptCan v_h) H → va_D A (wX8 cI cB cE a v_boards v_kind v_rows v_outer v_inner v_content v_boxes v_rowOf v_columnOf v_seen v_seenWhat v_seenCan v_pageLength v_page v_isWhole v_newKind v_newRows v_newOuter v_newInner v_newContent v_now v_left v_box v_isCounted v_counted v_given v_isTermed v_terms v_term v_shape v_readBoxes_21 v_readRow_21 v_readColumn_21 v_grid v_often v_seedNow v_isKept v_keptBoard v_keptKind v_keptRows v_keptSeen v_keptOuter v_keptInner v_keptContent v_keptWhat v_keptCan v_h) → va_S A s.heap H locs → ∀ (ls : Array Slot), lv_has ls 3 [(0, .ref (a 0)), (1, .int x1_7), (2, .int x2_21)] → W p l e rmX8_layReading s m args below meth c H locs 0 0 Q (F0 m 21 ls []) := by
          intro n21
          induction n21 with
          | zero =>
            intro x2_21 v_readBoxes_21 v_readRow_21 v_readColumn_21 hf
            rw [fX8_layReading_L21] at hf
            cases hf
          | succ n21 ih21 =>
            intro x2_21 v_readBoxes_21 v_readRow_21 v_readColumn_21 hf H locs hP hD hS ls hl
            rw [fX8_layReading_L21] at hf
            refine lv_iload_n hx hb dX8_layReading_21 rfl (lv_at hl 2 rfl) ?_
            refine lv_aload_n hx hb dX8_layReading_22 rfl (lv_at hl 0 rfl) ?_
            refine va_get (D := (dC, dI)) (ci := 8) (C := RX8) (T := TX8) (N := 47) hx hb hts (fun _ h => List.mem_cons_of_mem _ (List.mem_append_right _ h)) hown hK hP 0 rfl rfl 4 (by decide) (hts (.fieldLink RX8 13 "SkewBoardModel" "inner" "[I") (List.mem_of_getElem? (i := 3) rfl)) (fun _ h9 => h9) rfl dX8_layReading_23 ?_
            refine lv_iload_n hx hb dX8_layReading_26 rfl (lv_at hl 1 rfl) ?_
            refine va_iald hx hb hK hP 2 0 rfl rfl (inb_vp g_6) dX8_layReading_27 ?_
            refine lv_icmp_lt (tgt := 67) hx hb dX8_layReading_28 (by decide) (fun c_7 => ?_) (fun c_7 => ?_)
            · rw [if_pos c_7] at hf
              refine lv_iinc (v := (x1_7 + 1)) (lv' := [(1, .int (x1_7 + 1)), (0, .ref (a 0)), (2, .int x2_21)]) hx hb dX8_layReading_67 hl (k := 1) rfl rfl (by decide) rfl (fun ls hl => ?_)
              refine lv_goto (tgt := 7) hx hb dX8_layReading_70 (by decide) ?_
              exact ih7 (x1_7 + 1) v_readBoxes_21 v_readRow_21 v_readColumn_21 hf _ _ hP hD hS ls (lv_sub hl [1, 0] rfl)
            · rw [if_neg c_7] at hf
              refine lv_aload_n hx hb dX8_layReading_31 rfl (lv_at hl 0 rfl) ?_
              refine va_get (D := (dC, dI)) (ci := 8) (C := RX8) (T := TX8) (N := 47) hx hb hts (fun _ h => List.mem_cons_of_mem _ (List.mem_append_right _ h)) hown hK hP 0 rfl rfl 31 (by decide) (hts (.fieldLink RX8 59 "SkewBoardModel" "readRow" "[I") (List.mem_of_getElem? (i := 4) rfl)) (fun _ h9 => h9) rfl dX8_layReading_32 ?_
              refine lv_aload_n hx hb dX8_layReading_35 rfl (lv_at hl 0 rfl) ?_
              refine va_get (D := (dC, dI)) (ci := 8) (C := RX8) (T := TX8) (N := 47) hx hb hts (fun _ h => List.mem_cons_of_mem _ (List.mem_append_right _ h)) hown hK hP 0 rfl rfl 30 (by decide) (hts (.fieldLink RX8 233 "SkewBoardModel" "readBoxes" "I") (List.mem_of_getElem? (i := 1) rfl)) (fun _ h9 => h9) rfl dX8_layReading_36 ?_
              refine lv_iload_n hx hb dX8_layReading_39 rfl (lv_at hl 1 rfl) ?_
              obtain ⟨g_8, hf⟩ := gd_some hf
              refine va_iast hx hb hK hP hD hS 17 0 rfl rfl (inb_vp g_8) dX8_layReading_40 (fun H locs hP hD hS => ?_)
              have hP : va_P (dC, dI) vwCl (wX8 cI cB cE a v_boards v_kind v_rows v_outer v_inner v_content v_boxes v_rowOf v_columnOf v_seen v_seenWhat v_seenCan v_pageLength v_page v_isWhole v_newKind v_newRows v_newOuter v_newInner v_newContent v_now v_left v_box v_isCounted v_counted v_given v_isTermed v_terms v_term v_shape v_readBoxes_21 (upd v_readRow_21 v_readBoxes_21.toNatClampNeg x1_7) v_readColumn_21 v_grid v_often v_seedNow v_isKept v_keptBoard v_keptKind v_keptRows v_keptSeen v_keptOuter v_keptInner v_keptContent v_keptWhat v_keptCan v_h) H := hP
              have hD : va_D A (wX8 cI cB cE a v_boards v_kind v_rows v_outer v_inner v_content v_boxes v_rowOf v_columnOf v_seen v_seenWhat v_seenCan v_pageLength v_page v_isWhole v_newKind v_newRows v_newOuter v_newInner v_newContent v_now v_left v_box v_isCounted v_counted v_given v_isTermed v_terms v_term v_shape v_readBoxes_21 (upd v_readRow_21 v_readBoxes_21.toNatClampNeg x1_7) v_readColumn_21 v_grid v_often v_seedNow v_isKept v_keptBoard v_keptKind v_keptRows v_keptSeen v_keptOuter v_keptInner v_keptContent v_keptWhat v_keptCan v_h) := hD
              refine lv_aload_n hx hb dX8_layReading_41 rfl (lv_at hl 0 rfl) ?_
              refine va_get (D := (dC, dI)) (ci := 8) (C := RX8) (T := TX8) (N := 47) hx hb hts (fun _ h => List.mem_cons_of_mem _ (List.mem_append_right _ h)) hown hK hP 0 rfl rfl 32 (by decide) (hts (.fieldLink RX8 62 "SkewBoardModel" "readColumn" "[I") (List.mem_of_getElem? (i := 5) rfl)) (fun _ h9 => h9) rfl dX8_layReading_42 ?_
              refine lv_aload_n hx hb dX8_layReading_45 rfl (lv_at hl 0 rfl) ?_
              refine va_get (D := (dC, dI)) (ci := 8) (C := RX8) (T := TX8) (N := 47) hx hb hts (fun _ h => List.mem_cons_of_mem _ (List.mem_append_right _ h)) hown hK hP 0 rfl rfl 30 (by decide) (hts (.fieldLink RX8 233 "SkewBoardModel" "readBoxes" "I") (List.mem_of_getElem? (i := 1) rfl)) (fun _ h9 => h9) rfl dX8_layReading_46 ?_
              refine lv_iload_n hx hb dX8_layReading_49 rfl (lv_at hl 2 rfl) ?_
              refine va_iast hx hb hK hP hD hS 18 0 rfl rfl (inb_vp g_8) dX8_layReading_50 (fun H locs hP hD hS => ?_)
              have hP : va_P (dC, dI) vwCl (wX8 cI cB cE a v_boards v_kind v_rows v_outer v_inner v_content v_boxes v_rowOf v_columnOf v_seen v_seenWhat v_seenCan v_pageLength v_page v_isWhole v_newKind v_newRows v_newOuter v_newInner v_newContent v_now v_left v_box v_isCounted v_counted v_given v_isTermed v_terms v_term v_shape v_readBoxes_21 (upd v_readRow_21 v_readBoxes_21.toNatClampNeg x1_7) (upd v_readColumn_21 v_readBoxes_21.toNatClampNeg x2_21) v_grid v_often v_seedNow v_isKept v_keptBoard v_keptKind v_keptRows v_keptSeen v_keptOuter v_keptInner v_keptContent v_keptWhat v_keptCan v_h) H := hP
              have hD : va_D A (wX8 cI cB cE a v_boards v_kind v_rows v_outer v_inner v_content v_boxes v_rowOf v_columnOf v_seen v_seenWhat v_seenCan v_pageLength v_page v_isWhole v_newKind v_newRows v_newOuter v_newInner v_newContent v_now v_left v_box v_isCounted v_counted v_given v_isTermed v_terms v_term v_shape v_readBoxes_21 (upd v_readRow_21 v_readBoxes_21.toNatClampNeg x1_7) (upd v_readColumn_21 v_readBoxes_21.toNatClampNeg x2_21) v_grid v_often v_seedNow v_isKept v_keptBoard v_keptKind v_keptRows v_keptSeen v_keptOuter v_keptInner v_keptContent v_keptWhat v_keptCan v_h) := hD
              refine lv_aload_n hx hb dX8_layReading_51 rfl (lv_at hl 0 rfl) ?_
              refine lv_dup hx hb dX8_layReading_52 rfl ?_
              refine va_get (D := (dC, dI)) (ci := 8) (C := RX8) (T := TX8) (N := 47) hx hb hts (fun _ h => List.mem_cons_of_mem _ (List.mem_append_right _ h)) hown hK hP 0 rfl rfl 30 (by decide) (hts (.fieldLink RX8 233 "SkewBoardModel" "readBoxes" "I") (List.mem_of_getElem? (i := 1) rfl)) (fun _ h9 => h9) rfl dX8_layReading_53 ?_
              refine lv_iconst (v := 1) hx hb dX8_layReading_56 (by decide) ?_
              refine lv_iadd hx hb dX8_layReading_57 ?_
              refine va_put (D := (dC, dI)) (ci := 8) (v := .int (v_readBoxes_21 + 1)) (ty := .int) (C := RX8) (T := TX8) (N := 47) hx hb hts (fun _ h => List.mem_cons_of_mem _ (List.mem_append_right _ h)) tyX8 tyX8_ok nmX8 hown hK hP hD hS 0 rfl rfl 30 (by decide) (hts (.fieldLink RX8 233 "SkewBoardModel" "readBoxes" "I") (List.mem_of_getElem? (i := 1) rfl)) (fun _ h9 => h9) rfl (by decide +kernel) rfl rfl (Nat.le_of_ble_eq_true rfl) dX8_layReading_58 (fun H locs hP hD hS => ?_)
              have hP : va_P (dC, dI) vwCl (wX8 cI cB cE a v_boards v_kind v_rows v_outer v_inner v_content v_boxes v_rowOf v_columnOf v_seen v_seenWhat v_seenCan v_pageLength v_page v_isWhole v_newKind v_newRows v_newOuter v_newInner v_newContent v_now v_left v_box v_isCounted v_counted v_given v_isTermed v_terms v_term v_shape (v_readBoxes_21 + 1) (upd v_readRow_21 v_readBoxes_21.toNatClampNeg x1_7) (upd v_readColumn_21 v_readBoxes_21.toNatClampNeg x2_21) v_grid v_often v_seedNow v_isKept v_keptBoard v_keptKind v_keptRows v_keptSeen v_keptOuter v_keptInner v_keptContent v_keptWhat v_keptCan v_h) H := hP
              have hD : va_D A (wX8 cI cB cE a v_boards v_kind v_rows v_outer v_inner v_content v_boxes v_rowOf v_columnOf v_seen v_seenWhat v_seenCan v_pageLength v_page v_isWhole v_newKind v_newRows v_newOuter v_newInner v_newContent v_now v_left v_box v_isCounted v_counted v_given v_isTermed v_terms v_term v_shape (v_readBoxes_21 + 1) (upd v_readRow_21 v_readBoxes_21.toNatClampNeg x1_7) (upd v_readColumn_21 v_readBoxes_21.toNatClampNeg x2_21) v_grid v_often v_seedNow v_isKept v_keptBoard v_keptKind v_keptRows v_keptSeen v_keptOuter v_keptInner v_keptContent v_keptWhat v_keptCan v_h) := hD
              refine lv_iinc (v := (x2_21 + (-1))) (lv' := [(2, .int (x2_21 + (-1))), (0, .ref (a 0)), (1, .int x1_7)]) hx hb dX8_layReading_61 hl (k := 2) rfl rfl (by decide) rfl (fun ls hl => ?_)
              refine lv_goto (tgt := 21) hx hb dX8_layReading_64 (by decide) ?_
              exact ih21 (x2_21 + (-1)) (v_readBoxes_21 + 1) (upd v_readRow_21 v_readBoxes_21.toNatClampNeg x1_7) (upd v_readColumn_21 v_readBoxes_21.toNatClampNeg x2_21) hf _ _ hP hD hS ls (lv_sub hl [1, 2, 0] rfl)
        exact L21 fu ((v_shape x1_7.toNatClampNeg) - 1) v_readBoxes_7 v_readRow_7 v_readColumn_7 hf _ _ hP hD hS ls (lv_sub hl [1, 2, 0] rfl)
  exact L7 fu 0 0 v_readRow v_readColumn hf _ _ hP hD hS ls (lv_sub hl [1, 0] rfl)

def fX8_cellAt (p1 : Int32) (v_readRow : Nat → Int32) (v_readColumn : Nat → Int32) : Option (Int32) :=
  gd (inb p1 9) (some ((15 * (v_readRow p1.toNatClampNeg)) + (v_readColumn p1.toNatClampNeg)))
def rmX8_cellAt : Room := { frames := 0, cells := 0, slots := 0, locals := 0 }
set_option maxRecDepth 100000 in
set_option maxHeartbeats 4000000 in
theorem ctX8_cellAt (l : Launch) (z : Nat × Nat × Nat) (dC : Nat → ClassId) (dI : Nat → Nat → Nat) (cI cB cE : ClassId) (a : Nat → Nat) (v_boards : Int32) (v_kind : Int32) (v_rows : Int32) (v_outer : Nat → Int32) (v_inner : Nat → Int32) (v_content : Nat → Int32) (v_boxes : Int32) (v_rowOf : Nat → Int32) (v_columnOf : Nat → Int32) (v_seen : Int32) (v_seenWhat : Nat → Int32) (v_seenCan : Nat → Int32) (v_pageLength : Int32) (v_page : Nat → Int32) (v_isWhole : Int32) (v_newKind : Int32) (v_newRows : Int32) (v_newOuter : Nat → Int32) (v_newInner : Nat → Int32) (v_newContent : Nat → Int32) (v_now : Nat → Int32) (v_left : Nat → Int32) (v_box : Int32) (v_isCounted : Int32) (v_counted : Int32) (v_given : Nat → Int32) (v_isTermed : Int32) (v_terms : Int32) (v_term : Nat → Int32) (v_shape : Nat → Int32) (v_readBoxes : Int32) (v_readRow : Nat → Int32) (v_readColumn : Nat → Int32) (v_grid : Nat → Int32) (v_often : Nat → Int32) (v_seedNow : Int64) (v_isKept : Int32) (v_keptBoard : Int32) (v_keptKind : Int32) (v_keptRows : Int32) (v_keptSeen : Int32) (v_keptOuter : Nat → Int32) (v_keptInner : Nat → Int32) (v_keptContent : Nat → Int32) (v_keptWhat : Nat → Int32) (v_keptCan : Nat → Int32) (v_h : Int64) (p1 : Int32) (fin : Int32) (hf : fX8_cellAt p1 v_readRow v_readColumn = some fin) : Ct l z (dC, dI) (tyL cI cB cE) yX8_cellAt wsX8_cellAt rmX8_cellAt [.ref (a 0), .int p1] (wX8 cI cB cE a v_boards v_kind v_rows v_outer v_inner v_content v_boxes v_rowOf v_columnOf v_seen v_seenWhat v_seenCan v_pageLength v_page v_isWhole v_newKind v_newRows v_newOuter v_newInner v_newContent v_now v_left v_box v_isCounted v_counted v_given v_isTermed v_terms v_term v_shape v_readBoxes v_readRow v_readColumn v_grid v_often v_seedNow v_isKept v_keptBoard v_keptKind v_keptRows v_keptSeen v_keptOuter v_keptInner v_keptContent v_keptWhat v_keptCan v_h) (some (.int fin)) (wX8 cI cB cE a v_boards v_kind v_rows v_outer v_inner v_content v_boxes v_rowOf v_columnOf v_seen v_seenWhat v_seenCan v_pageLength v_page v_isWhole v_newKind v_newRows v_newOuter v_newInner v_newContent v_now v_left v_box v_isCounted v_counted v_given v_isTermed v_terms v_term v_shape v_readBoxes v_readRow v_readColumn v_grid v_often v_seedNow v_isKept v_keptBoard v_keptKind v_keptRows v_keptSeen v_keptOuter v_keptInner v_keptContent v_keptWhat v_keptCan v_h) := by
  refine Met.ofC (cc := cX8_cellAt) (maxL := 2) (ret := (some .int)) (by decide) rfl (Nat.le_of_ble_eq_true rfl) ?_
  intro p e s m args below meth c A Q ls hx hb hr hml hts hown hlocks hA hK hP hD hZ hS hQ hl
  have hown : s.vm.findClass RX8 = some m.cls := hown
  have hl : lv_has ls 2 [(0, .ref (a 0)), (1, .int p1)] := hl
  unfold fX8_cellAt at hf
  refine lv_bipush (v := 15) hx hb dX8_cellAt_0 (by decide) ?_
  refine lv_aload_n hx hb dX8_cellAt_2 rfl (lv_at hl 0 rfl) ?_
  refine va_get (D := (dC, dI)) (ci := 8) (C := RX8) (T := TX8) (N := 47) hx hb hts (fun _ h => List.mem_cons_of_mem _ (List.mem_append_right _ h)) hown hK hP 0 rfl rfl 31 (by decide) (hts (.fieldLink RX8 59 "SkewBoardModel" "readRow" "[I") (List.mem_of_getElem? (i := 1) rfl)) (fun _ h9 => h9) rfl dX8_cellAt_3 ?_
  refine lv_iload_n hx hb dX8_cellAt_6 rfl (lv_at hl 1 rfl) ?_
  obtain ⟨g_1, hf⟩ := gd_some hf
  refine va_iald hx hb hK hP 17 0 rfl rfl (inb_vp g_1) dX8_cellAt_7 ?_
  refine lv_imul hx hb dX8_cellAt_8 ?_
  refine lv_aload_n hx hb dX8_cellAt_9 rfl (lv_at hl 0 rfl) ?_
  refine va_get (D := (dC, dI)) (ci := 8) (C := RX8) (T := TX8) (N := 47) hx hb hts (fun _ h => List.mem_cons_of_mem _ (List.mem_append_right _ h)) hown hK hP 0 rfl rfl 32 (by decide) (hts (.fieldLink RX8 62 "SkewBoardModel" "readColumn" "[I") (List.mem_of_getElem? (i := 2) rfl)) (fun _ h9 => h9) rfl dX8_cellAt_10 ?_
  refine lv_iload_n hx hb dX8_cellAt_13 rfl (lv_at hl 1 rfl) ?_
  refine va_iald hx hb hK hP 18 0 rfl rfl (inb_vp g_1) dX8_cellAt_14 ?_
  refine lv_iadd hx hb dX8_cellAt_15 ?_
  have hQ2 := hQ
  rw [← Option.some.inj hf] at hQ2
  exact cx_iret hQ2 hx hb hr hlocks hK hP hD hS dX8_cellAt_16

def fX8_mayCome_J154 (y0_154 : Int32) : Option (Int32) :=
    gd (isb y0_154) (some y0_154)
def fX8_mayCome_J153 (k154 : Int32 → Option (Int32)) (u_153 : Unit) : Option (Int32) :=
    k154 0
def fX8_mayCome_J149 (k154 : Int32 → Option (Int32)) (u_149 : Unit) : Option (Int32) :=
    k154 1
def fX8_mayCome_J108 (v_readRow : Nat → Int32) (v_grid : Nat → Int32) (p1 : Int32) (p2 : Int32) (r_1 : Int32) (y0_108 : Int32) : Option (Int32) :=
    if y0_108 = 0 then (fX8_mayCome_J153 fX8_mayCome_J154 ()) else (if (v_readRow p1.toNatClampNeg) = 0 then (fX8_mayCome_J149 fX8_mayCome_J154 ()) else (gd (inb (r_1 - 15) 60) (if (v_grid (r_1 - 15).toNatClampNeg) = 0 then (fX8_mayCome_J149 fX8_mayCome_J154 ()) else (if p2 ≤ (v_grid (r_1 - 15).toNatClampNeg) then (fX8_mayCome_J153 fX8_mayCome_J154 ()) else (fX8_mayCome_J149 fX8_mayCome_J154 ())))))
def fX8_mayCome_J107 (k108 : Int32 → Option (Int32)) (u_107 : Unit) : Option (Int32) :=
    k108 0
def fX8_mayCome_J103 (k108 : Int32 → Option (Int32)) (u_103 : Unit) : Option (Int32) :=
    k108 1
def fX8_mayCome_J79 (v_readRow : Nat → Int32) (v_grid : Nat → Int32) (p1 : Int32) (p2 : Int32) (r_1 : Int32) (y0_50 : Int32) (y0_79 : Int32) : Option (Int32) :=
    if y0_50 = 0 then (fX8_mayCome_J107 (fX8_mayCome_J108 v_readRow v_grid p1 p2 r_1) ()) else (if y0_79 = 0 then (gd (inb (r_1 + 1) 60) (if (v_grid (r_1 + 1).toNatClampNeg) < p2 then (fX8_mayCome_J107 (fX8_mayCome_J108 v_readRow v_grid p1 p2 r_1) ()) else (fX8_mayCome_J103 (fX8_mayCome_J108 v_readRow v_grid p1 p2 r_1) ()))) else (fX8_mayCome_J103 (fX8_mayCome_J108 v_readRow v_grid p1 p2 r_1) ()))
def fX8_mayCome_J50 (v_shape : Nat → Int32) (v_readRow : Nat → Int32) (v_readColumn : Nat → Int32) (v_grid : Nat → Int32) (p1 : Int32) (p2 : Int32) (r_1 : Int32) (y0_50 : Int32) : Option (Int32) :=
    gd (inb p1 9) (gd (inb (v_readRow p1.toNatClampNeg) 4) (fX8_mayCome_J79 v_readRow v_grid p1 p2 r_1 y0_50 (if (v_readColumn p1.toNatClampNeg) = ((v_shape (v_readRow p1.toNatClampNeg).toNatClampNeg) - 1) then 1 else 0)))
def fX8_mayCome_J49 (k50 : Int32 → Option (Int32)) (u_49 : Unit) : Option (Int32) :=
    k50 0
def fX8_mayCome_J45 (k50 : Int32 → Option (Int32)) (u_45 : Unit) : Option (Int32) :=
    k50 1
def fX8_mayCome (p1 : Int32) (p2 : Int32) (v_content : Nat → Int32) (v_shape : Nat → Int32) (v_readRow : Nat → Int32) (v_readColumn : Nat → Int32) (v_grid : Nat → Int32) (v_often : Nat → Int32) : Option (Int32) :=
  bd (fX8_cellAt p1 v_readRow v_readColumn) (fun r_1 => gd (inb p2 5) (gd (inb (p2 - 1) 4) (if (v_content (p2 - 1).toNatClampNeg) ≤ (v_often p2.toNatClampNeg) then (fX8_mayCome_J49 (fX8_mayCome_J50 v_shape v_readRow v_readColumn v_grid p1 p2 r_1) ()) else (if p2 = 1 then (fX8_mayCome_J45 (fX8_mayCome_J50 v_shape v_readRow v_readColumn v_grid p1 p2 r_1) ()) else (gd (inb (p2 - 1) 5) (if (v_often (p2 - 1).toNatClampNeg) ≤ (v_often p2.toNatClampNeg) then (fX8_mayCome_J49 (fX8_mayCome_J50 v_shape v_readRow v_readColumn v_grid p1 p2 r_1) ()) else (fX8_mayCome_J45 (fX8_mayCome_J50 v_shape v_readRow v_readColumn v_grid p1 p2 r_1) ())))))))
def rmX8_mayCome : Room := { frames := 1, cells := 0, slots := 0, locals := 21 }
set_option maxRecDepth 100000 in
set_option maxHeartbeats 4000000 in
theorem ctX8_mayCome (l : Launch) (z : Nat × Nat × Nat) (dC : Nat → ClassId) (dI : Nat → Nat → Nat) (cI cB cE : ClassId) (a : Nat → Nat) (v_boards : Int32) (v_kind : Int32) (v_rows : Int32) (v_outer : Nat → Int32) (v_inner : Nat → Int32) (v_content : Nat → Int32) (v_boxes : Int32) (v_rowOf : Nat → Int32) (v_columnOf : Nat → Int32) (v_seen : Int32) (v_seenWhat : Nat → Int32) (v_seenCan : Nat → Int32) (v_pageLength : Int32) (v_page : Nat → Int32) (v_isWhole : Int32) (v_newKind : Int32) (v_newRows : Int32) (v_newOuter : Nat → Int32) (v_newInner : Nat → Int32) (v_newContent : Nat → Int32) (v_now : Nat → Int32) (v_left : Nat → Int32) (v_box : Int32) (v_isCounted : Int32) (v_counted : Int32) (v_given : Nat → Int32) (v_isTermed : Int32) (v_terms : Int32) (v_term : Nat → Int32) (v_shape : Nat → Int32) (v_readBoxes : Int32) (v_readRow : Nat → Int32) (v_readColumn : Nat → Int32) (v_grid : Nat → Int32) (v_often : Nat → Int32) (v_seedNow : Int64) (v_isKept : Int32) (v_keptBoard : Int32) (v_keptKind : Int32) (v_keptRows : Int32) (v_keptSeen : Int32) (v_keptOuter : Nat → Int32) (v_keptInner : Nat → Int32) (v_keptContent : Nat → Int32) (v_keptWhat : Nat → Int32) (v_keptCan : Nat → Int32) (v_h : Int64) (p1 : Int32) (p2 : Int32) (fin : Int32) (hf : fX8_mayCome p1 p2 v_content v_shape v_readRow v_readColumn v_grid v_often = some fin) : Ct l z (dC, dI) (tyL cI cB cE) yX8_mayCome wsX8_mayCome rmX8_mayCome [.ref (a 0), .int p1, .int p2] (wX8 cI cB cE a v_boards v_kind v_rows v_outer v_inner v_content v_boxes v_rowOf v_columnOf v_seen v_seenWhat v_seenCan v_pageLength v_page v_isWhole v_newKind v_newRows v_newOuter v_newInner v_newContent v_now v_left v_box v_isCounted v_counted v_given v_isTermed v_terms v_term v_shape v_readBoxes v_readRow v_readColumn v_grid v_often v_seedNow v_isKept v_keptBoard v_keptKind v_keptRows v_keptSeen v_keptOuter v_keptInner v_keptContent v_keptWhat v_keptCan v_h) (some (.int fin)) (wX8 cI cB cE a v_boards v_kind v_rows v_outer v_inner v_content v_boxes v_rowOf v_columnOf v_seen v_seenWhat v_seenCan v_pageLength v_page v_isWhole v_newKind v_newRows v_newOuter v_newInner v_newContent v_now v_left v_box v_isCounted v_counted v_given v_isTermed v_terms v_term v_shape v_readBoxes v_readRow v_readColumn v_grid v_often v_seedNow v_isKept v_keptBoard v_keptKind v_keptRows v_keptSeen v_keptOuter v_keptInner v_keptContent v_keptWhat v_keptCan v_h) := by
  refine Met.ofC (cc := cX8_mayCome) (maxL := 6) (ret := (some .boolean)) (by decide) rfl (Nat.le_of_ble_eq_true rfl) ?_
  intro p e s m args below meth c A Q ls hx hb hr hml hts hown hlocks hA hK hP hD hZ hS hQ hl
  have hown : s.vm.findClass RX8 = some m.cls := hown
  have hl : lv_has ls 6 [(0, .ref (a 0)), (1, .int p1), (2, .int p2)] := hl
  unfold fX8_mayCome at hf
  refine lv_aload_n hx hb dX8_mayCome_0 rfl (lv_at hl 0 rfl) ?_
  refine lv_iload_n hx hb dX8_mayCome_1 rfl (lv_at hl 1 rfl) ?_
  obtain ⟨r_1, hr_1, hf⟩ := bd_some hf
  refine cx_runW (cx_V (As := [.int p1]) (rest := []) ⟨hx, hb, hml, hown, hts⟩ (ctX8_cellAt l z dC dI cI cB cE a v_boards v_kind v_rows v_outer v_inner v_content v_boxes v_rowOf v_columnOf v_seen v_seenWhat v_seenCan v_pageLength v_page v_isWhole v_newKind v_newRows v_newOuter v_newInner v_newContent v_now v_left v_box v_isCounted v_counted v_given v_isTermed v_terms v_term v_shape v_readBoxes v_readRow v_readColumn v_grid v_often v_seedNow v_isKept v_keptBoard v_keptKind v_keptRows v_keptSeen v_keptOuter v_keptInner v_keptContent v_keptWhat v_keptCan v_h p1 r_1 hr_1) (cwV 1 hts gX8_mayCome_X8_cellAt rfl rfl rfl (by decide +kernel) ⟨Nat.le_of_ble_eq_true rfl, Nat.le_of_ble_eq_true rfl⟩) hK hP hD hZ hS hA (ci := 8) (q0 := 0) rfl rfl rfl hl.1 rfl (Nat.le_of_ble_eq_true rfl) dX8_mayCome_2) hD hS hA [.int r_1] rfl (fun H locs hP hD hS => ?_)
  refine lv_istore_n (lv' := [(3, .int r_1), (0, .ref (a 0)), (1, .int p1), (2, .int p2)]) hx hb dX8_mayCome_5 rfl hl (by decide) rfl (fun ls hl => ?_)
  refine lv_aload_n hx hb dX8_mayCome_6 rfl (lv_at hl 1 rfl) ?_
  refine va_get (D := (dC, dI)) (ci := 8) (C := RX8) (T := TX8) (N := 47) hx hb hts (fun _ h => List.mem_cons_of_mem _ (List.mem_append_right _ h)) hown hK hP 0 rfl rfl 34 (by decide) (hts (.fieldLink RX8 68 "SkewBoardModel" "often" "[I") (List.mem_of_getElem? (i := 1) rfl)) (fun _ h9 => h9) rfl dX8_mayCome_7 ?_
  refine lv_iload_n hx hb dX8_mayCome_10 rfl (lv_at hl 3 rfl) ?_
  obtain ⟨g_2, hf⟩ := gd_some hf
  refine va_iald hx hb hK hP 20 0 rfl rfl (inb_vp g_2) dX8_mayCome_11 ?_
  refine lv_aload_n hx hb dX8_mayCome_12 rfl (lv_at hl 1 rfl) ?_
  refine va_get (D := (dC, dI)) (ci := 8) (C := RX8) (T := TX8) (N := 47) hx hb hts (fun _ h => List.mem_cons_of_mem _ (List.mem_append_right _ h)) hown hK hP 0 rfl rfl 5 (by decide) (hts (.fieldLink RX8 16 "SkewBoardModel" "content" "[I") (List.mem_of_getElem? (i := 2) rfl)) (fun _ h9 => h9) rfl dX8_mayCome_13 ?_
  refine lv_iload_n hx hb dX8_mayCome_16 rfl (lv_at hl 3 rfl) ?_
  refine lv_iconst (v := 1) hx hb dX8_mayCome_17 (by decide) ?_
  refine lv_isub hx hb dX8_mayCome_18 ?_
  obtain ⟨g_3, hf⟩ := gd_some hf
  refine va_iald hx hb hK hP 3 0 rfl rfl (inb_vp g_3) dX8_mayCome_19 ?_
  have J50 : ∀ (y0_50 : Int32), fX8_mayCome_J50 v_shape v_readRow v_readColumn v_grid p1 p2 r_1 y0_50 = some fin → ∀ (H : Heap) (locs : List Loc), va_P (dC, dI) vwCl (wX8 cI cB cE a v_boards v_kind v_rows v_outer v_inner v_content v_boxes v_rowOf v_columnOf v_seen v_seenWhat v_seenCan v_pageLength v_page v_isWhole v_newKind v_newRows v_newOuter v_newInner v_newContent v_now v_left v_box v_isCounted v_counted v_given v_isTermed v_terms v_term v_shape v_readBoxes v_readRow v_readColumn v_grid v_often v_seedNow v_isKept v_keptBoard v_keptKind v_keptRows v_keptSeen v_keptOuter v_keptInner v_keptContent v_keptWhat v_keptCan v_h) H → va_D A (wX8 cI cB cE a v_boards v_kind v_rows v_outer v_inner v_content v_boxes v_rowOf v_columnOf v_seen v_seenWhat v_seenCan v_pageLength v_page v_isWhole v_newKind v_newRows v_newOuter v_newInner v_newContent v_now v_left v_box v_isCounted v_counted v_given v_isTermed v_terms v_term v_shape v_readBoxes v_readRow v_readColumn v_grid v_often v_seedNow v_isKept v_keptBoard v_keptKind v_keptRows v_keptSeen v_keptOuter v_keptInner v_keptContent v_keptWhat v_keptCan v_h) → va_S A s.heap H locs → ∀ (ls : Array Slot), lv_has ls 6 [(0, .ref (a 0)), (1, .int p1), (2, .int p2), (3, .int r_1)] → W p l e rmX8_mayCome s m args below meth c H locs 0 0 Q (F0 m 50 ls [.int y0_50]) := by
    intro y0_50 hf H locs hP hD hS ls hl
    unfold fX8_mayCome_J50 at hf
    refine lv_istore (lv' := [(4, .int y0_50), (0, .ref (a 0)), (1, .int p1), (2, .int p2), (3, .int r_1)]) hx hb dX8_mayCome_50 hl (by decide) rfl (fun ls hl => ?_)
    refine lv_aload_n hx hb dX8_mayCome_52 rfl (lv_at hl 1 rfl) ?_
    refine va_get (D := (dC, dI)) (ci := 8) (C := RX8) (T := TX8) (N := 47) hx hb hts (fun _ h => List.mem_cons_of_mem _ (List.mem_append_right _ h)) hown hK hP 0 rfl rfl 32 (by decide) (hts (.fieldLink RX8 62 "SkewBoardModel" "readColumn" "[I") (List.mem_of_getElem? (i := 3) rfl)) (fun _ h9 => h9) rfl dX8_mayCome_53 ?_
    refine lv_iload_n hx hb dX8_mayCome_56 rfl (lv_at hl 2 rfl) ?_
    obtain ⟨g_4, hf⟩ := gd_some hf
    refine va_iald hx hb hK hP 18 0 rfl rfl (inb_vp g_4) dX8_mayCome_57 ?_
    refine lv_aload_n hx hb dX8_mayCome_58 rfl (lv_at hl 1 rfl) ?_
    refine va_get (D := (dC, dI)) (ci := 8) (C := RX8) (T := TX8) (N := 47) hx hb hts (fun _ h => List.mem_cons_of_mem _ (List.mem_append_right _ h)) hown hK hP 0 rfl rfl 29 (by decide) (hts (.fieldLink RX8 56 "SkewBoardModel" "shape" "[I") (List.mem_of_getElem? (i := 4) rfl)) (fun _ h9 => h9) rfl dX8_mayCome_59 ?_
    refine lv_aload_n hx hb dX8_mayCome_62 rfl (lv_at hl 1 rfl) ?_
    refine va_get (D := (dC, dI)) (ci := 8) (C := RX8) (T := TX8) (N := 47) hx hb hts (fun _ h => List.mem_cons_of_mem _ (List.mem_append_right _ h)) hown hK hP 0 rfl rfl 31 (by decide) (hts (.fieldLink RX8 59 "SkewBoardModel" "readRow" "[I") (List.mem_of_getElem? (i := 5) rfl)) (fun _ h9 => h9) rfl dX8_mayCome_63 ?_
    refine lv_iload_n hx hb dX8_mayCome_66 rfl (lv_at hl 2 rfl) ?_
    refine va_iald hx hb hK hP 17 0 rfl rfl (inb_vp g_4) dX8_mayCome_67 ?_
    obtain ⟨g_5, hf⟩ := gd_some hf
    refine va_iald hx hb hK hP 16 0 rfl rfl (inb_vp g_5) dX8_mayCome_68 ?_
    refine lv_iconst (v := 1) hx hb dX8_mayCome_69 (by decide) ?_
    refine lv_isub hx hb dX8_mayCome_70 ?_
    have J79 : ∀ (y0_79 : Int32), fX8_mayCome_J79 v_readRow v_grid p1 p2 r_1 y0_50 y0_79 = some fin → ∀ (H : Heap) (locs : List Loc), va_P (dC, dI) vwCl (wX8 cI cB cE a v_boards v_kind v_rows v_outer v_inner v_content v_boxes v_rowOf v_columnOf v_seen v_seenWhat v_seenCan v_pageLength v_page v_isWhole v_newKind v_newRows v_newOuter v_newInner v_newContent v_now v_left v_box v_isCounted v_counted v_given v_isTermed v_terms v_term v_shape v_readBoxes v_readRow v_readColumn v_grid v_often v_seedNow v_isKept v_keptBoard v_keptKind v_keptRows v_keptSeen v_keptOuter v_keptInner v_keptContent v_keptWhat v_keptCan v_h) H → va_D A (wX8 cI cB cE a v_boards v_kind v_rows v_outer v_inner v_content v_boxes v_rowOf v_columnOf v_seen v_seenWhat v_seenCan v_pageLength v_page v_isWhole v_newKind v_newRows v_newOuter v_newInner v_newContent v_now v_left v_box v_isCounted v_counted v_given v_isTermed v_terms v_term v_shape v_readBoxes v_readRow v_readColumn v_grid v_often v_seedNow v_isKept v_keptBoard v_keptKind v_keptRows v_keptSeen v_keptOuter v_keptInner v_keptContent v_keptWhat v_keptCan v_h) → va_S A s.heap H locs → ∀ (ls : Array Slot), lv_has ls 6 [(0, .ref (a 0)), (1, .int p1), (2, .int p2), (3, .int r_1), (4, .int y0_50)] → W p l e rmX8_mayCome s m args below meth c H locs 0 0 Q (F0 m 79 ls [.int y0_79]) := by
      intro y0_79 hf H locs hP hD hS ls hl
      unfold fX8_mayCome_J79 at hf
      refine lv_istore (lv' := [(5, .int y0_79), (0, .ref (a 0)), (1, .int p1), (2, .int p2), (3, .int r_1), (4, .int y0_50)]) hx hb dX8_mayCome_79 hl (by decide) rfl (fun ls hl => ?_)
      refine lv_iload hx hb dX8_mayCome_81 (lv_at hl 5 rfl) ?_
      have J108 : ∀ (y0_108 : Int32), fX8_mayCome_J108 v_readRow v_grid p1 p2 r_1 y0_108 = some fin → ∀ (H : Heap) (locs : List Loc), va_P (dC, dI) vwCl (wX8 cI cB cE a v_boards v_kind v_rows v_outer v_inner v_content v_boxes v_rowOf v_columnOf v_seen v_seenWhat v_seenCan v_pageLength v_page v_isWhole v_newKind v_newRows v_newOuter v_newInner v_newContent v_now v_left v_box v_isCounted v_counted v_given v_isTermed v_terms v_term v_shape v_readBoxes v_readRow v_readColumn v_grid v_often v_seedNow v_isKept v_keptBoard v_keptKind v_keptRows v_keptSeen v_keptOuter v_keptInner v_keptContent v_keptWhat v_keptCan v_h) H → va_D A (wX8 cI cB cE a v_boards v_kind v_rows v_outer v_inner v_content v_boxes v_rowOf v_columnOf v_seen v_seenWhat v_seenCan v_pageLength v_page v_isWhole v_newKind v_newRows v_newOuter v_newInner v_newContent v_now v_left v_box v_isCounted v_counted v_given v_isTermed v_terms v_term v_shape v_readBoxes v_readRow v_readColumn v_grid v_often v_seedNow v_isKept v_keptBoard v_keptKind v_keptRows v_keptSeen v_keptOuter v_keptInner v_keptContent v_keptWhat v_keptCan v_h) → va_S A s.heap H locs → ∀ (ls : Array Slot), lv_has ls 6 [(0, .ref (a 0)), (1, .int p1), (2, .int p2), (3, .int r_1)] → W p l e rmX8_mayCome s m args below meth c H locs 0 0 Q (F0 m 108 ls [.int y0_108]) := by
        intro y0_108 hf H locs hP hD hS ls hl
        unfold fX8_mayCome_J108 at hf
        refine lv_istore (lv' := [(4, .int y0_108), (0, .ref (a 0)), (1, .int p1), (2, .int p2), (3, .int r_1)]) hx hb dX8_mayCome_108 hl (by decide) rfl (fun ls hl => ?_)
        refine lv_iload hx hb dX8_mayCome_110 (lv_at hl 0 rfl) ?_
        have J154 : ∀ (y0_154 : Int32), fX8_mayCome_J154  y0_154 = some fin → ∀ (H : Heap) (locs : List Loc), va_P (dC, dI) vwCl (wX8 cI cB cE a v_boards v_kind v_rows v_outer v_inner v_content v_boxes v_rowOf v_columnOf v_seen v_seenWhat v_seenCan v_pageLength v_page v_isWhole v_newKind v_newRows v_newOuter v_newInner v_newContent v_now v_left v_box v_isCounted v_counted v_given v_isTermed v_terms v_term v_shape v_readBoxes v_readRow v_readColumn v_grid v_often v_seedNow v_isKept v_keptBoard v_keptKind v_keptRows v_keptSeen v_keptOuter v_keptInner v_keptContent v_keptWhat v_keptCan v_h) H → va_D A (wX8 cI cB cE a v_boards v_kind v_rows v_outer v_inner v_content v_boxes v_rowOf v_columnOf v_seen v_seenWhat v_seenCan v_pageLength v_page v_isWhole v_newKind v_newRows v_newOuter v_newInner v_newContent v_now v_left v_box v_isCounted v_counted v_given v_isTermed v_terms v_term v_shape v_readBoxes v_readRow v_readColumn v_grid v_often v_seedNow v_isKept v_keptBoard v_keptKind v_keptRows v_keptSeen v_keptOuter v_keptInner v_keptContent v_keptWhat v_keptCan v_h) → va_S A s.heap H locs → ∀ (ls : Array Slot), lv_has ls 6 [] → W p l e rmX8_mayCome s m args below meth c H locs 0 0 Q (F0 m 154 ls [.int y0_154]) := by
          intro y0_154 hf H locs hP hD hS ls hl
          unfold fX8_mayCome_J154 at hf
          obtain ⟨g_6, hf⟩ := gd_some hf
          have hQ2 := hQ
          rw [← Option.some.inj hf] at hQ2
          exact cx_zret (isb_nar g_6) hQ2 hx hb hr hlocks hK hP hD hS dX8_mayCome_154
        have J153 : ∀ (u_153 : Unit), fX8_mayCome_J153 (fX8_mayCome_J154) u_153 = some fin → ∀ (H : Heap) (locs : List Loc), va_P (dC, dI) vwCl (wX8 cI cB cE a v_boards v_kind v_rows v_outer v_inner v_content v_boxes v_rowOf v_columnOf v_seen v_seenWhat v_seenCan v_pageLength v_page v_isWhole v_newKind v_newRows v_newOuter v_newInner v_newContent v_now v_left v_box v_isCounted v_counted v_given v_isTermed v_terms v_term v_shape v_readBoxes v_readRow v_readColumn v_grid v_often v_seedNow v_isKept v_keptBoard v_keptKind v_keptRows v_keptSeen v_keptOuter v_keptInner v_keptContent v_keptWhat v_keptCan v_h) H → va_D A (wX8 cI cB cE a v_boards v_kind v_rows v_outer v_inner v_content v_boxes v_rowOf v_columnOf v_seen v_seenWhat v_seenCan v_pageLength v_page v_isWhole v_newKind v_newRows v_newOuter v_newInner v_newContent v_now v_left v_box v_isCounted v_counted v_given v_isTermed v_terms v_term v_shape v_readBoxes v_readRow v_readColumn v_grid v_often v_seedNow v_isKept v_keptBoard v_keptKind v_keptRows v_keptSeen v_keptOuter v_keptInner v_keptContent v_keptWhat v_keptCan v_h) → va_S A s.heap H locs → ∀ (ls : Array Slot), lv_has ls 6 [] → W p l e rmX8_mayCome s m args below meth c H locs 0 0 Q (F0 m 153 ls []) := by
          intro u_153 hf H locs hP hD hS ls hl
          unfold fX8_mayCome_J153 at hf
          refine lv_iconst (v := 0) hx hb dX8_mayCome_153 (by decide) ?_
          exact J154 0 hf _ _ hP hD hS ls (lv_sub hl [] rfl)
        refine lv_if_eq (tgt := 153) hx hb dX8_mayCome_112 (by decide) (fun c_7 => ?_) (fun c_7 => ?_)
        · rw [if_pos c_7] at hf
          exact J153 () hf _ _ hP hD hS ls (lv_sub hl [] rfl)
        · rw [if_neg c_7] at hf
          refine lv_aload_n hx hb dX8_mayCome_115 rfl (lv_at hl 1 rfl) ?_
          refine va_get (D := (dC, dI)) (ci := 8) (C := RX8) (T := TX8) (N := 47) hx hb hts (fun _ h => List.mem_cons_of_mem _ (List.mem_append_right _ h)) hown hK hP 0 rfl rfl 31 (by decide) (hts (.fieldLink RX8 59 "SkewBoardModel" "readRow" "[I") (List.mem_of_getElem? (i := 5) rfl)) (fun _ h9 => h9) rfl dX8_mayCome_116 ?_
          refine lv_iload_n hx hb dX8_mayCome_119 rfl (lv_at hl 2 rfl) ?_
          refine va_iald hx hb hK hP 17 0 rfl rfl (inb_vp g_4) dX8_mayCome_120 ?_
          have J149 : ∀ (u_149 : Unit), fX8_mayCome_J149 (fX8_mayCome_J154) u_149 = some fin → ∀ (H : Heap) (locs : List Loc), va_P (dC, dI) vwCl (wX8 cI cB cE a v_boards v_kind v_rows v_outer v_inner v_content v_boxes v_rowOf v_columnOf v_seen v_seenWhat v_seenCan v_pageLength v_page v_isWhole v_newKind v_newRows v_newOuter v_newInner v_newContent v_now v_left v_box v_isCounted v_counted v_given v_isTermed v_terms v_term v_shape v_readBoxes v_readRow v_readColumn v_grid v_often v_seedNow v_isKept v_keptBoard v_keptKind v_keptRows v_keptSeen v_keptOuter v_keptInner v_keptContent v_keptWhat v_keptCan v_h) H → va_D A (wX8 cI cB cE a v_boards v_kind v_rows v_outer v_inner v_content v_boxes v_rowOf v_columnOf v_seen v_seenWhat v_seenCan v_pageLength v_page v_isWhole v_newKind v_newRows v_newOuter v_newInner v_newContent v_now v_left v_box v_isCounted v_counted v_given v_isTermed v_terms v_term v_shape v_readBoxes v_readRow v_readColumn v_grid v_often v_seedNow v_isKept v_keptBoard v_keptKind v_keptRows v_keptSeen v_keptOuter v_keptInner v_keptContent v_keptWhat v_keptCan v_h) → va_S A s.heap H locs → ∀ (ls : Array Slot), lv_has ls 6 [] → W p l e rmX8_mayCome s m args below meth c H locs 0 0 Q (F0 m 149 ls []) := by
            intro u_149 hf H locs hP hD hS ls hl
            unfold fX8_mayCome_J149 at hf
            refine lv_iconst (v := 1) hx hb dX8_mayCome_149 (by decide) ?_
            refine lv_goto (tgt := 154) hx hb dX8_mayCome_150 (by decide) ?_
            exact J154 1 hf _ _ hP hD hS ls (lv_sub hl [] rfl)
          refine lv_if_eq (tgt := 149) hx hb dX8_mayCome_121 (by decide) (fun c_8 => ?_) (fun c_8 => ?_)
          · rw [if_pos c_8] at hf
            exact J149 () hf _ _ hP hD hS ls (lv_sub hl [] rfl)
          · rw [if_neg c_8] at hf
            refine lv_aload_n hx hb dX8_mayCome_124 rfl (lv_at hl 1 rfl) ?_
            refine va_get (D := (dC, dI)) (ci := 8) (C := RX8) (T := TX8) (N := 47) hx hb hts (fun _ h => List.mem_cons_of_mem _ (List.mem_append_right _ h)) hown hK hP 0 rfl rfl 33 (by decide) (hts (.fieldLink RX8 65 "SkewBoardModel" "grid" "[I") (List.mem_of_getElem? (i := 6) rfl)) (fun _ h9 => h9) rfl dX8_mayCome_125 ?_
            refine lv_iload_n hx hb dX8_mayCome_128 rfl (lv_at hl 4 rfl) ?_
            refine lv_bipush (v := 15) hx hb dX8_mayCome_129 (by decide) ?_
            refine lv_isub hx hb dX8_mayCome_131 ?_
            obtain ⟨g_9, hf⟩ := gd_some hf
            refine va_iald hx hb hK hP 19 0 rfl rfl (inb_vp g_9) dX8_mayCome_132 ?_
            refine lv_if_eq (tgt := 149) hx hb dX8_mayCome_133 (by decide) (fun c_10 => ?_) (fun c_10 => ?_)
            · rw [if_pos c_10] at hf
              exact J149 () hf _ _ hP hD hS ls (lv_sub hl [] rfl)
            · rw [if_neg c_10] at hf
              refine lv_aload_n hx hb dX8_mayCome_136 rfl (lv_at hl 1 rfl) ?_
              refine va_get (D := (dC, dI)) (ci := 8) (C := RX8) (T := TX8) (N := 47) hx hb hts (fun _ h => List.mem_cons_of_mem _ (List.mem_append_right _ h)) hown hK hP 0 rfl rfl 33 (by decide) (hts (.fieldLink RX8 65 "SkewBoardModel" "grid" "[I") (List.mem_of_getElem? (i := 6) rfl)) (fun _ h9 => h9) rfl dX8_mayCome_137 ?_
              refine lv_iload_n hx hb dX8_mayCome_140 rfl (lv_at hl 4 rfl) ?_
              refine lv_bipush (v := 15) hx hb dX8_mayCome_141 (by decide) ?_
              refine lv_isub hx hb dX8_mayCome_143 ?_
              refine va_iald hx hb hK hP 19 0 rfl rfl (inb_vp g_9) dX8_mayCome_144 ?_
              refine lv_iload_n hx hb dX8_mayCome_145 rfl (lv_at hl 3 rfl) ?_
              refine lv_icmp_ge (tgt := 153) hx hb dX8_mayCome_146 (by decide) (fun c_11 => ?_) (fun c_11 => ?_)
              · rw [if_pos c_11] at hf
                exact J153 () hf _ _ hP hD hS ls (lv_sub hl [] rfl)
              · rw [if_neg c_11] at hf
                exact J149 () hf _ _ hP hD hS ls (lv_sub hl [] rfl)
      have J107 : ∀ (u_107 : Unit), fX8_mayCome_J107 (fX8_mayCome_J108 v_readRow v_grid p1 p2 r_1) u_107 = some fin → ∀ (H : Heap) (locs : List Loc), va_P (dC, dI) vwCl (wX8 cI cB cE a v_boards v_kind v_rows v_outer v_inner v_content v_boxes v_rowOf v_columnOf v_seen v_seenWhat v_seenCan v_pageLength v_page v_isWhole v_newKind v_newRows v_newOuter v_newInner v_newContent v_now v_left v_box v_isCounted v_counted v_given v_isTermed v_terms v_term v_shape v_readBoxes v_readRow v_readColumn v_grid v_often v_seedNow v_isKept v_keptBoard v_keptKind v_keptRows v_keptSeen v_keptOuter v_keptInner v_keptContent v_keptWhat v_keptCan v_h) H → va_D A (wX8 cI cB cE a v_boards v_kind v_rows v_outer v_inner v_content v_boxes v_rowOf v_columnOf v_seen v_seenWhat v_seenCan v_pageLength v_page v_isWhole v_newKind v_newRows v_newOuter v_newInner v_newContent v_now v_left v_box v_isCounted v_counted v_given v_isTermed v_terms v_term v_shape v_readBoxes v_readRow v_readColumn v_grid v_often v_seedNow v_isKept v_keptBoard v_keptKind v_keptRows v_keptSeen v_keptOuter v_keptInner v_keptContent v_keptWhat v_keptCan v_h) → va_S A s.heap H locs → ∀ (ls : Array Slot), lv_has ls 6 [(0, .ref (a 0)), (1, .int p1), (2, .int p2), (3, .int r_1)] → W p l e rmX8_mayCome s m args below meth c H locs 0 0 Q (F0 m 107 ls []) := by
        intro u_107 hf H locs hP hD hS ls hl
        unfold fX8_mayCome_J107 at hf
        refine lv_iconst (v := 0) hx hb dX8_mayCome_107 (by decide) ?_
        exact J108 0 hf _ _ hP hD hS ls (lv_sub hl [0, 1, 2, 3] rfl)
      refine lv_if_eq (tgt := 107) hx hb dX8_mayCome_83 (by decide) (fun c_12 => ?_) (fun c_12 => ?_)
      · rw [if_pos c_12] at hf
        exact J107 () hf _ _ hP hD hS ls (lv_sub hl [1, 2, 3, 4] rfl)
      · rw [if_neg c_12] at hf
        refine lv_iload hx hb dX8_mayCome_86 (lv_at hl 0 rfl) ?_
        have J103 : ∀ (u_103 : Unit), fX8_mayCome_J103 (fX8_mayCome_J108 v_readRow v_grid p1 p2 r_1) u_103 = some fin → ∀ (H : Heap) (locs : List Loc), va_P (dC, dI) vwCl (wX8 cI cB cE a v_boards v_kind v_rows v_outer v_inner v_content v_boxes v_rowOf v_columnOf v_seen v_seenWhat v_seenCan v_pageLength v_page v_isWhole v_newKind v_newRows v_newOuter v_newInner v_newContent v_now v_left v_box v_isCounted v_counted v_given v_isTermed v_terms v_term v_shape v_readBoxes v_readRow v_readColumn v_grid v_often v_seedNow v_isKept v_keptBoard v_keptKind v_keptRows v_keptSeen v_keptOuter v_keptInner v_keptContent v_keptWhat v_keptCan v_h) H → va_D A (wX8 cI cB cE a v_boards v_kind v_rows v_outer v_inner v_content v_boxes v_rowOf v_columnOf v_seen v_seenWhat v_seenCan v_pageLength v_page v_isWhole v_newKind v_newRows v_newOuter v_newInner v_newContent v_now v_left v_box v_isCounted v_counted v_given v_isTermed v_terms v_term v_shape v_readBoxes v_readRow v_readColumn v_grid v_often v_seedNow v_isKept v_keptBoard v_keptKind v_keptRows v_keptSeen v_keptOuter v_keptInner v_keptContent v_keptWhat v_keptCan v_h) → va_S A s.heap H locs → ∀ (ls : Array Slot), lv_has ls 6 [(0, .ref (a 0)), (1, .int p1), (2, .int p2), (3, .int r_1)] → W p l e rmX8_mayCome s m args below meth c H locs 0 0 Q (F0 m 103 ls []) := by
          intro u_103 hf H locs hP hD hS ls hl
          unfold fX8_mayCome_J103 at hf
          refine lv_iconst (v := 1) hx hb dX8_mayCome_103 (by decide) ?_
          refine lv_goto (tgt := 108) hx hb dX8_mayCome_104 (by decide) ?_
          exact J108 1 hf _ _ hP hD hS ls (lv_sub hl [0, 1, 2, 3] rfl)
        refine lv_if_ne (tgt := 103) hx hb dX8_mayCome_88 (by decide) (fun c_13 => ?_) (fun c_13 => ?_)
        · rw [if_neg c_13] at hf
          exact J103 () hf _ _ hP hD hS ls (lv_sub hl [1, 2, 3, 4] rfl)
        · rw [if_pos c_13] at hf
          refine lv_iload_n hx hb dX8_mayCome_91 rfl (lv_at hl 3 rfl) ?_
          refine lv_aload_n hx hb dX8_mayCome_92 rfl (lv_at hl 1 rfl) ?_
          refine va_get (D := (dC, dI)) (ci := 8) (C := RX8) (T := TX8) (N := 47) hx hb hts (fun _ h => List.mem_cons_of_mem _ (List.mem_append_right _ h)) hown hK hP 0 rfl rfl 33 (by decide) (hts (.fieldLink RX8 65 "SkewBoardModel" "grid" "[I") (List.mem_of_getElem? (i := 6) rfl)) (fun _ h9 => h9) rfl dX8_mayCome_93 ?_
          refine lv_iload_n hx hb dX8_mayCome_96 rfl (lv_at hl 4 rfl) ?_
          refine lv_iconst (v := 1) hx hb dX8_mayCome_97 (by decide) ?_
          refine lv_iadd hx hb dX8_mayCome_98 ?_
          obtain ⟨g_14, hf⟩ := gd_some hf
          refine va_iald hx hb hK hP 19 0 rfl rfl (inb_vp g_14) dX8_mayCome_99 ?_
          refine lv_icmp_gt (tgt := 107) hx hb dX8_mayCome_100 (by decide) (fun c_15 => ?_) (fun c_15 => ?_)
          · rw [if_pos c_15] at hf
            exact J107 () hf _ _ hP hD hS ls (lv_sub hl [1, 2, 3, 4] rfl)
          · rw [if_neg c_15] at hf
            exact J103 () hf _ _ hP hD hS ls (lv_sub hl [1, 2, 3, 4] rfl)
    refine lv_icmp_ne (tgt := 78) hx hb dX8_mayCome_71 (by decide) (fun c_16 => ?_) (fun c_16 => ?_)
    · rw [if_neg c_16] at hf
      refine lv_iconst (v := 0) hx hb dX8_mayCome_78 (by decide) ?_
      exact J79 0 hf _ _ hP hD hS ls (lv_sub hl [1, 2, 3, 4, 0] rfl)
    · rw [if_pos c_16] at hf
      refine lv_iconst (v := 1) hx hb dX8_mayCome_74 (by decide) ?_
      refine lv_goto (tgt := 79) hx hb dX8_mayCome_75 (by decide) ?_
      exact J79 1 hf _ _ hP hD hS ls (lv_sub hl [1, 2, 3, 4, 0] rfl)
  have J49 : ∀ (u_49 : Unit), fX8_mayCome_J49 (fX8_mayCome_J50 v_shape v_readRow v_readColumn v_grid p1 p2 r_1) u_49 = some fin → ∀ (H : Heap) (locs : List Loc), va_P (dC, dI) vwCl (wX8 cI cB cE a v_boards v_kind v_rows v_outer v_inner v_content v_boxes v_rowOf v_columnOf v_seen v_seenWhat v_seenCan v_pageLength v_page v_isWhole v_newKind v_newRows v_newOuter v_newInner v_newContent v_now v_left v_box v_isCounted v_counted v_given v_isTermed v_terms v_term v_shape v_readBoxes v_readRow v_readColumn v_grid v_often v_seedNow v_isKept v_keptBoard v_keptKind v_keptRows v_keptSeen v_keptOuter v_keptInner v_keptContent v_keptWhat v_keptCan v_h) H → va_D A (wX8 cI cB cE a v_boards v_kind v_rows v_outer v_inner v_content v_boxes v_rowOf v_columnOf v_seen v_seenWhat v_seenCan v_pageLength v_page v_isWhole v_newKind v_newRows v_newOuter v_newInner v_newContent v_now v_left v_box v_isCounted v_counted v_given v_isTermed v_terms v_term v_shape v_readBoxes v_readRow v_readColumn v_grid v_often v_seedNow v_isKept v_keptBoard v_keptKind v_keptRows v_keptSeen v_keptOuter v_keptInner v_keptContent v_keptWhat v_keptCan v_h) → va_S A s.heap H locs → ∀ (ls : Array Slot), lv_has ls 6 [(0, .ref (a 0)), (1, .int p1), (2, .int p2), (3, .int r_1)] → W p l e rmX8_mayCome s m args below meth c H locs 0 0 Q (F0 m 49 ls []) := by
    intro u_49 hf H locs hP hD hS ls hl
    unfold fX8_mayCome_J49 at hf
    refine lv_iconst (v := 0) hx hb dX8_mayCome_49 (by decide) ?_
    exact J50 0 hf _ _ hP hD hS ls (lv_sub hl [0, 1, 2, 3] rfl)
  refine lv_icmp_ge (tgt := 49) hx hb dX8_mayCome_20 (by decide) (fun c_17 => ?_) (fun c_17 => ?_)
  · rw [if_pos c_17] at hf
    exact J49 () hf _ _ hP hD hS ls (lv_sub hl [1, 2, 3, 0] rfl)
  · rw [if_neg c_17] at hf
    refine lv_iload_n hx hb dX8_mayCome_23 rfl (lv_at hl 3 rfl) ?_
    refine lv_iconst (v := 1) hx hb dX8_mayCome_24 (by decide) ?_
    have J45 : ∀ (u_45 : Unit), fX8_mayCome_J45 (fX8_mayCome_J50 v_shape v_readRow v_readColumn v_grid p1 p2 r_1) u_45 = some fin → ∀ (H : Heap) (locs : List Loc), va_P (dC, dI) vwCl (wX8 cI cB cE a v_boards v_kind v_rows v_outer v_inner v_content v_boxes v_rowOf v_columnOf v_seen v_seenWhat v_seenCan v_pageLength v_page v_isWhole v_newKind v_newRows v_newOuter v_newInner v_newContent v_now v_left v_box v_isCounted v_counted v_given v_isTermed v_terms v_term v_shape v_readBoxes v_readRow v_readColumn v_grid v_often v_seedNow v_isKept v_keptBoard v_keptKind v_keptRows v_keptSeen v_keptOuter v_keptInner v_keptContent v_keptWhat v_keptCan v_h) H → va_D A (wX8 cI cB cE a v_boards v_kind v_rows v_outer v_inner v_content v_boxes v_rowOf v_columnOf v_seen v_seenWhat v_seenCan v_pageLength v_page v_isWhole v_newKind v_newRows v_newOuter v_newInner v_newContent v_now v_left v_box v_isCounted v_counted v_given v_isTermed v_terms v_term v_shape v_readBoxes v_readRow v_readColumn v_grid v_often v_seedNow v_isKept v_keptBoard v_keptKind v_keptRows v_keptSeen v_keptOuter v_keptInner v_keptContent v_keptWhat v_keptCan v_h) → va_S A s.heap H locs → ∀ (ls : Array Slot), lv_has ls 6 [(0, .ref (a 0)), (1, .int p1), (2, .int p2), (3, .int r_1)] → W p l e rmX8_mayCome s m args below meth c H locs 0 0 Q (F0 m 45 ls []) := by
      intro u_45 hf H locs hP hD hS ls hl
      unfold fX8_mayCome_J45 at hf
      refine lv_iconst (v := 1) hx hb dX8_mayCome_45 (by decide) ?_
      refine lv_goto (tgt := 50) hx hb dX8_mayCome_46 (by decide) ?_
      exact J50 1 hf _ _ hP hD hS ls (lv_sub hl [0, 1, 2, 3] rfl)
    refine lv_icmp_eq (tgt := 45) hx hb dX8_mayCome_25 (by decide) (fun c_18 => ?_) (fun c_18 => ?_)
    · rw [if_pos c_18] at hf
      exact J45 () hf _ _ hP hD hS ls (lv_sub hl [1, 2, 3, 0] rfl)
    · rw [if_neg c_18] at hf
      refine lv_aload_n hx hb dX8_mayCome_28 rfl (lv_at hl 1 rfl) ?_
      refine va_get (D := (dC, dI)) (ci := 8) (C := RX8) (T := TX8) (N := 47) hx hb hts (fun _ h => List.mem_cons_of_mem _ (List.mem_append_right _ h)) hown hK hP 0 rfl rfl 34 (by decide) (hts (.fieldLink RX8 68 "SkewBoardModel" "often" "[I") (List.mem_of_getElem? (i := 1) rfl)) (fun _ h9 => h9) rfl dX8_mayCome_29 ?_
      refine lv_iload_n hx hb dX8_mayCome_32 rfl (lv_at hl 3 rfl) ?_
      refine va_iald hx hb hK hP 20 0 rfl rfl (inb_vp g_2) dX8_mayCome_33 ?_
      refine lv_aload_n hx hb dX8_mayCome_34 rfl (lv_at hl 1 rfl) ?_
      refine va_get (D := (dC, dI)) (ci := 8) (C := RX8) (T := TX8) (N := 47) hx hb hts (fun _ h => List.mem_cons_of_mem _ (List.mem_append_right _ h)) hown hK hP 0 rfl rfl 34 (by decide) (hts (.fieldLink RX8 68 "SkewBoardModel" "often" "[I") (List.mem_of_getElem? (i := 1) rfl)) (fun _ h9 => h9) rfl dX8_mayCome_35 ?_
      refine lv_iload_n hx hb dX8_mayCome_38 rfl (lv_at hl 3 rfl) ?_
      refine lv_iconst (v := 1) hx hb dX8_mayCome_39 (by decide) ?_
      refine lv_isub hx hb dX8_mayCome_40 ?_
      obtain ⟨g_19, hf⟩ := gd_some hf
      refine va_iald hx hb hK hP 20 0 rfl rfl (inb_vp g_19) dX8_mayCome_41 ?_
      refine lv_icmp_ge (tgt := 49) hx hb dX8_mayCome_42 (by decide) (fun c_20 => ?_) (fun c_20 => ?_)
      · rw [if_pos c_20] at hf
        exact J49 () hf _ _ hP hD hS ls (lv_sub hl [1, 2, 3, 0] rfl)
      · rw [if_neg c_20] at hf
        exact J45 () hf _ _ hP hD hS ls (lv_sub hl [1, 2, 3, 0] rfl)

def fX8_timesNow_J149 (v_grid_30 : Nat → Int32) (r_3 : Int32) (y2_106 : Int32) (k30 : Int32 → Int32 → (Nat → Int32) → (Nat → Int32) → Option (Int32 × Int32 × (Nat → Int32) × (Nat → Int32) × (Nat → Int32) × (Nat → Int32))) (x1_149 : Int32) (x2_149 : Int32) (v_often_149 : Nat → Int32) : Option (Int32 × Int32 × (Nat → Int32) × (Nat → Int32) × (Nat → Int32) × (Nat → Int32)) :=
    k30 x1_149 x2_149 (upd v_grid_30 r_3.toNatClampNeg y2_106) v_often_149
def fX8_timesNow_J106 (r_1 : Int32 × (Nat → Int32) × (Nat → Int32) × (Nat → Int32) × (Nat → Int32)) (x1_30 : Int32) (x2_30 : Int32) (v_grid_30 : Nat → Int32) (r_3 : Int32) (v_often_64 : Nat → Int32) (x4_89 : Int32) (k30 : Int32 → Int32 → (Nat → Int32) → (Nat → Int32) → Option (Int32 × Int32 × (Nat → Int32) × (Nat → Int32) × (Nat → Int32) × (Nat → Int32))) (y2_106 : Int32) : Option (Int32 × Int32 × (Nat → Int32) × (Nat → Int32) × (Nat → Int32) × (Nat → Int32)) :=
    if x4_89 ≤ 4 then (gd (inb x4_89 5) (if x2_30 = (r_1.1 - 1) then (fX8_timesNow_J149 v_grid_30 r_3 y2_106 k30 (x1_30 + 1) x2_30 (upd v_often_64 x4_89.toNatClampNeg ((v_often_64 x4_89.toNatClampNeg) + 1))) else (fX8_timesNow_J149 v_grid_30 r_3 y2_106 k30 x1_30 (x2_30 + 1) (upd v_often_64 x4_89.toNatClampNeg ((v_often_64 x4_89.toNatClampNeg) + 1))))) else (fX8_timesNow_J149 v_grid_30 r_3 y2_106 k30 x1_30 (x2_30 + (-1)) v_often_64)
def fX8_timesNow_J89 (r_1 : Int32 × (Nat → Int32) × (Nat → Int32) × (Nat → Int32) × (Nat → Int32)) (x1_30 : Int32) (x2_30 : Int32) (v_grid_30 : Nat → Int32) (r_3 : Int32) (v_often_64 : Nat → Int32) (k30 : Int32 → Int32 → (Nat → Int32) → (Nat → Int32) → Option (Int32 × Int32 × (Nat → Int32) × (Nat → Int32) × (Nat → Int32) × (Nat → Int32))) (x4_89 : Int32) : Option (Int32 × Int32 × (Nat → Int32) × (Nat → Int32) × (Nat → Int32) × (Nat → Int32)) :=
    fX8_timesNow_J106 r_1 x1_30 x2_30 v_grid_30 r_3 v_often_64 x4_89 k30 (if 4 < x4_89 then 0 else x4_89)
def fX8_timesNow_L67 (v_content : Nat → Int32) (v_shape : Nat → Int32) (r_1 : Int32 × (Nat → Int32) × (Nat → Int32) × (Nat → Int32) × (Nat → Int32)) (x2_30 : Int32) (v_grid_30 : Nat → Int32) (v_often_64 : Nat → Int32) (k89 : Int32 → Option (Int32 × Int32 × (Nat → Int32) × (Nat → Int32) × (Nat → Int32) × (Nat → Int32))) : Nat → Int32 → Option (Int32 × Int32 × (Nat → Int32) × (Nat → Int32) × (Nat → Int32) × (Nat → Int32))
  | 0, _ => none
  | n + 1, x4_67 =>
    if 4 < x4_67 then (k89 x4_67) else (bd (fX8_mayCome x2_30 x4_67 v_content v_shape r_1.2.1 r_1.2.2.1 v_grid_30 v_often_64) (fun r_10 => if r_10 = 0 then (fX8_timesNow_L67 v_content v_shape r_1 x2_30 v_grid_30 v_often_64 k89 n (x4_67 + 1)) else (k89 x4_67)))
def fX8_timesNow_J64 (v_content : Nat → Int32) (v_shape : Nat → Int32) (r_1 : Int32 × (Nat → Int32) × (Nat → Int32) × (Nat → Int32) × (Nat → Int32)) (x1_30 : Int32) (x2_30 : Int32) (v_grid_30 : Nat → Int32) (r_3 : Int32) (k30 : Int32 → Int32 → (Nat → Int32) → (Nat → Int32) → Option (Int32 × Int32 × (Nat → Int32) × (Nat → Int32) × (Nat → Int32) × (Nat → Int32))) (v_often_64 : Nat → Int32) : Option (Int32 × Int32 × (Nat → Int32) × (Nat → Int32) × (Nat → Int32) × (Nat → Int32)) :=
    fX8_timesNow_L67 v_content v_shape r_1 x2_30 v_grid_30 v_often_64 (fX8_timesNow_J89 r_1 x1_30 x2_30 v_grid_30 r_3 v_often_64 k30) fu ((v_grid_30 r_3.toNatClampNeg) + 1)
def fX8_timesNow_L30 (v_content : Nat → Int32) (v_shape : Nat → Int32) (r_1 : Int32 × (Nat → Int32) × (Nat → Int32) × (Nat → Int32) × (Nat → Int32)) : Nat → Int32 → Int32 → (Nat → Int32) → (Nat → Int32) → Option (Int32 × Int32 × (Nat → Int32) × (Nat → Int32) × (Nat → Int32) × (Nat → Int32))
  | 0, _, _, _, _ => none
  | n + 1, x1_30, x2_30, v_grid_30, v_often_30 =>
    if x2_30 < 0 then (some (x1_30, r_1.1, r_1.2.1, r_1.2.2.1, v_grid_30, v_often_30)) else (bd (fX8_cellAt x2_30 r_1.2.1 r_1.2.2.1) (fun r_3 => gd (inb r_3 60) (if (v_grid_30 r_3.toNatClampNeg) ≤ 0 then (fX8_timesNow_J64 v_content v_shape r_1 x1_30 x2_30 v_grid_30 r_3 (fX8_timesNow_L30 v_content v_shape r_1 n) v_often_30) else (gd (inb (v_grid_30 r_3.toNatClampNeg) 5) (fX8_timesNow_J64 v_content v_shape r_1 x1_30 x2_30 v_grid_30 r_3 (fX8_timesNow_L30 v_content v_shape r_1 n) (upd v_often_30 (v_grid_30 r_3.toNatClampNeg).toNatClampNeg ((v_often_30 (v_grid_30 r_3.toNatClampNeg).toNatClampNeg) - 1)))))))
def fX8_timesNow_J29 (v_content : Nat → Int32) (v_shape : Nat → Int32) (r_1 : Int32 × (Nat → Int32) × (Nat → Int32) × (Nat → Int32) × (Nat → Int32)) (y0_16 : Int32) (y0_29 : Int32) : Option (Int32 × Int32 × (Nat → Int32) × (Nat → Int32) × (Nat → Int32) × (Nat → Int32)) :=
    fX8_timesNow_L30 v_content v_shape r_1 fu y0_16 y0_29 r_1.2.2.2.1 r_1.2.2.2.2
def fX8_timesNow_J16 (v_content : Nat → Int32) (v_shape : Nat → Int32) (r_1 : Int32 × (Nat → Int32) × (Nat → Int32) × (Nat → Int32) × (Nat → Int32)) (y0_16 : Int32) : Option (Int32 × Int32 × (Nat → Int32) × (Nat → Int32) × (Nat → Int32) × (Nat → Int32)) :=
    fX8_timesNow_J29 v_content v_shape r_1 y0_16 (if r_1.1 = 0 then (-1) else 0)
def fX8_timesNow (v_inner : Nat → Int32) (v_content : Nat → Int32) (v_shape : Nat → Int32) (v_readRow : Nat → Int32) (v_readColumn : Nat → Int32) (v_grid : Nat → Int32) (v_often : Nat → Int32) : Option (Int32 × Int32 × (Nat → Int32) × (Nat → Int32) × (Nat → Int32) × (Nat → Int32)) :=
  bd (fX8_layReading v_inner v_shape v_readRow v_readColumn v_grid v_often) (fun r_1 => fX8_timesNow_J16 v_content v_shape r_1 (if r_1.1 = 0 then 1 else 0))
def rmX8_timesNow : Room := { frames := 2, cells := 0, slots := 0, locals := 46 }
set_option maxRecDepth 100000 in
set_option maxHeartbeats 4000000 in
theorem ctX8_timesNow (l : Launch) (z : Nat × Nat × Nat) (dC : Nat → ClassId) (dI : Nat → Nat → Nat) (cI cB cE : ClassId) (a : Nat → Nat) (v_boards : Int32) (v_kind : Int32) (v_rows : Int32) (v_outer : Nat → Int32) (v_inner : Nat → Int32) (v_content : Nat → Int32) (v_boxes : Int32) (v_rowOf : Nat → Int32) (v_columnOf : Nat → Int32) (v_seen : Int32) (v_seenWhat : Nat → Int32) (v_seenCan : Nat → Int32) (v_pageLength : Int32) (v_page : Nat → Int32) (v_isWhole : Int32) (v_newKind : Int32) (v_newRows : Int32) (v_newOuter : Nat → Int32) (v_newInner : Nat → Int32) (v_newContent : Nat → Int32) (v_now : Nat → Int32) (v_left : Nat → Int32) (v_box : Int32) (v_isCounted : Int32) (v_counted : Int32) (v_given : Nat → Int32) (v_isTermed : Int32) (v_terms : Int32) (v_term : Nat → Int32) (v_shape : Nat → Int32) (v_readBoxes : Int32) (v_readRow : Nat → Int32) (v_readColumn : Nat → Int32) (v_grid : Nat → Int32) (v_often : Nat → Int32) (v_seedNow : Int64) (v_isKept : Int32) (v_keptBoard : Int32) (v_keptKind : Int32) (v_keptRows : Int32) (v_keptSeen : Int32) (v_keptOuter : Nat → Int32) (v_keptInner : Nat → Int32) (v_keptContent : Nat → Int32) (v_keptWhat : Nat → Int32) (v_keptCan : Nat → Int32) (v_h : Int64) (fin : Int32 × Int32 × (Nat → Int32) × (Nat → Int32) × (Nat → Int32) × (Nat → Int32)) (hf : fX8_timesNow v_inner v_content v_shape v_readRow v_readColumn v_grid v_often = some fin) : Ct l z (dC, dI) (tyL cI cB cE) yX8_timesNow wsX8_timesNow rmX8_timesNow [.ref (a 0)] (wX8 cI cB cE a v_boards v_kind v_rows v_outer v_inner v_content v_boxes v_rowOf v_columnOf v_seen v_seenWhat v_seenCan v_pageLength v_page v_isWhole v_newKind v_newRows v_newOuter v_newInner v_newContent v_now v_left v_box v_isCounted v_counted v_given v_isTermed v_terms v_term v_shape v_readBoxes v_readRow v_readColumn v_grid v_often v_seedNow v_isKept v_keptBoard v_keptKind v_keptRows v_keptSeen v_keptOuter v_keptInner v_keptContent v_keptWhat v_keptCan v_h) (some (.int fin.1)) (wX8 cI cB cE a v_boards v_kind v_rows v_outer v_inner v_content v_boxes v_rowOf v_columnOf v_seen v_seenWhat v_seenCan v_pageLength v_page v_isWhole v_newKind v_newRows v_newOuter v_newInner v_newContent v_now v_left v_box v_isCounted v_counted v_given v_isTermed v_terms v_term v_shape fin.2.1 fin.2.2.1 fin.2.2.2.1 fin.2.2.2.2.1 fin.2.2.2.2.2 v_seedNow v_isKept v_keptBoard v_keptKind v_keptRows v_keptSeen v_keptOuter v_keptInner v_keptContent v_keptWhat v_keptCan v_h) := by
  refine Met.ofC (cc := cX8_timesNow) (maxL := 5) (ret := (some .int)) (by decide) rfl (Nat.le_of_ble_eq_true rfl) ?_
  intro p e s m args below meth c A Q ls hx hb hr hml hts hown hlocks hA hK hP hD hZ hS hQ hl
  have hown : s.vm.findClass RX8 = some m.cls := hown
  have hl : lv_has ls 5 [(0, .ref (a 0))] := hl
  unfold fX8_timesNow at hf
  refine lv_aload_n hx hb dX8_timesNow_0 rfl (lv_at hl 0 rfl) ?_
  obtain ⟨r_1, hr_1, hf⟩ := bd_some hf
  refine cx_runW (cx_V (As := []) (rest := []) ⟨hx, hb, hml, hown, hts⟩ (ctX8_layReading l z dC dI cI cB cE a v_boards v_kind v_rows v_outer v_inner v_content v_boxes v_rowOf v_columnOf v_seen v_seenWhat v_seenCan v_pageLength v_page v_isWhole v_newKind v_newRows v_newOuter v_newInner v_newContent v_now v_left v_box v_isCounted v_counted v_given v_isTermed v_terms v_term v_shape v_readBoxes v_readRow v_readColumn v_grid v_often v_seedNow v_isKept v_keptBoard v_keptKind v_keptRows v_keptSeen v_keptOuter v_keptInner v_keptContent v_keptWhat v_keptCan v_h r_1 hr_1) (cwV 0 hts gX8_timesNow_X8_layReading rfl rfl rfl (by decide +kernel) ⟨Nat.le_of_ble_eq_true rfl, Nat.le_of_ble_eq_true rfl⟩) hK hP hD hZ hS hA (ci := 8) (q0 := 0) rfl rfl rfl hl.1 rfl (Nat.le_of_ble_eq_true rfl) dX8_timesNow_1) hD hS hA [] rfl (fun H locs hP hD hS => ?_)
  refine lv_aload_n hx hb dX8_timesNow_4 rfl (lv_at hl 0 rfl) ?_
  refine va_get (D := (dC, dI)) (ci := 8) (C := RX8) (T := TX8) (N := 47) hx hb hts (fun _ h => List.mem_cons_of_mem _ (List.mem_append_right _ h)) hown hK hP 0 rfl rfl 30 (by decide) (hts (.fieldLink RX8 233 "SkewBoardModel" "readBoxes" "I") (List.mem_of_getElem? (i := 1) rfl)) (fun _ h9 => h9) rfl dX8_timesNow_5 ?_
  have J16 : ∀ (y0_16 : Int32), fX8_timesNow_J16 v_content v_shape r_1 y0_16 = some fin → ∀ (H : Heap) (locs : List Loc), va_P (dC, dI) vwCl (wX8 cI cB cE a v_boards v_kind v_rows v_outer v_inner v_content v_boxes v_rowOf v_columnOf v_seen v_seenWhat v_seenCan v_pageLength v_page v_isWhole v_newKind v_newRows v_newOuter v_newInner v_newContent v_now v_left v_box v_isCounted v_counted v_given v_isTermed v_terms v_term v_shape r_1.1 r_1.2.1 r_1.2.2.1 r_1.2.2.2.1 r_1.2.2.2.2 v_seedNow v_isKept v_keptBoard v_keptKind v_keptRows v_keptSeen v_keptOuter v_keptInner v_keptContent v_keptWhat v_keptCan v_h) H → va_D A (wX8 cI cB cE a v_boards v_kind v_rows v_outer v_inner v_content v_boxes v_rowOf v_columnOf v_seen v_seenWhat v_seenCan v_pageLength v_page v_isWhole v_newKind v_newRows v_newOuter v_newInner v_newContent v_now v_left v_box v_isCounted v_counted v_given v_isTermed v_terms v_term v_shape r_1.1 r_1.2.1 r_1.2.2.1 r_1.2.2.2.1 r_1.2.2.2.2 v_seedNow v_isKept v_keptBoard v_keptKind v_keptRows v_keptSeen v_keptOuter v_keptInner v_keptContent v_keptWhat v_keptCan v_h) → va_S A s.heap H locs → ∀ (ls : Array Slot), lv_has ls 5 [(0, .ref (a 0))] → W p l e rmX8_timesNow s m args below meth c H locs 0 0 Q (F0 m 16 ls [.int y0_16]) := by
    intro y0_16 hf H locs hP hD hS ls hl
    unfold fX8_timesNow_J16 at hf
    refine lv_istore_n (lv' := [(1, .int y0_16), (0, .ref (a 0))]) hx hb dX8_timesNow_16 rfl hl (by decide) rfl (fun ls hl => ?_)
    refine lv_aload_n hx hb dX8_timesNow_17 rfl (lv_at hl 1 rfl) ?_
    refine va_get (D := (dC, dI)) (ci := 8) (C := RX8) (T := TX8) (N := 47) hx hb hts (fun _ h => List.mem_cons_of_mem _ (List.mem_append_right _ h)) hown hK hP 0 rfl rfl 30 (by decide) (hts (.fieldLink RX8 233 "SkewBoardModel" "readBoxes" "I") (List.mem_of_getElem? (i := 1) rfl)) (fun _ h9 => h9) rfl dX8_timesNow_18 ?_
    have J29 : ∀ (y0_29 : Int32), fX8_timesNow_J29 v_content v_shape r_1 y0_16 y0_29 = some fin → ∀ (H : Heap) (locs : List Loc), va_P (dC, dI) vwCl (wX8 cI cB cE a v_boards v_kind v_rows v_outer v_inner v_content v_boxes v_rowOf v_columnOf v_seen v_seenWhat v_seenCan v_pageLength v_page v_isWhole v_newKind v_newRows v_newOuter v_newInner v_newContent v_now v_left v_box v_isCounted v_counted v_given v_isTermed v_terms v_term v_shape r_1.1 r_1.2.1 r_1.2.2.1 r_1.2.2.2.1 r_1.2.2.2.2 v_seedNow v_isKept v_keptBoard v_keptKind v_keptRows v_keptSeen v_keptOuter v_keptInner v_keptContent v_keptWhat v_keptCan v_h) H → va_D A (wX8 cI cB cE a v_boards v_kind v_rows v_outer v_inner v_content v_boxes v_rowOf v_columnOf v_seen v_seenWhat v_seenCan v_pageLength v_page v_isWhole v_newKind v_newRows v_newOuter v_newInner v_newContent v_now v_left v_box v_isCounted v_counted v_given v_isTermed v_terms v_term v_shape r_1.1 r_1.2.1 r_1.2.2.1 r_1.2.2.2.1 r_1.2.2.2.2 v_seedNow v_isKept v_keptBoard v_keptKind v_keptRows v_keptSeen v_keptOuter v_keptInner v_keptContent v_keptWhat v_keptCan v_h) → va_S A s.heap H locs → ∀ (ls : Array Slot), lv_has ls 5 [(0, .ref (a 0)), (1, .int y0_16)] → W p l e rmX8_timesNow s m args below meth c H locs 0 0 Q (F0 m 29 ls [.int y0_29]) := by
      intro y0_29 hf H locs hP hD hS ls hl
      unfold fX8_timesNow_J29 at hf
      refine lv_istore_n (lv' := [(2, .int y0_29), (0, .ref (a 0)), (1, .int y0_16)]) hx hb dX8_timesNow_29 rfl hl (by decide) rfl (fun ls hl => ?_)
      have L30 : ∀ (n30 : Nat) (x1_30 : Int32) (x2_30 : Int32) (v_grid_30 : Nat → Int32) (v_often_30 : Nat → Int32), fX8_timesNow_L30 v_content v_shape r_1 n30 x1_30 x2_30 v_grid_30 v_often_30 = some fin → ∀ (H : Heap) (locs : List Loc), va_P (dC, dI) vwCl (wX8 cI cB cE a v_boards v_kind v_rows v_outer v_inner v_content v_boxes v_rowOf v_columnOf v_seen v_seenWhat v_seenCan v_pageLength v_page v_isWhole v_newKind v_newRows v_newOuter v_newInner v_newContent v_now v_left v_box v_isCounted v_counted v_given v_isTermed v_terms v_term v_shape r_1.1 r_1.2.1 r_1.2.2.1 v_grid_30 v_often_30 v_seedNow v_isKept v_keptBoard v_keptKind v_keptRows v_keptSeen v_keptOuter v_keptInner v_keptContent v_keptWhat v_keptCan v_h) H → va_D A (wX8 cI cB cE a v_boards v_kind v_rows v_outer v_inner v_content v_boxes v_rowOf v_columnOf v_seen v_seenWhat v_seenCan v_pageLength v_page v_isWhole v_newKind v_newRows v_newOuter v_newInner v_newContent v_now v_left v_box v_isCounted v_counted v_given v_isTermed v_terms v_term v_shape r_1.1 r_1.2.1 r_1.2.2.1 v_grid_30 v_often_30 v_seedNow v_isKept v_keptBoard v_keptKind v_keptRows v_keptSeen v_keptOuter v_keptInner v_keptContent v_keptWhat v_keptCan v_h) → va_S A s.heap H locs → ∀ (ls : Array Slot), lv_has ls 5 [(0, .ref (a 0)), (1, .int x1_30), (2, .int x2_30)] → W p l e rmX8_timesNow s m args below meth c H locs 0 0 Q (F0 m 30 ls []) := by
        intro n30
        induction n30 with
        | zero =>
          intro x1_30 x2_30 v_grid_30 v_often_30 hf
          rw [fX8_timesNow_L30] at hf
          cases hf
        | succ n30 ih30 =>
          intro x1_30 x2_30 v_grid_30 v_often_30 hf H locs hP hD hS ls hl
          rw [fX8_timesNow_L30] at hf
          refine lv_iload_n hx hb dX8_timesNow_30 rfl (lv_at hl 2 rfl) ?_
          refine lv_if_lt (tgt := 152) hx hb dX8_timesNow_31 (by decide) (fun c_2 => ?_) (fun c_2 => ?_)
          · rw [if_pos c_2] at hf
            refine lv_iload_n hx hb dX8_timesNow_152 rfl (lv_at hl 1 rfl) ?_
            have hQ2 := hQ
            rw [← Option.some.inj hf] at hQ2
            exact cx_iret hQ2 hx hb hr hlocks hK hP hD hS dX8_timesNow_153
          · rw [if_neg c_2] at hf
            refine lv_aload_n hx hb dX8_timesNow_34 rfl (lv_at hl 0 rfl) ?_
            refine lv_iload_n hx hb dX8_timesNow_35 rfl (lv_at hl 2 rfl) ?_
            obtain ⟨r_3, hr_3, hf⟩ := bd_some hf
            refine cx_runW (cx_V (As := [.int x2_30]) (rest := []) ⟨hx, hb, hml, hown, hts⟩ (ctX8_cellAt l z dC dI cI cB cE a v_boards v_kind v_rows v_outer v_inner v_content v_boxes v_rowOf v_columnOf v_seen v_seenWhat v_seenCan v_pageLength v_page v_isWhole v_newKind v_newRows v_newOuter v_newInner v_newContent v_now v_left v_box v_isCounted v_counted v_given v_isTermed v_terms v_term v_shape r_1.1 r_1.2.1 r_1.2.2.1 v_grid_30 v_often_30 v_seedNow v_isKept v_keptBoard v_keptKind v_keptRows v_keptSeen v_keptOuter v_keptInner v_keptContent v_keptWhat v_keptCan v_h x2_30 r_3 hr_3) (cwV 1 hts gX8_timesNow_X8_cellAt rfl rfl rfl (by decide +kernel) ⟨Nat.le_of_ble_eq_true rfl, Nat.le_of_ble_eq_true rfl⟩) hK hP hD hZ hS hA (ci := 8) (q0 := 0) rfl rfl rfl hl.1 rfl (Nat.le_of_ble_eq_true rfl) dX8_timesNow_36) hD hS hA [.int r_3] rfl (fun H locs hP hD hS => ?_)
            refine lv_istore_n (lv' := [(3, .int r_3), (0, .ref (a 0)), (1, .int x1_30), (2, .int x2_30)]) hx hb dX8_timesNow_39 rfl hl (by decide) rfl (fun ls hl => ?_)
            refine lv_aload_n hx hb dX8_timesNow_40 rfl (lv_at hl 1 rfl) ?_
            refine va_get (D := (dC, dI)) (ci := 8) (C := RX8) (T := TX8) (N := 47) hx hb hts (fun _ h => List.mem_cons_of_mem _ (List.mem_append_right _ h)) hown hK hP 0 rfl rfl 33 (by decide) (hts (.fieldLink RX8 65 "SkewBoardModel" "grid" "[I") (List.mem_of_getElem? (i := 2) rfl)) (fun _ h9 => h9) rfl dX8_timesNow_41 ?_
            refine lv_iload_n hx hb dX8_timesNow_44 rfl (lv_at hl 0 rfl) ?_
            obtain ⟨g_4, hf⟩ := gd_some hf
            refine va_iald hx hb hK hP 19 0 rfl rfl (inb_vp g_4) dX8_timesNow_45 ?_
            refine lv_istore (lv' := [(4, .int (v_grid_30 r_3.toNatClampNeg)), (3, .int r_3), (0, .ref (a 0)), (1, .int x1_30), (2, .int x2_30)]) hx hb dX8_timesNow_46 hl (by decide) rfl (fun ls hl => ?_)
            refine lv_iload hx hb dX8_timesNow_48 (lv_at hl 0 rfl) ?_
            have J64 : ∀ (v_often_64 : Nat → Int32), fX8_timesNow_J64 v_content v_shape r_1 x1_30 x2_30 v_grid_30 r_3 (fX8_timesNow_L30 v_content v_shape r_1 n30) v_often_64 = some fin → ∀ (H : Heap) (locs : List Loc), va_P (dC, dI) vwCl (wX8 cI cB cE a v_boards v_kind v_rows v_outer v_inner v_content v_boxes v_rowOf v_columnOf v_seen v_seenWhat v_seenCan v_pageLength v_page v_isWhole v_newKind v_newRows v_newOuter v_newInner v_newContent v_now v_left v_box v_isCounted v_counted v_given v_isTermed v_terms v_term v_shape r_1.1 r_1.2.1 r_1.2.2.1 v_grid_30 v_often_64 v_seedNow v_isKept v_keptBoard v_keptKind v_keptRows v_keptSeen v_keptOuter v_keptInner v_keptContent v_keptWhat v_keptCan v_h) H → va_D A (wX8 cI cB cE a v_boards v_kind v_rows v_outer v_inner v_content v_boxes v_rowOf v_columnOf v_seen v_seenWhat v_seenCan v_pageLength v_page v_isWhole v_newKind v_newRows v_newOuter v_newInner v_newContent v_now v_left v_box v_isCounted v_counted v_given v_isTermed v_terms v_term v_shape r_1.1 r_1.2.1 r_1.2.2.1 v_grid_30 v_often_64 v_seedNow v_isKept v_keptBoard v_keptKind v_keptRows v_keptSeen v_keptOuter v_keptInner v_keptContent v_keptWhat v_keptCan v_h) → va_S A s.heap H locs → ∀ (ls : Array Slot), lv_has ls 5 [(0, .ref (a 0)), (1, .int x1_30), (2, .int x2_30), (3, .int r_3), (4, .int (v_grid_30 r_3.toNatClampNeg))] → W p l e rmX8_timesNow s m args below meth c H locs 0 0 Q (F0 m 64 ls []) := by
              intro v_often_64 hf H locs hP hD hS ls hl
              unfold fX8_timesNow_J64 at hf
              refine lv_iinc (v := ((v_grid_30 r_3.toNatClampNeg) + 1)) (lv' := [(4, .int ((v_grid_30 r_3.toNatClampNeg) + 1)), (0, .ref (a 0)), (1, .int x1_30), (2, .int x2_30), (3, .int r_3)]) hx hb dX8_timesNow_64 hl (k := 4) rfl rfl (by decide) rfl (fun ls hl => ?_)
              have J89 : ∀ (x4_89 : Int32), fX8_timesNow_J89 r_1 x1_30 x2_30 v_grid_30 r_3 v_often_64 (fX8_timesNow_L30 v_content v_shape r_1 n30) x4_89 = some fin → ∀ (H : Heap) (locs : List Loc), va_P (dC, dI) vwCl (wX8 cI cB cE a v_boards v_kind v_rows v_outer v_inner v_content v_boxes v_rowOf v_columnOf v_seen v_seenWhat v_seenCan v_pageLength v_page v_isWhole v_newKind v_newRows v_newOuter v_newInner v_newContent v_now v_left v_box v_isCounted v_counted v_given v_isTermed v_terms v_term v_shape r_1.1 r_1.2.1 r_1.2.2.1 v_grid_30 v_often_64 v_seedNow v_isKept v_keptBoard v_keptKind v_keptRows v_keptSeen v_keptOuter v_keptInner v_keptContent v_keptWhat v_keptCan v_h) H → va_D A (wX8 cI cB cE a v_boards v_kind v_rows v_outer v_inner v_content v_boxes v_rowOf v_columnOf v_seen v_seenWhat v_seenCan v_pageLength v_page v_isWhole v_newKind v_newRows v_newOuter v_newInner v_newContent v_now v_left v_box v_isCounted v_counted v_given v_isTermed v_terms v_term v_shape r_1.1 r_1.2.1 r_1.2.2.1 v_grid_30 v_often_64 v_seedNow v_isKept v_keptBoard v_keptKind v_keptRows v_keptSeen v_keptOuter v_keptInner v_keptContent v_keptWhat v_keptCan v_h) → va_S A s.heap H locs → ∀ (ls : Array Slot), lv_has ls 5 [(0, .ref (a 0)), (1, .int x1_30), (2, .int x2_30), (3, .int r_3), (4, .int x4_89)] → W p l e rmX8_timesNow s m args below meth c H locs 0 0 Q (F0 m 89 ls []) := by
                intro x4_89 hf H locs hP hD hS ls hl
                unfold fX8_timesNow_J89 at hf
                refine lv_aload_n hx hb dX8_timesNow_89 rfl (lv_at hl 0 rfl) ?_
                refine va_get (D := (dC, dI)) (ci := 8) (C := RX8) (T := TX8) (N := 47) hx hb hts (fun _ h => List.mem_cons_of_mem _ (List.mem_append_right _ h)) hown hK hP 0 rfl rfl 33 (by decide) (hts (.fieldLink RX8 65 "SkewBoardModel" "grid" "[I") (List.mem_of_getElem? (i := 2) rfl)) (fun _ h9 => h9) rfl dX8_timesNow_90 ?_
                refine lv_iload_n hx hb dX8_timesNow_93 rfl (lv_at hl 3 rfl) ?_
                refine lv_iload hx hb dX8_timesNow_94 (lv_at hl 4 rfl) ?_
                refine lv_iconst (v := 4) hx hb dX8_timesNow_96 (by decide) ?_
                have J106 : ∀ (y2_106 : Int32), fX8_timesNow_J106 r_1 x1_30 x2_30 v_grid_30 r_3 v_often_64 x4_89 (fX8_timesNow_L30 v_content v_shape r_1 n30) y2_106 = some fin → ∀ (H : Heap) (locs : List Loc), va_P (dC, dI) vwCl (wX8 cI cB cE a v_boards v_kind v_rows v_outer v_inner v_content v_boxes v_rowOf v_columnOf v_seen v_seenWhat v_seenCan v_pageLength v_page v_isWhole v_newKind v_newRows v_newOuter v_newInner v_newContent v_now v_left v_box v_isCounted v_counted v_given v_isTermed v_terms v_term v_shape r_1.1 r_1.2.1 r_1.2.2.1 v_grid_30 v_often_64 v_seedNow v_isKept v_keptBoard v_keptKind v_keptRows v_keptSeen v_keptOuter v_keptInner v_keptContent v_keptWhat v_keptCan v_h) H → va_D A (wX8 cI cB cE a v_boards v_kind v_rows v_outer v_inner v_content v_boxes v_rowOf v_columnOf v_seen v_seenWhat v_seenCan v_pageLength v_page v_isWhole v_newKind v_newRows v_newOuter v_newInner v_newContent v_now v_left v_box v_isCounted v_counted v_given v_isTermed v_terms v_term v_shape r_1.1 r_1.2.1 r_1.2.2.1 v_grid_30 v_often_64 v_seedNow v_isKept v_keptBoard v_keptKind v_keptRows v_keptSeen v_keptOuter v_keptInner v_keptContent v_keptWhat v_keptCan v_h) → va_S A s.heap H locs → ∀ (ls : Array Slot), lv_has ls 5 [(0, .ref (a 0)), (1, .int x1_30), (2, .int x2_30), (4, .int x4_89)] → W p l e rmX8_timesNow s m args below meth c H locs 0 0 Q (F0 m 106 ls [.int y2_106, .int r_3, .ref (a 19)]) := by
                  intro y2_106 hf H locs hP hD hS ls hl
                  unfold fX8_timesNow_J106 at hf
                  refine va_iast hx hb hK hP hD hS 19 0 rfl rfl (inb_vp g_4) dX8_timesNow_106 (fun H locs hP hD hS => ?_)
                  have hP : va_P (dC, dI) vwCl (wX8 cI cB cE a v_boards v_kind v_rows v_outer v_inner v_content v_boxes v_rowOf v_columnOf v_seen v_seenWhat v_seenCan v_pageLength v_page v_isWhole v_newKind v_newRows v_newOuter v_newInner v_newContent v_now v_left v_box v_isCounted v_counted v_given v_isTermed v_terms v_term v_shape r_1.1 r_1.2.1 r_1.2.2.1 (upd v_grid_30 r_3.toNatClampNeg y2_106) v_often_64 v_seedNow v_isKept v_keptBoard v_keptKind v_keptRows v_keptSeen v_keptOuter v_keptInner v_keptContent v_keptWhat v_keptCan v_h) H := hP
                  have hD : va_D A (wX8 cI cB cE a v_boards v_kind v_rows v_outer v_inner v_content v_boxes v_rowOf v_columnOf v_seen v_seenWhat v_seenCan v_pageLength v_page v_isWhole v_newKind v_newRows v_newOuter v_newInner v_newContent v_now v_left v_box v_isCounted v_counted v_given v_isTermed v_terms v_term v_shape r_1.1 r_1.2.1 r_1.2.2.1 (upd v_grid_30 r_3.toNatClampNeg y2_106) v_often_64 v_seedNow v_isKept v_keptBoard v_keptKind v_keptRows v_keptSeen v_keptOuter v_keptInner v_keptContent v_keptWhat v_keptCan v_h) := hD
                  refine lv_iload hx hb dX8_timesNow_107 (lv_at hl 3 rfl) ?_
                  refine lv_iconst (v := 4) hx hb dX8_timesNow_109 (by decide) ?_
                  have J149 : ∀ (x1_149 : Int32) (x2_149 : Int32) (v_often_149 : Nat → Int32), fX8_timesNow_J149 v_grid_30 r_3 y2_106 (fX8_timesNow_L30 v_content v_shape r_1 n30) x1_149 x2_149 v_often_149 = some fin → ∀ (H : Heap) (locs : List Loc), va_P (dC, dI) vwCl (wX8 cI cB cE a v_boards v_kind v_rows v_outer v_inner v_content v_boxes v_rowOf v_columnOf v_seen v_seenWhat v_seenCan v_pageLength v_page v_isWhole v_newKind v_newRows v_newOuter v_newInner v_newContent v_now v_left v_box v_isCounted v_counted v_given v_isTermed v_terms v_term v_shape r_1.1 r_1.2.1 r_1.2.2.1 (upd v_grid_30 r_3.toNatClampNeg y2_106) v_often_149 v_seedNow v_isKept v_keptBoard v_keptKind v_keptRows v_keptSeen v_keptOuter v_keptInner v_keptContent v_keptWhat v_keptCan v_h) H → va_D A (wX8 cI cB cE a v_boards v_kind v_rows v_outer v_inner v_content v_boxes v_rowOf v_columnOf v_seen v_seenWhat v_seenCan v_pageLength v_page v_isWhole v_newKind v_newRows v_newOuter v_newInner v_newContent v_now v_left v_box v_isCounted v_counted v_given v_isTermed v_terms v_term v_shape r_1.1 r_1.2.1 r_1.2.2.1 (upd v_grid_30 r_3.toNatClampNeg y2_106) v_often_149 v_seedNow v_isKept v_keptBoard v_keptKind v_keptRows v_keptSeen v_keptOuter v_keptInner v_keptContent v_keptWhat v_keptCan v_h) → va_S A s.heap H locs → ∀ (ls : Array Slot), lv_has ls 5 [(0, .ref (a 0)), (1, .int x1_149), (2, .int x2_149)] → W p l e rmX8_timesNow s m args below meth c H locs 0 0 Q (F0 m 149 ls []) := by
                    intro x1_149 x2_149 v_often_149 hf H locs hP hD hS ls hl
                    unfold fX8_timesNow_J149 at hf
                    refine lv_goto (tgt := 30) hx hb dX8_timesNow_149 (by decide) ?_
                    exact ih30 x1_149 x2_149 (upd v_grid_30 r_3.toNatClampNeg y2_106) v_often_149 hf _ _ hP hD hS ls (lv_sub hl [0, 1, 2] rfl)
                  refine lv_icmp_le (tgt := 119) hx hb dX8_timesNow_110 (by decide) (fun c_5 => ?_) (fun c_5 => ?_)
                  · rw [if_pos c_5] at hf
                    refine lv_aload_n hx hb dX8_timesNow_119 rfl (lv_at hl 0 rfl) ?_
                    refine va_get (D := (dC, dI)) (ci := 8) (C := RX8) (T := TX8) (N := 47) hx hb hts (fun _ h => List.mem_cons_of_mem _ (List.mem_append_right _ h)) hown hK hP 0 rfl rfl 34 (by decide) (hts (.fieldLink RX8 68 "SkewBoardModel" "often" "[I") (List.mem_of_getElem? (i := 3) rfl)) (fun _ h9 => h9) rfl dX8_timesNow_120 ?_
                    refine lv_iload hx hb dX8_timesNow_123 (lv_at hl 3 rfl) ?_
                    refine lv_dup2_11 hx hb dX8_timesNow_125 rfl rfl ?_
                    obtain ⟨g_6, hf⟩ := gd_some hf
                    refine va_iald hx hb hK hP 20 0 rfl rfl (inb_vp g_6) dX8_timesNow_126 ?_
                    refine lv_iconst (v := 1) hx hb dX8_timesNow_127 (by decide) ?_
                    refine lv_iadd hx hb dX8_timesNow_128 ?_
                    refine va_iast hx hb hK hP hD hS 20 0 rfl rfl (inb_vp g_6) dX8_timesNow_129 (fun H locs hP hD hS => ?_)
                    have hP : va_P (dC, dI) vwCl (wX8 cI cB cE a v_boards v_kind v_rows v_outer v_inner v_content v_boxes v_rowOf v_columnOf v_seen v_seenWhat v_seenCan v_pageLength v_page v_isWhole v_newKind v_newRows v_newOuter v_newInner v_newContent v_now v_left v_box v_isCounted v_counted v_given v_isTermed v_terms v_term v_shape r_1.1 r_1.2.1 r_1.2.2.1 (upd v_grid_30 r_3.toNatClampNeg y2_106) (upd v_often_64 x4_89.toNatClampNeg ((v_often_64 x4_89.toNatClampNeg) + 1)) v_seedNow v_isKept v_keptBoard v_keptKind v_keptRows v_keptSeen v_keptOuter v_keptInner v_keptContent v_keptWhat v_keptCan v_h) H := hP
                    have hD : va_D A (wX8 cI cB cE a v_boards v_kind v_rows v_outer v_inner v_content v_boxes v_rowOf v_columnOf v_seen v_seenWhat v_seenCan v_pageLength v_page v_isWhole v_newKind v_newRows v_newOuter v_newInner v_newContent v_now v_left v_box v_isCounted v_counted v_given v_isTermed v_terms v_term v_shape r_1.1 r_1.2.1 r_1.2.2.1 (upd v_grid_30 r_3.toNatClampNeg y2_106) (upd v_often_64 x4_89.toNatClampNeg ((v_often_64 x4_89.toNatClampNeg) + 1)) v_seedNow v_isKept v_keptBoard v_keptKind v_keptRows v_keptSeen v_keptOuter v_keptInner v_keptContent v_keptWhat v_keptCan v_h) := hD
                    refine lv_iload_n hx hb dX8_timesNow_130 rfl (lv_at hl 2 rfl) ?_
                    refine lv_aload_n hx hb dX8_timesNow_131 rfl (lv_at hl 0 rfl) ?_
                    refine va_get (D := (dC, dI)) (ci := 8) (C := RX8) (T := TX8) (N := 47) hx hb hts (fun _ h => List.mem_cons_of_mem _ (List.mem_append_right _ h)) hown hK hP 0 rfl rfl 30 (by decide) (hts (.fieldLink RX8 233 "SkewBoardModel" "readBoxes" "I") (List.mem_of_getElem? (i := 1) rfl)) (fun _ h9 => h9) rfl dX8_timesNow_132 ?_
                    refine lv_iconst (v := 1) hx hb dX8_timesNow_135 (by decide) ?_
                    refine lv_isub hx hb dX8_timesNow_136 ?_
                    refine lv_icmp_ne (tgt := 146) hx hb dX8_timesNow_137 (by decide) (fun c_7 => ?_) (fun c_7 => ?_)
                    · rw [if_neg c_7] at hf
                      refine lv_iinc (v := (x2_30 + 1)) (lv' := [(2, .int (x2_30 + 1)), (0, .ref (a 0)), (1, .int x1_30), (4, .int x4_89)]) hx hb dX8_timesNow_146 hl (k := 2) rfl rfl (by decide) rfl (fun ls hl => ?_)
                      exact J149 x1_30 (x2_30 + 1) (upd v_often_64 x4_89.toNatClampNeg ((v_often_64 x4_89.toNatClampNeg) + 1)) hf _ _ hP hD hS ls (lv_sub hl [1, 2, 0] rfl)
                    · rw [if_pos c_7] at hf
                      refine lv_iinc (v := (x1_30 + 1)) (lv' := [(1, .int (x1_30 + 1)), (0, .ref (a 0)), (2, .int x2_30), (4, .int x4_89)]) hx hb dX8_timesNow_140 hl (k := 1) rfl rfl (by decide) rfl (fun ls hl => ?_)
                      refine lv_goto (tgt := 149) hx hb dX8_timesNow_143 (by decide) ?_
                      exact J149 (x1_30 + 1) x2_30 (upd v_often_64 x4_89.toNatClampNeg ((v_often_64 x4_89.toNatClampNeg) + 1)) hf _ _ hP hD hS ls (lv_sub hl [1, 0, 2] rfl)
                  · rw [if_neg c_5] at hf
                    refine lv_iinc (v := (x2_30 + (-1))) (lv' := [(2, .int (x2_30 + (-1))), (0, .ref (a 0)), (1, .int x1_30), (4, .int x4_89)]) hx hb dX8_timesNow_113 hl (k := 2) rfl rfl (by decide) rfl (fun ls hl => ?_)
                    refine lv_goto (tgt := 149) hx hb dX8_timesNow_116 (by decide) ?_
                    exact J149 x1_30 (x2_30 + (-1)) v_often_64 hf _ _ hP hD hS ls (lv_sub hl [1, 2, 0] rfl)
                refine lv_icmp_gt (tgt := 105) hx hb dX8_timesNow_97 (by decide) (fun c_8 => ?_) (fun c_8 => ?_)
                · rw [if_pos c_8] at hf
                  refine lv_iconst (v := 0) hx hb dX8_timesNow_105 (by decide) ?_
                  exact J106 0 hf _ _ hP hD hS ls (lv_sub hl [0, 1, 2, 4] rfl)
                · rw [if_neg c_8] at hf
                  refine lv_iload hx hb dX8_timesNow_100 (lv_at hl 4 rfl) ?_
                  refine lv_goto (tgt := 106) hx hb dX8_timesNow_102 (by decide) ?_
                  exact J106 x4_89 hf _ _ hP hD hS ls (lv_sub hl [0, 1, 2, 4] rfl)
              have L67 : ∀ (n67 : Nat) (x4_67 : Int32), fX8_timesNow_L67 v_content v_shape r_1 x2_30 v_grid_30 v_often_64 (fX8_timesNow_J89 r_1 x1_30 x2_30 v_grid_30 r_3 v_often_64 (fX8_timesNow_L30 v_content v_shape r_1 n30)) n67 x4_67 = some fin → ∀ (H : Heap) (locs : List Loc), va_P (dC, dI) vwCl (wX8 cI cB cE a v_boards v_kind v_rows v_outer v_inner v_content v_boxes v_rowOf v_columnOf v_seen v_seenWhat v_seenCan v_pageLength v_page v_isWhole v_newKind v_newRows v_newOuter v_newInner v_newContent v_now v_left v_box v_isCounted v_counted v_given v_isTermed v_terms v_term v_shape r_1.1 r_1.2.1 r_1.2.2.1 v_grid_30 v_often_64 v_seedNow v_isKept v_keptBoard v_keptKind v_keptRows v_keptSeen v_keptOuter v_keptInner v_keptContent v_keptWhat v_keptCan v_h) H → va_D A (wX8 cI cB cE a v_boards v_kind v_rows v_outer v_inner v_content v_boxes v_rowOf v_columnOf v_seen v_seenWhat v_seenCan v_pageLength v_page v_isWhole v_newKind v_newRows v_newOuter v_newInner v_newContent v_now v_left v_box v_isCounted v_counted v_given v_isTermed v_terms v_term v_shape r_1.1 r_1.2.1 r_1.2.2.1 v_grid_30 v_often_64 v_seedNow v_isKept v_keptBoard v_keptKind v_keptRows v_keptSeen v_keptOuter v_keptInner v_keptContent v_keptWhat v_keptCan v_h) → va_S A s.heap H locs → ∀ (ls : Array Slot), lv_has ls 5 [(0, .ref (a 0)), (1, .int x1_30), (2, .int x2_30), (3, .int r_3), (4, .int x4_67)] → W p l e rmX8_timesNow s m args below meth c H locs 0 0 Q (F0 m 67 ls []) := by
                intro n67
                induction n67 with
                | zero =>
                  intro x4_67 hf
                  rw [fX8_timesNow_L67] at hf
                  cases hf
                | succ n67 ih67 =>
                  intro x4_67 hf H locs hP hD hS ls hl
                  rw [fX8_timesNow_L67] at hf
                  refine lv_iload hx hb dX8_timesNow_67 (lv_at hl 4 rfl) ?_
                  refine lv_iconst (v := 4) hx hb dX8_timesNow_69 (by decide) ?_
                  refine lv_icmp_gt (tgt := 89) hx hb dX8_timesNow_70 (by decide) (fun c_9 => ?_) (fun c_9 => ?_)
                  · rw [if_pos c_9] at hf
                    exact J89 x4_67 hf _ _ hP hD hS ls (lv_sub hl [0, 1, 2, 3, 4] rfl)
                  · rw [if_neg c_9] at hf
                    refine lv_aload_n hx hb dX8_timesNow_73 rfl (lv_at hl 0 rfl) ?_
                    refine lv_iload_n hx hb dX8_timesNow_74 rfl (lv_at hl 2 rfl) ?_
                    refine lv_iload hx hb dX8_timesNow_75 (lv_at hl 4 rfl) ?_
                    obtain ⟨r_10, hr_10, hf⟩ := bd_some hf
                    refine cx_runW (cx_V (As := [.int x2_30, .int x4_67]) (rest := []) ⟨hx, hb, hml, hown, hts⟩ (ctX8_mayCome l z dC dI cI cB cE a v_boards v_kind v_rows v_outer v_inner v_content v_boxes v_rowOf v_columnOf v_seen v_seenWhat v_seenCan v_pageLength v_page v_isWhole v_newKind v_newRows v_newOuter v_newInner v_newContent v_now v_left v_box v_isCounted v_counted v_given v_isTermed v_terms v_term v_shape r_1.1 r_1.2.1 r_1.2.2.1 v_grid_30 v_often_64 v_seedNow v_isKept v_keptBoard v_keptKind v_keptRows v_keptSeen v_keptOuter v_keptInner v_keptContent v_keptWhat v_keptCan v_h x2_30 x4_67 r_10 hr_10) (cwV 2 hts gX8_timesNow_X8_mayCome rfl rfl rfl (by decide +kernel) ⟨Nat.le_of_ble_eq_true rfl, Nat.le_of_ble_eq_true rfl⟩) hK hP hD hZ hS hA (ci := 8) (q0 := 0) rfl rfl rfl hl.1 rfl (Nat.le_of_ble_eq_true rfl) dX8_timesNow_77) hD hS hA [.int r_10] rfl (fun H locs hP hD hS => ?_)
                    refine lv_if_ne (tgt := 89) hx hb dX8_timesNow_80 (by decide) (fun c_11 => ?_) (fun c_11 => ?_)
                    · rw [if_neg c_11] at hf
                      exact J89 x4_67 hf _ _ hP hD hS ls (lv_sub hl [0, 1, 2, 3, 4] rfl)
                    · rw [if_pos c_11] at hf
                      refine lv_iinc (v := (x4_67 + 1)) (lv' := [(4, .int (x4_67 + 1)), (0, .ref (a 0)), (1, .int x1_30), (2, .int x2_30), (3, .int r_3)]) hx hb dX8_timesNow_83 hl (k := 4) rfl rfl (by decide) rfl (fun ls hl => ?_)
                      refine lv_goto (tgt := 67) hx hb dX8_timesNow_86 (by decide) ?_
                      exact ih67 (x4_67 + 1) hf _ _ hP hD hS ls (lv_sub hl [1, 2, 3, 4, 0] rfl)
              exact L67 fu ((v_grid_30 r_3.toNatClampNeg) + 1) hf _ _ hP hD hS ls (lv_sub hl [1, 2, 3, 4, 0] rfl)
            refine lv_if_le (tgt := 64) hx hb dX8_timesNow_50 (by decide) (fun c_12 => ?_) (fun c_12 => ?_)
            · rw [if_pos c_12] at hf
              exact J64 v_often_30 hf _ _ hP hD hS ls (lv_sub hl [2, 3, 4, 1, 0] rfl)
            · rw [if_neg c_12] at hf
              refine lv_aload_n hx hb dX8_timesNow_53 rfl (lv_at hl 2 rfl) ?_
              refine va_get (D := (dC, dI)) (ci := 8) (C := RX8) (T := TX8) (N := 47) hx hb hts (fun _ h => List.mem_cons_of_mem _ (List.mem_append_right _ h)) hown hK hP 0 rfl rfl 34 (by decide) (hts (.fieldLink RX8 68 "SkewBoardModel" "often" "[I") (List.mem_of_getElem? (i := 3) rfl)) (fun _ h9 => h9) rfl dX8_timesNow_54 ?_
              refine lv_iload hx hb dX8_timesNow_57 (lv_at hl 0 rfl) ?_
              refine lv_dup2_11 hx hb dX8_timesNow_59 rfl rfl ?_
              obtain ⟨g_13, hf⟩ := gd_some hf
              refine va_iald hx hb hK hP 20 0 rfl rfl (inb_vp g_13) dX8_timesNow_60 ?_
              refine lv_iconst (v := 1) hx hb dX8_timesNow_61 (by decide) ?_
              refine lv_isub hx hb dX8_timesNow_62 ?_
              refine va_iast hx hb hK hP hD hS 20 0 rfl rfl (inb_vp g_13) dX8_timesNow_63 (fun H locs hP hD hS => ?_)
              have hP : va_P (dC, dI) vwCl (wX8 cI cB cE a v_boards v_kind v_rows v_outer v_inner v_content v_boxes v_rowOf v_columnOf v_seen v_seenWhat v_seenCan v_pageLength v_page v_isWhole v_newKind v_newRows v_newOuter v_newInner v_newContent v_now v_left v_box v_isCounted v_counted v_given v_isTermed v_terms v_term v_shape r_1.1 r_1.2.1 r_1.2.2.1 v_grid_30 (upd v_often_30 (v_grid_30 r_3.toNatClampNeg).toNatClampNeg ((v_often_30 (v_grid_30 r_3.toNatClampNeg).toNatClampNeg) - 1)) v_seedNow v_isKept v_keptBoard v_keptKind v_keptRows v_keptSeen v_keptOuter v_keptInner v_keptContent v_keptWhat v_keptCan v_h) H := hP
              have hD : va_D A (wX8 cI cB cE a v_boards v_kind v_rows v_outer v_inner v_content v_boxes v_rowOf v_columnOf v_seen v_seenWhat v_seenCan v_pageLength v_page v_isWhole v_newKind v_newRows v_newOuter v_newInner v_newContent v_now v_left v_box v_isCounted v_counted v_given v_isTermed v_terms v_term v_shape r_1.1 r_1.2.1 r_1.2.2.1 v_grid_30 (upd v_often_30 (v_grid_30 r_3.toNatClampNeg).toNatClampNeg ((v_often_30 (v_grid_30 r_3.toNatClampNeg).toNatClampNeg) - 1)) v_seedNow v_isKept v_keptBoard v_keptKind v_keptRows v_keptSeen v_keptOuter v_keptInner v_keptContent v_keptWhat v_keptCan v_h) := hD
              exact J64 (upd v_often_30 (v_grid_30 r_3.toNatClampNeg).toNatClampNeg ((v_often_30 (v_grid_30 r_3.toNatClampNeg).toNatClampNeg) - 1)) hf _ _ hP hD hS ls (lv_sub hl [2, 3, 4, 1, 0] rfl)
      exact L30 fu y0_16 y0_29 r_1.2.2.2.1 r_1.2.2.2.2 hf _ _ hP hD hS ls (lv_sub hl [1, 2, 0] rfl)
    refine lv_if_ne (tgt := 28) hx hb dX8_timesNow_21 (by decide) (fun c_14 => ?_) (fun c_14 => ?_)
    · rw [if_neg c_14] at hf
      refine lv_iconst (v := 0) hx hb dX8_timesNow_28 (by decide) ?_
      exact J29 0 hf _ _ hP hD hS ls (lv_sub hl [1, 0] rfl)
    · rw [if_pos c_14] at hf
      refine lv_iconst (v := (-1)) hx hb dX8_timesNow_24 (by decide) ?_
      refine lv_goto (tgt := 29) hx hb dX8_timesNow_25 (by decide) ?_
      exact J29 (-1) hf _ _ hP hD hS ls (lv_sub hl [1, 0] rfl)
  refine lv_if_ne (tgt := 15) hx hb dX8_timesNow_8 (by decide) (fun c_15 => ?_) (fun c_15 => ?_)
  · rw [if_neg c_15] at hf
    refine lv_iconst (v := 0) hx hb dX8_timesNow_15 (by decide) ?_
    exact J16 0 hf _ _ hP hD hS ls (lv_sub hl [0] rfl)
  · rw [if_pos c_15] at hf
    refine lv_iconst (v := 1) hx hb dX8_timesNow_11 (by decide) ?_
    refine lv_goto (tgt := 16) hx hb dX8_timesNow_12 (by decide) ?_
    exact J16 1 hf _ _ hP hD hS ls (lv_sub hl [0] rfl)

def fX8_addTerm_J65 (r_1 : Int32 × Int32 × (Nat → Int32) × (Nat → Int32) × (Nat → Int32) × (Nat → Int32)) (v_terms_65 : Int32) (v_term_65 : Nat → Int32) : Option (Int32 × (Nat → Int32) × Int32 × (Nat → Int32) × (Nat → Int32) × (Nat → Int32) × (Nat → Int32)) :=
    some (v_terms_65, v_term_65, r_1.2.1, r_1.2.2.1, r_1.2.2.2.1, r_1.2.2.2.2.1, r_1.2.2.2.2.2)
def fX8_addTerm_L11 (v_terms : Int32) (v_shape : Nat → Int32) (r_1 : Int32 × Int32 × (Nat → Int32) × (Nat → Int32) × (Nat → Int32) × (Nat → Int32)) (k65 : Int32 → (Nat → Int32) → Option (Int32 × (Nat → Int32) × Int32 × (Nat → Int32) × (Nat → Int32) × (Nat → Int32) × (Nat → Int32))) : Nat → Int32 → (Nat → Int32) → Option (Int32 × (Nat → Int32) × Int32 × (Nat → Int32) × (Nat → Int32) × (Nat → Int32) × (Nat → Int32))
  | 0, _, _ => none
  | n + 1, x2_11, v_term_11 =>
    if 4 ≤ x2_11 then (gd (inb ((5 * v_terms) + 4) 1500) (k65 (v_terms + 1) (upd v_term_11 ((5 * v_terms) + 4).toNatClampNeg r_1.1))) else (gd (inb x2_11 4) (gd (inb ((5 * v_terms) + x2_11) 1500) (fX8_addTerm_L11 v_terms v_shape r_1 k65 n (x2_11 + 1) (upd v_term_11 ((5 * v_terms) + x2_11).toNatClampNeg (v_shape x2_11.toNatClampNeg)))))
def fX8_addTerm (v_inner : Nat → Int32) (v_content : Nat → Int32) (v_terms : Int32) (v_term : Nat → Int32) (v_shape : Nat → Int32) (v_readRow : Nat → Int32) (v_readColumn : Nat → Int32) (v_grid : Nat → Int32) (v_often : Nat → Int32) : Option (Int32 × (Nat → Int32) × Int32 × (Nat → Int32) × (Nat → Int32) × (Nat → Int32) × (Nat → Int32)) :=
  bd (fX8_timesNow v_inner v_content v_shape v_readRow v_readColumn v_grid v_often) (fun r_1 => if r_1.1 ≤ 0 then (fX8_addTerm_J65 r_1 v_terms v_term) else (fX8_addTerm_L11 v_terms v_shape r_1 (fX8_addTerm_J65 r_1) fu 0 v_term))
def rmX8_addTerm : Room := { frames := 3, cells := 0, slots := 0, locals := 70 }
set_option maxRecDepth 100000 in
set_option maxHeartbeats 4000000 in
theorem ctX8_addTerm (l : Launch) (z : Nat × Nat × Nat) (dC : Nat → ClassId) (dI : Nat → Nat → Nat) (cI cB cE : ClassId) (a : Nat → Nat) (v_boards : Int32) (v_kind : Int32) (v_rows : Int32) (v_outer : Nat → Int32) (v_inner : Nat → Int32) (v_content : Nat → Int32) (v_boxes : Int32) (v_rowOf : Nat → Int32) (v_columnOf : Nat → Int32) (v_seen : Int32) (v_seenWhat : Nat → Int32) (v_seenCan : Nat → Int32) (v_pageLength : Int32) (v_page : Nat → Int32) (v_isWhole : Int32) (v_newKind : Int32) (v_newRows : Int32) (v_newOuter : Nat → Int32) (v_newInner : Nat → Int32) (v_newContent : Nat → Int32) (v_now : Nat → Int32) (v_left : Nat → Int32) (v_box : Int32) (v_isCounted : Int32) (v_counted : Int32) (v_given : Nat → Int32) (v_isTermed : Int32) (v_terms : Int32) (v_term : Nat → Int32) (v_shape : Nat → Int32) (v_readBoxes : Int32) (v_readRow : Nat → Int32) (v_readColumn : Nat → Int32) (v_grid : Nat → Int32) (v_often : Nat → Int32) (v_seedNow : Int64) (v_isKept : Int32) (v_keptBoard : Int32) (v_keptKind : Int32) (v_keptRows : Int32) (v_keptSeen : Int32) (v_keptOuter : Nat → Int32) (v_keptInner : Nat → Int32) (v_keptContent : Nat → Int32) (v_keptWhat : Nat → Int32) (v_keptCan : Nat → Int32) (v_h : Int64) (fin : Int32 × (Nat → Int32) × Int32 × (Nat → Int32) × (Nat → Int32) × (Nat → Int32) × (Nat → Int32)) (hf : fX8_addTerm v_inner v_content v_terms v_term v_shape v_readRow v_readColumn v_grid v_often = some fin) : Ct l z (dC, dI) (tyL cI cB cE) yX8_addTerm wsX8_addTerm rmX8_addTerm [.ref (a 0)] (wX8 cI cB cE a v_boards v_kind v_rows v_outer v_inner v_content v_boxes v_rowOf v_columnOf v_seen v_seenWhat v_seenCan v_pageLength v_page v_isWhole v_newKind v_newRows v_newOuter v_newInner v_newContent v_now v_left v_box v_isCounted v_counted v_given v_isTermed v_terms v_term v_shape v_readBoxes v_readRow v_readColumn v_grid v_often v_seedNow v_isKept v_keptBoard v_keptKind v_keptRows v_keptSeen v_keptOuter v_keptInner v_keptContent v_keptWhat v_keptCan v_h) none (wX8 cI cB cE a v_boards v_kind v_rows v_outer v_inner v_content v_boxes v_rowOf v_columnOf v_seen v_seenWhat v_seenCan v_pageLength v_page v_isWhole v_newKind v_newRows v_newOuter v_newInner v_newContent v_now v_left v_box v_isCounted v_counted v_given v_isTermed fin.1 fin.2.1 v_shape fin.2.2.1 fin.2.2.2.1 fin.2.2.2.2.1 fin.2.2.2.2.2.1 fin.2.2.2.2.2.2 v_seedNow v_isKept v_keptBoard v_keptKind v_keptRows v_keptSeen v_keptOuter v_keptInner v_keptContent v_keptWhat v_keptCan v_h) := by
  refine Met.ofC (cc := cX8_addTerm) (maxL := 3) (ret := none) (by decide) rfl (Nat.le_of_ble_eq_true rfl) ?_
  intro p e s m args below meth c A Q ls hx hb hr hml hts hown hlocks hA hK hP hD hZ hS hQ hl
  have hown : s.vm.findClass RX8 = some m.cls := hown
  have hl : lv_has ls 3 [(0, .ref (a 0))] := hl
  unfold fX8_addTerm at hf
  refine lv_aload_n hx hb dX8_addTerm_0 rfl (lv_at hl 0 rfl) ?_
  obtain ⟨r_1, hr_1, hf⟩ := bd_some hf
  refine cx_runW (cx_V (As := []) (rest := []) ⟨hx, hb, hml, hown, hts⟩ (ctX8_timesNow l z dC dI cI cB cE a v_boards v_kind v_rows v_outer v_inner v_content v_boxes v_rowOf v_columnOf v_seen v_seenWhat v_seenCan v_pageLength v_page v_isWhole v_newKind v_newRows v_newOuter v_newInner v_newContent v_now v_left v_box v_isCounted v_counted v_given v_isTermed v_terms v_term v_shape v_readBoxes v_readRow v_readColumn v_grid v_often v_seedNow v_isKept v_keptBoard v_keptKind v_keptRows v_keptSeen v_keptOuter v_keptInner v_keptContent v_keptWhat v_keptCan v_h r_1 hr_1) (cwV 0 hts gX8_addTerm_X8_timesNow rfl rfl rfl (by decide +kernel) ⟨Nat.le_of_ble_eq_true rfl, Nat.le_of_ble_eq_true rfl⟩) hK hP hD hZ hS hA (ci := 8) (q0 := 0) rfl rfl rfl hl.1 rfl (Nat.le_of_ble_eq_true rfl) dX8_addTerm_1) hD hS hA [.int r_1.1] rfl (fun H locs hP hD hS => ?_)
  refine lv_istore_n (lv' := [(1, .int r_1.1), (0, .ref (a 0))]) hx hb dX8_addTerm_4 rfl hl (by decide) rfl (fun ls hl => ?_)
  refine lv_iload_n hx hb dX8_addTerm_5 rfl (lv_at hl 0 rfl) ?_
  have J65 : ∀ (v_terms_65 : Int32) (v_term_65 : Nat → Int32), fX8_addTerm_J65 r_1 v_terms_65 v_term_65 = some fin → ∀ (H : Heap) (locs : List Loc), va_P (dC, dI) vwCl (wX8 cI cB cE a v_boards v_kind v_rows v_outer v_inner v_content v_boxes v_rowOf v_columnOf v_seen v_seenWhat v_seenCan v_pageLength v_page v_isWhole v_newKind v_newRows v_newOuter v_newInner v_newContent v_now v_left v_box v_isCounted v_counted v_given v_isTermed v_terms_65 v_term_65 v_shape r_1.2.1 r_1.2.2.1 r_1.2.2.2.1 r_1.2.2.2.2.1 r_1.2.2.2.2.2 v_seedNow v_isKept v_keptBoard v_keptKind v_keptRows v_keptSeen v_keptOuter v_keptInner v_keptContent v_keptWhat v_keptCan v_h) H → va_D A (wX8 cI cB cE a v_boards v_kind v_rows v_outer v_inner v_content v_boxes v_rowOf v_columnOf v_seen v_seenWhat v_seenCan v_pageLength v_page v_isWhole v_newKind v_newRows v_newOuter v_newInner v_newContent v_now v_left v_box v_isCounted v_counted v_given v_isTermed v_terms_65 v_term_65 v_shape r_1.2.1 r_1.2.2.1 r_1.2.2.2.1 r_1.2.2.2.2.1 r_1.2.2.2.2.2 v_seedNow v_isKept v_keptBoard v_keptKind v_keptRows v_keptSeen v_keptOuter v_keptInner v_keptContent v_keptWhat v_keptCan v_h) → va_S A s.heap H locs → ∀ (ls : Array Slot), lv_has ls 3 [] → W p l e rmX8_addTerm s m args below meth c H locs 0 0 Q (F0 m 65 ls []) := by
    intro v_terms_65 v_term_65 hf H locs hP hD hS ls hl
    unfold fX8_addTerm_J65 at hf
    have hQ2 := hQ
    rw [← Option.some.inj hf] at hQ2
    exact cx_vret hQ2 hx hb hr hlocks hK hP hD hS dX8_addTerm_65
  refine lv_if_le (tgt := 65) hx hb dX8_addTerm_6 (by decide) (fun c_2 => ?_) (fun c_2 => ?_)
  · rw [if_pos c_2] at hf
    exact J65 v_terms v_term hf _ _ hP hD hS ls (lv_sub hl [] rfl)
  · rw [if_neg c_2] at hf
    refine lv_iconst (v := 0) hx hb dX8_addTerm_9 (by decide) ?_
    refine lv_istore_n (lv' := [(2, .int 0), (1, .int r_1.1), (0, .ref (a 0))]) hx hb dX8_addTerm_10 rfl hl (by decide) rfl (fun ls hl => ?_)
    have L11 : ∀ (n11 : Nat) (x2_11 : Int32) (v_term_11 : Nat → Int32), fX8_addTerm_L11 v_terms v_shape r_1 (fX8_addTerm_J65 r_1) n11 x2_11 v_term_11 = some fin → ∀ (H : Heap) (locs : List Loc), va_P (dC, dI) vwCl (wX8 cI cB cE a v_boards v_kind v_rows v_outer v_inner v_content v_boxes v_rowOf v_columnOf v_seen v_seenWhat v_seenCan v_pageLength v_page v_isWhole v_newKind v_newRows v_newOuter v_newInner v_newContent v_now v_left v_box v_isCounted v_counted v_given v_isTermed v_terms v_term_11 v_shape r_1.2.1 r_1.2.2.1 r_1.2.2.2.1 r_1.2.2.2.2.1 r_1.2.2.2.2.2 v_seedNow v_isKept v_keptBoard v_keptKind v_keptRows v_keptSeen v_keptOuter v_keptInner v_keptContent v_keptWhat v_keptCan v_h) H → va_D A (wX8 cI cB cE a v_boards v_kind v_rows v_outer v_inner v_content v_boxes v_rowOf v_columnOf v_seen v_seenWhat v_seenCan v_pageLength v_page v_isWhole v_newKind v_newRows v_newOuter v_newInner v_newContent v_now v_left v_box v_isCounted v_counted v_given v_isTermed v_terms v_term_11 v_shape r_1.2.1 r_1.2.2.1 r_1.2.2.2.1 r_1.2.2.2.2.1 r_1.2.2.2.2.2 v_seedNow v_isKept v_keptBoard v_keptKind v_keptRows v_keptSeen v_keptOuter v_keptInner v_keptContent v_keptWhat v_keptCan v_h) → va_S A s.heap H locs → ∀ (ls : Array Slot), lv_has ls 3 [(0, .ref (a 0)), (1, .int r_1.1), (2, .int x2_11)] → W p l e rmX8_addTerm s m args below meth c H locs 0 0 Q (F0 m 11 ls []) := by
      intro n11
      induction n11 with
      | zero =>
        intro x2_11 v_term_11 hf
        rw [fX8_addTerm_L11] at hf
        cases hf
      | succ n11 ih11 =>
        intro x2_11 v_term_11 hf H locs hP hD hS ls hl
        rw [fX8_addTerm_L11] at hf
        refine lv_iload_n hx hb dX8_addTerm_11 rfl (lv_at hl 2 rfl) ?_
        refine lv_iconst (v := 4) hx hb dX8_addTerm_12 (by decide) ?_
        refine lv_icmp_ge (tgt := 41) hx hb dX8_addTerm_13 (by decide) (fun c_3 => ?_) (fun c_3 => ?_)
        · rw [if_pos c_3] at hf
          refine lv_aload_n hx hb dX8_addTerm_41 rfl (lv_at hl 0 rfl) ?_
          refine va_get (D := (dC, dI)) (ci := 8) (C := RX8) (T := TX8) (N := 47) hx hb hts (fun _ h => List.mem_cons_of_mem _ (List.mem_append_right _ h)) hown hK hP 0 rfl rfl 28 (by decide) (hts (.fieldLink RX8 53 "SkewBoardModel" "term" "[I") (List.mem_of_getElem? (i := 1) rfl)) (fun _ h9 => h9) rfl dX8_addTerm_42 ?_
          refine lv_iconst (v := 5) hx hb dX8_addTerm_45 (by decide) ?_
          refine lv_aload_n hx hb dX8_addTerm_46 rfl (lv_at hl 0 rfl) ?_
          refine va_get (D := (dC, dI)) (ci := 8) (C := RX8) (T := TX8) (N := 47) hx hb hts (fun _ h => List.mem_cons_of_mem _ (List.mem_append_right _ h)) hown hK hP 0 rfl rfl 27 (by decide) (hts (.fieldLink RX8 248 "SkewBoardModel" "terms" "I") (List.mem_of_getElem? (i := 2) rfl)) (fun _ h9 => h9) rfl dX8_addTerm_47 ?_
          refine lv_imul hx hb dX8_addTerm_50 ?_
          refine lv_iconst (v := 4) hx hb dX8_addTerm_51 (by decide) ?_
          refine lv_iadd hx hb dX8_addTerm_52 ?_
          refine lv_iload_n hx hb dX8_addTerm_53 rfl (lv_at hl 1 rfl) ?_
          obtain ⟨g_4, hf⟩ := gd_some hf
          refine va_iast hx hb hK hP hD hS 15 0 rfl rfl (inb_vp g_4) dX8_addTerm_54 (fun H locs hP hD hS => ?_)
          have hP : va_P (dC, dI) vwCl (wX8 cI cB cE a v_boards v_kind v_rows v_outer v_inner v_content v_boxes v_rowOf v_columnOf v_seen v_seenWhat v_seenCan v_pageLength v_page v_isWhole v_newKind v_newRows v_newOuter v_newInner v_newContent v_now v_left v_box v_isCounted v_counted v_given v_isTermed v_terms (upd v_term_11 ((5 * v_terms) + 4).toNatClampNeg r_1.1) v_shape r_1.2.1 r_1.2.2.1 r_1.2.2.2.1 r_1.2.2.2.2.1 r_1.2.2.2.2.2 v_seedNow v_isKept v_keptBoard v_keptKind v_keptRows v_keptSeen v_keptOuter v_keptInner v_keptContent v_keptWhat v_keptCan v_h) H := hP
          have hD : va_D A (wX8 cI cB cE a v_boards v_kind v_rows v_outer v_inner v_content v_boxes v_rowOf v_columnOf v_seen v_seenWhat v_seenCan v_pageLength v_page v_isWhole v_newKind v_newRows v_newOuter v_newInner v_newContent v_now v_left v_box v_isCounted v_counted v_given v_isTermed v_terms (upd v_term_11 ((5 * v_terms) + 4).toNatClampNeg r_1.1) v_shape r_1.2.1 r_1.2.2.1 r_1.2.2.2.1 r_1.2.2.2.2.1 r_1.2.2.2.2.2 v_seedNow v_isKept v_keptBoard v_keptKind v_keptRows v_keptSeen v_keptOuter v_keptInner v_keptContent v_keptWhat v_keptCan v_h) := hD
          refine lv_aload_n hx hb dX8_addTerm_55 rfl (lv_at hl 0 rfl) ?_
          refine lv_dup hx hb dX8_addTerm_56 rfl ?_
          refine va_get (D := (dC, dI)) (ci := 8) (C := RX8) (T := TX8) (N := 47) hx hb hts (fun _ h => List.mem_cons_of_mem _ (List.mem_append_right _ h)) hown hK hP 0 rfl rfl 27 (by decide) (hts (.fieldLink RX8 248 "SkewBoardModel" "terms" "I") (List.mem_of_getElem? (i := 2) rfl)) (fun _ h9 => h9) rfl dX8_addTerm_57 ?_
          refine lv_iconst (v := 1) hx hb dX8_addTerm_60 (by decide) ?_
          refine lv_iadd hx hb dX8_addTerm_61 ?_
          refine va_put (D := (dC, dI)) (ci := 8) (v := .int (v_terms + 1)) (ty := .int) (C := RX8) (T := TX8) (N := 47) hx hb hts (fun _ h => List.mem_cons_of_mem _ (List.mem_append_right _ h)) tyX8 tyX8_ok nmX8 hown hK hP hD hS 0 rfl rfl 27 (by decide) (hts (.fieldLink RX8 248 "SkewBoardModel" "terms" "I") (List.mem_of_getElem? (i := 2) rfl)) (fun _ h9 => h9) rfl (by decide +kernel) rfl rfl (Nat.le_of_ble_eq_true rfl) dX8_addTerm_62 (fun H locs hP hD hS => ?_)
          have hP : va_P (dC, dI) vwCl (wX8 cI cB cE a v_boards v_kind v_rows v_outer v_inner v_content v_boxes v_rowOf v_columnOf v_seen v_seenWhat v_seenCan v_pageLength v_page v_isWhole v_newKind v_newRows v_newOuter v_newInner v_newContent v_now v_left v_box v_isCounted v_counted v_given v_isTermed (v_terms + 1) (upd v_term_11 ((5 * v_terms) + 4).toNatClampNeg r_1.1) v_shape r_1.2.1 r_1.2.2.1 r_1.2.2.2.1 r_1.2.2.2.2.1 r_1.2.2.2.2.2 v_seedNow v_isKept v_keptBoard v_keptKind v_keptRows v_keptSeen v_keptOuter v_keptInner v_keptContent v_keptWhat v_keptCan v_h) H := hP
          have hD : va_D A (wX8 cI cB cE a v_boards v_kind v_rows v_outer v_inner v_content v_boxes v_rowOf v_columnOf v_seen v_seenWhat v_seenCan v_pageLength v_page v_isWhole v_newKind v_newRows v_newOuter v_newInner v_newContent v_now v_left v_box v_isCounted v_counted v_given v_isTermed (v_terms + 1) (upd v_term_11 ((5 * v_terms) + 4).toNatClampNeg r_1.1) v_shape r_1.2.1 r_1.2.2.1 r_1.2.2.2.1 r_1.2.2.2.2.1 r_1.2.2.2.2.2 v_seedNow v_isKept v_keptBoard v_keptKind v_keptRows v_keptSeen v_keptOuter v_keptInner v_keptContent v_keptWhat v_keptCan v_h) := hD
          exact J65 (v_terms + 1) (upd v_term_11 ((5 * v_terms) + 4).toNatClampNeg r_1.1) hf _ _ hP hD hS ls (lv_sub hl [] rfl)
        · rw [if_neg c_3] at hf
          refine lv_aload_n hx hb dX8_addTerm_16 rfl (lv_at hl 0 rfl) ?_
          refine va_get (D := (dC, dI)) (ci := 8) (C := RX8) (T := TX8) (N := 47) hx hb hts (fun _ h => List.mem_cons_of_mem _ (List.mem_append_right _ h)) hown hK hP 0 rfl rfl 28 (by decide) (hts (.fieldLink RX8 53 "SkewBoardModel" "term" "[I") (List.mem_of_getElem? (i := 1) rfl)) (fun _ h9 => h9) rfl dX8_addTerm_17 ?_
          refine lv_iconst (v := 5) hx hb dX8_addTerm_20 (by decide) ?_
          refine lv_aload_n hx hb dX8_addTerm_21 rfl (lv_at hl 0 rfl) ?_
          refine va_get (D := (dC, dI)) (ci := 8) (C := RX8) (T := TX8) (N := 47) hx hb hts (fun _ h => List.mem_cons_of_mem _ (List.mem_append_right _ h)) hown hK hP 0 rfl rfl 27 (by decide) (hts (.fieldLink RX8 248 "SkewBoardModel" "terms" "I") (List.mem_of_getElem? (i := 2) rfl)) (fun _ h9 => h9) rfl dX8_addTerm_22 ?_
          refine lv_imul hx hb dX8_addTerm_25 ?_
          refine lv_iload_n hx hb dX8_addTerm_26 rfl (lv_at hl 2 rfl) ?_
          refine lv_iadd hx hb dX8_addTerm_27 ?_
          refine lv_aload_n hx hb dX8_addTerm_28 rfl (lv_at hl 0 rfl) ?_
          refine va_get (D := (dC, dI)) (ci := 8) (C := RX8) (T := TX8) (N := 47) hx hb hts (fun _ h => List.mem_cons_of_mem _ (List.mem_append_right _ h)) hown hK hP 0 rfl rfl 29 (by decide) (hts (.fieldLink RX8 56 "SkewBoardModel" "shape" "[I") (List.mem_of_getElem? (i := 3) rfl)) (fun _ h9 => h9) rfl dX8_addTerm_29 ?_
          refine lv_iload_n hx hb dX8_addTerm_32 rfl (lv_at hl 2 rfl) ?_
          obtain ⟨g_5, hf⟩ := gd_some hf
          refine va_iald hx hb hK hP 16 0 rfl rfl (inb_vp g_5) dX8_addTerm_33 ?_
          obtain ⟨g_6, hf⟩ := gd_some hf
          refine va_iast hx hb hK hP hD hS 15 0 rfl rfl (inb_vp g_6) dX8_addTerm_34 (fun H locs hP hD hS => ?_)
          have hP : va_P (dC, dI) vwCl (wX8 cI cB cE a v_boards v_kind v_rows v_outer v_inner v_content v_boxes v_rowOf v_columnOf v_seen v_seenWhat v_seenCan v_pageLength v_page v_isWhole v_newKind v_newRows v_newOuter v_newInner v_newContent v_now v_left v_box v_isCounted v_counted v_given v_isTermed v_terms (upd v_term_11 ((5 * v_terms) + x2_11).toNatClampNeg (v_shape x2_11.toNatClampNeg)) v_shape r_1.2.1 r_1.2.2.1 r_1.2.2.2.1 r_1.2.2.2.2.1 r_1.2.2.2.2.2 v_seedNow v_isKept v_keptBoard v_keptKind v_keptRows v_keptSeen v_keptOuter v_keptInner v_keptContent v_keptWhat v_keptCan v_h) H := hP
          have hD : va_D A (wX8 cI cB cE a v_boards v_kind v_rows v_outer v_inner v_content v_boxes v_rowOf v_columnOf v_seen v_seenWhat v_seenCan v_pageLength v_page v_isWhole v_newKind v_newRows v_newOuter v_newInner v_newContent v_now v_left v_box v_isCounted v_counted v_given v_isTermed v_terms (upd v_term_11 ((5 * v_terms) + x2_11).toNatClampNeg (v_shape x2_11.toNatClampNeg)) v_shape r_1.2.1 r_1.2.2.1 r_1.2.2.2.1 r_1.2.2.2.2.1 r_1.2.2.2.2.2 v_seedNow v_isKept v_keptBoard v_keptKind v_keptRows v_keptSeen v_keptOuter v_keptInner v_keptContent v_keptWhat v_keptCan v_h) := hD
          refine lv_iinc (v := (x2_11 + 1)) (lv' := [(2, .int (x2_11 + 1)), (0, .ref (a 0)), (1, .int r_1.1)]) hx hb dX8_addTerm_35 hl (k := 2) rfl rfl (by decide) rfl (fun ls hl => ?_)
          refine lv_goto (tgt := 11) hx hb dX8_addTerm_38 (by decide) ?_
          exact ih11 (x2_11 + 1) (upd v_term_11 ((5 * v_terms) + x2_11).toNatClampNeg (v_shape x2_11.toNatClampNeg)) hf _ _ hP hD hS ls (lv_sub hl [1, 2, 0] rfl)
    exact L11 fu 0 v_term hf _ _ hP hD hS ls (lv_sub hl [2, 1, 0] rfl)

def fX8_layLower_J67 (x2_7 : Int32) (k7 : Int32 → Int32 → (Nat → Int32) → (Nat → Int32) → Int32 → (Nat → Int32) → (Nat → Int32) → (Nat → Int32) → (Nat → Int32) → Option (Int32 × (Nat → Int32) × (Nat → Int32) × Int32 × (Nat → Int32) × (Nat → Int32) × (Nat → Int32) × (Nat → Int32))) (v_terms_67 : Int32) (v_term_67 : Nat → Int32) (v_shape_67 : Nat → Int32) (v_readBoxes_67 : Int32) (v_readRow_67 : Nat → Int32) (v_readColumn_67 : Nat → Int32) (v_grid_67 : Nat → Int32) (v_often_67 : Nat → Int32) : Option (Int32 × (Nat → Int32) × (Nat → Int32) × Int32 × (Nat → Int32) × (Nat → Int32) × (Nat → Int32) × (Nat → Int32)) :=
    k7 (x2_7 + (-1)) v_terms_67 v_term_67 v_shape_67 v_readBoxes_67 v_readRow_67 v_readColumn_67 v_grid_67 v_often_67
def fX8_layLower_L7 (v_inner : Nat → Int32) (v_content : Nat → Int32) (p1 : Int32) : Nat → Int32 → Int32 → (Nat → Int32) → (Nat → Int32) → Int32 → (Nat → Int32) → (Nat → Int32) → (Nat → Int32) → (Nat → Int32) → Option (Int32 × (Nat → Int32) × (Nat → Int32) × Int32 × (Nat → Int32) × (Nat → Int32) × (Nat → Int32) × (Nat → Int32))
  | 0, _, _, _, _, _, _, _, _, _ => none
  | n + 1, x2_7, v_terms_7, v_term_7, v_shape_7, v_readBoxes_7, v_readRow_7, v_readColumn_7, v_grid_7, v_often_7 =>
    if x2_7 < (v_inner (2 : Int32).toNatClampNeg) then (some (v_terms_7, v_term_7, v_shape_7, v_readBoxes_7, v_readRow_7, v_readColumn_7, v_grid_7, v_often_7)) else (if (p1 - (x2_7 - (v_inner (2 : Int32).toNatClampNeg))) < 0 then (fX8_layLower_J67 x2_7 (fX8_layLower_L7 v_inner v_content p1 n) v_terms_7 v_term_7 v_shape_7 v_readBoxes_7 v_readRow_7 v_readColumn_7 v_grid_7 v_often_7) else (if x2_7 < ((v_inner (3 : Int32).toNatClampNeg) + (p1 - (x2_7 - (v_inner (2 : Int32).toNatClampNeg)))) then (fX8_layLower_J67 x2_7 (fX8_layLower_L7 v_inner v_content p1 n) v_terms_7 v_term_7 v_shape_7 v_readBoxes_7 v_readRow_7 v_readColumn_7 v_grid_7 v_often_7) else (bd (fX8_addTerm v_inner v_content v_terms_7 v_term_7 (upd (upd v_shape_7 (2 : Int32).toNatClampNeg x2_7) (3 : Int32).toNatClampNeg ((v_inner (3 : Int32).toNatClampNeg) + (p1 - (x2_7 - (v_inner (2 : Int32).toNatClampNeg))))) v_readRow_7 v_readColumn_7 v_grid_7 v_often_7) (fun r_4 => fX8_layLower_J67 x2_7 (fX8_layLower_L7 v_inner v_content p1 n) r_4.1 r_4.2.1 (upd (upd v_shape_7 (2 : Int32).toNatClampNeg x2_7) (3 : Int32).toNatClampNeg ((v_inner (3 : Int32).toNatClampNeg) + (p1 - (x2_7 - (v_inner (2 : Int32).toNatClampNeg))))) r_4.2.2.1 r_4.2.2.2.1 r_4.2.2.2.2.1 r_4.2.2.2.2.2.1 r_4.2.2.2.2.2.2))))
def fX8_layLower (p1 : Int32) (v_inner : Nat → Int32) (v_content : Nat → Int32) (v_terms : Int32) (v_term : Nat → Int32) (v_shape : Nat → Int32) (v_readBoxes : Int32) (v_readRow : Nat → Int32) (v_readColumn : Nat → Int32) (v_grid : Nat → Int32) (v_often : Nat → Int32) : Option (Int32 × (Nat → Int32) × (Nat → Int32) × Int32 × (Nat → Int32) × (Nat → Int32) × (Nat → Int32) × (Nat → Int32)) :=
  fX8_layLower_L7 v_inner v_content p1 fu (v_shape (1 : Int32).toNatClampNeg) v_terms v_term v_shape v_readBoxes v_readRow v_readColumn v_grid v_often
def rmX8_layLower : Room := { frames := 4, cells := 0, slots := 0, locals := 92 }
set_option maxRecDepth 100000 in
set_option maxHeartbeats 4000000 in
theorem ctX8_layLower (l : Launch) (z : Nat × Nat × Nat) (dC : Nat → ClassId) (dI : Nat → Nat → Nat) (cI cB cE : ClassId) (a : Nat → Nat) (v_boards : Int32) (v_kind : Int32) (v_rows : Int32) (v_outer : Nat → Int32) (v_inner : Nat → Int32) (v_content : Nat → Int32) (v_boxes : Int32) (v_rowOf : Nat → Int32) (v_columnOf : Nat → Int32) (v_seen : Int32) (v_seenWhat : Nat → Int32) (v_seenCan : Nat → Int32) (v_pageLength : Int32) (v_page : Nat → Int32) (v_isWhole : Int32) (v_newKind : Int32) (v_newRows : Int32) (v_newOuter : Nat → Int32) (v_newInner : Nat → Int32) (v_newContent : Nat → Int32) (v_now : Nat → Int32) (v_left : Nat → Int32) (v_box : Int32) (v_isCounted : Int32) (v_counted : Int32) (v_given : Nat → Int32) (v_isTermed : Int32) (v_terms : Int32) (v_term : Nat → Int32) (v_shape : Nat → Int32) (v_readBoxes : Int32) (v_readRow : Nat → Int32) (v_readColumn : Nat → Int32) (v_grid : Nat → Int32) (v_often : Nat → Int32) (v_seedNow : Int64) (v_isKept : Int32) (v_keptBoard : Int32) (v_keptKind : Int32) (v_keptRows : Int32) (v_keptSeen : Int32) (v_keptOuter : Nat → Int32) (v_keptInner : Nat → Int32) (v_keptContent : Nat → Int32) (v_keptWhat : Nat → Int32) (v_keptCan : Nat → Int32) (v_h : Int64) (p1 : Int32) (fin : Int32 × (Nat → Int32) × (Nat → Int32) × Int32 × (Nat → Int32) × (Nat → Int32) × (Nat → Int32) × (Nat → Int32)) (hf : fX8_layLower p1 v_inner v_content v_terms v_term v_shape v_readBoxes v_readRow v_readColumn v_grid v_often = some fin) : Ct l z (dC, dI) (tyL cI cB cE) yX8_layLower wsX8_layLower rmX8_layLower [.ref (a 0), .int p1] (wX8 cI cB cE a v_boards v_kind v_rows v_outer v_inner v_content v_boxes v_rowOf v_columnOf v_seen v_seenWhat v_seenCan v_pageLength v_page v_isWhole v_newKind v_newRows v_newOuter v_newInner v_newContent v_now v_left v_box v_isCounted v_counted v_given v_isTermed v_terms v_term v_shape v_readBoxes v_readRow v_readColumn v_grid v_often v_seedNow v_isKept v_keptBoard v_keptKind v_keptRows v_keptSeen v_keptOuter v_keptInner v_keptContent v_keptWhat v_keptCan v_h) none (wX8 cI cB cE a v_boards v_kind v_rows v_outer v_inner v_content v_boxes v_rowOf v_columnOf v_seen v_seenWhat v_seenCan v_pageLength v_page v_isWhole v_newKind v_newRows v_newOuter v_newInner v_newContent v_now v_left v_box v_isCounted v_counted v_given v_isTermed fin.1 fin.2.1 fin.2.2.1 fin.2.2.2.1 fin.2.2.2.2.1 fin.2.2.2.2.2.1 fin.2.2.2.2.2.2.1 fin.2.2.2.2.2.2.2 v_seedNow v_isKept v_keptBoard v_keptKind v_keptRows v_keptSeen v_keptOuter v_keptInner v_keptContent v_keptWhat v_keptCan v_h) := by
  refine Met.ofC (cc := cX8_layLower) (maxL := 5) (ret := none) (by decide) rfl (Nat.le_of_ble_eq_true rfl) ?_
  intro p e s m args below meth c A Q ls hx hb hr hml hts hown hlocks hA hK hP hD hZ hS hQ hl
  have hown : s.vm.findClass RX8 = some m.cls := hown
  have hl : lv_has ls 5 [(0, .ref (a 0)), (1, .int p1)] := hl
  unfold fX8_layLower at hf
  refine lv_aload_n hx hb dX8_layLower_0 rfl (lv_at hl 0 rfl) ?_
  refine va_get (D := (dC, dI)) (ci := 8) (C := RX8) (T := TX8) (N := 47) hx hb hts (fun _ h => List.mem_cons_of_mem _ (List.mem_append_right _ h)) hown hK hP 0 rfl rfl 29 (by decide) (hts (.fieldLink RX8 56 "SkewBoardModel" "shape" "[I") (List.mem_of_getElem? (i := 1) rfl)) (fun _ h9 => h9) rfl dX8_layLower_1 ?_
  refine lv_iconst (v := 1) hx hb dX8_layLower_4 (by decide) ?_
  refine va_iald hx hb hK hP 16 0 rfl rfl (inb_vp (show inb 1 4 = true by decide)) dX8_layLower_5 ?_
  refine lv_istore_n (lv' := [(2, .int (v_shape (1 : Int32).toNatClampNeg)), (0, .ref (a 0)), (1, .int p1)]) hx hb dX8_layLower_6 rfl hl (by decide) rfl (fun ls hl => ?_)
  have L7 : ∀ (n7 : Nat) (x2_7 : Int32) (v_terms_7 : Int32) (v_term_7 : Nat → Int32) (v_shape_7 : Nat → Int32) (v_readBoxes_7 : Int32) (v_readRow_7 : Nat → Int32) (v_readColumn_7 : Nat → Int32) (v_grid_7 : Nat → Int32) (v_often_7 : Nat → Int32), fX8_layLower_L7 v_inner v_content p1 n7 x2_7 v_terms_7 v_term_7 v_shape_7 v_readBoxes_7 v_readRow_7 v_readColumn_7 v_grid_7 v_often_7 = some fin → ∀ (H : Heap) (locs : List Loc), va_P (dC, dI) vwCl (wX8 cI cB cE a v_boards v_kind v_rows v_outer v_inner v_content v_boxes v_rowOf v_columnOf v_seen v_seenWhat v_seenCan v_pageLength v_page v_isWhole v_newKind v_newRows v_newOuter v_newInner v_newContent v_now v_left v_box v_isCounted v_counted v_given v_isTermed v_terms_7 v_term_7 v_shape_7 v_readBoxes_7 v_readRow_7 v_readColumn_7 v_grid_7 v_often_7 v_seedNow v_isKept v_keptBoard v_keptKind v_keptRows v_keptSeen v_keptOuter v_keptInner v_keptContent v_keptWhat v_keptCan v_h) H → va_D A (wX8 cI cB cE a v_boards v_kind v_rows v_outer v_inner v_content v_boxes v_rowOf v_columnOf v_seen v_seenWhat v_seenCan v_pageLength v_page v_isWhole v_newKind v_newRows v_newOuter v_newInner v_newContent v_now v_left v_box v_isCounted v_counted v_given v_isTermed v_terms_7 v_term_7 v_shape_7 v_readBoxes_7 v_readRow_7 v_readColumn_7 v_grid_7 v_often_7 v_seedNow v_isKept v_keptBoard v_keptKind v_keptRows v_keptSeen v_keptOuter v_keptInner v_keptContent v_keptWhat v_keptCan v_h) → va_S A s.heap H locs → ∀ (ls : Array Slot), lv_has ls 5 [(0, .ref (a 0)), (1, .int p1), (2, .int x2_7)] → W p l e rmX8_layLower s m args below meth c H locs 0 0 Q (F0 m 7 ls []) := by
    intro n7
    induction n7 with
    | zero =>
      intro x2_7 v_terms_7 v_term_7 v_shape_7 v_readBoxes_7 v_readRow_7 v_readColumn_7 v_grid_7 v_often_7 hf
      rw [fX8_layLower_L7] at hf
      cases hf
    | succ n7 ih7 =>
      intro x2_7 v_terms_7 v_term_7 v_shape_7 v_readBoxes_7 v_readRow_7 v_readColumn_7 v_grid_7 v_often_7 hf H locs hP hD hS ls hl
      rw [fX8_layLower_L7] at hf
      refine lv_iload_n hx hb dX8_layLower_7 rfl (lv_at hl 2 rfl) ?_
      refine lv_aload_n hx hb dX8_layLower_8 rfl (lv_at hl 0 rfl) ?_
      refine va_get (D := (dC, dI)) (ci := 8) (C := RX8) (T := TX8) (N := 47) hx hb hts (fun _ h => List.mem_cons_of_mem _ (List.mem_append_right _ h)) hown hK hP 0 rfl rfl 4 (by decide) (hts (.fieldLink RX8 13 "SkewBoardModel" "inner" "[I") (List.mem_of_getElem? (i := 2) rfl)) (fun _ h9 => h9) rfl dX8_layLower_9 ?_
      refine lv_iconst (v := 2) hx hb dX8_layLower_12 (by decide) ?_
      refine va_iald hx hb hK hP 2 0 rfl rfl (inb_vp (show inb 2 4 = true by decide)) dX8_layLower_13 ?_
      refine lv_icmp_lt (tgt := 73) hx hb dX8_layLower_14 (by decide) (fun c_1 => ?_) (fun c_1 => ?_)
      · rw [if_pos c_1] at hf
        have hQ2 := hQ
        rw [← Option.some.inj hf] at hQ2
        exact cx_vret hQ2 hx hb hr hlocks hK hP hD hS dX8_layLower_73
      · rw [if_neg c_1] at hf
        refine lv_iload_n hx hb dX8_layLower_17 rfl (lv_at hl 1 rfl) ?_
        refine lv_iload_n hx hb dX8_layLower_18 rfl (lv_at hl 2 rfl) ?_
        refine lv_aload_n hx hb dX8_layLower_19 rfl (lv_at hl 0 rfl) ?_
        refine va_get (D := (dC, dI)) (ci := 8) (C := RX8) (T := TX8) (N := 47) hx hb hts (fun _ h => List.mem_cons_of_mem _ (List.mem_append_right _ h)) hown hK hP 0 rfl rfl 4 (by decide) (hts (.fieldLink RX8 13 "SkewBoardModel" "inner" "[I") (List.mem_of_getElem? (i := 2) rfl)) (fun _ h9 => h9) rfl dX8_layLower_20 ?_
        refine lv_iconst (v := 2) hx hb dX8_layLower_23 (by decide) ?_
        refine va_iald hx hb hK hP 2 0 rfl rfl (inb_vp (show inb 2 4 = true by decide)) dX8_layLower_24 ?_
        refine lv_isub hx hb dX8_layLower_25 ?_
        refine lv_isub hx hb dX8_layLower_26 ?_
        refine lv_istore_n (lv' := [(3, .int (p1 - (x2_7 - (v_inner (2 : Int32).toNatClampNeg)))), (0, .ref (a 0)), (1, .int p1), (2, .int x2_7)]) hx hb dX8_layLower_27 rfl hl (by decide) rfl (fun ls hl => ?_)
        refine lv_aload_n hx hb dX8_layLower_28 rfl (lv_at hl 1 rfl) ?_
        refine va_get (D := (dC, dI)) (ci := 8) (C := RX8) (T := TX8) (N := 47) hx hb hts (fun _ h => List.mem_cons_of_mem _ (List.mem_append_right _ h)) hown hK hP 0 rfl rfl 4 (by decide) (hts (.fieldLink RX8 13 "SkewBoardModel" "inner" "[I") (List.mem_of_getElem? (i := 2) rfl)) (fun _ h9 => h9) rfl dX8_layLower_29 ?_
        refine lv_iconst (v := 3) hx hb dX8_layLower_32 (by decide) ?_
        refine va_iald hx hb hK hP 2 0 rfl rfl (inb_vp (show inb 3 4 = true by decide)) dX8_layLower_33 ?_
        refine lv_iload_n hx hb dX8_layLower_34 rfl (lv_at hl 0 rfl) ?_
        refine lv_iadd hx hb dX8_layLower_35 ?_
        refine lv_istore (lv' := [(4, .int ((v_inner (3 : Int32).toNatClampNeg) + (p1 - (x2_7 - (v_inner (2 : Int32).toNatClampNeg))))), (3, .int (p1 - (x2_7 - (v_inner (2 : Int32).toNatClampNeg)))), (0, .ref (a 0)), (1, .int p1), (2, .int x2_7)]) hx hb dX8_layLower_36 hl (by decide) rfl (fun ls hl => ?_)
        refine lv_iload_n hx hb dX8_layLower_38 rfl (lv_at hl 1 rfl) ?_
        have J67 : ∀ (v_terms_67 : Int32) (v_term_67 : Nat → Int32) (v_shape_67 : Nat → Int32) (v_readBoxes_67 : Int32) (v_readRow_67 : Nat → Int32) (v_readColumn_67 : Nat → Int32) (v_grid_67 : Nat → Int32) (v_often_67 : Nat → Int32), fX8_layLower_J67 x2_7 (fX8_layLower_L7 v_inner v_content p1 n7) v_terms_67 v_term_67 v_shape_67 v_readBoxes_67 v_readRow_67 v_readColumn_67 v_grid_67 v_often_67 = some fin → ∀ (H : Heap) (locs : List Loc), va_P (dC, dI) vwCl (wX8 cI cB cE a v_boards v_kind v_rows v_outer v_inner v_content v_boxes v_rowOf v_columnOf v_seen v_seenWhat v_seenCan v_pageLength v_page v_isWhole v_newKind v_newRows v_newOuter v_newInner v_newContent v_now v_left v_box v_isCounted v_counted v_given v_isTermed v_terms_67 v_term_67 v_shape_67 v_readBoxes_67 v_readRow_67 v_readColumn_67 v_grid_67 v_often_67 v_seedNow v_isKept v_keptBoard v_keptKind v_keptRows v_keptSeen v_keptOuter v_keptInner v_keptContent v_keptWhat v_keptCan v_h) H → va_D A (wX8 cI cB cE a v_boards v_kind v_rows v_outer v_inner v_content v_boxes v_rowOf v_columnOf v_seen v_seenWhat v_seenCan v_pageLength v_page v_isWhole v_newKind v_newRows v_newOuter v_newInner v_newContent v_now v_left v_box v_isCounted v_counted v_given v_isTermed v_terms_67 v_term_67 v_shape_67 v_readBoxes_67 v_readRow_67 v_readColumn_67 v_grid_67 v_often_67 v_seedNow v_isKept v_keptBoard v_keptKind v_keptRows v_keptSeen v_keptOuter v_keptInner v_keptContent v_keptWhat v_keptCan v_h) → va_S A s.heap H locs → ∀ (ls : Array Slot), lv_has ls 5 [(0, .ref (a 0)), (1, .int p1), (2, .int x2_7)] → W p l e rmX8_layLower s m args below meth c H locs 0 0 Q (F0 m 67 ls []) := by
          intro v_terms_67 v_term_67 v_shape_67 v_readBoxes_67 v_readRow_67 v_readColumn_67 v_grid_67 v_often_67 hf H locs hP hD hS ls hl
          unfold fX8_layLower_J67 at hf
          refine lv_iinc (v := (x2_7 + (-1))) (lv' := [(2, .int (x2_7 + (-1))), (0, .ref (a 0)), (1, .int p1)]) hx hb dX8_layLower_67 hl (k := 2) rfl rfl (by decide) rfl (fun ls hl => ?_)
          refine lv_goto (tgt := 7) hx hb dX8_layLower_70 (by decide) ?_
          exact ih7 (x2_7 + (-1)) v_terms_67 v_term_67 v_shape_67 v_readBoxes_67 v_readRow_67 v_readColumn_67 v_grid_67 v_often_67 hf _ _ hP hD hS ls (lv_sub hl [1, 2, 0] rfl)
        refine lv_if_lt (tgt := 67) hx hb dX8_layLower_39 (by decide) (fun c_2 => ?_) (fun c_2 => ?_)
        · rw [if_pos c_2] at hf
          exact J67 v_terms_7 v_term_7 v_shape_7 v_readBoxes_7 v_readRow_7 v_readColumn_7 v_grid_7 v_often_7 hf _ _ hP hD hS ls (lv_sub hl [2, 3, 4] rfl)
        · rw [if_neg c_2] at hf
          refine lv_iload hx hb dX8_layLower_42 (lv_at hl 0 rfl) ?_
          refine lv_iload_n hx hb dX8_layLower_44 rfl (lv_at hl 4 rfl) ?_
          refine lv_icmp_gt (tgt := 67) hx hb dX8_layLower_45 (by decide) (fun c_3 => ?_) (fun c_3 => ?_)
          · rw [if_pos c_3] at hf
            exact J67 v_terms_7 v_term_7 v_shape_7 v_readBoxes_7 v_readRow_7 v_readColumn_7 v_grid_7 v_often_7 hf _ _ hP hD hS ls (lv_sub hl [2, 3, 4] rfl)
          · rw [if_neg c_3] at hf
            refine lv_aload_n hx hb dX8_layLower_48 rfl (lv_at hl 2 rfl) ?_
            refine va_get (D := (dC, dI)) (ci := 8) (C := RX8) (T := TX8) (N := 47) hx hb hts (fun _ h => List.mem_cons_of_mem _ (List.mem_append_right _ h)) hown hK hP 0 rfl rfl 29 (by decide) (hts (.fieldLink RX8 56 "SkewBoardModel" "shape" "[I") (List.mem_of_getElem? (i := 1) rfl)) (fun _ h9 => h9) rfl dX8_layLower_49 ?_
            refine lv_iconst (v := 2) hx hb dX8_layLower_52 (by decide) ?_
            refine lv_iload_n hx hb dX8_layLower_53 rfl (lv_at hl 4 rfl) ?_
            refine va_iast hx hb hK hP hD hS 16 0 rfl rfl (inb_vp (show inb 2 4 = true by decide)) dX8_layLower_54 (fun H locs hP hD hS => ?_)
            have hP : va_P (dC, dI) vwCl (wX8 cI cB cE a v_boards v_kind v_rows v_outer v_inner v_content v_boxes v_rowOf v_columnOf v_seen v_seenWhat v_seenCan v_pageLength v_page v_isWhole v_newKind v_newRows v_newOuter v_newInner v_newContent v_now v_left v_box v_isCounted v_counted v_given v_isTermed v_terms_7 v_term_7 (upd v_shape_7 (2 : Int32).toNatClampNeg x2_7) v_readBoxes_7 v_readRow_7 v_readColumn_7 v_grid_7 v_often_7 v_seedNow v_isKept v_keptBoard v_keptKind v_keptRows v_keptSeen v_keptOuter v_keptInner v_keptContent v_keptWhat v_keptCan v_h) H := hP
            have hD : va_D A (wX8 cI cB cE a v_boards v_kind v_rows v_outer v_inner v_content v_boxes v_rowOf v_columnOf v_seen v_seenWhat v_seenCan v_pageLength v_page v_isWhole v_newKind v_newRows v_newOuter v_newInner v_newContent v_now v_left v_box v_isCounted v_counted v_given v_isTermed v_terms_7 v_term_7 (upd v_shape_7 (2 : Int32).toNatClampNeg x2_7) v_readBoxes_7 v_readRow_7 v_readColumn_7 v_grid_7 v_often_7 v_seedNow v_isKept v_keptBoard v_keptKind v_keptRows v_keptSeen v_keptOuter v_keptInner v_keptContent v_keptWhat v_keptCan v_h) := hD
            refine lv_aload_n hx hb dX8_layLower_55 rfl (lv_at hl 2 rfl) ?_
            refine va_get (D := (dC, dI)) (ci := 8) (C := RX8) (T := TX8) (N := 47) hx hb hts (fun _ h => List.mem_cons_of_mem _ (List.mem_append_right _ h)) hown hK hP 0 rfl rfl 29 (by decide) (hts (.fieldLink RX8 56 "SkewBoardModel" "shape" "[I") (List.mem_of_getElem? (i := 1) rfl)) (fun _ h9 => h9) rfl dX8_layLower_56 ?_
            refine lv_iconst (v := 3) hx hb dX8_layLower_59 (by decide) ?_
            refine lv_iload hx hb dX8_layLower_60 (lv_at hl 0 rfl) ?_
            refine va_iast hx hb hK hP hD hS 16 0 rfl rfl (inb_vp (show inb 3 4 = true by decide)) dX8_layLower_62 (fun H locs hP hD hS => ?_)
            have hP : va_P (dC, dI) vwCl (wX8 cI cB cE a v_boards v_kind v_rows v_outer v_inner v_content v_boxes v_rowOf v_columnOf v_seen v_seenWhat v_seenCan v_pageLength v_page v_isWhole v_newKind v_newRows v_newOuter v_newInner v_newContent v_now v_left v_box v_isCounted v_counted v_given v_isTermed v_terms_7 v_term_7 (upd (upd v_shape_7 (2 : Int32).toNatClampNeg x2_7) (3 : Int32).toNatClampNeg ((v_inner (3 : Int32).toNatClampNeg) + (p1 - (x2_7 - (v_inner (2 : Int32).toNatClampNeg))))) v_readBoxes_7 v_readRow_7 v_readColumn_7 v_grid_7 v_often_7 v_seedNow v_isKept v_keptBoard v_keptKind v_keptRows v_keptSeen v_keptOuter v_keptInner v_keptContent v_keptWhat v_keptCan v_h) H := hP
            have hD : va_D A (wX8 cI cB cE a v_boards v_kind v_rows v_outer v_inner v_content v_boxes v_rowOf v_columnOf v_seen v_seenWhat v_seenCan v_pageLength v_page v_isWhole v_newKind v_newRows v_newOuter v_newInner v_newContent v_now v_left v_box v_isCounted v_counted v_given v_isTermed v_terms_7 v_term_7 (upd (upd v_shape_7 (2 : Int32).toNatClampNeg x2_7) (3 : Int32).toNatClampNeg ((v_inner (3 : Int32).toNatClampNeg) + (p1 - (x2_7 - (v_inner (2 : Int32).toNatClampNeg))))) v_readBoxes_7 v_readRow_7 v_readColumn_7 v_grid_7 v_often_7 v_seedNow v_isKept v_keptBoard v_keptKind v_keptRows v_keptSeen v_keptOuter v_keptInner v_keptContent v_keptWhat v_keptCan v_h) := hD
            refine lv_aload_n hx hb dX8_layLower_63 rfl (lv_at hl 2 rfl) ?_
            obtain ⟨r_4, hr_4, hf⟩ := bd_some hf
            refine cx_runW (cx_V (As := []) (rest := []) ⟨hx, hb, hml, hown, hts⟩ (ctX8_addTerm l z dC dI cI cB cE a v_boards v_kind v_rows v_outer v_inner v_content v_boxes v_rowOf v_columnOf v_seen v_seenWhat v_seenCan v_pageLength v_page v_isWhole v_newKind v_newRows v_newOuter v_newInner v_newContent v_now v_left v_box v_isCounted v_counted v_given v_isTermed v_terms_7 v_term_7 (upd (upd v_shape_7 (2 : Int32).toNatClampNeg x2_7) (3 : Int32).toNatClampNeg ((v_inner (3 : Int32).toNatClampNeg) + (p1 - (x2_7 - (v_inner (2 : Int32).toNatClampNeg))))) v_readBoxes_7 v_readRow_7 v_readColumn_7 v_grid_7 v_often_7 v_seedNow v_isKept v_keptBoard v_keptKind v_keptRows v_keptSeen v_keptOuter v_keptInner v_keptContent v_keptWhat v_keptCan v_h r_4 hr_4) (cwV 0 hts gX8_layLower_X8_addTerm rfl rfl rfl (by decide +kernel) ⟨Nat.le_of_ble_eq_true rfl, Nat.le_of_ble_eq_true rfl⟩) hK hP hD hZ hS hA (ci := 8) (q0 := 0) rfl rfl rfl hl.1 rfl (Nat.le_of_ble_eq_true rfl) dX8_layLower_64) hD hS hA [] rfl (fun H locs hP hD hS => ?_)
            exact J67 r_4.1 r_4.2.1 (upd (upd v_shape_7 (2 : Int32).toNatClampNeg x2_7) (3 : Int32).toNatClampNeg ((v_inner (3 : Int32).toNatClampNeg) + (p1 - (x2_7 - (v_inner (2 : Int32).toNatClampNeg))))) r_4.2.2.1 r_4.2.2.2.1 r_4.2.2.2.2.1 r_4.2.2.2.2.2.1 r_4.2.2.2.2.2.2 hf _ _ hP hD hS ls (lv_sub hl [2, 3, 4] rfl)
  exact L7 fu (v_shape (1 : Int32).toNatClampNeg) v_terms v_term v_shape v_readBoxes v_readRow v_readColumn v_grid v_often hf _ _ hP hD hS ls (lv_sub hl [1, 2, 0] rfl)

def fX8_layTerms_J103 (v_terms_103 : Int32) (v_term_103 : Nat → Int32) (v_shape_103 : Nat → Int32) (v_readBoxes_103 : Int32) (v_readRow_103 : Nat → Int32) (v_readColumn_103 : Nat → Int32) (v_grid_103 : Nat → Int32) (v_often_103 : Nat → Int32) : Option (Int32 × Int32 × (Nat → Int32) × (Nat → Int32) × Int32 × (Nat → Int32) × (Nat → Int32) × (Nat → Int32) × (Nat → Int32)) :=
    some (1, v_terms_103, v_term_103, v_shape_103, v_readBoxes_103, v_readRow_103, v_readColumn_103, v_grid_103, v_often_103)
def fX8_layTerms_L44 (v_inner : Nat → Int32) (v_content : Nat → Int32) (r_2 : Int32) (x2_26 : Int32) (k26 : Int32 → Int32 → (Nat → Int32) → (Nat → Int32) → Int32 → (Nat → Int32) → (Nat → Int32) → (Nat → Int32) → (Nat → Int32) → Option (Int32 × Int32 × (Nat → Int32) × (Nat → Int32) × Int32 × (Nat → Int32) × (Nat → Int32) × (Nat → Int32) × (Nat → Int32))) : Nat → Int32 → Int32 → (Nat → Int32) → (Nat → Int32) → Int32 → (Nat → Int32) → (Nat → Int32) → (Nat → Int32) → (Nat → Int32) → Option (Int32 × Int32 × (Nat → Int32) × (Nat → Int32) × Int32 × (Nat → Int32) × (Nat → Int32) × (Nat → Int32) × (Nat → Int32))
  | 0, _, _, _, _, _, _, _, _, _ => none
  | n + 1, x3_44, v_terms_44, v_term_44, v_shape_44, v_readBoxes_44, v_readRow_44, v_readColumn_44, v_grid_44, v_often_44 =>
    if x3_44 < (v_inner (1 : Int32).toNatClampNeg) then (k26 (x2_26 + (-1)) v_terms_44 v_term_44 v_shape_44 v_readBoxes_44 v_readRow_44 v_readColumn_44 v_grid_44 v_often_44) else (bd (fX8_layLower ((r_2 - (x2_26 - (v_inner (0 : Int32).toNatClampNeg))) - (x3_44 - (v_inner (1 : Int32).toNatClampNeg))) v_inner v_content v_terms_44 v_term_44 (upd (upd v_shape_44 (0 : Int32).toNatClampNeg x2_26) (1 : Int32).toNatClampNeg x3_44) v_readBoxes_44 v_readRow_44 v_readColumn_44 v_grid_44 v_often_44) (fun r_6 => fX8_layTerms_L44 v_inner v_content r_2 x2_26 k26 n (x3_44 + (-1)) r_6.1 r_6.2.1 r_6.2.2.1 r_6.2.2.2.1 r_6.2.2.2.2.1 r_6.2.2.2.2.2.1 r_6.2.2.2.2.2.2.1 r_6.2.2.2.2.2.2.2))
def fX8_layTerms_L26 (v_inner : Nat → Int32) (v_content : Nat → Int32) (r_2 : Int32) (k103 : Int32 → (Nat → Int32) → (Nat → Int32) → Int32 → (Nat → Int32) → (Nat → Int32) → (Nat → Int32) → (Nat → Int32) → Option (Int32 × Int32 × (Nat → Int32) × (Nat → Int32) × Int32 × (Nat → Int32) × (Nat → Int32) × (Nat → Int32) × (Nat → Int32))) : Nat → Int32 → Int32 → (Nat → Int32) → (Nat → Int32) → Int32 → (Nat → Int32) → (Nat → Int32) → (Nat → Int32) → (Nat → Int32) → Option (Int32 × Int32 × (Nat → Int32) × (Nat → Int32) × Int32 × (Nat → Int32) × (Nat → Int32) × (Nat → Int32) × (Nat → Int32))
  | 0, _, _, _, _, _, _, _, _, _ => none
  | n + 1, x2_26, v_terms_26, v_term_26, v_shape_26, v_readBoxes_26, v_readRow_26, v_readColumn_26, v_grid_26, v_often_26 =>
    if x2_26 < (v_inner (0 : Int32).toNatClampNeg) then (k103 v_terms_26 v_term_26 v_shape_26 v_readBoxes_26 v_readRow_26 v_readColumn_26 v_grid_26 v_often_26) else (if 9 < r_2 then (k103 v_terms_26 v_term_26 v_shape_26 v_readBoxes_26 v_readRow_26 v_readColumn_26 v_grid_26 v_often_26) else (fX8_layTerms_L44 v_inner v_content r_2 x2_26 (fX8_layTerms_L26 v_inner v_content r_2 k103 n) fu x2_26 v_terms_26 v_term_26 v_shape_26 v_readBoxes_26 v_readRow_26 v_readColumn_26 v_grid_26 v_often_26))
def fX8_layTerms (v_inner : Nat → Int32) (v_content : Nat → Int32) (v_isTermed : Int32) (v_terms : Int32) (v_term : Nat → Int32) (v_shape : Nat → Int32) (v_readBoxes : Int32) (v_readRow : Nat → Int32) (v_readColumn : Nat → Int32) (v_grid : Nat → Int32) (v_often : Nat → Int32) : Option (Int32 × Int32 × (Nat → Int32) × (Nat → Int32) × Int32 × (Nat → Int32) × (Nat → Int32) × (Nat → Int32) × (Nat → Int32)) :=
  if v_isTermed = 0 then (bd (fX8_told v_content) (fun r_2 => fX8_layTerms_L26 v_inner v_content r_2 fX8_layTerms_J103 fu 14 0 v_term v_shape v_readBoxes v_readRow v_readColumn v_grid v_often)) else (some (v_isTermed, v_terms, v_term, v_shape, v_readBoxes, v_readRow, v_readColumn, v_grid, v_often))
def rmX8_layTerms : Room := { frames := 5, cells := 0, slots := 0, locals := 116 }
set_option maxRecDepth 100000 in
set_option maxHeartbeats 4000000 in
theorem ctX8_layTerms (l : Launch) (z : Nat × Nat × Nat) (dC : Nat → ClassId) (dI : Nat → Nat → Nat) (cI cB cE : ClassId) (a : Nat → Nat) (v_boards : Int32) (v_kind : Int32) (v_rows : Int32) (v_outer : Nat → Int32) (v_inner : Nat → Int32) (v_content : Nat → Int32) (v_boxes : Int32) (v_rowOf : Nat → Int32) (v_columnOf : Nat → Int32) (v_seen : Int32) (v_seenWhat : Nat → Int32) (v_seenCan : Nat → Int32) (v_pageLength : Int32) (v_page : Nat → Int32) (v_isWhole : Int32) (v_newKind : Int32) (v_newRows : Int32) (v_newOuter : Nat → Int32) (v_newInner : Nat → Int32) (v_newContent : Nat → Int32) (v_now : Nat → Int32) (v_left : Nat → Int32) (v_box : Int32) (v_isCounted : Int32) (v_counted : Int32) (v_given : Nat → Int32) (v_isTermed : Int32) (v_terms : Int32) (v_term : Nat → Int32) (v_shape : Nat → Int32) (v_readBoxes : Int32) (v_readRow : Nat → Int32) (v_readColumn : Nat → Int32) (v_grid : Nat → Int32) (v_often : Nat → Int32) (v_seedNow : Int64) (v_isKept : Int32) (v_keptBoard : Int32) (v_keptKind : Int32) (v_keptRows : Int32) (v_keptSeen : Int32) (v_keptOuter : Nat → Int32) (v_keptInner : Nat → Int32) (v_keptContent : Nat → Int32) (v_keptWhat : Nat → Int32) (v_keptCan : Nat → Int32) (v_h : Int64) (fin : Int32 × Int32 × (Nat → Int32) × (Nat → Int32) × Int32 × (Nat → Int32) × (Nat → Int32) × (Nat → Int32) × (Nat → Int32)) (hf : fX8_layTerms v_inner v_content v_isTermed v_terms v_term v_shape v_readBoxes v_readRow v_readColumn v_grid v_often = some fin) : Ct l z (dC, dI) (tyL cI cB cE) yX8_layTerms wsX8_layTerms rmX8_layTerms [.ref (a 0)] (wX8 cI cB cE a v_boards v_kind v_rows v_outer v_inner v_content v_boxes v_rowOf v_columnOf v_seen v_seenWhat v_seenCan v_pageLength v_page v_isWhole v_newKind v_newRows v_newOuter v_newInner v_newContent v_now v_left v_box v_isCounted v_counted v_given v_isTermed v_terms v_term v_shape v_readBoxes v_readRow v_readColumn v_grid v_often v_seedNow v_isKept v_keptBoard v_keptKind v_keptRows v_keptSeen v_keptOuter v_keptInner v_keptContent v_keptWhat v_keptCan v_h) none (wX8 cI cB cE a v_boards v_kind v_rows v_outer v_inner v_content v_boxes v_rowOf v_columnOf v_seen v_seenWhat v_seenCan v_pageLength v_page v_isWhole v_newKind v_newRows v_newOuter v_newInner v_newContent v_now v_left v_box v_isCounted v_counted v_given fin.1 fin.2.1 fin.2.2.1 fin.2.2.2.1 fin.2.2.2.2.1 fin.2.2.2.2.2.1 fin.2.2.2.2.2.2.1 fin.2.2.2.2.2.2.2.1 fin.2.2.2.2.2.2.2.2 v_seedNow v_isKept v_keptBoard v_keptKind v_keptRows v_keptSeen v_keptOuter v_keptInner v_keptContent v_keptWhat v_keptCan v_h) := by
  refine Met.ofC (cc := cX8_layTerms) (maxL := 4) (ret := none) (by decide) rfl (Nat.le_of_ble_eq_true rfl) ?_
  intro p e s m args below meth c A Q ls hx hb hr hml hts hown hlocks hA hK hP hD hZ hS hQ hl
  have hown : s.vm.findClass RX8 = some m.cls := hown
  have hl : lv_has ls 4 [(0, .ref (a 0))] := hl
  unfold fX8_layTerms at hf
  refine lv_aload_n hx hb dX8_layTerms_0 rfl (lv_at hl 0 rfl) ?_
  refine va_get (D := (dC, dI)) (ci := 8) (C := RX8) (T := TX8) (N := 47) hx hb hts (fun _ h => List.mem_cons_of_mem _ (List.mem_append_right _ h)) hown hK hP 0 rfl rfl 26 (by decide) (hts (.fieldLink RX8 133 "SkewBoardModel" "isTermed" "Z") (List.mem_of_getElem? (i := 1) rfl)) (fun _ h9 => h9) rfl dX8_layTerms_1 ?_
  refine lv_if_eq (tgt := 8) hx hb dX8_layTerms_4 (by decide) (fun c_1 => ?_) (fun c_1 => ?_)
  · rw [if_pos c_1] at hf
    refine lv_aload_n hx hb dX8_layTerms_8 rfl (lv_at hl 0 rfl) ?_
    refine lv_iconst (v := 1) hx hb dX8_layTerms_9 (by decide) ?_
    refine va_put (D := (dC, dI)) (ci := 8) (v := .int 1) (ty := .boolean) (C := RX8) (T := TX8) (N := 47) hx hb hts (fun _ h => List.mem_cons_of_mem _ (List.mem_append_right _ h)) tyX8 tyX8_ok nmX8 hown hK hP hD hS 0 rfl rfl 26 (by decide) (hts (.fieldLink RX8 133 "SkewBoardModel" "isTermed" "Z") (List.mem_of_getElem? (i := 1) rfl)) (fun _ h9 => h9) rfl (by decide +kernel) rfl rfl (Nat.le_of_ble_eq_true rfl) dX8_layTerms_10 (fun H locs hP hD hS => ?_)
    have hP : va_P (dC, dI) vwCl (wX8 cI cB cE a v_boards v_kind v_rows v_outer v_inner v_content v_boxes v_rowOf v_columnOf v_seen v_seenWhat v_seenCan v_pageLength v_page v_isWhole v_newKind v_newRows v_newOuter v_newInner v_newContent v_now v_left v_box v_isCounted v_counted v_given 1 v_terms v_term v_shape v_readBoxes v_readRow v_readColumn v_grid v_often v_seedNow v_isKept v_keptBoard v_keptKind v_keptRows v_keptSeen v_keptOuter v_keptInner v_keptContent v_keptWhat v_keptCan v_h) H := hP
    have hD : va_D A (wX8 cI cB cE a v_boards v_kind v_rows v_outer v_inner v_content v_boxes v_rowOf v_columnOf v_seen v_seenWhat v_seenCan v_pageLength v_page v_isWhole v_newKind v_newRows v_newOuter v_newInner v_newContent v_now v_left v_box v_isCounted v_counted v_given 1 v_terms v_term v_shape v_readBoxes v_readRow v_readColumn v_grid v_often v_seedNow v_isKept v_keptBoard v_keptKind v_keptRows v_keptSeen v_keptOuter v_keptInner v_keptContent v_keptWhat v_keptCan v_h) := hD
    refine lv_aload_n hx hb dX8_layTerms_13 rfl (lv_at hl 0 rfl) ?_
    refine lv_iconst (v := 0) hx hb dX8_layTerms_14 (by decide) ?_
    refine va_put (D := (dC, dI)) (ci := 8) (v := .int 0) (ty := .int) (C := RX8) (T := TX8) (N := 47) hx hb hts (fun _ h => List.mem_cons_of_mem _ (List.mem_append_right _ h)) tyX8 tyX8_ok nmX8 hown hK hP hD hS 0 rfl rfl 27 (by decide) (hts (.fieldLink RX8 248 "SkewBoardModel" "terms" "I") (List.mem_of_getElem? (i := 2) rfl)) (fun _ h9 => h9) rfl (by decide +kernel) rfl rfl (Nat.le_of_ble_eq_true rfl) dX8_layTerms_15 (fun H locs hP hD hS => ?_)
    have hP : va_P (dC, dI) vwCl (wX8 cI cB cE a v_boards v_kind v_rows v_outer v_inner v_content v_boxes v_rowOf v_columnOf v_seen v_seenWhat v_seenCan v_pageLength v_page v_isWhole v_newKind v_newRows v_newOuter v_newInner v_newContent v_now v_left v_box v_isCounted v_counted v_given 1 0 v_term v_shape v_readBoxes v_readRow v_readColumn v_grid v_often v_seedNow v_isKept v_keptBoard v_keptKind v_keptRows v_keptSeen v_keptOuter v_keptInner v_keptContent v_keptWhat v_keptCan v_h) H := hP
    have hD : va_D A (wX8 cI cB cE a v_boards v_kind v_rows v_outer v_inner v_content v_boxes v_rowOf v_columnOf v_seen v_seenWhat v_seenCan v_pageLength v_page v_isWhole v_newKind v_newRows v_newOuter v_newInner v_newContent v_now v_left v_box v_isCounted v_counted v_given 1 0 v_term v_shape v_readBoxes v_readRow v_readColumn v_grid v_often v_seedNow v_isKept v_keptBoard v_keptKind v_keptRows v_keptSeen v_keptOuter v_keptInner v_keptContent v_keptWhat v_keptCan v_h) := hD
    refine lv_aload_n hx hb dX8_layTerms_18 rfl (lv_at hl 0 rfl) ?_
    obtain ⟨r_2, hr_2, hf⟩ := bd_some hf
    refine cx_runW (cx_V (As := []) (rest := []) ⟨hx, hb, hml, hown, hts⟩ (ctX8_told l z dC dI cI cB cE a v_boards v_kind v_rows v_outer v_inner v_content v_boxes v_rowOf v_columnOf v_seen v_seenWhat v_seenCan v_pageLength v_page v_isWhole v_newKind v_newRows v_newOuter v_newInner v_newContent v_now v_left v_box v_isCounted v_counted v_given 1 0 v_term v_shape v_readBoxes v_readRow v_readColumn v_grid v_often v_seedNow v_isKept v_keptBoard v_keptKind v_keptRows v_keptSeen v_keptOuter v_keptInner v_keptContent v_keptWhat v_keptCan v_h r_2 hr_2) (cwV 0 hts gX8_layTerms_X8_told rfl rfl rfl (by decide +kernel) ⟨Nat.le_of_ble_eq_true rfl, Nat.le_of_ble_eq_true rfl⟩) hK hP hD hZ hS hA (ci := 8) (q0 := 0) rfl rfl rfl hl.1 rfl (Nat.le_of_ble_eq_true rfl) dX8_layTerms_19) hD hS hA [.int r_2] rfl (fun H locs hP hD hS => ?_)
    refine lv_istore_n (lv' := [(1, .int r_2), (0, .ref (a 0))]) hx hb dX8_layTerms_22 rfl hl (by decide) rfl (fun ls hl => ?_)
    refine lv_bipush (v := 14) hx hb dX8_layTerms_23 (by decide) ?_
    refine lv_istore_n (lv' := [(2, .int 14), (1, .int r_2), (0, .ref (a 0))]) hx hb dX8_layTerms_25 rfl hl (by decide) rfl (fun ls hl => ?_)
    have J103 : ∀ (v_terms_103 : Int32) (v_term_103 : Nat → Int32) (v_shape_103 : Nat → Int32) (v_readBoxes_103 : Int32) (v_readRow_103 : Nat → Int32) (v_readColumn_103 : Nat → Int32) (v_grid_103 : Nat → Int32) (v_often_103 : Nat → Int32), fX8_layTerms_J103  v_terms_103 v_term_103 v_shape_103 v_readBoxes_103 v_readRow_103 v_readColumn_103 v_grid_103 v_often_103 = some fin → ∀ (H : Heap) (locs : List Loc), va_P (dC, dI) vwCl (wX8 cI cB cE a v_boards v_kind v_rows v_outer v_inner v_content v_boxes v_rowOf v_columnOf v_seen v_seenWhat v_seenCan v_pageLength v_page v_isWhole v_newKind v_newRows v_newOuter v_newInner v_newContent v_now v_left v_box v_isCounted v_counted v_given 1 v_terms_103 v_term_103 v_shape_103 v_readBoxes_103 v_readRow_103 v_readColumn_103 v_grid_103 v_often_103 v_seedNow v_isKept v_keptBoard v_keptKind v_keptRows v_keptSeen v_keptOuter v_keptInner v_keptContent v_keptWhat v_keptCan v_h) H → va_D A (wX8 cI cB cE a v_boards v_kind v_rows v_outer v_inner v_content v_boxes v_rowOf v_columnOf v_seen v_seenWhat v_seenCan v_pageLength v_page v_isWhole v_newKind v_newRows v_newOuter v_newInner v_newContent v_now v_left v_box v_isCounted v_counted v_given 1 v_terms_103 v_term_103 v_shape_103 v_readBoxes_103 v_readRow_103 v_readColumn_103 v_grid_103 v_often_103 v_seedNow v_isKept v_keptBoard v_keptKind v_keptRows v_keptSeen v_keptOuter v_keptInner v_keptContent v_keptWhat v_keptCan v_h) → va_S A s.heap H locs → ∀ (ls : Array Slot), lv_has ls 4 [] → W p l e rmX8_layTerms s m args below meth c H locs 0 0 Q (F0 m 103 ls []) := by
      intro v_terms_103 v_term_103 v_shape_103 v_readBoxes_103 v_readRow_103 v_readColumn_103 v_grid_103 v_often_103 hf H locs hP hD hS ls hl
      unfold fX8_layTerms_J103 at hf
      have hQ2 := hQ
      rw [← Option.some.inj hf] at hQ2
      exact cx_vret hQ2 hx hb hr hlocks hK hP hD hS dX8_layTerms_103
    have L26 : ∀ (n26 : Nat) (x2_26 : Int32) (v_terms_26 : Int32) (v_term_26 : Nat → Int32) (v_shape_26 : Nat → Int32) (v_readBoxes_26 : Int32) (v_readRow_26 : Nat → Int32) (v_readColumn_26 : Nat → Int32) (v_grid_26 : Nat → Int32) (v_often_26 : Nat → Int32), fX8_layTerms_L26 v_inner v_content r_2 (fX8_layTerms_J103) n26 x2_26 v_terms_26 v_term_26 v_shape_26 v_readBoxes_26 v_readRow_26 v_readColumn_26 v_grid_26 v_often_26 = some fin → ∀ (H : Heap) (locs : List Loc), va_P (dC, dI) vwCl (wX8 cI cB cE a v_boards v_kind v_rows v_outer v_inner v_content v_boxes v_rowOf v_columnOf v_seen v_seenWhat v_seenCan v_pageLength v_page v_isWhole v_newKind v_newRows v_newOuter v_newInner v_newContent v_now v_left v_box v_isCounted v_counted v_given 1 v_terms_26 v_term_26 v_shape_26 v_readBoxes_26 v_readRow_26 v_readColumn_26 v_grid_26 v_often_26 v_seedNow v_isKept v_keptBoard v_keptKind v_keptRows v_keptSeen v_keptOuter v_keptInner v_keptContent v_keptWhat v_keptCan v_h) H → va_D A (wX8 cI cB cE a v_boards v_kind v_rows v_outer v_inner v_content v_boxes v_rowOf v_columnOf v_seen v_seenWhat v_seenCan v_pageLength v_page v_isWhole v_newKind v_newRows v_newOuter v_newInner v_newContent v_now v_left v_box v_isCounted v_counted v_given 1 v_terms_26 v_term_26 v_shape_26 v_readBoxes_26 v_readRow_26 v_readColumn_26 v_grid_26 v_often_26 v_seedNow v_isKept v_keptBoard v_keptKind v_keptRows v_keptSeen v_keptOuter v_keptInner v_keptContent v_keptWhat v_keptCan v_h) → va_S A s.heap H locs → ∀ (ls : Array Slot), lv_has ls 4 [(0, .ref (a 0)), (1, .int r_2), (2, .int x2_26)] → W p l e rmX8_layTerms s m args below meth c H locs 0 0 Q (F0 m 26 ls []) := by
      intro n26
      induction n26 with
      | zero =>
        intro x2_26 v_terms_26 v_term_26 v_shape_26 v_readBoxes_26 v_readRow_26 v_readColumn_26 v_grid_26 v_often_26 hf
        rw [fX8_layTerms_L26] at hf
        cases hf
      | succ n26 ih26 =>
        intro x2_26 v_terms_26 v_term_26 v_shape_26 v_readBoxes_26 v_readRow_26 v_readColumn_26 v_grid_26 v_often_26 hf H locs hP hD hS ls hl
        rw [fX8_layTerms_L26] at hf
        refine lv_iload_n hx hb dX8_layTerms_26 rfl (lv_at hl 2 rfl) ?_
        refine lv_aload_n hx hb dX8_layTerms_27 rfl (lv_at hl 0 rfl) ?_
        refine va_get (D := (dC, dI)) (ci := 8) (C := RX8) (T := TX8) (N := 47) hx hb hts (fun _ h => List.mem_cons_of_mem _ (List.mem_append_right _ h)) hown hK hP 0 rfl rfl 4 (by decide) (hts (.fieldLink RX8 13 "SkewBoardModel" "inner" "[I") (List.mem_of_getElem? (i := 3) rfl)) (fun _ h9 => h9) rfl dX8_layTerms_28 ?_
        refine lv_iconst (v := 0) hx hb dX8_layTerms_31 (by decide) ?_
        refine va_iald hx hb hK hP 2 0 rfl rfl (inb_vp (show inb 0 4 = true by decide)) dX8_layTerms_32 ?_
        refine lv_icmp_lt (tgt := 103) hx hb dX8_layTerms_33 (by decide) (fun c_3 => ?_) (fun c_3 => ?_)
        · rw [if_pos c_3] at hf
          exact J103 v_terms_26 v_term_26 v_shape_26 v_readBoxes_26 v_readRow_26 v_readColumn_26 v_grid_26 v_often_26 hf _ _ hP hD hS ls (lv_sub hl [] rfl)
        · rw [if_neg c_3] at hf
          refine lv_iload_n hx hb dX8_layTerms_36 rfl (lv_at hl 1 rfl) ?_
          refine lv_bipush (v := 9) hx hb dX8_layTerms_37 (by decide) ?_
          refine lv_icmp_gt (tgt := 103) hx hb dX8_layTerms_39 (by decide) (fun c_4 => ?_) (fun c_4 => ?_)
          · rw [if_pos c_4] at hf
            exact J103 v_terms_26 v_term_26 v_shape_26 v_readBoxes_26 v_readRow_26 v_readColumn_26 v_grid_26 v_often_26 hf _ _ hP hD hS ls (lv_sub hl [] rfl)
          · rw [if_neg c_4] at hf
            refine lv_iload_n hx hb dX8_layTerms_42 rfl (lv_at hl 2 rfl) ?_
            refine lv_istore_n (lv' := [(3, .int x2_26), (0, .ref (a 0)), (1, .int r_2), (2, .int x2_26)]) hx hb dX8_layTerms_43 rfl hl (by decide) rfl (fun ls hl => ?_)
            have L44 : ∀ (n44 : Nat) (x3_44 : Int32) (v_terms_44 : Int32) (v_term_44 : Nat → Int32) (v_shape_44 : Nat → Int32) (v_readBoxes_44 : Int32) (v_readRow_44 : Nat → Int32) (v_readColumn_44 : Nat → Int32) (v_grid_44 : Nat → Int32) (v_often_44 : Nat → Int32), fX8_layTerms_L44 v_inner v_content r_2 x2_26 (fX8_layTerms_L26 v_inner v_content r_2 (fX8_layTerms_J103) n26) n44 x3_44 v_terms_44 v_term_44 v_shape_44 v_readBoxes_44 v_readRow_44 v_readColumn_44 v_grid_44 v_often_44 = some fin → ∀ (H : Heap) (locs : List Loc), va_P (dC, dI) vwCl (wX8 cI cB cE a v_boards v_kind v_rows v_outer v_inner v_content v_boxes v_rowOf v_columnOf v_seen v_seenWhat v_seenCan v_pageLength v_page v_isWhole v_newKind v_newRows v_newOuter v_newInner v_newContent v_now v_left v_box v_isCounted v_counted v_given 1 v_terms_44 v_term_44 v_shape_44 v_readBoxes_44 v_readRow_44 v_readColumn_44 v_grid_44 v_often_44 v_seedNow v_isKept v_keptBoard v_keptKind v_keptRows v_keptSeen v_keptOuter v_keptInner v_keptContent v_keptWhat v_keptCan v_h) H → va_D A (wX8 cI cB cE a v_boards v_kind v_rows v_outer v_inner v_content v_boxes v_rowOf v_columnOf v_seen v_seenWhat v_seenCan v_pageLength v_page v_isWhole v_newKind v_newRows v_newOuter v_newInner v_newContent v_now v_left v_box v_isCounted v_counted v_given 1 v_terms_44 v_term_44 v_shape_44 v_readBoxes_44 v_readRow_44 v_readColumn_44 v_grid_44 v_often_44 v_seedNow v_isKept v_keptBoard v_keptKind v_keptRows v_keptSeen v_keptOuter v_keptInner v_keptContent v_keptWhat v_keptCan v_h) → va_S A s.heap H locs → ∀ (ls : Array Slot), lv_has ls 4 [(0, .ref (a 0)), (1, .int r_2), (2, .int x2_26), (3, .int x3_44)] → W p l e rmX8_layTerms s m args below meth c H locs 0 0 Q (F0 m 44 ls []) := by
              intro n44
              induction n44 with
              | zero =>
                intro x3_44 v_terms_44 v_term_44 v_shape_44 v_readBoxes_44 v_readRow_44 v_readColumn_44 v_grid_44 v_often_44 hf
                rw [fX8_layTerms_L44] at hf
                cases hf
              | succ n44 ih44 =>
                intro x3_44 v_terms_44 v_term_44 v_shape_44 v_readBoxes_44 v_readRow_44 v_readColumn_44 v_grid_44 v_often_44 hf H locs hP hD hS ls hl
                rw [fX8_layTerms_L44] at hf
                refine lv_iload_n hx hb dX8_layTerms_44 rfl (lv_at hl 3 rfl) ?_
                refine lv_aload_n hx hb dX8_layTerms_45 rfl (lv_at hl 0 rfl) ?_
                refine va_get (D := (dC, dI)) (ci := 8) (C := RX8) (T := TX8) (N := 47) hx hb hts (fun _ h => List.mem_cons_of_mem _ (List.mem_append_right _ h)) hown hK hP 0 rfl rfl 4 (by decide) (hts (.fieldLink RX8 13 "SkewBoardModel" "inner" "[I") (List.mem_of_getElem? (i := 3) rfl)) (fun _ h9 => h9) rfl dX8_layTerms_46 ?_
                refine lv_iconst (v := 1) hx hb dX8_layTerms_49 (by decide) ?_
                refine va_iald hx hb hK hP 2 0 rfl rfl (inb_vp (show inb 1 4 = true by decide)) dX8_layTerms_50 ?_
                refine lv_icmp_lt (tgt := 97) hx hb dX8_layTerms_51 (by decide) (fun c_5 => ?_) (fun c_5 => ?_)
                · rw [if_pos c_5] at hf
                  refine lv_iinc (v := (x2_26 + (-1))) (lv' := [(2, .int (x2_26 + (-1))), (0, .ref (a 0)), (1, .int r_2), (3, .int x3_44)]) hx hb dX8_layTerms_97 hl (k := 2) rfl rfl (by decide) rfl (fun ls hl => ?_)
                  refine lv_goto (tgt := 26) hx hb dX8_layTerms_100 (by decide) ?_
                  exact ih26 (x2_26 + (-1)) v_terms_44 v_term_44 v_shape_44 v_readBoxes_44 v_readRow_44 v_readColumn_44 v_grid_44 v_often_44 hf _ _ hP hD hS ls (lv_sub hl [1, 2, 0] rfl)
                · rw [if_neg c_5] at hf
                  refine lv_aload_n hx hb dX8_layTerms_54 rfl (lv_at hl 0 rfl) ?_
                  refine va_get (D := (dC, dI)) (ci := 8) (C := RX8) (T := TX8) (N := 47) hx hb hts (fun _ h => List.mem_cons_of_mem _ (List.mem_append_right _ h)) hown hK hP 0 rfl rfl 29 (by decide) (hts (.fieldLink RX8 56 "SkewBoardModel" "shape" "[I") (List.mem_of_getElem? (i := 4) rfl)) (fun _ h9 => h9) rfl dX8_layTerms_55 ?_
                  refine lv_iconst (v := 0) hx hb dX8_layTerms_58 (by decide) ?_
                  refine lv_iload_n hx hb dX8_layTerms_59 rfl (lv_at hl 2 rfl) ?_
                  refine va_iast hx hb hK hP hD hS 16 0 rfl rfl (inb_vp (show inb 0 4 = true by decide)) dX8_layTerms_60 (fun H locs hP hD hS => ?_)
                  have hP : va_P (dC, dI) vwCl (wX8 cI cB cE a v_boards v_kind v_rows v_outer v_inner v_content v_boxes v_rowOf v_columnOf v_seen v_seenWhat v_seenCan v_pageLength v_page v_isWhole v_newKind v_newRows v_newOuter v_newInner v_newContent v_now v_left v_box v_isCounted v_counted v_given 1 v_terms_44 v_term_44 (upd v_shape_44 (0 : Int32).toNatClampNeg x2_26) v_readBoxes_44 v_readRow_44 v_readColumn_44 v_grid_44 v_often_44 v_seedNow v_isKept v_keptBoard v_keptKind v_keptRows v_keptSeen v_keptOuter v_keptInner v_keptContent v_keptWhat v_keptCan v_h) H := hP
                  have hD : va_D A (wX8 cI cB cE a v_boards v_kind v_rows v_outer v_inner v_content v_boxes v_rowOf v_columnOf v_seen v_seenWhat v_seenCan v_pageLength v_page v_isWhole v_newKind v_newRows v_newOuter v_newInner v_newContent v_now v_left v_box v_isCounted v_counted v_given 1 v_terms_44 v_term_44 (upd v_shape_44 (0 : Int32).toNatClampNeg x2_26) v_readBoxes_44 v_readRow_44 v_readColumn_44 v_grid_44 v_often_44 v_seedNow v_isKept v_keptBoard v_keptKind v_keptRows v_keptSeen v_keptOuter v_keptInner v_keptContent v_keptWhat v_keptCan v_h) := hD
                  refine lv_aload_n hx hb dX8_layTerms_61 rfl (lv_at hl 0 rfl) ?_
                  refine va_get (D := (dC, dI)) (ci := 8) (C := RX8) (T := TX8) (N := 47) hx hb hts (fun _ h => List.mem_cons_of_mem _ (List.mem_append_right _ h)) hown hK hP 0 rfl rfl 29 (by decide) (hts (.fieldLink RX8 56 "SkewBoardModel" "shape" "[I") (List.mem_of_getElem? (i := 4) rfl)) (fun _ h9 => h9) rfl dX8_layTerms_62 ?_
                  refine lv_iconst (v := 1) hx hb dX8_layTerms_65 (by decide) ?_
                  refine lv_iload_n hx hb dX8_layTerms_66 rfl (lv_at hl 3 rfl) ?_
                  refine va_iast hx hb hK hP hD hS 16 0 rfl rfl (inb_vp (show inb 1 4 = true by decide)) dX8_layTerms_67 (fun H locs hP hD hS => ?_)
                  have hP : va_P (dC, dI) vwCl (wX8 cI cB cE a v_boards v_kind v_rows v_outer v_inner v_content v_boxes v_rowOf v_columnOf v_seen v_seenWhat v_seenCan v_pageLength v_page v_isWhole v_newKind v_newRows v_newOuter v_newInner v_newContent v_now v_left v_box v_isCounted v_counted v_given 1 v_terms_44 v_term_44 (upd (upd v_shape_44 (0 : Int32).toNatClampNeg x2_26) (1 : Int32).toNatClampNeg x3_44) v_readBoxes_44 v_readRow_44 v_readColumn_44 v_grid_44 v_often_44 v_seedNow v_isKept v_keptBoard v_keptKind v_keptRows v_keptSeen v_keptOuter v_keptInner v_keptContent v_keptWhat v_keptCan v_h) H := hP
                  have hD : va_D A (wX8 cI cB cE a v_boards v_kind v_rows v_outer v_inner v_content v_boxes v_rowOf v_columnOf v_seen v_seenWhat v_seenCan v_pageLength v_page v_isWhole v_newKind v_newRows v_newOuter v_newInner v_newContent v_now v_left v_box v_isCounted v_counted v_given 1 v_terms_44 v_term_44 (upd (upd v_shape_44 (0 : Int32).toNatClampNeg x2_26) (1 : Int32).toNatClampNeg x3_44) v_readBoxes_44 v_readRow_44 v_readColumn_44 v_grid_44 v_often_44 v_seedNow v_isKept v_keptBoard v_keptKind v_keptRows v_keptSeen v_keptOuter v_keptInner v_keptContent v_keptWhat v_keptCan v_h) := hD
                  refine lv_aload_n hx hb dX8_layTerms_68 rfl (lv_at hl 0 rfl) ?_
                  refine lv_iload_n hx hb dX8_layTerms_69 rfl (lv_at hl 1 rfl) ?_
                  refine lv_iload_n hx hb dX8_layTerms_70 rfl (lv_at hl 2 rfl) ?_
                  refine lv_aload_n hx hb dX8_layTerms_71 rfl (lv_at hl 0 rfl) ?_
                  refine va_get (D := (dC, dI)) (ci := 8) (C := RX8) (T := TX8) (N := 47) hx hb hts (fun _ h => List.mem_cons_of_mem _ (List.mem_append_right _ h)) hown hK hP 0 rfl rfl 4 (by decide) (hts (.fieldLink RX8 13 "SkewBoardModel" "inner" "[I") (List.mem_of_getElem? (i := 3) rfl)) (fun _ h9 => h9) rfl dX8_layTerms_72 ?_
                  refine lv_iconst (v := 0) hx hb dX8_layTerms_75 (by decide) ?_
                  refine va_iald hx hb hK hP 2 0 rfl rfl (inb_vp (show inb 0 4 = true by decide)) dX8_layTerms_76 ?_
                  refine lv_isub hx hb dX8_layTerms_77 ?_
                  refine lv_isub hx hb dX8_layTerms_78 ?_
                  refine lv_iload_n hx hb dX8_layTerms_79 rfl (lv_at hl 3 rfl) ?_
                  refine lv_aload_n hx hb dX8_layTerms_80 rfl (lv_at hl 0 rfl) ?_
                  refine va_get (D := (dC, dI)) (ci := 8) (C := RX8) (T := TX8) (N := 47) hx hb hts (fun _ h => List.mem_cons_of_mem _ (List.mem_append_right _ h)) hown hK hP 0 rfl rfl 4 (by decide) (hts (.fieldLink RX8 13 "SkewBoardModel" "inner" "[I") (List.mem_of_getElem? (i := 3) rfl)) (fun _ h9 => h9) rfl dX8_layTerms_81 ?_
                  refine lv_iconst (v := 1) hx hb dX8_layTerms_84 (by decide) ?_
                  refine va_iald hx hb hK hP 2 0 rfl rfl (inb_vp (show inb 1 4 = true by decide)) dX8_layTerms_85 ?_
                  refine lv_isub hx hb dX8_layTerms_86 ?_
                  refine lv_isub hx hb dX8_layTerms_87 ?_
                  obtain ⟨r_6, hr_6, hf⟩ := bd_some hf
                  refine cx_runW (cx_V (As := [.int ((r_2 - (x2_26 - (v_inner (0 : Int32).toNatClampNeg))) - (x3_44 - (v_inner (1 : Int32).toNatClampNeg)))]) (rest := []) ⟨hx, hb, hml, hown, hts⟩ (ctX8_layLower l z dC dI cI cB cE a v_boards v_kind v_rows v_outer v_inner v_content v_boxes v_rowOf v_columnOf v_seen v_seenWhat v_seenCan v_pageLength v_page v_isWhole v_newKind v_newRows v_newOuter v_newInner v_newContent v_now v_left v_box v_isCounted v_counted v_given 1 v_terms_44 v_term_44 (upd (upd v_shape_44 (0 : Int32).toNatClampNeg x2_26) (1 : Int32).toNatClampNeg x3_44) v_readBoxes_44 v_readRow_44 v_readColumn_44 v_grid_44 v_often_44 v_seedNow v_isKept v_keptBoard v_keptKind v_keptRows v_keptSeen v_keptOuter v_keptInner v_keptContent v_keptWhat v_keptCan v_h ((r_2 - (x2_26 - (v_inner (0 : Int32).toNatClampNeg))) - (x3_44 - (v_inner (1 : Int32).toNatClampNeg))) r_6 hr_6) (cwV 1 hts gX8_layTerms_X8_layLower rfl rfl rfl (by decide +kernel) ⟨Nat.le_of_ble_eq_true rfl, Nat.le_of_ble_eq_true rfl⟩) hK hP hD hZ hS hA (ci := 8) (q0 := 0) rfl rfl rfl hl.1 rfl (Nat.le_of_ble_eq_true rfl) dX8_layTerms_88) hD hS hA [] rfl (fun H locs hP hD hS => ?_)
                  refine lv_iinc (v := (x3_44 + (-1))) (lv' := [(3, .int (x3_44 + (-1))), (0, .ref (a 0)), (1, .int r_2), (2, .int x2_26)]) hx hb dX8_layTerms_91 hl (k := 3) rfl rfl (by decide) rfl (fun ls hl => ?_)
                  refine lv_goto (tgt := 44) hx hb dX8_layTerms_94 (by decide) ?_
                  exact ih44 (x3_44 + (-1)) r_6.1 r_6.2.1 r_6.2.2.1 r_6.2.2.2.1 r_6.2.2.2.2.1 r_6.2.2.2.2.2.1 r_6.2.2.2.2.2.2.1 r_6.2.2.2.2.2.2.2 hf _ _ hP hD hS ls (lv_sub hl [1, 2, 3, 0] rfl)
            exact L44 fu x2_26 v_terms_26 v_term_26 v_shape_26 v_readBoxes_26 v_readRow_26 v_readColumn_26 v_grid_26 v_often_26 hf _ _ hP hD hS ls (lv_sub hl [1, 2, 3, 0] rfl)
    exact L26 fu 14 0 v_term v_shape v_readBoxes v_readRow v_readColumn v_grid v_often hf _ _ hP hD hS ls (lv_sub hl [2, 1, 0] rfl)
  · rw [if_neg c_1] at hf
    have hQ2 := hQ
    rw [← Option.some.inj hf] at hQ2
    exact cx_vret hQ2 hx hb hr hlocks hK hP hD hS dX8_layTerms_7

def fX8_terms (v_rows : Int32) (v_inner : Nat → Int32) (v_content : Nat → Int32) (v_isTermed : Int32) (v_terms : Int32) (v_term : Nat → Int32) (v_shape : Nat → Int32) (v_readBoxes : Int32) (v_readRow : Nat → Int32) (v_readColumn : Nat → Int32) (v_grid : Nat → Int32) (v_often : Nat → Int32) : Option (Int32 × Int32 × Int32 × (Nat → Int32) × (Nat → Int32) × Int32 × (Nat → Int32) × (Nat → Int32) × (Nat → Int32) × (Nat → Int32)) :=
  bd (fX8_isBoard v_rows) (fun r_1 => if r_1 = 0 then (some ((-103), v_isTermed, v_terms, v_term, v_shape, v_readBoxes, v_readRow, v_readColumn, v_grid, v_often)) else (bd (fX8_layTerms v_inner v_content v_isTermed v_terms v_term v_shape v_readBoxes v_readRow v_readColumn v_grid v_often) (fun r_3 => some (r_3.2.1, r_3.1, r_3.2.1, r_3.2.2.1, r_3.2.2.2.1, r_3.2.2.2.2.1, r_3.2.2.2.2.2.1, r_3.2.2.2.2.2.2.1, r_3.2.2.2.2.2.2.2.1, r_3.2.2.2.2.2.2.2.2))))
def rmX8_terms : Room := { frames := 6, cells := 0, slots := 0, locals := 139 }
set_option maxRecDepth 100000 in
set_option maxHeartbeats 4000000 in
theorem ctX8_terms (l : Launch) (z : Nat × Nat × Nat) (dC : Nat → ClassId) (dI : Nat → Nat → Nat) (cI cB cE : ClassId) (a : Nat → Nat) (v_boards : Int32) (v_kind : Int32) (v_rows : Int32) (v_outer : Nat → Int32) (v_inner : Nat → Int32) (v_content : Nat → Int32) (v_boxes : Int32) (v_rowOf : Nat → Int32) (v_columnOf : Nat → Int32) (v_seen : Int32) (v_seenWhat : Nat → Int32) (v_seenCan : Nat → Int32) (v_pageLength : Int32) (v_page : Nat → Int32) (v_isWhole : Int32) (v_newKind : Int32) (v_newRows : Int32) (v_newOuter : Nat → Int32) (v_newInner : Nat → Int32) (v_newContent : Nat → Int32) (v_now : Nat → Int32) (v_left : Nat → Int32) (v_box : Int32) (v_isCounted : Int32) (v_counted : Int32) (v_given : Nat → Int32) (v_isTermed : Int32) (v_terms : Int32) (v_term : Nat → Int32) (v_shape : Nat → Int32) (v_readBoxes : Int32) (v_readRow : Nat → Int32) (v_readColumn : Nat → Int32) (v_grid : Nat → Int32) (v_often : Nat → Int32) (v_seedNow : Int64) (v_isKept : Int32) (v_keptBoard : Int32) (v_keptKind : Int32) (v_keptRows : Int32) (v_keptSeen : Int32) (v_keptOuter : Nat → Int32) (v_keptInner : Nat → Int32) (v_keptContent : Nat → Int32) (v_keptWhat : Nat → Int32) (v_keptCan : Nat → Int32) (v_h : Int64) (fin : Int32 × Int32 × Int32 × (Nat → Int32) × (Nat → Int32) × Int32 × (Nat → Int32) × (Nat → Int32) × (Nat → Int32) × (Nat → Int32)) (hf : fX8_terms v_rows v_inner v_content v_isTermed v_terms v_term v_shape v_readBoxes v_readRow v_readColumn v_grid v_often = some fin) : Ct l z (dC, dI) (tyL cI cB cE) yX8_terms wsX8_terms rmX8_terms [.ref (a 0)] (wX8 cI cB cE a v_boards v_kind v_rows v_outer v_inner v_content v_boxes v_rowOf v_columnOf v_seen v_seenWhat v_seenCan v_pageLength v_page v_isWhole v_newKind v_newRows v_newOuter v_newInner v_newContent v_now v_left v_box v_isCounted v_counted v_given v_isTermed v_terms v_term v_shape v_readBoxes v_readRow v_readColumn v_grid v_often v_seedNow v_isKept v_keptBoard v_keptKind v_keptRows v_keptSeen v_keptOuter v_keptInner v_keptContent v_keptWhat v_keptCan v_h) (some (.int fin.1)) (wX8 cI cB cE a v_boards v_kind v_rows v_outer v_inner v_content v_boxes v_rowOf v_columnOf v_seen v_seenWhat v_seenCan v_pageLength v_page v_isWhole v_newKind v_newRows v_newOuter v_newInner v_newContent v_now v_left v_box v_isCounted v_counted v_given fin.2.1 fin.2.2.1 fin.2.2.2.1 fin.2.2.2.2.1 fin.2.2.2.2.2.1 fin.2.2.2.2.2.2.1 fin.2.2.2.2.2.2.2.1 fin.2.2.2.2.2.2.2.2.1 fin.2.2.2.2.2.2.2.2.2 v_seedNow v_isKept v_keptBoard v_keptKind v_keptRows v_keptSeen v_keptOuter v_keptInner v_keptContent v_keptWhat v_keptCan v_h) := by
  refine Met.ofC (cc := cX8_terms) (maxL := 1) (ret := (some .int)) (by decide) rfl (Nat.le_of_ble_eq_true rfl) ?_
  intro p e s m args below meth c A Q ls hx hb hr hml hts hown hlocks hA hK hP hD hZ hS hQ hl
  have hown : s.vm.findClass RX8 = some m.cls := hown
  have hl : lv_has ls 1 [(0, .ref (a 0))] := hl
  unfold fX8_terms at hf
  refine lv_aload_n hx hb dX8_terms_0 rfl (lv_at hl 0 rfl) ?_
  obtain ⟨r_1, hr_1, hf⟩ := bd_some hf
  refine cx_runW (cx_V (As := []) (rest := []) ⟨hx, hb, hml, hown, hts⟩ (ctX8_isBoard l z dC dI cI cB cE a v_boards v_kind v_rows v_outer v_inner v_content v_boxes v_rowOf v_columnOf v_seen v_seenWhat v_seenCan v_pageLength v_page v_isWhole v_newKind v_newRows v_newOuter v_newInner v_newContent v_now v_left v_box v_isCounted v_counted v_given v_isTermed v_terms v_term v_shape v_readBoxes v_readRow v_readColumn v_grid v_often v_seedNow v_isKept v_keptBoard v_keptKind v_keptRows v_keptSeen v_keptOuter v_keptInner v_keptContent v_keptWhat v_keptCan v_h r_1 hr_1) (cwV 0 hts gX8_terms_X8_isBoard rfl rfl rfl (by decide +kernel) ⟨Nat.le_of_ble_eq_true rfl, Nat.le_of_ble_eq_true rfl⟩) hK hP hD hZ hS hA (ci := 8) (q0 := 0) rfl rfl rfl hl.1 rfl (Nat.le_of_ble_eq_true rfl) dX8_terms_1) hD hS hA [.int r_1] rfl (fun H locs hP hD hS => ?_)
  refine lv_if_ne (tgt := 10) hx hb dX8_terms_4 (by decide) (fun c_2 => ?_) (fun c_2 => ?_)
  · rw [if_neg c_2] at hf
    refine lv_aload_n hx hb dX8_terms_10 rfl (lv_at hl 0 rfl) ?_
    obtain ⟨r_3, hr_3, hf⟩ := bd_some hf
    refine cx_runW (cx_V (As := []) (rest := []) ⟨hx, hb, hml, hown, hts⟩ (ctX8_layTerms l z dC dI cI cB cE a v_boards v_kind v_rows v_outer v_inner v_content v_boxes v_rowOf v_columnOf v_seen v_seenWhat v_seenCan v_pageLength v_page v_isWhole v_newKind v_newRows v_newOuter v_newInner v_newContent v_now v_left v_box v_isCounted v_counted v_given v_isTermed v_terms v_term v_shape v_readBoxes v_readRow v_readColumn v_grid v_often v_seedNow v_isKept v_keptBoard v_keptKind v_keptRows v_keptSeen v_keptOuter v_keptInner v_keptContent v_keptWhat v_keptCan v_h r_3 hr_3) (cwV 0 hts gX8_terms_X8_layTerms rfl rfl rfl (by decide +kernel) ⟨Nat.le_of_ble_eq_true rfl, Nat.le_of_ble_eq_true rfl⟩) hK hP hD hZ hS hA (ci := 8) (q0 := 0) rfl rfl rfl hl.1 rfl (Nat.le_of_ble_eq_true rfl) dX8_terms_11) hD hS hA [] rfl (fun H locs hP hD hS => ?_)
    refine lv_aload_n hx hb dX8_terms_14 rfl (lv_at hl 0 rfl) ?_
    refine va_get (D := (dC, dI)) (ci := 8) (C := RX8) (T := TX8) (N := 47) hx hb hts (fun _ h => List.mem_cons_of_mem _ (List.mem_append_right _ h)) hown hK hP 0 rfl rfl 27 (by decide) (hts (.fieldLink RX8 248 "SkewBoardModel" "terms" "I") (List.mem_of_getElem? (i := 1) rfl)) (fun _ h9 => h9) rfl dX8_terms_15 ?_
    have hQ2 := hQ
    rw [← Option.some.inj hf] at hQ2
    exact cx_iret hQ2 hx hb hr hlocks hK hP hD hS dX8_terms_18
  · rw [if_pos c_2] at hf
    refine lv_bipush (v := (-103)) hx hb dX8_terms_7 (by decide) ?_
    have hQ2 := hQ
    rw [← Option.some.inj hf] at hQ2
    exact cx_iret hQ2 hx hb hr hlocks hK hP hD hS dX8_terms_9

