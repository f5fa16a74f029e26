def fX8_text_J24 (y0_24 : Int32) : Option (Int32) :=
    some y0_24
def fX8_text (p1 : Int32) (v_kind : Int32) (v_rows : Int32) (v_outer : Nat → Int32) (v_inner : Nat → Int32) (v_content : Nat → Int32) : Option (Int32) :=
  bd (fX8_letters v_rows) (fun r_1 => bd (fX8_within p1 0 (r_1 - 1)) (fun r_2 => if r_2 = 0 then (fX8_text_J24 (-101)) else (bd (fX8_letterAt p1 v_kind v_rows v_outer v_inner v_content) (fun r_4 => fX8_text_J24 r_4))))
def rmX8_text : Room := { frames := 2, cells := 0, slots := 0, locals := 41 }
set_option maxRecDepth 100000 in
set_option maxHeartbeats 4000000 in
theorem ctX8_text (l : Launch) (z : Nat × Nat × Nat) (dC : Nat → ClassId) (dI : Nat → Nat → Nat) (cI cB cE : ClassId) (a : Nat → Nat) (v_boards : Int32) (v_kind : Int32) (v_rows : Int32) (v_outer : Nat → Int32) (v_inner : Nat → Int32) (v_content : Nat → Int32) (v_boxes : Int32) (v_rowOf : Nat → Int32) (v_columnOf : Nat → Int32) (v_seen : Int32) (v_seenWhat : Nat → Int32) (v_seenCan : Nat → Int32) (v_pageLength : Int32) (v_page : Nat → Int32) (v_isWhole : Int32) (v_newKind : Int32) (v_newRows : Int32) (v_newOuter : Nat → Int32) (v_newInner : Nat → Int32) (v_newContent : Nat → Int32) (v_now : Nat → Int32) (v_left : Nat → Int32) (v_box : Int32) (v_isCounted : Int32) (v_counted : Int32) (v_given : Nat → Int32) (v_isTermed : Int32) (v_terms : Int32) (v_term : Nat → Int32) (v_shape : Nat → Int32) (v_readBoxes : Int32) (v_readRow : Nat → Int32) (v_readColumn : Nat → Int32) (v_grid : Nat → Int32) (v_often : Nat → Int32) (v_seedNow : Int64) (v_isKept : Int32) (v_keptBoard : Int32) (v_keptKind : Int32) (v_keptRows : Int32) (v_keptSeen : Int32) (v_keptOuter : Nat → Int32) (v_keptInner : Nat → Int32) (v_keptContent : Nat → Int32) (v_keptWhat : Nat → Int32) (v_keptCan : Nat → Int32) (v_h : Int64) (p1 : Int32) (fin : Int32) (hf : fX8_text p1 v_kind v_rows v_outer v_inner v_content = some fin) : Ct l z (dC, dI) (tyL cI cB cE) yX8_text wsX8_text rmX8_text [.ref (a 0), .int p1] (wX8 cI cB cE a v_boards v_kind v_rows v_outer v_inner v_content v_boxes v_rowOf v_columnOf v_seen v_seenWhat v_seenCan v_pageLength v_page v_isWhole v_newKind v_newRows v_newOuter v_newInner v_newContent v_now v_left v_box v_isCounted v_counted v_given v_isTermed v_terms v_term v_shape v_readBoxes v_readRow v_readColumn v_grid v_often v_seedNow v_isKept v_keptBoard v_keptKind v_keptRows v_keptSeen v_keptOuter v_keptInner v_keptContent v_keptWhat v_keptCan v_h) (some (.int fin)) (wX8 cI cB cE a v_boards v_kind v_rows v_outer v_inner v_content v_boxes v_rowOf v_columnOf v_seen v_seenWhat v_seenCan v_pageLength v_page v_isWhole v_newKind v_newRows v_newOuter v_newInner v_newContent v_now v_left v_box v_isCounted v_counted v_given v_isTermed v_terms v_term v_shape v_readBoxes v_readRow v_readColumn v_grid v_often v_seedNow v_isKept v_keptBoard v_keptKind v_keptRows v_keptSeen v_keptOuter v_keptInner v_keptContent v_keptWhat v_keptCan v_h) := by
  refine Met.ofC (cc := cX8_text) (maxL := 2) (ret := (some .int)) (by decide) rfl (Nat.le_of_ble_eq_true rfl) ?_
  intro p e s m args below meth c A Q ls hx hb hr hml hts hown hlocks hA hK hP hD hZ hS hQ hl
  have hown : s.vm.findClass RX8 = some m.cls := hown
  have hl : lv_has ls 2 [(0, .ref (a 0)), (1, .int p1)] := hl
  unfold fX8_text at hf
  refine lv_iload_n hx hb dX8_text_0 rfl (lv_at hl 1 rfl) ?_
  refine lv_iconst (v := 0) hx hb dX8_text_1 (by decide) ?_
  refine lv_aload_n hx hb dX8_text_2 rfl (lv_at hl 0 rfl) ?_
  obtain ⟨r_1, hr_1, hf⟩ := bd_some hf
  refine cx_runW (cx_V (As := []) (rest := [.int 0, .int p1]) ⟨hx, hb, hml, hown, hts⟩ (ctX8_letters l z dC dI cI cB cE a v_boards v_kind v_rows v_outer v_inner v_content v_boxes v_rowOf v_columnOf v_seen v_seenWhat v_seenCan v_pageLength v_page v_isWhole v_newKind v_newRows v_newOuter v_newInner v_newContent v_now v_left v_box v_isCounted v_counted v_given v_isTermed v_terms v_term v_shape v_readBoxes v_readRow v_readColumn v_grid v_often v_seedNow v_isKept v_keptBoard v_keptKind v_keptRows v_keptSeen v_keptOuter v_keptInner v_keptContent v_keptWhat v_keptCan v_h r_1 hr_1) (cwV 0 hts gX8_text_X8_letters rfl rfl rfl (by decide +kernel) ⟨Nat.le_of_ble_eq_true rfl, Nat.le_of_ble_eq_true rfl⟩) hK hP hD hZ hS hA (ci := 8) (q0 := 0) rfl rfl rfl hl.1 rfl (Nat.le_of_ble_eq_true rfl) dX8_text_3) hD hS hA [.int r_1, .int 0, .int p1] rfl (fun H locs hP hD hS => ?_)
  refine lv_iconst (v := 1) hx hb dX8_text_6 (by decide) ?_
  refine lv_isub hx hb dX8_text_7 ?_
  obtain ⟨r_2, hr_2, hf⟩ := bd_some hf
  refine cx_run0 (cx_S (A := A) (As := [.int p1, .int 0, .int (r_1 - 1)]) (rest := []) ⟨hx, hb, hml, hown, hts⟩ (ctX8_within l z dC dI cI cB cE p1 0 (r_1 - 1) r_2 hr_2) (va_cwS 3 hts gX8_text_X8_within rfl rfl rfl (by decide +kernel) ⟨Nat.le_of_ble_eq_true rfl, Nat.le_of_ble_eq_true rfl⟩) hK vaP0 vaD0 hZ hS hA rfl hl.1 rfl (Nat.le_of_ble_eq_true rfl) dX8_text_8) hP hS hA [.int r_2] rfl (fun H locs hP hS => ?_)
  have J24 : ∀ (y0_24 : Int32), fX8_text_J24  y0_24 = some fin → ∀ (H : Heap) (locs : List Loc), va_P (dC, dI) vwCl (wX8 cI cB cE a v_boards v_kind v_rows v_outer v_inner v_content v_boxes v_rowOf v_columnOf v_seen v_seenWhat v_seenCan v_pageLength v_page v_isWhole v_newKind v_newRows v_newOuter v_newInner v_newContent v_now v_left v_box v_isCounted v_counted v_given v_isTermed v_terms v_term v_shape v_readBoxes v_readRow v_readColumn v_grid v_often v_seedNow v_isKept v_keptBoard v_keptKind v_keptRows v_keptSeen v_keptOuter v_keptInner v_keptContent v_keptWhat v_keptCan v_h) H → va_D A (wX8 cI cB cE a v_boards v_kind v_rows v_outer v_inner v_content v_boxes v_rowOf v_columnOf v_seen v_seenWhat v_seenCan v_pageLength v_page v_isWhole v_newKind v_newRows v_newOuter v_newInner v_newContent v_now v_left v_box v_isCounted v_counted v_given v_isTermed v_terms v_term v_shape v_readBoxes v_readRow v_readColumn v_grid v_often v_seedNow v_isKept v_keptBoard v_keptKind v_keptRows v_keptSeen v_keptOuter v_keptInner v_keptContent v_keptWhat v_keptCan v_h) → va_S A s.heap H locs → ∀ (ls : Array Slot), lv_has ls 2 [] → W p l e rmX8_text s m args below meth c H locs 0 0 Q (F0 m 24 ls [.int y0_24]) := by
    intro y0_24 hf H locs hP hD hS ls hl
    unfold fX8_text_J24 at hf
    have hQ2 := hQ
    rw [← Option.some.inj hf] at hQ2
    exact cx_iret hQ2 hx hb hr hlocks hK hP hD hS dX8_text_24
  refine lv_if_eq (tgt := 22) hx hb dX8_text_11 (by decide) (fun c_3 => ?_) (fun c_3 => ?_)
  · rw [if_pos c_3] at hf
    refine lv_bipush (v := (-101)) hx hb dX8_text_22 (by decide) ?_
    exact J24 (-101) hf _ _ hP hD hS ls (lv_sub hl [] rfl)
  · rw [if_neg c_3] at hf
    refine lv_aload_n hx hb dX8_text_14 rfl (lv_at hl 0 rfl) ?_
    refine lv_iload_n hx hb dX8_text_15 rfl (lv_at hl 1 rfl) ?_
    obtain ⟨r_4, hr_4, hf⟩ := bd_some hf
    refine cx_runW (cx_V (As := [.int p1]) (rest := []) ⟨hx, hb, hml, hown, hts⟩ (ctX8_letterAt l z dC dI cI cB cE a v_boards v_kind v_rows v_outer v_inner v_content v_boxes v_rowOf v_columnOf v_seen v_seenWhat v_seenCan v_pageLength v_page v_isWhole v_newKind v_newRows v_newOuter v_newInner v_newContent v_now v_left v_box v_isCounted v_counted v_given v_isTermed v_terms v_term v_shape v_readBoxes v_readRow v_readColumn v_grid v_often v_seedNow v_isKept v_keptBoard v_keptKind v_keptRows v_keptSeen v_keptOuter v_keptInner v_keptContent v_keptWhat v_keptCan v_h p1 r_4 hr_4) (cwV 1 hts gX8_text_X8_letterAt rfl rfl rfl (by decide +kernel) ⟨Nat.le_of_ble_eq_true rfl, Nat.le_of_ble_eq_true rfl⟩) hK hP hD hZ hS hA (ci := 8) (q0 := 0) rfl rfl rfl hl.1 rfl (Nat.le_of_ble_eq_true rfl) dX8_text_16) hD hS hA [.int r_4] rfl (fun H locs hP hD hS => ?_)
    refine lv_goto (tgt := 24) hx hb dX8_text_19 (by decide) ?_
    exact J24 r_4 hf _ _ hP hD hS ls (lv_sub hl [] rfl)

def fX8_aboveOf_J41 (x2_2 : Int32) (k2 : Int32 → Option (Int32)) (u_41 : Unit) : Option (Int32) :=
    k2 (x2_2 + 1)
def fX8_aboveOf_L2 (v_rowOf : Nat → Int32) (v_columnOf : Nat → Int32) (p1 : Int32) : Nat → Int32 → Option (Int32)
  | 0, _ => none
  | n + 1, x2_2 =>
    if p1 ≤ x2_2 then (some (-1)) else (gd (inb x2_2 9) (gd (inb p1 9) (if (v_rowOf x2_2.toNatClampNeg) = ((v_rowOf p1.toNatClampNeg) - 1) then (if (v_columnOf x2_2.toNatClampNeg) = (v_columnOf p1.toNatClampNeg) then (some x2_2) else (fX8_aboveOf_J41 x2_2 (fX8_aboveOf_L2 v_rowOf v_columnOf p1 n) ())) else (fX8_aboveOf_J41 x2_2 (fX8_aboveOf_L2 v_rowOf v_columnOf p1 n) ()))))
def fX8_aboveOf (p1 : Int32) (v_rowOf : Nat → Int32) (v_columnOf : Nat → Int32) : Option (Int32) :=
  fX8_aboveOf_L2 v_rowOf v_columnOf p1 fu 0
def rmX8_aboveOf : Room := { frames := 0, cells := 0, slots := 0, locals := 0 }
set_option maxRecDepth 100000 in
set_option maxHeartbeats 4000000 in
theorem ctX8_aboveOf (l : Launch) (z : Nat × Nat × Nat) (dC : Nat → ClassId) (dI : Nat → Nat → Nat) (cI cB cE : ClassId) (a : Nat → Nat) (v_boards : Int32) (v_kind : Int32) (v_rows : Int32) (v_outer : Nat → Int32) (v_inner : Nat → Int32) (v_content : Nat → Int32) (v_boxes : Int32) (v_rowOf : Nat → Int32) (v_columnOf : Nat → Int32) (v_seen : Int32) (v_seenWhat : Nat → Int32) (v_seenCan : Nat → Int32) (v_pageLength : Int32) (v_page : Nat → Int32) (v_isWhole : Int32) (v_newKind : Int32) (v_newRows : Int32) (v_newOuter : Nat → Int32) (v_newInner : Nat → Int32) (v_newContent : Nat → Int32) (v_now : Nat → Int32) (v_left : Nat → Int32) (v_box : Int32) (v_isCounted : Int32) (v_counted : Int32) (v_given : Nat → Int32) (v_isTermed : Int32) (v_terms : Int32) (v_term : Nat → Int32) (v_shape : Nat → Int32) (v_readBoxes : Int32) (v_readRow : Nat → Int32) (v_readColumn : Nat → Int32) (v_grid : Nat → Int32) (v_often : Nat → Int32) (v_seedNow : Int64) (v_isKept : Int32) (v_keptBoard : Int32) (v_keptKind : Int32) (v_keptRows : Int32) (v_keptSeen : Int32) (v_keptOuter : Nat → Int32) (v_keptInner : Nat → Int32) (v_keptContent : Nat → Int32) (v_keptWhat : Nat → Int32) (v_keptCan : Nat → Int32) (v_h : Int64) (p1 : Int32) (fin : Int32) (hf : fX8_aboveOf p1 v_rowOf v_columnOf = some fin) : Ct l z (dC, dI) (tyL cI cB cE) yX8_aboveOf wsX8_aboveOf rmX8_aboveOf [.ref (a 0), .int p1] (wX8 cI cB cE a v_boards v_kind v_rows v_outer v_inner v_content v_boxes v_rowOf v_columnOf v_seen v_seenWhat v_seenCan v_pageLength v_page v_isWhole v_newKind v_newRows v_newOuter v_newInner v_newContent v_now v_left v_box v_isCounted v_counted v_given v_isTermed v_terms v_term v_shape v_readBoxes v_readRow v_readColumn v_grid v_often v_seedNow v_isKept v_keptBoard v_keptKind v_keptRows v_keptSeen v_keptOuter v_keptInner v_keptContent v_keptWhat v_keptCan v_h) (some (.int fin)) (wX8 cI cB cE a v_boards v_kind v_rows v_outer v_inner v_content v_boxes v_rowOf v_columnOf v_seen v_seenWhat v_seenCan v_pageLength v_page v_isWhole v_newKind v_newRows v_newOuter v_newInner v_newContent v_now v_left v_box v_isCounted v_counted v_given v_isTermed v_terms v_term v_shape v_readBoxes v_readRow v_readColumn v_grid v_often v_seedNow v_isKept v_keptBoard v_keptKind v_keptRows v_keptSeen v_keptOuter v_keptInner v_keptContent v_keptWhat v_keptCan v_h) := by
  refine Met.ofC (cc := cX8_aboveOf) (maxL := 3) (ret := (some .int)) (by decide) rfl (Nat.le_of_ble_eq_true rfl) ?_
  intro p e s m args below meth c A Q ls hx hb hr hml hts hown hlocks hA hK hP hD hZ hS hQ hl
  have hown : s.vm.findClass RX8 = some m.cls := hown
  have hl : lv_has ls 3 [(0, .ref (a 0)), (1, .int p1)] := hl
  unfold fX8_aboveOf at hf
  refine lv_iconst (v := 0) hx hb dX8_aboveOf_0 (by decide) ?_
  refine lv_istore_n (lv' := [(2, .int 0), (0, .ref (a 0)), (1, .int p1)]) hx hb dX8_aboveOf_1 rfl hl (by decide) rfl (fun ls hl => ?_)
  have L2 : ∀ (n2 : Nat) (x2_2 : Int32), fX8_aboveOf_L2 v_rowOf v_columnOf p1 n2 x2_2 = some fin → ∀ (H : Heap) (locs : List Loc), va_P (dC, dI) vwCl (wX8 cI cB cE a v_boards v_kind v_rows v_outer v_inner v_content v_boxes v_rowOf v_columnOf v_seen v_seenWhat v_seenCan v_pageLength v_page v_isWhole v_newKind v_newRows v_newOuter v_newInner v_newContent v_now v_left v_box v_isCounted v_counted v_given v_isTermed v_terms v_term v_shape v_readBoxes v_readRow v_readColumn v_grid v_often v_seedNow v_isKept v_keptBoard v_keptKind v_keptRows v_keptSeen v_keptOuter v_keptInner v_keptContent v_keptWhat v_keptCan v_h) H → va_D A (wX8 cI cB cE a v_boards v_kind v_rows v_outer v_inner v_content v_boxes v_rowOf v_columnOf v_seen v_seenWhat v_seenCan v_pageLength v_page v_isWhole v_newKind v_newRows v_newOuter v_newInner v_newContent v_now v_left v_box v_isCounted v_counted v_given v_isTermed v_terms v_term v_shape v_readBoxes v_readRow v_readColumn v_grid v_often v_seedNow v_isKept v_keptBoard v_keptKind v_keptRows v_keptSeen v_keptOuter v_keptInner v_keptContent v_keptWhat v_keptCan v_h) → va_S A s.heap H locs → ∀ (ls : Array Slot), lv_has ls 3 [(0, .ref (a 0)), (1, .int p1), (2, .int x2_2)] → W p l e rmX8_aboveOf s m args below meth c H locs 0 0 Q (F0 m 2 ls []) := by
    intro n2
    induction n2 with
    | zero =>
      intro x2_2 hf
      rw [fX8_aboveOf_L2] at hf
      cases hf
    | succ n2 ih2 =>
      intro x2_2 hf H locs hP hD hS ls hl
      rw [fX8_aboveOf_L2] at hf
      refine lv_iload_n hx hb dX8_aboveOf_2 rfl (lv_at hl 2 rfl) ?_
      refine lv_iload_n hx hb dX8_aboveOf_3 rfl (lv_at hl 1 rfl) ?_
      refine lv_icmp_ge (tgt := 47) hx hb dX8_aboveOf_4 (by decide) (fun c_1 => ?_) (fun c_1 => ?_)
      · rw [if_pos c_1] at hf
        refine lv_iconst (v := (-1)) hx hb dX8_aboveOf_47 (by decide) ?_
        have hQ2 := hQ
        rw [← Option.some.inj hf] at hQ2
        exact cx_iret hQ2 hx hb hr hlocks hK hP hD hS dX8_aboveOf_48
      · rw [if_neg c_1] at hf
        refine lv_aload_n hx hb dX8_aboveOf_7 rfl (lv_at hl 0 rfl) ?_
        refine va_get (D := (dC, dI)) (ci := 8) (C := RX8) (T := TX8) (N := 47) hx hb hts (fun _ h => List.mem_cons_of_mem _ (List.mem_append_right _ h)) hown hK hP 0 rfl rfl 7 (by decide) (hts (.fieldLink RX8 19 "SkewBoardModel" "rowOf" "[I") (List.mem_of_getElem? (i := 1) rfl)) (fun _ h9 => h9) rfl dX8_aboveOf_8 ?_
        refine lv_iload_n hx hb dX8_aboveOf_11 rfl (lv_at hl 2 rfl) ?_
        obtain ⟨g_2, hf⟩ := gd_some hf
        refine va_iald hx hb hK hP 4 0 rfl rfl (inb_vp g_2) dX8_aboveOf_12 ?_
        refine lv_aload_n hx hb dX8_aboveOf_13 rfl (lv_at hl 0 rfl) ?_
        refine va_get (D := (dC, dI)) (ci := 8) (C := RX8) (T := TX8) (N := 47) hx hb hts (fun _ h => List.mem_cons_of_mem _ (List.mem_append_right _ h)) hown hK hP 0 rfl rfl 7 (by decide) (hts (.fieldLink RX8 19 "SkewBoardModel" "rowOf" "[I") (List.mem_of_getElem? (i := 1) rfl)) (fun _ h9 => h9) rfl dX8_aboveOf_14 ?_
        refine lv_iload_n hx hb dX8_aboveOf_17 rfl (lv_at hl 1 rfl) ?_
        obtain ⟨g_3, hf⟩ := gd_some hf
        refine va_iald hx hb hK hP 4 0 rfl rfl (inb_vp g_3) dX8_aboveOf_18 ?_
        refine lv_iconst (v := 1) hx hb dX8_aboveOf_19 (by decide) ?_
        refine lv_isub hx hb dX8_aboveOf_20 ?_
        have J41 : ∀ (u_41 : Unit), fX8_aboveOf_J41 x2_2 (fX8_aboveOf_L2 v_rowOf v_columnOf p1 n2) u_41 = some fin → ∀ (H : Heap) (locs : List Loc), va_P (dC, dI) vwCl (wX8 cI cB cE a v_boards v_kind v_rows v_outer v_inner v_content v_boxes v_rowOf v_columnOf v_seen v_seenWhat v_seenCan v_pageLength v_page v_isWhole v_newKind v_newRows v_newOuter v_newInner v_newContent v_now v_left v_box v_isCounted v_counted v_given v_isTermed v_terms v_term v_shape v_readBoxes v_readRow v_readColumn v_grid v_often v_seedNow v_isKept v_keptBoard v_keptKind v_keptRows v_keptSeen v_keptOuter v_keptInner v_keptContent v_keptWhat v_keptCan v_h) H → va_D A (wX8 cI cB cE a v_boards v_kind v_rows v_outer v_inner v_content v_boxes v_rowOf v_columnOf v_seen v_seenWhat v_seenCan v_pageLength v_page v_isWhole v_newKind v_newRows v_newOuter v_newInner v_newContent v_now v_left v_box v_isCounted v_counted v_given v_isTermed v_terms v_term v_shape v_readBoxes v_readRow v_readColumn v_grid v_often v_seedNow v_isKept v_keptBoard v_keptKind v_keptRows v_keptSeen v_keptOuter v_keptInner v_keptContent v_keptWhat v_keptCan v_h) → va_S A s.heap H locs → ∀ (ls : Array Slot), lv_has ls 3 [(0, .ref (a 0)), (1, .int p1), (2, .int x2_2)] → W p l e rmX8_aboveOf s m args below meth c H locs 0 0 Q (F0 m 41 ls []) := by
          intro u_41 hf H locs hP hD hS ls hl
          unfold fX8_aboveOf_J41 at hf
          refine lv_iinc (v := (x2_2 + 1)) (lv' := [(2, .int (x2_2 + 1)), (0, .ref (a 0)), (1, .int p1)]) hx hb dX8_aboveOf_41 hl (k := 2) rfl rfl (by decide) rfl (fun ls hl => ?_)
          refine lv_goto (tgt := 2) hx hb dX8_aboveOf_44 (by decide) ?_
          exact ih2 (x2_2 + 1) hf _ _ hP hD hS ls (lv_sub hl [1, 2, 0] rfl)
        refine lv_icmp_ne (tgt := 41) hx hb dX8_aboveOf_21 (by decide) (fun c_4 => ?_) (fun c_4 => ?_)
        · rw [if_neg c_4] at hf
          exact J41 () hf _ _ hP hD hS ls (lv_sub hl [0, 1, 2] rfl)
        · rw [if_pos c_4] at hf
          refine lv_aload_n hx hb dX8_aboveOf_24 rfl (lv_at hl 0 rfl) ?_
          refine va_get (D := (dC, dI)) (ci := 8) (C := RX8) (T := TX8) (N := 47) hx hb hts (fun _ h => List.mem_cons_of_mem _ (List.mem_append_right _ h)) hown hK hP 0 rfl rfl 8 (by decide) (hts (.fieldLink RX8 22 "SkewBoardModel" "columnOf" "[I") (List.mem_of_getElem? (i := 2) rfl)) (fun _ h9 => h9) rfl dX8_aboveOf_25 ?_
          refine lv_iload_n hx hb dX8_aboveOf_28 rfl (lv_at hl 2 rfl) ?_
          refine va_iald hx hb hK hP 5 0 rfl rfl (inb_vp g_2) dX8_aboveOf_29 ?_
          refine lv_aload_n hx hb dX8_aboveOf_30 rfl (lv_at hl 0 rfl) ?_
          refine va_get (D := (dC, dI)) (ci := 8) (C := RX8) (T := TX8) (N := 47) hx hb hts (fun _ h => List.mem_cons_of_mem _ (List.mem_append_right _ h)) hown hK hP 0 rfl rfl 8 (by decide) (hts (.fieldLink RX8 22 "SkewBoardModel" "columnOf" "[I") (List.mem_of_getElem? (i := 2) rfl)) (fun _ h9 => h9) rfl dX8_aboveOf_31 ?_
          refine lv_iload_n hx hb dX8_aboveOf_34 rfl (lv_at hl 1 rfl) ?_
          refine va_iald hx hb hK hP 5 0 rfl rfl (inb_vp g_3) dX8_aboveOf_35 ?_
          refine lv_icmp_ne (tgt := 41) hx hb dX8_aboveOf_36 (by decide) (fun c_5 => ?_) (fun c_5 => ?_)
          · rw [if_neg c_5] at hf
            exact J41 () hf _ _ hP hD hS ls (lv_sub hl [0, 1, 2] rfl)
          · rw [if_pos c_5] at hf
            refine lv_iload_n hx hb dX8_aboveOf_39 rfl (lv_at hl 2 rfl) ?_
            have hQ2 := hQ
            rw [← Option.some.inj hf] at hQ2
            exact cx_iret hQ2 hx hb hr hlocks hK hP hD hS dX8_aboveOf_40
  exact L2 fu 0 hf _ _ hP hD hS ls (lv_sub hl [1, 2, 0] rfl)

def fX8_rowFits_J42 (y0_42 : Int32) : Option (Int32) :=
    gd (isb y0_42) (some y0_42)
def fX8_rowFits_J53 (y0_53 : Int32) : Option (Int32) :=
    gd (isb y0_53) (some y0_53)
def fX8_rowFits_J64 (y0_64 : Int32) : Option (Int32) :=
    gd (isb y0_64) (some y0_64)
def fX8_rowFits (p1 : Int32) (p2 : Int32) (v_kind : Int32) : Option (Int32) :=
  if v_kind = 3 then (fX8_rowFits_J42 (if p2 ≤ p1 then 0 else 1)) else if v_kind = 4 then (fX8_rowFits_J53 (if p1 < p2 then 0 else 1)) else (fX8_rowFits_J64 (if p2 < p1 then 0 else 1))
def rmX8_rowFits : Room := { frames := 0, cells := 0, slots := 0, locals := 0 }
set_option maxRecDepth 100000 in
set_option maxHeartbeats 4000000 in
theorem ctX8_rowFits (l : Launch) (z : Nat × Nat × Nat) (dC : Nat → ClassId) (dI : Nat → Nat → Nat) (cI cB cE : ClassId) (a : Nat → Nat) (v_boards : Int32) (v_kind : Int32) (v_rows : Int32) (v_outer : Nat → Int32) (v_inner : Nat → Int32) (v_content : Nat → Int32) (v_boxes : Int32) (v_rowOf : Nat → Int32) (v_columnOf : Nat → Int32) (v_seen : Int32) (v_seenWhat : Nat → Int32) (v_seenCan : Nat → Int32) (v_pageLength : Int32) (v_page : Nat → Int32) (v_isWhole : Int32) (v_newKind : Int32) (v_newRows : Int32) (v_newOuter : Nat → Int32) (v_newInner : Nat → Int32) (v_newContent : Nat → Int32) (v_now : Nat → Int32) (v_left : Nat → Int32) (v_box : Int32) (v_isCounted : Int32) (v_counted : Int32) (v_given : Nat → Int32) (v_isTermed : Int32) (v_terms : Int32) (v_term : Nat → Int32) (v_shape : Nat → Int32) (v_readBoxes : Int32) (v_readRow : Nat → Int32) (v_readColumn : Nat → Int32) (v_grid : Nat → Int32) (v_often : Nat → Int32) (v_seedNow : Int64) (v_isKept : Int32) (v_keptBoard : Int32) (v_keptKind : Int32) (v_keptRows : Int32) (v_keptSeen : Int32) (v_keptOuter : Nat → Int32) (v_keptInner : Nat → Int32) (v_keptContent : Nat → Int32) (v_keptWhat : Nat → Int32) (v_keptCan : Nat → Int32) (v_h : Int64) (p1 : Int32) (p2 : Int32) (fin : Int32) (hf : fX8_rowFits p1 p2 v_kind = some fin) : Ct l z (dC, dI) (tyL cI cB cE) yX8_rowFits wsX8_rowFits rmX8_rowFits [.ref (a 0), .int p1, .int p2] (wX8 cI cB cE a v_boards v_kind v_rows v_outer v_inner v_content v_boxes v_rowOf v_columnOf v_seen v_seenWhat v_seenCan v_pageLength v_page v_isWhole v_newKind v_newRows v_newOuter v_newInner v_newContent v_now v_left v_box v_isCounted v_counted v_given v_isTermed v_terms v_term v_shape v_readBoxes v_readRow v_readColumn v_grid v_often v_seedNow v_isKept v_keptBoard v_keptKind v_keptRows v_keptSeen v_keptOuter v_keptInner v_keptContent v_keptWhat v_keptCan v_h) (some (.int fin)) (wX8 cI cB cE a v_boards v_kind v_rows v_outer v_inner v_content v_boxes v_rowOf v_columnOf v_seen v_seenWhat v_seenCan v_pageLength v_page v_isWhole v_newKind v_newRows v_newOuter v_newInner v_newContent v_now v_left v_box v_isCounted v_counted v_given v_isTermed v_terms v_term v_shape v_readBoxes v_readRow v_readColumn v_grid v_often v_seedNow v_isKept v_keptBoard v_keptKind v_keptRows v_keptSeen v_keptOuter v_keptInner v_keptContent v_keptWhat v_keptCan v_h) := by
  refine Met.ofC (cc := cX8_rowFits) (maxL := 3) (ret := (some .boolean)) (by decide) rfl (Nat.le_of_ble_eq_true rfl) ?_
  intro p e s m args below meth c A Q ls hx hb hr hml hts hown hlocks hA hK hP hD hZ hS hQ hl
  have hown : s.vm.findClass RX8 = some m.cls := hown
  have hl : lv_has ls 3 [(0, .ref (a 0)), (1, .int p1), (2, .int p2)] := hl
  unfold fX8_rowFits at hf
  refine lv_aload_n hx hb dX8_rowFits_0 rfl (lv_at hl 0 rfl) ?_
  refine va_get (D := (dC, dI)) (ci := 8) (C := RX8) (T := TX8) (N := 47) hx hb hts (fun _ h => List.mem_cons_of_mem _ (List.mem_append_right _ h)) hown hK hP 0 rfl rfl 1 (by decide) (hts (.fieldLink RX8 139 "SkewBoardModel" "kind" "I") (List.mem_of_getElem? (i := 1) rfl)) (fun _ h9 => h9) rfl dX8_rowFits_1 ?_
  by_cases c_1 : v_kind = 3
  · rw [if_pos c_1] at hf
    refine lv_lookup (off := 28) (tgt := 32) hx hb dX8_rowFits_4 (by decide) (by rw [c_1]; rfl) (by decide) ?_
    refine lv_iload_n hx hb dX8_rowFits_32 rfl (lv_at hl 1 rfl) ?_
    refine lv_iload_n hx hb dX8_rowFits_33 rfl (lv_at hl 2 rfl) ?_
    have J42 : ∀ (y0_42 : Int32), fX8_rowFits_J42  y0_42 = some fin → ∀ (H : Heap) (locs : List Loc), va_P (dC, dI) vwCl (wX8 cI cB cE a v_boards v_kind v_rows v_outer v_inner v_content v_boxes v_rowOf v_columnOf v_seen v_seenWhat v_seenCan v_pageLength v_page v_isWhole v_newKind v_newRows v_newOuter v_newInner v_newContent v_now v_left v_box v_isCounted v_counted v_given v_isTermed v_terms v_term v_shape v_readBoxes v_readRow v_readColumn v_grid v_often v_seedNow v_isKept v_keptBoard v_keptKind v_keptRows v_keptSeen v_keptOuter v_keptInner v_keptContent v_keptWhat v_keptCan v_h) H → va_D A (wX8 cI cB cE a v_boards v_kind v_rows v_outer v_inner v_content v_boxes v_rowOf v_columnOf v_seen v_seenWhat v_seenCan v_pageLength v_page v_isWhole v_newKind v_newRows v_newOuter v_newInner v_newContent v_now v_left v_box v_isCounted v_counted v_given v_isTermed v_terms v_term v_shape v_readBoxes v_readRow v_readColumn v_grid v_often v_seedNow v_isKept v_keptBoard v_keptKind v_keptRows v_keptSeen v_keptOuter v_keptInner v_keptContent v_keptWhat v_keptCan v_h) → va_S A s.heap H locs → ∀ (ls : Array Slot), lv_has ls 3 [] → W p l e rmX8_rowFits s m args below meth c H locs 0 0 Q (F0 m 42 ls [.int y0_42]) := by
      intro y0_42 hf H locs hP hD hS ls hl
      unfold fX8_rowFits_J42 at hf
      obtain ⟨g_2, hf⟩ := gd_some hf
      have hQ2 := hQ
      rw [← Option.some.inj hf] at hQ2
      exact cx_zret (isb_nar g_2) hQ2 hx hb hr hlocks hK hP hD hS dX8_rowFits_42
    refine lv_icmp_ge (tgt := 41) hx hb dX8_rowFits_34 (by decide) (fun c_3 => ?_) (fun c_3 => ?_)
    · rw [if_pos c_3] at hf
      refine lv_iconst (v := 0) hx hb dX8_rowFits_41 (by decide) ?_
      exact J42 0 hf _ _ hP hD hS ls (lv_sub hl [] rfl)
    · rw [if_neg c_3] at hf
      refine lv_iconst (v := 1) hx hb dX8_rowFits_37 (by decide) ?_
      refine lv_goto (tgt := 42) hx hb dX8_rowFits_38 (by decide) ?_
      exact J42 1 hf _ _ hP hD hS ls (lv_sub hl [] rfl)
  · rw [if_neg c_1] at hf
    by_cases c_4 : v_kind = 4
    · rw [if_pos c_4] at hf
      refine lv_lookup (off := 39) (tgt := 43) hx hb dX8_rowFits_4 (by decide) (by rw [c_4]; rfl) (by decide) ?_
      refine lv_iload_n hx hb dX8_rowFits_43 rfl (lv_at hl 1 rfl) ?_
      refine lv_iload_n hx hb dX8_rowFits_44 rfl (lv_at hl 2 rfl) ?_
      have J53 : ∀ (y0_53 : Int32), fX8_rowFits_J53  y0_53 = some fin → ∀ (H : Heap) (locs : List Loc), va_P (dC, dI) vwCl (wX8 cI cB cE a v_boards v_kind v_rows v_outer v_inner v_content v_boxes v_rowOf v_columnOf v_seen v_seenWhat v_seenCan v_pageLength v_page v_isWhole v_newKind v_newRows v_newOuter v_newInner v_newContent v_now v_left v_box v_isCounted v_counted v_given v_isTermed v_terms v_term v_shape v_readBoxes v_readRow v_readColumn v_grid v_often v_seedNow v_isKept v_keptBoard v_keptKind v_keptRows v_keptSeen v_keptOuter v_keptInner v_keptContent v_keptWhat v_keptCan v_h) H → va_D A (wX8 cI cB cE a v_boards v_kind v_rows v_outer v_inner v_content v_boxes v_rowOf v_columnOf v_seen v_seenWhat v_seenCan v_pageLength v_page v_isWhole v_newKind v_newRows v_newOuter v_newInner v_newContent v_now v_left v_box v_isCounted v_counted v_given v_isTermed v_terms v_term v_shape v_readBoxes v_readRow v_readColumn v_grid v_often v_seedNow v_isKept v_keptBoard v_keptKind v_keptRows v_keptSeen v_keptOuter v_keptInner v_keptContent v_keptWhat v_keptCan v_h) → va_S A s.heap H locs → ∀ (ls : Array Slot), lv_has ls 3 [] → W p l e rmX8_rowFits s m args below meth c H locs 0 0 Q (F0 m 53 ls [.int y0_53]) := by
        intro y0_53 hf H locs hP hD hS ls hl
        unfold fX8_rowFits_J53 at hf
        obtain ⟨g_5, hf⟩ := gd_some hf
        have hQ2 := hQ
        rw [← Option.some.inj hf] at hQ2
        exact cx_zret (isb_nar g_5) hQ2 hx hb hr hlocks hK hP hD hS dX8_rowFits_53
      refine lv_icmp_lt (tgt := 52) hx hb dX8_rowFits_45 (by decide) (fun c_6 => ?_) (fun c_6 => ?_)
      · rw [if_pos c_6] at hf
        refine lv_iconst (v := 0) hx hb dX8_rowFits_52 (by decide) ?_
        exact J53 0 hf _ _ hP hD hS ls (lv_sub hl [] rfl)
      · rw [if_neg c_6] at hf
        refine lv_iconst (v := 1) hx hb dX8_rowFits_48 (by decide) ?_
        refine lv_goto (tgt := 53) hx hb dX8_rowFits_49 (by decide) ?_
        exact J53 1 hf _ _ hP hD hS ls (lv_sub hl [] rfl)
    · rw [if_neg c_4] at hf
      have tc_1 : ¬ (v_kind).toInt = 3 := fun h => c_1 (Int32.toInt_inj.mp h)
      have tc_4 : ¬ (v_kind).toInt = 4 := fun h => c_4 (Int32.toInt_inj.mp h)
      refine lv_lookup (off := 50) (tgt := 54) hx hb dX8_rowFits_4 (by decide) (by simp only [Op.lookupswitch.offset_cons, Op.lookupswitch.offset_nil, if_neg (Ne.symm tc_1), if_neg (Ne.symm tc_4)]) (by decide) ?_
      refine lv_iload_n hx hb dX8_rowFits_54 rfl (lv_at hl 1 rfl) ?_
      refine lv_iload_n hx hb dX8_rowFits_55 rfl (lv_at hl 2 rfl) ?_
      have J64 : ∀ (y0_64 : Int32), fX8_rowFits_J64  y0_64 = some fin → ∀ (H : Heap) (locs : List Loc), va_P (dC, dI) vwCl (wX8 cI cB cE a v_boards v_kind v_rows v_outer v_inner v_content v_boxes v_rowOf v_columnOf v_seen v_seenWhat v_seenCan v_pageLength v_page v_isWhole v_newKind v_newRows v_newOuter v_newInner v_newContent v_now v_left v_box v_isCounted v_counted v_given v_isTermed v_terms v_term v_shape v_readBoxes v_readRow v_readColumn v_grid v_often v_seedNow v_isKept v_keptBoard v_keptKind v_keptRows v_keptSeen v_keptOuter v_keptInner v_keptContent v_keptWhat v_keptCan v_h) H → va_D A (wX8 cI cB cE a v_boards v_kind v_rows v_outer v_inner v_content v_boxes v_rowOf v_columnOf v_seen v_seenWhat v_seenCan v_pageLength v_page v_isWhole v_newKind v_newRows v_newOuter v_newInner v_newContent v_now v_left v_box v_isCounted v_counted v_given v_isTermed v_terms v_term v_shape v_readBoxes v_readRow v_readColumn v_grid v_often v_seedNow v_isKept v_keptBoard v_keptKind v_keptRows v_keptSeen v_keptOuter v_keptInner v_keptContent v_keptWhat v_keptCan v_h) → va_S A s.heap H locs → ∀ (ls : Array Slot), lv_has ls 3 [] → W p l e rmX8_rowFits s m args below meth c H locs 0 0 Q (F0 m 64 ls [.int y0_64]) := by
        intro y0_64 hf H locs hP hD hS ls hl
        unfold fX8_rowFits_J64 at hf
        obtain ⟨g_7, hf⟩ := gd_some hf
        have hQ2 := hQ
        rw [← Option.some.inj hf] at hQ2
        exact cx_zret (isb_nar g_7) hQ2 hx hb hr hlocks hK hP hD hS dX8_rowFits_64
      refine lv_icmp_gt (tgt := 63) hx hb dX8_rowFits_56 (by decide) (fun c_8 => ?_) (fun c_8 => ?_)
      · rw [if_pos c_8] at hf
        refine lv_iconst (v := 0) hx hb dX8_rowFits_63 (by decide) ?_
        exact J64 0 hf _ _ hP hD hS ls (lv_sub hl [] rfl)
      · rw [if_neg c_8] at hf
        refine lv_iconst (v := 1) hx hb dX8_rowFits_59 (by decide) ?_
        refine lv_goto (tgt := 64) hx hb dX8_rowFits_60 (by decide) ?_
        exact J64 1 hf _ _ hP hD hS ls (lv_sub hl [] rfl)

def fX8_columnFits_J46 (y0_46 : Int32) : Option (Int32) :=
    gd (isb y0_46) (some y0_46)
def fX8_columnFits_J36 (p1 : Int32) (p2 : Int32) (u_36 : Unit) : Option (Int32) :=
    fX8_columnFits_J46 (if p2 ≤ p1 then 0 else 1)
def fX8_columnFits_J57 (y0_57 : Int32) : Option (Int32) :=
    gd (isb y0_57) (some y0_57)
def fX8_columnFits_J68 (y0_68 : Int32) : Option (Int32) :=
    gd (isb y0_68) (some y0_68)
def fX8_columnFits (p1 : Int32) (p2 : Int32) (v_kind : Int32) : Option (Int32) :=
  if v_kind = 1 then (fX8_columnFits_J36 p1 p2 ()) else if v_kind = 2 then (fX8_columnFits_J36 p1 p2 ()) else if v_kind = 3 then (fX8_columnFits_J57 (if p2 < p1 then 0 else 1)) else if v_kind = 4 then (fX8_columnFits_J68 (if p1 ≤ p2 then 0 else 1)) else (some 1)
def rmX8_columnFits : Room := { frames := 0, cells := 0, slots := 0, locals := 0 }
set_option maxRecDepth 100000 in
set_option maxHeartbeats 4000000 in
theorem ctX8_columnFits (l : Launch) (z : Nat × Nat × Nat) (dC : Nat → ClassId) (dI : Nat → Nat → Nat) (cI cB cE : ClassId) (a : Nat → Nat) (v_boards : Int32) (v_kind : Int32) (v_rows : Int32) (v_outer : Nat → Int32) (v_inner : Nat → Int32) (v_content : Nat → Int32) (v_boxes : Int32) (v_rowOf : Nat → Int32) (v_columnOf : Nat → Int32) (v_seen : Int32) (v_seenWhat : Nat → Int32) (v_seenCan : Nat → Int32) (v_pageLength : Int32) (v_page : Nat → Int32) (v_isWhole : Int32) (v_newKind : Int32) (v_newRows : Int32) (v_newOuter : Nat → Int32) (v_newInner : Nat → Int32) (v_newContent : Nat → Int32) (v_now : Nat → Int32) (v_left : Nat → Int32) (v_box : Int32) (v_isCounted : Int32) (v_counted : Int32) (v_given : Nat → Int32) (v_isTermed : Int32) (v_terms : Int32) (v_term : Nat → Int32) (v_shape : Nat → Int32) (v_readBoxes : Int32) (v_readRow : Nat → Int32) (v_readColumn : Nat → Int32) (v_grid : Nat → Int32) (v_often : Nat → Int32) (v_seedNow : Int64) (v_isKept : Int32) (v_keptBoard : Int32) (v_keptKind : Int32) (v_keptRows : Int32) (v_keptSeen : Int32) (v_keptOuter : Nat → Int32) (v_keptInner : Nat → Int32) (v_keptContent : Nat → Int32) (v_keptWhat : Nat → Int32) (v_keptCan : Nat → Int32) (v_h : Int64) (p1 : Int32) (p2 : Int32) (fin : Int32) (hf : fX8_columnFits p1 p2 v_kind = some fin) : Ct l z (dC, dI) (tyL cI cB cE) yX8_columnFits wsX8_columnFits rmX8_columnFits [.ref (a 0), .int p1, .int p2] (wX8 cI cB cE a v_boards v_kind v_rows v_outer v_inner v_content v_boxes v_rowOf v_columnOf v_seen v_seenWhat v_seenCan v_pageLength v_page v_isWhole v_newKind v_newRows v_newOuter v_newInner v_newContent v_now v_left v_box v_isCounted v_counted v_given v_isTermed v_terms v_term v_shape v_readBoxes v_readRow v_readColumn v_grid v_often v_seedNow v_isKept v_keptBoard v_keptKind v_keptRows v_keptSeen v_keptOuter v_keptInner v_keptContent v_keptWhat v_keptCan v_h) (some (.int fin)) (wX8 cI cB cE a v_boards v_kind v_rows v_outer v_inner v_content v_boxes v_rowOf v_columnOf v_seen v_seenWhat v_seenCan v_pageLength v_page v_isWhole v_newKind v_newRows v_newOuter v_newInner v_newContent v_now v_left v_box v_isCounted v_counted v_given v_isTermed v_terms v_term v_shape v_readBoxes v_readRow v_readColumn v_grid v_often v_seedNow v_isKept v_keptBoard v_keptKind v_keptRows v_keptSeen v_keptOuter v_keptInner v_keptContent v_keptWhat v_keptCan v_h) := by
  refine Met.ofC (cc := cX8_columnFits) (maxL := 3) (ret := (some .boolean)) (by decide) rfl (Nat.le_of_ble_eq_true rfl) ?_
  intro p e s m args below meth c A Q ls hx hb hr hml hts hown hlocks hA hK hP hD hZ hS hQ hl
  have hown : s.vm.findClass RX8 = some m.cls := hown
  have hl : lv_has ls 3 [(0, .ref (a 0)), (1, .int p1), (2, .int p2)] := hl
  unfold fX8_columnFits at hf
  refine lv_aload_n hx hb dX8_columnFits_0 rfl (lv_at hl 0 rfl) ?_
  refine va_get (D := (dC, dI)) (ci := 8) (C := RX8) (T := TX8) (N := 47) hx hb hts (fun _ h => List.mem_cons_of_mem _ (List.mem_append_right _ h)) hown hK hP 0 rfl rfl 1 (by decide) (hts (.fieldLink RX8 139 "SkewBoardModel" "kind" "I") (List.mem_of_getElem? (i := 1) rfl)) (fun _ h9 => h9) rfl dX8_columnFits_1 ?_
  have J36 : ∀ (u_36 : Unit), fX8_columnFits_J36 p1 p2 u_36 = some fin → ∀ (H : Heap) (locs : List Loc), va_P (dC, dI) vwCl (wX8 cI cB cE a v_boards v_kind v_rows v_outer v_inner v_content v_boxes v_rowOf v_columnOf v_seen v_seenWhat v_seenCan v_pageLength v_page v_isWhole v_newKind v_newRows v_newOuter v_newInner v_newContent v_now v_left v_box v_isCounted v_counted v_given v_isTermed v_terms v_term v_shape v_readBoxes v_readRow v_readColumn v_grid v_often v_seedNow v_isKept v_keptBoard v_keptKind v_keptRows v_keptSeen v_keptOuter v_keptInner v_keptContent v_keptWhat v_keptCan v_h) H → va_D A (wX8 cI cB cE a v_boards v_kind v_rows v_outer v_inner v_content v_boxes v_rowOf v_columnOf v_seen v_seenWhat v_seenCan v_pageLength v_page v_isWhole v_newKind v_newRows v_newOuter v_newInner v_newContent v_now v_left v_box v_isCounted v_counted v_given v_isTermed v_terms v_term v_shape v_readBoxes v_readRow v_readColumn v_grid v_often v_seedNow v_isKept v_keptBoard v_keptKind v_keptRows v_keptSeen v_keptOuter v_keptInner v_keptContent v_keptWhat v_keptCan v_h) → va_S A s.heap H locs → ∀ (ls : Array Slot), lv_has ls 3 [(1, .int p1), (2, .int p2)] → W p l e rmX8_columnFits s m args below meth c H locs 0 0 Q (F0 m 36 ls []) := by
    intro u_36 hf H locs hP hD hS ls hl
    unfold fX8_columnFits_J36 at hf
    refine lv_iload_n hx hb dX8_columnFits_36 rfl (lv_at hl 0 rfl) ?_
    refine lv_iload_n hx hb dX8_columnFits_37 rfl (lv_at hl 1 rfl) ?_
    have J46 : ∀ (y0_46 : Int32), fX8_columnFits_J46  y0_46 = some fin → ∀ (H : Heap) (locs : List Loc), va_P (dC, dI) vwCl (wX8 cI cB cE a v_boards v_kind v_rows v_outer v_inner v_content v_boxes v_rowOf v_columnOf v_seen v_seenWhat v_seenCan v_pageLength v_page v_isWhole v_newKind v_newRows v_newOuter v_newInner v_newContent v_now v_left v_box v_isCounted v_counted v_given v_isTermed v_terms v_term v_shape v_readBoxes v_readRow v_readColumn v_grid v_often v_seedNow v_isKept v_keptBoard v_keptKind v_keptRows v_keptSeen v_keptOuter v_keptInner v_keptContent v_keptWhat v_keptCan v_h) H → va_D A (wX8 cI cB cE a v_boards v_kind v_rows v_outer v_inner v_content v_boxes v_rowOf v_columnOf v_seen v_seenWhat v_seenCan v_pageLength v_page v_isWhole v_newKind v_newRows v_newOuter v_newInner v_newContent v_now v_left v_box v_isCounted v_counted v_given v_isTermed v_terms v_term v_shape v_readBoxes v_readRow v_readColumn v_grid v_often v_seedNow v_isKept v_keptBoard v_keptKind v_keptRows v_keptSeen v_keptOuter v_keptInner v_keptContent v_keptWhat v_keptCan v_h) → va_S A s.heap H locs → ∀ (ls : Array Slot), lv_has ls 3 [] → W p l e rmX8_columnFits s m args below meth c H locs 0 0 Q (F0 m 46 ls [.int y0_46]) := by
      intro y0_46 hf H locs hP hD hS ls hl
      unfold fX8_columnFits_J46 at hf
      obtain ⟨g_1, hf⟩ := gd_some hf
      have hQ2 := hQ
      rw [← Option.some.inj hf] at hQ2
      exact cx_zret (isb_nar g_1) hQ2 hx hb hr hlocks hK hP hD hS dX8_columnFits_46
    refine lv_icmp_ge (tgt := 45) hx hb dX8_columnFits_38 (by decide) (fun c_2 => ?_) (fun c_2 => ?_)
    · rw [if_pos c_2] at hf
      refine lv_iconst (v := 0) hx hb dX8_columnFits_45 (by decide) ?_
      exact J46 0 hf _ _ hP hD hS ls (lv_sub hl [] rfl)
    · rw [if_neg c_2] at hf
      refine lv_iconst (v := 1) hx hb dX8_columnFits_41 (by decide) ?_
      refine lv_goto (tgt := 46) hx hb dX8_columnFits_42 (by decide) ?_
      exact J46 1 hf _ _ hP hD hS ls (lv_sub hl [] rfl)
  by_cases c_3 : v_kind = 1
  · rw [if_pos c_3] at hf
    refine lv_tableIn (off := 32) (tgt := 36) hx hb dX8_columnFits_4 (by rw [c_3]; decide) (by rw [c_3]; decide) (by rw [c_3]; rfl) (by decide) ?_
    exact J36 () hf _ _ hP hD hS ls (lv_sub hl [1, 2] rfl)
  · rw [if_neg c_3] at hf
    by_cases c_4 : v_kind = 2
    · rw [if_pos c_4] at hf
      refine lv_tableIn (off := 32) (tgt := 36) hx hb dX8_columnFits_4 (by rw [c_4]; decide) (by rw [c_4]; decide) (by rw [c_4]; rfl) (by decide) ?_
      exact J36 () hf _ _ hP hD hS ls (lv_sub hl [1, 2] rfl)
    · rw [if_neg c_4] at hf
      by_cases c_5 : v_kind = 3
      · rw [if_pos c_5] at hf
        refine lv_tableIn (off := 43) (tgt := 47) hx hb dX8_columnFits_4 (by rw [c_5]; decide) (by rw [c_5]; decide) (by rw [c_5]; rfl) (by decide) ?_
        refine lv_iload_n hx hb dX8_columnFits_47 rfl (lv_at hl 1 rfl) ?_
        refine lv_iload_n hx hb dX8_columnFits_48 rfl (lv_at hl 2 rfl) ?_
        have J57 : ∀ (y0_57 : Int32), fX8_columnFits_J57  y0_57 = some fin → ∀ (H : Heap) (locs : List Loc), va_P (dC, dI) vwCl (wX8 cI cB cE a v_boards v_kind v_rows v_outer v_inner v_content v_boxes v_rowOf v_columnOf v_seen v_seenWhat v_seenCan v_pageLength v_page v_isWhole v_newKind v_newRows v_newOuter v_newInner v_newContent v_now v_left v_box v_isCounted v_counted v_given v_isTermed v_terms v_term v_shape v_readBoxes v_readRow v_readColumn v_grid v_often v_seedNow v_isKept v_keptBoard v_keptKind v_keptRows v_keptSeen v_keptOuter v_keptInner v_keptContent v_keptWhat v_keptCan v_h) H → va_D A (wX8 cI cB cE a v_boards v_kind v_rows v_outer v_inner v_content v_boxes v_rowOf v_columnOf v_seen v_seenWhat v_seenCan v_pageLength v_page v_isWhole v_newKind v_newRows v_newOuter v_newInner v_newContent v_now v_left v_box v_isCounted v_counted v_given v_isTermed v_terms v_term v_shape v_readBoxes v_readRow v_readColumn v_grid v_often v_seedNow v_isKept v_keptBoard v_keptKind v_keptRows v_keptSeen v_keptOuter v_keptInner v_keptContent v_keptWhat v_keptCan v_h) → va_S A s.heap H locs → ∀ (ls : Array Slot), lv_has ls 3 [] → W p l e rmX8_columnFits s m args below meth c H locs 0 0 Q (F0 m 57 ls [.int y0_57]) := by
          intro y0_57 hf H locs hP hD hS ls hl
          unfold fX8_columnFits_J57 at hf
          obtain ⟨g_6, hf⟩ := gd_some hf
          have hQ2 := hQ
          rw [← Option.some.inj hf] at hQ2
          exact cx_zret (isb_nar g_6) hQ2 hx hb hr hlocks hK hP hD hS dX8_columnFits_57
        refine lv_icmp_gt (tgt := 56) hx hb dX8_columnFits_49 (by decide) (fun c_7 => ?_) (fun c_7 => ?_)
        · rw [if_pos c_7] at hf
          refine lv_iconst (v := 0) hx hb dX8_columnFits_56 (by decide) ?_
          exact J57 0 hf _ _ hP hD hS ls (lv_sub hl [] rfl)
        · rw [if_neg c_7] at hf
          refine lv_iconst (v := 1) hx hb dX8_columnFits_52 (by decide) ?_
          refine lv_goto (tgt := 57) hx hb dX8_columnFits_53 (by decide) ?_
          exact J57 1 hf _ _ hP hD hS ls (lv_sub hl [] rfl)
      · rw [if_neg c_5] at hf
        by_cases c_8 : v_kind = 4
        · rw [if_pos c_8] at hf
          refine lv_tableIn (off := 54) (tgt := 58) hx hb dX8_columnFits_4 (by rw [c_8]; decide) (by rw [c_8]; decide) (by rw [c_8]; rfl) (by decide) ?_
          refine lv_iload_n hx hb dX8_columnFits_58 rfl (lv_at hl 1 rfl) ?_
          refine lv_iload_n hx hb dX8_columnFits_59 rfl (lv_at hl 2 rfl) ?_
          have J68 : ∀ (y0_68 : Int32), fX8_columnFits_J68  y0_68 = some fin → ∀ (H : Heap) (locs : List Loc), va_P (dC, dI) vwCl (wX8 cI cB cE a v_boards v_kind v_rows v_outer v_inner v_content v_boxes v_rowOf v_columnOf v_seen v_seenWhat v_seenCan v_pageLength v_page v_isWhole v_newKind v_newRows v_newOuter v_newInner v_newContent v_now v_left v_box v_isCounted v_counted v_given v_isTermed v_terms v_term v_shape v_readBoxes v_readRow v_readColumn v_grid v_often v_seedNow v_isKept v_keptBoard v_keptKind v_keptRows v_keptSeen v_keptOuter v_keptInner v_keptContent v_keptWhat v_keptCan v_h) H → va_D A (wX8 cI cB cE a v_boards v_kind v_rows v_outer v_inner v_content v_boxes v_rowOf v_columnOf v_seen v_seenWhat v_seenCan v_pageLength v_page v_isWhole v_newKind v_newRows v_newOuter v_newInner v_newContent v_now v_left v_box v_isCounted v_counted v_given v_isTermed v_terms v_term v_shape v_readBoxes v_readRow v_readColumn v_grid v_often v_seedNow v_isKept v_keptBoard v_keptKind v_keptRows v_keptSeen v_keptOuter v_keptInner v_keptContent v_keptWhat v_keptCan v_h) → va_S A s.heap H locs → ∀ (ls : Array Slot), lv_has ls 3 [] → W p l e rmX8_columnFits s m args below meth c H locs 0 0 Q (F0 m 68 ls [.int y0_68]) := by
            intro y0_68 hf H locs hP hD hS ls hl
            unfold fX8_columnFits_J68 at hf
            obtain ⟨g_9, hf⟩ := gd_some hf
            have hQ2 := hQ
            rw [← Option.some.inj hf] at hQ2
            exact cx_zret (isb_nar g_9) hQ2 hx hb hr hlocks hK hP hD hS dX8_columnFits_68
          refine lv_icmp_le (tgt := 67) hx hb dX8_columnFits_60 (by decide) (fun c_10 => ?_) (fun c_10 => ?_)
          · rw [if_pos c_10] at hf
            refine lv_iconst (v := 0) hx hb dX8_columnFits_67 (by decide) ?_
            exact J68 0 hf _ _ hP hD hS ls (lv_sub hl [] rfl)
          · rw [if_neg c_10] at hf
            refine lv_iconst (v := 1) hx hb dX8_columnFits_63 (by decide) ?_
            refine lv_goto (tgt := 68) hx hb dX8_columnFits_64 (by decide) ?_
            exact J68 1 hf _ _ hP hD hS ls (lv_sub hl [] rfl)
        · rw [if_neg c_8] at hf
          have tc_3 : ¬ (v_kind).toInt = 1 := fun h => c_3 (Int32.toInt_inj.mp h)
          have tc_4 : ¬ (v_kind).toInt = 2 := fun h => c_4 (Int32.toInt_inj.mp h)
          have tc_5 : ¬ (v_kind).toInt = 3 := fun h => c_5 (Int32.toInt_inj.mp h)
          have tc_8 : ¬ (v_kind).toInt = 4 := fun h => c_8 (Int32.toInt_inj.mp h)
          refine lv_tableOut (tgt := 69) hx hb dX8_columnFits_4 (by omega) (by decide) ?_
          refine lv_iconst (v := 1) hx hb dX8_columnFits_69 (by decide) ?_
          have hQ2 := hQ
          rw [← Option.some.inj hf] at hQ2
          exact cx_zret rfl hQ2 hx hb hr hlocks hK hP hD hS dX8_columnFits_70

def fX8_fits_J87 (y0_87 : Int32) : Option (Int32) :=
    gd (isb y0_87) (some y0_87)
def fX8_fits_J86 (k87 : Int32 → Option (Int32)) (u_86 : Unit) : Option (Int32) :=
    k87 0
def fX8_fits_J82 (k87 : Int32 → Option (Int32)) (u_82 : Unit) : Option (Int32) :=
    k87 1
def fX8_fits_J47 (v_kind : Int32) (v_rowOf : Nat → Int32) (v_columnOf : Nat → Int32) (v_now : Nat → Int32) (p1 : Int32) (y0_47 : Int32) : Option (Int32) :=
    bd (fX8_aboveOf p1 v_rowOf v_columnOf) (fun r_1 => if y0_47 = 0 then (fX8_fits_J86 fX8_fits_J87 ()) else (if r_1 = (-1) then (fX8_fits_J82 fX8_fits_J87 ()) else (gd (inb r_1 9) (gd (inb p1 9) (bd (fX8_columnFits (v_now r_1.toNatClampNeg) (v_now p1.toNatClampNeg) v_kind) (fun r_7 => if r_7 = 0 then (fX8_fits_J86 fX8_fits_J87 ()) else (fX8_fits_J82 fX8_fits_J87 ())))))))
def fX8_fits_J42 (k47 : Int32 → Option (Int32)) (u_42 : Unit) : Option (Int32) :=
    k47 1
def fX8_fits (p1 : Int32) (v_kind : Int32) (v_rowOf : Nat → Int32) (v_columnOf : Nat → Int32) (v_now : Nat → Int32) : Option (Int32) :=
  if p1 = 0 then (fX8_fits_J42 (fX8_fits_J47 v_kind v_rowOf v_columnOf v_now p1) ()) else (gd (inb (p1 - 1) 9) (gd (inb p1 9) (if (v_rowOf (p1 - 1).toNatClampNeg) = (v_rowOf p1.toNatClampNeg) then (bd (fX8_rowFits (v_now (p1 - 1).toNatClampNeg) (v_now p1.toNatClampNeg) v_kind) (fun r_13 => if r_13 = 0 then (fX8_fits_J47 v_kind v_rowOf v_columnOf v_now p1 0) else (fX8_fits_J42 (fX8_fits_J47 v_kind v_rowOf v_columnOf v_now p1) ()))) else (fX8_fits_J42 (fX8_fits_J47 v_kind v_rowOf v_columnOf v_now p1) ()))))
def rmX8_fits : Room := { frames := 1, cells := 0, slots := 0, locals := 22 }
set_option maxRecDepth 100000 in
set_option maxHeartbeats 4000000 in
theorem ctX8_fits (l : Launch) (z : Nat × Nat × Nat) (dC : Nat → ClassId) (dI : Nat → Nat → Nat) (cI cB cE : ClassId) (a : Nat → Nat) (v_boards : Int32) (v_kind : Int32) (v_rows : Int32) (v_outer : Nat → Int32) (v_inner : Nat → Int32) (v_content : Nat → Int32) (v_boxes : Int32) (v_rowOf : Nat → Int32) (v_columnOf : Nat → Int32) (v_seen : Int32) (v_seenWhat : Nat → Int32) (v_seenCan : Nat → Int32) (v_pageLength : Int32) (v_page : Nat → Int32) (v_isWhole : Int32) (v_newKind : Int32) (v_newRows : Int32) (v_newOuter : Nat → Int32) (v_newInner : Nat → Int32) (v_newContent : Nat → Int32) (v_now : Nat → Int32) (v_left : Nat → Int32) (v_box : Int32) (v_isCounted : Int32) (v_counted : Int32) (v_given : Nat → Int32) (v_isTermed : Int32) (v_terms : Int32) (v_term : Nat → Int32) (v_shape : Nat → Int32) (v_readBoxes : Int32) (v_readRow : Nat → Int32) (v_readColumn : Nat → Int32) (v_grid : Nat → Int32) (v_often : Nat → Int32) (v_seedNow : Int64) (v_isKept : Int32) (v_keptBoard : Int32) (v_keptKind : Int32) (v_keptRows : Int32) (v_keptSeen : Int32) (v_keptOuter : Nat → Int32) (v_keptInner : Nat → Int32) (v_keptContent : Nat → Int32) (v_keptWhat : Nat → Int32) (v_keptCan : Nat → Int32) (v_h : Int64) (p1 : Int32) (fin : Int32) (hf : fX8_fits p1 v_kind v_rowOf v_columnOf v_now = some fin) : Ct l z (dC, dI) (tyL cI cB cE) yX8_fits wsX8_fits rmX8_fits [.ref (a 0), .int p1] (wX8 cI cB cE a v_boards v_kind v_rows v_outer v_inner v_content v_boxes v_rowOf v_columnOf v_seen v_seenWhat v_seenCan v_pageLength v_page v_isWhole v_newKind v_newRows v_newOuter v_newInner v_newContent v_now v_left v_box v_isCounted v_counted v_given v_isTermed v_terms v_term v_shape v_readBoxes v_readRow v_readColumn v_grid v_often v_seedNow v_isKept v_keptBoard v_keptKind v_keptRows v_keptSeen v_keptOuter v_keptInner v_keptContent v_keptWhat v_keptCan v_h) (some (.int fin)) (wX8 cI cB cE a v_boards v_kind v_rows v_outer v_inner v_content v_boxes v_rowOf v_columnOf v_seen v_seenWhat v_seenCan v_pageLength v_page v_isWhole v_newKind v_newRows v_newOuter v_newInner v_newContent v_now v_left v_box v_isCounted v_counted v_given v_isTermed v_terms v_term v_shape v_readBoxes v_readRow v_readColumn v_grid v_often v_seedNow v_isKept v_keptBoard v_keptKind v_keptRows v_keptSeen v_keptOuter v_keptInner v_keptContent v_keptWhat v_keptCan v_h) := by
  refine Met.ofC (cc := cX8_fits) (maxL := 4) (ret := (some .boolean)) (by decide) rfl (Nat.le_of_ble_eq_true rfl) ?_
  intro p e s m args below meth c A Q ls hx hb hr hml hts hown hlocks hA hK hP hD hZ hS hQ hl
  have hown : s.vm.findClass RX8 = some m.cls := hown
  have hl : lv_has ls 4 [(0, .ref (a 0)), (1, .int p1)] := hl
  unfold fX8_fits at hf
  refine lv_iload_n hx hb dX8_fits_0 rfl (lv_at hl 1 rfl) ?_
  have J47 : ∀ (y0_47 : Int32), fX8_fits_J47 v_kind v_rowOf v_columnOf v_now p1 y0_47 = some fin → ∀ (H : Heap) (locs : List Loc), va_P (dC, dI) vwCl (wX8 cI cB cE a v_boards v_kind v_rows v_outer v_inner v_content v_boxes v_rowOf v_columnOf v_seen v_seenWhat v_seenCan v_pageLength v_page v_isWhole v_newKind v_newRows v_newOuter v_newInner v_newContent v_now v_left v_box v_isCounted v_counted v_given v_isTermed v_terms v_term v_shape v_readBoxes v_readRow v_readColumn v_grid v_often v_seedNow v_isKept v_keptBoard v_keptKind v_keptRows v_keptSeen v_keptOuter v_keptInner v_keptContent v_keptWhat v_keptCan v_h) H → va_D A (wX8 cI cB cE a v_boards v_kind v_rows v_outer v_inner v_content v_boxes v_rowOf v_columnOf v_seen v_seenWhat v_seenCan v_pageLength v_page v_isWhole v_newKind v_newRows v_newOuter v_newInner v_newContent v_now v_left v_box v_isCounted v_counted v_given v_isTermed v_terms v_term v_shape v_readBoxes v_readRow v_readColumn v_grid v_often v_seedNow v_isKept v_keptBoard v_keptKind v_keptRows v_keptSeen v_keptOuter v_keptInner v_keptContent v_keptWhat v_keptCan v_h) → va_S A s.heap H locs → ∀ (ls : Array Slot), lv_has ls 4 [(0, .ref (a 0)), (1, .int p1)] → W p l e rmX8_fits s m args below meth c H locs 0 0 Q (F0 m 47 ls [.int y0_47]) := by
    intro y0_47 hf H locs hP hD hS ls hl
    unfold fX8_fits_J47 at hf
    refine lv_istore_n (lv' := [(2, .int y0_47), (0, .ref (a 0)), (1, .int p1)]) hx hb dX8_fits_47 rfl hl (by decide) rfl (fun ls hl => ?_)
    refine lv_aload_n hx hb dX8_fits_48 rfl (lv_at hl 1 rfl) ?_
    refine lv_iload_n hx hb dX8_fits_49 rfl (lv_at hl 2 rfl) ?_
    obtain ⟨r_1, hr_1, hf⟩ := bd_some hf
    refine cx_runW (cx_V (As := [.int p1]) (rest := []) ⟨hx, hb, hml, hown, hts⟩ (ctX8_aboveOf l z dC dI cI cB cE a v_boards v_kind v_rows v_outer v_inner v_content v_boxes v_rowOf v_columnOf v_seen v_seenWhat v_seenCan v_pageLength v_page v_isWhole v_newKind v_newRows v_newOuter v_newInner v_newContent v_now v_left v_box v_isCounted v_counted v_given v_isTermed v_terms v_term v_shape v_readBoxes v_readRow v_readColumn v_grid v_often v_seedNow v_isKept v_keptBoard v_keptKind v_keptRows v_keptSeen v_keptOuter v_keptInner v_keptContent v_keptWhat v_keptCan v_h p1 r_1 hr_1) (cwV 1 hts gX8_fits_X8_aboveOf rfl rfl rfl (by decide +kernel) ⟨Nat.le_of_ble_eq_true rfl, Nat.le_of_ble_eq_true rfl⟩) hK hP hD hZ hS hA (ci := 8) (q0 := 0) rfl rfl rfl hl.1 rfl (Nat.le_of_ble_eq_true rfl) dX8_fits_50) hD hS hA [.int r_1] rfl (fun H locs hP hD hS => ?_)
    refine lv_istore_n (lv' := [(3, .int r_1), (2, .int y0_47), (0, .ref (a 0)), (1, .int p1)]) hx hb dX8_fits_53 rfl hl (by decide) rfl (fun ls hl => ?_)
    refine lv_iload_n hx hb dX8_fits_54 rfl (lv_at hl 1 rfl) ?_
    have J87 : ∀ (y0_87 : Int32), fX8_fits_J87  y0_87 = some fin → ∀ (H : Heap) (locs : List Loc), va_P (dC, dI) vwCl (wX8 cI cB cE a v_boards v_kind v_rows v_outer v_inner v_content v_boxes v_rowOf v_columnOf v_seen v_seenWhat v_seenCan v_pageLength v_page v_isWhole v_newKind v_newRows v_newOuter v_newInner v_newContent v_now v_left v_box v_isCounted v_counted v_given v_isTermed v_terms v_term v_shape v_readBoxes v_readRow v_readColumn v_grid v_often v_seedNow v_isKept v_keptBoard v_keptKind v_keptRows v_keptSeen v_keptOuter v_keptInner v_keptContent v_keptWhat v_keptCan v_h) H → va_D A (wX8 cI cB cE a v_boards v_kind v_rows v_outer v_inner v_content v_boxes v_rowOf v_columnOf v_seen v_seenWhat v_seenCan v_pageLength v_page v_isWhole v_newKind v_newRows v_newOuter v_newInner v_newContent v_now v_left v_box v_isCounted v_counted v_given v_isTermed v_terms v_term v_shape v_readBoxes v_readRow v_readColumn v_grid v_often v_seedNow v_isKept v_keptBoard v_keptKind v_keptRows v_keptSeen v_keptOuter v_keptInner v_keptContent v_keptWhat v_keptCan v_h) → va_S A s.heap H locs → ∀ (ls : Array Slot), lv_has ls 4 [] → W p l e rmX8_fits s m args below meth c H locs 0 0 Q (F0 m 87 ls [.int y0_87]) := by
      intro y0_87 hf H locs hP hD hS ls hl
      unfold fX8_fits_J87 at hf
      obtain ⟨g_2, hf⟩ := gd_some hf
      have hQ2 := hQ
      rw [← Option.some.inj hf] at hQ2
      exact cx_zret (isb_nar g_2) hQ2 hx hb hr hlocks hK hP hD hS dX8_fits_87
    have J86 : ∀ (u_86 : Unit), fX8_fits_J86 (fX8_fits_J87) u_86 = some fin → ∀ (H : Heap) (locs : List Loc), va_P (dC, dI) vwCl (wX8 cI cB cE a v_boards v_kind v_rows v_outer v_inner v_content v_boxes v_rowOf v_columnOf v_seen v_seenWhat v_seenCan v_pageLength v_page v_isWhole v_newKind v_newRows v_newOuter v_newInner v_newContent v_now v_left v_box v_isCounted v_counted v_given v_isTermed v_terms v_term v_shape v_readBoxes v_readRow v_readColumn v_grid v_often v_seedNow v_isKept v_keptBoard v_keptKind v_keptRows v_keptSeen v_keptOuter v_keptInner v_keptContent v_keptWhat v_keptCan v_h) H → va_D A (wX8 cI cB cE a v_boards v_kind v_rows v_outer v_inner v_content v_boxes v_rowOf v_columnOf v_seen v_seenWhat v_seenCan v_pageLength v_page v_isWhole v_newKind v_newRows v_newOuter v_newInner v_newContent v_now v_left v_box v_isCounted v_counted v_given v_isTermed v_terms v_term v_shape v_readBoxes v_readRow v_readColumn v_grid v_often v_seedNow v_isKept v_keptBoard v_keptKind v_keptRows v_keptSeen v_keptOuter v_keptInner v_keptContent v_keptWhat v_keptCan v_h) → va_S A s.heap H locs → ∀ (ls : Array Slot), lv_has ls 4 [] → W p l e rmX8_fits s m args below meth c H locs 0 0 Q (F0 m 86 ls []) := by
      intro u_86 hf H locs hP hD hS ls hl
      unfold fX8_fits_J86 at hf
      refine lv_iconst (v := 0) hx hb dX8_fits_86 (by decide) ?_
      exact J87 0 hf _ _ hP hD hS ls (lv_sub hl [] rfl)
    refine lv_if_eq (tgt := 86) hx hb dX8_fits_55 (by decide) (fun c_3 => ?_) (fun c_3 => ?_)
    · rw [if_pos c_3] at hf
      exact J86 () hf _ _ hP hD hS ls (lv_sub hl [] rfl)
    · rw [if_neg c_3] at hf
      refine lv_iload_n hx hb dX8_fits_58 rfl (lv_at hl 0 rfl) ?_
      refine lv_iconst (v := (-1)) hx hb dX8_fits_59 (by decide) ?_
      have J82 : ∀ (u_82 : Unit), fX8_fits_J82 (fX8_fits_J87) u_82 = some fin → ∀ (H : Heap) (locs : List Loc), va_P (dC, dI) vwCl (wX8 cI cB cE a v_boards v_kind v_rows v_outer v_inner v_content v_boxes v_rowOf v_columnOf v_seen v_seenWhat v_seenCan v_pageLength v_page v_isWhole v_newKind v_newRows v_newOuter v_newInner v_newContent v_now v_left v_box v_isCounted v_counted v_given v_isTermed v_terms v_term v_shape v_readBoxes v_readRow v_readColumn v_grid v_often v_seedNow v_isKept v_keptBoard v_keptKind v_keptRows v_keptSeen v_keptOuter v_keptInner v_keptContent v_keptWhat v_keptCan v_h) H → va_D A (wX8 cI cB cE a v_boards v_kind v_rows v_outer v_inner v_content v_boxes v_rowOf v_columnOf v_seen v_seenWhat v_seenCan v_pageLength v_page v_isWhole v_newKind v_newRows v_newOuter v_newInner v_newContent v_now v_left v_box v_isCounted v_counted v_given v_isTermed v_terms v_term v_shape v_readBoxes v_readRow v_readColumn v_grid v_often v_seedNow v_isKept v_keptBoard v_keptKind v_keptRows v_keptSeen v_keptOuter v_keptInner v_keptContent v_keptWhat v_keptCan v_h) → va_S A s.heap H locs → ∀ (ls : Array Slot), lv_has ls 4 [] → W p l e rmX8_fits s m args below meth c H locs 0 0 Q (F0 m 82 ls []) := by
        intro u_82 hf H locs hP hD hS ls hl
        unfold fX8_fits_J82 at hf
        refine lv_iconst (v := 1) hx hb dX8_fits_82 (by decide) ?_
        refine lv_goto (tgt := 87) hx hb dX8_fits_83 (by decide) ?_
        exact J87 1 hf _ _ hP hD hS ls (lv_sub hl [] rfl)
      refine lv_icmp_eq (tgt := 82) hx hb dX8_fits_60 (by decide) (fun c_4 => ?_) (fun c_4 => ?_)
      · rw [if_pos c_4] at hf
        exact J82 () hf _ _ hP hD hS ls (lv_sub hl [] rfl)
      · rw [if_neg c_4] at hf
        refine lv_aload_n hx hb dX8_fits_63 rfl (lv_at hl 2 rfl) ?_
        refine lv_aload_n hx hb dX8_fits_64 rfl (lv_at hl 2 rfl) ?_
        refine va_get (D := (dC, dI)) (ci := 8) (C := RX8) (T := TX8) (N := 47) hx hb hts (fun _ h => List.mem_cons_of_mem _ (List.mem_append_right _ h)) hown hK hP 0 rfl rfl 20 (by decide) (hts (.fieldLink RX8 44 "SkewBoardModel" "now" "[I") (List.mem_of_getElem? (i := 2) rfl)) (fun _ h9 => h9) rfl dX8_fits_65 ?_
        refine lv_iload_n hx hb dX8_fits_68 rfl (lv_at hl 0 rfl) ?_
        obtain ⟨g_5, hf⟩ := gd_some hf
        refine va_iald hx hb hK hP 12 0 rfl rfl (inb_vp g_5) dX8_fits_69 ?_
        refine lv_aload_n hx hb dX8_fits_70 rfl (lv_at hl 2 rfl) ?_
        refine va_get (D := (dC, dI)) (ci := 8) (C := RX8) (T := TX8) (N := 47) hx hb hts (fun _ h => List.mem_cons_of_mem _ (List.mem_append_right _ h)) hown hK hP 0 rfl rfl 20 (by decide) (hts (.fieldLink RX8 44 "SkewBoardModel" "now" "[I") (List.mem_of_getElem? (i := 2) rfl)) (fun _ h9 => h9) rfl dX8_fits_71 ?_
        refine lv_iload_n hx hb dX8_fits_74 rfl (lv_at hl 3 rfl) ?_
        obtain ⟨g_6, hf⟩ := gd_some hf
        refine va_iald hx hb hK hP 12 0 rfl rfl (inb_vp g_6) dX8_fits_75 ?_
        obtain ⟨r_7, hr_7, hf⟩ := bd_some hf
        refine cx_runW (cx_V (As := [.int (v_now r_1.toNatClampNeg), .int (v_now p1.toNatClampNeg)]) (rest := []) ⟨hx, hb, hml, hown, hts⟩ (ctX8_columnFits l z dC dI cI cB cE a v_boards v_kind v_rows v_outer v_inner v_content v_boxes v_rowOf v_columnOf v_seen v_seenWhat v_seenCan v_pageLength v_page v_isWhole v_newKind v_newRows v_newOuter v_newInner v_newContent v_now v_left v_box v_isCounted v_counted v_given v_isTermed v_terms v_term v_shape v_readBoxes v_readRow v_readColumn v_grid v_often v_seedNow v_isKept v_keptBoard v_keptKind v_keptRows v_keptSeen v_keptOuter v_keptInner v_keptContent v_keptWhat v_keptCan v_h (v_now r_1.toNatClampNeg) (v_now p1.toNatClampNeg) r_7 hr_7) (cwV 2 hts gX8_fits_X8_columnFits rfl rfl rfl (by decide +kernel) ⟨Nat.le_of_ble_eq_true rfl, Nat.le_of_ble_eq_true rfl⟩) hK hP hD hZ hS hA (ci := 8) (q0 := 0) rfl rfl rfl hl.1 rfl (Nat.le_of_ble_eq_true rfl) dX8_fits_76) hD hS hA [.int r_7] rfl (fun H locs hP hD hS => ?_)
        refine lv_if_eq (tgt := 86) hx hb dX8_fits_79 (by decide) (fun c_8 => ?_) (fun c_8 => ?_)
        · rw [if_pos c_8] at hf
          exact J86 () hf _ _ hP hD hS ls (lv_sub hl [] rfl)
        · rw [if_neg c_8] at hf
          exact J82 () hf _ _ hP hD hS ls (lv_sub hl [] rfl)
  have J42 : ∀ (u_42 : Unit), fX8_fits_J42 (fX8_fits_J47 v_kind v_rowOf v_columnOf v_now p1) u_42 = some fin → ∀ (H : Heap) (locs : List Loc), va_P (dC, dI) vwCl (wX8 cI cB cE a v_boards v_kind v_rows v_outer v_inner v_content v_boxes v_rowOf v_columnOf v_seen v_seenWhat v_seenCan v_pageLength v_page v_isWhole v_newKind v_newRows v_newOuter v_newInner v_newContent v_now v_left v_box v_isCounted v_counted v_given v_isTermed v_terms v_term v_shape v_readBoxes v_readRow v_readColumn v_grid v_often v_seedNow v_isKept v_keptBoard v_keptKind v_keptRows v_keptSeen v_keptOuter v_keptInner v_keptContent v_keptWhat v_keptCan v_h) H → va_D A (wX8 cI cB cE a v_boards v_kind v_rows v_outer v_inner v_content v_boxes v_rowOf v_columnOf v_seen v_seenWhat v_seenCan v_pageLength v_page v_isWhole v_newKind v_newRows v_newOuter v_newInner v_newContent v_now v_left v_box v_isCounted v_counted v_given v_isTermed v_terms v_term v_shape v_readBoxes v_readRow v_readColumn v_grid v_often v_seedNow v_isKept v_keptBoard v_keptKind v_keptRows v_keptSeen v_keptOuter v_keptInner v_keptContent v_keptWhat v_keptCan v_h) → va_S A s.heap H locs → ∀ (ls : Array Slot), lv_has ls 4 [(0, .ref (a 0)), (1, .int p1)] → W p l e rmX8_fits s m args below meth c H locs 0 0 Q (F0 m 42 ls []) := by
    intro u_42 hf H locs hP hD hS ls hl
    unfold fX8_fits_J42 at hf
    refine lv_iconst (v := 1) hx hb dX8_fits_42 (by decide) ?_
    refine lv_goto (tgt := 47) hx hb dX8_fits_43 (by decide) ?_
    exact J47 1 hf _ _ hP hD hS ls (lv_sub hl [0, 1] rfl)
  refine lv_if_eq (tgt := 42) hx hb dX8_fits_1 (by decide) (fun c_9 => ?_) (fun c_9 => ?_)
  · rw [if_pos c_9] at hf
    exact J42 () hf _ _ hP hD hS ls (lv_sub hl [0, 1] rfl)
  · rw [if_neg c_9] at hf
    refine lv_aload_n hx hb dX8_fits_4 rfl (lv_at hl 0 rfl) ?_
    refine va_get (D := (dC, dI)) (ci := 8) (C := RX8) (T := TX8) (N := 47) hx hb hts (fun _ h => List.mem_cons_of_mem _ (List.mem_append_right _ h)) hown hK hP 0 rfl rfl 7 (by decide) (hts (.fieldLink RX8 19 "SkewBoardModel" "rowOf" "[I") (List.mem_of_getElem? (i := 1) rfl)) (fun _ h9 => h9) rfl dX8_fits_5 ?_
    refine lv_iload_n hx hb dX8_fits_8 rfl (lv_at hl 1 rfl) ?_
    refine lv_iconst (v := 1) hx hb dX8_fits_9 (by decide) ?_
    refine lv_isub hx hb dX8_fits_10 ?_
    obtain ⟨g_10, hf⟩ := gd_some hf
    refine va_iald hx hb hK hP 4 0 rfl rfl (inb_vp g_10) dX8_fits_11 ?_
    refine lv_aload_n hx hb dX8_fits_12 rfl (lv_at hl 0 rfl) ?_
    refine va_get (D := (dC, dI)) (ci := 8) (C := RX8) (T := TX8) (N := 47) hx hb hts (fun _ h => List.mem_cons_of_mem _ (List.mem_append_right _ h)) hown hK hP 0 rfl rfl 7 (by decide) (hts (.fieldLink RX8 19 "SkewBoardModel" "rowOf" "[I") (List.mem_of_getElem? (i := 1) rfl)) (fun _ h9 => h9) rfl dX8_fits_13 ?_
    refine lv_iload_n hx hb dX8_fits_16 rfl (lv_at hl 1 rfl) ?_
    obtain ⟨g_11, hf⟩ := gd_some hf
    refine va_iald hx hb hK hP 4 0 rfl rfl (inb_vp g_11) dX8_fits_17 ?_
    refine lv_icmp_ne (tgt := 42) hx hb dX8_fits_18 (by decide) (fun c_12 => ?_) (fun c_12 => ?_)
    · rw [if_neg c_12] at hf
      exact J42 () hf _ _ hP hD hS ls (lv_sub hl [0, 1] rfl)
    · rw [if_pos c_12] at hf
      refine lv_aload_n hx hb dX8_fits_21 rfl (lv_at hl 0 rfl) ?_
      refine lv_aload_n hx hb dX8_fits_22 rfl (lv_at hl 0 rfl) ?_
      refine va_get (D := (dC, dI)) (ci := 8) (C := RX8) (T := TX8) (N := 47) hx hb hts (fun _ h => List.mem_cons_of_mem _ (List.mem_append_right _ h)) hown hK hP 0 rfl rfl 20 (by decide) (hts (.fieldLink RX8 44 "SkewBoardModel" "now" "[I") (List.mem_of_getElem? (i := 2) rfl)) (fun _ h9 => h9) rfl dX8_fits_23 ?_
      refine lv_iload_n hx hb dX8_fits_26 rfl (lv_at hl 1 rfl) ?_
      refine lv_iconst (v := 1) hx hb dX8_fits_27 (by decide) ?_
      refine lv_isub hx hb dX8_fits_28 ?_
      refine va_iald hx hb hK hP 12 0 rfl rfl (inb_vp g_10) dX8_fits_29 ?_
      refine lv_aload_n hx hb dX8_fits_30 rfl (lv_at hl 0 rfl) ?_
      refine va_get (D := (dC, dI)) (ci := 8) (C := RX8) (T := TX8) (N := 47) hx hb hts (fun _ h => List.mem_cons_of_mem _ (List.mem_append_right _ h)) hown hK hP 0 rfl rfl 20 (by decide) (hts (.fieldLink RX8 44 "SkewBoardModel" "now" "[I") (List.mem_of_getElem? (i := 2) rfl)) (fun _ h9 => h9) rfl dX8_fits_31 ?_
      refine lv_iload_n hx hb dX8_fits_34 rfl (lv_at hl 1 rfl) ?_
      refine va_iald hx hb hK hP 12 0 rfl rfl (inb_vp g_11) dX8_fits_35 ?_
      obtain ⟨r_13, hr_13, hf⟩ := bd_some hf
      refine cx_runW (cx_V (As := [.int (v_now (p1 - 1).toNatClampNeg), .int (v_now p1.toNatClampNeg)]) (rest := []) ⟨hx, hb, hml, hown, hts⟩ (ctX8_rowFits l z dC dI cI cB cE a v_boards v_kind v_rows v_outer v_inner v_content v_boxes v_rowOf v_columnOf v_seen v_seenWhat v_seenCan v_pageLength v_page v_isWhole v_newKind v_newRows v_newOuter v_newInner v_newContent v_now v_left v_box v_isCounted v_counted v_given v_isTermed v_terms v_term v_shape v_readBoxes v_readRow v_readColumn v_grid v_often v_seedNow v_isKept v_keptBoard v_keptKind v_keptRows v_keptSeen v_keptOuter v_keptInner v_keptContent v_keptWhat v_keptCan v_h (v_now (p1 - 1).toNatClampNeg) (v_now p1.toNatClampNeg) r_13 hr_13) (cwV 2 hts gX8_fits_X8_rowFits rfl rfl rfl (by decide +kernel) ⟨Nat.le_of_ble_eq_true rfl, Nat.le_of_ble_eq_true rfl⟩) hK hP hD hZ hS hA (ci := 8) (q0 := 0) rfl rfl rfl hl.1 rfl (Nat.le_of_ble_eq_true rfl) dX8_fits_36) hD hS hA [.int r_13] rfl (fun H locs hP hD hS => ?_)
      refine lv_if_eq (tgt := 46) hx hb dX8_fits_39 (by decide) (fun c_14 => ?_) (fun c_14 => ?_)
      · rw [if_pos c_14] at hf
        refine lv_iconst (v := 0) hx hb dX8_fits_46 (by decide) ?_
        exact J47 0 hf _ _ hP hD hS ls (lv_sub hl [0, 1] rfl)
      · rw [if_neg c_14] at hf
        exact J42 () hf _ _ hP hD hS ls (lv_sub hl [0, 1] rfl)

def fX8_isLattice_J155 (x7_32 : Int32) (k32 : Int32 → Int32 → Int32 → Int32 → Int32 → Int32 → Option (Int32)) (x1_155 : Int32) (x2_155 : Int32) (x3_155 : Int32) (x4_155 : Int32) (x5_155 : Int32) : Option (Int32) :=
    k32 x1_155 x2_155 x3_155 x4_155 x5_155 (x7_32 + (-1))
def fX8_isLattice_J153 (x1_32 : Int32) (x2_32 : Int32) (x3_32 : Int32) (x4_32 : Int32) (y1_66 : Int32) (y1_85 : Int32) (y1_104 : Int32) (y1_124 : Int32) (k155 : Int32 → Int32 → Int32 → Int32 → Int32 → Option (Int32)) (y0_153 : Int32) : Option (Int32) :=
    k155 (x1_32 + y1_66) (x2_32 + y1_85) (x3_32 + y1_104) (x4_32 + y1_124) y0_153
def fX8_isLattice_J152 (k153 : Int32 → Option (Int32)) (u_152 : Unit) : Option (Int32) :=
    k153 0
def fX8_isLattice_J124 (x1_32 : Int32) (x2_32 : Int32) (x3_32 : Int32) (x4_32 : Int32) (x5_32 : Int32) (y1_66 : Int32) (y1_85 : Int32) (y1_104 : Int32) (k155 : Int32 → Int32 → Int32 → Int32 → Int32 → Option (Int32)) (y1_124 : Int32) : Option (Int32) :=
    if x5_32 = 0 then (fX8_isLattice_J152 (fX8_isLattice_J153 x1_32 x2_32 x3_32 x4_32 y1_66 y1_85 y1_104 y1_124 k155) ()) else (if (x1_32 + y1_66) < (x2_32 + y1_85) then (fX8_isLattice_J152 (fX8_isLattice_J153 x1_32 x2_32 x3_32 x4_32 y1_66 y1_85 y1_104 y1_124 k155) ()) else (if (x2_32 + y1_85) < (x3_32 + y1_104) then (fX8_isLattice_J152 (fX8_isLattice_J153 x1_32 x2_32 x3_32 x4_32 y1_66 y1_85 y1_104 y1_124 k155) ()) else (if (x3_32 + y1_104) < (x4_32 + y1_124) then (fX8_isLattice_J152 (fX8_isLattice_J153 x1_32 x2_32 x3_32 x4_32 y1_66 y1_85 y1_104 y1_124 k155) ()) else (fX8_isLattice_J153 x1_32 x2_32 x3_32 x4_32 y1_66 y1_85 y1_104 y1_124 k155 1))))
def fX8_isLattice_J104 (v_now : Nat → Int32) (x1_32 : Int32) (x2_32 : Int32) (x3_32 : Int32) (x4_32 : Int32) (x5_32 : Int32) (x7_32 : Int32) (y1_66 : Int32) (y1_85 : Int32) (k155 : Int32 → Int32 → Int32 → Int32 → Int32 → Option (Int32)) (y1_104 : Int32) : Option (Int32) :=
    fX8_isLattice_J124 x1_32 x2_32 x3_32 x4_32 x5_32 y1_66 y1_85 y1_104 k155 (if (v_now x7_32.toNatClampNeg) = 4 then 1 else 0)
def fX8_isLattice_J85 (v_now : Nat → Int32) (x1_32 : Int32) (x2_32 : Int32) (x3_32 : Int32) (x4_32 : Int32) (x5_32 : Int32) (x7_32 : Int32) (y1_66 : Int32) (k155 : Int32 → Int32 → Int32 → Int32 → Int32 → Option (Int32)) (y1_85 : Int32) : Option (Int32) :=
    fX8_isLattice_J104 v_now x1_32 x2_32 x3_32 x4_32 x5_32 x7_32 y1_66 y1_85 k155 (if (v_now x7_32.toNatClampNeg) = 3 then 1 else 0)
def fX8_isLattice_J66 (v_now : Nat → Int32) (x1_32 : Int32) (x2_32 : Int32) (x3_32 : Int32) (x4_32 : Int32) (x5_32 : Int32) (x7_32 : Int32) (k155 : Int32 → Int32 → Int32 → Int32 → Int32 → Option (Int32)) (y1_66 : Int32) : Option (Int32) :=
    fX8_isLattice_J85 v_now x1_32 x2_32 x3_32 x4_32 x5_32 x7_32 y1_66 k155 (if (v_now x7_32.toNatClampNeg) = 2 then 1 else 0)
def fX8_isLattice_L32 (v_rowOf : Nat → Int32) (v_now : Nat → Int32) (x6_15 : Int32) (k15 : Int32 → Int32 → Int32 → Int32 → Int32 → Int32 → Option (Int32)) : Nat → Int32 → Int32 → Int32 → Int32 → Int32 → Int32 → Option (Int32)
  | 0, _, _, _, _, _, _ => none
  | n + 1, x1_32, x2_32, x3_32, x4_32, x5_32, x7_32 =>
    if x7_32 < 0 then (k15 x1_32 x2_32 x3_32 x4_32 x5_32 (x6_15 + 1)) else (gd (inb x7_32 9) (if (v_rowOf x7_32.toNatClampNeg) = x6_15 then (fX8_isLattice_J66 v_now x1_32 x2_32 x3_32 x4_32 x5_32 x7_32 (fX8_isLattice_J155 x7_32 (fX8_isLattice_L32 v_rowOf v_now x6_15 k15 n)) (if (v_now x7_32.toNatClampNeg) = 1 then 1 else 0)) else (fX8_isLattice_J155 x7_32 (fX8_isLattice_L32 v_rowOf v_now x6_15 k15 n) x1_32 x2_32 x3_32 x4_32 x5_32)))
def fX8_isLattice_L15 (v_rows : Int32) (v_boxes : Int32) (v_rowOf : Nat → Int32) (v_now : Nat → Int32) : Nat → Int32 → Int32 → Int32 → Int32 → Int32 → Int32 → Option (Int32)
  | 0, _, _, _, _, _, _ => none
  | n + 1, x1_15, x2_15, x3_15, x4_15, x5_15, x6_15 =>
    if v_rows ≤ x6_15 then (gd (isb x5_15) (some x5_15)) else (fX8_isLattice_L32 v_rowOf v_now x6_15 (fX8_isLattice_L15 v_rows v_boxes v_rowOf v_now n) fu x1_15 x2_15 x3_15 x4_15 x5_15 (v_boxes - 1))
def fX8_isLattice (v_rows : Int32) (v_boxes : Int32) (v_rowOf : Nat → Int32) (v_now : Nat → Int32) : Option (Int32) :=
  fX8_isLattice_L15 v_rows v_boxes v_rowOf v_now fu 0 0 0 0 1 0
def rmX8_isLattice : Room := { frames := 0, cells := 0, slots := 0, locals := 0 }
set_option maxRecDepth 100000 in
set_option maxHeartbeats 4000000 in
theorem ctX8_isLattice (l : Launch) (z : Nat × Nat × Nat) (dC : Nat → ClassId) (dI : Nat → Nat → Nat) (cI cB cE : ClassId) (a : Nat → Nat) (v_boards : Int32) (v_kind : Int32) (v_rows : Int32) (v_outer : Nat → Int32) (v_inner : Nat → Int32) (v_content : Nat → Int32) (v_boxes : Int32) (v_rowOf : Nat → Int32) (v_columnOf : Nat → Int32) (v_seen : Int32) (v_seenWhat : Nat → Int32) (v_seenCan : Nat → Int32) (v_pageLength : Int32) (v_page : Nat → Int32) (v_isWhole : Int32) (v_newKind : Int32) (v_newRows : Int32) (v_newOuter : Nat → Int32) (v_newInner : Nat → Int32) (v_newContent : Nat → Int32) (v_now : Nat → Int32) (v_left : Nat → Int32) (v_box : Int32) (v_isCounted : Int32) (v_counted : Int32) (v_given : Nat → Int32) (v_isTermed : Int32) (v_terms : Int32) (v_term : Nat → Int32) (v_shape : Nat → Int32) (v_readBoxes : Int32) (v_readRow : Nat → Int32) (v_readColumn : Nat → Int32) (v_grid : Nat → Int32) (v_often : Nat → Int32) (v_seedNow : Int64) (v_isKept : Int32) (v_keptBoard : Int32) (v_keptKind : Int32) (v_keptRows : Int32) (v_keptSeen : Int32) (v_keptOuter : Nat → Int32) (v_keptInner : Nat → Int32) (v_keptContent : Nat → Int32) (v_keptWhat : Nat → Int32) (v_keptCan : Nat → Int32) (v_h : Int64) (fin : Int32) (hf : fX8_isLattice v_rows v_boxes v_rowOf v_now = some fin) : Ct l z (dC, dI) (tyL cI cB cE) yX8_isLattice wsX8_isLattice rmX8_isLattice [.ref (a 0)] (wX8 cI cB cE a v_boards v_kind v_rows v_outer v_inner v_content v_boxes v_rowOf v_columnOf v_seen v_seenWhat v_seenCan v_pageLength v_page v_isWhole v_newKind v_newRows v_newOuter v_newInner v_newContent v_now v_left v_box v_isCounted v_counted v_given v_isTermed v_terms v_term v_shape v_readBoxes v_readRow v_readColumn v_grid v_often v_seedNow v_isKept v_keptBoard v_keptKind v_keptRows v_keptSeen v_keptOuter v_keptInner v_keptContent v_keptWhat v_keptCan v_h) (some (.int fin)) (wX8 cI cB cE a v_boards v_kind v_rows v_outer v_inner v_content v_boxes v_rowOf v_columnOf v_seen v_seenWhat v_seenCan v_pageLength v_page v_isWhole v_newKind v_newRows v_newOuter v_newInner v_newContent v_now v_left v_box v_isCounted v_counted v_given v_isTermed v_terms v_term v_shape v_readBoxes v_readRow v_readColumn v_grid v_often v_seedNow v_isKept v_keptBoard v_keptKind v_keptRows v_keptSeen v_keptOuter v_keptInner v_keptContent v_keptWhat v_keptCan v_h) := by
  refine Met.ofC (cc := cX8_isLattice) (maxL := 8) (ret := (some .boolean)) (by decide) rfl (Nat.le_of_ble_eq_true rfl) ?_
  intro p e s m args below meth c A Q ls hx hb hr hml hts hown hlocks hA hK hP hD hZ hS hQ hl
  have hown : s.vm.findClass RX8 = some m.cls := hown
  have hl : lv_has ls 8 [(0, .ref (a 0))] := hl
  unfold fX8_isLattice at hf
  refine lv_iconst (v := 0) hx hb dX8_isLattice_0 (by decide) ?_
  refine lv_istore_n (lv' := [(1, .int 0), (0, .ref (a 0))]) hx hb dX8_isLattice_1 rfl hl (by decide) rfl (fun ls hl => ?_)
  refine lv_iconst (v := 0) hx hb dX8_isLattice_2 (by decide) ?_
  refine lv_istore_n (lv' := [(2, .int 0), (1, .int 0), (0, .ref (a 0))]) hx hb dX8_isLattice_3 rfl hl (by decide) rfl (fun ls hl => ?_)
  refine lv_iconst (v := 0) hx hb dX8_isLattice_4 (by decide) ?_
  refine lv_istore_n (lv' := [(3, .int 0), (2, .int 0), (1, .int 0), (0, .ref (a 0))]) hx hb dX8_isLattice_5 rfl hl (by decide) rfl (fun ls hl => ?_)
  refine lv_iconst (v := 0) hx hb dX8_isLattice_6 (by decide) ?_
  refine lv_istore (lv' := [(4, .int 0), (3, .int 0), (2, .int 0), (1, .int 0), (0, .ref (a 0))]) hx hb dX8_isLattice_7 hl (by decide) rfl (fun ls hl => ?_)
  refine lv_iconst (v := 1) hx hb dX8_isLattice_9 (by decide) ?_
  refine lv_istore (lv' := [(5, .int 1), (4, .int 0), (3, .int 0), (2, .int 0), (1, .int 0), (0, .ref (a 0))]) hx hb dX8_isLattice_10 hl (by decide) rfl (fun ls hl => ?_)
  refine lv_iconst (v := 0) hx hb dX8_isLattice_12 (by decide) ?_
  refine lv_istore (lv' := [(6, .int 0), (5, .int 1), (4, .int 0), (3, .int 0), (2, .int 0), (1, .int 0), (0, .ref (a 0))]) hx hb dX8_isLattice_13 hl (by decide) rfl (fun ls hl => ?_)
  have L15 : ∀ (n15 : Nat) (x1_15 : Int32) (x2_15 : Int32) (x3_15 : Int32) (x4_15 : Int32) (x5_15 : Int32) (x6_15 : Int32), fX8_isLattice_L15 v_rows v_boxes v_rowOf v_now n15 x1_15 x2_15 x3_15 x4_15 x5_15 x6_15 = some fin → ∀ (H : Heap) (locs : List Loc), va_P (dC, dI) vwCl (wX8 cI cB cE a v_boards v_kind v_rows v_outer v_inner v_content v_boxes v_rowOf v_columnOf v_seen v_seenWhat v_seenCan v_pageLength v_page v_isWhole v_newKind v_newRows v_newOuter v_newInner v_newContent v_now v_left v_box v_isCounted v_counted v_given v_isTermed v_terms v_term v_shape v_readBoxes v_readRow v_readColumn v_grid v_often v_seedNow v_isKept v_keptBoard v_keptKind v_keptRows v_keptSeen v_keptOuter v_keptInner v_keptContent v_keptWhat v_keptCan v_h) H → va_D A (wX8 cI cB cE a v_boards v_kind v_rows v_outer v_inner v_content v_boxes v_rowOf v_columnOf v_seen v_seenWhat v_seenCan v_pageLength v_page v_isWhole v_newKind v_newRows v_newOuter v_newInner v_newContent v_now v_left v_box v_isCounted v_counted v_given v_isTermed v_terms v_term v_shape v_readBoxes v_readRow v_readColumn v_grid v_often v_seedNow v_isKept v_keptBoard v_keptKind v_keptRows v_keptSeen v_keptOuter v_keptInner v_keptContent v_keptWhat v_keptCan v_h) → va_S A s.heap H locs → ∀ (ls : Array Slot), lv_has ls 8 [(0, .ref (a 0)), (1, .int x1_15), (2, .int x2_15), (3, .int x3_15), (4, .int x4_15), (5, .int x5_15), (6, .int x6_15)] → W p l e rmX8_isLattice s m args below meth c H locs 0 0 Q (F0 m 15 ls []) := by
    intro n15
    induction n15 with
    | zero =>
      intro x1_15 x2_15 x3_15 x4_15 x5_15 x6_15 hf
      rw [fX8_isLattice_L15] at hf
      cases hf
    | succ n15 ih15 =>
      intro x1_15 x2_15 x3_15 x4_15 x5_15 x6_15 hf H locs hP hD hS ls hl
      rw [fX8_isLattice_L15] at hf
      refine lv_iload hx hb dX8_isLattice_15 (lv_at hl 6 rfl) ?_
      refine lv_aload_n hx hb dX8_isLattice_17 rfl (lv_at hl 0 rfl) ?_
      refine va_get (D := (dC, dI)) (ci := 8) (C := RX8) (T := TX8) (N := 47) hx hb hts (fun _ h => List.mem_cons_of_mem _ (List.mem_append_right _ h)) hown hK hP 0 rfl rfl 2 (by decide) (hts (.fieldLink RX8 127 "SkewBoardModel" "rows" "I") (List.mem_of_getElem? (i := 1) rfl)) (fun _ h9 => h9) rfl dX8_isLattice_18 ?_
      refine lv_icmp_ge (tgt := 167) hx hb dX8_isLattice_21 (by decide) (fun c_1 => ?_) (fun c_1 => ?_)
      · rw [if_pos c_1] at hf
        refine lv_iload hx hb dX8_isLattice_167 (lv_at hl 5 rfl) ?_
        obtain ⟨g_2, hf⟩ := gd_some hf
        have hQ2 := hQ
        rw [← Option.some.inj hf] at hQ2
        exact cx_zret (isb_nar g_2) hQ2 hx hb hr hlocks hK hP hD hS dX8_isLattice_169
      · rw [if_neg c_1] at hf
        refine lv_aload_n hx hb dX8_isLattice_24 rfl (lv_at hl 0 rfl) ?_
        refine va_get (D := (dC, dI)) (ci := 8) (C := RX8) (T := TX8) (N := 47) hx hb hts (fun _ h => List.mem_cons_of_mem _ (List.mem_append_right _ h)) hown hK hP 0 rfl rfl 6 (by decide) (hts (.fieldLink RX8 124 "SkewBoardModel" "boxes" "I") (List.mem_of_getElem? (i := 2) rfl)) (fun _ h9 => h9) rfl dX8_isLattice_25 ?_
        refine lv_iconst (v := 1) hx hb dX8_isLattice_28 (by decide) ?_
        refine lv_isub hx hb dX8_isLattice_29 ?_
        refine lv_istore (lv' := [(7, .int (v_boxes - 1)), (0, .ref (a 0)), (1, .int x1_15), (2, .int x2_15), (3, .int x3_15), (4, .int x4_15), (5, .int x5_15), (6, .int x6_15)]) hx hb dX8_isLattice_30 hl (by decide) rfl (fun ls hl => ?_)
        have L32 : ∀ (n32 : Nat) (x1_32 : Int32) (x2_32 : Int32) (x3_32 : Int32) (x4_32 : Int32) (x5_32 : Int32) (x7_32 : Int32), fX8_isLattice_L32 v_rowOf v_now x6_15 (fX8_isLattice_L15 v_rows v_boxes v_rowOf v_now n15) n32 x1_32 x2_32 x3_32 x4_32 x5_32 x7_32 = some fin → ∀ (H : Heap) (locs : List Loc), va_P (dC, dI) vwCl (wX8 cI cB cE a v_boards v_kind v_rows v_outer v_inner v_content v_boxes v_rowOf v_columnOf v_seen v_seenWhat v_seenCan v_pageLength v_page v_isWhole v_newKind v_newRows v_newOuter v_newInner v_newContent v_now v_left v_box v_isCounted v_counted v_given v_isTermed v_terms v_term v_shape v_readBoxes v_readRow v_readColumn v_grid v_often v_seedNow v_isKept v_keptBoard v_keptKind v_keptRows v_keptSeen v_keptOuter v_keptInner v_keptContent v_keptWhat v_keptCan v_h) H → va_D A (wX8 cI cB cE a v_boards v_kind v_rows v_outer v_inner v_content v_boxes v_rowOf v_columnOf v_seen v_seenWhat v_seenCan v_pageLength v_page v_isWhole v_newKind v_newRows v_newOuter v_newInner v_newContent v_now v_left v_box v_isCounted v_counted v_given v_isTermed v_terms v_term v_shape v_readBoxes v_readRow v_readColumn v_grid v_often v_seedNow v_isKept v_keptBoard v_keptKind v_keptRows v_keptSeen v_keptOuter v_keptInner v_keptContent v_keptWhat v_keptCan v_h) → va_S A s.heap H locs → ∀ (ls : Array Slot), lv_has ls 8 [(0, .ref (a 0)), (1, .int x1_32), (2, .int x2_32), (3, .int x3_32), (4, .int x4_32), (5, .int x5_32), (6, .int x6_15), (7, .int x7_32)] → W p l e rmX8_isLattice s m args below meth c H locs 0 0 Q (F0 m 32 ls []) := by
          intro n32
          induction n32 with
          | zero =>
            intro x1_32 x2_32 x3_32 x4_32 x5_32 x7_32 hf
            rw [fX8_isLattice_L32] at hf
            cases hf
          | succ n32 ih32 =>
            intro x1_32 x2_32 x3_32 x4_32 x5_32 x7_32 hf H locs hP hD hS ls hl
            rw [fX8_isLattice_L32] at hf
            refine lv_iload hx hb dX8_isLattice_32 (lv_at hl 7 rfl) ?_
            refine lv_if_lt (tgt := 161) hx hb dX8_isLattice_34 (by decide) (fun c_3 => ?_) (fun c_3 => ?_)
            · rw [if_pos c_3] at hf
              refine lv_iinc (v := (x6_15 + 1)) (lv' := [(6, .int (x6_15 + 1)), (0, .ref (a 0)), (1, .int x1_32), (2, .int x2_32), (3, .int x3_32), (4, .int x4_32), (5, .int x5_32), (7, .int x7_32)]) hx hb dX8_isLattice_161 hl (k := 6) rfl rfl (by decide) rfl (fun ls hl => ?_)
              refine lv_goto (tgt := 15) hx hb dX8_isLattice_164 (by decide) ?_
              exact ih15 x1_32 x2_32 x3_32 x4_32 x5_32 (x6_15 + 1) hf _ _ hP hD hS ls (lv_sub hl [1, 2, 3, 4, 5, 6, 0] rfl)
            · rw [if_neg c_3] at hf
              refine lv_aload_n hx hb dX8_isLattice_37 rfl (lv_at hl 0 rfl) ?_
              refine va_get (D := (dC, dI)) (ci := 8) (C := RX8) (T := TX8) (N := 47) hx hb hts (fun _ h => List.mem_cons_of_mem _ (List.mem_append_right _ h)) hown hK hP 0 rfl rfl 7 (by decide) (hts (.fieldLink RX8 19 "SkewBoardModel" "rowOf" "[I") (List.mem_of_getElem? (i := 3) rfl)) (fun _ h9 => h9) rfl dX8_isLattice_38 ?_
              refine lv_iload hx hb dX8_isLattice_41 (lv_at hl 7 rfl) ?_
              obtain ⟨g_4, hf⟩ := gd_some hf
              refine va_iald hx hb hK hP 4 0 rfl rfl (inb_vp g_4) dX8_isLattice_43 ?_
              refine lv_iload hx hb dX8_isLattice_44 (lv_at hl 6 rfl) ?_
              have J155 : ∀ (x1_155 : Int32) (x2_155 : Int32) (x3_155 : Int32) (x4_155 : Int32) (x5_155 : Int32), fX8_isLattice_J155 x7_32 (fX8_isLattice_L32 v_rowOf v_now x6_15 (fX8_isLattice_L15 v_rows v_boxes v_rowOf v_now n15) n32) x1_155 x2_155 x3_155 x4_155 x5_155 = some fin → ∀ (H : Heap) (locs : List Loc), va_P (dC, dI) vwCl (wX8 cI cB cE a v_boards v_kind v_rows v_outer v_inner v_content v_boxes v_rowOf v_columnOf v_seen v_seenWhat v_seenCan v_pageLength v_page v_isWhole v_newKind v_newRows v_newOuter v_newInner v_newContent v_now v_left v_box v_isCounted v_counted v_given v_isTermed v_terms v_term v_shape v_readBoxes v_readRow v_readColumn v_grid v_often v_seedNow v_isKept v_keptBoard v_keptKind v_keptRows v_keptSeen v_keptOuter v_keptInner v_keptContent v_keptWhat v_keptCan v_h) H → va_D A (wX8 cI cB cE a v_boards v_kind v_rows v_outer v_inner v_content v_boxes v_rowOf v_columnOf v_seen v_seenWhat v_seenCan v_pageLength v_page v_isWhole v_newKind v_newRows v_newOuter v_newInner v_newContent v_now v_left v_box v_isCounted v_counted v_given v_isTermed v_terms v_term v_shape v_readBoxes v_readRow v_readColumn v_grid v_often v_seedNow v_isKept v_keptBoard v_keptKind v_keptRows v_keptSeen v_keptOuter v_keptInner v_keptContent v_keptWhat v_keptCan v_h) → va_S A s.heap H locs → ∀ (ls : Array Slot), lv_has ls 8 [(0, .ref (a 0)), (1, .int x1_155), (2, .int x2_155), (3, .int x3_155), (4, .int x4_155), (5, .int x5_155), (6, .int x6_15), (7, .int x7_32)] → W p l e rmX8_isLattice s m args below meth c H locs 0 0 Q (F0 m 155 ls []) := by
                intro x1_155 x2_155 x3_155 x4_155 x5_155 hf H locs hP hD hS ls hl
                unfold fX8_isLattice_J155 at hf
                refine lv_iinc (v := (x7_32 + (-1))) (lv' := [(7, .int (x7_32 + (-1))), (0, .ref (a 0)), (1, .int x1_155), (2, .int x2_155), (3, .int x3_155), (4, .int x4_155), (5, .int x5_155), (6, .int x6_15)]) hx hb dX8_isLattice_155 hl (k := 7) rfl rfl (by decide) rfl (fun ls hl => ?_)
                refine lv_goto (tgt := 32) hx hb dX8_isLattice_158 (by decide) ?_
                exact ih32 x1_155 x2_155 x3_155 x4_155 x5_155 (x7_32 + (-1)) hf _ _ hP hD hS ls (lv_sub hl [1, 2, 3, 4, 5, 6, 7, 0] rfl)
              refine lv_icmp_ne (tgt := 155) hx hb dX8_isLattice_46 (by decide) (fun c_5 => ?_) (fun c_5 => ?_)
              · rw [if_neg c_5] at hf
                exact J155 x1_32 x2_32 x3_32 x4_32 x5_32 hf _ _ hP hD hS ls (lv_sub hl [0, 1, 2, 3, 4, 5, 6, 7] rfl)
              · rw [if_pos c_5] at hf
                refine lv_iload_n hx hb dX8_isLattice_49 rfl (lv_at hl 1 rfl) ?_
                refine lv_aload_n hx hb dX8_isLattice_50 rfl (lv_at hl 0 rfl) ?_
                refine va_get (D := (dC, dI)) (ci := 8) (C := RX8) (T := TX8) (N := 47) hx hb hts (fun _ h => List.mem_cons_of_mem _ (List.mem_append_right _ h)) hown hK hP 0 rfl rfl 20 (by decide) (hts (.fieldLink RX8 44 "SkewBoardModel" "now" "[I") (List.mem_of_getElem? (i := 4) rfl)) (fun _ h9 => h9) rfl dX8_isLattice_51 ?_
                refine lv_iload hx hb dX8_isLattice_54 (lv_at hl 7 rfl) ?_
                refine va_iald hx hb hK hP 12 0 rfl rfl (inb_vp g_4) dX8_isLattice_56 ?_
                refine lv_iconst (v := 1) hx hb dX8_isLattice_57 (by decide) ?_
                have J66 : ∀ (y1_66 : Int32), fX8_isLattice_J66 v_now x1_32 x2_32 x3_32 x4_32 x5_32 x7_32 (fX8_isLattice_J155 x7_32 (fX8_isLattice_L32 v_rowOf v_now x6_15 (fX8_isLattice_L15 v_rows v_boxes v_rowOf v_now n15) n32)) y1_66 = some fin → ∀ (H : Heap) (locs : List Loc), va_P (dC, dI) vwCl (wX8 cI cB cE a v_boards v_kind v_rows v_outer v_inner v_content v_boxes v_rowOf v_columnOf v_seen v_seenWhat v_seenCan v_pageLength v_page v_isWhole v_newKind v_newRows v_newOuter v_newInner v_newContent v_now v_left v_box v_isCounted v_counted v_given v_isTermed v_terms v_term v_shape v_readBoxes v_readRow v_readColumn v_grid v_often v_seedNow v_isKept v_keptBoard v_keptKind v_keptRows v_keptSeen v_keptOuter v_keptInner v_keptContent v_keptWhat v_keptCan v_h) H → va_D A (wX8 cI cB cE a v_boards v_kind v_rows v_outer v_inner v_content v_boxes v_rowOf v_columnOf v_seen v_seenWhat v_seenCan v_pageLength v_page v_isWhole v_newKind v_newRows v_newOuter v_newInner v_newContent v_now v_left v_box v_isCounted v_counted v_given v_isTermed v_terms v_term v_shape v_readBoxes v_readRow v_readColumn v_grid v_often v_seedNow v_isKept v_keptBoard v_keptKind v_keptRows v_keptSeen v_keptOuter v_keptInner v_keptContent v_keptWhat v_keptCan v_h) → va_S A s.heap H locs → ∀ (ls : Array Slot), lv_has ls 8 [(0, .ref (a 0)), (2, .int x2_32), (3, .int x3_32), (4, .int x4_32), (5, .int x5_32), (6, .int x6_15), (7, .int x7_32)] → W p l e rmX8_isLattice s m args below meth c H locs 0 0 Q (F0 m 66 ls [.int y1_66, .int x1_32]) := by
                  intro y1_66 hf H locs hP hD hS ls hl
                  unfold fX8_isLattice_J66 at hf
                  refine lv_iadd hx hb dX8_isLattice_66 ?_
                  refine lv_istore_n (lv' := [(1, .int (x1_32 + y1_66)), (0, .ref (a 0)), (2, .int x2_32), (3, .int x3_32), (4, .int x4_32), (5, .int x5_32), (6, .int x6_15), (7, .int x7_32)]) hx hb dX8_isLattice_67 rfl hl (by decide) rfl (fun ls hl => ?_)
                  refine lv_iload_n hx hb dX8_isLattice_68 rfl (lv_at hl 2 rfl) ?_
                  refine lv_aload_n hx hb dX8_isLattice_69 rfl (lv_at hl 1 rfl) ?_
                  refine va_get (D := (dC, dI)) (ci := 8) (C := RX8) (T := TX8) (N := 47) hx hb hts (fun _ h => List.mem_cons_of_mem _ (List.mem_append_right _ h)) hown hK hP 0 rfl rfl 20 (by decide) (hts (.fieldLink RX8 44 "SkewBoardModel" "now" "[I") (List.mem_of_getElem? (i := 4) rfl)) (fun _ h9 => h9) rfl dX8_isLattice_70 ?_
                  refine lv_iload hx hb dX8_isLattice_73 (lv_at hl 7 rfl) ?_
                  refine va_iald hx hb hK hP 12 0 rfl rfl (inb_vp g_4) dX8_isLattice_75 ?_
                  refine lv_iconst (v := 2) hx hb dX8_isLattice_76 (by decide) ?_
                  have J85 : ∀ (y1_85 : Int32), fX8_isLattice_J85 v_now x1_32 x2_32 x3_32 x4_32 x5_32 x7_32 y1_66 (fX8_isLattice_J155 x7_32 (fX8_isLattice_L32 v_rowOf v_now x6_15 (fX8_isLattice_L15 v_rows v_boxes v_rowOf v_now n15) n32)) y1_85 = some fin → ∀ (H : Heap) (locs : List Loc), va_P (dC, dI) vwCl (wX8 cI cB cE a v_boards v_kind v_rows v_outer v_inner v_content v_boxes v_rowOf v_columnOf v_seen v_seenWhat v_seenCan v_pageLength v_page v_isWhole v_newKind v_newRows v_newOuter v_newInner v_newContent v_now v_left v_box v_isCounted v_counted v_given v_isTermed v_terms v_term v_shape v_readBoxes v_readRow v_readColumn v_grid v_often v_seedNow v_isKept v_keptBoard v_keptKind v_keptRows v_keptSeen v_keptOuter v_keptInner v_keptContent v_keptWhat v_keptCan v_h) H → va_D A (wX8 cI cB cE a v_boards v_kind v_rows v_outer v_inner v_content v_boxes v_rowOf v_columnOf v_seen v_seenWhat v_seenCan v_pageLength v_page v_isWhole v_newKind v_newRows v_newOuter v_newInner v_newContent v_now v_left v_box v_isCounted v_counted v_given v_isTermed v_terms v_term v_shape v_readBoxes v_readRow v_readColumn v_grid v_often v_seedNow v_isKept v_keptBoard v_keptKind v_keptRows v_keptSeen v_keptOuter v_keptInner v_keptContent v_keptWhat v_keptCan v_h) → va_S A s.heap H locs → ∀ (ls : Array Slot), lv_has ls 8 [(0, .ref (a 0)), (1, .int (x1_32 + y1_66)), (3, .int x3_32), (4, .int x4_32), (5, .int x5_32), (6, .int x6_15), (7, .int x7_32)] → W p l e rmX8_isLattice s m args below meth c H locs 0 0 Q (F0 m 85 ls [.int y1_85, .int x2_32]) := by
                    intro y1_85 hf H locs hP hD hS ls hl
                    unfold fX8_isLattice_J85 at hf
                    refine lv_iadd hx hb dX8_isLattice_85 ?_
                    refine lv_istore_n (lv' := [(2, .int (x2_32 + y1_85)), (0, .ref (a 0)), (1, .int (x1_32 + y1_66)), (3, .int x3_32), (4, .int x4_32), (5, .int x5_32), (6, .int x6_15), (7, .int x7_32)]) hx hb dX8_isLattice_86 rfl hl (by decide) rfl (fun ls hl => ?_)
                    refine lv_iload_n hx hb dX8_isLattice_87 rfl (lv_at hl 3 rfl) ?_
                    refine lv_aload_n hx hb dX8_isLattice_88 rfl (lv_at hl 1 rfl) ?_
                    refine va_get (D := (dC, dI)) (ci := 8) (C := RX8) (T := TX8) (N := 47) hx hb hts (fun _ h => List.mem_cons_of_mem _ (List.mem_append_right _ h)) hown hK hP 0 rfl rfl 20 (by decide) (hts (.fieldLink RX8 44 "SkewBoardModel" "now" "[I") (List.mem_of_getElem? (i := 4) rfl)) (fun _ h9 => h9) rfl dX8_isLattice_89 ?_
                    refine lv_iload hx hb dX8_isLattice_92 (lv_at hl 7 rfl) ?_
                    refine va_iald hx hb hK hP 12 0 rfl rfl (inb_vp g_4) dX8_isLattice_94 ?_
                    refine lv_iconst (v := 3) hx hb dX8_isLattice_95 (by decide) ?_
                    have J104 : ∀ (y1_104 : Int32), fX8_isLattice_J104 v_now x1_32 x2_32 x3_32 x4_32 x5_32 x7_32 y1_66 y1_85 (fX8_isLattice_J155 x7_32 (fX8_isLattice_L32 v_rowOf v_now x6_15 (fX8_isLattice_L15 v_rows v_boxes v_rowOf v_now n15) n32)) y1_104 = some fin → ∀ (H : Heap) (locs : List Loc), va_P (dC, dI) vwCl (wX8 cI cB cE a v_boards v_kind v_rows v_outer v_inner v_content v_boxes v_rowOf v_columnOf v_seen v_seenWhat v_seenCan v_pageLength v_page v_isWhole v_newKind v_newRows v_newOuter v_newInner v_newContent v_now v_left v_box v_isCounted v_counted v_given v_isTermed v_terms v_term v_shape v_readBoxes v_readRow v_readColumn v_grid v_often v_seedNow v_isKept v_keptBoard v_keptKind v_keptRows v_keptSeen v_keptOuter v_keptInner v_keptContent v_keptWhat v_keptCan v_h) H → va_D A (wX8 cI cB cE a v_boards v_kind v_rows v_outer v_inner v_content v_boxes v_rowOf v_columnOf v_seen v_seenWhat v_seenCan v_pageLength v_page v_isWhole v_newKind v_newRows v_newOuter v_newInner v_newContent v_now v_left v_box v_isCounted v_counted v_given v_isTermed v_terms v_term v_shape v_readBoxes v_readRow v_readColumn v_grid v_often v_seedNow v_isKept v_keptBoard v_keptKind v_keptRows v_keptSeen v_keptOuter v_keptInner v_keptContent v_keptWhat v_keptCan v_h) → va_S A s.heap H locs → ∀ (ls : Array Slot), lv_has ls 8 [(0, .ref (a 0)), (1, .int (x1_32 + y1_66)), (2, .int (x2_32 + y1_85)), (4, .int x4_32), (5, .int x5_32), (6, .int x6_15), (7, .int x7_32)] → W p l e rmX8_isLattice s m args below meth c H locs 0 0 Q (F0 m 104 ls [.int y1_104, .int x3_32]) := by
                      intro y1_104 hf H locs hP hD hS ls hl
                      unfold fX8_isLattice_J104 at hf
                      refine lv_iadd hx hb dX8_isLattice_104 ?_
                      refine lv_istore_n (lv' := [(3, .int (x3_32 + y1_104)), (0, .ref (a 0)), (1, .int (x1_32 + y1_66)), (2, .int (x2_32 + y1_85)), (4, .int x4_32), (5, .int x5_32), (6, .int x6_15), (7, .int x7_32)]) hx hb dX8_isLattice_105 rfl hl (by decide) rfl (fun ls hl => ?_)
                      refine lv_iload hx hb dX8_isLattice_106 (lv_at hl 4 rfl) ?_
                      refine lv_aload_n hx hb dX8_isLattice_108 rfl (lv_at hl 1 rfl) ?_
                      refine va_get (D := (dC, dI)) (ci := 8) (C := RX8) (T := TX8) (N := 47) hx hb hts (fun _ h => List.mem_cons_of_mem _ (List.mem_append_right _ h)) hown hK hP 0 rfl rfl 20 (by decide) (hts (.fieldLink RX8 44 "SkewBoardModel" "now" "[I") (List.mem_of_getElem? (i := 4) rfl)) (fun _ h9 => h9) rfl dX8_isLattice_109 ?_
                      refine lv_iload hx hb dX8_isLattice_112 (lv_at hl 7 rfl) ?_
                      refine va_iald hx hb hK hP 12 0 rfl rfl (inb_vp g_4) dX8_isLattice_114 ?_
                      refine lv_iconst (v := 4) hx hb dX8_isLattice_115 (by decide) ?_
                      have J124 : ∀ (y1_124 : Int32), fX8_isLattice_J124 x1_32 x2_32 x3_32 x4_32 x5_32 y1_66 y1_85 y1_104 (fX8_isLattice_J155 x7_32 (fX8_isLattice_L32 v_rowOf v_now x6_15 (fX8_isLattice_L15 v_rows v_boxes v_rowOf v_now n15) n32)) y1_124 = some fin → ∀ (H : Heap) (locs : List Loc), va_P (dC, dI) vwCl (wX8 cI cB cE a v_boards v_kind v_rows v_outer v_inner v_content v_boxes v_rowOf v_columnOf v_seen v_seenWhat v_seenCan v_pageLength v_page v_isWhole v_newKind v_newRows v_newOuter v_newInner v_newContent v_now v_left v_box v_isCounted v_counted v_given v_isTermed v_terms v_term v_shape v_readBoxes v_readRow v_readColumn v_grid v_often v_seedNow v_isKept v_keptBoard v_keptKind v_keptRows v_keptSeen v_keptOuter v_keptInner v_keptContent v_keptWhat v_keptCan v_h) H → va_D A (wX8 cI cB cE a v_boards v_kind v_rows v_outer v_inner v_content v_boxes v_rowOf v_columnOf v_seen v_seenWhat v_seenCan v_pageLength v_page v_isWhole v_newKind v_newRows v_newOuter v_newInner v_newContent v_now v_left v_box v_isCounted v_counted v_given v_isTermed v_terms v_term v_shape v_readBoxes v_readRow v_readColumn v_grid v_often v_seedNow v_isKept v_keptBoard v_keptKind v_keptRows v_keptSeen v_keptOuter v_keptInner v_keptContent v_keptWhat v_keptCan v_h) → va_S A s.heap H locs → ∀ (ls : Array Slot), lv_has ls 8 [(0, .ref (a 0)), (1, .int (x1_32 + y1_66)), (2, .int (x2_32 + y1_85)), (3, .int (x3_32 + y1_104)), (5, .int x5_32), (6, .int x6_15), (7, .int x7_32)] → W p l e rmX8_isLattice s m args below meth c H locs 0 0 Q (F0 m 124 ls [.int y1_124, .int x4_32]) := by
                        intro y1_124 hf H locs hP hD hS ls hl
                        unfold fX8_isLattice_J124 at hf
                        refine lv_iadd hx hb dX8_isLattice_124 ?_
                        refine lv_istore (lv' := [(4, .int (x4_32 + y1_124)), (0, .ref (a 0)), (1, .int (x1_32 + y1_66)), (2, .int (x2_32 + y1_85)), (3, .int (x3_32 + y1_104)), (5, .int x5_32), (6, .int x6_15), (7, .int x7_32)]) hx hb dX8_isLattice_125 hl (by decide) rfl (fun ls hl => ?_)
                        refine lv_iload hx hb dX8_isLattice_127 (lv_at hl 5 rfl) ?_
                        have J153 : ∀ (y0_153 : Int32), fX8_isLattice_J153 x1_32 x2_32 x3_32 x4_32 y1_66 y1_85 y1_104 y1_124 (fX8_isLattice_J155 x7_32 (fX8_isLattice_L32 v_rowOf v_now x6_15 (fX8_isLattice_L15 v_rows v_boxes v_rowOf v_now n15) n32)) y0_153 = some fin → ∀ (H : Heap) (locs : List Loc), va_P (dC, dI) vwCl (wX8 cI cB cE a v_boards v_kind v_rows v_outer v_inner v_content v_boxes v_rowOf v_columnOf v_seen v_seenWhat v_seenCan v_pageLength v_page v_isWhole v_newKind v_newRows v_newOuter v_newInner v_newContent v_now v_left v_box v_isCounted v_counted v_given v_isTermed v_terms v_term v_shape v_readBoxes v_readRow v_readColumn v_grid v_often v_seedNow v_isKept v_keptBoard v_keptKind v_keptRows v_keptSeen v_keptOuter v_keptInner v_keptContent v_keptWhat v_keptCan v_h) H → va_D A (wX8 cI cB cE a v_boards v_kind v_rows v_outer v_inner v_content v_boxes v_rowOf v_columnOf v_seen v_seenWhat v_seenCan v_pageLength v_page v_isWhole v_newKind v_newRows v_newOuter v_newInner v_newContent v_now v_left v_box v_isCounted v_counted v_given v_isTermed v_terms v_term v_shape v_readBoxes v_readRow v_readColumn v_grid v_often v_seedNow v_isKept v_keptBoard v_keptKind v_keptRows v_keptSeen v_keptOuter v_keptInner v_keptContent v_keptWhat v_keptCan v_h) → va_S A s.heap H locs → ∀ (ls : Array Slot), lv_has ls 8 [(0, .ref (a 0)), (1, .int (x1_32 + y1_66)), (2, .int (x2_32 + y1_85)), (3, .int (x3_32 + y1_104)), (4, .int (x4_32 + y1_124)), (6, .int x6_15), (7, .int x7_32)] → W p l e rmX8_isLattice s m args below meth c H locs 0 0 Q (F0 m 153 ls [.int y0_153]) := by
                          intro y0_153 hf H locs hP hD hS ls hl
                          unfold fX8_isLattice_J153 at hf
                          refine lv_istore (lv' := [(5, .int y0_153), (0, .ref (a 0)), (1, .int (x1_32 + y1_66)), (2, .int (x2_32 + y1_85)), (3, .int (x3_32 + y1_104)), (4, .int (x4_32 + y1_124)), (6, .int x6_15), (7, .int x7_32)]) hx hb dX8_isLattice_153 hl (by decide) rfl (fun ls hl => ?_)
                          exact J155 (x1_32 + y1_66) (x2_32 + y1_85) (x3_32 + y1_104) (x4_32 + y1_124) y0_153 hf _ _ hP hD hS ls (lv_sub hl [1, 2, 3, 4, 5, 0, 6, 7] rfl)
                        have J152 : ∀ (u_152 : Unit), fX8_isLattice_J152 (fX8_isLattice_J153 x1_32 x2_32 x3_32 x4_32 y1_66 y1_85 y1_104 y1_124 (fX8_isLattice_J155 x7_32 (fX8_isLattice_L32 v_rowOf v_now x6_15 (fX8_isLattice_L15 v_rows v_boxes v_rowOf v_now n15) n32))) u_152 = some fin → ∀ (H : Heap) (locs : List Loc), va_P (dC, dI) vwCl (wX8 cI cB cE a v_boards v_kind v_rows v_outer v_inner v_content v_boxes v_rowOf v_columnOf v_seen v_seenWhat v_seenCan v_pageLength v_page v_isWhole v_newKind v_newRows v_newOuter v_newInner v_newContent v_now v_left v_box v_isCounted v_counted v_given v_isTermed v_terms v_term v_shape v_readBoxes v_readRow v_readColumn v_grid v_often v_seedNow v_isKept v_keptBoard v_keptKind v_keptRows v_keptSeen v_keptOuter v_keptInner v_keptContent v_keptWhat v_keptCan v_h) H → va_D A (wX8 cI cB cE a v_boards v_kind v_rows v_outer v_inner v_content v_boxes v_rowOf v_columnOf v_seen v_seenWhat v_seenCan v_pageLength v_page v_isWhole v_newKind v_newRows v_newOuter v_newInner v_newContent v_now v_left v_box v_isCounted v_counted v_given v_isTermed v_terms v_term v_shape v_readBoxes v_readRow v_readColumn v_grid v_often v_seedNow v_isKept v_keptBoard v_keptKind v_keptRows v_keptSeen v_keptOuter v_keptInner v_keptContent v_keptWhat v_keptCan v_h) → va_S A s.heap H locs → ∀ (ls : Array Slot), lv_has ls 8 [(0, .ref (a 0)), (1, .int (x1_32 + y1_66)), (2, .int (x2_32 + y1_85)), (3, .int (x3_32 + y1_104)), (4, .int (x4_32 + y1_124)), (6, .int x6_15), (7, .int x7_32)] → W p l e rmX8_isLattice s m args below meth c H locs 0 0 Q (F0 m 152 ls []) := by
                          intro u_152 hf H locs hP hD hS ls hl
                          unfold fX8_isLattice_J152 at hf
                          refine lv_iconst (v := 0) hx hb dX8_isLattice_152 (by decide) ?_
                          exact J153 0 hf _ _ hP hD hS ls (lv_sub hl [0, 1, 2, 3, 4, 5, 6] rfl)
                        refine lv_if_eq (tgt := 152) hx hb dX8_isLattice_129 (by decide) (fun c_6 => ?_) (fun c_6 => ?_)
                        · rw [if_pos c_6] at hf
                          exact J152 () hf _ _ hP hD hS ls (lv_sub hl [1, 2, 3, 4, 0, 6, 7] rfl)
                        · rw [if_neg c_6] at hf
                          refine lv_iload_n hx hb dX8_isLattice_132 rfl (lv_at hl 3 rfl) ?_
                          refine lv_iload_n hx hb dX8_isLattice_133 rfl (lv_at hl 2 rfl) ?_
                          refine lv_icmp_gt (tgt := 152) hx hb dX8_isLattice_134 (by decide) (fun c_7 => ?_) (fun c_7 => ?_)
                          · rw [if_pos c_7] at hf
                            exact J152 () hf _ _ hP hD hS ls (lv_sub hl [1, 2, 3, 4, 0, 6, 7] rfl)
                          · rw [if_neg c_7] at hf
                            refine lv_iload_n hx hb dX8_isLattice_137 rfl (lv_at hl 4 rfl) ?_
                            refine lv_iload_n hx hb dX8_isLattice_138 rfl (lv_at hl 3 rfl) ?_
                            refine lv_icmp_gt (tgt := 152) hx hb dX8_isLattice_139 (by decide) (fun c_8 => ?_) (fun c_8 => ?_)
                            · rw [if_pos c_8] at hf
                              exact J152 () hf _ _ hP hD hS ls (lv_sub hl [1, 2, 3, 4, 0, 6, 7] rfl)
                            · rw [if_neg c_8] at hf
                              refine lv_iload hx hb dX8_isLattice_142 (lv_at hl 0 rfl) ?_
                              refine lv_iload_n hx hb dX8_isLattice_144 rfl (lv_at hl 4 rfl) ?_
                              refine lv_icmp_gt (tgt := 152) hx hb dX8_isLattice_145 (by decide) (fun c_9 => ?_) (fun c_9 => ?_)
                              · rw [if_pos c_9] at hf
                                exact J152 () hf _ _ hP hD hS ls (lv_sub hl [1, 2, 3, 4, 0, 6, 7] rfl)
                              · rw [if_neg c_9] at hf
                                refine lv_iconst (v := 1) hx hb dX8_isLattice_148 (by decide) ?_
                                refine lv_goto (tgt := 153) hx hb dX8_isLattice_149 (by decide) ?_
                                exact J153 1 hf _ _ hP hD hS ls (lv_sub hl [1, 2, 3, 4, 0, 6, 7] rfl)
                      refine lv_icmp_ne (tgt := 123) hx hb dX8_isLattice_116 (by decide) (fun c_10 => ?_) (fun c_10 => ?_)
                      · rw [if_neg c_10] at hf
                        refine lv_iconst (v := 0) hx hb dX8_isLattice_123 (by decide) ?_
                        exact J124 0 hf _ _ hP hD hS ls (lv_sub hl [1, 2, 3, 0, 5, 6, 7] rfl)
                      · rw [if_pos c_10] at hf
                        refine lv_iconst (v := 1) hx hb dX8_isLattice_119 (by decide) ?_
                        refine lv_goto (tgt := 124) hx hb dX8_isLattice_120 (by decide) ?_
                        exact J124 1 hf _ _ hP hD hS ls (lv_sub hl [1, 2, 3, 0, 5, 6, 7] rfl)
                    refine lv_icmp_ne (tgt := 103) hx hb dX8_isLattice_96 (by decide) (fun c_11 => ?_) (fun c_11 => ?_)
                    · rw [if_neg c_11] at hf
                      refine lv_iconst (v := 0) hx hb dX8_isLattice_103 (by decide) ?_
                      exact J104 0 hf _ _ hP hD hS ls (lv_sub hl [1, 2, 0, 4, 5, 6, 7] rfl)
                    · rw [if_pos c_11] at hf
                      refine lv_iconst (v := 1) hx hb dX8_isLattice_99 (by decide) ?_
                      refine lv_goto (tgt := 104) hx hb dX8_isLattice_100 (by decide) ?_
                      exact J104 1 hf _ _ hP hD hS ls (lv_sub hl [1, 2, 0, 4, 5, 6, 7] rfl)
                  refine lv_icmp_ne (tgt := 84) hx hb dX8_isLattice_77 (by decide) (fun c_12 => ?_) (fun c_12 => ?_)
                  · rw [if_neg c_12] at hf
                    refine lv_iconst (v := 0) hx hb dX8_isLattice_84 (by decide) ?_
                    exact J85 0 hf _ _ hP hD hS ls (lv_sub hl [1, 0, 3, 4, 5, 6, 7] rfl)
                  · rw [if_pos c_12] at hf
                    refine lv_iconst (v := 1) hx hb dX8_isLattice_80 (by decide) ?_
                    refine lv_goto (tgt := 85) hx hb dX8_isLattice_81 (by decide) ?_
                    exact J85 1 hf _ _ hP hD hS ls (lv_sub hl [1, 0, 3, 4, 5, 6, 7] rfl)
                refine lv_icmp_ne (tgt := 65) hx hb dX8_isLattice_58 (by decide) (fun c_13 => ?_) (fun c_13 => ?_)
                · rw [if_neg c_13] at hf
                  refine lv_iconst (v := 0) hx hb dX8_isLattice_65 (by decide) ?_
                  exact J66 0 hf _ _ hP hD hS ls (lv_sub hl [0, 2, 3, 4, 5, 6, 7] rfl)
                · rw [if_pos c_13] at hf
                  refine lv_iconst (v := 1) hx hb dX8_isLattice_61 (by decide) ?_
                  refine lv_goto (tgt := 66) hx hb dX8_isLattice_62 (by decide) ?_
                  exact J66 1 hf _ _ hP hD hS ls (lv_sub hl [0, 2, 3, 4, 5, 6, 7] rfl)
        exact L32 fu x1_15 x2_15 x3_15 x4_15 x5_15 (v_boxes - 1) hf _ _ hP hD hS ls (lv_sub hl [1, 2, 3, 4, 5, 6, 7, 0] rfl)
  exact L15 fu 0 0 0 0 1 0 hf _ _ hP hD hS ls (lv_sub hl [6, 5, 4, 3, 2, 1, 0] rfl)

def fX8_keeps_J48 (x2_23 : Int32) (k23 : Int32 → Int32 → Option (Int32)) (y0_48 : Int32) : Option (Int32) :=
    k23 y0_48 (x2_23 + 1)
def fX8_keeps_J47 (k48 : Int32 → Option (Int32)) (u_47 : Unit) : Option (Int32) :=
    k48 0
def fX8_keeps_L23 (v_kind : Int32) (v_boxes : Int32) (v_rowOf : Nat → Int32) (v_columnOf : Nat → Int32) (v_now : Nat → Int32) : Nat → Int32 → Int32 → Option (Int32)
  | 0, _, _ => none
  | n + 1, x1_23, x2_23 =>
    if v_boxes ≤ x2_23 then (gd (isb x1_23) (some x1_23)) else (if x1_23 = 0 then (fX8_keeps_J47 (fX8_keeps_J48 x2_23 (fX8_keeps_L23 v_kind v_boxes v_rowOf v_columnOf v_now n)) ()) else (bd (fX8_fits x2_23 v_kind v_rowOf v_columnOf v_now) (fun r_4 => if r_4 = 0 then (fX8_keeps_J47 (fX8_keeps_J48 x2_23 (fX8_keeps_L23 v_kind v_boxes v_rowOf v_columnOf v_now n)) ()) else (fX8_keeps_J48 x2_23 (fX8_keeps_L23 v_kind v_boxes v_rowOf v_columnOf v_now n) 1))))
def fX8_keeps_J20 (v_kind : Int32) (v_boxes : Int32) (v_rowOf : Nat → Int32) (v_columnOf : Nat → Int32) (v_now : Nat → Int32) (y0_20 : Int32) : Option (Int32) :=
    fX8_keeps_L23 v_kind v_boxes v_rowOf v_columnOf v_now fu y0_20 0
def fX8_keeps_J15 (k20 : Int32 → Option (Int32)) (u_15 : Unit) : Option (Int32) :=
    k20 1
def fX8_keeps (v_kind : Int32) (v_rows : Int32) (v_boxes : Int32) (v_rowOf : Nat → Int32) (v_columnOf : Nat → Int32) (v_now : Nat → Int32) : Option (Int32) :=
  if v_kind = 2 then (bd (fX8_isLattice v_rows v_boxes v_rowOf v_now) (fun r_7 => if r_7 = 0 then (fX8_keeps_J20 v_kind v_boxes v_rowOf v_columnOf v_now 0) else (fX8_keeps_J15 (fX8_keeps_J20 v_kind v_boxes v_rowOf v_columnOf v_now) ()))) else (fX8_keeps_J15 (fX8_keeps_J20 v_kind v_boxes v_rowOf v_columnOf v_now) ())
def rmX8_keeps : Room := { frames := 2, cells := 0, slots := 0, locals := 45 }
set_option maxRecDepth 100000 in
set_option maxHeartbeats 4000000 in
theorem ctX8_keeps (l : Launch) (z : Nat × Nat × Nat) (dC : Nat → ClassId) (dI : Nat → Nat → Nat) (cI cB cE : ClassId) (a : Nat → Nat) (v_boards : Int32) (v_kind : Int32) (v_rows : Int32) (v_outer : Nat → Int32) (v_inner : Nat → Int32) (v_content : Nat → Int32) (v_boxes : Int32) (v_rowOf : Nat → Int32) (v_columnOf : Nat → Int32) (v_seen : Int32) (v_seenWhat : Nat → Int32) (v_seenCan : Nat → Int32) (v_pageLength : Int32) (v_page : Nat → Int32) (v_isWhole : Int32) (v_newKind : Int32) (v_newRows : Int32) (v_newOuter : Nat → Int32) (v_newInner : Nat → Int32) (v_newContent : Nat → Int32) (v_now : Nat → Int32) (v_left : Nat → Int32) (v_box : Int32) (v_isCounted : Int32) (v_counted : Int32) (v_given : Nat → Int32) (v_isTermed : Int32) (v_terms : Int32) (v_term : Nat → Int32) (v_shape : Nat → Int32) (v_readBoxes : Int32) (v_readRow : Nat → Int32) (v_readColumn : Nat → Int32) (v_grid : Nat → Int32) (v_often : Nat → Int32) (v_seedNow : Int64) (v_isKept : Int32) (v_keptBoard : Int32) (v_keptKind : Int32) (v_keptRows : Int32) (v_keptSeen : Int32) (v_keptOuter : Nat → Int32) (v_keptInner : Nat → Int32) (v_keptContent : Nat → Int32) (v_keptWhat : Nat → Int32) (v_keptCan : Nat → Int32) (v_h : Int64) (fin : Int32) (hf : fX8_keeps v_kind v_rows v_boxes v_rowOf v_columnOf v_now = some fin) : Ct l z (dC, dI) (tyL cI cB cE) yX8_keeps wsX8_keeps rmX8_keeps [.ref (a 0)] (wX8 cI cB cE a v_boards v_kind v_rows v_outer v_inner v_content v_boxes v_rowOf v_columnOf v_seen v_seenWhat v_seenCan v_pageLength v_page v_isWhole v_newKind v_newRows v_newOuter v_newInner v_newContent v_now v_left v_box v_isCounted v_counted v_given v_isTermed v_terms v_term v_shape v_readBoxes v_readRow v_readColumn v_grid v_often v_seedNow v_isKept v_keptBoard v_keptKind v_keptRows v_keptSeen v_keptOuter v_keptInner v_keptContent v_keptWhat v_keptCan v_h) (some (.int fin)) (wX8 cI cB cE a v_boards v_kind v_rows v_outer v_inner v_content v_boxes v_rowOf v_columnOf v_seen v_seenWhat v_seenCan v_pageLength v_page v_isWhole v_newKind v_newRows v_newOuter v_newInner v_newContent v_now v_left v_box v_isCounted v_counted v_given v_isTermed v_terms v_term v_shape v_readBoxes v_readRow v_readColumn v_grid v_often v_seedNow v_isKept v_keptBoard v_keptKind v_keptRows v_keptSeen v_keptOuter v_keptInner v_keptContent v_keptWhat v_keptCan v_h) := by
  refine Met.ofC (cc := cX8_keeps) (maxL := 3) (ret := (some .boolean)) (by decide) rfl (Nat.le_of_ble_eq_true rfl) ?_
  intro p e s m args below meth c A Q ls hx hb hr hml hts hown hlocks hA hK hP hD hZ hS hQ hl
  have hown : s.vm.findClass RX8 = some m.cls := hown
  have hl : lv_has ls 3 [(0, .ref (a 0))] := hl
  unfold fX8_keeps at hf
  refine lv_aload_n hx hb dX8_keeps_0 rfl (lv_at hl 0 rfl) ?_
  refine va_get (D := (dC, dI)) (ci := 8) (C := RX8) (T := TX8) (N := 47) hx hb hts (fun _ h => List.mem_cons_of_mem _ (List.mem_append_right _ h)) hown hK hP 0 rfl rfl 1 (by decide) (hts (.fieldLink RX8 139 "SkewBoardModel" "kind" "I") (List.mem_of_getElem? (i := 1) rfl)) (fun _ h9 => h9) rfl dX8_keeps_1 ?_
  refine lv_iconst (v := 2) hx hb dX8_keeps_4 (by decide) ?_
  have J20 : ∀ (y0_20 : Int32), fX8_keeps_J20 v_kind v_boxes v_rowOf v_columnOf v_now y0_20 = some fin → ∀ (H : Heap) (locs : List Loc), va_P (dC, dI) vwCl (wX8 cI cB cE a v_boards v_kind v_rows v_outer v_inner v_content v_boxes v_rowOf v_columnOf v_seen v_seenWhat v_seenCan v_pageLength v_page v_isWhole v_newKind v_newRows v_newOuter v_newInner v_newContent v_now v_left v_box v_isCounted v_counted v_given v_isTermed v_terms v_term v_shape v_readBoxes v_readRow v_readColumn v_grid v_often v_seedNow v_isKept v_keptBoard v_keptKind v_keptRows v_keptSeen v_keptOuter v_keptInner v_keptContent v_keptWhat v_keptCan v_h) H → va_D A (wX8 cI cB cE a v_boards v_kind v_rows v_outer v_inner v_content v_boxes v_rowOf v_columnOf v_seen v_seenWhat v_seenCan v_pageLength v_page v_isWhole v_newKind v_newRows v_newOuter v_newInner v_newContent v_now v_left v_box v_isCounted v_counted v_given v_isTermed v_terms v_term v_shape v_readBoxes v_readRow v_readColumn v_grid v_often v_seedNow v_isKept v_keptBoard v_keptKind v_keptRows v_keptSeen v_keptOuter v_keptInner v_keptContent v_keptWhat v_keptCan v_h) → va_S A s.heap H locs → ∀ (ls : Array Slot), lv_has ls 3 [(0, .ref (a 0))] → W p l e rmX8_keeps s m args below meth c H locs 0 0 Q (F0 m 20 ls [.int y0_20]) := by
    intro y0_20 hf H locs hP hD hS ls hl
    unfold fX8_keeps_J20 at hf
    refine lv_istore_n (lv' := [(1, .int y0_20), (0, .ref (a 0))]) hx hb dX8_keeps_20 rfl hl (by decide) rfl (fun ls hl => ?_)
    refine lv_iconst (v := 0) hx hb dX8_keeps_21 (by decide) ?_
    refine lv_istore_n (lv' := [(2, .int 0), (1, .int y0_20), (0, .ref (a 0))]) hx hb dX8_keeps_22 rfl hl (by decide) rfl (fun ls hl => ?_)
    have L23 : ∀ (n23 : Nat) (x1_23 : Int32) (x2_23 : Int32), fX8_keeps_L23 v_kind v_boxes v_rowOf v_columnOf v_now n23 x1_23 x2_23 = some fin → ∀ (H : Heap) (locs : List Loc), va_P (dC, dI) vwCl (wX8 cI cB cE a v_boards v_kind v_rows v_outer v_inner v_content v_boxes v_rowOf v_columnOf v_seen v_seenWhat v_seenCan v_pageLength v_page v_isWhole v_newKind v_newRows v_newOuter v_newInner v_newContent v_now v_left v_box v_isCounted v_counted v_given v_isTermed v_terms v_term v_shape v_readBoxes v_readRow v_readColumn v_grid v_often v_seedNow v_isKept v_keptBoard v_keptKind v_keptRows v_keptSeen v_keptOuter v_keptInner v_keptContent v_keptWhat v_keptCan v_h) H → va_D A (wX8 cI cB cE a v_boards v_kind v_rows v_outer v_inner v_content v_boxes v_rowOf v_columnOf v_seen v_seenWhat v_seenCan v_pageLength v_page v_isWhole v_newKind v_newRows v_newOuter v_newInner v_newContent v_now v_left v_box v_isCounted v_counted v_given v_isTermed v_terms v_term v_shape v_readBoxes v_readRow v_readColumn v_grid v_often v_seedNow v_isKept v_keptBoard v_keptKind v_keptRows v_keptSeen v_keptOuter v_keptInner v_keptContent v_keptWhat v_keptCan v_h) → va_S A s.heap H locs → ∀ (ls : Array Slot), lv_has ls 3 [(0, .ref (a 0)), (1, .int x1_23), (2, .int x2_23)] → W p l e rmX8_keeps s m args below meth c H locs 0 0 Q (F0 m 23 ls []) := by
      intro n23
      induction n23 with
      | zero =>
        intro x1_23 x2_23 hf
        rw [fX8_keeps_L23] at hf
        cases hf
      | succ n23 ih23 =>
        intro x1_23 x2_23 hf H locs hP hD hS ls hl
        rw [fX8_keeps_L23] at hf
        refine lv_iload_n hx hb dX8_keeps_23 rfl (lv_at hl 2 rfl) ?_
        refine lv_aload_n hx hb dX8_keeps_24 rfl (lv_at hl 0 rfl) ?_
        refine va_get (D := (dC, dI)) (ci := 8) (C := RX8) (T := TX8) (N := 47) hx hb hts (fun _ h => List.mem_cons_of_mem _ (List.mem_append_right _ h)) hown hK hP 0 rfl rfl 6 (by decide) (hts (.fieldLink RX8 124 "SkewBoardModel" "boxes" "I") (List.mem_of_getElem? (i := 2) rfl)) (fun _ h9 => h9) rfl dX8_keeps_25 ?_
        refine lv_icmp_ge (tgt := 55) hx hb dX8_keeps_28 (by decide) (fun c_1 => ?_) (fun c_1 => ?_)
        · rw [if_pos c_1] at hf
          refine lv_iload_n hx hb dX8_keeps_55 rfl (lv_at hl 1 rfl) ?_
          obtain ⟨g_2, hf⟩ := gd_some hf
          have hQ2 := hQ
          rw [← Option.some.inj hf] at hQ2
          exact cx_zret (isb_nar g_2) hQ2 hx hb hr hlocks hK hP hD hS dX8_keeps_56
        · rw [if_neg c_1] at hf
          refine lv_iload_n hx hb dX8_keeps_31 rfl (lv_at hl 1 rfl) ?_
          have J48 : ∀ (y0_48 : Int32), fX8_keeps_J48 x2_23 (fX8_keeps_L23 v_kind v_boxes v_rowOf v_columnOf v_now n23) y0_48 = some fin → ∀ (H : Heap) (locs : List Loc), va_P (dC, dI) vwCl (wX8 cI cB cE a v_boards v_kind v_rows v_outer v_inner v_content v_boxes v_rowOf v_columnOf v_seen v_seenWhat v_seenCan v_pageLength v_page v_isWhole v_newKind v_newRows v_newOuter v_newInner v_newContent v_now v_left v_box v_isCounted v_counted v_given v_isTermed v_terms v_term v_shape v_readBoxes v_readRow v_readColumn v_grid v_often v_seedNow v_isKept v_keptBoard v_keptKind v_keptRows v_keptSeen v_keptOuter v_keptInner v_keptContent v_keptWhat v_keptCan v_h) H → va_D A (wX8 cI cB cE a v_boards v_kind v_rows v_outer v_inner v_content v_boxes v_rowOf v_columnOf v_seen v_seenWhat v_seenCan v_pageLength v_page v_isWhole v_newKind v_newRows v_newOuter v_newInner v_newContent v_now v_left v_box v_isCounted v_counted v_given v_isTermed v_terms v_term v_shape v_readBoxes v_readRow v_readColumn v_grid v_often v_seedNow v_isKept v_keptBoard v_keptKind v_keptRows v_keptSeen v_keptOuter v_keptInner v_keptContent v_keptWhat v_keptCan v_h) → va_S A s.heap H locs → ∀ (ls : Array Slot), lv_has ls 3 [(0, .ref (a 0)), (2, .int x2_23)] → W p l e rmX8_keeps s m args below meth c H locs 0 0 Q (F0 m 48 ls [.int y0_48]) := by
            intro y0_48 hf H locs hP hD hS ls hl
            unfold fX8_keeps_J48 at hf
            refine lv_istore_n (lv' := [(1, .int y0_48), (0, .ref (a 0)), (2, .int x2_23)]) hx hb dX8_keeps_48 rfl hl (by decide) rfl (fun ls hl => ?_)
            refine lv_iinc (v := (x2_23 + 1)) (lv' := [(2, .int (x2_23 + 1)), (1, .int y0_48), (0, .ref (a 0))]) hx hb dX8_keeps_49 hl (k := 2) rfl rfl (by decide) rfl (fun ls hl => ?_)
            refine lv_goto (tgt := 23) hx hb dX8_keeps_52 (by decide) ?_
            exact ih23 y0_48 (x2_23 + 1) hf _ _ hP hD hS ls (lv_sub hl [2, 1, 0] rfl)
          have J47 : ∀ (u_47 : Unit), fX8_keeps_J47 (fX8_keeps_J48 x2_23 (fX8_keeps_L23 v_kind v_boxes v_rowOf v_columnOf v_now n23)) u_47 = some fin → ∀ (H : Heap) (locs : List Loc), va_P (dC, dI) vwCl (wX8 cI cB cE a v_boards v_kind v_rows v_outer v_inner v_content v_boxes v_rowOf v_columnOf v_seen v_seenWhat v_seenCan v_pageLength v_page v_isWhole v_newKind v_newRows v_newOuter v_newInner v_newContent v_now v_left v_box v_isCounted v_counted v_given v_isTermed v_terms v_term v_shape v_readBoxes v_readRow v_readColumn v_grid v_often v_seedNow v_isKept v_keptBoard v_keptKind v_keptRows v_keptSeen v_keptOuter v_keptInner v_keptContent v_keptWhat v_keptCan v_h) H → va_D A (wX8 cI cB cE a v_boards v_kind v_rows v_outer v_inner v_content v_boxes v_rowOf v_columnOf v_seen v_seenWhat v_seenCan v_pageLength v_page v_isWhole v_newKind v_newRows v_newOuter v_newInner v_newContent v_now v_left v_box v_isCounted v_counted v_given v_isTermed v_terms v_term v_shape v_readBoxes v_readRow v_readColumn v_grid v_often v_seedNow v_isKept v_keptBoard v_keptKind v_keptRows v_keptSeen v_keptOuter v_keptInner v_keptContent v_keptWhat v_keptCan v_h) → va_S A s.heap H locs → ∀ (ls : Array Slot), lv_has ls 3 [(0, .ref (a 0)), (2, .int x2_23)] → W p l e rmX8_keeps s m args below meth c H locs 0 0 Q (F0 m 47 ls []) := by
            intro u_47 hf H locs hP hD hS ls hl
            unfold fX8_keeps_J47 at hf
            refine lv_iconst (v := 0) hx hb dX8_keeps_47 (by decide) ?_
            exact J48 0 hf _ _ hP hD hS ls (lv_sub hl [0, 1] rfl)
          refine lv_if_eq (tgt := 47) hx hb dX8_keeps_32 (by decide) (fun c_3 => ?_) (fun c_3 => ?_)
          · rw [if_pos c_3] at hf
            exact J47 () hf _ _ hP hD hS ls (lv_sub hl [0, 2] rfl)
          · rw [if_neg c_3] at hf
            refine lv_aload_n hx hb dX8_keeps_35 rfl (lv_at hl 0 rfl) ?_
            refine lv_iload_n hx hb dX8_keeps_36 rfl (lv_at hl 2 rfl) ?_
            obtain ⟨r_4, hr_4, hf⟩ := bd_some hf
            refine cx_runW (cx_V (As := [.int x2_23]) (rest := []) ⟨hx, hb, hml, hown, hts⟩ (ctX8_fits l z dC dI cI cB cE a v_boards v_kind v_rows v_outer v_inner v_content v_boxes v_rowOf v_columnOf v_seen v_seenWhat v_seenCan v_pageLength v_page v_isWhole v_newKind v_newRows v_newOuter v_newInner v_newContent v_now v_left v_box v_isCounted v_counted v_given v_isTermed v_terms v_term v_shape v_readBoxes v_readRow v_readColumn v_grid v_often v_seedNow v_isKept v_keptBoard v_keptKind v_keptRows v_keptSeen v_keptOuter v_keptInner v_keptContent v_keptWhat v_keptCan v_h x2_23 r_4 hr_4) (cwV 1 hts gX8_keeps_X8_fits rfl rfl rfl (by decide +kernel) ⟨Nat.le_of_ble_eq_true rfl, Nat.le_of_ble_eq_true rfl⟩) hK hP hD hZ hS hA (ci := 8) (q0 := 0) rfl rfl rfl hl.1 rfl (Nat.le_of_ble_eq_true rfl) dX8_keeps_37) hD hS hA [.int r_4] rfl (fun H locs hP hD hS => ?_)
            refine lv_if_eq (tgt := 47) hx hb dX8_keeps_40 (by decide) (fun c_5 => ?_) (fun c_5 => ?_)
            · rw [if_pos c_5] at hf
              exact J47 () hf _ _ hP hD hS ls (lv_sub hl [0, 2] rfl)
            · rw [if_neg c_5] at hf
              refine lv_iconst (v := 1) hx hb dX8_keeps_43 (by decide) ?_
              refine lv_goto (tgt := 48) hx hb dX8_keeps_44 (by decide) ?_
              exact J48 1 hf _ _ hP hD hS ls (lv_sub hl [0, 2] rfl)
    exact L23 fu y0_20 0 hf _ _ hP hD hS ls (lv_sub hl [2, 1, 0] rfl)
  have J15 : ∀ (u_15 : Unit), fX8_keeps_J15 (fX8_keeps_J20 v_kind v_boxes v_rowOf v_columnOf v_now) u_15 = some fin → ∀ (H : Heap) (locs : List Loc), va_P (dC, dI) vwCl (wX8 cI cB cE a v_boards v_kind v_rows v_outer v_inner v_content v_boxes v_rowOf v_columnOf v_seen v_seenWhat v_seenCan v_pageLength v_page v_isWhole v_newKind v_newRows v_newOuter v_newInner v_newContent v_now v_left v_box v_isCounted v_counted v_given v_isTermed v_terms v_term v_shape v_readBoxes v_readRow v_readColumn v_grid v_often v_seedNow v_isKept v_keptBoard v_keptKind v_keptRows v_keptSeen v_keptOuter v_keptInner v_keptContent v_keptWhat v_keptCan v_h) H → va_D A (wX8 cI cB cE a v_boards v_kind v_rows v_outer v_inner v_content v_boxes v_rowOf v_columnOf v_seen v_seenWhat v_seenCan v_pageLength v_page v_isWhole v_newKind v_newRows v_newOuter v_newInner v_newContent v_now v_left v_box v_isCounted v_counted v_given v_isTermed v_terms v_term v_shape v_readBoxes v_readRow v_readColumn v_grid v_often v_seedNow v_isKept v_keptBoard v_keptKind v_keptRows v_keptSeen v_keptOuter v_keptInner v_keptContent v_keptWhat v_keptCan v_h) → va_S A s.heap H locs → ∀ (ls : Array Slot), lv_has ls 3 [(0, .ref (a 0))] → W p l e rmX8_keeps s m args below meth c H locs 0 0 Q (F0 m 15 ls []) := by
    intro u_15 hf H locs hP hD hS ls hl
    unfold fX8_keeps_J15 at hf
    refine lv_iconst (v := 1) hx hb dX8_keeps_15 (by decide) ?_
    refine lv_goto (tgt := 20) hx hb dX8_keeps_16 (by decide) ?_
    exact J20 1 hf _ _ hP hD hS ls (lv_sub hl [0] rfl)
  refine lv_icmp_ne (tgt := 15) hx hb dX8_keeps_5 (by decide) (fun c_6 => ?_) (fun c_6 => ?_)
  · rw [if_neg c_6] at hf
    exact J15 () hf _ _ hP hD hS ls (lv_sub hl [0] rfl)
  · rw [if_pos c_6] at hf
    refine lv_aload_n hx hb dX8_keeps_8 rfl (lv_at hl 0 rfl) ?_
    obtain ⟨r_7, hr_7, hf⟩ := bd_some hf
    refine cx_runW (cx_V (As := []) (rest := []) ⟨hx, hb, hml, hown, hts⟩ (ctX8_isLattice l z dC dI cI cB cE a v_boards v_kind v_rows v_outer v_inner v_content v_boxes v_rowOf v_columnOf v_seen v_seenWhat v_seenCan v_pageLength v_page v_isWhole v_newKind v_newRows v_newOuter v_newInner v_newContent v_now v_left v_box v_isCounted v_counted v_given v_isTermed v_terms v_term v_shape v_readBoxes v_readRow v_readColumn v_grid v_often v_seedNow v_isKept v_keptBoard v_keptKind v_keptRows v_keptSeen v_keptOuter v_keptInner v_keptContent v_keptWhat v_keptCan v_h r_7 hr_7) (cwV 0 hts gX8_keeps_X8_isLattice rfl rfl rfl (by decide +kernel) ⟨Nat.le_of_ble_eq_true rfl, Nat.le_of_ble_eq_true rfl⟩) hK hP hD hZ hS hA (ci := 8) (q0 := 0) rfl rfl rfl hl.1 rfl (Nat.le_of_ble_eq_true rfl) dX8_keeps_9) hD hS hA [.int r_7] rfl (fun H locs hP hD hS => ?_)
    refine lv_if_eq (tgt := 19) hx hb dX8_keeps_12 (by decide) (fun c_8 => ?_) (fun c_8 => ?_)
    · rw [if_pos c_8] at hf
      refine lv_iconst (v := 0) hx hb dX8_keeps_19 (by decide) ?_
      exact J20 0 hf _ _ hP hD hS ls (lv_sub hl [0] rfl)
    · rw [if_neg c_8] at hf
      exact J15 () hf _ _ hP hD hS ls (lv_sub hl [0] rfl)

def fX8_told (v_content : Nat → Int32) : Option (Int32) :=
  some ((((v_content (0 : Int32).toNatClampNeg) + (v_content (1 : Int32).toNatClampNeg)) + (v_content (2 : Int32).toNatClampNeg)) + (v_content (3 : Int32).toNatClampNeg))
def rmX8_told : Room := { frames := 0, cells := 0, slots := 0, locals := 0 }
set_option maxRecDepth 100000 in
set_option maxHeartbeats 4000000 in
theorem ctX8_told (l : Launch) (z : Nat × Nat × Nat) (dC : Nat → ClassId) (dI : Nat → Nat → Nat) (cI cB cE : ClassId) (a : Nat → Nat) (v_boards : Int32) (v_kind : Int32) (v_rows : Int32) (v_outer : Nat → Int32) (v_inner : Nat → Int32) (v_content : Nat → Int32) (v_boxes : Int32) (v_rowOf : Nat → Int32) (v_columnOf : Nat → Int32) (v_seen : Int32) (v_seenWhat : Nat → Int32) (v_seenCan : Nat → Int32) (v_pageLength : Int32) (v_page : Nat → Int32) (v_isWhole : Int32) (v_newKind : Int32) (v_newRows : Int32) (v_newOuter : Nat → Int32) (v_newInner : Nat → Int32) (v_newContent : Nat → Int32) (v_now : Nat → Int32) (v_left : Nat → Int32) (v_box : Int32) (v_isCounted : Int32) (v_counted : Int32) (v_given : Nat → Int32) (v_isTermed : Int32) (v_terms : Int32) (v_term : Nat → Int32) (v_shape : Nat → Int32) (v_readBoxes : Int32) (v_readRow : Nat → Int32) (v_readColumn : Nat → Int32) (v_grid : Nat → Int32) (v_often : Nat → Int32) (v_seedNow : Int64) (v_isKept : Int32) (v_keptBoard : Int32) (v_keptKind : Int32) (v_keptRows : Int32) (v_keptSeen : Int32) (v_keptOuter : Nat → Int32) (v_keptInner : Nat → Int32) (v_keptContent : Nat → Int32) (v_keptWhat : Nat → Int32) (v_keptCan : Nat → Int32) (v_h : Int64) (fin : Int32) (hf : fX8_told v_content = some fin) : Ct l z (dC, dI) (tyL cI cB cE) yX8_told wsX8_told rmX8_told [.ref (a 0)] (wX8 cI cB cE a v_boards v_kind v_rows v_outer v_inner v_content v_boxes v_rowOf v_columnOf v_seen v_seenWhat v_seenCan v_pageLength v_page v_isWhole v_newKind v_newRows v_newOuter v_newInner v_newContent v_now v_left v_box v_isCounted v_counted v_given v_isTermed v_terms v_term v_shape v_readBoxes v_readRow v_readColumn v_grid v_often v_seedNow v_isKept v_keptBoard v_keptKind v_keptRows v_keptSeen v_keptOuter v_keptInner v_keptContent v_keptWhat v_keptCan v_h) (some (.int fin)) (wX8 cI cB cE a v_boards v_kind v_rows v_outer v_inner v_content v_boxes v_rowOf v_columnOf v_seen v_seenWhat v_seenCan v_pageLength v_page v_isWhole v_newKind v_newRows v_newOuter v_newInner v_newContent v_now v_left v_box v_isCounted v_counted v_given v_isTermed v_terms v_term v_shape v_readBoxes v_readRow v_readColumn v_grid v_often v_seedNow v_isKept v_keptBoard v_keptKind v_keptRows v_keptSeen v_keptOuter v_keptInner v_keptContent v_keptWhat v_keptCan v_h) := by
  refine Met.ofC (cc := cX8_told) (maxL := 1) (ret := (some .int)) (by decide) rfl (Nat.le_of_ble_eq_true rfl) ?_
  intro p e s m args below meth c A Q ls hx hb hr hml hts hown hlocks hA hK hP hD hZ hS hQ hl
  have hown : s.vm.findClass RX8 = some m.cls := hown
  have hl : lv_has ls 1 [(0, .ref (a 0))] := hl
  unfold fX8_told at hf
  refine lv_aload_n hx hb dX8_told_0 rfl (lv_at hl 0 rfl) ?_
  refine va_get (D := (dC, dI)) (ci := 8) (C := RX8) (T := TX8) (N := 47) hx hb hts (fun _ h => List.mem_cons_of_mem _ (List.mem_append_right _ h)) hown hK hP 0 rfl rfl 5 (by decide) (hts (.fieldLink RX8 16 "SkewBoardModel" "content" "[I") (List.mem_of_getElem? (i := 1) rfl)) (fun _ h9 => h9) rfl dX8_told_1 ?_
  refine lv_iconst (v := 0) hx hb dX8_told_4 (by decide) ?_
  refine va_iald hx hb hK hP 3 0 rfl rfl (inb_vp (show inb 0 4 = true by decide)) dX8_told_5 ?_
  refine lv_aload_n hx hb dX8_told_6 rfl (lv_at hl 0 rfl) ?_
  refine va_get (D := (dC, dI)) (ci := 8) (C := RX8) (T := TX8) (N := 47) hx hb hts (fun _ h => List.mem_cons_of_mem _ (List.mem_append_right _ h)) hown hK hP 0 rfl rfl 5 (by decide) (hts (.fieldLink RX8 16 "SkewBoardModel" "content" "[I") (List.mem_of_getElem? (i := 1) rfl)) (fun _ h9 => h9) rfl dX8_told_7 ?_
  refine lv_iconst (v := 1) hx hb dX8_told_10 (by decide) ?_
  refine va_iald hx hb hK hP 3 0 rfl rfl (inb_vp (show inb 1 4 = true by decide)) dX8_told_11 ?_
  refine lv_iadd hx hb dX8_told_12 ?_
  refine lv_aload_n hx hb dX8_told_13 rfl (lv_at hl 0 rfl) ?_
  refine va_get (D := (dC, dI)) (ci := 8) (C := RX8) (T := TX8) (N := 47) hx hb hts (fun _ h => List.mem_cons_of_mem _ (List.mem_append_right _ h)) hown hK hP 0 rfl rfl 5 (by decide) (hts (.fieldLink RX8 16 "SkewBoardModel" "content" "[I") (List.mem_of_getElem? (i := 1) rfl)) (fun _ h9 => h9) rfl dX8_told_14 ?_
  refine lv_iconst (v := 2) hx hb dX8_told_17 (by decide) ?_
  refine va_iald hx hb hK hP 3 0 rfl rfl (inb_vp (show inb 2 4 = true by decide)) dX8_told_18 ?_
  refine lv_iadd hx hb dX8_told_19 ?_
  refine lv_aload_n hx hb dX8_told_20 rfl (lv_at hl 0 rfl) ?_
  refine va_get (D := (dC, dI)) (ci := 8) (C := RX8) (T := TX8) (N := 47) hx hb hts (fun _ h => List.mem_cons_of_mem _ (List.mem_append_right _ h)) hown hK hP 0 rfl rfl 5 (by decide) (hts (.fieldLink RX8 16 "SkewBoardModel" "content" "[I") (List.mem_of_getElem? (i := 1) rfl)) (fun _ h9 => h9) rfl dX8_told_21 ?_
  refine lv_iconst (v := 3) hx hb dX8_told_24 (by decide) ?_
  refine va_iald hx hb hK hP 3 0 rfl rfl (inb_vp (show inb 3 4 = true by decide)) dX8_told_25 ?_
  refine lv_iadd hx hb dX8_told_26 ?_
  have hQ2 := hQ
  rw [← Option.some.inj hf] at hQ2
  exact cx_iret hQ2 hx hb hr hlocks hK hP hD hS dX8_told_27

def fX8_begin_L27 (v_left_2 : Nat → Int32) : Nat → Int32 → (Nat → Int32) → Option ((Nat → Int32) × (Nat → Int32) × Int32)
  | 0, _, _ => none
  | n + 1, x1_27, v_now_27 =>
    if 9 ≤ x1_27 then (some (v_now_27, v_left_2, 0)) else (gd (inb x1_27 9) (fX8_begin_L27 v_left_2 n (x1_27 + 1) (upd v_now_27 x1_27.toNatClampNeg 0)))
def fX8_begin_L2 (v_content : Nat → Int32) (v_now : Nat → Int32) : Nat → Int32 → (Nat → Int32) → Option ((Nat → Int32) × (Nat → Int32) × Int32)
  | 0, _, _ => none
  | n + 1, x1_2, v_left_2 =>
    if 4 ≤ x1_2 then (fX8_begin_L27 v_left_2 fu 0 v_now) else (gd (inb x1_2 4) (fX8_begin_L2 v_content v_now n (x1_2 + 1) (upd v_left_2 x1_2.toNatClampNeg (v_content x1_2.toNatClampNeg))))
def fX8_begin (v_content : Nat → Int32) (v_now : Nat → Int32) (v_left : Nat → Int32) : Option ((Nat → Int32) × (Nat → Int32) × Int32) :=
  fX8_begin_L2 v_content v_now fu 0 v_left
def rmX8_begin : Room := { frames := 0, cells := 0, slots := 0, locals := 0 }
set_option maxRecDepth 100000 in
set_option maxHeartbeats 4000000 in
theorem ctX8_begin (l : Launch) (z : Nat × Nat × Nat) (dC : Nat → ClassId) (dI : Nat → Nat → Nat) (cI cB cE : ClassId) (a : Nat → Nat) (v_boards : Int32) (v_kind : Int32) (v_rows : Int32) (v_outer : Nat → Int32) (v_inner : Nat → Int32) (v_content : Nat → Int32) (v_boxes : Int32) (v_rowOf : Nat → Int32) (v_columnOf : Nat → Int32) (v_seen : Int32) (v_seenWhat : Nat → Int32) (v_seenCan : Nat → Int32) (v_pageLength : Int32) (v_page : Nat → Int32) (v_isWhole : Int32) (v_newKind : Int32) (v_newRows : Int32) (v_newOuter : Nat → Int32) (v_newInner : Nat → Int32) (v_newContent : Nat → Int32) (v_now : Nat → Int32) (v_left : Nat → Int32) (v_box : Int32) (v_isCounted : Int32) (v_counted : Int32) (v_given : Nat → Int32) (v_isTermed : Int32) (v_terms : Int32) (v_term : Nat → Int32) (v_shape : Nat → Int32) (v_readBoxes : Int32) (v_readRow : Nat → Int32) (v_readColumn : Nat → Int32) (v_grid : Nat → Int32) (v_often : Nat → Int32) (v_seedNow : Int64) (v_isKept : Int32) (v_keptBoard : Int32) (v_keptKind : Int32) (v_keptRows : Int32) (v_keptSeen : Int32) (v_keptOuter : Nat → Int32) (v_keptInner : Nat → Int32) (v_keptContent : Nat → Int32) (v_keptWhat : Nat → Int32) (v_keptCan : Nat → Int32) (v_h : Int64) (fin : (Nat → Int32) × (Nat → Int32) × Int32) (hf : fX8_begin v_content v_now v_left = some fin) : Ct l z (dC, dI) (tyL cI cB cE) yX8_begin wsX8_begin rmX8_begin [.ref (a 0)] (wX8 cI cB cE a v_boards v_kind v_rows v_outer v_inner v_content v_boxes v_rowOf v_columnOf v_seen v_seenWhat v_seenCan v_pageLength v_page v_isWhole v_newKind v_newRows v_newOuter v_newInner v_newContent v_now v_left v_box v_isCounted v_counted v_given v_isTermed v_terms v_term v_shape v_readBoxes v_readRow v_readColumn v_grid v_often v_seedNow v_isKept v_keptBoard v_keptKind v_keptRows v_keptSeen v_keptOuter v_keptInner v_keptContent v_keptWhat v_keptCan v_h) none (wX8 cI cB cE a v_boards v_kind v_rows v_outer v_inner v_content v_boxes v_rowOf v_columnOf v_seen v_seenWhat v_seenCan v_pageLength v_page v_isWhole v_newKind v_newRows v_newOuter v_newInner v_newContent fin.1 fin.2.1 fin.2.2 v_isCounted v_counted v_given v_isTermed v_terms v_term v_shape v_readBoxes v_readRow v_readColumn v_grid v_often v_seedNow v_isKept v_keptBoard v_keptKind v_keptRows v_keptSeen v_keptOuter v_keptInner v_keptContent v_keptWhat v_keptCan v_h) := by
  refine Met.ofC (cc := cX8_begin) (maxL := 2) (ret := none) (by decide) rfl (Nat.le_of_ble_eq_true rfl) ?_
  intro p e s m args below meth c A Q ls hx hb hr hml hts hown hlocks hA hK hP hD hZ hS hQ hl
  have hown : s.vm.findClass RX8 = some m.cls := hown
  have hl : lv_has ls 2 [(0, .ref (a 0))] := hl
  unfold fX8_begin at hf
  refine lv_iconst (v := 0) hx hb dX8_begin_0 (by decide) ?_
  refine lv_istore_n (lv' := [(1, .int 0), (0, .ref (a 0))]) hx hb dX8_begin_1 rfl hl (by decide) rfl (fun ls hl => ?_)
  have L2 : ∀ (n2 : Nat) (x1_2 : Int32) (v_left_2 : Nat → Int32), fX8_begin_L2 v_content v_now n2 x1_2 v_left_2 = some fin → ∀ (H : Heap) (locs : List Loc), va_P (dC, dI) vwCl (wX8 cI cB cE a v_boards v_kind v_rows v_outer v_inner v_content v_boxes v_rowOf v_columnOf v_seen v_seenWhat v_seenCan v_pageLength v_page v_isWhole v_newKind v_newRows v_newOuter v_newInner v_newContent v_now v_left_2 v_box v_isCounted v_counted v_given v_isTermed v_terms v_term v_shape v_readBoxes v_readRow v_readColumn v_grid v_often v_seedNow v_isKept v_keptBoard v_keptKind v_keptRows v_keptSeen v_keptOuter v_keptInner v_keptContent v_keptWhat v_keptCan v_h) H → va_D A (wX8 cI cB cE a v_boards v_kind v_rows v_outer v_inner v_content v_boxes v_rowOf v_columnOf v_seen v_seenWhat v_seenCan v_pageLength v_page v_isWhole v_newKind v_newRows v_newOuter v_newInner v_newContent v_now v_left_2 v_box v_isCounted v_counted v_given v_isTermed v_terms v_term v_shape v_readBoxes v_readRow v_readColumn v_grid v_often v_seedNow v_isKept v_keptBoard v_keptKind v_keptRows v_keptSeen v_keptOuter v_keptInner v_keptContent v_keptWhat v_keptCan v_h) → va_S A s.heap H locs → ∀ (ls : Array Slot), lv_has ls 2 [(0, .ref (a 0)), (1, .int x1_2)] → W p l e rmX8_begin s m args below meth c H locs 0 0 Q (F0 m 2 ls []) := by
    intro n2
    induction n2 with
    | zero =>
      intro x1_2 v_left_2 hf
      rw [fX8_begin_L2] at hf
      cases hf
    | succ n2 ih2 =>
      intro x1_2 v_left_2 hf H locs hP hD hS ls hl
      rw [fX8_begin_L2] at hf
      refine lv_iload_n hx hb dX8_begin_2 rfl (lv_at hl 1 rfl) ?_
      refine lv_iconst (v := 4) hx hb dX8_begin_3 (by decide) ?_
      refine lv_icmp_ge (tgt := 25) hx hb dX8_begin_4 (by decide) (fun c_1 => ?_) (fun c_1 => ?_)
      · rw [if_pos c_1] at hf
        refine lv_iconst (v := 0) hx hb dX8_begin_25 (by decide) ?_
        refine lv_istore_n (lv' := [(1, .int 0), (0, .ref (a 0))]) hx hb dX8_begin_26 rfl hl (by decide) rfl (fun ls hl => ?_)
        have L27 : ∀ (n27 : Nat) (x1_27 : Int32) (v_now_27 : Nat → Int32), fX8_begin_L27 v_left_2 n27 x1_27 v_now_27 = some fin → ∀ (H : Heap) (locs : List Loc), va_P (dC, dI) vwCl (wX8 cI cB cE a v_boards v_kind v_rows v_outer v_inner v_content v_boxes v_rowOf v_columnOf v_seen v_seenWhat v_seenCan v_pageLength v_page v_isWhole v_newKind v_newRows v_newOuter v_newInner v_newContent v_now_27 v_left_2 v_box v_isCounted v_counted v_given v_isTermed v_terms v_term v_shape v_readBoxes v_readRow v_readColumn v_grid v_often v_seedNow v_isKept v_keptBoard v_keptKind v_keptRows v_keptSeen v_keptOuter v_keptInner v_keptContent v_keptWhat v_keptCan v_h) H → va_D A (wX8 cI cB cE a v_boards v_kind v_rows v_outer v_inner v_content v_boxes v_rowOf v_columnOf v_seen v_seenWhat v_seenCan v_pageLength v_page v_isWhole v_newKind v_newRows v_newOuter v_newInner v_newContent v_now_27 v_left_2 v_box v_isCounted v_counted v_given v_isTermed v_terms v_term v_shape v_readBoxes v_readRow v_readColumn v_grid v_often v_seedNow v_isKept v_keptBoard v_keptKind v_keptRows v_keptSeen v_keptOuter v_keptInner v_keptContent v_keptWhat v_keptCan v_h) → va_S A s.heap H locs → ∀ (ls : Array Slot), lv_has ls 2 [(0, .ref (a 0)), (1, .int x1_27)] → W p l e rmX8_begin s m args below meth c H locs 0 0 Q (F0 m 27 ls []) := by
          intro n27
          induction n27 with
          | zero =>
            intro x1_27 v_now_27 hf
            rw [fX8_begin_L27] at hf
            cases hf
          | succ n27 ih27 =>
            intro x1_27 v_now_27 hf H locs hP hD hS ls hl
            rw [fX8_begin_L27] at hf
            refine lv_iload_n hx hb dX8_begin_27 rfl (lv_at hl 1 rfl) ?_
            refine lv_bipush (v := 9) hx hb dX8_begin_28 (by decide) ?_
            refine lv_icmp_ge (tgt := 46) hx hb dX8_begin_30 (by decide) (fun c_2 => ?_) (fun c_2 => ?_)
            · rw [if_pos c_2] at hf
              refine lv_aload_n hx hb dX8_begin_46 rfl (lv_at hl 0 rfl) ?_
              refine lv_iconst (v := 0) hx hb dX8_begin_47 (by decide) ?_
              refine va_put (D := (dC, dI)) (ci := 8) (v := .int 0) (ty := .int) (C := RX8) (T := TX8) (N := 47) hx hb hts (fun _ h => List.mem_cons_of_mem _ (List.mem_append_right _ h)) tyX8 tyX8_ok nmX8 hown hK hP hD hS 0 rfl rfl 22 (by decide) (hts (.fieldLink RX8 181 "SkewBoardModel" "box" "I") (List.mem_of_getElem? (i := 4) rfl)) (fun _ h9 => h9) rfl (by decide +kernel) rfl rfl (Nat.le_of_ble_eq_true rfl) dX8_begin_48 (fun H locs hP hD hS => ?_)
              have hP : va_P (dC, dI) vwCl (wX8 cI cB cE a v_boards v_kind v_rows v_outer v_inner v_content v_boxes v_rowOf v_columnOf v_seen v_seenWhat v_seenCan v_pageLength v_page v_isWhole v_newKind v_newRows v_newOuter v_newInner v_newContent v_now_27 v_left_2 0 v_isCounted v_counted v_given v_isTermed v_terms v_term v_shape v_readBoxes v_readRow v_readColumn v_grid v_often v_seedNow v_isKept v_keptBoard v_keptKind v_keptRows v_keptSeen v_keptOuter v_keptInner v_keptContent v_keptWhat v_keptCan v_h) H := hP
              have hD : va_D A (wX8 cI cB cE a v_boards v_kind v_rows v_outer v_inner v_content v_boxes v_rowOf v_columnOf v_seen v_seenWhat v_seenCan v_pageLength v_page v_isWhole v_newKind v_newRows v_newOuter v_newInner v_newContent v_now_27 v_left_2 0 v_isCounted v_counted v_given v_isTermed v_terms v_term v_shape v_readBoxes v_readRow v_readColumn v_grid v_often v_seedNow v_isKept v_keptBoard v_keptKind v_keptRows v_keptSeen v_keptOuter v_keptInner v_keptContent v_keptWhat v_keptCan v_h) := hD
              have hQ2 := hQ
              rw [← Option.some.inj hf] at hQ2
              exact cx_vret hQ2 hx hb hr hlocks hK hP hD hS dX8_begin_51
            · rw [if_neg c_2] at hf
              refine lv_aload_n hx hb dX8_begin_33 rfl (lv_at hl 0 rfl) ?_
              refine va_get (D := (dC, dI)) (ci := 8) (C := RX8) (T := TX8) (N := 47) hx hb hts (fun _ h => List.mem_cons_of_mem _ (List.mem_append_right _ h)) hown hK hP 0 rfl rfl 20 (by decide) (hts (.fieldLink RX8 44 "SkewBoardModel" "now" "[I") (List.mem_of_getElem? (i := 3) rfl)) (fun _ h9 => h9) rfl dX8_begin_34 ?_
              refine lv_iload_n hx hb dX8_begin_37 rfl (lv_at hl 1 rfl) ?_
              refine lv_iconst (v := 0) hx hb dX8_begin_38 (by decide) ?_
              obtain ⟨g_3, hf⟩ := gd_some hf
              refine va_iast hx hb hK hP hD hS 12 0 rfl rfl (inb_vp g_3) dX8_begin_39 (fun H locs hP hD hS => ?_)
              have hP : va_P (dC, dI) vwCl (wX8 cI cB cE a v_boards v_kind v_rows v_outer v_inner v_content v_boxes v_rowOf v_columnOf v_seen v_seenWhat v_seenCan v_pageLength v_page v_isWhole v_newKind v_newRows v_newOuter v_newInner v_newContent (upd v_now_27 x1_27.toNatClampNeg 0) v_left_2 v_box v_isCounted v_counted v_given v_isTermed v_terms v_term v_shape v_readBoxes v_readRow v_readColumn v_grid v_often v_seedNow v_isKept v_keptBoard v_keptKind v_keptRows v_keptSeen v_keptOuter v_keptInner v_keptContent v_keptWhat v_keptCan v_h) H := hP
              have hD : va_D A (wX8 cI cB cE a v_boards v_kind v_rows v_outer v_inner v_content v_boxes v_rowOf v_columnOf v_seen v_seenWhat v_seenCan v_pageLength v_page v_isWhole v_newKind v_newRows v_newOuter v_newInner v_newContent (upd v_now_27 x1_27.toNatClampNeg 0) v_left_2 v_box v_isCounted v_counted v_given v_isTermed v_terms v_term v_shape v_readBoxes v_readRow v_readColumn v_grid v_often v_seedNow v_isKept v_keptBoard v_keptKind v_keptRows v_keptSeen v_keptOuter v_keptInner v_keptContent v_keptWhat v_keptCan v_h) := hD
              refine lv_iinc (v := (x1_27 + 1)) (lv' := [(1, .int (x1_27 + 1)), (0, .ref (a 0))]) hx hb dX8_begin_40 hl (k := 1) rfl rfl (by decide) rfl (fun ls hl => ?_)
              refine lv_goto (tgt := 27) hx hb dX8_begin_43 (by decide) ?_
              exact ih27 (x1_27 + 1) (upd v_now_27 x1_27.toNatClampNeg 0) hf _ _ hP hD hS ls (lv_sub hl [1, 0] rfl)
        exact L27 fu 0 v_now hf _ _ hP hD hS ls (lv_sub hl [1, 0] rfl)
      · rw [if_neg c_1] at hf
        refine lv_aload_n hx hb dX8_begin_7 rfl (lv_at hl 0 rfl) ?_
        refine va_get (D := (dC, dI)) (ci := 8) (C := RX8) (T := TX8) (N := 47) hx hb hts (fun _ h => List.mem_cons_of_mem _ (List.mem_append_right _ h)) hown hK hP 0 rfl rfl 21 (by decide) (hts (.fieldLink RX8 47 "SkewBoardModel" "left" "[I") (List.mem_of_getElem? (i := 1) rfl)) (fun _ h9 => h9) rfl dX8_begin_8 ?_
        refine lv_iload_n hx hb dX8_begin_11 rfl (lv_at hl 1 rfl) ?_
        refine lv_aload_n hx hb dX8_begin_12 rfl (lv_at hl 0 rfl) ?_
        refine va_get (D := (dC, dI)) (ci := 8) (C := RX8) (T := TX8) (N := 47) hx hb hts (fun _ h => List.mem_cons_of_mem _ (List.mem_append_right _ h)) hown hK hP 0 rfl rfl 5 (by decide) (hts (.fieldLink RX8 16 "SkewBoardModel" "content" "[I") (List.mem_of_getElem? (i := 2) rfl)) (fun _ h9 => h9) rfl dX8_begin_13 ?_
        refine lv_iload_n hx hb dX8_begin_16 rfl (lv_at hl 1 rfl) ?_
        obtain ⟨g_4, hf⟩ := gd_some hf
        refine va_iald hx hb hK hP 3 0 rfl rfl (inb_vp g_4) dX8_begin_17 ?_
        refine va_iast hx hb hK hP hD hS 13 0 rfl rfl (inb_vp g_4) dX8_begin_18 (fun H locs hP hD hS => ?_)
        have hP : va_P (dC, dI) vwCl (wX8 cI cB cE a v_boards v_kind v_rows v_outer v_inner v_content v_boxes v_rowOf v_columnOf v_seen v_seenWhat v_seenCan v_pageLength v_page v_isWhole v_newKind v_newRows v_newOuter v_newInner v_newContent v_now (upd v_left_2 x1_2.toNatClampNeg (v_content x1_2.toNatClampNeg)) v_box v_isCounted v_counted v_given v_isTermed v_terms v_term v_shape v_readBoxes v_readRow v_readColumn v_grid v_often v_seedNow v_isKept v_keptBoard v_keptKind v_keptRows v_keptSeen v_keptOuter v_keptInner v_keptContent v_keptWhat v_keptCan v_h) H := hP
        have hD : va_D A (wX8 cI cB cE a v_boards v_kind v_rows v_outer v_inner v_content v_boxes v_rowOf v_columnOf v_seen v_seenWhat v_seenCan v_pageLength v_page v_isWhole v_newKind v_newRows v_newOuter v_newInner v_newContent v_now (upd v_left_2 x1_2.toNatClampNeg (v_content x1_2.toNatClampNeg)) v_box v_isCounted v_counted v_given v_isTermed v_terms v_term v_shape v_readBoxes v_readRow v_readColumn v_grid v_often v_seedNow v_isKept v_keptBoard v_keptKind v_keptRows v_keptSeen v_keptOuter v_keptInner v_keptContent v_keptWhat v_keptCan v_h) := hD
        refine lv_iinc (v := (x1_2 + 1)) (lv' := [(1, .int (x1_2 + 1)), (0, .ref (a 0))]) hx hb dX8_begin_19 hl (k := 1) rfl rfl (by decide) rfl (fun ls hl => ?_)
        refine lv_goto (tgt := 2) hx hb dX8_begin_22 (by decide) ?_
        exact ih2 (x1_2 + 1) (upd v_left_2 x1_2.toNatClampNeg (v_content x1_2.toNatClampNeg)) hf _ _ hP hD hS ls (lv_sub hl [1, 0] rfl)
  exact L2 fu 0 v_left hf _ _ hP hD hS ls (lv_sub hl [1, 0] rfl)

def fX8_giveBack_J32 (v_left_32 : Nat → Int32) : Option ((Nat → Int32)) :=
    some v_left_32
def fX8_giveBack (v_now : Nat → Int32) (v_left : Nat → Int32) (v_box : Int32) : Option ((Nat → Int32)) :=
  gd (inb v_box 9) (if (v_now v_box.toNatClampNeg) ≤ 0 then (fX8_giveBack_J32 v_left) else (gd (inb ((v_now v_box.toNatClampNeg) - 1) 4) (fX8_giveBack_J32 (upd v_left ((v_now v_box.toNatClampNeg) - 1).toNatClampNeg ((v_left ((v_now v_box.toNatClampNeg) - 1).toNatClampNeg) + 1)))))
def rmX8_giveBack : Room := { frames := 0, cells := 0, slots := 0, locals := 0 }
set_option maxRecDepth 100000 in
set_option maxHeartbeats 4000000 in
theorem ctX8_giveBack (l : Launch) (z : Nat × Nat × Nat) (dC : Nat → ClassId) (dI : Nat → Nat → Nat) (cI cB cE : ClassId) (a : Nat → Nat) (v_boards : Int32) (v_kind : Int32) (v_rows : Int32) (v_outer : Nat → Int32) (v_inner : Nat → Int32) (v_content : Nat → Int32) (v_boxes : Int32) (v_rowOf : Nat → Int32) (v_columnOf : Nat → Int32) (v_seen : Int32) (v_seenWhat : Nat → Int32) (v_seenCan : Nat → Int32) (v_pageLength : Int32) (v_page : Nat → Int32) (v_isWhole : Int32) (v_newKind : Int32) (v_newRows : Int32) (v_newOuter : Nat → Int32) (v_newInner : Nat → Int32) (v_newContent : Nat → Int32) (v_now : Nat → Int32) (v_left : Nat → Int32) (v_box : Int32) (v_isCounted : Int32) (v_counted : Int32) (v_given : Nat → Int32) (v_isTermed : Int32) (v_terms : Int32) (v_term : Nat → Int32) (v_shape : Nat → Int32) (v_readBoxes : Int32) (v_readRow : Nat → Int32) (v_readColumn : Nat → Int32) (v_grid : Nat → Int32) (v_often : Nat → Int32) (v_seedNow : Int64) (v_isKept : Int32) (v_keptBoard : Int32) (v_keptKind : Int32) (v_keptRows : Int32) (v_keptSeen : Int32) (v_keptOuter : Nat → Int32) (v_keptInner : Nat → Int32) (v_keptContent : Nat → Int32) (v_keptWhat : Nat → Int32) (v_keptCan : Nat → Int32) (v_h : Int64) (fin : (Nat → Int32)) (hf : fX8_giveBack v_now v_left v_box = some fin) : Ct l z (dC, dI) (tyL cI cB cE) yX8_giveBack wsX8_giveBack rmX8_giveBack [.ref (a 0)] (wX8 cI cB cE a v_boards v_kind v_rows v_outer v_inner v_content v_boxes v_rowOf v_columnOf v_seen v_seenWhat v_seenCan v_pageLength v_page v_isWhole v_newKind v_newRows v_newOuter v_newInner v_newContent v_now v_left v_box v_isCounted v_counted v_given v_isTermed v_terms v_term v_shape v_readBoxes v_readRow v_readColumn v_grid v_often v_seedNow v_isKept v_keptBoard v_keptKind v_keptRows v_keptSeen v_keptOuter v_keptInner v_keptContent v_keptWhat v_keptCan v_h) none (wX8 cI cB cE a v_boards v_kind v_rows v_outer v_inner v_content v_boxes v_rowOf v_columnOf v_seen v_seenWhat v_seenCan v_pageLength v_page v_isWhole v_newKind v_newRows v_newOuter v_newInner v_newContent v_now fin v_box v_isCounted v_counted v_given v_isTermed v_terms v_term v_shape v_readBoxes v_readRow v_readColumn v_grid v_often v_seedNow v_isKept v_keptBoard v_keptKind v_keptRows v_keptSeen v_keptOuter v_keptInner v_keptContent v_keptWhat v_keptCan v_h) := by
  refine Met.ofC (cc := cX8_giveBack) (maxL := 1) (ret := none) (by decide) rfl (Nat.le_of_ble_eq_true rfl) ?_
  intro p e s m args below meth c A Q ls hx hb hr hml hts hown hlocks hA hK hP hD hZ hS hQ hl
  have hown : s.vm.findClass RX8 = some m.cls := hown
  have hl : lv_has ls 1 [(0, .ref (a 0))] := hl
  unfold fX8_giveBack at hf
  refine lv_aload_n hx hb dX8_giveBack_0 rfl (lv_at hl 0 rfl) ?_
  refine va_get (D := (dC, dI)) (ci := 8) (C := RX8) (T := TX8) (N := 47) hx hb hts (fun _ h => List.mem_cons_of_mem _ (List.mem_append_right _ h)) hown hK hP 0 rfl rfl 20 (by decide) (hts (.fieldLink RX8 44 "SkewBoardModel" "now" "[I") (List.mem_of_getElem? (i := 1) rfl)) (fun _ h9 => h9) rfl dX8_giveBack_1 ?_
  refine lv_aload_n hx hb dX8_giveBack_4 rfl (lv_at hl 0 rfl) ?_
  refine va_get (D := (dC, dI)) (ci := 8) (C := RX8) (T := TX8) (N := 47) hx hb hts (fun _ h => List.mem_cons_of_mem _ (List.mem_append_right _ h)) hown hK hP 0 rfl rfl 22 (by decide) (hts (.fieldLink RX8 181 "SkewBoardModel" "box" "I") (List.mem_of_getElem? (i := 2) rfl)) (fun _ h9 => h9) rfl dX8_giveBack_5 ?_
  obtain ⟨g_1, hf⟩ := gd_some hf
  refine va_iald hx hb hK hP 12 0 rfl rfl (inb_vp g_1) dX8_giveBack_8 ?_
  have J32 : ∀ (v_left_32 : Nat → Int32), fX8_giveBack_J32  v_left_32 = some fin → ∀ (H : Heap) (locs : List Loc), va_P (dC, dI) vwCl (wX8 cI cB cE a v_boards v_kind v_rows v_outer v_inner v_content v_boxes v_rowOf v_columnOf v_seen v_seenWhat v_seenCan v_pageLength v_page v_isWhole v_newKind v_newRows v_newOuter v_newInner v_newContent v_now v_left_32 v_box v_isCounted v_counted v_given v_isTermed v_terms v_term v_shape v_readBoxes v_readRow v_readColumn v_grid v_often v_seedNow v_isKept v_keptBoard v_keptKind v_keptRows v_keptSeen v_keptOuter v_keptInner v_keptContent v_keptWhat v_keptCan v_h) H → va_D A (wX8 cI cB cE a v_boards v_kind v_rows v_outer v_inner v_content v_boxes v_rowOf v_columnOf v_seen v_seenWhat v_seenCan v_pageLength v_page v_isWhole v_newKind v_newRows v_newOuter v_newInner v_newContent v_now v_left_32 v_box v_isCounted v_counted v_given v_isTermed v_terms v_term v_shape v_readBoxes v_readRow v_readColumn v_grid v_often v_seedNow v_isKept v_keptBoard v_keptKind v_keptRows v_keptSeen v_keptOuter v_keptInner v_keptContent v_keptWhat v_keptCan v_h) → va_S A s.heap H locs → ∀ (ls : Array Slot), lv_has ls 1 [] → W p l e rmX8_giveBack s m args below meth c H locs 0 0 Q (F0 m 32 ls []) := by
    intro v_left_32 hf H locs hP hD hS ls hl
    unfold fX8_giveBack_J32 at hf
    have hQ2 := hQ
    rw [← Option.some.inj hf] at hQ2
    exact cx_vret hQ2 hx hb hr hlocks hK hP hD hS dX8_giveBack_32
  refine lv_if_le (tgt := 32) hx hb dX8_giveBack_9 (by decide) (fun c_2 => ?_) (fun c_2 => ?_)
  · rw [if_pos c_2] at hf
    exact J32 v_left hf _ _ hP hD hS ls (lv_sub hl [] rfl)
  · rw [if_neg c_2] at hf
    refine lv_aload_n hx hb dX8_giveBack_12 rfl (lv_at hl 0 rfl) ?_
    refine va_get (D := (dC, dI)) (ci := 8) (C := RX8) (T := TX8) (N := 47) hx hb hts (fun _ h => List.mem_cons_of_mem _ (List.mem_append_right _ h)) hown hK hP 0 rfl rfl 21 (by decide) (hts (.fieldLink RX8 47 "SkewBoardModel" "left" "[I") (List.mem_of_getElem? (i := 3) rfl)) (fun _ h9 => h9) rfl dX8_giveBack_13 ?_
    refine lv_aload_n hx hb dX8_giveBack_16 rfl (lv_at hl 0 rfl) ?_
    refine va_get (D := (dC, dI)) (ci := 8) (C := RX8) (T := TX8) (N := 47) hx hb hts (fun _ h => List.mem_cons_of_mem _ (List.mem_append_right _ h)) hown hK hP 0 rfl rfl 20 (by decide) (hts (.fieldLink RX8 44 "SkewBoardModel" "now" "[I") (List.mem_of_getElem? (i := 1) rfl)) (fun _ h9 => h9) rfl dX8_giveBack_17 ?_
    refine lv_aload_n hx hb dX8_giveBack_20 rfl (lv_at hl 0 rfl) ?_
    refine va_get (D := (dC, dI)) (ci := 8) (C := RX8) (T := TX8) (N := 47) hx hb hts (fun _ h => List.mem_cons_of_mem _ (List.mem_append_right _ h)) hown hK hP 0 rfl rfl 22 (by decide) (hts (.fieldLink RX8 181 "SkewBoardModel" "box" "I") (List.mem_of_getElem? (i := 2) rfl)) (fun _ h9 => h9) rfl dX8_giveBack_21 ?_
    refine va_iald hx hb hK hP 12 0 rfl rfl (inb_vp g_1) dX8_giveBack_24 ?_
    refine lv_iconst (v := 1) hx hb dX8_giveBack_25 (by decide) ?_
    refine lv_isub hx hb dX8_giveBack_26 ?_
    refine lv_dup2_11 hx hb dX8_giveBack_27 rfl rfl ?_
    obtain ⟨g_3, hf⟩ := gd_some hf
    refine va_iald hx hb hK hP 13 0 rfl rfl (inb_vp g_3) dX8_giveBack_28 ?_
    refine lv_iconst (v := 1) hx hb dX8_giveBack_29 (by decide) ?_
    refine lv_iadd hx hb dX8_giveBack_30 ?_
    refine va_iast hx hb hK hP hD hS 13 0 rfl rfl (inb_vp g_3) dX8_giveBack_31 (fun H locs hP hD hS => ?_)
    have hP : va_P (dC, dI) vwCl (wX8 cI cB cE a v_boards v_kind v_rows v_outer v_inner v_content v_boxes v_rowOf v_columnOf v_seen v_seenWhat v_seenCan v_pageLength v_page v_isWhole v_newKind v_newRows v_newOuter v_newInner v_newContent v_now (upd v_left ((v_now v_box.toNatClampNeg) - 1).toNatClampNeg ((v_left ((v_now v_box.toNatClampNeg) - 1).toNatClampNeg) + 1)) v_box v_isCounted v_counted v_given v_isTermed v_terms v_term v_shape v_readBoxes v_readRow v_readColumn v_grid v_often v_seedNow v_isKept v_keptBoard v_keptKind v_keptRows v_keptSeen v_keptOuter v_keptInner v_keptContent v_keptWhat v_keptCan v_h) H := hP
    have hD : va_D A (wX8 cI cB cE a v_boards v_kind v_rows v_outer v_inner v_content v_boxes v_rowOf v_columnOf v_seen v_seenWhat v_seenCan v_pageLength v_page v_isWhole v_newKind v_newRows v_newOuter v_newInner v_newContent v_now (upd v_left ((v_now v_box.toNatClampNeg) - 1).toNatClampNeg ((v_left ((v_now v_box.toNatClampNeg) - 1).toNatClampNeg) + 1)) v_box v_isCounted v_counted v_given v_isTermed v_terms v_term v_shape v_readBoxes v_readRow v_readColumn v_grid v_often v_seedNow v_isKept v_keptBoard v_keptKind v_keptRows v_keptSeen v_keptOuter v_keptInner v_keptContent v_keptWhat v_keptCan v_h) := hD
    exact J32 (upd v_left ((v_now v_box.toNatClampNeg) - 1).toNatClampNeg ((v_left ((v_now v_box.toNatClampNeg) - 1).toNatClampNeg) + 1)) hf _ _ hP hD hS ls (lv_sub hl [] rfl)

def fX8_raise_J76 (v_box : Int32) (r_1 : (Nat → Int32)) (v_now_76 : Nat → Int32) : Option (Int32 × (Nat → Int32) × (Nat → Int32)) :=
    if (v_now_76 v_box.toNatClampNeg) ≤ 4 then (gd (inb ((v_now_76 v_box.toNatClampNeg) - 1) 4) (some (1, v_now_76, (upd r_1 ((v_now_76 v_box.toNatClampNeg) - 1).toNatClampNeg ((r_1 ((v_now_76 v_box.toNatClampNeg) - 1).toNatClampNeg) - 1))))) else (some (0, (upd v_now_76 v_box.toNatClampNeg 0), r_1))
def fX8_raise_J60 (v_box : Int32) (v_now_17 : Nat → Int32) (k17 : (Nat → Int32) → Option (Int32 × (Nat → Int32) × (Nat → Int32))) (u_60 : Unit) : Option (Int32 × (Nat → Int32) × (Nat → Int32)) :=
    k17 (upd v_now_17 v_box.toNatClampNeg ((v_now_17 v_box.toNatClampNeg) + 1))
def fX8_raise_L17 (v_kind : Int32) (v_rowOf : Nat → Int32) (v_columnOf : Nat → Int32) (v_box : Int32) (r_1 : (Nat → Int32)) (k76 : (Nat → Int32) → Option (Int32 × (Nat → Int32) × (Nat → Int32))) : Nat → (Nat → Int32) → Option (Int32 × (Nat → Int32) × (Nat → Int32))
  | 0, _ => none
  | n + 1, v_now_17 =>
    if 4 < (v_now_17 v_box.toNatClampNeg) then (k76 v_now_17) else (gd (inb ((v_now_17 v_box.toNatClampNeg) - 1) 4) (if (r_1 ((v_now_17 v_box.toNatClampNeg) - 1).toNatClampNeg) = 0 then (fX8_raise_J60 v_box v_now_17 (fX8_raise_L17 v_kind v_rowOf v_columnOf v_box r_1 k76 n) ()) else (bd (fX8_fits v_box v_kind v_rowOf v_columnOf v_now_17) (fun r_8 => if r_8 = 0 then (fX8_raise_J60 v_box v_now_17 (fX8_raise_L17 v_kind v_rowOf v_columnOf v_box r_1 k76 n) ()) else (k76 v_now_17)))))
def fX8_raise (v_kind : Int32) (v_rowOf : Nat → Int32) (v_columnOf : Nat → Int32) (v_now : Nat → Int32) (v_left : Nat → Int32) (v_box : Int32) : Option (Int32 × (Nat → Int32) × (Nat → Int32)) :=
  bd (fX8_giveBack v_now v_left v_box) (fun r_1 => gd (inb v_box 9) (fX8_raise_L17 v_kind v_rowOf v_columnOf v_box r_1 (fX8_raise_J76 v_box r_1) fu (upd v_now v_box.toNatClampNeg ((v_now v_box.toNatClampNeg) + 1))))
def rmX8_raise : Room := { frames := 2, cells := 0, slots := 0, locals := 45 }
set_option maxRecDepth 100000 in
set_option maxHeartbeats 4000000 in
theorem ctX8_raise (l : Launch) (z : Nat × Nat × Nat) (dC : Nat → ClassId) (dI : Nat → Nat → Nat) (cI cB cE : ClassId) (a : Nat → Nat) (v_boards : Int32) (v_kind : Int32) (v_rows : Int32) (v_outer : Nat → Int32) (v_inner : Nat → Int32) (v_content : Nat → Int32) (v_boxes : Int32) (v_rowOf : Nat → Int32) (v_columnOf : Nat → Int32) (v_seen : Int32) (v_seenWhat : Nat → Int32) (v_seenCan : Nat → Int32) (v_pageLength : Int32) (v_page : Nat → Int32) (v_isWhole : Int32) (v_newKind : Int32) (v_newRows : Int32) (v_newOuter : Nat → Int32) (v_newInner : Nat → Int32) (v_newContent : Nat → Int32) (v_now : Nat → Int32) (v_left : Nat → Int32) (v_box : Int32) (v_isCounted : Int32) (v_counted : Int32) (v_given : Nat → Int32) (v_isTermed : Int32) (v_terms : Int32) (v_term : Nat → Int32) (v_shape : Nat → Int32) (v_readBoxes : Int32) (v_readRow : Nat → Int32) (v_readColumn : Nat → Int32) (v_grid : Nat → Int32) (v_often : Nat → Int32) (v_seedNow : Int64) (v_isKept : Int32) (v_keptBoard : Int32) (v_keptKind : Int32) (v_keptRows : Int32) (v_keptSeen : Int32) (v_keptOuter : Nat → Int32) (v_keptInner : Nat → Int32) (v_keptContent : Nat → Int32) (v_keptWhat : Nat → Int32) (v_keptCan : Nat → Int32) (v_h : Int64) (fin : Int32 × (Nat → Int32) × (Nat → Int32)) (hf : fX8_raise v_kind v_rowOf v_columnOf v_now v_left v_box = some fin) : Ct l z (dC, dI) (tyL cI cB cE) yX8_raise wsX8_raise rmX8_raise [.ref (a 0)] (wX8 cI cB cE a v_boards v_kind v_rows v_outer v_inner v_content v_boxes v_rowOf v_columnOf v_seen v_seenWhat v_seenCan v_pageLength v_page v_isWhole v_newKind v_newRows v_newOuter v_newInner v_newContent v_now v_left v_box v_isCounted v_counted v_given v_isTermed v_terms v_term v_shape v_readBoxes v_readRow v_readColumn v_grid v_often v_seedNow v_isKept v_keptBoard v_keptKind v_keptRows v_keptSeen v_keptOuter v_keptInner v_keptContent v_keptWhat v_keptCan v_h) (some (.int fin.1)) (wX8 cI cB cE a v_boards v_kind v_rows v_outer v_inner v_content v_boxes v_rowOf v_columnOf v_seen v_seenWhat v_seenCan v_pageLength v_page v_isWhole v_newKind v_newRows v_newOuter v_newInner v_newContent fin.2.1 fin.2.2 v_box v_isCounted v_counted v_given v_isTermed v_terms v_term v_shape v_readBoxes v_readRow v_readColumn v_grid v_often v_seedNow v_isKept v_keptBoard v_keptKind v_keptRows v_keptSeen v_keptOuter v_keptInner v_keptContent v_keptWhat v_keptCan v_h) := by
  refine Met.ofC (cc := cX8_raise) (maxL := 1) (ret := (some .boolean)) (by decide) rfl (Nat.le_of_ble_eq_true rfl) ?_
  intro p e s m args below meth c A Q ls hx hb hr hml hts hown hlocks hA hK hP hD hZ hS hQ hl
  have hown : s.vm.findClass RX8 = some m.cls := hown
  have hl : lv_has ls 1 [(0, .ref (a 0))] := hl
  unfold fX8_raise at hf
  refine lv_aload_n hx hb dX8_raise_0 rfl (lv_at hl 0 rfl) ?_
  obtain ⟨r_1, hr_1, hf⟩ := bd_some hf
  refine cx_runW (cx_V (As := []) (rest := []) ⟨hx, hb, hml, hown, hts⟩ (ctX8_giveBack l z dC dI cI cB cE a v_boards v_kind v_rows v_outer v_inner v_content v_boxes v_rowOf v_columnOf v_seen v_seenWhat v_seenCan v_pageLength v_page v_isWhole v_newKind v_newRows v_newOuter v_newInner v_newContent v_now v_left v_box v_isCounted v_counted v_given v_isTermed v_terms v_term v_shape v_readBoxes v_readRow v_readColumn v_grid v_often v_seedNow v_isKept v_keptBoard v_keptKind v_keptRows v_keptSeen v_keptOuter v_keptInner v_keptContent v_keptWhat v_keptCan v_h r_1 hr_1) (cwV 0 hts gX8_raise_X8_giveBack rfl rfl rfl (by decide +kernel) ⟨Nat.le_of_ble_eq_true rfl, Nat.le_of_ble_eq_true rfl⟩) hK hP hD hZ hS hA (ci := 8) (q0 := 0) rfl rfl rfl hl.1 rfl (Nat.le_of_ble_eq_true rfl) dX8_raise_1) hD hS hA [] rfl (fun H locs hP hD hS => ?_)
  refine lv_aload_n hx hb dX8_raise_4 rfl (lv_at hl 0 rfl) ?_
  refine va_get (D := (dC, dI)) (ci := 8) (C := RX8) (T := TX8) (N := 47) hx hb hts (fun _ h => List.mem_cons_of_mem _ (List.mem_append_right _ h)) hown hK hP 0 rfl rfl 20 (by decide) (hts (.fieldLink RX8 44 "SkewBoardModel" "now" "[I") (List.mem_of_getElem? (i := 1) rfl)) (fun _ h9 => h9) rfl dX8_raise_5 ?_
  refine lv_aload_n hx hb dX8_raise_8 rfl (lv_at hl 0 rfl) ?_
  refine va_get (D := (dC, dI)) (ci := 8) (C := RX8) (T := TX8) (N := 47) hx hb hts (fun _ h => List.mem_cons_of_mem _ (List.mem_append_right _ h)) hown hK hP 0 rfl rfl 22 (by decide) (hts (.fieldLink RX8 181 "SkewBoardModel" "box" "I") (List.mem_of_getElem? (i := 2) rfl)) (fun _ h9 => h9) rfl dX8_raise_9 ?_
  refine lv_dup2_11 hx hb dX8_raise_12 rfl rfl ?_
  obtain ⟨g_2, hf⟩ := gd_some hf
  refine va_iald hx hb hK hP 12 0 rfl rfl (inb_vp g_2) dX8_raise_13 ?_
  refine lv_iconst (v := 1) hx hb dX8_raise_14 (by decide) ?_
  refine lv_iadd hx hb dX8_raise_15 ?_
  refine va_iast hx hb hK hP hD hS 12 0 rfl rfl (inb_vp g_2) dX8_raise_16 (fun H locs hP hD hS => ?_)
  have hP : va_P (dC, dI) vwCl (wX8 cI cB cE a v_boards v_kind v_rows v_outer v_inner v_content v_boxes v_rowOf v_columnOf v_seen v_seenWhat v_seenCan v_pageLength v_page v_isWhole v_newKind v_newRows v_newOuter v_newInner v_newContent (upd v_now v_box.toNatClampNeg ((v_now v_box.toNatClampNeg) + 1)) r_1 v_box v_isCounted v_counted v_given v_isTermed v_terms v_term v_shape v_readBoxes v_readRow v_readColumn v_grid v_often v_seedNow v_isKept v_keptBoard v_keptKind v_keptRows v_keptSeen v_keptOuter v_keptInner v_keptContent v_keptWhat v_keptCan v_h) H := hP
  have hD : va_D A (wX8 cI cB cE a v_boards v_kind v_rows v_outer v_inner v_content v_boxes v_rowOf v_columnOf v_seen v_seenWhat v_seenCan v_pageLength v_page v_isWhole v_newKind v_newRows v_newOuter v_newInner v_newContent (upd v_now v_box.toNatClampNeg ((v_now v_box.toNatClampNeg) + 1)) r_1 v_box v_isCounted v_counted v_given v_isTermed v_terms v_term v_shape v_readBoxes v_readRow v_readColumn v_grid v_often v_seedNow v_isKept v_keptBoard v_keptKind v_keptRows v_keptSeen v_keptOuter v_keptInner v_keptContent v_keptWhat v_keptCan v_h) := hD
  have J76 : ∀ (v_now_76 : Nat → Int32), fX8_raise_J76 v_box r_1 v_now_76 = some fin → ∀ (H : Heap) (locs : List Loc), va_P (dC, dI) vwCl (wX8 cI cB cE a v_boards v_kind v_rows v_outer v_inner v_content v_boxes v_rowOf v_columnOf v_seen v_seenWhat v_seenCan v_pageLength v_page v_isWhole v_newKind v_newRows v_newOuter v_newInner v_newContent v_now_76 r_1 v_box v_isCounted v_counted v_given v_isTermed v_terms v_term v_shape v_readBoxes v_readRow v_readColumn v_grid v_often v_seedNow v_isKept v_keptBoard v_keptKind v_keptRows v_keptSeen v_keptOuter v_keptInner v_keptContent v_keptWhat v_keptCan v_h) H → va_D A (wX8 cI cB cE a v_boards v_kind v_rows v_outer v_inner v_content v_boxes v_rowOf v_columnOf v_seen v_seenWhat v_seenCan v_pageLength v_page v_isWhole v_newKind v_newRows v_newOuter v_newInner v_newContent v_now_76 r_1 v_box v_isCounted v_counted v_given v_isTermed v_terms v_term v_shape v_readBoxes v_readRow v_readColumn v_grid v_often v_seedNow v_isKept v_keptBoard v_keptKind v_keptRows v_keptSeen v_keptOuter v_keptInner v_keptContent v_keptWhat v_keptCan v_h) → va_S A s.heap H locs → ∀ (ls : Array Slot), lv_has ls 1 [(0, .ref (a 0))] → W p l e rmX8_raise s m args below meth c H locs 0 0 Q (F0 m 76 ls []) := by
    intro v_now_76 hf H locs hP hD hS ls hl
    unfold fX8_raise_J76 at hf
    refine lv_aload_n hx hb dX8_raise_76 rfl (lv_at hl 0 rfl) ?_
    refine va_get (D := (dC, dI)) (ci := 8) (C := RX8) (T := TX8) (N := 47) hx hb hts (fun _ h => List.mem_cons_of_mem _ (List.mem_append_right _ h)) hown hK hP 0 rfl rfl 20 (by decide) (hts (.fieldLink RX8 44 "SkewBoardModel" "now" "[I") (List.mem_of_getElem? (i := 1) rfl)) (fun _ h9 => h9) rfl dX8_raise_77 ?_
    refine lv_aload_n hx hb dX8_raise_80 rfl (lv_at hl 0 rfl) ?_
    refine va_get (D := (dC, dI)) (ci := 8) (C := RX8) (T := TX8) (N := 47) hx hb hts (fun _ h => List.mem_cons_of_mem _ (List.mem_append_right _ h)) hown hK hP 0 rfl rfl 22 (by decide) (hts (.fieldLink RX8 181 "SkewBoardModel" "box" "I") (List.mem_of_getElem? (i := 2) rfl)) (fun _ h9 => h9) rfl dX8_raise_81 ?_
    refine va_iald hx hb hK hP 12 0 rfl rfl (inb_vp g_2) dX8_raise_84 ?_
    refine lv_iconst (v := 4) hx hb dX8_raise_85 (by decide) ?_
    refine lv_icmp_le (tgt := 101) hx hb dX8_raise_86 (by decide) (fun c_3 => ?_) (fun c_3 => ?_)
    · rw [if_pos c_3] at hf
      refine lv_aload_n hx hb dX8_raise_101 rfl (lv_at hl 0 rfl) ?_
      refine va_get (D := (dC, dI)) (ci := 8) (C := RX8) (T := TX8) (N := 47) hx hb hts (fun _ h => List.mem_cons_of_mem _ (List.mem_append_right _ h)) hown hK hP 0 rfl rfl 21 (by decide) (hts (.fieldLink RX8 47 "SkewBoardModel" "left" "[I") (List.mem_of_getElem? (i := 3) rfl)) (fun _ h9 => h9) rfl dX8_raise_102 ?_
      refine lv_aload_n hx hb dX8_raise_105 rfl (lv_at hl 0 rfl) ?_
      refine va_get (D := (dC, dI)) (ci := 8) (C := RX8) (T := TX8) (N := 47) hx hb hts (fun _ h => List.mem_cons_of_mem _ (List.mem_append_right _ h)) hown hK hP 0 rfl rfl 20 (by decide) (hts (.fieldLink RX8 44 "SkewBoardModel" "now" "[I") (List.mem_of_getElem? (i := 1) rfl)) (fun _ h9 => h9) rfl dX8_raise_106 ?_
      refine lv_aload_n hx hb dX8_raise_109 rfl (lv_at hl 0 rfl) ?_
      refine va_get (D := (dC, dI)) (ci := 8) (C := RX8) (T := TX8) (N := 47) hx hb hts (fun _ h => List.mem_cons_of_mem _ (List.mem_append_right _ h)) hown hK hP 0 rfl rfl 22 (by decide) (hts (.fieldLink RX8 181 "SkewBoardModel" "box" "I") (List.mem_of_getElem? (i := 2) rfl)) (fun _ h9 => h9) rfl dX8_raise_110 ?_
      refine va_iald hx hb hK hP 12 0 rfl rfl (inb_vp g_2) dX8_raise_113 ?_
      refine lv_iconst (v := 1) hx hb dX8_raise_114 (by decide) ?_
      refine lv_isub hx hb dX8_raise_115 ?_
      refine lv_dup2_11 hx hb dX8_raise_116 rfl rfl ?_
      obtain ⟨g_4, hf⟩ := gd_some hf
      refine va_iald hx hb hK hP 13 0 rfl rfl (inb_vp g_4) dX8_raise_117 ?_
      refine lv_iconst (v := 1) hx hb dX8_raise_118 (by decide) ?_
      refine lv_isub hx hb dX8_raise_119 ?_
      refine va_iast hx hb hK hP hD hS 13 0 rfl rfl (inb_vp g_4) dX8_raise_120 (fun H locs hP hD hS => ?_)
      have hP : va_P (dC, dI) vwCl (wX8 cI cB cE a v_boards v_kind v_rows v_outer v_inner v_content v_boxes v_rowOf v_columnOf v_seen v_seenWhat v_seenCan v_pageLength v_page v_isWhole v_newKind v_newRows v_newOuter v_newInner v_newContent v_now_76 (upd r_1 ((v_now_76 v_box.toNatClampNeg) - 1).toNatClampNeg ((r_1 ((v_now_76 v_box.toNatClampNeg) - 1).toNatClampNeg) - 1)) v_box v_isCounted v_counted v_given v_isTermed v_terms v_term v_shape v_readBoxes v_readRow v_readColumn v_grid v_often v_seedNow v_isKept v_keptBoard v_keptKind v_keptRows v_keptSeen v_keptOuter v_keptInner v_keptContent v_keptWhat v_keptCan v_h) H := hP
      have hD : va_D A (wX8 cI cB cE a v_boards v_kind v_rows v_outer v_inner v_content v_boxes v_rowOf v_columnOf v_seen v_seenWhat v_seenCan v_pageLength v_page v_isWhole v_newKind v_newRows v_newOuter v_newInner v_newContent v_now_76 (upd r_1 ((v_now_76 v_box.toNatClampNeg) - 1).toNatClampNeg ((r_1 ((v_now_76 v_box.toNatClampNeg) - 1).toNatClampNeg) - 1)) v_box v_isCounted v_counted v_given v_isTermed v_terms v_term v_shape v_readBoxes v_readRow v_readColumn v_grid v_often v_seedNow v_isKept v_keptBoard v_keptKind v_keptRows v_keptSeen v_keptOuter v_keptInner v_keptContent v_keptWhat v_keptCan v_h) := hD
      refine lv_iconst (v := 1) hx hb dX8_raise_121 (by decide) ?_
      have hQ2 := hQ
      rw [← Option.some.inj hf] at hQ2
      exact cx_zret rfl hQ2 hx hb hr hlocks hK hP hD hS dX8_raise_122
    · rw [if_neg c_3] at hf
      refine lv_aload_n hx hb dX8_raise_89 rfl (lv_at hl 0 rfl) ?_
      refine va_get (D := (dC, dI)) (ci := 8) (C := RX8) (T := TX8) (N := 47) hx hb hts (fun _ h => List.mem_cons_of_mem _ (List.mem_append_right _ h)) hown hK hP 0 rfl rfl 20 (by decide) (hts (.fieldLink RX8 44 "SkewBoardModel" "now" "[I") (List.mem_of_getElem? (i := 1) rfl)) (fun _ h9 => h9) rfl dX8_raise_90 ?_
      refine lv_aload_n hx hb dX8_raise_93 rfl (lv_at hl 0 rfl) ?_
      refine va_get (D := (dC, dI)) (ci := 8) (C := RX8) (T := TX8) (N := 47) hx hb hts (fun _ h => List.mem_cons_of_mem _ (List.mem_append_right _ h)) hown hK hP 0 rfl rfl 22 (by decide) (hts (.fieldLink RX8 181 "SkewBoardModel" "box" "I") (List.mem_of_getElem? (i := 2) rfl)) (fun _ h9 => h9) rfl dX8_raise_94 ?_
      refine lv_iconst (v := 0) hx hb dX8_raise_97 (by decide) ?_
      refine va_iast hx hb hK hP hD hS 12 0 rfl rfl (inb_vp g_2) dX8_raise_98 (fun H locs hP hD hS => ?_)
      have hP : va_P (dC, dI) vwCl (wX8 cI cB cE a v_boards v_kind v_rows v_outer v_inner v_content v_boxes v_rowOf v_columnOf v_seen v_seenWhat v_seenCan v_pageLength v_page v_isWhole v_newKind v_newRows v_newOuter v_newInner v_newContent (upd v_now_76 v_box.toNatClampNeg 0) r_1 v_box v_isCounted v_counted v_given v_isTermed v_terms v_term v_shape v_readBoxes v_readRow v_readColumn v_grid v_often v_seedNow v_isKept v_keptBoard v_keptKind v_keptRows v_keptSeen v_keptOuter v_keptInner v_keptContent v_keptWhat v_keptCan v_h) H := hP
      have hD : va_D A (wX8 cI cB cE a v_boards v_kind v_rows v_outer v_inner v_content v_boxes v_rowOf v_columnOf v_seen v_seenWhat v_seenCan v_pageLength v_page v_isWhole v_newKind v_newRows v_newOuter v_newInner v_newContent (upd v_now_76 v_box.toNatClampNeg 0) r_1 v_box v_isCounted v_counted v_given v_isTermed v_terms v_term v_shape v_readBoxes v_readRow v_readColumn v_grid v_often v_seedNow v_isKept v_keptBoard v_keptKind v_keptRows v_keptSeen v_keptOuter v_keptInner v_keptContent v_keptWhat v_keptCan v_h) := hD
      refine lv_iconst (v := 0) hx hb dX8_raise_99 (by decide) ?_
      have hQ2 := hQ
      rw [← Option.some.inj hf] at hQ2
      exact cx_zret rfl hQ2 hx hb hr hlocks hK hP hD hS dX8_raise_100
  have L17 : ∀ (n17 : Nat) (v_now_17 : Nat → Int32), fX8_raise_L17 v_kind v_rowOf v_columnOf v_box r_1 (fX8_raise_J76 v_box r_1) n17 v_now_17 = some fin → ∀ (H : Heap) (locs : List Loc), va_P (dC, dI) vwCl (wX8 cI cB cE a v_boards v_kind v_rows v_outer v_inner v_content v_boxes v_rowOf v_columnOf v_seen v_seenWhat v_seenCan v_pageLength v_page v_isWhole v_newKind v_newRows v_newOuter v_newInner v_newContent v_now_17 r_1 v_box v_isCounted v_counted v_given v_isTermed v_terms v_term v_shape v_readBoxes v_readRow v_readColumn v_grid v_often v_seedNow v_isKept v_keptBoard v_keptKind v_keptRows v_keptSeen v_keptOuter v_keptInner v_keptContent v_keptWhat v_keptCan v_h) H → va_D A (wX8 cI cB cE a v_boards v_kind v_rows v_outer v_inner v_content v_boxes v_rowOf v_columnOf v_seen v_seenWhat v_seenCan v_pageLength v_page v_isWhole v_newKind v_newRows v_newOuter v_newInner v_newContent v_now_17 r_1 v_box v_isCounted v_counted v_given v_isTermed v_terms v_term v_shape v_readBoxes v_readRow v_readColumn v_grid v_often v_seedNow v_isKept v_keptBoard v_keptKind v_keptRows v_keptSeen v_keptOuter v_keptInner v_keptContent v_keptWhat v_keptCan v_h) → va_S A s.heap H locs → ∀ (ls : Array Slot), lv_has ls 1 [(0, .ref (a 0))] → W p l e rmX8_raise s m args below meth c H locs 0 0 Q (F0 m 17 ls []) := by
    intro n17
    induction n17 with
    | zero =>
      intro v_now_17 hf
      rw [fX8_raise_L17] at hf
      cases hf
    | succ n17 ih17 =>
      intro v_now_17 hf H locs hP hD hS ls hl
      rw [fX8_raise_L17] at hf
      refine lv_aload_n hx hb dX8_raise_17 rfl (lv_at hl 0 rfl) ?_
      refine va_get (D := (dC, dI)) (ci := 8) (C := RX8) (T := TX8) (N := 47) hx hb hts (fun _ h => List.mem_cons_of_mem _ (List.mem_append_right _ h)) hown hK hP 0 rfl rfl 20 (by decide) (hts (.fieldLink RX8 44 "SkewBoardModel" "now" "[I") (List.mem_of_getElem? (i := 1) rfl)) (fun _ h9 => h9) rfl dX8_raise_18 ?_
      refine lv_aload_n hx hb dX8_raise_21 rfl (lv_at hl 0 rfl) ?_
      refine va_get (D := (dC, dI)) (ci := 8) (C := RX8) (T := TX8) (N := 47) hx hb hts (fun _ h => List.mem_cons_of_mem _ (List.mem_append_right _ h)) hown hK hP 0 rfl rfl 22 (by decide) (hts (.fieldLink RX8 181 "SkewBoardModel" "box" "I") (List.mem_of_getElem? (i := 2) rfl)) (fun _ h9 => h9) rfl dX8_raise_22 ?_
      refine va_iald hx hb hK hP 12 0 rfl rfl (inb_vp g_2) dX8_raise_25 ?_
      refine lv_iconst (v := 4) hx hb dX8_raise_26 (by decide) ?_
      refine lv_icmp_gt (tgt := 76) hx hb dX8_raise_27 (by decide) (fun c_5 => ?_) (fun c_5 => ?_)
      · rw [if_pos c_5] at hf
        exact J76 v_now_17 hf _ _ hP hD hS ls (lv_sub hl [0] rfl)
      · rw [if_neg c_5] at hf
        refine lv_aload_n hx hb dX8_raise_30 rfl (lv_at hl 0 rfl) ?_
        refine va_get (D := (dC, dI)) (ci := 8) (C := RX8) (T := TX8) (N := 47) hx hb hts (fun _ h => List.mem_cons_of_mem _ (List.mem_append_right _ h)) hown hK hP 0 rfl rfl 21 (by decide) (hts (.fieldLink RX8 47 "SkewBoardModel" "left" "[I") (List.mem_of_getElem? (i := 3) rfl)) (fun _ h9 => h9) rfl dX8_raise_31 ?_
        refine lv_aload_n hx hb dX8_raise_34 rfl (lv_at hl 0 rfl) ?_
        refine va_get (D := (dC, dI)) (ci := 8) (C := RX8) (T := TX8) (N := 47) hx hb hts (fun _ h => List.mem_cons_of_mem _ (List.mem_append_right _ h)) hown hK hP 0 rfl rfl 20 (by decide) (hts (.fieldLink RX8 44 "SkewBoardModel" "now" "[I") (List.mem_of_getElem? (i := 1) rfl)) (fun _ h9 => h9) rfl dX8_raise_35 ?_
        refine lv_aload_n hx hb dX8_raise_38 rfl (lv_at hl 0 rfl) ?_
        refine va_get (D := (dC, dI)) (ci := 8) (C := RX8) (T := TX8) (N := 47) hx hb hts (fun _ h => List.mem_cons_of_mem _ (List.mem_append_right _ h)) hown hK hP 0 rfl rfl 22 (by decide) (hts (.fieldLink RX8 181 "SkewBoardModel" "box" "I") (List.mem_of_getElem? (i := 2) rfl)) (fun _ h9 => h9) rfl dX8_raise_39 ?_
        refine va_iald hx hb hK hP 12 0 rfl rfl (inb_vp g_2) dX8_raise_42 ?_
        refine lv_iconst (v := 1) hx hb dX8_raise_43 (by decide) ?_
        refine lv_isub hx hb dX8_raise_44 ?_
        obtain ⟨g_6, hf⟩ := gd_some hf
        refine va_iald hx hb hK hP 13 0 rfl rfl (inb_vp g_6) dX8_raise_45 ?_
        have J60 : ∀ (u_60 : Unit), fX8_raise_J60 v_box v_now_17 (fX8_raise_L17 v_kind v_rowOf v_columnOf v_box r_1 (fX8_raise_J76 v_box r_1) n17) u_60 = some fin → ∀ (H : Heap) (locs : List Loc), va_P (dC, dI) vwCl (wX8 cI cB cE a v_boards v_kind v_rows v_outer v_inner v_content v_boxes v_rowOf v_columnOf v_seen v_seenWhat v_seenCan v_pageLength v_page v_isWhole v_newKind v_newRows v_newOuter v_newInner v_newContent v_now_17 r_1 v_box v_isCounted v_counted v_given v_isTermed v_terms v_term v_shape v_readBoxes v_readRow v_readColumn v_grid v_often v_seedNow v_isKept v_keptBoard v_keptKind v_keptRows v_keptSeen v_keptOuter v_keptInner v_keptContent v_keptWhat v_keptCan v_h) H → va_D A (wX8 cI cB cE a v_boards v_kind v_rows v_outer v_inner v_content v_boxes v_rowOf v_columnOf v_seen v_seenWhat v_seenCan v_pageLength v_page v_isWhole v_newKind v_newRows v_newOuter v_newInner v_newContent v_now_17 r_1 v_box v_isCounted v_counted v_given v_isTermed v_terms v_term v_shape v_readBoxes v_readRow v_readColumn v_grid v_often v_seedNow v_isKept v_keptBoard v_keptKind v_keptRows v_keptSeen v_keptOuter v_keptInner v_keptContent v_keptWhat v_keptCan v_h) → va_S A s.heap H locs → ∀ (ls : Array Slot), lv_has ls 1 [(0, .ref (a 0))] → W p l e rmX8_raise s m args below meth c H locs 0 0 Q (F0 m 60 ls []) := by
          intro u_60 hf H locs hP hD hS ls hl
          unfold fX8_raise_J60 at hf
          refine lv_aload_n hx hb dX8_raise_60 rfl (lv_at hl 0 rfl) ?_
          refine va_get (D := (dC, dI)) (ci := 8) (C := RX8) (T := TX8) (N := 47) hx hb hts (fun _ h => List.mem_cons_of_mem _ (List.mem_append_right _ h)) hown hK hP 0 rfl rfl 20 (by decide) (hts (.fieldLink RX8 44 "SkewBoardModel" "now" "[I") (List.mem_of_getElem? (i := 1) rfl)) (fun _ h9 => h9) rfl dX8_raise_61 ?_
          refine lv_aload_n hx hb dX8_raise_64 rfl (lv_at hl 0 rfl) ?_
          refine va_get (D := (dC, dI)) (ci := 8) (C := RX8) (T := TX8) (N := 47) hx hb hts (fun _ h => List.mem_cons_of_mem _ (List.mem_append_right _ h)) hown hK hP 0 rfl rfl 22 (by decide) (hts (.fieldLink RX8 181 "SkewBoardModel" "box" "I") (List.mem_of_getElem? (i := 2) rfl)) (fun _ h9 => h9) rfl dX8_raise_65 ?_
          refine lv_dup2_11 hx hb dX8_raise_68 rfl rfl ?_
          refine va_iald hx hb hK hP 12 0 rfl rfl (inb_vp g_2) dX8_raise_69 ?_
          refine lv_iconst (v := 1) hx hb dX8_raise_70 (by decide) ?_
          refine lv_iadd hx hb dX8_raise_71 ?_
          refine va_iast hx hb hK hP hD hS 12 0 rfl rfl (inb_vp g_2) dX8_raise_72 (fun H locs hP hD hS => ?_)
          have hP : va_P (dC, dI) vwCl (wX8 cI cB cE a v_boards v_kind v_rows v_outer v_inner v_content v_boxes v_rowOf v_columnOf v_seen v_seenWhat v_seenCan v_pageLength v_page v_isWhole v_newKind v_newRows v_newOuter v_newInner v_newContent (upd v_now_17 v_box.toNatClampNeg ((v_now_17 v_box.toNatClampNeg) + 1)) r_1 v_box v_isCounted v_counted v_given v_isTermed v_terms v_term v_shape v_readBoxes v_readRow v_readColumn v_grid v_often v_seedNow v_isKept v_keptBoard v_keptKind v_keptRows v_keptSeen v_keptOuter v_keptInner v_keptContent v_keptWhat v_keptCan v_h) H := hP
          have hD : va_D A (wX8 cI cB cE a v_boards v_kind v_rows v_outer v_inner v_content v_boxes v_rowOf v_columnOf v_seen v_seenWhat v_seenCan v_pageLength v_page v_isWhole v_newKind v_newRows v_newOuter v_newInner v_newContent (upd v_now_17 v_box.toNatClampNeg ((v_now_17 v_box.toNatClampNeg) + 1)) r_1 v_box v_isCounted v_counted v_given v_isTermed v_terms v_term v_shape v_readBoxes v_readRow v_readColumn v_grid v_often v_seedNow v_isKept v_keptBoard v_keptKind v_keptRows v_keptSeen v_keptOuter v_keptInner v_keptContent v_keptWhat v_keptCan v_h) := hD
          refine lv_goto (tgt := 17) hx hb dX8_raise_73 (by decide) ?_
          exact ih17 (upd v_now_17 v_box.toNatClampNeg ((v_now_17 v_box.toNatClampNeg) + 1)) hf _ _ hP hD hS ls (lv_sub hl [0] rfl)
        refine lv_if_eq (tgt := 60) hx hb dX8_raise_46 (by decide) (fun c_7 => ?_) (fun c_7 => ?_)
        · rw [if_pos c_7] at hf
          exact J60 () hf _ _ hP hD hS ls (lv_sub hl [0] rfl)
        · rw [if_neg c_7] at hf
          refine lv_aload_n hx hb dX8_raise_49 rfl (lv_at hl 0 rfl) ?_
          refine lv_aload_n hx hb dX8_raise_50 rfl (lv_at hl 0 rfl) ?_
          refine va_get (D := (dC, dI)) (ci := 8) (C := RX8) (T := TX8) (N := 47) hx hb hts (fun _ h => List.mem_cons_of_mem _ (List.mem_append_right _ h)) hown hK hP 0 rfl rfl 22 (by decide) (hts (.fieldLink RX8 181 "SkewBoardModel" "box" "I") (List.mem_of_getElem? (i := 2) rfl)) (fun _ h9 => h9) rfl dX8_raise_51 ?_
          obtain ⟨r_8, hr_8, hf⟩ := bd_some hf
          refine cx_runW (cx_V (As := [.int v_box]) (rest := []) ⟨hx, hb, hml, hown, hts⟩ (ctX8_fits l z dC dI cI cB cE a v_boards v_kind v_rows v_outer v_inner v_content v_boxes v_rowOf v_columnOf v_seen v_seenWhat v_seenCan v_pageLength v_page v_isWhole v_newKind v_newRows v_newOuter v_newInner v_newContent v_now_17 r_1 v_box v_isCounted v_counted v_given v_isTermed v_terms v_term v_shape v_readBoxes v_readRow v_readColumn v_grid v_often v_seedNow v_isKept v_keptBoard v_keptKind v_keptRows v_keptSeen v_keptOuter v_keptInner v_keptContent v_keptWhat v_keptCan v_h v_box r_8 hr_8) (cwV 1 hts gX8_raise_X8_fits rfl rfl rfl (by decide +kernel) ⟨Nat.le_of_ble_eq_true rfl, Nat.le_of_ble_eq_true rfl⟩) hK hP hD hZ hS hA (ci := 8) (q0 := 0) rfl rfl rfl hl.1 rfl (Nat.le_of_ble_eq_true rfl) dX8_raise_54) hD hS hA [.int r_8] rfl (fun H locs hP hD hS => ?_)
          refine lv_if_ne (tgt := 76) hx hb dX8_raise_57 (by decide) (fun c_9 => ?_) (fun c_9 => ?_)
          · rw [if_neg c_9] at hf
            exact J76 v_now_17 hf _ _ hP hD hS ls (lv_sub hl [0] rfl)
          · rw [if_pos c_9] at hf
            exact J60 () hf _ _ hP hD hS ls (lv_sub hl [0] rfl)
  exact L17 fu (upd v_now v_box.toNatClampNeg ((v_now v_box.toNatClampNeg) + 1)) hf _ _ hP hD hS ls (lv_sub hl [0] rfl)

def fX8_next_J68 (v_now_68 : Nat → Int32) (v_left_68 : Nat → Int32) (v_box_68 : Int32) : Option (Int32 × (Nat → Int32) × (Nat → Int32) × Int32) :=
    some (1, v_now_68, v_left_68, v_box_68)
def fX8_next_L0 (v_kind : Int32) (v_rows : Int32) (v_boxes : Int32) (v_rowOf : Nat → Int32) (v_columnOf : Nat → Int32) (k68 : (Nat → Int32) → (Nat → Int32) → Int32 → Option (Int32 × (Nat → Int32) × (Nat → Int32) × Int32)) : Nat → (Nat → Int32) → (Nat → Int32) → Int32 → Option (Int32 × (Nat → Int32) × (Nat → Int32) × Int32)
  | 0, _, _, _ => none
  | n + 1, v_now_0, v_left_0, v_box_0 =>
    if v_box_0 < 0 then (some (0, v_now_0, v_left_0, v_box_0)) else (bd (fX8_raise v_kind v_rowOf v_columnOf v_now_0 v_left_0 v_box_0) (fun r_2 => if r_2.1 = 0 then (fX8_next_L0 v_kind v_rows v_boxes v_rowOf v_columnOf k68 n r_2.2.1 r_2.2.2 (v_box_0 - 1)) else (if (v_boxes - 1) ≤ v_box_0 then (if v_kind = 2 then (bd (fX8_isLattice v_rows v_boxes v_rowOf r_2.2.1) (fun r_6 => if r_6 = 0 then (fX8_next_L0 v_kind v_rows v_boxes v_rowOf v_columnOf k68 n r_2.2.1 r_2.2.2 v_box_0) else (k68 r_2.2.1 r_2.2.2 v_box_0))) else (k68 r_2.2.1 r_2.2.2 v_box_0)) else (fX8_next_L0 v_kind v_rows v_boxes v_rowOf v_columnOf k68 n r_2.2.1 r_2.2.2 (v_box_0 + 1)))))
def fX8_next (v_kind : Int32) (v_rows : Int32) (v_boxes : Int32) (v_rowOf : Nat → Int32) (v_columnOf : Nat → Int32) (v_now : Nat → Int32) (v_left : Nat → Int32) (v_box : Int32) : Option (Int32 × (Nat → Int32) × (Nat → Int32) × Int32) :=
  fX8_next_L0 v_kind v_rows v_boxes v_rowOf v_columnOf fX8_next_J68 fu v_now v_left v_box
def rmX8_next : Room := { frames := 3, cells := 0, slots := 0, locals := 65 }
set_option maxRecDepth 100000 in
set_option maxHeartbeats 4000000 in
theorem ctX8_next (l : Launch) (z : Nat × Nat × Nat) (dC : Nat → ClassId) (dI : Nat → Nat → Nat) (cI cB cE : ClassId) (a : Nat → Nat) (v_boards : Int32) (v_kind : Int32) (v_rows : Int32) (v_outer : Nat → Int32) (v_inner : Nat → Int32) (v_content : Nat → Int32) (v_boxes : Int32) (v_rowOf : Nat → Int32) (v_columnOf : Nat → Int32) (v_seen : Int32) (v_seenWhat : Nat → Int32) (v_seenCan : Nat → Int32) (v_pageLength : Int32) (v_page : Nat → Int32) (v_isWhole : Int32) (v_newKind : Int32) (v_newRows : Int32) (v_newOuter : Nat → Int32) (v_newInner : Nat → Int32) (v_newContent : Nat → Int32) (v_now : Nat → Int32) (v_left : Nat → Int32) (v_box : Int32) (v_isCounted : Int32) (v_counted : Int32) (v_given : Nat → Int32) (v_isTermed : Int32) (v_terms : Int32) (v_term : Nat → Int32) (v_shape : Nat → Int32) (v_readBoxes : Int32) (v_readRow : Nat → Int32) (v_readColumn : Nat → Int32) (v_grid : Nat → Int32) (v_often : Nat → Int32) (v_seedNow : Int64) (v_isKept : Int32) (v_keptBoard : Int32) (v_keptKind : Int32) (v_keptRows : Int32) (v_keptSeen : Int32) (v_keptOuter : Nat → Int32) (v_keptInner : Nat → Int32) (v_keptContent : Nat → Int32) (v_keptWhat : Nat → Int32) (v_keptCan : Nat → Int32) (v_h : Int64) (fin : Int32 × (Nat → Int32) × (Nat → Int32) × Int32) (hf : fX8_next v_kind v_rows v_boxes v_rowOf v_columnOf v_now v_left v_box = some fin) : Ct l z (dC, dI) (tyL cI cB cE) yX8_next wsX8_next rmX8_next [.ref (a 0)] (wX8 cI cB cE a v_boards v_kind v_rows v_outer v_inner v_content v_boxes v_rowOf v_columnOf v_seen v_seenWhat v_seenCan v_pageLength v_page v_isWhole v_newKind v_newRows v_newOuter v_newInner v_newContent v_now v_left v_box v_isCounted v_counted v_given v_isTermed v_terms v_term v_shape v_readBoxes v_readRow v_readColumn v_grid v_often v_seedNow v_isKept v_keptBoard v_keptKind v_keptRows v_keptSeen v_keptOuter v_keptInner v_keptContent v_keptWhat v_keptCan v_h) (some (.int fin.1)) (wX8 cI cB cE a v_boards v_kind v_rows v_outer v_inner v_content v_boxes v_rowOf v_columnOf v_seen v_seenWhat v_seenCan v_pageLength v_page v_isWhole v_newKind v_newRows v_newOuter v_newInner v_newContent fin.2.1 fin.2.2.1 fin.2.2.2 v_isCounted v_counted v_given v_isTermed v_terms v_term v_shape v_readBoxes v_readRow v_readColumn v_grid v_often v_seedNow v_isKept v_keptBoard v_keptKind v_keptRows v_keptSeen v_keptOuter v_keptInner v_keptContent v_keptWhat v_keptCan v_h) := by
  refine Met.ofC (cc := cX8_next) (maxL := 1) (ret := (some .boolean)) (by decide) rfl (Nat.le_of_ble_eq_true rfl) ?_
  intro p e s m args below meth c A Q ls hx hb hr hml hts hown hlocks hA hK hP hD hZ hS hQ hl
  have hown : s.vm.findClass RX8 = some m.cls := hown
  have hl : lv_has ls 1 [(0, .ref (a 0))] := hl
  unfold fX8_next at hf
  have J68 : ∀ (v_now_68 : Nat → Int32) (v_left_68 : Nat → Int32) (v_box_68 : Int32), fX8_next_J68  v_now_68 v_left_68 v_box_68 = some fin → ∀ (H : Heap) (locs : List Loc), va_P (dC, dI) vwCl (wX8 cI cB cE a v_boards v_kind v_rows v_outer v_inner v_content v_boxes v_rowOf v_columnOf v_seen v_seenWhat v_seenCan v_pageLength v_page v_isWhole v_newKind v_newRows v_newOuter v_newInner v_newContent v_now_68 v_left_68 v_box_68 v_isCounted v_counted v_given v_isTermed v_terms v_term v_shape v_readBoxes v_readRow v_readColumn v_grid v_often v_seedNow v_isKept v_keptBoard v_keptKind v_keptRows v_keptSeen v_keptOuter v_keptInner v_keptContent v_keptWhat v_keptCan v_h) H → va_D A (wX8 cI cB cE a v_boards v_kind v_rows v_outer v_inner v_content v_boxes v_rowOf v_columnOf v_seen v_seenWhat v_seenCan v_pageLength v_page v_isWhole v_newKind v_newRows v_newOuter v_newInner v_newContent v_now_68 v_left_68 v_box_68 v_isCounted v_counted v_given v_isTermed v_terms v_term v_shape v_readBoxes v_readRow v_readColumn v_grid v_often v_seedNow v_isKept v_keptBoard v_keptKind v_keptRows v_keptSeen v_keptOuter v_keptInner v_keptContent v_keptWhat v_keptCan v_h) → va_S A s.heap H locs → ∀ (ls : Array Slot), lv_has ls 1 [] → W p l e rmX8_next s m args below meth c H locs 0 0 Q (F0 m 68 ls []) := by
    intro v_now_68 v_left_68 v_box_68 hf H locs hP hD hS ls hl
    unfold fX8_next_J68 at hf
    refine lv_iconst (v := 1) hx hb dX8_next_68 (by decide) ?_
    have hQ2 := hQ
    rw [← Option.some.inj hf] at hQ2
    exact cx_zret rfl hQ2 hx hb hr hlocks hK hP hD hS dX8_next_69
  have L0 : ∀ (n0 : Nat) (v_now_0 : Nat → Int32) (v_left_0 : Nat → Int32) (v_box_0 : Int32), fX8_next_L0 v_kind v_rows v_boxes v_rowOf v_columnOf (fX8_next_J68) n0 v_now_0 v_left_0 v_box_0 = some fin → ∀ (H : Heap) (locs : List Loc), va_P (dC, dI) vwCl (wX8 cI cB cE a v_boards v_kind v_rows v_outer v_inner v_content v_boxes v_rowOf v_columnOf v_seen v_seenWhat v_seenCan v_pageLength v_page v_isWhole v_newKind v_newRows v_newOuter v_newInner v_newContent v_now_0 v_left_0 v_box_0 v_isCounted v_counted v_given v_isTermed v_terms v_term v_shape v_readBoxes v_readRow v_readColumn v_grid v_often v_seedNow v_isKept v_keptBoard v_keptKind v_keptRows v_keptSeen v_keptOuter v_keptInner v_keptContent v_keptWhat v_keptCan v_h) H → va_D A (wX8 cI cB cE a v_boards v_kind v_rows v_outer v_inner v_content v_boxes v_rowOf v_columnOf v_seen v_seenWhat v_seenCan v_pageLength v_page v_isWhole v_newKind v_newRows v_newOuter v_newInner v_newContent v_now_0 v_left_0 v_box_0 v_isCounted v_counted v_given v_isTermed v_terms v_term v_shape v_readBoxes v_readRow v_readColumn v_grid v_often v_seedNow v_isKept v_keptBoard v_keptKind v_keptRows v_keptSeen v_keptOuter v_keptInner v_keptContent v_keptWhat v_keptCan v_h) → va_S A s.heap H locs → ∀ (ls : Array Slot), lv_has ls 1 [(0, .ref (a 0))] → W p l e rmX8_next s m args below meth c H locs 0 0 Q (F0 m 0 ls []) := by
    intro n0
    induction n0 with
    | zero =>
      intro v_now_0 v_left_0 v_box_0 hf
      rw [fX8_next_L0] at hf
      cases hf
    | succ n0 ih0 =>
      intro v_now_0 v_left_0 v_box_0 hf H locs hP hD hS ls hl
      rw [fX8_next_L0] at hf
      refine lv_aload_n hx hb dX8_next_0 rfl (lv_at hl 0 rfl) ?_
      refine va_get (D := (dC, dI)) (ci := 8) (C := RX8) (T := TX8) (N := 47) hx hb hts (fun _ h => List.mem_cons_of_mem _ (List.mem_append_right _ h)) hown hK hP 0 rfl rfl 22 (by decide) (hts (.fieldLink RX8 181 "SkewBoardModel" "box" "I") (List.mem_of_getElem? (i := 1) rfl)) (fun _ h9 => h9) rfl dX8_next_1 ?_
      refine lv_if_lt (tgt := 70) hx hb dX8_next_4 (by decide) (fun c_1 => ?_) (fun c_1 => ?_)
      · rw [if_pos c_1] at hf
        refine lv_iconst (v := 0) hx hb dX8_next_70 (by decide) ?_
        have hQ2 := hQ
        rw [← Option.some.inj hf] at hQ2
        exact cx_zret rfl hQ2 hx hb hr hlocks hK hP hD hS dX8_next_71
      · rw [if_neg c_1] at hf
        refine lv_aload_n hx hb dX8_next_7 rfl (lv_at hl 0 rfl) ?_
        obtain ⟨r_2, hr_2, hf⟩ := bd_some hf
        refine cx_runW (cx_V (As := []) (rest := []) ⟨hx, hb, hml, hown, hts⟩ (ctX8_raise l z dC dI cI cB cE a v_boards v_kind v_rows v_outer v_inner v_content v_boxes v_rowOf v_columnOf v_seen v_seenWhat v_seenCan v_pageLength v_page v_isWhole v_newKind v_newRows v_newOuter v_newInner v_newContent v_now_0 v_left_0 v_box_0 v_isCounted v_counted v_given v_isTermed v_terms v_term v_shape v_readBoxes v_readRow v_readColumn v_grid v_often v_seedNow v_isKept v_keptBoard v_keptKind v_keptRows v_keptSeen v_keptOuter v_keptInner v_keptContent v_keptWhat v_keptCan v_h r_2 hr_2) (cwV 0 hts gX8_next_X8_raise rfl rfl rfl (by decide +kernel) ⟨Nat.le_of_ble_eq_true rfl, Nat.le_of_ble_eq_true rfl⟩) hK hP hD hZ hS hA (ci := 8) (q0 := 0) rfl rfl rfl hl.1 rfl (Nat.le_of_ble_eq_true rfl) dX8_next_8) hD hS hA [.int r_2.1] rfl (fun H locs hP hD hS => ?_)
        refine lv_if_ne (tgt := 27) hx hb dX8_next_11 (by decide) (fun c_3 => ?_) (fun c_3 => ?_)
        · rw [if_neg c_3] at hf
          refine lv_aload_n hx hb dX8_next_27 rfl (lv_at hl 0 rfl) ?_
          refine va_get (D := (dC, dI)) (ci := 8) (C := RX8) (T := TX8) (N := 47) hx hb hts (fun _ h => List.mem_cons_of_mem _ (List.mem_append_right _ h)) hown hK hP 0 rfl rfl 22 (by decide) (hts (.fieldLink RX8 181 "SkewBoardModel" "box" "I") (List.mem_of_getElem? (i := 1) rfl)) (fun _ h9 => h9) rfl dX8_next_28 ?_
          refine lv_aload_n hx hb dX8_next_31 rfl (lv_at hl 0 rfl) ?_
          refine va_get (D := (dC, dI)) (ci := 8) (C := RX8) (T := TX8) (N := 47) hx hb hts (fun _ h => List.mem_cons_of_mem _ (List.mem_append_right _ h)) hown hK hP 0 rfl rfl 6 (by decide) (hts (.fieldLink RX8 124 "SkewBoardModel" "boxes" "I") (List.mem_of_getElem? (i := 2) rfl)) (fun _ h9 => h9) rfl dX8_next_32 ?_
          refine lv_iconst (v := 1) hx hb dX8_next_35 (by decide) ?_
          refine lv_isub hx hb dX8_next_36 ?_
          refine lv_icmp_ge (tgt := 53) hx hb dX8_next_37 (by decide) (fun c_4 => ?_) (fun c_4 => ?_)
          · rw [if_pos c_4] at hf
            refine lv_aload_n hx hb dX8_next_53 rfl (lv_at hl 0 rfl) ?_
            refine va_get (D := (dC, dI)) (ci := 8) (C := RX8) (T := TX8) (N := 47) hx hb hts (fun _ h => List.mem_cons_of_mem _ (List.mem_append_right _ h)) hown hK hP 0 rfl rfl 1 (by decide) (hts (.fieldLink RX8 139 "SkewBoardModel" "kind" "I") (List.mem_of_getElem? (i := 3) rfl)) (fun _ h9 => h9) rfl dX8_next_54 ?_
            refine lv_iconst (v := 2) hx hb dX8_next_57 (by decide) ?_
            refine lv_icmp_ne (tgt := 68) hx hb dX8_next_58 (by decide) (fun c_5 => ?_) (fun c_5 => ?_)
            · rw [if_neg c_5] at hf
              exact J68 r_2.2.1 r_2.2.2 v_box_0 hf _ _ hP hD hS ls (lv_sub hl [] rfl)
            · rw [if_pos c_5] at hf
              refine lv_aload_n hx hb dX8_next_61 rfl (lv_at hl 0 rfl) ?_
              obtain ⟨r_6, hr_6, hf⟩ := bd_some hf
              refine cx_runW (cx_V (As := []) (rest := []) ⟨hx, hb, hml, hown, hts⟩ (ctX8_isLattice l z dC dI cI cB cE a v_boards v_kind v_rows v_outer v_inner v_content v_boxes v_rowOf v_columnOf v_seen v_seenWhat v_seenCan v_pageLength v_page v_isWhole v_newKind v_newRows v_newOuter v_newInner v_newContent r_2.2.1 r_2.2.2 v_box_0 v_isCounted v_counted v_given v_isTermed v_terms v_term v_shape v_readBoxes v_readRow v_readColumn v_grid v_often v_seedNow v_isKept v_keptBoard v_keptKind v_keptRows v_keptSeen v_keptOuter v_keptInner v_keptContent v_keptWhat v_keptCan v_h r_6 hr_6) (cwV 0 hts gX8_next_X8_isLattice rfl rfl rfl (by decide +kernel) ⟨Nat.le_of_ble_eq_true rfl, Nat.le_of_ble_eq_true rfl⟩) hK hP hD hZ hS hA (ci := 8) (q0 := 0) rfl rfl rfl hl.1 rfl (Nat.le_of_ble_eq_true rfl) dX8_next_62) hD hS hA [.int r_6] rfl (fun H locs hP hD hS => ?_)
              refine lv_if_eq (tgt := 0) hx hb dX8_next_65 (by decide) (fun c_7 => ?_) (fun c_7 => ?_)
              · rw [if_pos c_7] at hf
                exact ih0 r_2.2.1 r_2.2.2 v_box_0 hf _ _ hP hD hS ls (lv_sub hl [0] rfl)
              · rw [if_neg c_7] at hf
                exact J68 r_2.2.1 r_2.2.2 v_box_0 hf _ _ hP hD hS ls (lv_sub hl [] rfl)
          · rw [if_neg c_4] at hf
            refine lv_aload_n hx hb dX8_next_40 rfl (lv_at hl 0 rfl) ?_
            refine lv_dup hx hb dX8_next_41 rfl ?_
            refine va_get (D := (dC, dI)) (ci := 8) (C := RX8) (T := TX8) (N := 47) hx hb hts (fun _ h => List.mem_cons_of_mem _ (List.mem_append_right _ h)) hown hK hP 0 rfl rfl 22 (by decide) (hts (.fieldLink RX8 181 "SkewBoardModel" "box" "I") (List.mem_of_getElem? (i := 1) rfl)) (fun _ h9 => h9) rfl dX8_next_42 ?_
            refine lv_iconst (v := 1) hx hb dX8_next_45 (by decide) ?_
            refine lv_iadd hx hb dX8_next_46 ?_
            refine va_put (D := (dC, dI)) (ci := 8) (v := .int (v_box_0 + 1)) (ty := .int) (C := RX8) (T := TX8) (N := 47) hx hb hts (fun _ h => List.mem_cons_of_mem _ (List.mem_append_right _ h)) tyX8 tyX8_ok nmX8 hown hK hP hD hS 0 rfl rfl 22 (by decide) (hts (.fieldLink RX8 181 "SkewBoardModel" "box" "I") (List.mem_of_getElem? (i := 1) rfl)) (fun _ h9 => h9) rfl (by decide +kernel) rfl rfl (Nat.le_of_ble_eq_true rfl) dX8_next_47 (fun H locs hP hD hS => ?_)
            have hP : va_P (dC, dI) vwCl (wX8 cI cB cE a v_boards v_kind v_rows v_outer v_inner v_content v_boxes v_rowOf v_columnOf v_seen v_seenWhat v_seenCan v_pageLength v_page v_isWhole v_newKind v_newRows v_newOuter v_newInner v_newContent r_2.2.1 r_2.2.2 (v_box_0 + 1) v_isCounted v_counted v_given v_isTermed v_terms v_term v_shape v_readBoxes v_readRow v_readColumn v_grid v_often v_seedNow v_isKept v_keptBoard v_keptKind v_keptRows v_keptSeen v_keptOuter v_keptInner v_keptContent v_keptWhat v_keptCan v_h) H := hP
            have hD : va_D A (wX8 cI cB cE a v_boards v_kind v_rows v_outer v_inner v_content v_boxes v_rowOf v_columnOf v_seen v_seenWhat v_seenCan v_pageLength v_page v_isWhole v_newKind v_newRows v_newOuter v_newInner v_newContent r_2.2.1 r_2.2.2 (v_box_0 + 1) v_isCounted v_counted v_given v_isTermed v_terms v_term v_shape v_readBoxes v_readRow v_readColumn v_grid v_often v_seedNow v_isKept v_keptBoard v_keptKind v_keptRows v_keptSeen v_keptOuter v_keptInner v_keptContent v_keptWhat v_keptCan v_h) := hD
            refine lv_goto (tgt := 0) hx hb dX8_next_50 (by decide) ?_
            exact ih0 r_2.2.1 r_2.2.2 (v_box_0 + 1) hf _ _ hP hD hS ls (lv_sub hl [0] rfl)
        · rw [if_pos c_3] at hf
          refine lv_aload_n hx hb dX8_next_14 rfl (lv_at hl 0 rfl) ?_
          refine lv_dup hx hb dX8_next_15 rfl ?_
          refine va_get (D := (dC, dI)) (ci := 8) (C := RX8) (T := TX8) (N := 47) hx hb hts (fun _ h => List.mem_cons_of_mem _ (List.mem_append_right _ h)) hown hK hP 0 rfl rfl 22 (by decide) (hts (.fieldLink RX8 181 "SkewBoardModel" "box" "I") (List.mem_of_getElem? (i := 1) rfl)) (fun _ h9 => h9) rfl dX8_next_16 ?_
          refine lv_iconst (v := 1) hx hb dX8_next_19 (by decide) ?_
          refine lv_isub hx hb dX8_next_20 ?_
          refine va_put (D := (dC, dI)) (ci := 8) (v := .int (v_box_0 - 1)) (ty := .int) (C := RX8) (T := TX8) (N := 47) hx hb hts (fun _ h => List.mem_cons_of_mem _ (List.mem_append_right _ h)) tyX8 tyX8_ok nmX8 hown hK hP hD hS 0 rfl rfl 22 (by decide) (hts (.fieldLink RX8 181 "SkewBoardModel" "box" "I") (List.mem_of_getElem? (i := 1) rfl)) (fun _ h9 => h9) rfl (by decide +kernel) rfl rfl (Nat.le_of_ble_eq_true rfl) dX8_next_21 (fun H locs hP hD hS => ?_)
          have hP : va_P (dC, dI) vwCl (wX8 cI cB cE a v_boards v_kind v_rows v_outer v_inner v_content v_boxes v_rowOf v_columnOf v_seen v_seenWhat v_seenCan v_pageLength v_page v_isWhole v_newKind v_newRows v_newOuter v_newInner v_newContent r_2.2.1 r_2.2.2 (v_box_0 - 1) v_isCounted v_counted v_given v_isTermed v_terms v_term v_shape v_readBoxes v_readRow v_readColumn v_grid v_often v_seedNow v_isKept v_keptBoard v_keptKind v_keptRows v_keptSeen v_keptOuter v_keptInner v_keptContent v_keptWhat v_keptCan v_h) H := hP
          have hD : va_D A (wX8 cI cB cE a v_boards v_kind v_rows v_outer v_inner v_content v_boxes v_rowOf v_columnOf v_seen v_seenWhat v_seenCan v_pageLength v_page v_isWhole v_newKind v_newRows v_newOuter v_newInner v_newContent r_2.2.1 r_2.2.2 (v_box_0 - 1) v_isCounted v_counted v_given v_isTermed v_terms v_term v_shape v_readBoxes v_readRow v_readColumn v_grid v_often v_seedNow v_isKept v_keptBoard v_keptKind v_keptRows v_keptSeen v_keptOuter v_keptInner v_keptContent v_keptWhat v_keptCan v_h) := hD
          refine lv_goto (tgt := 0) hx hb dX8_next_24 (by decide) ?_
          exact ih0 r_2.2.1 r_2.2.2 (v_box_0 - 1) hf _ _ hP hD hS ls (lv_sub hl [0] rfl)
  exact L0 fu v_now v_left v_box hf _ _ hP hD hS ls (lv_sub hl [0] rfl)

def fX8_ways_J77 (v_now_77 : Nat → Int32) (v_left_77 : Nat → Int32) (v_box_77 : Int32) (v_isCounted_77 : Int32) (v_counted_77 : Int32) : Option (Int32 × (Nat → Int32) × (Nat → Int32) × Int32 × Int32 × Int32) :=
    some (v_counted_77, v_now_77, v_left_77, v_box_77, v_isCounted_77, v_counted_77)
def fX8_ways_L39 (v_kind : Int32) (v_rows : Int32) (v_content : Nat → Int32) (v_boxes : Int32) (v_rowOf : Nat → Int32) (v_columnOf : Nat → Int32) (k77 : (Nat → Int32) → (Nat → Int32) → Int32 → Int32 → Int32 → Option (Int32 × (Nat → Int32) × (Nat → Int32) × Int32 × Int32 × Int32)) : Nat → (Nat → Int32) → (Nat → Int32) → Int32 → Int32 → Option (Int32 × (Nat → Int32) × (Nat → Int32) × Int32 × Int32 × Int32)
  | 0, _, _, _, _ => none
  | n + 1, v_now_39, v_left_39, v_box_39, v_counted_39 =>
    if v_boxes ≤ 0 then (k77 v_now_39 v_left_39 v_box_39 1 v_counted_39) else (bd (fX8_told v_content) (fun r_4 => if r_4 = v_boxes then (bd (fX8_next v_kind v_rows v_boxes v_rowOf v_columnOf v_now_39 v_left_39 v_box_39) (fun r_6 => if r_6.1 = 0 then (k77 r_6.2.1 r_6.2.2.1 r_6.2.2.2 1 v_counted_39) else (fX8_ways_L39 v_kind v_rows v_content v_boxes v_rowOf v_columnOf k77 n r_6.2.1 r_6.2.2.1 r_6.2.2.2 (v_counted_39 + 1)))) else (k77 v_now_39 v_left_39 v_box_39 1 v_counted_39)))
def fX8_ways_J32 (v_kind : Int32) (v_rows : Int32) (v_content : Nat → Int32) (v_boxes : Int32) (v_rowOf : Nat → Int32) (v_columnOf : Nat → Int32) (v_now : Nat → Int32) (v_left : Nat → Int32) (k77 : (Nat → Int32) → (Nat → Int32) → Int32 → Int32 → Int32 → Option (Int32 × (Nat → Int32) × (Nat → Int32) × Int32 × Int32 × Int32)) (y1_32 : Int32) : Option (Int32 × (Nat → Int32) × (Nat → Int32) × Int32 × Int32 × Int32) :=
    bd (fX8_begin v_content v_now v_left) (fun r_2 => fX8_ways_L39 v_kind v_rows v_content v_boxes v_rowOf v_columnOf k77 fu r_2.1 r_2.2.1 r_2.2.2 y1_32)
def fX8_ways_J31 (k32 : Int32 → Option (Int32 × (Nat → Int32) × (Nat → Int32) × Int32 × Int32 × Int32)) (u_31 : Unit) : Option (Int32 × (Nat → Int32) × (Nat → Int32) × Int32 × Int32 × Int32) :=
    k32 0
def fX8_ways (v_kind : Int32) (v_rows : Int32) (v_content : Nat → Int32) (v_boxes : Int32) (v_rowOf : Nat → Int32) (v_columnOf : Nat → Int32) (v_now : Nat → Int32) (v_left : Nat → Int32) (v_box : Int32) (v_isCounted : Int32) (v_counted : Int32) : Option (Int32 × (Nat → Int32) × (Nat → Int32) × Int32 × Int32 × Int32) :=
  if v_isCounted = 0 then (if v_boxes = 0 then (bd (fX8_told v_content) (fun r_9 => if r_9 = 0 then (fX8_ways_J32 v_kind v_rows v_content v_boxes v_rowOf v_columnOf v_now v_left fX8_ways_J77 1) else (fX8_ways_J31 (fX8_ways_J32 v_kind v_rows v_content v_boxes v_rowOf v_columnOf v_now v_left fX8_ways_J77) ()))) else (fX8_ways_J31 (fX8_ways_J32 v_kind v_rows v_content v_boxes v_rowOf v_columnOf v_now v_left fX8_ways_J77) ())) else (fX8_ways_J77 v_now v_left v_box v_isCounted v_counted)
def rmX8_ways : Room := { frames := 4, cells := 0, slots := 0, locals := 85 }
set_option maxRecDepth 100000 in
set_option maxHeartbeats 4000000 in
theorem ctX8_ways (l : Launch) (z : Nat × Nat × Nat) (dC : Nat → ClassId) (dI : Nat → Nat → Nat) (cI cB cE : ClassId) (a : Nat → Nat) (v_boards : Int32) (v_kind : Int32) (v_rows : Int32) (v_outer : Nat → Int32) (v_inner : Nat → Int32) (v_content : Nat → Int32) (v_boxes : Int32) (v_rowOf : Nat → Int32) (v_columnOf : Nat → Int32) (v_seen : Int32) (v_seenWhat : Nat → Int32) (v_seenCan : Nat → Int32) (v_pageLength : Int32) (v_page : Nat → Int32) (v_isWhole : Int32) (v_newKind : Int32) (v_newRows : Int32) (v_newOuter : Nat → Int32) (v_newInner : Nat → Int32) (v_newContent : Nat → Int32) (v_now : Nat → Int32) (v_left : Nat → Int32) (v_box : Int32) (v_isCounted : Int32) (v_counted : Int32) (v_given : Nat → Int32) (v_isTermed : Int32) (v_terms : Int32) (v_term : Nat → Int32) (v_shape : Nat → Int32) (v_readBoxes : Int32) (v_readRow : Nat → Int32) (v_readColumn : Nat → Int32) (v_grid : Nat → Int32) (v_often : Nat → Int32) (v_seedNow : Int64) (v_isKept : Int32) (v_keptBoard : Int32) (v_keptKind : Int32) (v_keptRows : Int32) (v_keptSeen : Int32) (v_keptOuter : Nat → Int32) (v_keptInner : Nat → Int32) (v_keptContent : Nat → Int32) (v_keptWhat : Nat → Int32) (v_keptCan : Nat → Int32) (v_h : Int64) (fin : Int32 × (Nat → Int32) × (Nat → Int32) × Int32 × Int32 × Int32) (hf : fX8_ways v_kind v_rows v_content v_boxes v_rowOf v_columnOf v_now v_left v_box v_isCounted v_counted = some fin) : Ct l z (dC, dI) (tyL cI cB cE) yX8_ways wsX8_ways rmX8_ways [.ref (a 0)] (wX8 cI cB cE a v_boards v_kind v_rows v_outer v_inner v_content v_boxes v_rowOf v_columnOf v_seen v_seenWhat v_seenCan v_pageLength v_page v_isWhole v_newKind v_newRows v_newOuter v_newInner v_newContent v_now v_left v_box v_isCounted v_counted v_given v_isTermed v_terms v_term v_shape v_readBoxes v_readRow v_readColumn v_grid v_often v_seedNow v_isKept v_keptBoard v_keptKind v_keptRows v_keptSeen v_keptOuter v_keptInner v_keptContent v_keptWhat v_keptCan v_h) (some (.int fin.1)) (wX8 cI cB cE a v_boards v_kind v_rows v_outer v_inner v_content v_boxes v_rowOf v_columnOf v_seen v_seenWhat v_seenCan v_pageLength v_page v_isWhole v_newKind v_newRows v_newOuter v_newInner v_newContent fin.2.1 fin.2.2.1 fin.2.2.2.1 fin.2.2.2.2.1 fin.2.2.2.2.2 v_given v_isTermed v_terms v_term v_shape v_readBoxes v_readRow v_readColumn v_grid v_often v_seedNow v_isKept v_keptBoard v_keptKind v_keptRows v_keptSeen v_keptOuter v_keptInner v_keptContent v_keptWhat v_keptCan v_h) := by
  refine Met.ofC (cc := cX8_ways) (maxL := 1) (ret := (some .int)) (by decide) rfl (Nat.le_of_ble_eq_true rfl) ?_
  intro p e s m args below meth c A Q ls hx hb hr hml hts hown hlocks hA hK hP hD hZ hS hQ hl
  have hown : s.vm.findClass RX8 = some m.cls := hown
  have hl : lv_has ls 1 [(0, .ref (a 0))] := hl
  unfold fX8_ways at hf
  refine lv_aload_n hx hb dX8_ways_0 rfl (lv_at hl 0 rfl) ?_
  refine va_get (D := (dC, dI)) (ci := 8) (C := RX8) (T := TX8) (N := 47) hx hb hts (fun _ h => List.mem_cons_of_mem _ (List.mem_append_right _ h)) hown hK hP 0 rfl rfl 23 (by decide) (hts (.fieldLink RX8 130 "SkewBoardModel" "isCounted" "Z") (List.mem_of_getElem? (i := 1) rfl)) (fun _ h9 => h9) rfl dX8_ways_1 ?_
  have J77 : ∀ (v_now_77 : Nat → Int32) (v_left_77 : Nat → Int32) (v_box_77 : Int32) (v_isCounted_77 : Int32) (v_counted_77 : Int32), fX8_ways_J77  v_now_77 v_left_77 v_box_77 v_isCounted_77 v_counted_77 = some fin → ∀ (H : Heap) (locs : List Loc), va_P (dC, dI) vwCl (wX8 cI cB cE a v_boards v_kind v_rows v_outer v_inner v_content v_boxes v_rowOf v_columnOf v_seen v_seenWhat v_seenCan v_pageLength v_page v_isWhole v_newKind v_newRows v_newOuter v_newInner v_newContent v_now_77 v_left_77 v_box_77 v_isCounted_77 v_counted_77 v_given v_isTermed v_terms v_term v_shape v_readBoxes v_readRow v_readColumn v_grid v_often v_seedNow v_isKept v_keptBoard v_keptKind v_keptRows v_keptSeen v_keptOuter v_keptInner v_keptContent v_keptWhat v_keptCan v_h) H → va_D A (wX8 cI cB cE a v_boards v_kind v_rows v_outer v_inner v_content v_boxes v_rowOf v_columnOf v_seen v_seenWhat v_seenCan v_pageLength v_page v_isWhole v_newKind v_newRows v_newOuter v_newInner v_newContent v_now_77 v_left_77 v_box_77 v_isCounted_77 v_counted_77 v_given v_isTermed v_terms v_term v_shape v_readBoxes v_readRow v_readColumn v_grid v_often v_seedNow v_isKept v_keptBoard v_keptKind v_keptRows v_keptSeen v_keptOuter v_keptInner v_keptContent v_keptWhat v_keptCan v_h) → va_S A s.heap H locs → ∀ (ls : Array Slot), lv_has ls 1 [(0, .ref (a 0))] → W p l e rmX8_ways s m args below meth c H locs 0 0 Q (F0 m 77 ls []) := by
    intro v_now_77 v_left_77 v_box_77 v_isCounted_77 v_counted_77 hf H locs hP hD hS ls hl
    unfold fX8_ways_J77 at hf
    refine lv_aload_n hx hb dX8_ways_77 rfl (lv_at hl 0 rfl) ?_
    refine va_get (D := (dC, dI)) (ci := 8) (C := RX8) (T := TX8) (N := 47) hx hb hts (fun _ h => List.mem_cons_of_mem _ (List.mem_append_right _ h)) hown hK hP 0 rfl rfl 24 (by decide) (hts (.fieldLink RX8 193 "SkewBoardModel" "counted" "I") (List.mem_of_getElem? (i := 3) rfl)) (fun _ h9 => h9) rfl dX8_ways_78 ?_
    have hQ2 := hQ
    rw [← Option.some.inj hf] at hQ2
    exact cx_iret hQ2 hx hb hr hlocks hK hP hD hS dX8_ways_81
  refine lv_if_ne (tgt := 77) hx hb dX8_ways_4 (by decide) (fun c_1 => ?_) (fun c_1 => ?_)
  · rw [if_neg c_1] at hf
    exact J77 v_now v_left v_box v_isCounted v_counted hf _ _ hP hD hS ls (lv_sub hl [0] rfl)
  · rw [if_pos c_1] at hf
    refine lv_aload_n hx hb dX8_ways_7 rfl (lv_at hl 0 rfl) ?_
    refine lv_iconst (v := 1) hx hb dX8_ways_8 (by decide) ?_
    refine va_put (D := (dC, dI)) (ci := 8) (v := .int 1) (ty := .boolean) (C := RX8) (T := TX8) (N := 47) hx hb hts (fun _ h => List.mem_cons_of_mem _ (List.mem_append_right _ h)) tyX8 tyX8_ok nmX8 hown hK hP hD hS 0 rfl rfl 23 (by decide) (hts (.fieldLink RX8 130 "SkewBoardModel" "isCounted" "Z") (List.mem_of_getElem? (i := 1) rfl)) (fun _ h9 => h9) rfl (by decide +kernel) rfl rfl (Nat.le_of_ble_eq_true rfl) dX8_ways_9 (fun H locs hP hD hS => ?_)
    have hP : va_P (dC, dI) vwCl (wX8 cI cB cE a v_boards v_kind v_rows v_outer v_inner v_content v_boxes v_rowOf v_columnOf v_seen v_seenWhat v_seenCan v_pageLength v_page v_isWhole v_newKind v_newRows v_newOuter v_newInner v_newContent v_now v_left v_box 1 v_counted v_given v_isTermed v_terms v_term v_shape v_readBoxes v_readRow v_readColumn v_grid v_often v_seedNow v_isKept v_keptBoard v_keptKind v_keptRows v_keptSeen v_keptOuter v_keptInner v_keptContent v_keptWhat v_keptCan v_h) H := hP
    have hD : va_D A (wX8 cI cB cE a v_boards v_kind v_rows v_outer v_inner v_content v_boxes v_rowOf v_columnOf v_seen v_seenWhat v_seenCan v_pageLength v_page v_isWhole v_newKind v_newRows v_newOuter v_newInner v_newContent v_now v_left v_box 1 v_counted v_given v_isTermed v_terms v_term v_shape v_readBoxes v_readRow v_readColumn v_grid v_often v_seedNow v_isKept v_keptBoard v_keptKind v_keptRows v_keptSeen v_keptOuter v_keptInner v_keptContent v_keptWhat v_keptCan v_h) := hD
    refine lv_aload_n hx hb dX8_ways_12 rfl (lv_at hl 0 rfl) ?_
    refine lv_aload_n hx hb dX8_ways_13 rfl (lv_at hl 0 rfl) ?_
    refine va_get (D := (dC, dI)) (ci := 8) (C := RX8) (T := TX8) (N := 47) hx hb hts (fun _ h => List.mem_cons_of_mem _ (List.mem_append_right _ h)) hown hK hP 0 rfl rfl 6 (by decide) (hts (.fieldLink RX8 124 "SkewBoardModel" "boxes" "I") (List.mem_of_getElem? (i := 2) rfl)) (fun _ h9 => h9) rfl dX8_ways_14 ?_
    have J32 : ∀ (y1_32 : Int32), fX8_ways_J32 v_kind v_rows v_content v_boxes v_rowOf v_columnOf v_now v_left (fX8_ways_J77) y1_32 = some fin → ∀ (H : Heap) (locs : List Loc), va_P (dC, dI) vwCl (wX8 cI cB cE a v_boards v_kind v_rows v_outer v_inner v_content v_boxes v_rowOf v_columnOf v_seen v_seenWhat v_seenCan v_pageLength v_page v_isWhole v_newKind v_newRows v_newOuter v_newInner v_newContent v_now v_left v_box 1 v_counted v_given v_isTermed v_terms v_term v_shape v_readBoxes v_readRow v_readColumn v_grid v_often v_seedNow v_isKept v_keptBoard v_keptKind v_keptRows v_keptSeen v_keptOuter v_keptInner v_keptContent v_keptWhat v_keptCan v_h) H → va_D A (wX8 cI cB cE a v_boards v_kind v_rows v_outer v_inner v_content v_boxes v_rowOf v_columnOf v_seen v_seenWhat v_seenCan v_pageLength v_page v_isWhole v_newKind v_newRows v_newOuter v_newInner v_newContent v_now v_left v_box 1 v_counted v_given v_isTermed v_terms v_term v_shape v_readBoxes v_readRow v_readColumn v_grid v_often v_seedNow v_isKept v_keptBoard v_keptKind v_keptRows v_keptSeen v_keptOuter v_keptInner v_keptContent v_keptWhat v_keptCan v_h) → va_S A s.heap H locs → ∀ (ls : Array Slot), lv_has ls 1 [(0, .ref (a 0))] → W p l e rmX8_ways s m args below meth c H locs 0 0 Q (F0 m 32 ls [.int y1_32, .ref (a 0)]) := by
      intro y1_32 hf H locs hP hD hS ls hl
      unfold fX8_ways_J32 at hf
      refine va_put (D := (dC, dI)) (ci := 8) (v := .int y1_32) (ty := .int) (C := RX8) (T := TX8) (N := 47) hx hb hts (fun _ h => List.mem_cons_of_mem _ (List.mem_append_right _ h)) tyX8 tyX8_ok nmX8 hown hK hP hD hS 0 rfl rfl 24 (by decide) (hts (.fieldLink RX8 193 "SkewBoardModel" "counted" "I") (List.mem_of_getElem? (i := 3) rfl)) (fun _ h9 => h9) rfl (by decide +kernel) rfl rfl (Nat.le_of_ble_eq_true rfl) dX8_ways_32 (fun H locs hP hD hS => ?_)
      have hP : va_P (dC, dI) vwCl (wX8 cI cB cE a v_boards v_kind v_rows v_outer v_inner v_content v_boxes v_rowOf v_columnOf v_seen v_seenWhat v_seenCan v_pageLength v_page v_isWhole v_newKind v_newRows v_newOuter v_newInner v_newContent v_now v_left v_box 1 y1_32 v_given v_isTermed v_terms v_term v_shape v_readBoxes v_readRow v_readColumn v_grid v_often v_seedNow v_isKept v_keptBoard v_keptKind v_keptRows v_keptSeen v_keptOuter v_keptInner v_keptContent v_keptWhat v_keptCan v_h) H := hP
      have hD : va_D A (wX8 cI cB cE a v_boards v_kind v_rows v_outer v_inner v_content v_boxes v_rowOf v_columnOf v_seen v_seenWhat v_seenCan v_pageLength v_page v_isWhole v_newKind v_newRows v_newOuter v_newInner v_newContent v_now v_left v_box 1 y1_32 v_given v_isTermed v_terms v_term v_shape v_readBoxes v_readRow v_readColumn v_grid v_often v_seedNow v_isKept v_keptBoard v_keptKind v_keptRows v_keptSeen v_keptOuter v_keptInner v_keptContent v_keptWhat v_keptCan v_h) := hD
      refine lv_aload_n hx hb dX8_ways_35 rfl (lv_at hl 0 rfl) ?_
      obtain ⟨r_2, hr_2, hf⟩ := bd_some hf
      refine cx_runW (cx_V (As := []) (rest := []) ⟨hx, hb, hml, hown, hts⟩ (ctX8_begin l z dC dI cI cB cE a v_boards v_kind v_rows v_outer v_inner v_content v_boxes v_rowOf v_columnOf v_seen v_seenWhat v_seenCan v_pageLength v_page v_isWhole v_newKind v_newRows v_newOuter v_newInner v_newContent v_now v_left v_box 1 y1_32 v_given v_isTermed v_terms v_term v_shape v_readBoxes v_readRow v_readColumn v_grid v_often v_seedNow v_isKept v_keptBoard v_keptKind v_keptRows v_keptSeen v_keptOuter v_keptInner v_keptContent v_keptWhat v_keptCan v_h r_2 hr_2) (cwV 0 hts gX8_ways_X8_begin rfl rfl rfl (by decide +kernel) ⟨Nat.le_of_ble_eq_true rfl, Nat.le_of_ble_eq_true rfl⟩) hK hP hD hZ hS hA (ci := 8) (q0 := 0) rfl rfl rfl hl.1 rfl (Nat.le_of_ble_eq_true rfl) dX8_ways_36) hD hS hA [] rfl (fun H locs hP hD hS => ?_)
      have L39 : ∀ (n39 : Nat) (v_now_39 : Nat → Int32) (v_left_39 : Nat → Int32) (v_box_39 : Int32) (v_counted_39 : Int32), fX8_ways_L39 v_kind v_rows v_content v_boxes v_rowOf v_columnOf (fX8_ways_J77) n39 v_now_39 v_left_39 v_box_39 v_counted_39 = some fin → ∀ (H : Heap) (locs : List Loc), va_P (dC, dI) vwCl (wX8 cI cB cE a v_boards v_kind v_rows v_outer v_inner v_content v_boxes v_rowOf v_columnOf v_seen v_seenWhat v_seenCan v_pageLength v_page v_isWhole v_newKind v_newRows v_newOuter v_newInner v_newContent v_now_39 v_left_39 v_box_39 1 v_counted_39 v_given v_isTermed v_terms v_term v_shape v_readBoxes v_readRow v_readColumn v_grid v_often v_seedNow v_isKept v_keptBoard v_keptKind v_keptRows v_keptSeen v_keptOuter v_keptInner v_keptContent v_keptWhat v_keptCan v_h) H → va_D A (wX8 cI cB cE a v_boards v_kind v_rows v_outer v_inner v_content v_boxes v_rowOf v_columnOf v_seen v_seenWhat v_seenCan v_pageLength v_page v_isWhole v_newKind v_newRows v_newOuter v_newInner v_newContent v_now_39 v_left_39 v_box_39 1 v_counted_39 v_given v_isTermed v_terms v_term v_shape v_readBoxes v_readRow v_readColumn v_grid v_often v_seedNow v_isKept v_keptBoard v_keptKind v_keptRows v_keptSeen v_keptOuter v_keptInner v_keptContent v_keptWhat v_keptCan v_h) → va_S A s.heap H locs → ∀ (ls : Array Slot), lv_has ls 1 [(0, .ref (a 0))] → W p l e rmX8_ways s m args below meth c H locs 0 0 Q (F0 m 39 ls []) := by
        intro n39
        induction n39 with
        | zero =>
          intro v_now_39 v_left_39 v_box_39 v_counted_39 hf
          rw [fX8_ways_L39] at hf
          cases hf
        | succ n39 ih39 =>
          intro v_now_39 v_left_39 v_box_39 v_counted_39 hf H locs hP hD hS ls hl
          rw [fX8_ways_L39] at hf
          refine lv_aload_n hx hb dX8_ways_39 rfl (lv_at hl 0 rfl) ?_
          refine va_get (D := (dC, dI)) (ci := 8) (C := RX8) (T := TX8) (N := 47) hx hb hts (fun _ h => List.mem_cons_of_mem _ (List.mem_append_right _ h)) hown hK hP 0 rfl rfl 6 (by decide) (hts (.fieldLink RX8 124 "SkewBoardModel" "boxes" "I") (List.mem_of_getElem? (i := 2) rfl)) (fun _ h9 => h9) rfl dX8_ways_40 ?_
          refine lv_if_le (tgt := 77) hx hb dX8_ways_43 (by decide) (fun c_3 => ?_) (fun c_3 => ?_)
          · rw [if_pos c_3] at hf
            exact J77 v_now_39 v_left_39 v_box_39 1 v_counted_39 hf _ _ hP hD hS ls (lv_sub hl [0] rfl)
          · rw [if_neg c_3] at hf
            refine lv_aload_n hx hb dX8_ways_46 rfl (lv_at hl 0 rfl) ?_
            obtain ⟨r_4, hr_4, hf⟩ := bd_some hf
            refine cx_runW (cx_V (As := []) (rest := []) ⟨hx, hb, hml, hown, hts⟩ (ctX8_told l z dC dI cI cB cE a v_boards v_kind v_rows v_outer v_inner v_content v_boxes v_rowOf v_columnOf v_seen v_seenWhat v_seenCan v_pageLength v_page v_isWhole v_newKind v_newRows v_newOuter v_newInner v_newContent v_now_39 v_left_39 v_box_39 1 v_counted_39 v_given v_isTermed v_terms v_term v_shape v_readBoxes v_readRow v_readColumn v_grid v_often v_seedNow v_isKept v_keptBoard v_keptKind v_keptRows v_keptSeen v_keptOuter v_keptInner v_keptContent v_keptWhat v_keptCan v_h r_4 hr_4) (cwV 0 hts gX8_ways_X8_told rfl rfl rfl (by decide +kernel) ⟨Nat.le_of_ble_eq_true rfl, Nat.le_of_ble_eq_true rfl⟩) hK hP hD hZ hS hA (ci := 8) (q0 := 0) rfl rfl rfl hl.1 rfl (Nat.le_of_ble_eq_true rfl) dX8_ways_47) hD hS hA [.int r_4] rfl (fun H locs hP hD hS => ?_)
            refine lv_aload_n hx hb dX8_ways_50 rfl (lv_at hl 0 rfl) ?_
            refine va_get (D := (dC, dI)) (ci := 8) (C := RX8) (T := TX8) (N := 47) hx hb hts (fun _ h => List.mem_cons_of_mem _ (List.mem_append_right _ h)) hown hK hP 0 rfl rfl 6 (by decide) (hts (.fieldLink RX8 124 "SkewBoardModel" "boxes" "I") (List.mem_of_getElem? (i := 2) rfl)) (fun _ h9 => h9) rfl dX8_ways_51 ?_
            refine lv_icmp_ne (tgt := 77) hx hb dX8_ways_54 (by decide) (fun c_5 => ?_) (fun c_5 => ?_)
            · rw [if_neg c_5] at hf
              exact J77 v_now_39 v_left_39 v_box_39 1 v_counted_39 hf _ _ hP hD hS ls (lv_sub hl [0] rfl)
            · rw [if_pos c_5] at hf
              refine lv_aload_n hx hb dX8_ways_57 rfl (lv_at hl 0 rfl) ?_
              obtain ⟨r_6, hr_6, hf⟩ := bd_some hf
              refine cx_runW (cx_V (As := []) (rest := []) ⟨hx, hb, hml, hown, hts⟩ (ctX8_next l z dC dI cI cB cE a v_boards v_kind v_rows v_outer v_inner v_content v_boxes v_rowOf v_columnOf v_seen v_seenWhat v_seenCan v_pageLength v_page v_isWhole v_newKind v_newRows v_newOuter v_newInner v_newContent v_now_39 v_left_39 v_box_39 1 v_counted_39 v_given v_isTermed v_terms v_term v_shape v_readBoxes v_readRow v_readColumn v_grid v_often v_seedNow v_isKept v_keptBoard v_keptKind v_keptRows v_keptSeen v_keptOuter v_keptInner v_keptContent v_keptWhat v_keptCan v_h r_6 hr_6) (cwV 0 hts gX8_ways_X8_next rfl rfl rfl (by decide +kernel) ⟨Nat.le_of_ble_eq_true rfl, Nat.le_of_ble_eq_true rfl⟩) hK hP hD hZ hS hA (ci := 8) (q0 := 0) rfl rfl rfl hl.1 rfl (Nat.le_of_ble_eq_true rfl) dX8_ways_58) hD hS hA [.int r_6.1] rfl (fun H locs hP hD hS => ?_)
              refine lv_if_eq (tgt := 77) hx hb dX8_ways_61 (by decide) (fun c_7 => ?_) (fun c_7 => ?_)
              · rw [if_pos c_7] at hf
                exact J77 r_6.2.1 r_6.2.2.1 r_6.2.2.2 1 v_counted_39 hf _ _ hP hD hS ls (lv_sub hl [0] rfl)
              · rw [if_neg c_7] at hf
                refine lv_aload_n hx hb dX8_ways_64 rfl (lv_at hl 0 rfl) ?_
                refine lv_dup hx hb dX8_ways_65 rfl ?_
                refine va_get (D := (dC, dI)) (ci := 8) (C := RX8) (T := TX8) (N := 47) hx hb hts (fun _ h => List.mem_cons_of_mem _ (List.mem_append_right _ h)) hown hK hP 0 rfl rfl 24 (by decide) (hts (.fieldLink RX8 193 "SkewBoardModel" "counted" "I") (List.mem_of_getElem? (i := 3) rfl)) (fun _ h9 => h9) rfl dX8_ways_66 ?_
                refine lv_iconst (v := 1) hx hb dX8_ways_69 (by decide) ?_
                refine lv_iadd hx hb dX8_ways_70 ?_
                refine va_put (D := (dC, dI)) (ci := 8) (v := .int (v_counted_39 + 1)) (ty := .int) (C := RX8) (T := TX8) (N := 47) hx hb hts (fun _ h => List.mem_cons_of_mem _ (List.mem_append_right _ h)) tyX8 tyX8_ok nmX8 hown hK hP hD hS 0 rfl rfl 24 (by decide) (hts (.fieldLink RX8 193 "SkewBoardModel" "counted" "I") (List.mem_of_getElem? (i := 3) rfl)) (fun _ h9 => h9) rfl (by decide +kernel) rfl rfl (Nat.le_of_ble_eq_true rfl) dX8_ways_71 (fun H locs hP hD hS => ?_)
                have hP : va_P (dC, dI) vwCl (wX8 cI cB cE a v_boards v_kind v_rows v_outer v_inner v_content v_boxes v_rowOf v_columnOf v_seen v_seenWhat v_seenCan v_pageLength v_page v_isWhole v_newKind v_newRows v_newOuter v_newInner v_newContent r_6.2.1 r_6.2.2.1 r_6.2.2.2 1 (v_counted_39 + 1) v_given v_isTermed v_terms v_term v_shape v_readBoxes v_readRow v_readColumn v_grid v_often v_seedNow v_isKept v_keptBoard v_keptKind v_keptRows v_keptSeen v_keptOuter v_keptInner v_keptContent v_keptWhat v_keptCan v_h) H := hP
                have hD : va_D A (wX8 cI cB cE a v_boards v_kind v_rows v_outer v_inner v_content v_boxes v_rowOf v_columnOf v_seen v_seenWhat v_seenCan v_pageLength v_page v_isWhole v_newKind v_newRows v_newOuter v_newInner v_newContent r_6.2.1 r_6.2.2.1 r_6.2.2.2 1 (v_counted_39 + 1) v_given v_isTermed v_terms v_term v_shape v_readBoxes v_readRow v_readColumn v_grid v_often v_seedNow v_isKept v_keptBoard v_keptKind v_keptRows v_keptSeen v_keptOuter v_keptInner v_keptContent v_keptWhat v_keptCan v_h) := hD
                refine lv_goto (tgt := 39) hx hb dX8_ways_74 (by decide) ?_
                exact ih39 r_6.2.1 r_6.2.2.1 r_6.2.2.2 (v_counted_39 + 1) hf _ _ hP hD hS ls (lv_sub hl [0] rfl)
      exact L39 fu r_2.1 r_2.2.1 r_2.2.2 y1_32 hf _ _ hP hD hS ls (lv_sub hl [0] rfl)
    have J31 : ∀ (u_31 : Unit), fX8_ways_J31 (fX8_ways_J32 v_kind v_rows v_content v_boxes v_rowOf v_columnOf v_now v_left (fX8_ways_J77)) u_31 = some fin → ∀ (H : Heap) (locs : List Loc), va_P (dC, dI) vwCl (wX8 cI cB cE a v_boards v_kind v_rows v_outer v_inner v_content v_boxes v_rowOf v_columnOf v_seen v_seenWhat v_seenCan v_pageLength v_page v_isWhole v_newKind v_newRows v_newOuter v_newInner v_newContent v_now v_left v_box 1 v_counted v_given v_isTermed v_terms v_term v_shape v_readBoxes v_readRow v_readColumn v_grid v_often v_seedNow v_isKept v_keptBoard v_keptKind v_keptRows v_keptSeen v_keptOuter v_keptInner v_keptContent v_keptWhat v_keptCan v_h) H → va_D A (wX8 cI cB cE a v_boards v_kind v_rows v_outer v_inner v_content v_boxes v_rowOf v_columnOf v_seen v_seenWhat v_seenCan v_pageLength v_page v_isWhole v_newKind v_newRows v_newOuter v_newInner v_newContent v_now v_left v_box 1 v_counted v_given v_isTermed v_terms v_term v_shape v_readBoxes v_readRow v_readColumn v_grid v_often v_seedNow v_isKept v_keptBoard v_keptKind v_keptRows v_keptSeen v_keptOuter v_keptInner v_keptContent v_keptWhat v_keptCan v_h) → va_S A s.heap H locs → ∀ (ls : Array Slot), lv_has ls 1 [(0, .ref (a 0))] → W p l e rmX8_ways s m args below meth c H locs 0 0 Q (F0 m 31 ls [.ref (a 0)]) := by
      intro u_31 hf H locs hP hD hS ls hl
      unfold fX8_ways_J31 at hf
      refine lv_iconst (v := 0) hx hb dX8_ways_31 (by decide) ?_
      exact J32 0 hf _ _ hP hD hS ls (lv_sub hl [0] rfl)
    refine lv_if_ne (tgt := 31) hx hb dX8_ways_17 (by decide) (fun c_8 => ?_) (fun c_8 => ?_)
    · rw [if_neg c_8] at hf
      exact J31 () hf _ _ hP hD hS ls (lv_sub hl [0] rfl)
    · rw [if_pos c_8] at hf
      refine lv_aload_n hx hb dX8_ways_20 rfl (lv_at hl 0 rfl) ?_
      obtain ⟨r_9, hr_9, hf⟩ := bd_some hf
      refine cx_runW (cx_V (As := []) (rest := [.ref (a 0)]) ⟨hx, hb, hml, hown, hts⟩ (ctX8_told l z dC dI cI cB cE a v_boards v_kind v_rows v_outer v_inner v_content v_boxes v_rowOf v_columnOf v_seen v_seenWhat v_seenCan v_pageLength v_page v_isWhole v_newKind v_newRows v_newOuter v_newInner v_newContent v_now v_left v_box 1 v_counted v_given v_isTermed v_terms v_term v_shape v_readBoxes v_readRow v_readColumn v_grid v_often v_seedNow v_isKept v_keptBoard v_keptKind v_keptRows v_keptSeen v_keptOuter v_keptInner v_keptContent v_keptWhat v_keptCan v_h r_9 hr_9) (cwV 0 hts gX8_ways_X8_told rfl rfl rfl (by decide +kernel) ⟨Nat.le_of_ble_eq_true rfl, Nat.le_of_ble_eq_true rfl⟩) hK hP hD hZ hS hA (ci := 8) (q0 := 0) rfl rfl rfl hl.1 rfl (Nat.le_of_ble_eq_true rfl) dX8_ways_21) hD hS hA [.int r_9, .ref (a 0)] rfl (fun H locs hP hD hS => ?_)
      refine lv_if_ne (tgt := 31) hx hb dX8_ways_24 (by decide) (fun c_10 => ?_) (fun c_10 => ?_)
      · rw [if_neg c_10] at hf
        exact J31 () hf _ _ hP hD hS ls (lv_sub hl [0] rfl)
      · rw [if_pos c_10] at hf
        refine lv_iconst (v := 1) hx hb dX8_ways_27 (by decide) ?_
        refine lv_goto (tgt := 32) hx hb dX8_ways_28 (by decide) ?_
        exact J32 1 hf _ _ hP hD hS ls (lv_sub hl [0] rfl)

