theorem f_hasFilling (p n : Int32) : fX0_hasFilling p n = some (if p < 0 then 0 else if n ≤ p then 0 else 1) := by
  unfold fX0_hasFilling fX0_hasFilling_J16 fX0_hasFilling_J17
  by_cases h1 : p < 0
  · rw [if_pos h1, if_pos h1]; rfl
  · rw [if_neg h1, if_neg h1]
    by_cases h2 : n ≤ p
    · rw [if_pos h2, if_pos h2]; rfl
    · rw [if_neg h2, if_neg h2]; rfl
theorem f_hasBox (p n : Int32) : fX1_hasBox p n = some (if p < 0 then 0 else if n ≤ p then 0 else 1) := by
  unfold fX1_hasBox fX1_hasBox_J16 fX1_hasBox_J17
  by_cases h1 : p < 0
  · rw [if_pos h1, if_pos h1]; rfl
  · rw [if_neg h1, if_neg h1]
    by_cases h2 : n ≤ p
    · rw [if_pos h2, if_pos h2]; rfl
    · rw [if_neg h2, if_neg h2]; rfl
theorem idx_cases (p : Int32) {n : Nat} (hn : n < 2 ^ 31) : ((p < 0 ∨ nI n ≤ p) ∧ (if p < 0 then (0 : Int32) else if nI n ≤ p then 0 else 1) = 0 ∧ fX8_within p 0 (nI n - 1) = some 0) ∨ ∃ r, r < n ∧ p = nI r ∧ (if p < 0 then (0 : Int32) else if nI n ≤ p then 0 else 1) = 1 ∧ fX8_within p 0 (nI n - 1) = some 1 := by
  rw [f_within]
  by_cases h1 : p < 0
  · rw [if_pos h1, if_pos h1]; exact Or.inl ⟨Or.inl h1, rfl, rfl⟩
  · obtain ⟨r, hr, rfl⟩ := nI_of h1
    rw [if_neg h1, if_neg h1]
    by_cases h2 : r < n
    · have a : ¬ nI n ≤ nI r := nI_ge h2 (by omega)
      have b : ¬ nI n - 1 < nI r := by
        rw [show (1 : Int32) = nI 1 from rfl, nI_sub (by omega)]
        exact nI_nlt (by omega) (by omega)
      rw [if_neg a, if_neg b]
      exact Or.inr ⟨r, h2, rfl, rfl, rfl⟩
    · have a : nI n ≤ nI r := nI_le (by omega) hr
      have b : nI n - 1 < nI r := by
        by_cases h0 : n = 0
        · subst h0
          rw [Int32.lt_iff_toInt_lt, nI_toInt hr, show (nI 0 - 1).toInt = -1 from by decide]
          omega
        · rw [show (1 : Int32) = nI 1 from rfl, nI_sub (by omega)]
          exact nI_lt (by omega) hr
      rw [if_pos a, if_pos b]
      exact Or.inl ⟨Or.inr a, rfl, rfl⟩
theorem nbx_0 {B : Bd} (h : bR B = 0) : nbx B = 0 := by
  unfold nbx
  rw [h]; rfl
theorem fls_0 {B : Bd} (h : bR B = 0) : fls B = [] := by
  unfold fls
  rw [if_pos (Or.inl h)]
theorem st_box (k : Nat) (v_saved : Int32) (v_boardsRead : Int32) (v_fillingsFresh : Int32) (v_productsFresh : Int32) (v_pg_codes : Nat → Int32) (v_pg_size : Int32) (v_rd_stage : Int32) (v_rd_digits : Int32) (v_rd_p_kind : Int32) (v_rd_p_rows : Int32) (v_rd_p_outer : Nat → Int32) (v_rd_p_inner : Nat → Int32) (v_rd_p_content : Nat → Int32) (v_pl_kind : Int32) (v_pl_rows : Int32) (v_pl_outer : Nat → Int32) (v_pl_inner : Nat → Int32) (v_pl_content : Nat → Int32) (v_dr_kind : Int32) (v_dr_rows : Int32) (v_dr_outer : Nat → Int32) (v_dr_inner : Nat → Int32) (v_dr_content : Nat → Int32) (v_ob_size : Int32) (v_ob_kinds : Int32) (v_sp_kind : Int32) (v_sp_rows : Int32) (v_sp_outer : Nat → Int32) (v_sp_inner : Nat → Int32) (v_sp_content : Nat → Int32) (v_so_size : Int32) (v_so_kinds : Int32) (v_fi_size : Int32) (v_fi_kind : Int32) (v_fi_codes : Nat → Int32) (v_fi_numbers : Nat → Int32) (v_fi_left : Nat → Int32) (v_fi_g_rowOf : Nat → Int32) (v_fi_g_columnOf : Nat → Int32) (v_fi_g_before : Nat → Int32) (v_fi_g_above : Nat → Int32) (v_fi_g_rowStart : Nat → Int32) (v_fi_g_size : Int32) (v_pr_size : Int32) (v_pr_multiplicitySum : Int32) (v_pr_boxes : Int32) (v_pr_inner : Nat → Int32) (v_pr_used : Nat → Int32) (v_pr_left : Nat → Int32) (v_pr_ends : Nat → Nat → Int32) (v_pr_fillingsOf : Nat → Int32) (v_pr_keys : Nat → Int32) (v_boards : Int32) (v_kind : Int32) (v_rows : Int32) (v_outer : Nat → Int32) (v_inner : Nat → Int32) (v_content : Nat → Int32) (v_boxes : Int32) (v_rowOf : Nat → Int32) (v_columnOf : Nat → Int32) (v_seen : Int32) (v_seenWhat : Nat → Int32) (v_seenCan : Nat → Int32) (v_pageLength : Int32) (v_page : Nat → Int32) (v_isWhole : Int32) (v_newKind : Int32) (v_newRows : Int32) (v_newOuter : Nat → Int32) (v_newInner : Nat → Int32) (v_newContent : Nat → Int32) (v_now : Nat → Int32) (v_left : Nat → Int32) (v_box : Int32) (v_isCounted : Int32) (v_counted : Int32) (v_given : Nat → Int32) (v_isTermed : Int32) (v_terms : Int32) (v_term : Nat → Int32) (v_shape : Nat → Int32) (v_readBoxes : Int32) (v_readRow : Nat → Int32) (v_readColumn : Nat → Int32) (v_grid : Nat → Int32) (v_often : Nat → Int32) (v_seedNow : Int64) (v_isKept : Int32) (v_keptBoard : Int32) (v_keptKind : Int32) (v_keptRows : Int32) (v_keptSeen : Int32) (v_keptOuter : Nat → Int32) (v_keptInner : Nat → Int32) (v_keptContent : Nat → Int32) (v_keptWhat : Nat → Int32) (v_keptCan : Nat → Int32) (v_h : Int64) (p1 : Int32) (p2 : Int32) (hk : k < 512) (hI : Inv k v_saved v_boardsRead v_fillingsFresh v_productsFresh v_pg_codes v_pg_size v_rd_stage v_rd_digits v_rd_p_kind v_rd_p_rows v_rd_p_outer v_rd_p_inner v_rd_p_content v_pl_kind v_pl_rows v_pl_outer v_pl_inner v_pl_content v_dr_kind v_dr_rows v_dr_outer v_dr_inner v_dr_content v_ob_size v_ob_kinds v_sp_kind v_sp_rows v_sp_outer v_sp_inner v_sp_content v_so_size v_so_kinds v_fi_size v_fi_kind v_fi_codes v_fi_numbers v_fi_left v_fi_g_rowOf v_fi_g_columnOf v_fi_g_before v_fi_g_above v_fi_g_rowStart v_fi_g_size v_pr_size v_pr_multiplicitySum v_pr_boxes v_pr_inner v_pr_used v_pr_left v_pr_ends v_pr_fillingsOf v_pr_keys v_boards v_kind v_rows v_outer v_inner v_content v_boxes v_rowOf v_columnOf v_seen v_seenWhat v_seenCan v_pageLength v_page v_isWhole v_newKind v_newRows v_newOuter v_newInner v_newContent v_now v_left v_box v_isCounted v_counted v_given v_isTermed v_terms v_term v_shape v_readBoxes v_readRow v_readColumn v_grid v_often v_seedNow v_isKept v_keptBoard v_keptKind v_keptRows v_keptSeen v_keptOuter v_keptInner v_keptContent v_keptWhat v_keptCan v_h) : ∃ (fx : Int32 × Int32 × Int32 × Int32 × (Nat → Int32) × (Nat → Int32) × (Nat → Int32) × (Nat → Int32) × (Nat → Int32) × (Nat → Int32) × (Nat → Int32) × (Nat → Int32) × Int32) (fm : Int32), fX7_box p1 p2 v_fillingsFresh v_pl_kind v_pl_rows v_pl_outer v_pl_inner v_pl_content v_fi_size v_fi_kind v_fi_codes v_fi_numbers v_fi_left v_fi_g_rowOf v_fi_g_columnOf v_fi_g_before v_fi_g_above v_fi_g_rowStart v_fi_g_size = some fx ∧ fX8_box p1 p2 v_boxes v_rowOf v_columnOf = some fm ∧ fx.1 = fm ∧ Inv (k + 1) v_saved v_boardsRead fx.2.1 v_productsFresh v_pg_codes v_pg_size v_rd_stage v_rd_digits v_rd_p_kind v_rd_p_rows v_rd_p_outer v_rd_p_inner v_rd_p_content v_pl_kind v_pl_rows v_pl_outer v_pl_inner v_pl_content v_dr_kind v_dr_rows v_dr_outer v_dr_inner v_dr_content v_ob_size v_ob_kinds v_sp_kind v_sp_rows v_sp_outer v_sp_inner v_sp_content v_so_size v_so_kinds fx.2.2.1 fx.2.2.2.1 fx.2.2.2.2.1 fx.2.2.2.2.2.1 fx.2.2.2.2.2.2.1 fx.2.2.2.2.2.2.2.1 fx.2.2.2.2.2.2.2.2.1 fx.2.2.2.2.2.2.2.2.2.1 fx.2.2.2.2.2.2.2.2.2.2.1 fx.2.2.2.2.2.2.2.2.2.2.2.1 fx.2.2.2.2.2.2.2.2.2.2.2.2 v_pr_size v_pr_multiplicitySum v_pr_boxes v_pr_inner v_pr_used v_pr_left v_pr_ends v_pr_fillingsOf v_pr_keys v_boards v_kind v_rows v_outer v_inner v_content v_boxes v_rowOf v_columnOf v_seen v_seenWhat v_seenCan v_pageLength v_page v_isWhole v_newKind v_newRows v_newOuter v_newInner v_newContent v_now v_left v_box v_isCounted v_counted v_given v_isTermed v_terms v_term v_shape v_readBoxes v_readRow v_readColumn v_grid v_often v_seedNow v_isKept v_keptBoard v_keptKind v_keptRows v_keptSeen v_keptOuter v_keptInner v_keptContent v_keptWhat v_keptCan v_h := by
  obtain ⟨pg, B, ob, sv, nbd, h1, h2, h3, h4, ⟨rfl, rfl, a1, a2, a3⟩, ⟨rfl, rfl, b1, b2, b3⟩, ⟨rfl, l1, l2⟩, h8, h9, h10, h11, h12, h13, h14, h15, h16, h17, h18, h19, h20⟩ := hI
  have n9 := h4.2.2.2.2.2.2.1
  obtain ⟨c', m', l', r', co', be', ab', rs', hF, eF⟩ := f_fresh (num := v_fi_numbers) (left := v_fi_left) h4 a1 a2 a3 h17
  have hI1 : Inv (k + 1) v_saved v_boardsRead 1 v_productsFresh v_pg_codes v_pg_size v_rd_stage v_rd_digits v_rd_p_kind v_rd_p_rows v_rd_p_outer v_rd_p_inner v_rd_p_content (nI (bK B)) (nI (bR B)) v_pl_outer v_pl_inner v_pl_content v_dr_kind v_dr_rows v_dr_outer v_dr_inner v_dr_content v_ob_size v_ob_kinds v_sp_kind v_sp_rows v_sp_outer v_sp_inner v_sp_content v_so_size v_so_kinds (nI (fls B).length) (nI (bK B)) c' m' l' r' co' be' ab' rs' (nI (nbx B)) v_pr_size v_pr_multiplicitySum v_pr_boxes v_pr_inner v_pr_used v_pr_left v_pr_ends v_pr_fillingsOf v_pr_keys v_boards (nI (bK B)) (nI (bR B)) v_outer v_inner v_content (nI (nbx B)) v_rowOf v_columnOf v_seen v_seenWhat v_seenCan v_pageLength v_page v_isWhole v_newKind v_newRows v_newOuter v_newInner v_newContent v_now v_left v_box v_isCounted v_counted v_given v_isTermed v_terms v_term v_shape v_readBoxes v_readRow v_readColumn v_grid v_often v_seedNow v_isKept v_keptBoard v_keptKind v_keptRows v_keptSeen v_keptOuter v_keptInner v_keptContent v_keptWhat v_keptCan v_h :=
    Inv_mono ⟨pg, B, ob, sv, nbd, h1, h2, h3, h4, ⟨rfl, rfl, a1, a2, a3⟩, ⟨rfl, rfl, b1, b2, b3⟩, ⟨rfl, l1, l2⟩, h8, h9, h10, h11, h12, h13, h14, h15, h16, Or.inr ⟨rfl, hF⟩, h18, h19, h20⟩
  have eX : ∀ v, (∀ r1, r1 = ((1 : Int32), nI (fls B).length, nI (bK B), c', m', l', r', co', be', ab', rs', nI (nbx B)) → bd (fX1_hasBox p1 (nI (nbx B))) (fun r_2 => if r_2 = 0 then (some ((-101 : Int32), r1)) else (if p2 < 0 then some (-102, r1) else (if p2 ≤ 1 then (if p2 = 0 then (gd (inb p1 9) (some (r' p1.toNatClampNeg, r1))) else (gd (inb p1 9) (some (co' p1.toNatClampNeg, r1)))) else some (-102, r1)))) = some (v, r1)) → fX7_box p1 p2 v_fillingsFresh (nI (bK B)) (nI (bR B)) v_pl_outer v_pl_inner v_pl_content v_fi_size v_fi_kind v_fi_codes v_fi_numbers v_fi_left v_fi_g_rowOf v_fi_g_columnOf v_fi_g_before v_fi_g_above v_fi_g_rowStart v_fi_g_size = some (v, 1, nI (fls B).length, nI (bK B), c', m', l', r', co', be', ab', rs', nI (nbx B)) := by
    intro v h
    unfold fX7_box
    rw [eF, bd_s]
    exact h _ rfl
  rcases idx_cases p1 (show nbx B < 2 ^ 31 by omega) with ⟨-, i1, i2⟩ | ⟨b, hb, rfl, i1, i2⟩
  · refine ⟨(-101, 1, nI (fls B).length, nI (bK B), c', m', l', r', co', be', ab', rs', nI (nbx B)), -101, eX _ (fun r1 _ => ?_), ?_, rfl, hI1⟩
    · rw [f_hasBox, i1]; rfl
    · unfold fX8_box
      rw [i2]; rfl
  · obtain ⟨-, ⟨-, g1, g2, -⟩, -⟩ := hF
    rcases what2 p2 with h | h | h
    · refine ⟨(-102, 1, nI (fls B).length, nI (bK B), c', m', l', r', co', be', ab', rs', nI (nbx B)), -102, eX _ (fun r1 _ => ?_), ?_, rfl, hI1⟩
      · rw [f_hasBox, i1, bd_s, if_neg (by decide)]
        by_cases q : p2 < 0
        · rw [if_pos q]
        · rw [if_neg q, if_neg (fun e => Int32.not_lt.mpr e (h.resolve_left q))]
      · unfold fX8_box
        rw [i2, bd_s, if_neg (by decide), f_within, bd_s]
        by_cases q : p2 < 0
        · rw [if_pos q]; rfl
        · rw [if_neg q, if_pos (h.resolve_left q)]; rfl
    · subst h
      refine ⟨(nI (rAt B b), 1, nI (fls B).length, nI (bK B), c', m', l', r', co', be', ab', rs', nI (nbx B)), nI (rAt B b), eX _ (fun r1 _ => ?_), ?_, rfl, hI1⟩
      · rw [f_hasBox, i1, bd_s, if_neg (by decide), if_neg (by decide), if_pos (by decide), if_pos rfl, gd_in (show b < 9 by omega) (by decide), nI_clamp (by omega), a_r g1 hb]
      · unfold fX8_box fX8_box_J52
        rw [i2, bd_s, if_neg (by decide), show fX8_within 0 0 1 = some 1 by decide, bd_s, if_neg (by decide), if_pos rfl, gd_in (show b < 9 by omega) (by decide), nI_clamp (by omega), a_r l1 hb]
    · subst h
      refine ⟨(nI (cAt B b), 1, nI (fls B).length, nI (bK B), c', m', l', r', co', be', ab', rs', nI (nbx B)), nI (cAt B b), eX _ (fun r1 _ => ?_), ?_, rfl, hI1⟩
      · rw [f_hasBox, i1, bd_s, if_neg (by decide), if_neg (by decide), if_pos (by decide), if_neg (by decide), gd_in (show b < 9 by omega) (by decide), nI_clamp (by omega), a_c g2 hb]
      · unfold fX8_box fX8_box_J52
        rw [i2, bd_s, if_neg (by decide), show fX8_within 1 0 1 = some 1 by decide, bd_s, if_neg (by decide), if_neg (by decide), gd_in (show b < 9 by omega) (by decide), nI_clamp (by omega), a_c l2 hb]
theorem st_way (k : Nat) (v_saved : Int32) (v_boardsRead : Int32) (v_fillingsFresh : Int32) (v_productsFresh : Int32) (v_pg_codes : Nat → Int32) (v_pg_size : Int32) (v_rd_stage : Int32) (v_rd_digits : Int32) (v_rd_p_kind : Int32) (v_rd_p_rows : Int32) (v_rd_p_outer : Nat → Int32) (v_rd_p_inner : Nat → Int32) (v_rd_p_content : Nat → Int32) (v_pl_kind : Int32) (v_pl_rows : Int32) (v_pl_outer : Nat → Int32) (v_pl_inner : Nat → Int32) (v_pl_content : Nat → Int32) (v_dr_kind : Int32) (v_dr_rows : Int32) (v_dr_outer : Nat → Int32) (v_dr_inner : Nat → Int32) (v_dr_content : Nat → Int32) (v_ob_size : Int32) (v_ob_kinds : Int32) (v_sp_kind : Int32) (v_sp_rows : Int32) (v_sp_outer : Nat → Int32) (v_sp_inner : Nat → Int32) (v_sp_content : Nat → Int32) (v_so_size : Int32) (v_so_kinds : Int32) (v_fi_size : Int32) (v_fi_kind : Int32) (v_fi_codes : Nat → Int32) (v_fi_numbers : Nat → Int32) (v_fi_left : Nat → Int32) (v_fi_g_rowOf : Nat → Int32) (v_fi_g_columnOf : Nat → Int32) (v_fi_g_before : Nat → Int32) (v_fi_g_above : Nat → Int32) (v_fi_g_rowStart : Nat → Int32) (v_fi_g_size : Int32) (v_pr_size : Int32) (v_pr_multiplicitySum : Int32) (v_pr_boxes : Int32) (v_pr_inner : Nat → Int32) (v_pr_used : Nat → Int32) (v_pr_left : Nat → Int32) (v_pr_ends : Nat → Nat → Int32) (v_pr_fillingsOf : Nat → Int32) (v_pr_keys : Nat → Int32) (v_boards : Int32) (v_kind : Int32) (v_rows : Int32) (v_outer : Nat → Int32) (v_inner : Nat → Int32) (v_content : Nat → Int32) (v_boxes : Int32) (v_rowOf : Nat → Int32) (v_columnOf : Nat → Int32) (v_seen : Int32) (v_seenWhat : Nat → Int32) (v_seenCan : Nat → Int32) (v_pageLength : Int32) (v_page : Nat → Int32) (v_isWhole : Int32) (v_newKind : Int32) (v_newRows : Int32) (v_newOuter : Nat → Int32) (v_newInner : Nat → Int32) (v_newContent : Nat → Int32) (v_now : Nat → Int32) (v_left : Nat → Int32) (v_box : Int32) (v_isCounted : Int32) (v_counted : Int32) (v_given : Nat → Int32) (v_isTermed : Int32) (v_terms : Int32) (v_term : Nat → Int32) (v_shape : Nat → Int32) (v_readBoxes : Int32) (v_readRow : Nat → Int32) (v_readColumn : Nat → Int32) (v_grid : Nat → Int32) (v_often : Nat → Int32) (v_seedNow : Int64) (v_isKept : Int32) (v_keptBoard : Int32) (v_keptKind : Int32) (v_keptRows : Int32) (v_keptSeen : Int32) (v_keptOuter : Nat → Int32) (v_keptInner : Nat → Int32) (v_keptContent : Nat → Int32) (v_keptWhat : Nat → Int32) (v_keptCan : Nat → Int32) (v_h : Int64) (p1 : Int32) (p2 : Int32) (hk : k < 512) (hI : Inv k v_saved v_boardsRead v_fillingsFresh v_productsFresh v_pg_codes v_pg_size v_rd_stage v_rd_digits v_rd_p_kind v_rd_p_rows v_rd_p_outer v_rd_p_inner v_rd_p_content v_pl_kind v_pl_rows v_pl_outer v_pl_inner v_pl_content v_dr_kind v_dr_rows v_dr_outer v_dr_inner v_dr_content v_ob_size v_ob_kinds v_sp_kind v_sp_rows v_sp_outer v_sp_inner v_sp_content v_so_size v_so_kinds v_fi_size v_fi_kind v_fi_codes v_fi_numbers v_fi_left v_fi_g_rowOf v_fi_g_columnOf v_fi_g_before v_fi_g_above v_fi_g_rowStart v_fi_g_size v_pr_size v_pr_multiplicitySum v_pr_boxes v_pr_inner v_pr_used v_pr_left v_pr_ends v_pr_fillingsOf v_pr_keys v_boards v_kind v_rows v_outer v_inner v_content v_boxes v_rowOf v_columnOf v_seen v_seenWhat v_seenCan v_pageLength v_page v_isWhole v_newKind v_newRows v_newOuter v_newInner v_newContent v_now v_left v_box v_isCounted v_counted v_given v_isTermed v_terms v_term v_shape v_readBoxes v_readRow v_readColumn v_grid v_often v_seedNow v_isKept v_keptBoard v_keptKind v_keptRows v_keptSeen v_keptOuter v_keptInner v_keptContent v_keptWhat v_keptCan v_h) : ∃ (fx : Int32 × Int32 × Int32 × Int32 × (Nat → Int32) × (Nat → Int32) × (Nat → Int32) × (Nat → Int32) × (Nat → Int32) × (Nat → Int32) × (Nat → Int32) × (Nat → Int32) × Int32) (fm : Int32 × (Nat → Int32) × (Nat → Int32) × Int32 × Int32 × Int32), fX7_way p1 p2 v_fillingsFresh v_pl_kind v_pl_rows v_pl_outer v_pl_inner v_pl_content v_fi_size v_fi_kind v_fi_codes v_fi_numbers v_fi_left v_fi_g_rowOf v_fi_g_columnOf v_fi_g_before v_fi_g_above v_fi_g_rowStart v_fi_g_size = some fx ∧ fX8_way p1 p2 v_kind v_rows v_content v_boxes v_rowOf v_columnOf v_now v_left v_box v_isCounted v_counted = some fm ∧ fx.1 = fm.1 ∧ Inv (k + 1) v_saved v_boardsRead fx.2.1 v_productsFresh v_pg_codes v_pg_size v_rd_stage v_rd_digits v_rd_p_kind v_rd_p_rows v_rd_p_outer v_rd_p_inner v_rd_p_content v_pl_kind v_pl_rows v_pl_outer v_pl_inner v_pl_content v_dr_kind v_dr_rows v_dr_outer v_dr_inner v_dr_content v_ob_size v_ob_kinds v_sp_kind v_sp_rows v_sp_outer v_sp_inner v_sp_content v_so_size v_so_kinds fx.2.2.1 fx.2.2.2.1 fx.2.2.2.2.1 fx.2.2.2.2.2.1 fx.2.2.2.2.2.2.1 fx.2.2.2.2.2.2.2.1 fx.2.2.2.2.2.2.2.2.1 fx.2.2.2.2.2.2.2.2.2.1 fx.2.2.2.2.2.2.2.2.2.2.1 fx.2.2.2.2.2.2.2.2.2.2.2.1 fx.2.2.2.2.2.2.2.2.2.2.2.2 v_pr_size v_pr_multiplicitySum v_pr_boxes v_pr_inner v_pr_used v_pr_left v_pr_ends v_pr_fillingsOf v_pr_keys v_boards v_kind v_rows v_outer v_inner v_content v_boxes v_rowOf v_columnOf v_seen v_seenWhat v_seenCan v_pageLength v_page v_isWhole v_newKind v_newRows v_newOuter v_newInner v_newContent fm.2.1 fm.2.2.1 fm.2.2.2.1 fm.2.2.2.2.1 fm.2.2.2.2.2 v_given v_isTermed v_terms v_term v_shape v_readBoxes v_readRow v_readColumn v_grid v_often v_seedNow v_isKept v_keptBoard v_keptKind v_keptRows v_keptSeen v_keptOuter v_keptInner v_keptContent v_keptWhat v_keptCan v_h := by
  obtain ⟨pg, B, ob, sv, nbd, h1, h2, h3, h4, ⟨rfl, rfl, a1, a2, a3⟩, ⟨rfl, rfl, b1, b2, b3⟩, ⟨rfl, l1, l2⟩, h8, h9, h10, h11, h12, h13, h14, h15, h16, h17, h18, h19, h20⟩ := hI
  have n9 := h4.2.2.2.2.2.2.1
  have b4 := fls_400 h4
  obtain ⟨c', m', l', r', co', be', ab', rs', hF, eF⟩ := f_fresh (num := v_fi_numbers) (left := v_fi_left) h4 a1 a2 a3 h17
  have eX : ∀ v, (∀ r1, r1 = ((1 : Int32), nI (fls B).length, nI (bK B), c', m', l', r', co', be', ab', rs', nI (nbx B)) → bd (fX0_hasFilling p1 (nI (fls B).length)) (fun r_2 => if r_2 = 0 then some ((-101 : Int32), r1) else (bd (fX1_hasBox p2 (nI (nbx B))) (fun r_4 => if r_4 = 0 then some (-101, r1) else (bd (fX0_numberIn p1 p2 c' (nI (nbx B))) (fun r_6 => some (r_6, r1)))))) = some (v, r1)) → fX7_way p1 p2 v_fillingsFresh (nI (bK B)) (nI (bR B)) v_pl_outer v_pl_inner v_pl_content v_fi_size v_fi_kind v_fi_codes v_fi_numbers v_fi_left v_fi_g_rowOf v_fi_g_columnOf v_fi_g_before v_fi_g_above v_fi_g_rowStart v_fi_g_size = some (v, 1, nI (fls B).length, nI (bK B), c', m', l', r', co', be', ab', rs', nI (nbx B)) := by
    intro v h
    unfold fX7_way
    rw [eF, bd_s]
    exact h _ rfl
  rcases idx_cases p2 (show nbx B < 2 ^ 31 by omega) with ⟨-, i1, i2⟩ | ⟨b, hb, rfl, i1, i2⟩
  · refine ⟨(-101, 1, nI (fls B).length, nI (bK B), c', m', l', r', co', be', ab', rs', nI (nbx B)), (-101, v_now, v_left, v_box, v_isCounted, v_counted), eX _ (fun r1 _ => ?_), ?_, rfl, Inv_mono ⟨pg, B, ob, sv, nbd, h1, h2, h3, h4, ⟨rfl, rfl, a1, a2, a3⟩, ⟨rfl, rfl, b1, b2, b3⟩, ⟨rfl, l1, l2⟩, h8, h9, h10, h11, h12, h13, h14, h15, h16, Or.inr ⟨rfl, hF⟩, h18, h19, h20⟩⟩
    · rw [f_hasFilling, f_hasBox, i1, bd_s, bd_s]
      by_cases q : (if p1 < 0 then (0 : Int32) else if nI (fls B).length ≤ p1 then 0 else 1) = 0
      · rw [if_pos q]
      · rw [if_neg q, if_pos rfl]
    · unfold fX8_way
      rw [i2]; rfl
  · have hR : bR B ≠ 0 := fun e => by rw [nbx_0 e] at hb; exact absurd hb (Nat.not_lt_zero b)
    rcases f_find h4 hR l1 l2 b3 v_now v_left v_box v_isCounted v_counted h19 p1 with ⟨nw, lf, bx, hp, ef⟩ | ⟨j, nw, lf, bx, rfl, hj, ha, ef⟩
    · refine ⟨(-101, 1, nI (fls B).length, nI (bK B), c', m', l', r', co', be', ab', rs', nI (nbx B)), (-101, nw, lf, bx, 1, nI (fls B).length), eX _ (fun r1 _ => ?_), ?_, rfl, Inv_mono ⟨pg, B, ob, sv, nbd, h1, h2, h3, h4, ⟨rfl, rfl, a1, a2, a3⟩, ⟨rfl, rfl, b1, b2, b3⟩, ⟨rfl, l1, l2⟩, h8, h9, h10, h11, h12, h13, h14, h15, h16, Or.inr ⟨rfl, hF⟩, h18, Or.inr ⟨rfl, rfl⟩, h20⟩⟩
      · rcases idx_cases p1 (show (fls B).length < 2 ^ 31 by omega) with ⟨-, j1, -⟩ | ⟨r, hr, rfl, -, -⟩
        · rw [f_hasFilling, j1]; rfl
        · exfalso
          rcases hp with hp | hp
          · exact nI_pos (by omega) hp
          · exact nI_ge hr (by omega) hp
      · unfold fX8_way
        rw [i2, bd_s, if_neg (by decide), ef]; rfl
    · have hf := fls_at hj
      refine ⟨(nI (((fls B).getD j []).getD b 0), 1, nI (fls B).length, nI (bK B), c', m', l', r', co', be', ab', rs', nI (nbx B)), (nI (((fls B).getD j []).getD b 0), nw, lf, bx, 1, nI (fls B).length), eX _ (fun r1 _ => ?_), ?_, rfl, Inv_mono ⟨pg, B, ob, sv, nbd, h1, h2, h3, h4, ⟨rfl, rfl, a1, a2, a3⟩, ⟨rfl, rfl, b1, b2, b3⟩, ⟨rfl, l1, l2⟩, h8, h9, h10, h11, h12, h13, h14, h15, h16, Or.inr ⟨rfl, hF⟩, h18, Or.inr ⟨rfl, rfl⟩, h20⟩⟩
      · rw [f_hasFilling, if_neg (nI_pos (by omega)), if_neg (nI_ge hj (by omega)), bd_s, if_neg (by decide), f_hasBox, i1, bd_s, if_neg (by decide), f_numberIn h4 hF.2.2.2 hj hb, bd_s]
      · unfold fX8_way fX8_way_J33
        rw [i2, bd_s, if_neg (by decide), ef, bd_s]
        dsimp only
        rw [if_neg (by decide), gd_in (show b < 9 by omega) (by decide), nI_clamp (by omega), ha b (by rw [hf.1]; exact hb)]
theorem st_hive (k : Nat) (v_saved : Int32) (v_boardsRead : Int32) (v_fillingsFresh : Int32) (v_productsFresh : Int32) (v_pg_codes : Nat → Int32) (v_pg_size : Int32) (v_rd_stage : Int32) (v_rd_digits : Int32) (v_rd_p_kind : Int32) (v_rd_p_rows : Int32) (v_rd_p_outer : Nat → Int32) (v_rd_p_inner : Nat → Int32) (v_rd_p_content : Nat → Int32) (v_pl_kind : Int32) (v_pl_rows : Int32) (v_pl_outer : Nat → Int32) (v_pl_inner : Nat → Int32) (v_pl_content : Nat → Int32) (v_dr_kind : Int32) (v_dr_rows : Int32) (v_dr_outer : Nat → Int32) (v_dr_inner : Nat → Int32) (v_dr_content : Nat → Int32) (v_ob_size : Int32) (v_ob_kinds : Int32) (v_sp_kind : Int32) (v_sp_rows : Int32) (v_sp_outer : Nat → Int32) (v_sp_inner : Nat → Int32) (v_sp_content : Nat → Int32) (v_so_size : Int32) (v_so_kinds : Int32) (v_fi_size : Int32) (v_fi_kind : Int32) (v_fi_codes : Nat → Int32) (v_fi_numbers : Nat → Int32) (v_fi_left : Nat → Int32) (v_fi_g_rowOf : Nat → Int32) (v_fi_g_columnOf : Nat → Int32) (v_fi_g_before : Nat → Int32) (v_fi_g_above : Nat → Int32) (v_fi_g_rowStart : Nat → Int32) (v_fi_g_size : Int32) (v_pr_size : Int32) (v_pr_multiplicitySum : Int32) (v_pr_boxes : Int32) (v_pr_inner : Nat → Int32) (v_pr_used : Nat → Int32) (v_pr_left : Nat → Int32) (v_pr_ends : Nat → Nat → Int32) (v_pr_fillingsOf : Nat → Int32) (v_pr_keys : Nat → Int32) (v_boards : Int32) (v_kind : Int32) (v_rows : Int32) (v_outer : Nat → Int32) (v_inner : Nat → Int32) (v_content : Nat → Int32) (v_boxes : Int32) (v_rowOf : Nat → Int32) (v_columnOf : Nat → Int32) (v_seen : Int32) (v_seenWhat : Nat → Int32) (v_seenCan : Nat → Int32) (v_pageLength : Int32) (v_page : Nat → Int32) (v_isWhole : Int32) (v_newKind : Int32) (v_newRows : Int32) (v_newOuter : Nat → Int32) (v_newInner : Nat → Int32) (v_newContent : Nat → Int32) (v_now : Nat → Int32) (v_left : Nat → Int32) (v_box : Int32) (v_isCounted : Int32) (v_counted : Int32) (v_given : Nat → Int32) (v_isTermed : Int32) (v_terms : Int32) (v_term : Nat → Int32) (v_shape : Nat → Int32) (v_readBoxes : Int32) (v_readRow : Nat → Int32) (v_readColumn : Nat → Int32) (v_grid : Nat → Int32) (v_often : Nat → Int32) (v_seedNow : Int64) (v_isKept : Int32) (v_keptBoard : Int32) (v_keptKind : Int32) (v_keptRows : Int32) (v_keptSeen : Int32) (v_keptOuter : Nat → Int32) (v_keptInner : Nat → Int32) (v_keptContent : Nat → Int32) (v_keptWhat : Nat → Int32) (v_keptCan : Nat → Int32) (v_h : Int64) (p1 : Int32) (p2 : Int32) (p3 : Int32) (hk : k < 512) (hI : Inv k v_saved v_boardsRead v_fillingsFresh v_productsFresh v_pg_codes v_pg_size v_rd_stage v_rd_digits v_rd_p_kind v_rd_p_rows v_rd_p_outer v_rd_p_inner v_rd_p_content v_pl_kind v_pl_rows v_pl_outer v_pl_inner v_pl_content v_dr_kind v_dr_rows v_dr_outer v_dr_inner v_dr_content v_ob_size v_ob_kinds v_sp_kind v_sp_rows v_sp_outer v_sp_inner v_sp_content v_so_size v_so_kinds v_fi_size v_fi_kind v_fi_codes v_fi_numbers v_fi_left v_fi_g_rowOf v_fi_g_columnOf v_fi_g_before v_fi_g_above v_fi_g_rowStart v_fi_g_size v_pr_size v_pr_multiplicitySum v_pr_boxes v_pr_inner v_pr_used v_pr_left v_pr_ends v_pr_fillingsOf v_pr_keys v_boards v_kind v_rows v_outer v_inner v_content v_boxes v_rowOf v_columnOf v_seen v_seenWhat v_seenCan v_pageLength v_page v_isWhole v_newKind v_newRows v_newOuter v_newInner v_newContent v_now v_left v_box v_isCounted v_counted v_given v_isTermed v_terms v_term v_shape v_readBoxes v_readRow v_readColumn v_grid v_often v_seedNow v_isKept v_keptBoard v_keptKind v_keptRows v_keptSeen v_keptOuter v_keptInner v_keptContent v_keptWhat v_keptCan v_h) : ∃ (fx : Int32 × Int32 × Int32 × Int32 × (Nat → Int32) × (Nat → Int32) × (Nat → Int32) × (Nat → Int32) × (Nat → Int32) × (Nat → Int32) × (Nat → Int32) × (Nat → Int32) × Int32) (fm : Int32 × (Nat → Int32) × (Nat → Int32) × Int32 × Int32 × Int32), fX7_hive p1 p2 p3 v_fillingsFresh v_pl_kind v_pl_rows v_pl_outer v_pl_inner v_pl_content v_fi_size v_fi_kind v_fi_codes v_fi_numbers v_fi_left v_fi_g_rowOf v_fi_g_columnOf v_fi_g_before v_fi_g_above v_fi_g_rowStart v_fi_g_size = some fx ∧ fX8_hive p1 p2 p3 v_kind v_rows v_inner v_content v_boxes v_rowOf v_columnOf v_now v_left v_box v_isCounted v_counted = some fm ∧ fx.1 = fm.1 ∧ Inv (k + 1) v_saved v_boardsRead fx.2.1 v_productsFresh v_pg_codes v_pg_size v_rd_stage v_rd_digits v_rd_p_kind v_rd_p_rows v_rd_p_outer v_rd_p_inner v_rd_p_content v_pl_kind v_pl_rows v_pl_outer v_pl_inner v_pl_content v_dr_kind v_dr_rows v_dr_outer v_dr_inner v_dr_content v_ob_size v_ob_kinds v_sp_kind v_sp_rows v_sp_outer v_sp_inner v_sp_content v_so_size v_so_kinds fx.2.2.1 fx.2.2.2.1 fx.2.2.2.2.1 fx.2.2.2.2.2.1 fx.2.2.2.2.2.2.1 fx.2.2.2.2.2.2.2.1 fx.2.2.2.2.2.2.2.2.1 fx.2.2.2.2.2.2.2.2.2.1 fx.2.2.2.2.2.2.2.2.2.2.1 fx.2.2.2.2.2.2.2.2.2.2.2.1 fx.2.2.2.2.2.2.2.2.2.2.2.2 v_pr_size v_pr_multiplicitySum v_pr_boxes v_pr_inner v_pr_used v_pr_left v_pr_ends v_pr_fillingsOf v_pr_keys v_boards v_kind v_rows v_outer v_inner v_content v_boxes v_rowOf v_columnOf v_seen v_seenWhat v_seenCan v_pageLength v_page v_isWhole v_newKind v_newRows v_newOuter v_newInner v_newContent fm.2.1 fm.2.2.1 fm.2.2.2.1 fm.2.2.2.2.1 fm.2.2.2.2.2 v_given v_isTermed v_terms v_term v_shape v_readBoxes v_readRow v_readColumn v_grid v_often v_seedNow v_isKept v_keptBoard v_keptKind v_keptRows v_keptSeen v_keptOuter v_keptInner v_keptContent v_keptWhat v_keptCan v_h := by
  obtain ⟨pg, B, ob, sv, nbd, h1, h2, h3, h4, ⟨rfl, rfl, a1, a2, a3⟩, ⟨rfl, rfl, b1, b2, b3⟩, ⟨rfl, l1, l2⟩, h8, h9, h10, h11, h12, h13, h14, h15, h16, h17, h18, h19, h20⟩ := hI
  have n9 := h4.2.2.2.2.2.2.1
  have hR4 := h4.2.1
  have b4 := fls_400 h4
  obtain ⟨c', m', l', r', co', be', ab', rs', hF, eF⟩ := f_fresh (num := v_fi_numbers) (left := v_fi_left) h4 a1 a2 a3 h17
  have eX : ∀ v, (∀ r1, r1 = ((1 : Int32), nI (fls B).length, nI (bK B), c', m', l', r', co', be', ab', rs', nI (nbx B)) → bd (fX0_hasFilling p1 (nI (fls B).length)) (fun r_2 => if r_2 = 0 then some ((-101 : Int32), r1) else (if p2 < 0 then some (-102, r1) else (if nI (bR B) < p2 then some (-102, r1) else (if p3 < 0 then some (-102, r1) else (if p3 ≤ 4 then (bd (fX7_partialSum p1 p2 p3 (nI (bR B)) v_pl_inner c' r' (nI (nbx B))) (fun r_8 => some (r_8, r1))) else some (-102, r1)))))) = some (v, r1)) → fX7_hive p1 p2 p3 v_fillingsFresh (nI (bK B)) (nI (bR B)) v_pl_outer v_pl_inner v_pl_content v_fi_size v_fi_kind v_fi_codes v_fi_numbers v_fi_left v_fi_g_rowOf v_fi_g_columnOf v_fi_g_before v_fi_g_above v_fi_g_rowStart v_fi_g_size = some (v, 1, nI (fls B).length, nI (bK B), c', m', l', r', co', be', ab', rs', nI (nbx B)) := by
    intro v h
    unfold fX7_hive
    rw [eF, bd_s]
    exact h _ rfl
  by_cases hR : bR B = 0
  · refine ⟨(-101, 1, nI (fls B).length, nI (bK B), c', m', l', r', co', be', ab', rs', nI (nbx B)), (-101, v_now, v_left, v_box, v_isCounted, v_counted), eX _ (fun r1 _ => ?_), ?_, rfl, Inv_mono ⟨pg, B, ob, sv, nbd, h1, h2, h3, h4, ⟨rfl, rfl, a1, a2, a3⟩, ⟨rfl, rfl, b1, b2, b3⟩, ⟨rfl, l1, l2⟩, h8, h9, h10, h11, h12, h13, h14, h15, h16, Or.inr ⟨rfl, hF⟩, h18, h19, h20⟩⟩
    · rw [f_hasFilling, fls_0 hR]
      by_cases q : p1 < 0
      · rw [if_pos q]; rfl
      · rw [if_neg q, if_pos (show nI ([] : List (List Nat)).length ≤ p1 from Int32.not_lt.mp q)]; rfl
    · unfold fX8_hive fX8_find
      rw [(no_board hR).2]; rfl
  · rcases f_find h4 hR l1 l2 b3 v_now v_left v_box v_isCounted v_counted h19 p1 with ⟨nw, lf, bx, hp, ef⟩ | ⟨j, nw, lf, bx, rfl, hj, ha, ef⟩
    · refine ⟨(-101, 1, nI (fls B).length, nI (bK B), c', m', l', r', co', be', ab', rs', nI (nbx B)), (-101, nw, lf, bx, 1, nI (fls B).length), eX _ (fun r1 _ => ?_), ?_, rfl, Inv_mono ⟨pg, B, ob, sv, nbd, h1, h2, h3, h4, ⟨rfl, rfl, a1, a2, a3⟩, ⟨rfl, rfl, b1, b2, b3⟩, ⟨rfl, l1, l2⟩, h8, h9, h10, h11, h12, h13, h14, h15, h16, Or.inr ⟨rfl, hF⟩, h18, Or.inr ⟨rfl, rfl⟩, h20⟩⟩
      · rcases idx_cases p1 (show (fls B).length < 2 ^ 31 by omega) with ⟨-, j1, -⟩ | ⟨r, hr, rfl, -, -⟩
        · rw [f_hasFilling, j1]; rfl
        · exfalso
          rcases hp with hp | hp
          · exact nI_pos (by omega) hp
          · exact nI_ge hr (by omega) hp
      · unfold fX8_hive
        rw [ef]; rfl
    · have hf := fls_at hj
      have hX0 : fX0_hasFilling (nI j) (nI (fls B).length) = some 1 := by
        rw [f_hasFilling, if_neg (nI_pos (by omega)), if_neg (nI_ge hj (by omega))]
      have fin : ∀ v, (∀ r1, r1 = ((1 : Int32), nI (fls B).length, nI (bK B), c', m', l', r', co', be', ab', rs', nI (nbx B)) → (if p2 < 0 then some ((-102 : Int32), r1) else (if nI (bR B) < p2 then some (-102, r1) else (if p3 < 0 then some (-102, r1) else (if p3 ≤ 4 then (bd (fX7_partialSum (nI j) p2 p3 (nI (bR B)) v_pl_inner c' r' (nI (nbx B))) (fun r_8 => some (r_8, r1))) else some (-102, r1))))) = some (v, r1)) → bd (fX8_within p2 0 (nI (bR B))) (fun r_3 => if r_3 = 0 then some (-102 : Int32) else (bd (fX8_within p3 0 4) (fun r_5 => if r_5 = 0 then some (-102) else fX8_hiveNow p2 p3 v_inner (nI (nbx B)) v_rowOf nw))) = some v → ∃ (fx : Int32 × Int32 × Int32 × Int32 × (Nat → Int32) × (Nat → Int32) × (Nat → Int32) × (Nat → Int32) × (Nat → Int32) × (Nat → Int32) × (Nat → Int32) × (Nat → Int32) × Int32) (fm : Int32 × (Nat → Int32) × (Nat → Int32) × Int32 × Int32 × Int32), fX7_hive (nI j) p2 p3 v_fillingsFresh (nI (bK B)) (nI (bR B)) v_pl_outer v_pl_inner v_pl_content v_fi_size v_fi_kind v_fi_codes v_fi_numbers v_fi_left v_fi_g_rowOf v_fi_g_columnOf v_fi_g_before v_fi_g_above v_fi_g_rowStart v_fi_g_size = some fx ∧ fX8_hive (nI j) p2 p3 (nI (bK B)) (nI (bR B)) v_inner v_content (nI (nbx B)) v_rowOf v_columnOf v_now v_left v_box v_isCounted v_counted = some fm ∧ fx = (v, 1, nI (fls B).length, nI (bK B), c', m', l', r', co', be', ab', rs', nI (nbx B)) ∧ fm = (v, nw, lf, bx, 1, nI (fls B).length) := by
        intro v hx hm
        refine ⟨_, (v, nw, lf, bx, 1, nI (fls B).length), eX v (fun r1 hr1 => ?_), ?_, rfl, rfl⟩
        · rw [hX0, bd_s, if_neg (by decide)]
          exact hx r1 hr1
        · unfold fX8_hive fX8_hive_J41 fX8_hive_J43
          rw [ef, bd_s]
          dsimp only
          rw [if_neg (by decide)]
          revert hm
          cases fX8_within p2 0 (nI (bR B)) with
          | none => intro hm; cases hm
          | some y =>
            rw [bd_s, bd_s]
            by_cases q : y = 0
            · rw [if_pos q, if_pos q]
              intro hm
              rw [← Option.some.inj hm]
            · rw [if_neg q, if_neg q]
              cases fX8_within p3 0 4 with
              | none => intro hm; cases hm
              | some z =>
                rw [bd_s, bd_s]
                by_cases q2 : z = 0
                · rw [if_pos q2, if_pos q2]
                  intro hm
                  rw [← Option.some.inj hm]
                · rw [if_neg q2, if_neg q2]
                  intro hm
                  rw [hm, bd_s]
      suffices H : ∃ v, (∃ (fx : Int32 × Int32 × Int32 × Int32 × (Nat → Int32) × (Nat → Int32) × (Nat → Int32) × (Nat → Int32) × (Nat → Int32) × (Nat → Int32) × (Nat → Int32) × (Nat → Int32) × Int32) (fm : Int32 × (Nat → Int32) × (Nat → Int32) × Int32 × Int32 × Int32), fX7_hive (nI j) p2 p3 v_fillingsFresh (nI (bK B)) (nI (bR B)) v_pl_outer v_pl_inner v_pl_content v_fi_size v_fi_kind v_fi_codes v_fi_numbers v_fi_left v_fi_g_rowOf v_fi_g_columnOf v_fi_g_before v_fi_g_above v_fi_g_rowStart v_fi_g_size = some fx ∧ fX8_hive (nI j) p2 p3 (nI (bK B)) (nI (bR B)) v_inner v_content (nI (nbx B)) v_rowOf v_columnOf v_now v_left v_box v_isCounted v_counted = some fm ∧ fx = (v, 1, nI (fls B).length, nI (bK B), c', m', l', r', co', be', ab', rs', nI (nbx B)) ∧ fm = (v, nw, lf, bx, 1, nI (fls B).length)) by
        obtain ⟨v, fx, fm, e1, e2, rfl, rfl⟩ := H
        exact ⟨_, _, e1, e2, rfl, Inv_mono ⟨pg, B, ob, sv, nbd, h1, h2, h3, h4, ⟨rfl, rfl, a1, a2, a3⟩, ⟨rfl, rfl, b1, b2, b3⟩, ⟨rfl, l1, l2⟩, h8, h9, h10, h11, h12, h13, h14, h15, h16, Or.inr ⟨rfl, hF⟩, h18, Or.inr ⟨rfl, rfl⟩, h20⟩⟩
      rw [f_within, f_within] at fin
      by_cases q1 : p2 < 0
      · exact ⟨_, fin (-102) (fun r1 _ => by rw [if_pos q1]) (by rw [if_pos q1]; rfl)⟩
      · by_cases q2 : nI (bR B) < p2
        · exact ⟨_, fin (-102) (fun r1 _ => by rw [if_neg q1, if_pos q2]) (by rw [if_neg q1, if_pos q2]; rfl)⟩
        · by_cases q3 : p3 < 0
          · exact ⟨_, fin (-102) (fun r1 _ => by rw [if_neg q1, if_neg q2, if_pos q3]) (by rw [if_neg q1, if_neg q2, if_pos q3]; rfl)⟩
          · by_cases q4 : 4 < p3
            · exact ⟨_, fin (-102) (fun r1 _ => by rw [if_neg q1, if_neg q2, if_neg q3, if_neg (fun e => Int32.not_lt.mpr e q4)]) (by rw [if_neg q1, if_neg q2, if_neg q3, if_pos q4]; rfl)⟩
            · obtain ⟨i, -, hi, rfl⟩ := pk_of 0 (bR B) (by omega) (by decide) q1 q2
              obtain ⟨u, -, hu, rfl⟩ := pk_of 0 4 (by decide) (by decide) q3 q4
              refine ⟨_, fin (nI (isum B i + bu B ((fls B).getD j []) i u)) (fun r1 _ => ?_) ?_⟩
              · rw [if_neg q1, if_neg q2, if_neg q3, if_pos (Int32.not_lt.mp q4), f_partialSum h4 hF.2.2.2 hF.2.1.2.1 a2 hj hi hu, bd_s]
              · rw [if_neg q1, if_neg q2, bd_s, if_neg (by decide), if_neg q3, if_neg q4, bd_s, if_neg (by decide), f_hiveNow h4 l1 b2 hf ha hi hu]

theorem st_about (k : Nat) (v_saved : Int32) (v_boardsRead : Int32) (v_fillingsFresh : Int32) (v_productsFresh : Int32) (v_pg_codes : Nat → Int32) (v_pg_size : Int32) (v_rd_stage : Int32) (v_rd_digits : Int32) (v_rd_p_kind : Int32) (v_rd_p_rows : Int32) (v_rd_p_outer : Nat → Int32) (v_rd_p_inner : Nat → Int32) (v_rd_p_content : Nat → Int32) (v_pl_kind : Int32) (v_pl_rows : Int32) (v_pl_outer : Nat → Int32) (v_pl_inner : Nat → Int32) (v_pl_content : Nat → Int32) (v_dr_kind : Int32) (v_dr_rows : Int32) (v_dr_outer : Nat → Int32) (v_dr_inner : Nat → Int32) (v_dr_content : Nat → Int32) (v_ob_size : Int32) (v_ob_kinds : Int32) (v_sp_kind : Int32) (v_sp_rows : Int32) (v_sp_outer : Nat → Int32) (v_sp_inner : Nat → Int32) (v_sp_content : Nat → Int32) (v_so_size : Int32) (v_so_kinds : Int32) (v_fi_size : Int32) (v_fi_kind : Int32) (v_fi_codes : Nat → Int32) (v_fi_numbers : Nat → Int32) (v_fi_left : Nat → Int32) (v_fi_g_rowOf : Nat → Int32) (v_fi_g_columnOf : Nat → Int32) (v_fi_g_before : Nat → Int32) (v_fi_g_above : Nat → Int32) (v_fi_g_rowStart : Nat → Int32) (v_fi_g_size : Int32) (v_pr_size : Int32) (v_pr_multiplicitySum : Int32) (v_pr_boxes : Int32) (v_pr_inner : Nat → Int32) (v_pr_used : Nat → Int32) (v_pr_left : Nat → Int32) (v_pr_ends : Nat → Nat → Int32) (v_pr_fillingsOf : Nat → Int32) (v_pr_keys : Nat → Int32) (v_boards : Int32) (v_kind : Int32) (v_rows : Int32) (v_outer : Nat → Int32) (v_inner : Nat → Int32) (v_content : Nat → Int32) (v_boxes : Int32) (v_rowOf : Nat → Int32) (v_columnOf : Nat → Int32) (v_seen : Int32) (v_seenWhat : Nat → Int32) (v_seenCan : Nat → Int32) (v_pageLength : Int32) (v_page : Nat → Int32) (v_isWhole : Int32) (v_newKind : Int32) (v_newRows : Int32) (v_newOuter : Nat → Int32) (v_newInner : Nat → Int32) (v_newContent : Nat → Int32) (v_now : Nat → Int32) (v_left : Nat → Int32) (v_box : Int32) (v_isCounted : Int32) (v_counted : Int32) (v_given : Nat → Int32) (v_isTermed : Int32) (v_terms : Int32) (v_term : Nat → Int32) (v_shape : Nat → Int32) (v_readBoxes : Int32) (v_readRow : Nat → Int32) (v_readColumn : Nat → Int32) (v_grid : Nat → Int32) (v_often : Nat → Int32) (v_seedNow : Int64) (v_isKept : Int32) (v_keptBoard : Int32) (v_keptKind : Int32) (v_keptRows : Int32) (v_keptSeen : Int32) (v_keptOuter : Nat → Int32) (v_keptInner : Nat → Int32) (v_keptContent : Nat → Int32) (v_keptWhat : Nat → Int32) (v_keptCan : Nat → Int32) (v_h : Int64) (p1 : Int32) (hk : k < 512) (hI : Inv k v_saved v_boardsRead v_fillingsFresh v_productsFresh v_pg_codes v_pg_size v_rd_stage v_rd_digits v_rd_p_kind v_rd_p_rows v_rd_p_outer v_rd_p_inner v_rd_p_content v_pl_kind v_pl_rows v_pl_outer v_pl_inner v_pl_content v_dr_kind v_dr_rows v_dr_outer v_dr_inner v_dr_content v_ob_size v_ob_kinds v_sp_kind v_sp_rows v_sp_outer v_sp_inner v_sp_content v_so_size v_so_kinds v_fi_size v_fi_kind v_fi_codes v_fi_numbers v_fi_left v_fi_g_rowOf v_fi_g_columnOf v_fi_g_before v_fi_g_above v_fi_g_rowStart v_fi_g_size v_pr_size v_pr_multiplicitySum v_pr_boxes v_pr_inner v_pr_used v_pr_left v_pr_ends v_pr_fillingsOf v_pr_keys v_boards v_kind v_rows v_outer v_inner v_content v_boxes v_rowOf v_columnOf v_seen v_seenWhat v_seenCan v_pageLength v_page v_isWhole v_newKind v_newRows v_newOuter v_newInner v_newContent v_now v_left v_box v_isCounted v_counted v_given v_isTermed v_terms v_term v_shape v_readBoxes v_readRow v_readColumn v_grid v_often v_seedNow v_isKept v_keptBoard v_keptKind v_keptRows v_keptSeen v_keptOuter v_keptInner v_keptContent v_keptWhat v_keptCan v_h) : ∃ (fx : Int32 × Int32 × Int32 × Int32 × (Nat → Int32) × (Nat → Int32) × (Nat → Int32) × (Nat → Int32) × (Nat → Int32) × (Nat → Int32) × (Nat → Int32) × (Nat → Int32) × Int32) (fm : Int32 × (Nat → Int32) × (Nat → Int32) × Int32 × Int32 × Int32), fX7_about p1 v_fillingsFresh v_pl_kind v_pl_rows v_pl_outer v_pl_inner v_pl_content v_fi_size v_fi_kind v_fi_codes v_fi_numbers v_fi_left v_fi_g_rowOf v_fi_g_columnOf v_fi_g_before v_fi_g_above v_fi_g_rowStart v_fi_g_size = some fx ∧ fX8_about p1 v_kind v_rows v_content v_boxes v_rowOf v_columnOf v_now v_left v_box v_isCounted v_counted = some fm ∧ fx.1 = fm.1 ∧ Inv (k + 1) v_saved v_boardsRead fx.2.1 v_productsFresh v_pg_codes v_pg_size v_rd_stage v_rd_digits v_rd_p_kind v_rd_p_rows v_rd_p_outer v_rd_p_inner v_rd_p_content v_pl_kind v_pl_rows v_pl_outer v_pl_inner v_pl_content v_dr_kind v_dr_rows v_dr_outer v_dr_inner v_dr_content v_ob_size v_ob_kinds v_sp_kind v_sp_rows v_sp_outer v_sp_inner v_sp_content v_so_size v_so_kinds fx.2.2.1 fx.2.2.2.1 fx.2.2.2.2.1 fx.2.2.2.2.2.1 fx.2.2.2.2.2.2.1 fx.2.2.2.2.2.2.2.1 fx.2.2.2.2.2.2.2.2.1 fx.2.2.2.2.2.2.2.2.2.1 fx.2.2.2.2.2.2.2.2.2.2.1 fx.2.2.2.2.2.2.2.2.2.2.2.1 fx.2.2.2.2.2.2.2.2.2.2.2.2 v_pr_size v_pr_multiplicitySum v_pr_boxes v_pr_inner v_pr_used v_pr_left v_pr_ends v_pr_fillingsOf v_pr_keys v_boards v_kind v_rows v_outer v_inner v_content v_boxes v_rowOf v_columnOf v_seen v_seenWhat v_seenCan v_pageLength v_page v_isWhole v_newKind v_newRows v_newOuter v_newInner v_newContent fm.2.1 fm.2.2.1 fm.2.2.2.1 fm.2.2.2.2.1 fm.2.2.2.2.2 v_given v_isTermed v_terms v_term v_shape v_readBoxes v_readRow v_readColumn v_grid v_often v_seedNow v_isKept v_keptBoard v_keptKind v_keptRows v_keptSeen v_keptOuter v_keptInner v_keptContent v_keptWhat v_keptCan v_h := by
  have hI0 := hI
  obtain ⟨pg, B, ob, sv, nbd, h1, h2, h3, h4, ⟨rfl, rfl, a1, a2, a3⟩, ⟨rfl, rfl, b1, b2, b3⟩, ⟨rfl, l1, l2⟩, h8, h9, h10, h11, h12, h13, h14, h15, h16, h17, h18, h19, h20⟩ := hI
  have hR4 := h4.2.1
  by_cases hp : p1 < 0 ∨ 4 < p1
  · refine ⟨(-102, v_fillingsFresh, v_fi_size, v_fi_kind, v_fi_codes, v_fi_numbers, v_fi_left, v_fi_g_rowOf, v_fi_g_columnOf, v_fi_g_before, v_fi_g_above, v_fi_g_rowStart, v_fi_g_size), (-102, v_now, v_left, v_box, v_isCounted, v_counted), ?_, ?_, rfl, Inv_mono hI0⟩
    · unfold fX7_about fX7_about_J9
      by_cases q : p1 < 0
      · rw [if_pos q]
      · rw [if_neg q, if_neg (fun e => Int32.not_lt.mpr e (hp.resolve_left q))]
    · unfold fX8_about
      rw [f_within, bd_s]
      by_cases q : p1 < 0
      · rw [if_pos q]; rfl
      · rw [if_neg q, if_pos (hp.resolve_left q)]; rfl
  · have q1 : ¬ p1 < 0 := fun h => hp (Or.inl h)
    have q2 : ¬ 4 < p1 := fun h => hp (Or.inr h)
    unfold fX7_about fX8_about
    rw [if_neg q1, if_pos (Int32.not_lt.mp q2), f_within, bd_s, if_neg q1, if_neg q2, if_neg (show ¬ (1 : Int32) = 0 by decide)]
    by_cases hR : bR B = 0
    · rw [(no_board hR).1, (no_board hR).2, bd_s, bd_s, if_neg (show ¬ (1 : Int32) = 0 by decide), if_pos (show (0 : Int32) = 0 from rfl)]
      exact ⟨_, _, rfl, rfl, rfl, Inv_mono hI0⟩
    · rw [(a_board hR hR4).1, (a_board hR hR4).2, bd_s, bd_s, if_pos (show (0 : Int32) = 0 from rfl), if_neg (show ¬ (1 : Int32) = 0 by decide)]
      unfold fX8_aboutNow fX8_aboutNow_J51 fX8_about_J29
      by_cases e0 : p1 = 0
      · rw [if_pos e0, if_pos e0, bd_s]
        exact ⟨_, _, rfl, rfl, rfl, Inv_mono hI0⟩
      · rw [if_neg e0, if_neg e0]
        by_cases e1 : p1 = 1
        · rw [if_pos e1, if_pos e1, bd_s, f_boxCount hR4 a1 a2 (fun r hr => (h4.2.2.1 r hr).2.2), bd_s]
          exact ⟨_, _, rfl, rfl, rfl, Inv_mono hI0⟩
        · rw [if_neg e1, if_neg e1]
          by_cases e2 : p1 = 2
          · rw [if_pos e2, if_pos e2, bd_s]
            exact ⟨_, _, rfl, rfl, rfl, Inv_mono hI0⟩
          · rw [if_neg e2, if_neg e2]
            by_cases e3 : p1 = 3
            · rw [if_pos e3, if_pos e3, f_contentSum a3, f_told b3, bd_s, bd_s, bd_s]
              exact ⟨_, _, rfl, rfl, rfl, Inv_mono hI0⟩
            · rw [if_neg e3, if_neg e3]
              obtain ⟨c', m', l', r', co', be', ab', rs', hF, eF⟩ := f_fresh (num := v_fi_numbers) (left := v_fi_left) h4 a1 a2 a3 h17
              obtain ⟨nw, lf, bx, ew⟩ := f_ways h4 hR l1 l2 b3 v_now v_left v_box v_isCounted v_counted h19
              rw [eF, ew, bd_s, bd_s, bd_s]
              exact ⟨_, _, rfl, rfl, rfl, Inv_mono ⟨pg, B, ob, sv, nbd, h1, h2, h3, h4, ⟨rfl, rfl, a1, a2, a3⟩, ⟨rfl, rfl, b1, b2, b3⟩, ⟨rfl, l1, l2⟩, h8, h9, h10, h11, h12, h13, h14, h15, h16, Or.inr ⟨rfl, hF⟩, h18, Or.inr ⟨rfl, rfl⟩, h20⟩⟩

def dig (l : List Nat) : Bool := l.all (fun x => decide (49 ≤ x ∧ x ≤ 52))
def fgs (l : List Nat) : List Nat := l.map (fun x => x - 48)
theorem dg_X : ∀ d, d < 127 → fX7_isNumber (nI d - 48) = some (if 49 ≤ d ∧ d ≤ 52 then 1 else 0) := by decide +kernel
theorem dg_M : ∀ d, d < 127 → fX8_within (nI d - 48) 1 4 = some (if 49 ≤ d ∧ d ≤ 52 then 1 else 0) := by decide +kernel
theorem drop_cons {l m : List Nat} {a j : Nat} (h : l.drop j = a :: m) : j < l.length ∧ l.getD j 0 = a ∧ l.drop (j + 1) = m ∧ l.take (j + 1) = l.take j ++ [a] := by
  have hj : j < l.length := by
    apply Classical.byContradiction
    intro q
    rw [List.drop_eq_nil_iff.mpr (by omega)] at h
    cases h
  have e : l[j] = a := by
    rw [List.drop_eq_getElem_cons hj] at h
    exact (List.cons.inj h).1
  refine ⟨hj, ?_, ?_, ?_⟩
  · rw [List.getD_eq_getElem?_getD, List.getElem?_eq_getElem hj]; exact e
  · rw [← List.drop_drop, h]; rfl
  · rw [List.take_succ, List.getElem?_eq_getElem hj, e]; rfl
theorem f_isFillingOf {pg : List Nat} (hpg : pgOK pg) {codes : Nat → Int32} (ha : agr codes pg) {n : Nat} (hn : n ≤ 9) : fX3_isFillingOf (nI n) codes (nI pg.length) = some (if pg.length = n ∧ dig pg = true then 1 else 0) := by
  have h20 := hpg.1
  have L : ∀ (l : List Nat) (j t : Nat), pg.drop j = l → j ≤ pg.length → l.length < t → fX3_isFillingOf_L12 codes (nI pg.length) t (nI j) = some (if dig l = true then 1 else 0) := by
    intro l
    induction l with
    | nil =>
      intro j t h hj ht
      obtain ⟨t, rfl, -⟩ := fuel ht
      have := List.drop_eq_nil_iff.mp h
      rw [fX3_isFillingOf_L12, if_pos (nI_le this (by omega))]; rfl
    | cons a l ih =>
      intro j t h hj ht
      obtain ⟨t, rfl, h2⟩ := fuel ht
      obtain ⟨k1, k2, k3, -⟩ := drop_cons h
      have a127 : a < 127 := by rw [← k2]; exact pg_d hpg j
      rw [fX3_isFillingOf_L12, if_neg (nI_ge k1 (by omega)), gd_in (show j < 20 by omega) (by decide), nI_clamp (by omega), ha j k1, k2, dg_X a a127, bd_s, nI_1]
      unfold dig
      rw [List.all_cons]
      by_cases q : 49 ≤ a ∧ a ≤ 52
      · rw [if_pos q, if_neg (by decide), decide_eq_true q, Bool.true_and]
        exact ih (j + 1) t k3 (by omega) (by rw [List.length_cons] at h2; omega)
      · rw [if_neg q, if_pos rfl, decide_eq_false q, Bool.false_and, if_neg (by decide)]
  unfold fX3_isFillingOf
  by_cases q : pg.length = n
  · rw [if_pos (by rw [q])]
    refine (L pg 0 fu rfl (Nat.zero_le _) (by unfold fu; omega)).trans ?_
    by_cases q2 : dig pg = true
    · rw [if_pos q2, if_pos ⟨q, q2⟩]
    · rw [if_neg q2, if_neg (fun e => q2 e.2)]
  · rw [if_neg (fun e => q ((nI_eq (by omega) (by omega)).mp e)), if_neg (fun e => q e.1)]
theorem f_fillingCode {pg : List Nat} (hpg : pgOK pg) {codes : Nat → Int32} (ha : agr codes pg) (hd : dig pg = true) : fX3_fillingCode codes (nI pg.length) = some (nI (codeL (fgs pg))) := by
  have h20 := hpg.1
  have hd2 : ∀ x ∈ pg, 49 ≤ x ∧ x ≤ 52 := by
    unfold dig at hd
    rw [List.all_eq_true] at hd
    intro x hx
    exact of_decide_eq_true (hd x hx)
  have L : ∀ (l : List Nat) (j t : Nat), pg.drop j = l → j ≤ pg.length → l.length < t → fX3_fillingCode_L4 codes (nI pg.length) t (nI (codeL (fgs (pg.take j)))) (nI j) = some (nI (codeL (fgs pg))) := by
    intro l
    induction l with
    | nil =>
      intro j t h hj ht
      obtain ⟨t, rfl, -⟩ := fuel ht
      have := List.drop_eq_nil_iff.mp h
      rw [fX3_fillingCode_L4, if_pos (nI_le this (by omega)), List.take_of_length_le this]
    | cons a l ih =>
      intro j t h hj ht
      obtain ⟨t, rfl, h2⟩ := fuel ht
      obtain ⟨k1, k2, k3, k4⟩ := drop_cons h
      have am : a ∈ pg := by
        rw [← k2, List.getD_eq_getElem?_getD, List.getElem?_eq_getElem k1]
        exact List.getElem_mem k1
      have ad := hd2 a am
      have g := ih (j + 1) t k3 (by omega) (by rw [List.length_cons] at h2; omega)
      unfold fgs at g ⊢
      rw [k4, List.map_append] at g
      rw [List.map_cons, List.map_nil, codeL_app] at g
      rw [fX3_fillingCode_L4, if_neg (nI_ge k1 (by omega)), gd_in (show j < 20 by omega) (by decide), nI_clamp (by omega), ha j k1, k2]
      unfold fX0_codeWith
      rw [bd_s, lit_48, nI_sub (by omega), lit_4, nI_mul, nI_add, lit_1, nI_sub (by omega), nI_add]
      rw [show 4 * codeL (List.map (fun x => x - 48) (List.take j pg)) + (a - 48) - 1 = 4 * codeL (List.map (fun x => x - 48) (List.take j pg)) + (a - 48 - 1) by omega]
      exact g
  exact L pg 0 fu rfl (Nat.zero_le _) (by unfold fu; omega)
theorem fill_M {pg : List Nat} (hpg : pgOK pg) {page : Nat → Int32} (ha : agr page pg) (h9 : pg.length ≤ 9) (k71 : Int32 → (Nat → Int32) → Option (Int32 × Int32 × (Nat → Int32) × (Nat → Int32) × Int32 × Int32 × Int32 × (Nat → Int32))) : ∀ (l : List Nat) (j t : Nat) (given : Nat → Int32), pg.drop j = l → j ≤ pg.length → l.length + 1 < t → agr given (fgs (pg.take j)) → ∃ given', (dig l = true → agr given' (fgs pg)) ∧ fX8_filling_L26 (nI pg.length) page k71 t 1 (nI j) given = k71 (if dig l = true then 1 else 0) given' := by
  intro l
  induction l with
  | nil =>
    intro j t given h hj ht hg
    obtain ⟨t, rfl, -⟩ := fuel ht
    have := List.drop_eq_nil_iff.mp h
    rw [List.take_of_length_le this] at hg
    refine ⟨given, fun _ => hg, ?_⟩
    rw [fX8_filling_L26, if_pos (nI_le this (by omega))]; rfl
  | cons a l ih =>
    intro j t given h hj ht hg
    obtain ⟨t, rfl, h2⟩ := fuel ht
    obtain ⟨k1, k2, k3, k4⟩ := drop_cons h
    have a127 : a < 127 := by rw [← k2]; exact pg_d hpg j
    rw [List.length_cons] at h2
    have lj : (fgs (pg.take j)).length = j := by unfold fgs; rw [List.length_map, List.length_take]; omega
    rw [fX8_filling_L26, if_neg (nI_ge k1 (by omega)), if_neg (by decide), gd_in (show j < 20 by omega) (by decide), gd_in (show j < 9 by omega) (by decide), nI_clamp (by omega), ha j k1, k2, pk_us, dg_M a a127, bd_s, nI_1]
    have dc : dig (a :: l) = (decide (49 ≤ a ∧ a ≤ 52) && dig l) := by unfold dig; rw [List.all_cons]
    rw [dc]
    by_cases q : 49 ≤ a ∧ a ≤ 52
    · have hg2 : agr (upd given j (nI a - 48)) (fgs (pg.take (j + 1))) := by
        have := agr_push (x := nI a - 48) (v := a - 48) hg (fig (by omega))
        rw [lj] at this
        rw [k4]
        unfold fgs at this ⊢
        rw [List.map_append]
        exact this
      obtain ⟨g', e1, e2⟩ := ih (j + 1) t (upd given j (nI a - 48)) k3 (by omega) (by omega) hg2
      rw [if_pos q, decide_eq_true q, Bool.true_and]
      exact ⟨g', e1, e2⟩
    · rw [if_neg q, decide_eq_false q, Bool.false_and, if_neg (by decide)]
      refine ⟨upd given j (nI a - 48), (fun h => by cases h), ?_⟩
      obtain ⟨t, rfl, -⟩ := fuel (show 0 < t by omega)
      rw [fX8_filling_L26]
      by_cases e : nI pg.length ≤ nI (j + 1)
      · rw [if_pos e]
      · rw [if_neg e, if_pos rfl]
theorem st_filling (k : Nat) (v_saved : Int32) (v_boardsRead : Int32) (v_fillingsFresh : Int32) (v_productsFresh : Int32) (v_pg_codes : Nat → Int32) (v_pg_size : Int32) (v_rd_stage : Int32) (v_rd_digits : Int32) (v_rd_p_kind : Int32) (v_rd_p_rows : Int32) (v_rd_p_outer : Nat → Int32) (v_rd_p_inner : Nat → Int32) (v_rd_p_content : Nat → Int32) (v_pl_kind : Int32) (v_pl_rows : Int32) (v_pl_outer : Nat → Int32) (v_pl_inner : Nat → Int32) (v_pl_content : Nat → Int32) (v_dr_kind : Int32) (v_dr_rows : Int32) (v_dr_outer : Nat → Int32) (v_dr_inner : Nat → Int32) (v_dr_content : Nat → Int32) (v_ob_size : Int32) (v_ob_kinds : Int32) (v_sp_kind : Int32) (v_sp_rows : Int32) (v_sp_outer : Nat → Int32) (v_sp_inner : Nat → Int32) (v_sp_content : Nat → Int32) (v_so_size : Int32) (v_so_kinds : Int32) (v_fi_size : Int32) (v_fi_kind : Int32) (v_fi_codes : Nat → Int32) (v_fi_numbers : Nat → Int32) (v_fi_left : Nat → Int32) (v_fi_g_rowOf : Nat → Int32) (v_fi_g_columnOf : Nat → Int32) (v_fi_g_before : Nat → Int32) (v_fi_g_above : Nat → Int32) (v_fi_g_rowStart : Nat → Int32) (v_fi_g_size : Int32) (v_pr_size : Int32) (v_pr_multiplicitySum : Int32) (v_pr_boxes : Int32) (v_pr_inner : Nat → Int32) (v_pr_used : Nat → Int32) (v_pr_left : Nat → Int32) (v_pr_ends : Nat → Nat → Int32) (v_pr_fillingsOf : Nat → Int32) (v_pr_keys : Nat → Int32) (v_boards : Int32) (v_kind : Int32) (v_rows : Int32) (v_outer : Nat → Int32) (v_inner : Nat → Int32) (v_content : Nat → Int32) (v_boxes : Int32) (v_rowOf : Nat → Int32) (v_columnOf : Nat → Int32) (v_seen : Int32) (v_seenWhat : Nat → Int32) (v_seenCan : Nat → Int32) (v_pageLength : Int32) (v_page : Nat → Int32) (v_isWhole : Int32) (v_newKind : Int32) (v_newRows : Int32) (v_newOuter : Nat → Int32) (v_newInner : Nat → Int32) (v_newContent : Nat → Int32) (v_now : Nat → Int32) (v_left : Nat → Int32) (v_box : Int32) (v_isCounted : Int32) (v_counted : Int32) (v_given : Nat → Int32) (v_isTermed : Int32) (v_terms : Int32) (v_term : Nat → Int32) (v_shape : Nat → Int32) (v_readBoxes : Int32) (v_readRow : Nat → Int32) (v_readColumn : Nat → Int32) (v_grid : Nat → Int32) (v_often : Nat → Int32) (v_seedNow : Int64) (v_isKept : Int32) (v_keptBoard : Int32) (v_keptKind : Int32) (v_keptRows : Int32) (v_keptSeen : Int32) (v_keptOuter : Nat → Int32) (v_keptInner : Nat → Int32) (v_keptContent : Nat → Int32) (v_keptWhat : Nat → Int32) (v_keptCan : Nat → Int32) (v_h : Int64) (hk : k < 512) (hI : Inv k v_saved v_boardsRead v_fillingsFresh v_productsFresh v_pg_codes v_pg_size v_rd_stage v_rd_digits v_rd_p_kind v_rd_p_rows v_rd_p_outer v_rd_p_inner v_rd_p_content v_pl_kind v_pl_rows v_pl_outer v_pl_inner v_pl_content v_dr_kind v_dr_rows v_dr_outer v_dr_inner v_dr_content v_ob_size v_ob_kinds v_sp_kind v_sp_rows v_sp_outer v_sp_inner v_sp_content v_so_size v_so_kinds v_fi_size v_fi_kind v_fi_codes v_fi_numbers v_fi_left v_fi_g_rowOf v_fi_g_columnOf v_fi_g_before v_fi_g_above v_fi_g_rowStart v_fi_g_size v_pr_size v_pr_multiplicitySum v_pr_boxes v_pr_inner v_pr_used v_pr_left v_pr_ends v_pr_fillingsOf v_pr_keys v_boards v_kind v_rows v_outer v_inner v_content v_boxes v_rowOf v_columnOf v_seen v_seenWhat v_seenCan v_pageLength v_page v_isWhole v_newKind v_newRows v_newOuter v_newInner v_newContent v_now v_left v_box v_isCounted v_counted v_given v_isTermed v_terms v_term v_shape v_readBoxes v_readRow v_readColumn v_grid v_often v_seedNow v_isKept v_keptBoard v_keptKind v_keptRows v_keptSeen v_keptOuter v_keptInner v_keptContent v_keptWhat v_keptCan v_h) : ∃ (fx : Int32 × Int32 × Int32 × Int32 × Int32 × (Nat → Int32) × (Nat → Int32) × (Nat → Int32) × (Nat → Int32) × (Nat → Int32) × (Nat → Int32) × (Nat → Int32) × (Nat → Int32) × Int32) (fm : Int32 × Int32 × (Nat → Int32) × (Nat → Int32) × Int32 × Int32 × Int32 × (Nat → Int32)), fX7_filling v_fillingsFresh v_pg_codes v_pg_size v_pl_kind v_pl_rows v_pl_outer v_pl_inner v_pl_content v_fi_size v_fi_kind v_fi_codes v_fi_numbers v_fi_left v_fi_g_rowOf v_fi_g_columnOf v_fi_g_before v_fi_g_above v_fi_g_rowStart v_fi_g_size = some fx ∧ fX8_filling v_kind v_rows v_content v_boxes v_rowOf v_columnOf v_pageLength v_page v_now v_left v_box v_isCounted v_counted v_given = some fm ∧ fx.1 = fm.1 ∧ Inv (k + 1) v_saved v_boardsRead fx.2.1 v_productsFresh v_pg_codes fx.2.2.1 v_rd_stage v_rd_digits v_rd_p_kind v_rd_p_rows v_rd_p_outer v_rd_p_inner v_rd_p_content v_pl_kind v_pl_rows v_pl_outer v_pl_inner v_pl_content v_dr_kind v_dr_rows v_dr_outer v_dr_inner v_dr_content v_ob_size v_ob_kinds v_sp_kind v_sp_rows v_sp_outer v_sp_inner v_sp_content v_so_size v_so_kinds fx.2.2.2.1 fx.2.2.2.2.1 fx.2.2.2.2.2.1 fx.2.2.2.2.2.2.1 fx.2.2.2.2.2.2.2.1 fx.2.2.2.2.2.2.2.2.1 fx.2.2.2.2.2.2.2.2.2.1 fx.2.2.2.2.2.2.2.2.2.2.1 fx.2.2.2.2.2.2.2.2.2.2.2.1 fx.2.2.2.2.2.2.2.2.2.2.2.2.1 fx.2.2.2.2.2.2.2.2.2.2.2.2.2 v_pr_size v_pr_multiplicitySum v_pr_boxes v_pr_inner v_pr_used v_pr_left v_pr_ends v_pr_fillingsOf v_pr_keys v_boards v_kind v_rows v_outer v_inner v_content v_boxes v_rowOf v_columnOf v_seen v_seenWhat v_seenCan fm.2.1 v_page v_isWhole v_newKind v_newRows v_newOuter v_newInner v_newContent fm.2.2.1 fm.2.2.2.1 fm.2.2.2.2.1 fm.2.2.2.2.2.1 fm.2.2.2.2.2.2.1 fm.2.2.2.2.2.2.2 v_isTermed v_terms v_term v_shape v_readBoxes v_readRow v_readColumn v_grid v_often v_seedNow v_isKept v_keptBoard v_keptKind v_keptRows v_keptSeen v_keptOuter v_keptInner v_keptContent v_keptWhat v_keptCan v_h := by
  have hI0 := hI
  obtain ⟨pg, B, ob, sv, nbd, h1, ⟨rfl, hX⟩, ⟨rfl, hM⟩, h4, ⟨rfl, rfl, a1, a2, a3⟩, ⟨rfl, rfl, b1, b2, b3⟩, ⟨rfl, l1, l2⟩, h8, h9, h10, h11, h12, h13, h14, h15, h16, h17, h18, h19, h20⟩ := hI
  have hR4 := h4.2.1
  have n9 := h4.2.2.2.2.2.2.1
  have l20 := h1.1
  have bad0 : ∀ J : Int32 → (Nat → Int32) → Option (Int32 × Int32 × (Nat → Int32) × (Nat → Int32) × Int32 × Int32 × Int32 × (Nat → Int32)), fX8_filling_L26 (nI (nbx B)) v_page J fu 0 0 v_given = J 0 v_given := by
    intro J
    obtain ⟨t, ht, -⟩ := fuel (show 0 < fu by unfold fu; omega)
    rw [ht, fX8_filling_L26]
    by_cases e : nI (nbx B) ≤ 0
    · rw [if_pos e]
    · rw [if_neg e, if_pos rfl]
  by_cases hR : bR B = 0
  · refine ⟨(-103, v_fillingsFresh, nI pg.length, v_fi_size, v_fi_kind, v_fi_codes, v_fi_numbers, v_fi_left, v_fi_g_rowOf, v_fi_g_columnOf, v_fi_g_before, v_fi_g_above, v_fi_g_rowStart, v_fi_g_size), (-103, nI pg.length, v_now, v_left, v_box, v_isCounted, v_counted, v_given), ?_, ?_, rfl, Inv_mono hI0⟩
    · unfold fX7_filling
      rw [(no_board hR).1]; rfl
    · unfold fX8_filling fX8_filling_J22 fX8_filling_J23
      rw [(no_board hR).2, bd_s, if_pos rfl, bad0]; rfl
  · by_cases hl : pg.length = nbx B
    · obtain ⟨g', e1, e2⟩ := fill_M h1 hM (by omega) (fX8_filling_J71 (nI (bK B)) (nI (bR B)) v_content (nI (nbx B)) v_rowOf v_columnOf (nI pg.length) v_now v_left v_box v_isCounted v_counted) pg 0 fu v_given rfl (Nat.zero_le _) (by unfold fu; omega) (fun j h => absurd h (Nat.not_lt_zero j))
      have eM : fX8_filling (nI (bK B)) (nI (bR B)) v_content (nI (nbx B)) v_rowOf v_columnOf (nI pg.length) v_page v_now v_left v_box v_isCounted v_counted v_given = fX8_filling_J71 (nI (bK B)) (nI (bR B)) v_content (nI (nbx B)) v_rowOf v_columnOf (nI pg.length) v_now v_left v_box v_isCounted v_counted (if dig pg = true then 1 else 0) g' := by
        unfold fX8_filling fX8_filling_J23
        rw [(a_board hR hR4).2, bd_s, if_neg (by decide), if_pos (by rw [hl])]
        rw [← e2, hl]; rfl
      by_cases hd : dig pg = true
      · have hd2 : ∀ x ∈ fgs pg, 1 ≤ x ∧ x ≤ 4 := by
          unfold dig at hd
          rw [List.all_eq_true] at hd
          intro x hx
          obtain ⟨y, hy, rfl⟩ := List.mem_map.mp hx
          have := of_decide_eq_true (hd y hy)
          omega
        have lg : (fgs pg).length = nbx B := by unfold fgs; rw [List.length_map]; exact hl
        obtain ⟨c', m', l', r', co', be', ab', rs', hF, eF⟩ := f_fresh (num := v_fi_numbers) (left := v_fi_left) h4 a1 a2 a3 h17
        obtain ⟨nw, lf, bx, en⟩ := f_numberOf h4 hR l1 l2 b3 v_now v_left v_box v_isCounted v_counted h19 (e1 hd) lg hd2
        refine ⟨(idxF (fls B) (fgs pg) 0, 1, 0, nI (fls B).length, nI (bK B), c', m', l', r', co', be', ab', rs', nI (nbx B)), (idxF (fls B) (fgs pg) 0, 0, nw, lf, bx, 1, nI (fls B).length, g'), ?_, ?_, rfl, Inv_mono ⟨[], B, ob, sv, nbd, ⟨by decide, fun c h => by cases h⟩, ⟨rfl, fun j h => absurd h (Nat.not_lt_zero j)⟩, ⟨rfl, fun j h => absurd h (Nat.not_lt_zero j)⟩, h4, ⟨rfl, rfl, a1, a2, a3⟩, ⟨rfl, rfl, b1, b2, b3⟩, ⟨rfl, l1, l2⟩, h8, h9, h10, h11, h12, h13, h14, h15, h16, Or.inr ⟨rfl, hF⟩, h18, Or.inr ⟨rfl, rfl⟩, h20⟩⟩
        · unfold fX7_filling fX3_clear
          rw [(a_board hR hR4).1, bd_s, if_pos rfl, f_boxCount hR4 a1 a2 (fun r hr => (h4.2.2.1 r hr).2.2), bd_s, (show fX3_isFillingOf (nI (nbx B)) v_pg_codes (nI pg.length) = some 1 by rw [f_isFillingOf h1 hX n9, if_pos ⟨hl, hd⟩]), bd_s, if_neg (by decide), f_fillingCode h1 hX hd, bd_s, bd_s, eF, bd_s]
          dsimp only
          rw [f_indexOf h4 hF.2.2.2 lg hd2, bd_s]
        · rw [eM, if_pos hd]
          unfold fX8_filling_J71
          rw [if_neg (by decide), en, bd_s]
      · refine ⟨(-103, v_fillingsFresh, nI pg.length, v_fi_size, v_fi_kind, v_fi_codes, v_fi_numbers, v_fi_left, v_fi_g_rowOf, v_fi_g_columnOf, v_fi_g_before, v_fi_g_above, v_fi_g_rowStart, v_fi_g_size), (-103, nI pg.length, v_now, v_left, v_box, v_isCounted, v_counted, g'), ?_, ?_, rfl, Inv_mono hI0⟩
        · unfold fX7_filling
          rw [(a_board hR hR4).1, bd_s, if_pos rfl, f_boxCount hR4 a1 a2 (fun r hr => (h4.2.2.1 r hr).2.2), bd_s, (show fX3_isFillingOf (nI (nbx B)) v_pg_codes (nI pg.length) = some 0 by rw [f_isFillingOf h1 hX n9, if_neg (fun e => hd e.2)]), bd_s, if_pos rfl]; rfl
        · rw [eM, if_neg hd]; rfl
    · refine ⟨(-103, v_fillingsFresh, nI pg.length, v_fi_size, v_fi_kind, v_fi_codes, v_fi_numbers, v_fi_left, v_fi_g_rowOf, v_fi_g_columnOf, v_fi_g_before, v_fi_g_above, v_fi_g_rowStart, v_fi_g_size), (-103, nI pg.length, v_now, v_left, v_box, v_isCounted, v_counted, v_given), ?_, ?_, rfl, Inv_mono hI0⟩
      · unfold fX7_filling
        rw [(a_board hR hR4).1, bd_s, if_pos rfl, f_boxCount hR4 a1 a2 (fun r hr => (h4.2.2.1 r hr).2.2), bd_s, (show fX3_isFillingOf (nI (nbx B)) v_pg_codes (nI pg.length) = some 0 by rw [f_isFillingOf h1 hX n9, if_neg (fun e => hl e.1)]), bd_s, if_pos rfl]; rfl
      · unfold fX8_filling fX8_filling_J22 fX8_filling_J23
        rw [(a_board hR hR4).2, bd_s, if_neg (by decide), if_neg (fun e => hl ((nI_eq (by omega) (by omega)).mp e)), bad0]; rfl
