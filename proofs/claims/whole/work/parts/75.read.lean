theorem st_fault (k : Nat) (v_saved : Int32) (v_boardsRead : Int32) (v_fillingsFresh : Int32) (v_productsFresh : Int32) (v_pg_codes : Nat → Int32) (v_pg_size : Int32) (v_rd_stage : Int32) (v_rd_digits : Int32) (v_rd_p_kind : Int32) (v_rd_p_rows : Int32) (v_rd_p_outer : Nat → Int32) (v_rd_p_inner : Nat → Int32) (v_rd_p_content : Nat → Int32) (v_pl_kind : Int32) (v_pl_rows : Int32) (v_pl_outer : Nat → Int32) (v_pl_inner : Nat → Int32) (v_pl_content : Nat → Int32) (v_dr_kind : Int32) (v_dr_rows : Int32) (v_dr_outer : Nat → Int32) (v_dr_inner : Nat → Int32) (v_dr_content : Nat → Int32) (v_ob_size : Int32) (v_ob_kinds : Int32) (v_sp_kind : Int32) (v_sp_rows : Int32) (v_sp_outer : Nat → Int32) (v_sp_inner : Nat → Int32) (v_sp_content : Nat → Int32) (v_so_size : Int32) (v_so_kinds : Int32) (v_fi_size : Int32) (v_fi_kind : Int32) (v_fi_codes : Nat → Int32) (v_fi_numbers : Nat → Int32) (v_fi_left : Nat → Int32) (v_fi_g_rowOf : Nat → Int32) (v_fi_g_columnOf : Nat → Int32) (v_fi_g_before : Nat → Int32) (v_fi_g_above : Nat → Int32) (v_fi_g_rowStart : Nat → Int32) (v_fi_g_size : Int32) (v_pr_size : Int32) (v_pr_multiplicitySum : Int32) (v_pr_boxes : Int32) (v_pr_inner : Nat → Int32) (v_pr_used : Nat → Int32) (v_pr_left : Nat → Int32) (v_pr_ends : Nat → Nat → Int32) (v_pr_fillingsOf : Nat → Int32) (v_pr_keys : Nat → Int32) (v_boards : Int32) (v_kind : Int32) (v_rows : Int32) (v_outer : Nat → Int32) (v_inner : Nat → Int32) (v_content : Nat → Int32) (v_boxes : Int32) (v_rowOf : Nat → Int32) (v_columnOf : Nat → Int32) (v_seen : Int32) (v_seenWhat : Nat → Int32) (v_seenCan : Nat → Int32) (v_pageLength : Int32) (v_page : Nat → Int32) (v_isWhole : Int32) (v_newKind : Int32) (v_newRows : Int32) (v_newOuter : Nat → Int32) (v_newInner : Nat → Int32) (v_newContent : Nat → Int32) (v_now : Nat → Int32) (v_left : Nat → Int32) (v_box : Int32) (v_isCounted : Int32) (v_counted : Int32) (v_given : Nat → Int32) (v_isTermed : Int32) (v_terms : Int32) (v_term : Nat → Int32) (v_shape : Nat → Int32) (v_readBoxes : Int32) (v_readRow : Nat → Int32) (v_readColumn : Nat → Int32) (v_grid : Nat → Int32) (v_often : Nat → Int32) (v_seedNow : Int64) (v_isKept : Int32) (v_keptBoard : Int32) (v_keptKind : Int32) (v_keptRows : Int32) (v_keptSeen : Int32) (v_keptOuter : Nat → Int32) (v_keptInner : Nat → Int32) (v_keptContent : Nat → Int32) (v_keptWhat : Nat → Int32) (v_keptCan : Nat → Int32) (v_h : Int64) (hk : k < 512) (hI : Inv k v_saved v_boardsRead v_fillingsFresh v_productsFresh v_pg_codes v_pg_size v_rd_stage v_rd_digits v_rd_p_kind v_rd_p_rows v_rd_p_outer v_rd_p_inner v_rd_p_content v_pl_kind v_pl_rows v_pl_outer v_pl_inner v_pl_content v_dr_kind v_dr_rows v_dr_outer v_dr_inner v_dr_content v_ob_size v_ob_kinds v_sp_kind v_sp_rows v_sp_outer v_sp_inner v_sp_content v_so_size v_so_kinds v_fi_size v_fi_kind v_fi_codes v_fi_numbers v_fi_left v_fi_g_rowOf v_fi_g_columnOf v_fi_g_before v_fi_g_above v_fi_g_rowStart v_fi_g_size v_pr_size v_pr_multiplicitySum v_pr_boxes v_pr_inner v_pr_used v_pr_left v_pr_ends v_pr_fillingsOf v_pr_keys v_boards v_kind v_rows v_outer v_inner v_content v_boxes v_rowOf v_columnOf v_seen v_seenWhat v_seenCan v_pageLength v_page v_isWhole v_newKind v_newRows v_newOuter v_newInner v_newContent v_now v_left v_box v_isCounted v_counted v_given v_isTermed v_terms v_term v_shape v_readBoxes v_readRow v_readColumn v_grid v_often v_seedNow v_isKept v_keptBoard v_keptKind v_keptRows v_keptSeen v_keptOuter v_keptInner v_keptContent v_keptWhat v_keptCan v_h) : ∃ (fx : Int32 × Int32 × Int32 × Int32 × Int32 × (Nat → Int32) × (Nat → Int32) × (Nat → Int32)) (fm : Int32 × Int32 × Int32 × Int32 × (Nat → Int32) × (Nat → Int32) × (Nat → Int32)), fX7_fault v_pg_codes v_pg_size v_rd_p_outer v_rd_p_inner v_rd_p_content = some fx ∧ fX8_fault v_pageLength v_page v_newRows v_newOuter v_newInner v_newContent = some fm ∧ fx.1 = fm.1 ∧ Inv (k + 1) v_saved v_boardsRead v_fillingsFresh v_productsFresh v_pg_codes v_pg_size fx.2.1 fx.2.2.1 fx.2.2.2.1 fx.2.2.2.2.1 fx.2.2.2.2.2.1 fx.2.2.2.2.2.2.1 fx.2.2.2.2.2.2.2 v_pl_kind v_pl_rows v_pl_outer v_pl_inner v_pl_content v_dr_kind v_dr_rows v_dr_outer v_dr_inner v_dr_content v_ob_size v_ob_kinds v_sp_kind v_sp_rows v_sp_outer v_sp_inner v_sp_content v_so_size v_so_kinds v_fi_size v_fi_kind v_fi_codes v_fi_numbers v_fi_left v_fi_g_rowOf v_fi_g_columnOf v_fi_g_before v_fi_g_above v_fi_g_rowStart v_fi_g_size v_pr_size v_pr_multiplicitySum v_pr_boxes v_pr_inner v_pr_used v_pr_left v_pr_ends v_pr_fillingsOf v_pr_keys v_boards v_kind v_rows v_outer v_inner v_content v_boxes v_rowOf v_columnOf v_seen v_seenWhat v_seenCan v_pageLength v_page fm.2.1 fm.2.2.1 fm.2.2.2.1 fm.2.2.2.2.1 fm.2.2.2.2.2.1 fm.2.2.2.2.2.2 v_now v_left v_box v_isCounted v_counted v_given v_isTermed v_terms v_term v_shape v_readBoxes v_readRow v_readColumn v_grid v_often v_seedNow v_isKept v_keptBoard v_keptKind v_keptRows v_keptSeen v_keptOuter v_keptInner v_keptContent v_keptWhat v_keptCan v_h := by
  have hI0 := hI
  obtain ⟨pg, B, ob, sv, nbd, h1, ⟨rfl, hX⟩, ⟨rfl, hM⟩, -⟩ := hI
  obtain ⟨st, dg, kd, rw2, f, g, h, e, -⟩ := rdX h1 hX v_rd_p_outer v_rd_p_inner v_rd_p_content
  obtain ⟨w, kd', rw', f', g', h', e', -⟩ := rdM h1 hM v_newRows v_newOuter v_newInner v_newContent
  refine ⟨(nI (rdP pg), st, dg, kd, rw2, f, g, h), (nI (rdP pg), w, kd', rw', f', g', h'), ?_, ?_, rfl, Inv_mono hI0⟩
  · unfold fX7_fault
    rw [e]; rfl
  · unfold fX8_fault
    rw [e']; rfl
theorem f_newBoxes {B : Bd} {outer inner : Nat → Int32} (hR : bR B ≤ 4) (ho : Am (bR B) outer (bo B)) (hi : rq_4 inner (bi B)) (hle : ∀ r, r < bR B → bi B r ≤ bo B r) : fX8_newBoxes (nI (bR B)) outer inner = some (nI (nbx B)) := by
  have L : ∀ (m r n : Nat), r + m = bR B → m < n → fX8_newBoxes_L4 (nI (bR B)) outer inner n (nI (rowsL B r).length) (nI r) = some (nI (nbx B)) := by
    intro m
    induction m with
    | zero =>
      intro r n h hn
      obtain ⟨n, rfl, -⟩ := fuel hn
      rw [fX8_newBoxes_L4, if_pos (nI_le (by omega) (by omega)), show r = bR B by omega]
      rfl
    | succ m ih =>
      intro r n h hn
      obtain ⟨n, rfl, h2⟩ := fuel hn
      have hr4 : r < 4 := by omega
      rw [fX8_newBoxes_L4, if_neg (nI_ge (show r < bR B by omega) (by omega)), gd_in hr4 (by decide), rq_get hi hr4, nI_clamp (by omega), ho r (by omega), nI_sub (hle r (by omega)), nI_add, nI_1, ← rowsL_len]
      exact ih (r + 1) n (by omega) (by omega)
  exact L (bR B) 0 fu (by omega) (by unfold fu; omega)
theorem bd_cp {B : Bd} (hB : BdOK B) (bs w : Int32) (ro co f g h : Nat → Int32) (hf : Am (bR B) f (bo B)) (hg : rq_4 g (bi B)) (hh : rq_4 h (bc B)) (p : Int32) : ∀ (m r n : Nat) (a b c : Nat → Int32), r + m = 4 → m < n → Am r a (bo B) → Am r b (bi B) → Am r c (bc B) → ∃ a' b' c' ro' co', rq_4 a' (bo B) ∧ rq_4 b' (bi B) ∧ rq_4 c' (bc B) ∧ mLay B (nI (nbx B)) ro' co' ∧ fX8_board_L42 bs ro co (p, w, nI (bK B), nI (bR B), f, g, h) n (nI r) a b c = some (nI (nbx B), bs + 1, nI (bK B), nI (bR B), a', b', c', nI (nbx B), ro', co', 0, 0, w, nI (bK B), nI (bR B), f, g, h, 0, 0) := by
  intro m
  induction m with
  | zero =>
    intro r n a b c e hn ha hb hc
    obtain ⟨n, rfl, -⟩ := fuel hn
    have e4 : r = 4 := by omega
    subst e4
    obtain ⟨ro', co', hl, eL⟩ := f_lay hB ha hb ro co
    refine ⟨a, b, c, ro', co', ha, hb, hc, hl, ?_⟩
    rw [fX8_board_L42, if_pos (by decide)]
    dsimp only
    rw [eL]; rfl
  | succ m ih =>
    intro r n a b c e hn ha hb hc
    obtain ⟨n, rfl, h2⟩ := fuel hn
    obtain ⟨a', b', c', ro', co', k1, k2, k3, k4, k5⟩ := ih (r + 1) n (upd a r (nI (bo B r))) (upd b r (nI (bi B r))) (upd c r (nI (bc B r))) (by omega) (by omega) (by have := Am_s r a (bo B) (bo B r) ha; rwa [show updN (bo B) r (bo B r) = bo B from by funext j; unfold updN; split <;> simp_all] at this) (by have := Am_s r b (bi B) (bi B r) hb; rwa [show updN (bi B) r (bi B r) = bi B from by funext j; unfold updN; split <;> simp_all] at this) (by have := Am_s r c (bc B) (bc B r) hc; rwa [show updN (bc B) r (bc B r) = bc B from by funext j; unfold updN; split <;> simp_all] at this)
    refine ⟨a', b', c', ro', co', k1, k2, k3, k4, ?_⟩
    have hR4 := hB.2.1
    have J : fX8_board_J70 (p, w, nI (bK B), nI (bR B), f, g, h) (nI r) a b c (fX8_board_L42 bs ro co (p, w, nI (bK B), nI (bR B), f, g, h) n) (nI (bo B r)) = some (nI (nbx B), bs + 1, nI (bK B), nI (bR B), a', b', c', nI (nbx B), ro', co', 0, 0, w, nI (bK B), nI (bR B), f, g, h, 0, 0) := by
      unfold fX8_board_J70
      dsimp only
      rw [gd_in (show r < 4 by omega) (by decide), nI_1, nI_clamp (by omega), hg r (by omega), hh r (by omega)]
      exact k5
    rw [fX8_board_L42, if_neg (show ¬ 4 ≤ nI r from nI_ge (b := 4) (by omega) (by decide))]
    dsimp only
    by_cases q : r < bR B
    · rw [if_neg (nI_ge q (by omega)), gd_in (show r < 4 by omega) (by decide), nI_clamp (by omega), hf r q]
      exact J
    · rw [if_pos (nI_le (by omega) (by omega))]
      rw [show nI (bo B r) = 0 by rw [(hB.2.2.2.2.1 r (by omega)).1]; rfl] at J
      exact J
theorem rdB_ok {pg : List Nat} (hW : rdW pg) (q1 : PO (rq1 pg).2.1 (rq1 pg).2.2) (q2 : (rq1 pg).2.1 ≤ 4) (q3 : PI (rq1 pg).2.2 (rq2 pg).2.1 (rq2 pg).2.2) (q4 : (rq2 pg).2.1 ≤ (rq1 pg).2.1) (q5 : PC (rq3 pg).2.1 (rq3 pg).2.2) (h9 : nbx (rdB pg) ≤ 9) : BdOK (rdB pg) := by
  have kle := kfn_le (pg.getD 0 0)
  have k5 := hW.1
  refine ⟨?_, q2, ?_, ?_, ?_, fun r => q5 r, h9, fun h => absurd h hW.2.1⟩
  · show kfn (pg.getD 0 0) ≤ 4
    omega
  · intro r hr
    have a := q1.1 r hr
    refine ⟨a.1, a.2, ?_⟩
    show (rq2 pg).2.2 r ≤ (rq1 pg).2.2 r
    by_cases h : r < (rq2 pg).2.1
    · exact (q3.1 r h).1
    · rw [q3.2.2 r (by omega)]; omega
  · intro r hr
    refine ⟨q1.2.1 r hr, ?_⟩
    show (rq2 pg).2.2 (r + 1) ≤ (rq2 pg).2.2 r
    by_cases h : r + 1 < (rq2 pg).2.1
    · exact q3.2.1 r h
    · rw [q3.2.2 (r + 1) (by omega)]; omega
  · intro r hr
    exact ⟨q1.2.2 r hr, q3.2.2 r (Nat.le_trans q4 hr)⟩
theorem st_board (k : Nat) (v_saved : Int32) (v_boardsRead : Int32) (v_fillingsFresh : Int32) (v_productsFresh : Int32) (v_pg_codes : Nat → Int32) (v_pg_size : Int32) (v_rd_stage : Int32) (v_rd_digits : Int32) (v_rd_p_kind : Int32) (v_rd_p_rows : Int32) (v_rd_p_outer : Nat → Int32) (v_rd_p_inner : Nat → Int32) (v_rd_p_content : Nat → Int32) (v_pl_kind : Int32) (v_pl_rows : Int32) (v_pl_outer : Nat → Int32) (v_pl_inner : Nat → Int32) (v_pl_content : Nat → Int32) (v_dr_kind : Int32) (v_dr_rows : Int32) (v_dr_outer : Nat → Int32) (v_dr_inner : Nat → Int32) (v_dr_content : Nat → Int32) (v_ob_size : Int32) (v_ob_kinds : Int32) (v_sp_kind : Int32) (v_sp_rows : Int32) (v_sp_outer : Nat → Int32) (v_sp_inner : Nat → Int32) (v_sp_content : Nat → Int32) (v_so_size : Int32) (v_so_kinds : Int32) (v_fi_size : Int32) (v_fi_kind : Int32) (v_fi_codes : Nat → Int32) (v_fi_numbers : Nat → Int32) (v_fi_left : Nat → Int32) (v_fi_g_rowOf : Nat → Int32) (v_fi_g_columnOf : Nat → Int32) (v_fi_g_before : Nat → Int32) (v_fi_g_above : Nat → Int32) (v_fi_g_rowStart : Nat → Int32) (v_fi_g_size : Int32) (v_pr_size : Int32) (v_pr_multiplicitySum : Int32) (v_pr_boxes : Int32) (v_pr_inner : Nat → Int32) (v_pr_used : Nat → Int32) (v_pr_left : Nat → Int32) (v_pr_ends : Nat → Nat → Int32) (v_pr_fillingsOf : Nat → Int32) (v_pr_keys : Nat → Int32) (v_boards : Int32) (v_kind : Int32) (v_rows : Int32) (v_outer : Nat → Int32) (v_inner : Nat → Int32) (v_content : Nat → Int32) (v_boxes : Int32) (v_rowOf : Nat → Int32) (v_columnOf : Nat → Int32) (v_seen : Int32) (v_seenWhat : Nat → Int32) (v_seenCan : Nat → Int32) (v_pageLength : Int32) (v_page : Nat → Int32) (v_isWhole : Int32) (v_newKind : Int32) (v_newRows : Int32) (v_newOuter : Nat → Int32) (v_newInner : Nat → Int32) (v_newContent : Nat → Int32) (v_now : Nat → Int32) (v_left : Nat → Int32) (v_box : Int32) (v_isCounted : Int32) (v_counted : Int32) (v_given : Nat → Int32) (v_isTermed : Int32) (v_terms : Int32) (v_term : Nat → Int32) (v_shape : Nat → Int32) (v_readBoxes : Int32) (v_readRow : Nat → Int32) (v_readColumn : Nat → Int32) (v_grid : Nat → Int32) (v_often : Nat → Int32) (v_seedNow : Int64) (v_isKept : Int32) (v_keptBoard : Int32) (v_keptKind : Int32) (v_keptRows : Int32) (v_keptSeen : Int32) (v_keptOuter : Nat → Int32) (v_keptInner : Nat → Int32) (v_keptContent : Nat → Int32) (v_keptWhat : Nat → Int32) (v_keptCan : Nat → Int32) (v_h : Int64) (hk : k < 512) (hI : Inv k v_saved v_boardsRead v_fillingsFresh v_productsFresh v_pg_codes v_pg_size v_rd_stage v_rd_digits v_rd_p_kind v_rd_p_rows v_rd_p_outer v_rd_p_inner v_rd_p_content v_pl_kind v_pl_rows v_pl_outer v_pl_inner v_pl_content v_dr_kind v_dr_rows v_dr_outer v_dr_inner v_dr_content v_ob_size v_ob_kinds v_sp_kind v_sp_rows v_sp_outer v_sp_inner v_sp_content v_so_size v_so_kinds v_fi_size v_fi_kind v_fi_codes v_fi_numbers v_fi_left v_fi_g_rowOf v_fi_g_columnOf v_fi_g_before v_fi_g_above v_fi_g_rowStart v_fi_g_size v_pr_size v_pr_multiplicitySum v_pr_boxes v_pr_inner v_pr_used v_pr_left v_pr_ends v_pr_fillingsOf v_pr_keys v_boards v_kind v_rows v_outer v_inner v_content v_boxes v_rowOf v_columnOf v_seen v_seenWhat v_seenCan v_pageLength v_page v_isWhole v_newKind v_newRows v_newOuter v_newInner v_newContent v_now v_left v_box v_isCounted v_counted v_given v_isTermed v_terms v_term v_shape v_readBoxes v_readRow v_readColumn v_grid v_often v_seedNow v_isKept v_keptBoard v_keptKind v_keptRows v_keptSeen v_keptOuter v_keptInner v_keptContent v_keptWhat v_keptCan v_h) : ∃ (fx : Int32 × Int32 × Int32 × Int32 × Int32 × Int32 × Int32 × Int32 × Int32 × Int32 × (Nat → Int32) × (Nat → Int32) × (Nat → Int32) × Int32 × Int32 × (Nat → Int32) × (Nat → Int32) × (Nat → Int32) × Int32 × Int32) (fm : Int32 × Int32 × Int32 × Int32 × (Nat → Int32) × (Nat → Int32) × (Nat → Int32) × Int32 × (Nat → Int32) × (Nat → Int32) × Int32 × Int32 × Int32 × Int32 × Int32 × (Nat → Int32) × (Nat → Int32) × (Nat → Int32) × Int32 × Int32), fX7_board v_saved v_boardsRead v_fillingsFresh v_productsFresh v_pg_codes v_pg_size v_rd_p_outer v_rd_p_inner v_rd_p_content v_pl_kind v_pl_rows v_pl_outer v_pl_inner v_pl_content v_ob_size v_ob_kinds = some fx ∧ fX8_board v_boards v_kind v_rows v_outer v_inner v_content v_boxes v_rowOf v_columnOf v_seen v_pageLength v_page v_newRows v_newOuter v_newInner v_newContent v_isCounted v_isTermed = some fm ∧ fx.1 = fm.1 ∧ Inv (k + 1) fx.2.1 fx.2.2.1 fx.2.2.2.1 fx.2.2.2.2.1 v_pg_codes fx.2.2.2.2.2.1 fx.2.2.2.2.2.2.1 fx.2.2.2.2.2.2.2.1 fx.2.2.2.2.2.2.2.2.1 fx.2.2.2.2.2.2.2.2.2.1 fx.2.2.2.2.2.2.2.2.2.2.1 fx.2.2.2.2.2.2.2.2.2.2.2.1 fx.2.2.2.2.2.2.2.2.2.2.2.2.1 fx.2.2.2.2.2.2.2.2.2.2.2.2.2.1 fx.2.2.2.2.2.2.2.2.2.2.2.2.2.2.1 fx.2.2.2.2.2.2.2.2.2.2.2.2.2.2.2.1 fx.2.2.2.2.2.2.2.2.2.2.2.2.2.2.2.2.1 fx.2.2.2.2.2.2.2.2.2.2.2.2.2.2.2.2.2.1 v_dr_kind v_dr_rows v_dr_outer v_dr_inner v_dr_content fx.2.2.2.2.2.2.2.2.2.2.2.2.2.2.2.2.2.2.1 fx.2.2.2.2.2.2.2.2.2.2.2.2.2.2.2.2.2.2.2 v_sp_kind v_sp_rows v_sp_outer v_sp_inner v_sp_content v_so_size v_so_kinds v_fi_size v_fi_kind v_fi_codes v_fi_numbers v_fi_left v_fi_g_rowOf v_fi_g_columnOf v_fi_g_before v_fi_g_above v_fi_g_rowStart v_fi_g_size v_pr_size v_pr_multiplicitySum v_pr_boxes v_pr_inner v_pr_used v_pr_left v_pr_ends v_pr_fillingsOf v_pr_keys fm.2.1 fm.2.2.1 fm.2.2.2.1 fm.2.2.2.2.1 fm.2.2.2.2.2.1 fm.2.2.2.2.2.2.1 fm.2.2.2.2.2.2.2.1 fm.2.2.2.2.2.2.2.2.1 fm.2.2.2.2.2.2.2.2.2.1 fm.2.2.2.2.2.2.2.2.2.2.1 v_seenWhat v_seenCan fm.2.2.2.2.2.2.2.2.2.2.2.1 v_page fm.2.2.2.2.2.2.2.2.2.2.2.2.1 fm.2.2.2.2.2.2.2.2.2.2.2.2.2.1 fm.2.2.2.2.2.2.2.2.2.2.2.2.2.2.1 fm.2.2.2.2.2.2.2.2.2.2.2.2.2.2.2.1 fm.2.2.2.2.2.2.2.2.2.2.2.2.2.2.2.2.1 fm.2.2.2.2.2.2.2.2.2.2.2.2.2.2.2.2.2.1 v_now v_left v_box fm.2.2.2.2.2.2.2.2.2.2.2.2.2.2.2.2.2.2.1 v_counted v_given fm.2.2.2.2.2.2.2.2.2.2.2.2.2.2.2.2.2.2.2 v_terms v_term v_shape v_readBoxes v_readRow v_readColumn v_grid v_often v_seedNow v_isKept v_keptBoard v_keptKind v_keptRows v_keptSeen v_keptOuter v_keptInner v_keptContent v_keptWhat v_keptCan v_h := by
  have hI0 := hI
  obtain ⟨pg, B, ob, sv, nbd, h1, ⟨rfl, hX⟩, ⟨rfl, hM⟩, h4, h5, h6, h7, h8, h9, h10, h11, rfl, rfl, h14, h15, ⟨kb, hkb, rfl, h16⟩, h17, h18, h19, h20⟩ := hI
  have l20 := h1.1
  obtain ⟨st, dg, kd, rw2, f, g, h, e, wX⟩ := rdX h1 hX v_rd_p_outer v_rd_p_inner v_rd_p_content
  obtain ⟨w, kd', rw', f', g', h', e', wM⟩ := rdM h1 hM v_newRows v_newOuter v_newInner v_newContent
  have eX0 : fX7_board v_saved (nI nbd) v_fillingsFresh v_productsFresh v_pg_codes (nI pg.length) v_rd_p_outer v_rd_p_inner v_rd_p_content v_pl_kind v_pl_rows v_pl_outer v_pl_inner v_pl_content v_ob_size v_ob_kinds = fX7_board_J26 v_saved (nI nbd) v_fillingsFresh v_productsFresh (nI pg.length) v_pl_kind v_pl_rows v_pl_outer v_pl_inner v_pl_content v_ob_size v_ob_kinds (nI (rdP pg), st, dg, kd, rw2, f, g, h) (if nI (rdP pg) = nI pg.length then 1 else 0) := by
    unfold fX7_board
    rw [e, bd_s]
  rcases wM with ⟨hW, rfl, rfl, rfl, m1, m2, m3, q1, q2, q3, q4, q5⟩ | ⟨hW, rfl⟩
  · rcases wX with ⟨-, hP, rfl, hdg, rfl, rfl, x1, x2, x3⟩ | ⟨hn, -⟩
    · have hR4 : bR (rdB pg) ≤ 4 := q2
      have hle : ∀ r, r < bR (rdB pg) → bi (rdB pg) r ≤ bo (rdB pg) r := by
        intro r hr
        show (rq2 pg).2.2 r ≤ (rq1 pg).2.2 r
        by_cases h : r < (rq2 pg).2.1
        · exact (q3.1 r h).1
        · rw [q3.2.2 r (by omega)]; omega
      have bc1 := f_boxCount hR4 x1 x2 hle
      have bc2 := f_newBoxes hR4 m1 m2 hle
      have cmp : fX6_isComplete 3 dg = some 1 := by
        unfold fX6_isComplete
        rw [if_pos rfl, if_neg hdg]; rfl
      have hnb : nbx (rdB pg) < 100 := by
        have h5 : ∀ r, (rowsL (rdB pg) r).length ≤ 5 * r := by
          intro r
          induction r with
          | zero => exact Nat.le_refl 0
          | succ r ih =>
            rw [rowsL_len]
            have := PO_5 q1 r
            have e5 : bo (rdB pg) r ≤ 5 := this
            omega
        have := h5 (bR (rdB pg))
        unfold nbx
        omega
      by_cases h9' : nbx (rdB pg) ≤ 9
      · have hB := rdB_ok hW q1 q2 q3 q4 q5 h9'
        obtain ⟨a', b', c', ro', co', k1, k2, k3, k4, k5⟩ := bd_cp hB (nI nbd) 1 v_rowOf v_columnOf f' g' h' m1 m2 m3 (nI (rdP pg)) 4 0 fu v_outer v_inner v_content (by omega) (by unfold fu; omega) (Am_0 _ _) (Am_0 _ _) (Am_0 _ _)
        rw [nI_1] at k5
        refine ⟨(nI (nbx (rdB pg)), 0, nI (nbd + 1), 0, 0, 0, 3, dg, nI (bK (rdB pg)), nI (bR (rdB pg)), f, g, h, nI (bK (rdB pg)), nI (bR (rdB pg)), va_cpy f v_pl_outer 0 0 4, va_cpy g v_pl_inner 0 0 4, va_cpy h v_pl_content 0 0 4, 0, 31), (nI (nbx (rdB pg)), nI (nbd + 1), nI (bK (rdB pg)), nI (bR (rdB pg)), a', b', c', nI (nbx (rdB pg)), ro', co', 0, 0, 1, nI (bK (rdB pg)), nI (bR (rdB pg)), f', g', h', 0, 0), ?_, ?_, rfl, ⟨[], rdB pg, [], none, nbd + 1, ⟨by decide, fun c h => by cases h⟩, ⟨rfl, fun j h => absurd h (Nat.not_lt_zero j)⟩, ⟨rfl, fun j h => absurd h (Nat.not_lt_zero j)⟩, hB, ⟨rfl, rfl, cpy_rq x1, cpy_rq x2, cpy_rq x3⟩, ⟨rfl, rfl, k1, k2, k3⟩, k4, ⟨by decide, fun q h => by cases h⟩, ⟨rfl, rfl⟩, ⟨rfl, fun j h => absurd h (Nat.not_lt_zero j), fun j h => absurd h (Nat.not_lt_zero j)⟩, by omega, rfl, rfl, trivial, rfl, ⟨kb, by omega, rfl, ?_⟩, Or.inl rfl, Or.inl rfl, Or.inl rfl, Or.inl rfl⟩⟩
        · rw [eX0, if_pos (by rw [hP])]
          unfold fX7_board_J26 fX4_takeOver fX7_planChanged fX3_clear fX2_clear
          rw [if_neg (by decide)]
          dsimp only
          rw [cmp, bd_s, if_neg (by decide), bc1, bd_s, if_pos (show nI (nbx (rdB pg)) ≤ 9 from nI_le (b := 9) h9' (by decide))]
          simp only [bd_s]
          rw [f_boxCount hR4 (cpy_rq x1) (cpy_rq x2) hle, bd_s, nI_1]
        · unfold fX8_board
          rw [e', bd_s]
          dsimp only
          rw [if_neg (by decide), bc2, bd_s, if_pos (show nI (nbx (rdB pg)) ≤ 9 from nI_le (b := 9) h9' (by decide))]
          exact k5
        · cases sv with
          | none =>
            rcases h16 with h | ⟨h, h2⟩
            · exact Or.inl h
            · exact Or.inr ⟨h, by omega⟩
          | some q => exact Or.inr ⟨h16.1, by omega⟩
      · refine ⟨(-103, v_saved, nI nbd, v_fillingsFresh, v_productsFresh, nI pg.length, 3, dg, nI (bK (rdB pg)), nI (bR (rdB pg)), f, g, h, v_pl_kind, v_pl_rows, v_pl_outer, v_pl_inner, v_pl_content, v_ob_size, v_ob_kinds), (-103, nI nbd, v_kind, v_rows, v_outer, v_inner, v_content, v_boxes, v_rowOf, v_columnOf, v_seen, nI pg.length, 1, nI (bK (rdB pg)), nI (bR (rdB pg)), f', g', h', v_isCounted, v_isTermed), ?_, ?_, rfl, Inv_mono hI0⟩
        · rw [eX0, if_pos (by rw [hP])]
          unfold fX7_board_J26 fX7_board_J56
          rw [if_neg (by decide)]
          dsimp only
          rw [cmp, bd_s, if_neg (by decide), bc1, bd_s, if_neg (show ¬ nI (nbx (rdB pg)) ≤ 9 from nI_ge (a := 9) (by omega) (by omega))]
        · unfold fX8_board fX8_board_J21
          rw [e', bd_s]
          dsimp only
          rw [if_neg (by decide), bc2, bd_s, if_neg (show ¬ nI (nbx (rdB pg)) ≤ 9 from nI_ge (a := 9) (by omega) (by omega))]
    · exact absurd hW hn
  · rcases wX with ⟨hn, -⟩ | ⟨-, hn⟩
    · exact absurd hn hW
    · refine ⟨(-103, v_saved, nI nbd, v_fillingsFresh, v_productsFresh, nI pg.length, st, dg, kd, rw2, f, g, h, v_pl_kind, v_pl_rows, v_pl_outer, v_pl_inner, v_pl_content, v_ob_size, v_ob_kinds), (-103, nI nbd, v_kind, v_rows, v_outer, v_inner, v_content, v_boxes, v_rowOf, v_columnOf, v_seen, nI pg.length, 0, kd', rw', f', g', h', v_isCounted, v_isTermed), ?_, ?_, rfl, Inv_mono hI0⟩
      · rw [eX0]
        unfold fX7_board_J26 fX7_board_J56
        by_cases hp : nI (rdP pg) = nI pg.length
        · rw [if_pos hp, if_neg (by decide)]
          dsimp only
          have cmp : fX6_isComplete st dg = some 0 := by
            unfold fX6_isComplete
            rcases hn with h | h | h
            · exact absurd hp h
            · rw [if_neg h]; rfl
            · by_cases h3 : st = 3
              · rw [if_pos h3, if_pos h]; rfl
              · rw [if_neg h3]; rfl
          rw [cmp, bd_s, if_pos rfl]
        · rw [if_neg hp, if_pos rfl]
      · unfold fX8_board fX8_board_J21
        rw [e', bd_s]
        rfl
