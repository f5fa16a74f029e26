theorem img_in (bo2 kd rw2 bx sn : Int32) (w c ko ki kc : Nat → Int32) : ∀ (m r n : Nat) (kw kn : Nat → Int32), r + m = 6 → m < n → fX8_image_L98 bo2 kd rw2 bx sn w c ko ki kc n (nI r) kw kn = some (bx, 1, bo2, kd, rw2, sn, ko, ki, kc, cpF w kw r 6, cpF c kn r 6) := by
  intro m
  induction m with
  | zero =>
    intro r n kw kn h hn
    obtain ⟨n, rfl, -⟩ := fuel hn
    have e : r = 6 := by omega
    subst e
    rw [fX8_image_L98, if_pos (show 6 ≤ nI 6 from nI_le (Nat.le_refl 6) (by decide)), cpF_end, cpF_end]
  | succ m ih =>
    intro r n kw kn h hn
    obtain ⟨n, rfl, h2⟩ := fuel hn
    rw [fX8_image_L98, if_neg (show ¬ 6 ≤ nI r from nI_ge (b := 6) (by omega) (by decide)), gd_in (show r < 6 by omega) (by decide), nI_clamp (by omega), nI_1, ih (r + 1) n _ _ (by omega) (by omega), cpF_step w kw (by omega), cpF_step c kn (by omega)]
theorem img_out (bo2 kd rw2 : Int32) (o i t : Nat → Int32) (bx sn : Int32) (w c kw kn : Nat → Int32) : ∀ (m r n : Nat) (ko ki kc : Nat → Int32), r + m = 4 → m < n → fX8_image_L49 bo2 kd rw2 o i t bx sn w c kw kn n (nI r) ko ki kc = some (bx, 1, bo2, kd, rw2, sn, cpF o ko r 4, cpF i ki r 4, cpF t kc r 4, cpF w kw 0 6, cpF c kn 0 6) := by
  intro m
  induction m with
  | zero =>
    intro r n ko ki kc h hn
    obtain ⟨n, rfl, -⟩ := fuel hn
    have e : r = 4 := by omega
    subst e
    rw [fX8_image_L49, if_pos (show 4 ≤ nI 4 from nI_le (Nat.le_refl 4) (by decide)), cpF_end, cpF_end, cpF_end]
    exact img_in _ _ _ _ _ _ _ _ _ _ 6 0 fu kw kn (by omega) (by unfold fu; omega)
  | succ m ih =>
    intro r n ko ki kc h hn
    obtain ⟨n, rfl, h2⟩ := fuel hn
    rw [fX8_image_L49, if_neg (show ¬ 4 ≤ nI r from nI_ge (b := 4) (by omega) (by decide)), gd_in (show r < 4 by omega) (by decide), nI_clamp (by omega), nI_1, ih (r + 1) n _ _ _ (by omega) (by omega), cpF_step o ko (by omega), cpF_step i ki (by omega), cpF_step t kc (by omega)]
theorem st_image (k : Nat) (v_saved : Int32) (v_boardsRead : Int32) (v_fillingsFresh : Int32) (v_productsFresh : Int32) (v_pg_codes : Nat → Int32) (v_pg_size : Int32) (v_rd_stage : Int32) (v_rd_digits : Int32) (v_rd_p_kind : Int32) (v_rd_p_rows : Int32) (v_rd_p_outer : Nat → Int32) (v_rd_p_inner : Nat → Int32) (v_rd_p_content : Nat → Int32) (v_pl_kind : Int32) (v_pl_rows : Int32) (v_pl_outer : Nat → Int32) (v_pl_inner : Nat → Int32) (v_pl_content : Nat → Int32) (v_dr_kind : Int32) (v_dr_rows : Int32) (v_dr_outer : Nat → Int32) (v_dr_inner : Nat → Int32) (v_dr_content : Nat → Int32) (v_ob_size : Int32) (v_ob_kinds : Int32) (v_sp_kind : Int32) (v_sp_rows : Int32) (v_sp_outer : Nat → Int32) (v_sp_inner : Nat → Int32) (v_sp_content : Nat → Int32) (v_so_size : Int32) (v_so_kinds : Int32) (v_fi_size : Int32) (v_fi_kind : Int32) (v_fi_codes : Nat → Int32) (v_fi_numbers : Nat → Int32) (v_fi_left : Nat → Int32) (v_fi_g_rowOf : Nat → Int32) (v_fi_g_columnOf : Nat → Int32) (v_fi_g_before : Nat → Int32) (v_fi_g_above : Nat → Int32) (v_fi_g_rowStart : Nat → Int32) (v_fi_g_size : Int32) (v_pr_size : Int32) (v_pr_multiplicitySum : Int32) (v_pr_boxes : Int32) (v_pr_inner : Nat → Int32) (v_pr_used : Nat → Int32) (v_pr_left : Nat → Int32) (v_pr_ends : Nat → Nat → Int32) (v_pr_fillingsOf : Nat → Int32) (v_pr_keys : Nat → Int32) (v_boards : Int32) (v_kind : Int32) (v_rows : Int32) (v_outer : Nat → Int32) (v_inner : Nat → Int32) (v_content : Nat → Int32) (v_boxes : Int32) (v_rowOf : Nat → Int32) (v_columnOf : Nat → Int32) (v_seen : Int32) (v_seenWhat : Nat → Int32) (v_seenCan : Nat → Int32) (v_pageLength : Int32) (v_page : Nat → Int32) (v_isWhole : Int32) (v_newKind : Int32) (v_newRows : Int32) (v_newOuter : Nat → Int32) (v_newInner : Nat → Int32) (v_newContent : Nat → Int32) (v_now : Nat → Int32) (v_left : Nat → Int32) (v_box : Int32) (v_isCounted : Int32) (v_counted : Int32) (v_given : Nat → Int32) (v_isTermed : Int32) (v_terms : Int32) (v_term : Nat → Int32) (v_shape : Nat → Int32) (v_readBoxes : Int32) (v_readRow : Nat → Int32) (v_readColumn : Nat → Int32) (v_grid : Nat → Int32) (v_often : Nat → Int32) (v_seedNow : Int64) (v_isKept : Int32) (v_keptBoard : Int32) (v_keptKind : Int32) (v_keptRows : Int32) (v_keptSeen : Int32) (v_keptOuter : Nat → Int32) (v_keptInner : Nat → Int32) (v_keptContent : Nat → Int32) (v_keptWhat : Nat → Int32) (v_keptCan : Nat → Int32) (v_h : Int64) (hk : k < 512) (hI : Inv k v_saved v_boardsRead v_fillingsFresh v_productsFresh v_pg_codes v_pg_size v_rd_stage v_rd_digits v_rd_p_kind v_rd_p_rows v_rd_p_outer v_rd_p_inner v_rd_p_content v_pl_kind v_pl_rows v_pl_outer v_pl_inner v_pl_content v_dr_kind v_dr_rows v_dr_outer v_dr_inner v_dr_content v_ob_size v_ob_kinds v_sp_kind v_sp_rows v_sp_outer v_sp_inner v_sp_content v_so_size v_so_kinds v_fi_size v_fi_kind v_fi_codes v_fi_numbers v_fi_left v_fi_g_rowOf v_fi_g_columnOf v_fi_g_before v_fi_g_above v_fi_g_rowStart v_fi_g_size v_pr_size v_pr_multiplicitySum v_pr_boxes v_pr_inner v_pr_used v_pr_left v_pr_ends v_pr_fillingsOf v_pr_keys v_boards v_kind v_rows v_outer v_inner v_content v_boxes v_rowOf v_columnOf v_seen v_seenWhat v_seenCan v_pageLength v_page v_isWhole v_newKind v_newRows v_newOuter v_newInner v_newContent v_now v_left v_box v_isCounted v_counted v_given v_isTermed v_terms v_term v_shape v_readBoxes v_readRow v_readColumn v_grid v_often v_seedNow v_isKept v_keptBoard v_keptKind v_keptRows v_keptSeen v_keptOuter v_keptInner v_keptContent v_keptWhat v_keptCan v_h) : ∃ (fx : Int32 × Int32 × Int32 × Int32 × (Nat → Int32) × (Nat → Int32) × (Nat → Int32) × Int32 × Int32) (fm : Int32 × Int32 × Int32 × Int32 × Int32 × Int32 × (Nat → Int32) × (Nat → Int32) × (Nat → Int32) × (Nat → Int32) × (Nat → Int32)), fX7_image v_saved v_pl_kind v_pl_rows v_pl_outer v_pl_inner v_pl_content v_ob_size v_ob_kinds v_sp_kind v_sp_rows v_sp_outer v_sp_inner v_sp_content v_so_size v_so_kinds = some fx ∧ fX8_image v_boards v_kind v_rows v_outer v_inner v_content v_boxes v_seen v_seenWhat v_seenCan v_isKept v_keptBoard v_keptKind v_keptRows v_keptSeen v_keptOuter v_keptInner v_keptContent v_keptWhat v_keptCan = some fm ∧ fx.1 = fm.1 ∧ Inv (k + 1) fx.2.1 v_boardsRead v_fillingsFresh v_productsFresh v_pg_codes v_pg_size v_rd_stage v_rd_digits v_rd_p_kind v_rd_p_rows v_rd_p_outer v_rd_p_inner v_rd_p_content v_pl_kind v_pl_rows v_pl_outer v_pl_inner v_pl_content v_dr_kind v_dr_rows v_dr_outer v_dr_inner v_dr_content v_ob_size v_ob_kinds fx.2.2.1 fx.2.2.2.1 fx.2.2.2.2.1 fx.2.2.2.2.2.1 fx.2.2.2.2.2.2.1 fx.2.2.2.2.2.2.2.1 fx.2.2.2.2.2.2.2.2 v_fi_size v_fi_kind v_fi_codes v_fi_numbers v_fi_left v_fi_g_rowOf v_fi_g_columnOf v_fi_g_before v_fi_g_above v_fi_g_rowStart v_fi_g_size v_pr_size v_pr_multiplicitySum v_pr_boxes v_pr_inner v_pr_used v_pr_left v_pr_ends v_pr_fillingsOf v_pr_keys v_boards v_kind v_rows v_outer v_inner v_content v_boxes v_rowOf v_columnOf v_seen v_seenWhat v_seenCan v_pageLength v_page v_isWhole v_newKind v_newRows v_newOuter v_newInner v_newContent v_now v_left v_box v_isCounted v_counted v_given v_isTermed v_terms v_term v_shape v_readBoxes v_readRow v_readColumn v_grid v_often v_seedNow fm.2.1 fm.2.2.1 fm.2.2.2.1 fm.2.2.2.2.1 fm.2.2.2.2.2.1 fm.2.2.2.2.2.2.1 fm.2.2.2.2.2.2.2.1 fm.2.2.2.2.2.2.2.2.1 fm.2.2.2.2.2.2.2.2.2.1 fm.2.2.2.2.2.2.2.2.2.2 v_h := by
  have hI0 := hI
  obtain ⟨pg, B, ob, sv, nbd, h1, h2, h3, h4, ⟨rfl, rfl, a1, a2, a3⟩, ⟨rfl, rfl, b1, b2, b3⟩, ⟨rfl, l1, l2⟩, h8, ⟨rfl, rfl⟩, ⟨rfl, q1, q2⟩, h11, rfl, rfl, h14, h15, h16, h17, h18, h19, h20⟩ := hI
  by_cases hR : bR B = 0
  · refine ⟨(-103, v_saved, v_sp_kind, v_sp_rows, v_sp_outer, v_sp_inner, v_sp_content, v_so_size, v_so_kinds), (-103, v_isKept, v_keptBoard, v_keptKind, v_keptRows, v_keptSeen, v_keptOuter, v_keptInner, v_keptContent, v_keptWhat, v_keptCan), ?_, ?_, rfl, Inv_mono hI0⟩
    · unfold fX7_image
      rw [(no_board hR).1]; rfl
    · unfold fX8_image
      rw [(no_board hR).2]; rfl
  · have eX : fX7_image v_saved (nI (bK B)) (nI (bR B)) v_pl_outer v_pl_inner v_pl_content (nI ob.length) (kof ob) v_sp_kind v_sp_rows v_sp_outer v_sp_inner v_sp_content v_so_size v_so_kinds = some (nI (nbx B), 1, nI (bK B), nI (bR B), va_cpy v_pl_outer v_sp_outer 0 0 4, va_cpy v_pl_inner v_sp_inner 0 0 4, va_cpy v_pl_content v_sp_content 0 0 4, nI ob.length, kof ob) := by
      unfold fX7_image fX4_takeOver fX2_takeOver
      rw [(a_board hR h4.2.1).1, f_boxCount h4.2.1 a1 a2 (fun r hr => (h4.2.2.1 r hr).2.2)]
      rfl
    have eM := img_out (nI nbd) (nI (bK B)) (nI (bR B)) v_outer v_inner v_content (nI (nbx B)) (nI ob.length) v_seenWhat v_seenCan v_keptWhat v_keptCan 4 0 fu v_keptOuter v_keptInner v_keptContent (by omega) (by unfold fu; omega)
    have eM2 : fX8_image (nI nbd) (nI (bK B)) (nI (bR B)) v_outer v_inner v_content (nI (nbx B)) (nI ob.length) v_seenWhat v_seenCan v_isKept v_keptBoard v_keptKind v_keptRows v_keptSeen v_keptOuter v_keptInner v_keptContent v_keptWhat v_keptCan = fX8_image_L49 (nI nbd) (nI (bK B)) (nI (bR B)) v_outer v_inner v_content (nI (nbx B)) (nI ob.length) v_seenWhat v_seenCan v_keptWhat v_keptCan fu (nI 0) v_keptOuter v_keptInner v_keptContent := by
      unfold fX8_image
      rw [(a_board hR h4.2.1).2, bd_s, if_neg (by decide)]
      rfl
    have eM2 := eM2.trans eM
    refine ⟨_, _, eX, eM2, rfl, Inv_mono ⟨pg, B, ob, some (B, ob), nbd, h1, h2, h3, h4, ⟨rfl, rfl, a1, a2, a3⟩, ⟨rfl, rfl, b1, b2, b3⟩, ⟨rfl, l1, l2⟩, h8, ⟨rfl, rfl⟩, ⟨rfl, q1, q2⟩, h11, rfl, rfl, ⟨h4, hR, h8⟩, ⟨rfl, ⟨rfl, rfl, cpy_rq a1, cpy_rq a2, cpy_rq a3⟩, rfl, rfl⟩, ⟨nbd, Nat.le_refl nbd, rfl, rfl, rfl, ⟨rfl, rfl, cpF_rq b1, cpF_rq b2, cpF_rq b3⟩, rfl, cpF_agr q1 ?_, cpF_agr q2 ?_⟩, h17, h18, h19, h20⟩⟩
    · rw [List.length_map]; exact h8.1
    · rw [List.length_map]; exact h8.1
theorem rst_in (ro co : Nat → Int32) (kd sn : Int32) (w c : Nat → Int32) {B : Bd} (hB : BdOK B) {o i t : Nat → Int32} (ho : rq_4 o (bo B)) (hi : rq_4 i (bi B)) : ∃ ro' co', mLay B (nI (nbx B)) ro' co' ∧ ∀ (m r n : Nat) (kw kn : Nat → Int32), r + m = 6 → m < n → fX8_restore_L96 ro co kd (nI (bR B)) sn w c o i t n (nI r) kw kn = some (nI (nbx B), kd, nI (bR B), o, i, t, nI (nbx B), ro', co', sn, cpF w kw r 6, cpF c kn r 6, 0, 0) := by
  obtain ⟨ro', co', hl, e⟩ := f_lay hB ho hi ro co
  refine ⟨ro', co', hl, ?_⟩
  intro m
  induction m with
  | zero =>
    intro r n kw kn h hn
    obtain ⟨n, rfl, -⟩ := fuel hn
    have e6 : r = 6 := by omega
    subst e6
    rw [fX8_restore_L96, if_pos (show 6 ≤ nI 6 from nI_le (Nat.le_refl 6) (by decide)), cpF_end, cpF_end, e]
    rfl
  | succ m ih =>
    intro r n kw kn h hn
    obtain ⟨n, rfl, h2⟩ := fuel hn
    rw [fX8_restore_L96, if_neg (show ¬ 6 ≤ nI r from nI_ge (b := 6) (by omega) (by decide)), gd_in (show r < 6 by omega) (by decide), nI_clamp (by omega), nI_1, ih (r + 1) n _ _ (by omega) (by omega), cpF_step w kw (by omega), cpF_step c kn (by omega)]
theorem rst_out (ro co kw kn : Nat → Int32) (kd sn : Int32) (w c : Nat → Int32) {B : Bd} (hB : BdOK B) {o i t : Nat → Int32} (ho : rq_4 o (bo B)) (hi : rq_4 i (bi B)) : ∀ (m r n : Nat) (a b d : Nat → Int32), r + m = 4 → m < n → rq_4 (cpF o a r 4) (bo B) → rq_4 (cpF i b r 4) (bi B) → ∃ ro' co', mLay B (nI (nbx B)) ro' co' ∧ fX8_restore_L47 ro co kw kn kd (nI (bR B)) sn o i t w c n (nI r) a b d = some (nI (nbx B), kd, nI (bR B), cpF o a r 4, cpF i b r 4, cpF t d r 4, nI (nbx B), ro', co', sn, cpF w kw 0 6, cpF c kn 0 6, 0, 0) := by
  intro m
  induction m with
  | zero =>
    intro r n a b d h hn h1 h2
    obtain ⟨n, rfl, -⟩ := fuel hn
    have e4 : r = 4 := by omega
    subst e4
    rw [cpF_end] at h1 h2
    obtain ⟨ro', co', hl, e⟩ := rst_in ro co kd sn w c (t := d) hB h1 h2
    refine ⟨ro', co', hl, ?_⟩
    rw [fX8_restore_L47, if_pos (show 4 ≤ nI 4 from nI_le (Nat.le_refl 4) (by decide)), cpF_end, cpF_end, cpF_end]
    exact e 6 0 fu kw kn (by omega) (by unfold fu; omega)
  | succ m ih =>
    intro r n a b d h hn h1 h2
    obtain ⟨n, rfl, h3⟩ := fuel hn
    rw [← cpF_step o a (show r < 4 by omega)] at h1
    rw [← cpF_step i b (show r < 4 by omega)] at h2
    obtain ⟨ro', co', hl, e⟩ := ih (r + 1) n (upd a r (o r)) (upd b r (i r)) (upd d r (t r)) (by omega) (by omega) h1 h2
    refine ⟨ro', co', hl, ?_⟩
    rw [fX8_restore_L47, if_neg (show ¬ 4 ≤ nI r from nI_ge (b := 4) (by omega) (by decide)), gd_in (show r < 4 by omega) (by decide), nI_clamp (by omega), nI_1, e, cpF_step o a (by omega), cpF_step i b (by omega), cpF_step t d (by omega)]
theorem st_restore (k : Nat) (v_saved : Int32) (v_boardsRead : Int32) (v_fillingsFresh : Int32) (v_productsFresh : Int32) (v_pg_codes : Nat → Int32) (v_pg_size : Int32) (v_rd_stage : Int32) (v_rd_digits : Int32) (v_rd_p_kind : Int32) (v_rd_p_rows : Int32) (v_rd_p_outer : Nat → Int32) (v_rd_p_inner : Nat → Int32) (v_rd_p_content : Nat → Int32) (v_pl_kind : Int32) (v_pl_rows : Int32) (v_pl_outer : Nat → Int32) (v_pl_inner : Nat → Int32) (v_pl_content : Nat → Int32) (v_dr_kind : Int32) (v_dr_rows : Int32) (v_dr_outer : Nat → Int32) (v_dr_inner : Nat → Int32) (v_dr_content : Nat → Int32) (v_ob_size : Int32) (v_ob_kinds : Int32) (v_sp_kind : Int32) (v_sp_rows : Int32) (v_sp_outer : Nat → Int32) (v_sp_inner : Nat → Int32) (v_sp_content : Nat → Int32) (v_so_size : Int32) (v_so_kinds : Int32) (v_fi_size : Int32) (v_fi_kind : Int32) (v_fi_codes : Nat → Int32) (v_fi_numbers : Nat → Int32) (v_fi_left : Nat → Int32) (v_fi_g_rowOf : Nat → Int32) (v_fi_g_columnOf : Nat → Int32) (v_fi_g_before : Nat → Int32) (v_fi_g_above : Nat → Int32) (v_fi_g_rowStart : Nat → Int32) (v_fi_g_size : Int32) (v_pr_size : Int32) (v_pr_multiplicitySum : Int32) (v_pr_boxes : Int32) (v_pr_inner : Nat → Int32) (v_pr_used : Nat → Int32) (v_pr_left : Nat → Int32) (v_pr_ends : Nat → Nat → Int32) (v_pr_fillingsOf : Nat → Int32) (v_pr_keys : Nat → Int32) (v_boards : Int32) (v_kind : Int32) (v_rows : Int32) (v_outer : Nat → Int32) (v_inner : Nat → Int32) (v_content : Nat → Int32) (v_boxes : Int32) (v_rowOf : Nat → Int32) (v_columnOf : Nat → Int32) (v_seen : Int32) (v_seenWhat : Nat → Int32) (v_seenCan : Nat → Int32) (v_pageLength : Int32) (v_page : Nat → Int32) (v_isWhole : Int32) (v_newKind : Int32) (v_newRows : Int32) (v_newOuter : Nat → Int32) (v_newInner : Nat → Int32) (v_newContent : Nat → Int32) (v_now : Nat → Int32) (v_left : Nat → Int32) (v_box : Int32) (v_isCounted : Int32) (v_counted : Int32) (v_given : Nat → Int32) (v_isTermed : Int32) (v_terms : Int32) (v_term : Nat → Int32) (v_shape : Nat → Int32) (v_readBoxes : Int32) (v_readRow : Nat → Int32) (v_readColumn : Nat → Int32) (v_grid : Nat → Int32) (v_often : Nat → Int32) (v_seedNow : Int64) (v_isKept : Int32) (v_keptBoard : Int32) (v_keptKind : Int32) (v_keptRows : Int32) (v_keptSeen : Int32) (v_keptOuter : Nat → Int32) (v_keptInner : Nat → Int32) (v_keptContent : Nat → Int32) (v_keptWhat : Nat → Int32) (v_keptCan : Nat → Int32) (v_h : Int64) (hk : k < 512) (hI : Inv k v_saved v_boardsRead v_fillingsFresh v_productsFresh v_pg_codes v_pg_size v_rd_stage v_rd_digits v_rd_p_kind v_rd_p_rows v_rd_p_outer v_rd_p_inner v_rd_p_content v_pl_kind v_pl_rows v_pl_outer v_pl_inner v_pl_content v_dr_kind v_dr_rows v_dr_outer v_dr_inner v_dr_content v_ob_size v_ob_kinds v_sp_kind v_sp_rows v_sp_outer v_sp_inner v_sp_content v_so_size v_so_kinds v_fi_size v_fi_kind v_fi_codes v_fi_numbers v_fi_left v_fi_g_rowOf v_fi_g_columnOf v_fi_g_before v_fi_g_above v_fi_g_rowStart v_fi_g_size v_pr_size v_pr_multiplicitySum v_pr_boxes v_pr_inner v_pr_used v_pr_left v_pr_ends v_pr_fillingsOf v_pr_keys v_boards v_kind v_rows v_outer v_inner v_content v_boxes v_rowOf v_columnOf v_seen v_seenWhat v_seenCan v_pageLength v_page v_isWhole v_newKind v_newRows v_newOuter v_newInner v_newContent v_now v_left v_box v_isCounted v_counted v_given v_isTermed v_terms v_term v_shape v_readBoxes v_readRow v_readColumn v_grid v_often v_seedNow v_isKept v_keptBoard v_keptKind v_keptRows v_keptSeen v_keptOuter v_keptInner v_keptContent v_keptWhat v_keptCan v_h) : ∃ (fx : Int32 × Int32 × Int32 × Int32 × Int32 × (Nat → Int32) × (Nat → Int32) × (Nat → Int32) × Int32 × Int32) (fm : Int32 × Int32 × Int32 × (Nat → Int32) × (Nat → Int32) × (Nat → Int32) × Int32 × (Nat → Int32) × (Nat → Int32) × Int32 × (Nat → Int32) × (Nat → Int32) × Int32 × Int32), fX7_restore v_saved v_fillingsFresh v_productsFresh v_pl_kind v_pl_rows v_pl_outer v_pl_inner v_pl_content v_ob_size v_ob_kinds v_sp_kind v_sp_rows v_sp_outer v_sp_inner v_sp_content v_so_size v_so_kinds = some fx ∧ fX8_restore v_boards v_kind v_rows v_outer v_inner v_content v_boxes v_rowOf v_columnOf v_seen v_seenWhat v_seenCan v_isCounted v_isTermed v_isKept v_keptBoard v_keptKind v_keptRows v_keptSeen v_keptOuter v_keptInner v_keptContent v_keptWhat v_keptCan = some fm ∧ fx.1 = fm.1 ∧ Inv (k + 1) v_saved v_boardsRead fx.2.1 fx.2.2.1 v_pg_codes v_pg_size v_rd_stage v_rd_digits v_rd_p_kind v_rd_p_rows v_rd_p_outer v_rd_p_inner v_rd_p_content fx.2.2.2.1 fx.2.2.2.2.1 fx.2.2.2.2.2.1 fx.2.2.2.2.2.2.1 fx.2.2.2.2.2.2.2.1 v_dr_kind v_dr_rows v_dr_outer v_dr_inner v_dr_content fx.2.2.2.2.2.2.2.2.1 fx.2.2.2.2.2.2.2.2.2 v_sp_kind v_sp_rows v_sp_outer v_sp_inner v_sp_content v_so_size v_so_kinds v_fi_size v_fi_kind v_fi_codes v_fi_numbers v_fi_left v_fi_g_rowOf v_fi_g_columnOf v_fi_g_before v_fi_g_above v_fi_g_rowStart v_fi_g_size v_pr_size v_pr_multiplicitySum v_pr_boxes v_pr_inner v_pr_used v_pr_left v_pr_ends v_pr_fillingsOf v_pr_keys v_boards fm.2.1 fm.2.2.1 fm.2.2.2.1 fm.2.2.2.2.1 fm.2.2.2.2.2.1 fm.2.2.2.2.2.2.1 fm.2.2.2.2.2.2.2.1 fm.2.2.2.2.2.2.2.2.1 fm.2.2.2.2.2.2.2.2.2.1 fm.2.2.2.2.2.2.2.2.2.2.1 fm.2.2.2.2.2.2.2.2.2.2.2.1 v_pageLength v_page v_isWhole v_newKind v_newRows v_newOuter v_newInner v_newContent v_now v_left v_box fm.2.2.2.2.2.2.2.2.2.2.2.2.1 v_counted v_given fm.2.2.2.2.2.2.2.2.2.2.2.2.2 v_terms v_term v_shape v_readBoxes v_readRow v_readColumn v_grid v_often v_seedNow v_isKept v_keptBoard v_keptKind v_keptRows v_keptSeen v_keptOuter v_keptInner v_keptContent v_keptWhat v_keptCan v_h := by
  have hI0 := hI
  obtain ⟨pg, B, ob, sv, nbd, h1, h2, h3, h4, h5, h6, h7, h8, h9, h10, h11, rfl, rfl, h14, h15, ⟨kb, hkb, rfl, h16⟩, h17, h18, h19, h20⟩ := hI
  cases sv with
  | none =>
    have e0 : v_saved = 0 := h15
    subst e0
    refine ⟨(-103, v_fillingsFresh, v_productsFresh, v_pl_kind, v_pl_rows, v_pl_outer, v_pl_inner, v_pl_content, v_ob_size, v_ob_kinds), (-103, v_kind, v_rows, v_outer, v_inner, v_content, v_boxes, v_rowOf, v_columnOf, v_seen, v_seenWhat, v_seenCan, v_isCounted, v_isTermed), rfl, ?_, rfl, Inv_mono hI0⟩
    unfold fX8_restore fX8_restore_J18
    rcases h16 with h | ⟨h, hlt⟩
    · rw [if_pos h]
    · rw [if_neg (by rw [h]; decide), if_neg (fun e => by have := (nI_eq (by omega) (by omega)).mp e; omega)]
  | some q =>
    obtain ⟨B', ob'⟩ := q
    obtain ⟨k1, k2, k3⟩ := h14
    obtain ⟨rfl, ⟨rfl, rfl, s1, s2, s3⟩, rfl, rfl⟩ := h15
    obtain ⟨rfl, rfl, ⟨rfl, rfl, t1, t2, t3⟩, rfl, q1, q2⟩ := h16
    obtain ⟨ro', co', hl, eM⟩ := rst_out v_rowOf v_columnOf v_seenWhat v_seenCan (nI (bK B')) (nI ob'.length) v_keptWhat v_keptCan k1 (t := v_keptContent) t1 t2 4 0 fu v_outer v_inner v_content (by omega) (by unfold fu; omega) (cpF_rq t1) (cpF_rq t2)
    have eM2 : fX8_restore (nI kb) v_kind v_rows v_outer v_inner v_content v_boxes v_rowOf v_columnOf v_seen v_seenWhat v_seenCan v_isCounted v_isTermed 1 (nI kb) (nI (bK B')) (nI (bR B')) (nI ob'.length) v_keptOuter v_keptInner v_keptContent v_keptWhat v_keptCan = fX8_restore_L47 v_rowOf v_columnOf v_seenWhat v_seenCan (nI (bK B')) (nI (bR B')) (nI ob'.length) v_keptOuter v_keptInner v_keptContent v_keptWhat v_keptCan fu (nI 0) v_outer v_inner v_content := by
      unfold fX8_restore
      rw [if_neg (by decide), if_pos rfl]
      rfl
    have eM2 := eM2.trans eM
    refine ⟨(nI (nbx B'), 0, 0, nI (bK B'), nI (bR B'), va_cpy v_sp_outer v_pl_outer 0 0 4, va_cpy v_sp_inner v_pl_inner 0 0 4, va_cpy v_sp_content v_pl_content 0 0 4, nI ob'.length, kof ob'), _, ?_, eM2, rfl, Inv_mono ⟨pg, B', ob', some (B', ob'), kb, h1, h2, h3, k1, ⟨rfl, rfl, cpy_rq s1, cpy_rq s2, cpy_rq s3⟩, ⟨rfl, rfl, cpF_rq t1, cpF_rq t2, cpF_rq t3⟩, hl, k3, ⟨rfl, rfl⟩, ⟨rfl, cpF_agr q1 ?_, cpF_agr q2 ?_⟩, h11, rfl, rfl, ⟨k1, k2, k3⟩, ⟨rfl, ⟨rfl, rfl, s1, s2, s3⟩, rfl, rfl⟩, ⟨kb, Nat.le_refl kb, rfl, rfl, rfl, ⟨rfl, rfl, t1, t2, t3⟩, rfl, q1, q2⟩, Or.inl rfl, Or.inl rfl, Or.inl rfl, Or.inl rfl⟩⟩
    · unfold fX7_restore fX4_takeOver fX2_takeOver fX7_planChanged
      rw [if_neg (by decide)]
      simp only [bd_s]
      rw [f_boxCount k1.2.1 (cpy_rq s1) (cpy_rq s2) (fun r hr => (k1.2.2.1 r hr).2.2)]
      rfl
    · rw [List.length_map]; exact k3.1
    · rw [List.length_map]; exact k3.1
