theorem BdOK_chg {B : Bd} (hB : BdOK B) {o' i' : Nat → Nat} (h : ∀ r, r < bR B → okN o' i' r) (hz : ∀ r, bR B ≤ r → o' r = 0 ∧ i' r = 0) (h9 : nbx (bK B, bR B, o', i', bc B) ≤ 9) : BdOK (bK B, bR B, o', i', bc B) := by
  have h5 : ∀ r, r < bR B → o' r ≤ 5 := by
    intro r
    induction r with
    | zero => intro hr; have := (h 0 hr).2.1; rw [if_pos rfl] at this; exact this
    | succ r ih =>
      intro hr
      have := (h (r + 1) hr).2.1
      rw [if_neg (by omega), Nat.add_sub_cancel] at this
      exact Nat.le_trans this (ih (by omega))
  refine ⟨hB.1, hB.2.1, fun r hr => ⟨(h r hr).1, h5 r hr, (h r hr).2.2.2⟩, fun r hr => ?_, hz, hB.2.2.2.2.2.1, h9, hB.2.2.2.2.2.2.2⟩
  have q := h (r + 1) hr
  unfold okN at q
  rw [if_neg (by omega), if_neg (by omega), Nat.add_sub_cancel] at q
  exact ⟨q.2.1, q.2.2.1⟩
theorem de_no {R : Nat} (hR : R ≤ 4) {f g : Nat → Int32} {r : Nat} (hr : r < R) (h : ¬ okR f g r) : fX7_draftError (nI R) f g = some (-103) := by
  unfold fX7_draftError
  rw [len_no hR hr h]; rfl
theorem de_ok {B : Bd} (hR : bR B ≤ 4) {f g : Nat → Int32} (hf : rq_4 f (bo B)) (hg : rq_4 g (bi B)) (b1 : ∀ r, r < 4 → bo B r < 100) (b2 : ∀ r, r < 4 → bi B r < 100) (h : ∀ r, r < bR B → okN (bo B) (bi B) r) (hn : nbx B < 100) : fX7_draftError (nI (bR B)) f g = some (if nbx B ≤ 9 then 0 else -104) := by
  unfold fX7_draftError fX7_draftError_J31
  rw [len_ok hR (fun r hr => (okR_N hf hg b1 b2 (by omega)).mpr (h r hr)), bd_s, if_neg (by decide), f_boxCount hR hf hg (fun r hr => (h r hr).2.2.2), bd_s]
  by_cases h9 : nbx B ≤ 9
  · rw [if_pos h9, if_pos (show nI (nbx B) ≤ 9 from nI_le (b := 9) h9 (by decide))]
  · rw [if_neg h9, if_neg (show ¬ nI (nbx B) ≤ 9 from nI_ge (a := 9) (by omega) (by omega))]
theorem grow_iff {B : Bd} (hB : BdOK B) {r v : Nat} (hr : r < bR B) : (∀ r', r' < bR B → okN (updN (bo B) r v) (bi B) r') ↔ (1 ≤ v ∧ v ≤ 5 ∧ bi B r ≤ v ∧ (r = 0 ∨ v ≤ bo B (r - 1)) ∧ (r + 1 = bR B ∨ bo B (r + 1) ≤ v)) := by
  obtain ⟨-, hR, h3, h4, -⟩ := hB
  constructor
  · intro h
    have q := h r hr
    unfold okN updN at q
    rw [if_pos rfl] at q
    have q2 : r + 1 = bR B ∨ bo B (r + 1) ≤ v := by
      by_cases e : r + 1 = bR B
      · exact Or.inl e
      · have q := (h (r + 1) (by omega)).2.1
        unfold updN at q
        rw [if_neg (by omega), if_neg (by omega), if_pos (by omega)] at q
        exact Or.inr q
    by_cases h0 : r = 0
    · rw [if_pos h0, if_pos h0] at q
      exact ⟨q.1, q.2.1, q.2.2.2, Or.inl h0, q2⟩
    · rw [if_neg h0, if_neg h0, if_neg (by omega)] at q
      have := (h3 (r - 1) (by omega)).2.1
      exact ⟨q.1, by omega, q.2.2.2, Or.inr q.2.1, q2⟩
  · intro h r' hr'
    have a := h3 r' hr'
    have b := h4 (r' - 1)
    have hr1 := h3 r hr
    unfold okN updN
    by_cases e : r' = r
    · subst e
      rw [if_pos rfl]
      by_cases h0 : r' = 0
      · rw [if_pos h0, if_pos h0]; omega
      · rw [if_neg h0, if_neg h0, if_neg (by omega)]
        rw [Nat.sub_add_cancel (by omega)] at b
        omega
    · rw [if_neg e]
      by_cases h0 : r' = 0
      · rw [if_pos h0, if_pos h0]; omega
      · rw [if_neg h0, if_neg h0]
        rw [Nat.sub_add_cancel (by omega)] at b
        by_cases e2 : r' - 1 = r
        · rw [if_pos e2]
          have e3 : r' = r + 1 := by omega
          subst e3
          omega
        · rw [if_neg e2]; omega
theorem cut_iff {B : Bd} (hB : BdOK B) {r v : Nat} (hr : r < bR B) : (∀ r', r' < bR B → okN (bo B) (updN (bi B) r v) r') ↔ (v ≤ bo B r ∧ (r = 0 ∨ v ≤ bi B (r - 1)) ∧ (r + 1 = bR B ∨ bi B (r + 1) ≤ v)) := by
  obtain ⟨-, hR, h3, h4, -⟩ := hB
  constructor
  · intro h
    have q := h r hr
    unfold okN updN at q
    rw [if_pos rfl] at q
    have q2 : r + 1 = bR B ∨ bi B (r + 1) ≤ v := by
      by_cases e : r + 1 = bR B
      · exact Or.inl e
      · have q := (h (r + 1) (by omega)).2.2.1
        unfold updN at q
        rw [if_neg (by omega), if_neg (by omega), if_pos (by omega)] at q
        exact Or.inr q
    by_cases h0 : r = 0
    · rw [if_pos h0, if_pos h0] at q
      exact ⟨q.2.2.2, Or.inl h0, q2⟩
    · rw [if_neg h0, if_neg h0, if_neg (by omega)] at q
      exact ⟨q.2.2.2, Or.inr q.2.2.1, q2⟩
  · intro h r' hr'
    have a := h3 r' hr'
    have b := h4 (r' - 1)
    have hr1 := h3 r hr
    unfold okN updN
    by_cases e : r' = r
    · subst e
      rw [if_pos rfl]
      by_cases h0 : r' = 0
      · rw [if_pos h0, if_pos h0]; omega
      · rw [if_neg h0, if_neg h0, if_neg (by omega)]
        rw [Nat.sub_add_cancel (by omega)] at b
        omega
    · rw [if_neg e]
      by_cases h0 : r' = 0
      · rw [if_pos h0, if_pos h0]; omega
      · rw [if_neg h0, if_neg h0]
        rw [Nat.sub_add_cancel (by omega)] at b
        by_cases e2 : r' - 1 = r
        · rw [if_pos e2]
          have e3 : r' = r + 1 := by omega
          subst e3
          omega
        · rw [if_neg e2]; omega
theorem st_grow (k : Nat) (v_saved : Int32) (v_boardsRead : Int32) (v_fillingsFresh : Int32) (v_productsFresh : Int32) (v_pg_codes : Nat → Int32) (v_pg_size : Int32) (v_rd_stage : Int32) (v_rd_digits : Int32) (v_rd_p_kind : Int32) (v_rd_p_rows : Int32) (v_rd_p_outer : Nat → Int32) (v_rd_p_inner : Nat → Int32) (v_rd_p_content : Nat → Int32) (v_pl_kind : Int32) (v_pl_rows : Int32) (v_pl_outer : Nat → Int32) (v_pl_inner : Nat → Int32) (v_pl_content : Nat → Int32) (v_dr_kind : Int32) (v_dr_rows : Int32) (v_dr_outer : Nat → Int32) (v_dr_inner : Nat → Int32) (v_dr_content : Nat → Int32) (v_ob_size : Int32) (v_ob_kinds : Int32) (v_sp_kind : Int32) (v_sp_rows : Int32) (v_sp_outer : Nat → Int32) (v_sp_inner : Nat → Int32) (v_sp_content : Nat → Int32) (v_so_size : Int32) (v_so_kinds : Int32) (v_fi_size : Int32) (v_fi_kind : Int32) (v_fi_codes : Nat → Int32) (v_fi_numbers : Nat → Int32) (v_fi_left : Nat → Int32) (v_fi_g_rowOf : Nat → Int32) (v_fi_g_columnOf : Nat → Int32) (v_fi_g_before : Nat → Int32) (v_fi_g_above : Nat → Int32) (v_fi_g_rowStart : Nat → Int32) (v_fi_g_size : Int32) (v_pr_size : Int32) (v_pr_multiplicitySum : Int32) (v_pr_boxes : Int32) (v_pr_inner : Nat → Int32) (v_pr_used : Nat → Int32) (v_pr_left : Nat → Int32) (v_pr_ends : Nat → Nat → Int32) (v_pr_fillingsOf : Nat → Int32) (v_pr_keys : Nat → Int32) (v_boards : Int32) (v_kind : Int32) (v_rows : Int32) (v_outer : Nat → Int32) (v_inner : Nat → Int32) (v_content : Nat → Int32) (v_boxes : Int32) (v_rowOf : Nat → Int32) (v_columnOf : Nat → Int32) (v_seen : Int32) (v_seenWhat : Nat → Int32) (v_seenCan : Nat → Int32) (v_pageLength : Int32) (v_page : Nat → Int32) (v_isWhole : Int32) (v_newKind : Int32) (v_newRows : Int32) (v_newOuter : Nat → Int32) (v_newInner : Nat → Int32) (v_newContent : Nat → Int32) (v_now : Nat → Int32) (v_left : Nat → Int32) (v_box : Int32) (v_isCounted : Int32) (v_counted : Int32) (v_given : Nat → Int32) (v_isTermed : Int32) (v_terms : Int32) (v_term : Nat → Int32) (v_shape : Nat → Int32) (v_readBoxes : Int32) (v_readRow : Nat → Int32) (v_readColumn : Nat → Int32) (v_grid : Nat → Int32) (v_often : Nat → Int32) (v_seedNow : Int64) (v_isKept : Int32) (v_keptBoard : Int32) (v_keptKind : Int32) (v_keptRows : Int32) (v_keptSeen : Int32) (v_keptOuter : Nat → Int32) (v_keptInner : Nat → Int32) (v_keptContent : Nat → Int32) (v_keptWhat : Nat → Int32) (v_keptCan : Nat → Int32) (v_h : Int64) (p1 : Int32) (p2 : Int32) (hk : k < 512) (hp : p2 = 0 ∨ p2 = 1) (hI : Inv k v_saved v_boardsRead v_fillingsFresh v_productsFresh v_pg_codes v_pg_size v_rd_stage v_rd_digits v_rd_p_kind v_rd_p_rows v_rd_p_outer v_rd_p_inner v_rd_p_content v_pl_kind v_pl_rows v_pl_outer v_pl_inner v_pl_content v_dr_kind v_dr_rows v_dr_outer v_dr_inner v_dr_content v_ob_size v_ob_kinds v_sp_kind v_sp_rows v_sp_outer v_sp_inner v_sp_content v_so_size v_so_kinds v_fi_size v_fi_kind v_fi_codes v_fi_numbers v_fi_left v_fi_g_rowOf v_fi_g_columnOf v_fi_g_before v_fi_g_above v_fi_g_rowStart v_fi_g_size v_pr_size v_pr_multiplicitySum v_pr_boxes v_pr_inner v_pr_used v_pr_left v_pr_ends v_pr_fillingsOf v_pr_keys v_boards v_kind v_rows v_outer v_inner v_content v_boxes v_rowOf v_columnOf v_seen v_seenWhat v_seenCan v_pageLength v_page v_isWhole v_newKind v_newRows v_newOuter v_newInner v_newContent v_now v_left v_box v_isCounted v_counted v_given v_isTermed v_terms v_term v_shape v_readBoxes v_readRow v_readColumn v_grid v_often v_seedNow v_isKept v_keptBoard v_keptKind v_keptRows v_keptSeen v_keptOuter v_keptInner v_keptContent v_keptWhat v_keptCan v_h) : ∃ (fx : Int32 × Int32 × Int32 × Int32 × Int32 × (Nat → Int32) × (Nat → Int32) × (Nat → Int32) × Int32 × Int32 × (Nat → Int32) × (Nat → Int32) × (Nat → Int32)) (fm : Int32 × (Nat → Int32) × Int32 × (Nat → Int32) × (Nat → Int32) × Int32 × Int32), fX7_grow p1 p2 v_fillingsFresh v_productsFresh v_pl_kind v_pl_rows v_pl_outer v_pl_inner v_pl_content v_dr_kind v_dr_rows v_dr_outer v_dr_inner v_dr_content = some fx ∧ fX8_grow p1 p2 v_rows v_outer v_inner v_boxes v_rowOf v_columnOf v_isCounted v_isTermed = some fm ∧ fx.1 = fm.1 ∧ Inv (k + 1) v_saved v_boardsRead fx.2.1 fx.2.2.1 v_pg_codes v_pg_size v_rd_stage v_rd_digits v_rd_p_kind v_rd_p_rows v_rd_p_outer v_rd_p_inner v_rd_p_content fx.2.2.2.1 fx.2.2.2.2.1 fx.2.2.2.2.2.1 fx.2.2.2.2.2.2.1 fx.2.2.2.2.2.2.2.1 fx.2.2.2.2.2.2.2.2.1 fx.2.2.2.2.2.2.2.2.2.1 fx.2.2.2.2.2.2.2.2.2.2.1 fx.2.2.2.2.2.2.2.2.2.2.2.1 fx.2.2.2.2.2.2.2.2.2.2.2.2 v_ob_size v_ob_kinds v_sp_kind v_sp_rows v_sp_outer v_sp_inner v_sp_content v_so_size v_so_kinds v_fi_size v_fi_kind v_fi_codes v_fi_numbers v_fi_left v_fi_g_rowOf v_fi_g_columnOf v_fi_g_before v_fi_g_above v_fi_g_rowStart v_fi_g_size v_pr_size v_pr_multiplicitySum v_pr_boxes v_pr_inner v_pr_used v_pr_left v_pr_ends v_pr_fillingsOf v_pr_keys v_boards v_kind v_rows fm.2.1 v_inner v_content fm.2.2.1 fm.2.2.2.1 fm.2.2.2.2.1 v_seen v_seenWhat v_seenCan v_pageLength v_page v_isWhole v_newKind v_newRows v_newOuter v_newInner v_newContent v_now v_left v_box fm.2.2.2.2.2.1 v_counted v_given fm.2.2.2.2.2.2 v_terms v_term v_shape v_readBoxes v_readRow v_readColumn v_grid v_often v_seedNow v_isKept v_keptBoard v_keptKind v_keptRows v_keptSeen v_keptOuter v_keptInner v_keptContent v_keptWhat v_keptCan v_h := by
  have hI0 := hI
  obtain ⟨pg, B, ob, sv, nbd, h1, h2, h3, h4, ⟨rfl, rfl, a1, a2, a3⟩, ⟨rfl, rfl, b1, b2, b3⟩, ⟨rfl, l1, l2⟩, h8, h9, h10, h11, h12, h13, h14, h15, h16, h17, h18, h19, h20⟩ := hI
  have hR4 := h4.2.1
  obtain ⟨h5o, h5i⟩ := BdOK_b h4
  rcases row_cases p1 hR4 with ⟨e1, e2⟩ | ⟨r, hr, rfl, e1, e2⟩
  · refine ⟨(-101, v_fillingsFresh, v_productsFresh, nI (bK B), nI (bR B), v_pl_outer, v_pl_inner, v_pl_content, v_dr_kind, v_dr_rows, v_dr_outer, v_dr_inner, v_dr_content), (-101, v_outer, nI (nbx B), v_rowOf, v_columnOf, v_isCounted, v_isTermed), ?_, ?_, rfl, Inv_mono hI0⟩
    · unfold fX7_grow
      rw [e1]; rfl
    · unfold fX8_grow
      rw [e2]; rfl
  · have hr4 : r < 4 := by omega
    have hro := h4.2.2.1 r hr
    obtain ⟨v, y, hy, hv, hvw⟩ : ∃ (v : Nat) (y : Int32), (if p2 = 0 then (-1 : Int32) else 1) = y ∧ nI (bo B r) + y = nI v ∧ ((p2 = 0 ∧ v + 1 = bo B r) ∨ (p2 ≠ 0 ∧ v = bo B r + 1)) := by
      by_cases h0 : p2 = 0
      · refine ⟨bo B r - 1, -1, if_pos h0, ?_, Or.inl ⟨h0, by omega⟩⟩
        rw [← nI_sub (show 1 ≤ bo B r by omega), Int32.sub_eq_add_neg]; rfl
      · exact ⟨bo B r + 1, 1, if_neg h0, nI_1 _, Or.inr ⟨h0, rfl⟩⟩
    have hv100 : v < 100 := by omega
    have c1 : rq_4 (va_cpy v_pl_outer v_dr_outer 0 0 4) (bo B) := cpy_rq a1
    have c2 : rq_4 (va_cpy v_pl_inner v_dr_inner 0 0 4) (bi B) := cpy_rq a2
    have c3 : rq_4 (va_cpy v_pl_content v_dr_content 0 0 4) (bc B) := cpy_rq a3
    have eX0 : fX7_grow (nI r) p2 v_fillingsFresh v_productsFresh (nI (bK B)) (nI (bR B)) v_pl_outer v_pl_inner v_pl_content v_dr_kind v_dr_rows v_dr_outer v_dr_inner v_dr_content = fX7_grow_J44 v_fillingsFresh v_productsFresh (nI (bK B)) (nI (bR B)) v_pl_outer v_pl_inner v_pl_content (nI r) (nI (bK B), nI (bR B), va_cpy v_pl_outer v_dr_outer 0 0 4, va_cpy v_pl_inner v_dr_inner 0 0 4, va_cpy v_pl_content v_dr_content 0 0 4) y := by
      unfold fX7_grow fX4_takeOver
      rw [e1, bd_s, if_neg (by decide), bd_s, gd_in hr4 (by decide), hy]
    have eM0 : fX8_grow (nI r) p2 (nI (bR B)) v_outer v_inner (nI (nbx B)) v_rowOf v_columnOf v_isCounted v_isTermed = fX8_grow_J26 (nI (bR B)) v_outer v_inner (nI (nbx B)) v_rowOf v_columnOf v_isCounted v_isTermed (nI r) p2 y := by
      unfold fX8_grow
      rw [e2, bd_s, if_neg (by decide), gd_in hr4 (by decide), hy]
    have g1 : va_cpy v_pl_outer v_dr_outer 0 0 4 (nI r).toNatClampNeg + y = nI v := by rw [rq_get c1 hr4, hv]
    have g2 : v_outer (nI r).toNatClampNeg + y = nI v := by rw [rq_get b1 hr4, hv]
    have u1 := rq_upd c1 r v
    have hb1 : ∀ j, j < 4 → updN (bo B) r v j < 100 := by
      intro j _
      by_cases e : j = r
      · rw [e, updN_eq]; exact hv100
      · rw [updN_ne e]; have := h5o j; omega
    have hb2 : ∀ j, j < 4 → bi B j < 100 := fun j _ => by have := h5i j; omega
    by_cases hc : ∀ r', r' < bR B → okN (updN (bo B) r v) (bi B) r'
    · have hc' := (grow_iff h4 hr).mp hc
      have eN : nbx (bK B, bR B, updN (bo B) r v, bi B, bc B) + (bo B r - bi B r) = nbx B + (v - bi B r) := by
        have := len_change (B := B) (B' := (bK B, bR B, updN (bo B) r v, bi B, bc B)) (bR B) hr (fun j hj => by show updN (bo B) r v j - bi B j = _; rw [updN_ne hj])
        have e : bo ((bK B, bR B, updN (bo B) r v, bi B, bc B) : Bd) r = v := updN_eq
        rw [e] at this
        exact this
      have h9n := h4.2.2.2.2.2.2.1
      have eD := de_ok (B := (bK B, bR B, updN (bo B) r v, bi B, bc B)) hR4 u1 c2 hb1 hb2 hc (by omega)
      by_cases hF : p2 ≠ 0 ∧ nbx B = 9
      · have hv' : v = bo B r + 1 := by
          rcases hvw with q | q
          · exact absurd q.1 hF.1
          · exact q.2
        refine ⟨(-104, v_fillingsFresh, v_productsFresh, nI (bK B), nI (bR B), v_pl_outer, v_pl_inner, v_pl_content, nI (bK B), nI (bR B), upd (va_cpy v_pl_outer v_dr_outer 0 0 4) r (nI v), va_cpy v_pl_inner v_dr_inner 0 0 4, va_cpy v_pl_content v_dr_content 0 0 4), (-104, v_outer, nI (nbx B), v_rowOf, v_columnOf, v_isCounted, v_isTermed), ?_, ?_, rfl, Inv_mono hI0⟩
        · rw [eX0]
          unfold fX7_grow_J44
          dsimp only
          rw [g1, nI_clamp (by omega), eD, if_neg (show ¬ nbx (bK B, bR B, updN (bo B) r v, bi B, bc B) ≤ 9 by omega)]
          rfl
        · rw [eM0]
          unfold fX8_grow_J26
          rw [g2, mbo_ok hR4 hr b1 b2 h5o h5i hc', bd_s, if_neg (by decide), if_neg hF.1, if_pos (by rw [hF.2]; rfl)]
      · have hN9 : nbx (bK B, bR B, updN (bo B) r v, bi B, bc B) ≤ 9 := by
          rcases hvw with q | q
          · omega
          · have : nbx B ≠ 9 := fun e => hF ⟨q.1, e⟩
            omega
        have hBn : BdOK (bK B, bR B, updN (bo B) r v, bi B, bc B) := BdOK_chg h4 hc (fun j hj => by rw [updN_ne (by omega)]; exact h4.2.2.2.2.1 j hj) hN9
        obtain ⟨ro', co', hl, eL⟩ := f_lay hBn (rq_upd b1 r v) b2 v_rowOf v_columnOf
        have eBC := f_boxCount (B := (bK B, bR B, updN (bo B) r v, bi B, bc B)) hR4 (cpy_rq (g := v_pl_outer) u1) (cpy_rq (g := v_pl_inner) c2) (fun j hj => (hc j hj).2.2.2)
        refine ⟨(nI (nbx (bK B, bR B, updN (bo B) r v, bi B, bc B)), 0, 0, nI (bK B), nI (bR B), va_cpy (upd (va_cpy v_pl_outer v_dr_outer 0 0 4) r (nI v)) v_pl_outer 0 0 4, va_cpy (va_cpy v_pl_inner v_dr_inner 0 0 4) v_pl_inner 0 0 4, va_cpy (va_cpy v_pl_content v_dr_content 0 0 4) v_pl_content 0 0 4, nI (bK B), nI (bR B), upd (va_cpy v_pl_outer v_dr_outer 0 0 4) r (nI v), va_cpy v_pl_inner v_dr_inner 0 0 4, va_cpy v_pl_content v_dr_content 0 0 4), (nI (nbx (bK B, bR B, updN (bo B) r v, bi B, bc B)), upd v_outer r (nI v), nI (nbx (bK B, bR B, updN (bo B) r v, bi B, bc B)), ro', co', 0, 0), ?_, ?_, rfl, Inv_mono ⟨pg, (bK B, bR B, updN (bo B) r v, bi B, bc B), ob, sv, nbd, h1, h2, h3, hBn, ⟨rfl, rfl, cpy_rq u1, cpy_rq c2, cpy_rq c3⟩, ⟨rfl, rfl, rq_upd b1 r v, b2, b3⟩, hl, h8, h9, h10, h11, h12, h13, h14, h15, h16, Or.inl rfl, Or.inl rfl, Or.inl rfl, Or.inl rfl⟩⟩
        · rw [eX0]
          unfold fX7_grow_J44
          dsimp only
          rw [g1, nI_clamp (by omega), eD, if_pos hN9, bd_s, if_pos rfl]
          unfold fX4_takeOver fX7_planChanged
          simp only [bd_s]
          rw [eBC]
          rfl
        · rw [eM0]
          unfold fX8_grow_J26
          rw [g2, mbo_ok hR4 hr b1 b2 h5o h5i hc', bd_s, if_neg (by decide)]
          have eJ : fX8_grow_J56 (nI (bR B)) v_outer v_inner v_rowOf v_columnOf (nI r) y () = some (nI (nbx (bK B, bR B, updN (bo B) r v, bi B, bc B)), upd v_outer r (nI v), nI (nbx (bK B, bR B, updN (bo B) r v, bi B, bc B)), ro', co', 0, 0) := by
            unfold fX8_grow_J56
            rw [g2, nI_clamp (by omega), eL]
            rfl
          rw [eJ]
          by_cases hp : p2 = 0
          · rw [if_pos hp]
          · rw [if_neg hp, if_neg (show ¬ nI (nbx B) = 9 from fun e => hF ⟨hp, (nI_eq (b := 9) (by omega) (by decide)).mp e⟩)]
    · refine ⟨(-103, v_fillingsFresh, v_productsFresh, nI (bK B), nI (bR B), v_pl_outer, v_pl_inner, v_pl_content, nI (bK B), nI (bR B), upd (va_cpy v_pl_outer v_dr_outer 0 0 4) r (nI v), va_cpy v_pl_inner v_dr_inner 0 0 4, va_cpy v_pl_content v_dr_content 0 0 4), (-103, v_outer, nI (nbx B), v_rowOf, v_columnOf, v_isCounted, v_isTermed), ?_, ?_, rfl, Inv_mono hI0⟩
      · rw [eX0]
        unfold fX7_grow_J44
        dsimp only
        have : ∃ r', r' < bR B ∧ ¬ okN (updN (bo B) r v) (bi B) r' := by
          apply Classical.byContradiction
          intro hn
          exact hc (fun r' hr' => Classical.byContradiction (fun h => hn ⟨r', hr', h⟩))
        obtain ⟨r', hr', hno⟩ := this
        rw [g1, nI_clamp (by omega), de_no hR4 hr' (fun h => hno ((okR_N u1 c2 hb1 hb2 (by omega)).mp h))]
        rfl
      · rw [eM0]
        unfold fX8_grow_J26
        rw [g2, mbo_no hR4 hr b1 b2 h5o h5i hv100 (fun h => hc ((grow_iff h4 hr).mpr h))]
        rfl

theorem st_cut (k : Nat) (v_saved : Int32) (v_boardsRead : Int32) (v_fillingsFresh : Int32) (v_productsFresh : Int32) (v_pg_codes : Nat → Int32) (v_pg_size : Int32) (v_rd_stage : Int32) (v_rd_digits : Int32) (v_rd_p_kind : Int32) (v_rd_p_rows : Int32) (v_rd_p_outer : Nat → Int32) (v_rd_p_inner : Nat → Int32) (v_rd_p_content : Nat → Int32) (v_pl_kind : Int32) (v_pl_rows : Int32) (v_pl_outer : Nat → Int32) (v_pl_inner : Nat → Int32) (v_pl_content : Nat → Int32) (v_dr_kind : Int32) (v_dr_rows : Int32) (v_dr_outer : Nat → Int32) (v_dr_inner : Nat → Int32) (v_dr_content : Nat → Int32) (v_ob_size : Int32) (v_ob_kinds : Int32) (v_sp_kind : Int32) (v_sp_rows : Int32) (v_sp_outer : Nat → Int32) (v_sp_inner : Nat → Int32) (v_sp_content : Nat → Int32) (v_so_size : Int32) (v_so_kinds : Int32) (v_fi_size : Int32) (v_fi_kind : Int32) (v_fi_codes : Nat → Int32) (v_fi_numbers : Nat → Int32) (v_fi_left : Nat → Int32) (v_fi_g_rowOf : Nat → Int32) (v_fi_g_columnOf : Nat → Int32) (v_fi_g_before : Nat → Int32) (v_fi_g_above : Nat → Int32) (v_fi_g_rowStart : Nat → Int32) (v_fi_g_size : Int32) (v_pr_size : Int32) (v_pr_multiplicitySum : Int32) (v_pr_boxes : Int32) (v_pr_inner : Nat → Int32) (v_pr_used : Nat → Int32) (v_pr_left : Nat → Int32) (v_pr_ends : Nat → Nat → Int32) (v_pr_fillingsOf : Nat → Int32) (v_pr_keys : Nat → Int32) (v_boards : Int32) (v_kind : Int32) (v_rows : Int32) (v_outer : Nat → Int32) (v_inner : Nat → Int32) (v_content : Nat → Int32) (v_boxes : Int32) (v_rowOf : Nat → Int32) (v_columnOf : Nat → Int32) (v_seen : Int32) (v_seenWhat : Nat → Int32) (v_seenCan : Nat → Int32) (v_pageLength : Int32) (v_page : Nat → Int32) (v_isWhole : Int32) (v_newKind : Int32) (v_newRows : Int32) (v_newOuter : Nat → Int32) (v_newInner : Nat → Int32) (v_newContent : Nat → Int32) (v_now : Nat → Int32) (v_left : Nat → Int32) (v_box : Int32) (v_isCounted : Int32) (v_counted : Int32) (v_given : Nat → Int32) (v_isTermed : Int32) (v_terms : Int32) (v_term : Nat → Int32) (v_shape : Nat → Int32) (v_readBoxes : Int32) (v_readRow : Nat → Int32) (v_readColumn : Nat → Int32) (v_grid : Nat → Int32) (v_often : Nat → Int32) (v_seedNow : Int64) (v_isKept : Int32) (v_keptBoard : Int32) (v_keptKind : Int32) (v_keptRows : Int32) (v_keptSeen : Int32) (v_keptOuter : Nat → Int32) (v_keptInner : Nat → Int32) (v_keptContent : Nat → Int32) (v_keptWhat : Nat → Int32) (v_keptCan : Nat → Int32) (v_h : Int64) (p1 : Int32) (p2 : Int32) (hk : k < 512) (hI : Inv k v_saved v_boardsRead v_fillingsFresh v_productsFresh v_pg_codes v_pg_size v_rd_stage v_rd_digits v_rd_p_kind v_rd_p_rows v_rd_p_outer v_rd_p_inner v_rd_p_content v_pl_kind v_pl_rows v_pl_outer v_pl_inner v_pl_content v_dr_kind v_dr_rows v_dr_outer v_dr_inner v_dr_content v_ob_size v_ob_kinds v_sp_kind v_sp_rows v_sp_outer v_sp_inner v_sp_content v_so_size v_so_kinds v_fi_size v_fi_kind v_fi_codes v_fi_numbers v_fi_left v_fi_g_rowOf v_fi_g_columnOf v_fi_g_before v_fi_g_above v_fi_g_rowStart v_fi_g_size v_pr_size v_pr_multiplicitySum v_pr_boxes v_pr_inner v_pr_used v_pr_left v_pr_ends v_pr_fillingsOf v_pr_keys v_boards v_kind v_rows v_outer v_inner v_content v_boxes v_rowOf v_columnOf v_seen v_seenWhat v_seenCan v_pageLength v_page v_isWhole v_newKind v_newRows v_newOuter v_newInner v_newContent v_now v_left v_box v_isCounted v_counted v_given v_isTermed v_terms v_term v_shape v_readBoxes v_readRow v_readColumn v_grid v_often v_seedNow v_isKept v_keptBoard v_keptKind v_keptRows v_keptSeen v_keptOuter v_keptInner v_keptContent v_keptWhat v_keptCan v_h) : ∃ (fx : Int32 × Int32 × Int32 × Int32 × Int32 × (Nat → Int32) × (Nat → Int32) × (Nat → Int32) × Int32 × Int32 × (Nat → Int32) × (Nat → Int32) × (Nat → Int32)) (fm : Int32 × (Nat → Int32) × Int32 × (Nat → Int32) × (Nat → Int32) × Int32 × Int32), fX7_cut p1 p2 v_fillingsFresh v_productsFresh v_pl_kind v_pl_rows v_pl_outer v_pl_inner v_pl_content v_dr_kind v_dr_rows v_dr_outer v_dr_inner v_dr_content = some fx ∧ fX8_cut p1 p2 v_rows v_outer v_inner v_boxes v_rowOf v_columnOf v_isCounted v_isTermed = some fm ∧ fx.1 = fm.1 ∧ Inv (k + 1) v_saved v_boardsRead fx.2.1 fx.2.2.1 v_pg_codes v_pg_size v_rd_stage v_rd_digits v_rd_p_kind v_rd_p_rows v_rd_p_outer v_rd_p_inner v_rd_p_content fx.2.2.2.1 fx.2.2.2.2.1 fx.2.2.2.2.2.1 fx.2.2.2.2.2.2.1 fx.2.2.2.2.2.2.2.1 fx.2.2.2.2.2.2.2.2.1 fx.2.2.2.2.2.2.2.2.2.1 fx.2.2.2.2.2.2.2.2.2.2.1 fx.2.2.2.2.2.2.2.2.2.2.2.1 fx.2.2.2.2.2.2.2.2.2.2.2.2 v_ob_size v_ob_kinds v_sp_kind v_sp_rows v_sp_outer v_sp_inner v_sp_content v_so_size v_so_kinds v_fi_size v_fi_kind v_fi_codes v_fi_numbers v_fi_left v_fi_g_rowOf v_fi_g_columnOf v_fi_g_before v_fi_g_above v_fi_g_rowStart v_fi_g_size v_pr_size v_pr_multiplicitySum v_pr_boxes v_pr_inner v_pr_used v_pr_left v_pr_ends v_pr_fillingsOf v_pr_keys v_boards v_kind v_rows v_outer fm.2.1 v_content fm.2.2.1 fm.2.2.2.1 fm.2.2.2.2.1 v_seen v_seenWhat v_seenCan v_pageLength v_page v_isWhole v_newKind v_newRows v_newOuter v_newInner v_newContent v_now v_left v_box fm.2.2.2.2.2.1 v_counted v_given fm.2.2.2.2.2.2 v_terms v_term v_shape v_readBoxes v_readRow v_readColumn v_grid v_often v_seedNow v_isKept v_keptBoard v_keptKind v_keptRows v_keptSeen v_keptOuter v_keptInner v_keptContent v_keptWhat v_keptCan v_h := by
  have hI0 := hI
  obtain ⟨pg, B, ob, sv, nbd, h1, h2, h3, h4, ⟨rfl, rfl, a1, a2, a3⟩, ⟨rfl, rfl, b1, b2, b3⟩, ⟨rfl, l1, l2⟩, h8, h9, h10, h11, h12, h13, h14, h15, h16, h17, h18, h19, h20⟩ := hI
  have hR4 := h4.2.1
  obtain ⟨h5o, h5i⟩ := BdOK_b h4
  rcases row_cases p1 hR4 with ⟨e1, e2⟩ | ⟨r, hr, rfl, e1, e2⟩
  · refine ⟨(-101, v_fillingsFresh, v_productsFresh, nI (bK B), nI (bR B), v_pl_outer, v_pl_inner, v_pl_content, v_dr_kind, v_dr_rows, v_dr_outer, v_dr_inner, v_dr_content), (-101, v_inner, nI (nbx B), v_rowOf, v_columnOf, v_isCounted, v_isTermed), ?_, ?_, rfl, Inv_mono hI0⟩
    · unfold fX7_cut
      rw [e1]; rfl
    · unfold fX8_cut
      rw [e2]; rfl
  · have hr4 : r < 4 := by omega
    have hro := h4.2.2.1 r hr
    have c1 : rq_4 (va_cpy v_pl_outer v_dr_outer 0 0 4) (bo B) := cpy_rq a1
    have c2 : rq_4 (va_cpy v_pl_inner v_dr_inner 0 0 4) (bi B) := cpy_rq a2
    have c3 : rq_4 (va_cpy v_pl_content v_dr_content 0 0 4) (bc B) := cpy_rq a3
    have bad : ∀ r', r' < bR B → ¬ okR (va_cpy v_pl_outer v_dr_outer 0 0 4) (upd (va_cpy v_pl_inner v_dr_inner 0 0 4) r p2) r' → fX7_cut (nI r) p2 v_fillingsFresh v_productsFresh (nI (bK B)) (nI (bR B)) v_pl_outer v_pl_inner v_pl_content v_dr_kind v_dr_rows v_dr_outer v_dr_inner v_dr_content = some (-103, v_fillingsFresh, v_productsFresh, nI (bK B), nI (bR B), v_pl_outer, v_pl_inner, v_pl_content, nI (bK B), nI (bR B), va_cpy v_pl_outer v_dr_outer 0 0 4, upd (va_cpy v_pl_inner v_dr_inner 0 0 4) r p2, va_cpy v_pl_content v_dr_content 0 0 4) := by
      intro r' hr' hno
      unfold fX7_cut fX4_takeOver
      rw [e1, bd_s, if_neg (by decide), bd_s, gd_in hr4 (by decide), nI_clamp (by omega), de_no hR4 hr' hno]
      rfl
    by_cases hout : p2 < 0 ∨ v_outer r < p2
    · refine ⟨_, (-103, v_inner, nI (nbx B), v_rowOf, v_columnOf, v_isCounted, v_isTermed), bad r hr ?_, ?_, rfl, Inv_mono hI0⟩
      · intro h
        have q := h.2
        unfold upd at q
        rw [if_pos rfl] at q
        rcases hout with h | h
        · exact q.1 h
        · apply q.2.2
          rw [c1 r hr4, ← b1 r hr4]; exact h
      · unfold fX8_cut
        rw [e2, bd_s, if_neg (by decide), mbi_out hR4 hr hout]
        rfl
    · obtain ⟨v, hv31, rfl⟩ := nI_of (show ¬ p2 < 0 from fun h => hout (Or.inl h))
      have hvo : v ≤ bo B r := by
        have q : ¬ v_outer r < nI v := fun h => hout (Or.inr h)
        rw [b1 r hr4, nI_ltI (by omega) hv31] at q
        omega
      have hv100 : v < 100 := by omega
      have u2 := rq_upd c2 r v
      have hb1 : ∀ j, j < 4 → bo B j < 100 := fun j _ => by have := h5o j; omega
      have hb2 : ∀ j, j < 4 → updN (bi B) r v j < 100 := by
        intro j _
        by_cases e : j = r
        · rw [e, updN_eq]; exact hv100
        · rw [updN_ne e]; have := h5i j; omega
      have eM0 : fX8_cut (nI r) (nI v) (nI (bR B)) v_outer v_inner (nI (nbx B)) v_rowOf v_columnOf v_isCounted v_isTermed = (if (r = 0 ∨ v ≤ bi B (r - 1)) ∧ (r + 1 = bR B ∨ bi B (r + 1) ≤ v) then (if ((nI (nbx B) + nI (bi B r)) - nI v) ≤ 9 then (bd (fX8_lay (nI (bR B)) v_outer (upd v_inner r (nI v)) v_rowOf v_columnOf) (fun r_7 => some (nI (bi B r), (upd v_inner r (nI v)), r_7.1, r_7.2.1, r_7.2.2.1, r_7.2.2.2.1, r_7.2.2.2.2))) else (some ((-104), v_inner, nI (nbx B), v_rowOf, v_columnOf, v_isCounted, v_isTermed))) else some (-103, v_inner, nI (nbx B), v_rowOf, v_columnOf, v_isCounted, v_isTermed)) := by
        unfold fX8_cut
        rw [e2, bd_s, if_neg (by decide), mbi hR4 hr b1 b2 h5o h5i hvo, bd_s]
        by_cases hc : (r = 0 ∨ v ≤ bi B (r - 1)) ∧ (r + 1 = bR B ∨ bi B (r + 1) ≤ v)
        · rw [if_pos hc, if_pos hc, if_neg (by decide), gd_in hr4 (by decide), rq_get b2 hr4, nI_clamp (by omega)]
        · rw [if_neg hc, if_neg hc, if_pos rfl]
      by_cases hc : ∀ r', r' < bR B → okN (bo B) (updN (bi B) r v) r'
      · have hc' := (cut_iff h4 hr).mp hc
        have eN : nbx (bK B, bR B, bo B, updN (bi B) r v, bc B) + (bo B r - bi B r) = nbx B + (bo B r - v) := by
          have := len_change (B := B) (B' := (bK B, bR B, bo B, updN (bi B) r v, bc B)) (bR B) hr (fun j hj => by show bo B j - updN (bi B) r v j = _; rw [updN_ne hj])
          have e : bi ((bK B, bR B, bo B, updN (bi B) r v, bc B) : Bd) r = v := updN_eq
          rw [e] at this
          exact this
        have h9n := h4.2.2.2.2.2.2.1
        have eD := de_ok (B := (bK B, bR B, bo B, updN (bi B) r v, bc B)) hR4 c1 u2 hb1 hb2 hc (by omega)
        have eS : (nI (nbx B) + nI (bi B r)) - nI v = nI (nbx (bK B, bR B, bo B, updN (bi B) r v, bc B)) := by
          rw [nI_add, nI_sub (by omega)]
          congr 1
          omega
        rw [eM0, if_pos hc'.2, eS]
        by_cases hN9 : nbx (bK B, bR B, bo B, updN (bi B) r v, bc B) ≤ 9
        · have hBn : BdOK (bK B, bR B, bo B, updN (bi B) r v, bc B) := BdOK_chg h4 hc (fun j hj => by rw [updN_ne (by omega)]; exact h4.2.2.2.2.1 j hj) hN9
          obtain ⟨ro', co', hl, eL⟩ := f_lay hBn b1 (rq_upd b2 r v) v_rowOf v_columnOf
          refine ⟨(nI (bi B r), 0, 0, nI (bK B), nI (bR B), va_cpy (va_cpy v_pl_outer v_dr_outer 0 0 4) v_pl_outer 0 0 4, va_cpy (upd (va_cpy v_pl_inner v_dr_inner 0 0 4) r (nI v)) v_pl_inner 0 0 4, va_cpy (va_cpy v_pl_content v_dr_content 0 0 4) v_pl_content 0 0 4, nI (bK B), nI (bR B), va_cpy v_pl_outer v_dr_outer 0 0 4, upd (va_cpy v_pl_inner v_dr_inner 0 0 4) r (nI v), va_cpy v_pl_content v_dr_content 0 0 4), (nI (bi B r), upd v_inner r (nI v), nI (nbx (bK B, bR B, bo B, updN (bi B) r v, bc B)), ro', co', 0, 0), ?_, ?_, rfl, Inv_mono ⟨pg, (bK B, bR B, bo B, updN (bi B) r v, bc B), ob, sv, nbd, h1, h2, h3, hBn, ⟨rfl, rfl, cpy_rq c1, cpy_rq u2, cpy_rq c3⟩, ⟨rfl, rfl, b1, rq_upd b2 r v, b3⟩, hl, h8, h9, h10, h11, h12, h13, h14, h15, h16, Or.inl rfl, Or.inl rfl, Or.inl rfl, Or.inl rfl⟩⟩
          · unfold fX7_cut fX4_takeOver
            rw [e1, bd_s, if_neg (by decide), bd_s, gd_in hr4 (by decide), nI_clamp (by omega), eD, if_pos hN9, bd_s, if_pos rfl, a2 r hr4]
            rfl
          · rw [if_pos (show nI (nbx (bK B, bR B, bo B, updN (bi B) r v, bc B)) ≤ 9 from nI_le (b := 9) hN9 (by decide)), eL]
            rfl
        · refine ⟨(-104, v_fillingsFresh, v_productsFresh, nI (bK B), nI (bR B), v_pl_outer, v_pl_inner, v_pl_content, nI (bK B), nI (bR B), va_cpy v_pl_outer v_dr_outer 0 0 4, upd (va_cpy v_pl_inner v_dr_inner 0 0 4) r (nI v), va_cpy v_pl_content v_dr_content 0 0 4), (-104, v_inner, nI (nbx B), v_rowOf, v_columnOf, v_isCounted, v_isTermed), ?_, ?_, rfl, Inv_mono hI0⟩
          · unfold fX7_cut fX4_takeOver
            rw [e1, bd_s, if_neg (by decide), bd_s, gd_in hr4 (by decide), nI_clamp (by omega), eD, if_neg hN9, bd_s]
            rfl
          · rw [if_neg (show ¬ nI (nbx (bK B, bR B, bo B, updN (bi B) r v, bc B)) ≤ 9 from nI_ge (a := 9) (by omega) (by omega))]
      · have : ∃ r', r' < bR B ∧ ¬ okN (bo B) (updN (bi B) r v) r' := by
          apply Classical.byContradiction
          intro hn
          exact hc (fun r' hr' => Classical.byContradiction (fun h => hn ⟨r', hr', h⟩))
        obtain ⟨r', hr', hno⟩ := this
        refine ⟨_, (-103, v_inner, nI (nbx B), v_rowOf, v_columnOf, v_isCounted, v_isTermed), bad r' hr' (fun h => hno ((okR_N c1 u2 hb1 hb2 (by omega)).mp h)), ?_, rfl, Inv_mono hI0⟩
        rw [eM0, if_neg (fun h => hc ((cut_iff h4 hr).mpr ⟨hvo, h⟩))]
theorem st_give (k : Nat) (v_saved : Int32) (v_boardsRead : Int32) (v_fillingsFresh : Int32) (v_productsFresh : Int32) (v_pg_codes : Nat → Int32) (v_pg_size : Int32) (v_rd_stage : Int32) (v_rd_digits : Int32) (v_rd_p_kind : Int32) (v_rd_p_rows : Int32) (v_rd_p_outer : Nat → Int32) (v_rd_p_inner : Nat → Int32) (v_rd_p_content : Nat → Int32) (v_pl_kind : Int32) (v_pl_rows : Int32) (v_pl_outer : Nat → Int32) (v_pl_inner : Nat → Int32) (v_pl_content : Nat → Int32) (v_dr_kind : Int32) (v_dr_rows : Int32) (v_dr_outer : Nat → Int32) (v_dr_inner : Nat → Int32) (v_dr_content : Nat → Int32) (v_ob_size : Int32) (v_ob_kinds : Int32) (v_sp_kind : Int32) (v_sp_rows : Int32) (v_sp_outer : Nat → Int32) (v_sp_inner : Nat → Int32) (v_sp_content : Nat → Int32) (v_so_size : Int32) (v_so_kinds : Int32) (v_fi_size : Int32) (v_fi_kind : Int32) (v_fi_codes : Nat → Int32) (v_fi_numbers : Nat → Int32) (v_fi_left : Nat → Int32) (v_fi_g_rowOf : Nat → Int32) (v_fi_g_columnOf : Nat → Int32) (v_fi_g_before : Nat → Int32) (v_fi_g_above : Nat → Int32) (v_fi_g_rowStart : Nat → Int32) (v_fi_g_size : Int32) (v_pr_size : Int32) (v_pr_multiplicitySum : Int32) (v_pr_boxes : Int32) (v_pr_inner : Nat → Int32) (v_pr_used : Nat → Int32) (v_pr_left : Nat → Int32) (v_pr_ends : Nat → Nat → Int32) (v_pr_fillingsOf : Nat → Int32) (v_pr_keys : Nat → Int32) (v_boards : Int32) (v_kind : Int32) (v_rows : Int32) (v_outer : Nat → Int32) (v_inner : Nat → Int32) (v_content : Nat → Int32) (v_boxes : Int32) (v_rowOf : Nat → Int32) (v_columnOf : Nat → Int32) (v_seen : Int32) (v_seenWhat : Nat → Int32) (v_seenCan : Nat → Int32) (v_pageLength : Int32) (v_page : Nat → Int32) (v_isWhole : Int32) (v_newKind : Int32) (v_newRows : Int32) (v_newOuter : Nat → Int32) (v_newInner : Nat → Int32) (v_newContent : Nat → Int32) (v_now : Nat → Int32) (v_left : Nat → Int32) (v_box : Int32) (v_isCounted : Int32) (v_counted : Int32) (v_given : Nat → Int32) (v_isTermed : Int32) (v_terms : Int32) (v_term : Nat → Int32) (v_shape : Nat → Int32) (v_readBoxes : Int32) (v_readRow : Nat → Int32) (v_readColumn : Nat → Int32) (v_grid : Nat → Int32) (v_often : Nat → Int32) (v_seedNow : Int64) (v_isKept : Int32) (v_keptBoard : Int32) (v_keptKind : Int32) (v_keptRows : Int32) (v_keptSeen : Int32) (v_keptOuter : Nat → Int32) (v_keptInner : Nat → Int32) (v_keptContent : Nat → Int32) (v_keptWhat : Nat → Int32) (v_keptCan : Nat → Int32) (v_h : Int64) (p1 : Int32) (p2 : Int32) (hk : k < 512) (hI : Inv k v_saved v_boardsRead v_fillingsFresh v_productsFresh v_pg_codes v_pg_size v_rd_stage v_rd_digits v_rd_p_kind v_rd_p_rows v_rd_p_outer v_rd_p_inner v_rd_p_content v_pl_kind v_pl_rows v_pl_outer v_pl_inner v_pl_content v_dr_kind v_dr_rows v_dr_outer v_dr_inner v_dr_content v_ob_size v_ob_kinds v_sp_kind v_sp_rows v_sp_outer v_sp_inner v_sp_content v_so_size v_so_kinds v_fi_size v_fi_kind v_fi_codes v_fi_numbers v_fi_left v_fi_g_rowOf v_fi_g_columnOf v_fi_g_before v_fi_g_above v_fi_g_rowStart v_fi_g_size v_pr_size v_pr_multiplicitySum v_pr_boxes v_pr_inner v_pr_used v_pr_left v_pr_ends v_pr_fillingsOf v_pr_keys v_boards v_kind v_rows v_outer v_inner v_content v_boxes v_rowOf v_columnOf v_seen v_seenWhat v_seenCan v_pageLength v_page v_isWhole v_newKind v_newRows v_newOuter v_newInner v_newContent v_now v_left v_box v_isCounted v_counted v_given v_isTermed v_terms v_term v_shape v_readBoxes v_readRow v_readColumn v_grid v_often v_seedNow v_isKept v_keptBoard v_keptKind v_keptRows v_keptSeen v_keptOuter v_keptInner v_keptContent v_keptWhat v_keptCan v_h) : ∃ (fx : Int32 × Int32 × Int32 × (Nat → Int32)) (fm : Int32 × (Nat → Int32) × Int32 × (Nat → Int32) × (Nat → Int32) × Int32 × Int32), fX7_give p1 p2 v_fillingsFresh v_productsFresh v_pl_rows v_pl_content = some fx ∧ fX8_give p1 p2 v_rows v_outer v_inner v_content v_boxes v_rowOf v_columnOf v_isCounted v_isTermed = some fm ∧ fx.1 = fm.1 ∧ Inv (k + 1) v_saved v_boardsRead fx.2.1 fx.2.2.1 v_pg_codes v_pg_size v_rd_stage v_rd_digits v_rd_p_kind v_rd_p_rows v_rd_p_outer v_rd_p_inner v_rd_p_content v_pl_kind v_pl_rows v_pl_outer v_pl_inner fx.2.2.2 v_dr_kind v_dr_rows v_dr_outer v_dr_inner v_dr_content v_ob_size v_ob_kinds v_sp_kind v_sp_rows v_sp_outer v_sp_inner v_sp_content v_so_size v_so_kinds v_fi_size v_fi_kind v_fi_codes v_fi_numbers v_fi_left v_fi_g_rowOf v_fi_g_columnOf v_fi_g_before v_fi_g_above v_fi_g_rowStart v_fi_g_size v_pr_size v_pr_multiplicitySum v_pr_boxes v_pr_inner v_pr_used v_pr_left v_pr_ends v_pr_fillingsOf v_pr_keys v_boards v_kind v_rows v_outer v_inner fm.2.1 fm.2.2.1 fm.2.2.2.1 fm.2.2.2.2.1 v_seen v_seenWhat v_seenCan v_pageLength v_page v_isWhole v_newKind v_newRows v_newOuter v_newInner v_newContent v_now v_left v_box fm.2.2.2.2.2.1 v_counted v_given fm.2.2.2.2.2.2 v_terms v_term v_shape v_readBoxes v_readRow v_readColumn v_grid v_often v_seedNow v_isKept v_keptBoard v_keptKind v_keptRows v_keptSeen v_keptOuter v_keptInner v_keptContent v_keptWhat v_keptCan v_h := by
  have hI0 := hI
  obtain ⟨pg, B, ob, sv, nbd, h1, h2, h3, h4, ⟨rfl, rfl, a1, a2, a3⟩, ⟨rfl, rfl, b1, b2, b3⟩, ⟨rfl, l1, l2⟩, h8, h9, h10, h11, h12, h13, h14, h15, h16, h17, h18, h19, h20⟩ := hI
  have hR4 := h4.2.1
  rcases num_cases p1 with ⟨e1, e2⟩ | ⟨c, hc, rfl, e1, e2⟩
  · refine ⟨(-102, v_fillingsFresh, v_productsFresh, v_pl_content), (-102, v_content, nI (nbx B), v_rowOf, v_columnOf, v_isCounted, v_isTermed), ?_, ?_, rfl, Inv_mono hI0⟩
    · unfold fX7_give
      rw [e1]; rfl
    · unfold fX8_give
      rw [e2]; rfl
  · rcases num_cases p2 with ⟨f1, f2⟩ | ⟨d, hd, rfl, f1, f2⟩
    · refine ⟨(-102, v_fillingsFresh, v_productsFresh, v_pl_content), (-102, v_content, nI (nbx B), v_rowOf, v_columnOf, v_isCounted, v_isTermed), ?_, ?_, rfl, Inv_mono hI0⟩
      · unfold fX7_give
        rw [e1, f1]; rfl
      · unfold fX8_give
        rw [e2, f2]; rfl
    · by_cases hR : bR B = 0
      · refine ⟨(-103, v_fillingsFresh, v_productsFresh, v_pl_content), (-103, v_content, nI (nbx B), v_rowOf, v_columnOf, v_isCounted, v_isTermed), ?_, ?_, rfl, Inv_mono hI0⟩
        · unfold fX7_give
          rw [e1, f1, (no_board hR).1]; rfl
        · unfold fX8_give
          rw [e2, f2, (no_board hR).2]; rfl
      · have m1 : ∀ n, nI (n + 1) - 1 = nI n := fun n => by rw [show (1 : Int32) = nI 1 from rfl, nI_sub (by omega), Nat.add_sub_cancel]
        have hC := h4.2.2.2.2.2.1
        have c9 := hC c
        have d9 := hC d
        have eX0 : fX7_give (nI (c + 1)) (nI (d + 1)) v_fillingsFresh v_productsFresh (nI (bR B)) v_pl_content = if nI (bc B c) = 0 then some (-103, v_fillingsFresh, v_productsFresh, v_pl_content) else if nI (bc B d) < 9 then some ((upd (upd v_pl_content c (nI (bc B c) - 1)) d ((upd v_pl_content c (nI (bc B c) - 1)) d + 1)) d, 0, 0, upd (upd v_pl_content c (nI (bc B c) - 1)) d ((upd v_pl_content c (nI (bc B c) - 1)) d + 1)) else some (-104, v_fillingsFresh, v_productsFresh, v_pl_content) := by
          unfold fX7_give fX7_planChanged
          rw [e1, bd_s, if_neg (by decide), f1, bd_s, if_neg (by decide), (a_board hR hR4).1, bd_s, if_pos rfl, m1, m1, gd_in hc (by decide), gd_in hd (by decide), rq_get a3 hc, rq_get a3 hd, nI_clamp (by omega), nI_clamp (by omega)]
          rfl
        have eM0 : fX8_give (nI (c + 1)) (nI (d + 1)) (nI (bR B)) v_outer v_inner v_content (nI (nbx B)) v_rowOf v_columnOf v_isCounted v_isTermed = if nI (bc B c) = 0 then some (-103, v_content, nI (nbx B), v_rowOf, v_columnOf, v_isCounted, v_isTermed) else if nI (bc B d) = 9 then some (-104, v_content, nI (nbx B), v_rowOf, v_columnOf, v_isCounted, v_isTermed) else bd (fX8_lay (nI (bR B)) v_outer v_inner v_rowOf v_columnOf) (fun r_11 => some ((upd (upd v_content c (nI (bc B c) - 1)) d ((upd v_content c (nI (bc B c) - 1)) d + 1)) d, upd (upd v_content c (nI (bc B c) - 1)) d ((upd v_content c (nI (bc B c) - 1)) d + 1), r_11.1, r_11.2.1, r_11.2.2.1, r_11.2.2.2.1, r_11.2.2.2.2)) := by
          unfold fX8_give
          rw [e2, bd_s, if_neg (by decide), f2, bd_s, if_neg (by decide), (a_board hR hR4).2, bd_s, if_neg (by decide), m1, m1, gd_in hc (by decide), gd_in hd (by decide), rq_get b3 hc, rq_get b3 hd, nI_clamp (by omega), nI_clamp (by omega)]
          rfl
        by_cases h0 : bc B c = 0
        · refine ⟨(-103, v_fillingsFresh, v_productsFresh, v_pl_content), (-103, v_content, nI (nbx B), v_rowOf, v_columnOf, v_isCounted, v_isTermed), ?_, ?_, rfl, Inv_mono hI0⟩
          · rw [eX0, h0]; rfl
          · rw [eM0, h0]; rfl
        · have n0 : ¬ nI (bc B c) = 0 := nI_ne0 (by omega) (by omega)
          by_cases h9' : bc B d = 9
          · refine ⟨(-104, v_fillingsFresh, v_productsFresh, v_pl_content), (-104, v_content, nI (nbx B), v_rowOf, v_columnOf, v_isCounted, v_isTermed), ?_, ?_, rfl, Inv_mono hI0⟩
            · rw [eX0, if_neg n0, h9']; rfl
            · rw [eM0, if_neg n0, h9']; rfl
          · have s1 : nI (bc B c) - 1 = nI (bc B c - 1) := by rw [show (1 : Int32) = nI 1 from rfl, nI_sub (by omega)]
            have w1 := rq_upd a3 c (bc B c - 1)
            have w2 := rq_upd b3 c (bc B c - 1)
            have x1 := rq_upd w1 d (updN (bc B) c (bc B c - 1) d + 1)
            have x2 := rq_upd w2 d (updN (bc B) c (bc B c - 1) d + 1)
            have y1 : upd v_pl_content c (nI (bc B c - 1)) d + 1 = nI (updN (bc B) c (bc B c - 1) d + 1) := by rw [w1 d hd, nI_1]
            have y2 : upd v_content c (nI (bc B c - 1)) d + 1 = nI (updN (bc B) c (bc B c - 1) d + 1) := by rw [w2 d hd, nI_1]
            have hBn : BdOK (bK B, bR B, bo B, bi B, updN (updN (bc B) c (bc B c - 1)) d (updN (bc B) c (bc B c - 1) d + 1)) := by
              refine ⟨h4.1, h4.2.1, h4.2.2.1, h4.2.2.2.1, h4.2.2.2.2.1, ?_, ?_, fun h => absurd h hR⟩
              · intro j
                show updN (updN (bc B) c (bc B c - 1)) d (updN (bc B) c (bc B c - 1) d + 1) j ≤ 9
                have j9 := hC j
                unfold updN
                by_cases q1 : j = d
                · rw [if_pos q1]
                  by_cases q2 : d = c
                  · rw [if_pos q2]; omega
                  · rw [if_neg q2]; omega
                · rw [if_neg q1]
                  by_cases q2 : j = c
                  · rw [if_pos q2]; omega
                  · rw [if_neg q2]; omega
              · have e := rowsL_upto (B := B) (B' := (bK B, bR B, bo B, bi B, updN (updN (bc B) c (bc B c - 1)) d (updN (bc B) c (bc B c - 1) d + 1))) (bR B) (fun j _ => rfl)
                show (rowsL _ (bR B)).length ≤ 9
                rw [e]; exact h4.2.2.2.2.2.2.1
            obtain ⟨ro', co', hl, eL⟩ := f_lay hBn b1 b2 v_rowOf v_columnOf
            refine ⟨(nI (updN (bc B) c (bc B c - 1) d + 1), 0, 0, upd (upd v_pl_content c (nI (bc B c - 1))) d (nI (updN (bc B) c (bc B c - 1) d + 1))), (nI (updN (bc B) c (bc B c - 1) d + 1), upd (upd v_content c (nI (bc B c - 1))) d (nI (updN (bc B) c (bc B c - 1) d + 1)), nI (nbx (bK B, bR B, bo B, bi B, updN (updN (bc B) c (bc B c - 1)) d (updN (bc B) c (bc B c - 1) d + 1))), ro', co', 0, 0), ?_, ?_, rfl, Inv_mono ⟨pg, (bK B, bR B, bo B, bi B, updN (updN (bc B) c (bc B c - 1)) d (updN (bc B) c (bc B c - 1) d + 1)), ob, sv, nbd, h1, h2, h3, hBn, ⟨rfl, rfl, a1, a2, x1⟩, ⟨rfl, rfl, b1, b2, x2⟩, hl, h8, h9, h10, h11, h12, h13, h14, h15, h16, Or.inl rfl, Or.inl rfl, Or.inl rfl, Or.inl rfl⟩⟩
            · rw [eX0, if_neg n0, if_pos (show nI (bc B d) < 9 from nI_lt (b := 9) (by omega) (by decide)), s1, y1]
              unfold upd
              rw [if_pos rfl]
            · rw [eM0, if_neg n0, if_neg (show ¬ nI (bc B d) = 9 from fun e => h9' ((nI_eq (b := 9) (by omega) (by decide)).mp e)), s1, y2, eL, bd_s]
              unfold upd
              rw [if_pos rfl]
