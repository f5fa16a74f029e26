/-! the state of the searches, and counts -/
abbrev TX : Type := Int32 × Int32 × Int32 × Int32 × (Nat → Int32) × (Nat → Int32) × (Nat → Int32) × (Nat → Int32) × (Nat → Int32) × (Nat → Int32) × (Nat → Int32) × (Nat → Int32) × Int32 × Int32 × Int32 × Int32 × (Nat → Int32) × (Nat → Int32) × (Nat → Int32) × (Nat → Nat → Int32) × (Nat → Int32) × (Nat → Int32)
abbrev TF : Type := Int32 × Int32 × Int32 × (Nat → Int32) × (Nat → Int32) × (Nat → Int32) × (Nat → Int32) × (Nat → Int32) × (Nat → Int32) × (Nat → Int32) × (Nat → Int32) × Int32
abbrev TP : Type := Int32 × Int32 × Int32 × Int32 × (Nat → Int32) × (Nat → Int32) × (Nat → Int32) × (Nat → Nat → Int32) × (Nat → Int32) × (Nat → Int32)
abbrev TM14 : Type := (Nat → Int32) × (Nat → Int32) × Int32 × Int32 × Int32 × Int32 × Int32 × (Nat → Int32) × (Nat → Int32) × Int32 × (Nat → Int32) × (Nat → Int32) × (Nat → Int32) × (Nat → Int32)
abbrev TC5 : Type := (Nat → Int32) × (Nat → Int32) × Int32 × Int32 × Int32
abbrev TT9 : Type := Int32 × Int32 × (Nat → Int32) × (Nat → Int32) × Int32 × (Nat → Int32) × (Nat → Int32) × (Nat → Int32) × (Nat → Int32)
def CXr (B : Bd) (s : TX) : Prop := (s.1 = 0 ∨ (s.1 = 1 ∧ FiI B s.2.2.1 s.2.2.2.1 s.2.2.2.2.1 s.2.2.2.2.2.2.2.1 s.2.2.2.2.2.2.2.2.1 s.2.2.2.2.2.2.2.2.2.1 s.2.2.2.2.2.2.2.2.2.2.1 s.2.2.2.2.2.2.2.2.2.2.2.1 s.2.2.2.2.2.2.2.2.2.2.2.2.1)) ∧ (s.2.1 = 0 ∨ (s.2.1 = 1 ∧ PrI B s.2.2.2.2.2.2.2.2.2.2.2.2.2.1 s.2.2.2.2.2.2.2.2.2.2.2.2.2.2.1 s.2.2.2.2.2.2.2.2.2.2.2.2.2.2.2.1 s.2.2.2.2.2.2.2.2.2.2.2.2.2.2.2.2.1 s.2.2.2.2.2.2.2.2.2.2.2.2.2.2.2.2.2.2.2.2.1 s.2.2.2.2.2.2.2.2.2.2.2.2.2.2.2.2.2.2.2.2.2))
def CFr (B : Bd) (s : TF) : Prop := (s.1 = 0 ∨ (s.1 = 1 ∧ FiI B s.2.1 s.2.2.1 s.2.2.2.1 s.2.2.2.2.2.2.1 s.2.2.2.2.2.2.2.1 s.2.2.2.2.2.2.2.2.1 s.2.2.2.2.2.2.2.2.2.1 s.2.2.2.2.2.2.2.2.2.2.1 s.2.2.2.2.2.2.2.2.2.2.2))
def CPr (B : Bd) (s : TP) : Prop := (s.1 = 0 ∨ (s.1 = 1 ∧ PrI B s.2.1 s.2.2.1 s.2.2.2.1 s.2.2.2.2.1 s.2.2.2.2.2.2.2.2.1 s.2.2.2.2.2.2.2.2.2))
def CMr (B : Bd) (s : TM14) : Prop := (s.2.2.2.1 = 0 ∨ (s.2.2.2.1 = 1 ∧ s.2.2.2.2.1 = nI (fls B).length)) ∧ (s.2.2.2.2.2.1 = 0 ∨ (s.2.2.2.2.2.1 = 1 ∧ TeI B s.2.2.2.2.2.2.1 s.2.2.2.2.2.2.2.1))
def CCr (B : Bd) (s : TC5) : Prop := s.2.2.2.1 = 0 ∨ (s.2.2.2.1 = 1 ∧ s.2.2.2.2 = nI (fls B).length)
def CTr (B : Bd) (s : TT9) : Prop := s.1 = 0 ∨ (s.1 = 1 ∧ TeI B s.2.1 s.2.2.1)
def cI (B : Bd) (obn pgn nbd : Nat) (p : Int32) : Int32 := if p = 0 then nI (nbx B) else if p = 1 then nI (bR B) else if p = 2 then nI (fls B).length else if p = 3 then nI (tms B).length else if p = 4 then nI (tmS (tms B)) else if p = 5 then nI obn else if p = 6 then nI pgn else if p = 7 then nI nbd else -102
theorem f_countX {B : Bd} (hB : BdOK B) {outer inner content : Nat → Int32} (a1 : rq_4 outer (bo B)) (a2 : rq_4 inner (bi B)) (a3 : rq_4 content (bc B)) (obn pgn nbd : Nat) (p : Int32) {s : TX} (hs : CXr B s) : ∃ r, fX7_count p (nI nbd) s.1 s.2.1 (nI pgn) (nI (bK B)) (nI (bR B)) outer inner content (nI obn) s.2.2.1 s.2.2.2.1 s.2.2.2.2.1 s.2.2.2.2.2.1 s.2.2.2.2.2.2.1 s.2.2.2.2.2.2.2.1 s.2.2.2.2.2.2.2.2.1 s.2.2.2.2.2.2.2.2.2.1 s.2.2.2.2.2.2.2.2.2.2.1 s.2.2.2.2.2.2.2.2.2.2.2.1 s.2.2.2.2.2.2.2.2.2.2.2.2.1 s.2.2.2.2.2.2.2.2.2.2.2.2.2.1 s.2.2.2.2.2.2.2.2.2.2.2.2.2.2.1 s.2.2.2.2.2.2.2.2.2.2.2.2.2.2.2.1 s.2.2.2.2.2.2.2.2.2.2.2.2.2.2.2.2.1 s.2.2.2.2.2.2.2.2.2.2.2.2.2.2.2.2.2.1 s.2.2.2.2.2.2.2.2.2.2.2.2.2.2.2.2.2.2.1 s.2.2.2.2.2.2.2.2.2.2.2.2.2.2.2.2.2.2.2.1 s.2.2.2.2.2.2.2.2.2.2.2.2.2.2.2.2.2.2.2.2.1 s.2.2.2.2.2.2.2.2.2.2.2.2.2.2.2.2.2.2.2.2.2 = some r ∧ r.1 = cI B obn pgn nbd p ∧ CXr B r.2 := by
  unfold fX7_count cI
  by_cases e0 : p = 0
  · rw [if_pos e0, if_pos e0, f_boxCount hB.2.1 a1 a2 (fun r hr => (hB.2.2.1 r hr).2.2), bd_s]
    exact ⟨_, rfl, rfl, hs⟩
  rw [if_neg e0, if_neg e0]
  by_cases e1 : p = 1
  · rw [if_pos e1, if_pos e1]
    exact ⟨_, rfl, rfl, hs⟩
  rw [if_neg e1, if_neg e1]
  by_cases e2 : p = 2
  · obtain ⟨c', m', l', r', co', be', ab', rs', hF, eF⟩ := f_fresh (num := s.2.2.2.2.2.1) (left := s.2.2.2.2.2.2.1) hB a1 a2 a3 hs.1
    rw [if_pos e2, if_pos e2, eF, bd_s]
    exact ⟨_, rfl, rfl, Or.inr ⟨rfl, hF⟩, hs.2⟩
  rw [if_neg e2, if_neg e2]
  by_cases e3 : p = 3
  · obtain ⟨i', u', l', e', f', k', hP, eP⟩ := f_freshP (used := s.2.2.2.2.2.2.2.2.2.2.2.2.2.2.2.2.2.1) (left := s.2.2.2.2.2.2.2.2.2.2.2.2.2.2.2.2.2.2.1) (ends := s.2.2.2.2.2.2.2.2.2.2.2.2.2.2.2.2.2.2.2.1) hB a2 a3 hs.2
    rw [if_pos e3, if_pos e3, eP, bd_s]
    exact ⟨_, rfl, rfl, hs.1, Or.inr ⟨rfl, hP⟩⟩
  rw [if_neg e3, if_neg e3]
  by_cases e4 : p = 4
  · obtain ⟨i', u', l', e', f', k', hP, eP⟩ := f_freshP (used := s.2.2.2.2.2.2.2.2.2.2.2.2.2.2.2.2.2.1) (left := s.2.2.2.2.2.2.2.2.2.2.2.2.2.2.2.2.2.2.1) (ends := s.2.2.2.2.2.2.2.2.2.2.2.2.2.2.2.2.2.2.2.1) hB a2 a3 hs.2
    rw [if_pos e4, if_pos e4, eP, bd_s]
    exact ⟨_, rfl, rfl, hs.1, Or.inr ⟨rfl, hP⟩⟩
  rw [if_neg e4, if_neg e4]
  by_cases e5 : p = 5
  · rw [if_pos e5, if_pos e5]
    exact ⟨_, rfl, rfl, hs⟩
  rw [if_neg e5, if_neg e5]
  by_cases e6 : p = 6
  · rw [if_pos e6, if_pos e6]
    exact ⟨_, rfl, rfl, hs⟩
  rw [if_neg e6, if_neg e6]
  by_cases e7 : p = 7
  · rw [if_pos e7, if_pos e7]
    exact ⟨_, rfl, rfl, hs⟩
  rw [if_neg e7, if_neg e7]
  exact ⟨_, rfl, rfl, hs⟩
theorem sm_tmS : ∀ (l : List (Nat × Nat × Nat × Nat × Nat)), sm (fun t => (l.getD t (0, 0, 0, 0, 0)).2.2.2.2) l.length = tmS l := by
  intro l
  induction l with
  | nil => rfl
  | cons a l ih =>
    rw [List.length_cons, sm_shift]
    have : tmS (a :: l) = a.2.2.2.2 + tmS l := by unfold tmS; rw [List.map_cons, List.sum_cons]
    rw [this, ← ih]
    rfl
theorem f_timesOfAll {B : Bd} (hB : BdOK B) (hR : bR B ≠ 0) {inner content : Nat → Int32} (hin : rq_4 inner (bi B)) (hc : rq_4 content (bc B)) {isT terms : Int32} {term : Nat → Int32} (h : isT = 0 ∨ (isT = 1 ∧ TeI B terms term)) (shape : Nat → Int32) (rb : Int32) (ro co gr of : Nat → Int32) : ∃ (term' shape' : Nat → Int32) (rb' : Int32) (ro' co' gr' of' : Nat → Int32), TeI B (nI (tms B).length) term' ∧ fX8_timesOfAll inner content isT terms term shape rb ro co gr of = some (nI (tmS (tms B)), 1, nI (tms B).length, term', shape', rb', ro', co', gr', of') := by
  have k2 := tms_220 hB
  obtain ⟨t', s', rb', ro', co', gr', of', hT, eT⟩ := f_layTerms hB hR hin hc h shape rb ro co gr of
  refine ⟨t', s', rb', ro', co', gr', of', hT, ?_⟩
  have L : ∀ (m k n : Nat), k + m = (tms B).length → m < n → fX8_timesOfAll_L8 (1, nI (tms B).length, t', s', rb', ro', co', gr', of') n (nI (sm (fun t => ((tms B).getD t (0, 0, 0, 0, 0)).2.2.2.2) k)) (nI k) = some (nI (tmS (tms B)), 1, nI (tms B).length, t', s', rb', ro', co', gr', of') := by
    intro m
    induction m with
    | zero =>
      intro k n h hn
      obtain ⟨n, rfl, -⟩ := fuel hn
      have e : k = (tms B).length := by omega
      rw [e, fX8_timesOfAll_L8]
      dsimp only
      rw [if_pos (nI_le (Nat.le_refl _) (by omega)), sm_tmS]
    | succ m ih =>
      intro k n h hn
      obtain ⟨n, rfl, hn2⟩ := fuel hn
      have hk : k < (tms B).length := by omega
      rw [fX8_timesOfAll_L8]
      dsimp only
      rw [if_neg (nI_ge hk (by omega)), show 5 * nI k + 4 = nI (5 * k + 4) by rw [lit_5, lit_4, nI_mul, nI_add], gd_in (show 5 * k + 4 < 1500 by omega) (by decide), nI_clamp (by omega), hT.2 k hk 4 (by decide), nI_1, nI_add]
      exact ih (k + 1) n (by omega) (by omega)
  unfold fX8_timesOfAll
  rw [eT, bd_s]
  exact L (tms B).length 0 fu (by omega) (by unfold fu; omega)
theorem f_howMany {B : Bd} (hB : BdOK B) {inner content ro co : Nat → Int32} (l1 : agr ro (rowsL B (bR B))) (l2 : agr co (colsL B (bR B))) (b2 : rq_4 inner (bi B)) (b3 : rq_4 content (bc B)) (obn pgn nbd : Nat) (p : Int32) {s : TM14} (hs : CMr B s) : ∃ r, fX8_howMany p (nI nbd) (nI (bK B)) (nI (bR B)) inner content (nI (nbx B)) ro co (nI obn) (nI pgn) s.1 s.2.1 s.2.2.1 s.2.2.2.1 s.2.2.2.2.1 s.2.2.2.2.2.1 s.2.2.2.2.2.2.1 s.2.2.2.2.2.2.2.1 s.2.2.2.2.2.2.2.2.1 s.2.2.2.2.2.2.2.2.2.1 s.2.2.2.2.2.2.2.2.2.2.1 s.2.2.2.2.2.2.2.2.2.2.2.1 s.2.2.2.2.2.2.2.2.2.2.2.2.1 s.2.2.2.2.2.2.2.2.2.2.2.2.2 = some r ∧ r.1 = cI B obn pgn nbd p ∧ CMr B r.2 := by
  unfold fX8_howMany cI fX8_howMany_J73 fX8_howMany_J89 fX8_howMany_J105
  by_cases e0 : p = 0
  · rw [if_pos e0, if_pos e0]
    exact ⟨_, rfl, rfl, hs⟩
  rw [if_neg e0, if_neg e0]
  by_cases e1 : p = 1
  · rw [if_pos e1, if_pos e1]
    exact ⟨_, rfl, rfl, hs⟩
  rw [if_neg e1, if_neg e1]
  by_cases e2 : p = 2
  · rw [if_pos e2, if_pos e2]
    by_cases hR : bR B = 0
    · rw [(no_board hR).2, bd_s, if_pos rfl, fls_0 hR]
      exact ⟨_, rfl, rfl, hs⟩
    · obtain ⟨nw, lf, bx, ew⟩ := f_ways hB hR l1 l2 b3 s.1 s.2.1 s.2.2.1 s.2.2.2.1 s.2.2.2.2.1 hs.1
      rw [(a_board hR hB.2.1).2, bd_s, if_neg (by decide), ew, bd_s]
      exact ⟨_, rfl, rfl, Or.inr ⟨rfl, rfl⟩, hs.2⟩
  rw [if_neg e2, if_neg e2]
  by_cases e3 : p = 3
  · rw [if_pos e3, if_pos e3]
    by_cases hR : bR B = 0
    · rw [(no_board hR).2, bd_s, if_pos rfl, tms_none (Or.inl hR)]
      exact ⟨_, rfl, rfl, hs⟩
    · obtain ⟨t', s', rb', ro', co', gr', of', hT, eT⟩ := f_layTerms hB hR b2 b3 hs.2 s.2.2.2.2.2.2.2.2.1 s.2.2.2.2.2.2.2.2.2.1 s.2.2.2.2.2.2.2.2.2.2.1 s.2.2.2.2.2.2.2.2.2.2.2.1 s.2.2.2.2.2.2.2.2.2.2.2.2.1 s.2.2.2.2.2.2.2.2.2.2.2.2.2
      rw [(a_board hR hB.2.1).2, bd_s, if_neg (by decide)]
      unfold fX8_terms
      rw [(a_board hR hB.2.1).2, bd_s, if_neg (by decide), eT, bd_s, bd_s]
      exact ⟨_, rfl, rfl, hs.1, Or.inr ⟨rfl, hT⟩⟩
  rw [if_neg e3, if_neg e3]
  by_cases e4 : p = 4
  · rw [if_pos e4, if_pos e4]
    by_cases hR : bR B = 0
    · rw [(no_board hR).2, bd_s, if_pos rfl, tms_none (Or.inl hR)]
      exact ⟨_, rfl, rfl, hs⟩
    · obtain ⟨t', s', rb', ro', co', gr', of', hT, eT⟩ := f_timesOfAll hB hR b2 b3 hs.2 s.2.2.2.2.2.2.2.2.1 s.2.2.2.2.2.2.2.2.2.1 s.2.2.2.2.2.2.2.2.2.2.1 s.2.2.2.2.2.2.2.2.2.2.2.1 s.2.2.2.2.2.2.2.2.2.2.2.2.1 s.2.2.2.2.2.2.2.2.2.2.2.2.2
      rw [(a_board hR hB.2.1).2, bd_s, if_neg (by decide), eT, bd_s]
      exact ⟨_, rfl, rfl, hs.1, Or.inr ⟨rfl, hT⟩⟩
  rw [if_neg e4, if_neg e4]
  by_cases e5 : p = 5
  · rw [if_pos e5, if_pos e5]
    exact ⟨_, rfl, rfl, hs⟩
  rw [if_neg e5, if_neg e5]
  by_cases e6 : p = 6
  · rw [if_pos e6, if_pos e6]
    exact ⟨_, rfl, rfl, hs⟩
  rw [if_neg e6, if_neg e6]
  by_cases e7 : p = 7
  · rw [if_pos e7, if_pos e7]
    exact ⟨_, rfl, rfl, hs⟩
  rw [if_neg e7, if_neg e7]
  exact ⟨_, rfl, rfl, hs⟩
theorem st_count (k : Nat) (v_saved : Int32) (v_boardsRead : Int32) (v_fillingsFresh : Int32) (v_productsFresh : Int32) (v_pg_codes : Nat → Int32) (v_pg_size : Int32) (v_rd_stage : Int32) (v_rd_digits : Int32) (v_rd_p_kind : Int32) (v_rd_p_rows : Int32) (v_rd_p_outer : Nat → Int32) (v_rd_p_inner : Nat → Int32) (v_rd_p_content : Nat → Int32) (v_pl_kind : Int32) (v_pl_rows : Int32) (v_pl_outer : Nat → Int32) (v_pl_inner : Nat → Int32) (v_pl_content : Nat → Int32) (v_dr_kind : Int32) (v_dr_rows : Int32) (v_dr_outer : Nat → Int32) (v_dr_inner : Nat → Int32) (v_dr_content : Nat → Int32) (v_ob_size : Int32) (v_ob_kinds : Int32) (v_sp_kind : Int32) (v_sp_rows : Int32) (v_sp_outer : Nat → Int32) (v_sp_inner : Nat → Int32) (v_sp_content : Nat → Int32) (v_so_size : Int32) (v_so_kinds : Int32) (v_fi_size : Int32) (v_fi_kind : Int32) (v_fi_codes : Nat → Int32) (v_fi_numbers : Nat → Int32) (v_fi_left : Nat → Int32) (v_fi_g_rowOf : Nat → Int32) (v_fi_g_columnOf : Nat → Int32) (v_fi_g_before : Nat → Int32) (v_fi_g_above : Nat → Int32) (v_fi_g_rowStart : Nat → Int32) (v_fi_g_size : Int32) (v_pr_size : Int32) (v_pr_multiplicitySum : Int32) (v_pr_boxes : Int32) (v_pr_inner : Nat → Int32) (v_pr_used : Nat → Int32) (v_pr_left : Nat → Int32) (v_pr_ends : Nat → Nat → Int32) (v_pr_fillingsOf : Nat → Int32) (v_pr_keys : Nat → Int32) (v_boards : Int32) (v_kind : Int32) (v_rows : Int32) (v_outer : Nat → Int32) (v_inner : Nat → Int32) (v_content : Nat → Int32) (v_boxes : Int32) (v_rowOf : Nat → Int32) (v_columnOf : Nat → Int32) (v_seen : Int32) (v_seenWhat : Nat → Int32) (v_seenCan : Nat → Int32) (v_pageLength : Int32) (v_page : Nat → Int32) (v_isWhole : Int32) (v_newKind : Int32) (v_newRows : Int32) (v_newOuter : Nat → Int32) (v_newInner : Nat → Int32) (v_newContent : Nat → Int32) (v_now : Nat → Int32) (v_left : Nat → Int32) (v_box : Int32) (v_isCounted : Int32) (v_counted : Int32) (v_given : Nat → Int32) (v_isTermed : Int32) (v_terms : Int32) (v_term : Nat → Int32) (v_shape : Nat → Int32) (v_readBoxes : Int32) (v_readRow : Nat → Int32) (v_readColumn : Nat → Int32) (v_grid : Nat → Int32) (v_often : Nat → Int32) (v_seedNow : Int64) (v_isKept : Int32) (v_keptBoard : Int32) (v_keptKind : Int32) (v_keptRows : Int32) (v_keptSeen : Int32) (v_keptOuter : Nat → Int32) (v_keptInner : Nat → Int32) (v_keptContent : Nat → Int32) (v_keptWhat : Nat → Int32) (v_keptCan : Nat → Int32) (v_h : Int64) (p1 : Int32) (hk : k < 512) (hI : Inv k v_saved v_boardsRead v_fillingsFresh v_productsFresh v_pg_codes v_pg_size v_rd_stage v_rd_digits v_rd_p_kind v_rd_p_rows v_rd_p_outer v_rd_p_inner v_rd_p_content v_pl_kind v_pl_rows v_pl_outer v_pl_inner v_pl_content v_dr_kind v_dr_rows v_dr_outer v_dr_inner v_dr_content v_ob_size v_ob_kinds v_sp_kind v_sp_rows v_sp_outer v_sp_inner v_sp_content v_so_size v_so_kinds v_fi_size v_fi_kind v_fi_codes v_fi_numbers v_fi_left v_fi_g_rowOf v_fi_g_columnOf v_fi_g_before v_fi_g_above v_fi_g_rowStart v_fi_g_size v_pr_size v_pr_multiplicitySum v_pr_boxes v_pr_inner v_pr_used v_pr_left v_pr_ends v_pr_fillingsOf v_pr_keys v_boards v_kind v_rows v_outer v_inner v_content v_boxes v_rowOf v_columnOf v_seen v_seenWhat v_seenCan v_pageLength v_page v_isWhole v_newKind v_newRows v_newOuter v_newInner v_newContent v_now v_left v_box v_isCounted v_counted v_given v_isTermed v_terms v_term v_shape v_readBoxes v_readRow v_readColumn v_grid v_often v_seedNow v_isKept v_keptBoard v_keptKind v_keptRows v_keptSeen v_keptOuter v_keptInner v_keptContent v_keptWhat v_keptCan v_h) : ∃ (fx : Int32 × Int32 × Int32 × Int32 × Int32 × (Nat → Int32) × (Nat → Int32) × (Nat → Int32) × (Nat → Int32) × (Nat → Int32) × (Nat → Int32) × (Nat → Int32) × (Nat → Int32) × Int32 × Int32 × Int32 × Int32 × (Nat → Int32) × (Nat → Int32) × (Nat → Int32) × (Nat → Nat → Int32) × (Nat → Int32) × (Nat → Int32)) (fm : Int32 × (Nat → Int32) × (Nat → Int32) × Int32 × Int32 × Int32 × Int32 × Int32 × (Nat → Int32) × (Nat → Int32) × Int32 × (Nat → Int32) × (Nat → Int32) × (Nat → Int32) × (Nat → Int32)), fX7_count p1 v_boardsRead v_fillingsFresh v_productsFresh v_pg_size v_pl_kind v_pl_rows v_pl_outer v_pl_inner v_pl_content v_ob_size v_fi_size v_fi_kind v_fi_codes v_fi_numbers v_fi_left v_fi_g_rowOf v_fi_g_columnOf v_fi_g_before v_fi_g_above v_fi_g_rowStart v_fi_g_size v_pr_size v_pr_multiplicitySum v_pr_boxes v_pr_inner v_pr_used v_pr_left v_pr_ends v_pr_fillingsOf v_pr_keys = some fx ∧ fX8_count p1 v_boards v_kind v_rows v_inner v_content v_boxes v_rowOf v_columnOf v_seen v_pageLength v_now v_left v_box v_isCounted v_counted v_isTermed v_terms v_term v_shape v_readBoxes v_readRow v_readColumn v_grid v_often = some fm ∧ fx.1 = fm.1 ∧ Inv (k + 1) v_saved v_boardsRead fx.2.1 fx.2.2.1 v_pg_codes v_pg_size v_rd_stage v_rd_digits v_rd_p_kind v_rd_p_rows v_rd_p_outer v_rd_p_inner v_rd_p_content v_pl_kind v_pl_rows v_pl_outer v_pl_inner v_pl_content v_dr_kind v_dr_rows v_dr_outer v_dr_inner v_dr_content v_ob_size v_ob_kinds v_sp_kind v_sp_rows v_sp_outer v_sp_inner v_sp_content v_so_size v_so_kinds fx.2.2.2.1 fx.2.2.2.2.1 fx.2.2.2.2.2.1 fx.2.2.2.2.2.2.1 fx.2.2.2.2.2.2.2.1 fx.2.2.2.2.2.2.2.2.1 fx.2.2.2.2.2.2.2.2.2.1 fx.2.2.2.2.2.2.2.2.2.2.1 fx.2.2.2.2.2.2.2.2.2.2.2.1 fx.2.2.2.2.2.2.2.2.2.2.2.2.1 fx.2.2.2.2.2.2.2.2.2.2.2.2.2.1 fx.2.2.2.2.2.2.2.2.2.2.2.2.2.2.1 fx.2.2.2.2.2.2.2.2.2.2.2.2.2.2.2.1 fx.2.2.2.2.2.2.2.2.2.2.2.2.2.2.2.2.1 fx.2.2.2.2.2.2.2.2.2.2.2.2.2.2.2.2.2.1 fx.2.2.2.2.2.2.2.2.2.2.2.2.2.2.2.2.2.2.1 fx.2.2.2.2.2.2.2.2.2.2.2.2.2.2.2.2.2.2.2.1 fx.2.2.2.2.2.2.2.2.2.2.2.2.2.2.2.2.2.2.2.2.1 fx.2.2.2.2.2.2.2.2.2.2.2.2.2.2.2.2.2.2.2.2.2.1 fx.2.2.2.2.2.2.2.2.2.2.2.2.2.2.2.2.2.2.2.2.2.2 v_boards v_kind v_rows v_outer v_inner v_content v_boxes v_rowOf v_columnOf v_seen v_seenWhat v_seenCan v_pageLength v_page v_isWhole v_newKind v_newRows v_newOuter v_newInner v_newContent fm.2.1 fm.2.2.1 fm.2.2.2.1 fm.2.2.2.2.1 fm.2.2.2.2.2.1 v_given fm.2.2.2.2.2.2.1 fm.2.2.2.2.2.2.2.1 fm.2.2.2.2.2.2.2.2.1 fm.2.2.2.2.2.2.2.2.2.1 fm.2.2.2.2.2.2.2.2.2.2.1 fm.2.2.2.2.2.2.2.2.2.2.2.1 fm.2.2.2.2.2.2.2.2.2.2.2.2.1 fm.2.2.2.2.2.2.2.2.2.2.2.2.2.1 fm.2.2.2.2.2.2.2.2.2.2.2.2.2.2 v_seedNow v_isKept v_keptBoard v_keptKind v_keptRows v_keptSeen v_keptOuter v_keptInner v_keptContent v_keptWhat v_keptCan v_h := by
  obtain ⟨pg, B, ob, sv, nbd, h1, ⟨rfl, g1⟩, ⟨rfl, g2⟩, h4, ⟨rfl, rfl, a1, a2, a3⟩, ⟨rfl, rfl, b1, b2, b3⟩, ⟨rfl, l1, l2⟩, h8, ⟨rfl, o1⟩, ⟨rfl, o2⟩, h11, rfl, rfl, h14, h15, h16, h17, h18, h19, h20⟩ := hI
  obtain ⟨r, e1, e2, e3⟩ := f_countX h4 a1 a2 a3 ob.length pg.length nbd p1 (s := (v_fillingsFresh, v_productsFresh, v_fi_size, v_fi_kind, v_fi_codes, v_fi_numbers, v_fi_left, v_fi_g_rowOf, v_fi_g_columnOf, v_fi_g_before, v_fi_g_above, v_fi_g_rowStart, v_fi_g_size, v_pr_size, v_pr_multiplicitySum, v_pr_boxes, v_pr_inner, v_pr_used, v_pr_left, v_pr_ends, v_pr_fillingsOf, v_pr_keys)) ⟨h17, h18⟩
  obtain ⟨q, f1, f2, f3⟩ := f_howMany h4 l1 l2 b2 b3 ob.length pg.length nbd p1 (s := (v_now, v_left, v_box, v_isCounted, v_counted, v_isTermed, v_terms, v_term, v_shape, v_readBoxes, v_readRow, v_readColumn, v_grid, v_often)) ⟨h19, h20⟩
  refine ⟨r, q, e1, ?_, e2.trans f2.symm, Inv_mono ⟨pg, B, ob, sv, nbd, h1, ⟨rfl, g1⟩, ⟨rfl, g2⟩, h4, ⟨rfl, rfl, a1, a2, a3⟩, ⟨rfl, rfl, b1, b2, b3⟩, ⟨rfl, l1, l2⟩, h8, ⟨rfl, o1⟩, ⟨rfl, o2⟩, h11, rfl, rfl, h14, h15, h16, e3.1, e3.2, f3.1, f3.2⟩⟩
  unfold fX8_count
  exact (congrArg (fun z => bd z _) f1).trans rfl
