/-! observations -/
theorem kof_push (ob : List (Nat × Bool)) (w : Nat) (c : Bool) : kof (ob ++ [(w, c)]) = kof ob &&& (if c then canBe w else canBe w ^^^ (-1)) := by
  unfold kof
  rw [List.foldl_append]
  rfl
theorem see_X {w : Nat} (hw : w < 4) (p2 : Int32) (hp : p2 = 0 ∨ p2 = 1) {R n : Nat} (hR : R ≠ 0) (h4 : R ≤ 4) (hn : n < 6) (ks : Int32) : fX7_see (nI w) p2 (nI R) (nI n) ks = some (nI (n + 1), nI (n + 1), ks &&& (if p2 = 1 then canBe w else canBe w ^^^ (-1))) := by
  unfold fX7_see fX2_add fX2_add_J24
  rw [(a_board hR h4).1]
  have e1 : ¬ nI w < 0 := nI_pos (by omega)
  have e2 : nI w < 4 := nI_lt (b := 4) hw (by decide)
  have e3 : nI n < 6 := nI_lt (b := 6) hn (by decide)
  simp only [e1, e2, e3, if_false, if_true, bd_s, gd_in hw (show 4 ≤ 2 ^ 31 by decide), nI_clamp (show w < 2 ^ 31 by omega), nI_1]
  rcases hp with h | h
  · subst h; rfl
  · subst h; rfl
theorem see_M {w : Nat} (hw : w < 4) (p2 : Int32) (hp : p2 = 0 ∨ p2 = 1) {R n : Nat} (hR : R ≠ 0) (h4 : R ≤ 4) (hn : n < 6) (f g : Nat → Int32) : fX8_see (nI w) p2 (nI R) (nI n) f g = some (nI (n + 1), nI (n + 1), upd f n (nI w), upd g n p2) := by
  unfold fX8_see fX8_see_J61
  rw [(a_board hR h4).2, f_within]
  have e1 : ¬ nI w < 0 := nI_pos (by omega)
  have e2 : ¬ 3 < nI w := nI_nlt (a := 3) (by omega) (by omega)
  have e3 : ¬ nI n = 6 := fun h => by have := (nI_eq (b := 6) (by omega) (by decide)).mp h; omega
  simp only [e1, e2, e3, if_false, bd_s, gd_in hn (show 6 ≤ 2 ^ 31 by decide), nI_clamp (show n < 2 ^ 31 by omega), nI_1, show ¬ (1 : Int32) = 0 by decide]
  rcases hp with h | h
  · subst h; rfl
  · subst h; rfl
theorem see_full {w : Nat} (hw : w < 4) (p2 : Int32) {R : Nat} (hR : R ≠ 0) (h4 : R ≤ 4) (ks : Int32) (f g : Nat → Int32) : fX7_see (nI w) p2 (nI R) (nI 6) ks = some (-104, nI 6, ks) ∧ fX8_see (nI w) p2 (nI R) (nI 6) f g = some (-104, nI 6, f, g) := by
  unfold fX7_see fX8_see
  rw [(a_board hR h4).1, (a_board hR h4).2, f_within]
  have e1 : ¬ nI w < 0 := nI_pos (by omega)
  have e2 : nI w < 4 := nI_lt (b := 4) hw (by decide)
  have e3 : ¬ 3 < nI w := nI_nlt (a := 3) (by omega) (by omega)
  simp only [e1, e2, e3, if_false, if_true, bd_s, show ¬ (1 : Int32) = 0 by decide]
  exact ⟨rfl, rfl⟩
theorem st_see (k : Nat) (v_saved : Int32) (v_boardsRead : Int32) (v_fillingsFresh : Int32) (v_productsFresh : Int32) (v_pg_codes : Nat → Int32) (v_pg_size : Int32) (v_rd_stage : Int32) (v_rd_digits : Int32) (v_rd_p_kind : Int32) (v_rd_p_rows : Int32) (v_rd_p_outer : Nat → Int32) (v_rd_p_inner : Nat → Int32) (v_rd_p_content : Nat → Int32) (v_pl_kind : Int32) (v_pl_rows : Int32) (v_pl_outer : Nat → Int32) (v_pl_inner : Nat → Int32) (v_pl_content : Nat → Int32) (v_dr_kind : Int32) (v_dr_rows : Int32) (v_dr_outer : Nat → Int32) (v_dr_inner : Nat → Int32) (v_dr_content : Nat → Int32) (v_ob_size : Int32) (v_ob_kinds : Int32) (v_sp_kind : Int32) (v_sp_rows : Int32) (v_sp_outer : Nat → Int32) (v_sp_inner : Nat → Int32) (v_sp_content : Nat → Int32) (v_so_size : Int32) (v_so_kinds : Int32) (v_fi_size : Int32) (v_fi_kind : Int32) (v_fi_codes : Nat → Int32) (v_fi_numbers : Nat → Int32) (v_fi_left : Nat → Int32) (v_fi_g_rowOf : Nat → Int32) (v_fi_g_columnOf : Nat → Int32) (v_fi_g_before : Nat → Int32) (v_fi_g_above : Nat → Int32) (v_fi_g_rowStart : Nat → Int32) (v_fi_g_size : Int32) (v_pr_size : Int32) (v_pr_multiplicitySum : Int32) (v_pr_boxes : Int32) (v_pr_inner : Nat → Int32) (v_pr_used : Nat → Int32) (v_pr_left : Nat → Int32) (v_pr_ends : Nat → Nat → Int32) (v_pr_fillingsOf : Nat → Int32) (v_pr_keys : Nat → Int32) (v_boards : Int32) (v_kind : Int32) (v_rows : Int32) (v_outer : Nat → Int32) (v_inner : Nat → Int32) (v_content : Nat → Int32) (v_boxes : Int32) (v_rowOf : Nat → Int32) (v_columnOf : Nat → Int32) (v_seen : Int32) (v_seenWhat : Nat → Int32) (v_seenCan : Nat → Int32) (v_pageLength : Int32) (v_page : Nat → Int32) (v_isWhole : Int32) (v_newKind : Int32) (v_newRows : Int32) (v_newOuter : Nat → Int32) (v_newInner : Nat → Int32) (v_newContent : Nat → Int32) (v_now : Nat → Int32) (v_left : Nat → Int32) (v_box : Int32) (v_isCounted : Int32) (v_counted : Int32) (v_given : Nat → Int32) (v_isTermed : Int32) (v_terms : Int32) (v_term : Nat → Int32) (v_shape : Nat → Int32) (v_readBoxes : Int32) (v_readRow : Nat → Int32) (v_readColumn : Nat → Int32) (v_grid : Nat → Int32) (v_often : Nat → Int32) (v_seedNow : Int64) (v_isKept : Int32) (v_keptBoard : Int32) (v_keptKind : Int32) (v_keptRows : Int32) (v_keptSeen : Int32) (v_keptOuter : Nat → Int32) (v_keptInner : Nat → Int32) (v_keptContent : Nat → Int32) (v_keptWhat : Nat → Int32) (v_keptCan : Nat → Int32) (v_h : Int64) (p1 : Int32) (p2 : Int32) (hk : k < 512) (hp : p2 = 0 ∨ p2 = 1) (hI : Inv k v_saved v_boardsRead v_fillingsFresh v_productsFresh v_pg_codes v_pg_size v_rd_stage v_rd_digits v_rd_p_kind v_rd_p_rows v_rd_p_outer v_rd_p_inner v_rd_p_content v_pl_kind v_pl_rows v_pl_outer v_pl_inner v_pl_content v_dr_kind v_dr_rows v_dr_outer v_dr_inner v_dr_content v_ob_size v_ob_kinds v_sp_kind v_sp_rows v_sp_outer v_sp_inner v_sp_content v_so_size v_so_kinds v_fi_size v_fi_kind v_fi_codes v_fi_numbers v_fi_left v_fi_g_rowOf v_fi_g_columnOf v_fi_g_before v_fi_g_above v_fi_g_rowStart v_fi_g_size v_pr_size v_pr_multiplicitySum v_pr_boxes v_pr_inner v_pr_used v_pr_left v_pr_ends v_pr_fillingsOf v_pr_keys v_boards v_kind v_rows v_outer v_inner v_content v_boxes v_rowOf v_columnOf v_seen v_seenWhat v_seenCan v_pageLength v_page v_isWhole v_newKind v_newRows v_newOuter v_newInner v_newContent v_now v_left v_box v_isCounted v_counted v_given v_isTermed v_terms v_term v_shape v_readBoxes v_readRow v_readColumn v_grid v_often v_seedNow v_isKept v_keptBoard v_keptKind v_keptRows v_keptSeen v_keptOuter v_keptInner v_keptContent v_keptWhat v_keptCan v_h) : ∃ (fx : Int32 × Int32 × Int32) (fm : Int32 × Int32 × (Nat → Int32) × (Nat → Int32)), fX7_see p1 p2 v_pl_rows v_ob_size v_ob_kinds = some fx ∧ fX8_see p1 p2 v_rows v_seen v_seenWhat v_seenCan = some fm ∧ fx.1 = fm.1 ∧ Inv (k + 1) v_saved v_boardsRead v_fillingsFresh v_productsFresh v_pg_codes v_pg_size v_rd_stage v_rd_digits v_rd_p_kind v_rd_p_rows v_rd_p_outer v_rd_p_inner v_rd_p_content v_pl_kind v_pl_rows v_pl_outer v_pl_inner v_pl_content v_dr_kind v_dr_rows v_dr_outer v_dr_inner v_dr_content fx.2.1 fx.2.2 v_sp_kind v_sp_rows v_sp_outer v_sp_inner v_sp_content v_so_size v_so_kinds v_fi_size v_fi_kind v_fi_codes v_fi_numbers v_fi_left v_fi_g_rowOf v_fi_g_columnOf v_fi_g_before v_fi_g_above v_fi_g_rowStart v_fi_g_size v_pr_size v_pr_multiplicitySum v_pr_boxes v_pr_inner v_pr_used v_pr_left v_pr_ends v_pr_fillingsOf v_pr_keys v_boards v_kind v_rows v_outer v_inner v_content v_boxes v_rowOf v_columnOf fm.2.1 fm.2.2.1 fm.2.2.2 v_pageLength v_page v_isWhole v_newKind v_newRows v_newOuter v_newInner v_newContent v_now v_left v_box v_isCounted v_counted v_given v_isTermed v_terms v_term v_shape v_readBoxes v_readRow v_readColumn v_grid v_often v_seedNow v_isKept v_keptBoard v_keptKind v_keptRows v_keptSeen v_keptOuter v_keptInner v_keptContent v_keptWhat v_keptCan v_h := by
  have hI0 := hI
  obtain ⟨pg, B, ob, sv, nbd, h1, h2, h3, h4, ⟨rfl, rfl, a⟩, ⟨rfl, rfl, b⟩, h7, ⟨o1, o2⟩, ⟨rfl, rfl⟩, ⟨rfl, q1, q2⟩, hI⟩ := hI
  by_cases hb : p1 < 0 ∨ 3 < p1
  · refine ⟨(-102, nI ob.length, kof ob), (-102, nI ob.length, v_seenWhat, v_seenCan), ?_, ?_, rfl, Inv_mono hI0⟩
    · unfold fX7_see fX7_see_J12
      by_cases g : p1 < 0
      · rw [if_pos g]
      · have g2 : ¬ p1 < 4 := fun h => by
          have := hb.resolve_left g
          rw [Int32.lt_iff_toInt_lt, show (3 : Int32).toInt = 3 from by decide] at this
          rw [Int32.lt_iff_toInt_lt, show (4 : Int32).toInt = 4 from by decide] at h
          omega
        rw [if_neg g, if_neg g2]
    · unfold fX8_see
      rw [f_within]
      by_cases g : p1 < 0
      · rw [if_pos g]; rfl
      · rw [if_neg g, if_pos (hb.resolve_left g)]; rfl
  · obtain ⟨w, w1, w2, rfl⟩ := pk_of 0 3 (by decide) (by decide) (fun h => hb (Or.inl h)) (fun h => hb (Or.inr h))
    have hw : w < 4 := by omega
    by_cases hR : bR B = 0
    · refine ⟨(-103, nI ob.length, kof ob), (-103, nI ob.length, v_seenWhat, v_seenCan), ?_, ?_, rfl, Inv_mono hI0⟩
      · unfold fX7_see
        rw [(no_board hR).1, if_neg (nI_pos (by omega)), if_pos (show nI w < 4 from nI_lt (b := 4) hw (by decide))]; rfl
      · unfold fX8_see
        rw [(no_board hR).2, f_within, if_neg (nI_pos (by omega)), if_neg (show ¬ 3 < nI w from nI_nlt (a := 3) (by omega) (by omega))]; rfl
    · by_cases hn : ob.length = 6
      · have e := see_full hw p2 hR h4.2.1 (kof ob) v_seenWhat v_seenCan
        rw [← hn] at e
        exact ⟨_, _, e.1, e.2, rfl, Inv_mono hI0⟩
      · have hn6 : ob.length < 6 := by omega
        refine ⟨_, _, see_X hw p2 hp hR h4.2.1 hn6 _, see_M hw p2 hp hR h4.2.1 hn6 _ _, rfl, Inv_mono ⟨pg, B, ob ++ [(w, decide (p2 = 1))], sv, nbd, h1, h2, h3, h4, ⟨rfl, rfl, a⟩, ⟨rfl, rfl, b⟩, h7, ⟨?_, ?_⟩, ⟨?_, ?_⟩, ⟨?_, ?_, ?_⟩, hI⟩⟩
        · simp; omega
        · intro x hx
          rcases List.mem_append.mp hx with h | h
          · exact o2 x h
          · rw [List.mem_singleton.mp h]; exact hw
        · rw [List.length_append]; rfl
        · rw [kof_push]
          by_cases e : p2 = 1
          · simp only [e, decide_true, if_true]
          · simp only [e, decide_false, if_false]; rfl
        · rw [List.length_append]; rfl
        · rw [List.map_append]
          have := agr_push (x := nI w) (v := w) q1 rfl
          rw [List.length_map] at this
          exact this
        · rw [List.map_append]
          have := agr_push (x := p2) (v := if decide (p2 = 1) then 1 else 0) q2 (by rcases hp with h | h <;> (subst h; rfl))
          rw [List.length_map] at this
          exact this
/-- the kinds stay among the 32 sets -/
theorem kof_set (ob : List (Nat × Bool)) (h : ∀ q ∈ ob, q.1 < 4) : ∃ n, n < 32 ∧ kof ob = nI n := by
  have step : ∀ n, n < 32 → ∀ w, w < 4 → ∀ c : Bool, ∃ m, m < 32 ∧ nI n &&& (if c then canBe w else canBe w ^^^ (-1)) = nI m := by decide +kernel
  have gen : ∀ (l : List (Nat × Bool)) (n : Nat), n < 32 → (∀ q ∈ l, q.1 < 4) → ∃ m, m < 32 ∧ l.foldl (fun k q => k &&& (if q.2 then canBe q.1 else canBe q.1 ^^^ (-1))) (nI n) = nI m := by
    intro l
    induction l with
    | nil => intro n hn _; exact ⟨n, hn, rfl⟩
    | cons q l ih =>
      intro n hn hl
      obtain ⟨m, hm, e⟩ := step n hn q.1 (hl q List.mem_cons_self) q.2
      rw [List.foldl_cons, e]
      exact ih m hm (fun x hx => hl x (List.mem_cons_of_mem _ hx))
  exact gen ob 31 (by decide) h
def cld (k w : Nat) : Bool := if w = 0 then decide (k ≠ 3) else if w = 1 then decide (k = 0 ∨ k = 3) else if w = 2 then decide (k = 4) else decide (k ≠ 2)
theorem f_could {k w : Nat} (hk : k < 5) (hw : w < 4) : fX8_could (nI k) (nI w) = some (if cld k w then 1 else 0) := by
  have h : ∀ k, k < 5 → ∀ w, w < 4 → fX8_could (nI k) (nI w) = some (if cld k w then 1 else 0) := by decide +kernel
  exact h k hk w hw
def okObs (k : Nat) (l : List (Nat × Bool)) : Bool := l.all (fun q => cld k q.1 == q.2)
def bts (g0 g1 g2 g3 g4 : Bool) : Int32 := ((((0 ||| (if g0 then 1 else 0)) ||| (if g1 then 2 else 0)) ||| (if g2 then 4 else 0)) ||| (if g3 then 8 else 0)) ||| (if g4 then 16 else 0)
theorem bts_step : ∀ (g0 g1 g2 g3 g4 : Bool), ∀ w, w < 4 → ∀ c : Bool, bts g0 g1 g2 g3 g4 &&& (if c then canBe w else canBe w ^^^ (-1)) = bts (g0 && (cld 0 w == c)) (g1 && (cld 1 w == c)) (g2 && (cld 2 w == c)) (g3 && (cld 3 w == c)) (g4 && (cld 4 w == c)) := by decide +kernel
theorem fold_bts : ∀ (l : List (Nat × Bool)) (g0 g1 g2 g3 g4 : Bool), (∀ q ∈ l, q.1 < 4) → l.foldl (fun k q => k &&& (if q.2 then canBe q.1 else canBe q.1 ^^^ (-1))) (bts g0 g1 g2 g3 g4) = bts (g0 && okObs 0 l) (g1 && okObs 1 l) (g2 && okObs 2 l) (g3 && okObs 3 l) (g4 && okObs 4 l) := by
  intro l
  induction l with
  | nil => intro g0 g1 g2 g3 g4 _; simp [okObs]
  | cons q l ih =>
    intro g0 g1 g2 g3 g4 h
    rw [List.foldl_cons, bts_step g0 g1 g2 g3 g4 q.1 (h q List.mem_cons_self) q.2, ih _ _ _ _ _ (fun x hx => h x (List.mem_cons_of_mem _ hx))]
    simp only [okObs, List.all_cons, Bool.and_assoc]
theorem kof_bts (ob : List (Nat × Bool)) (h : ∀ q ∈ ob, q.1 < 4) : kof ob = bts (okObs 0 ob) (okObs 1 ob) (okObs 2 ob) (okObs 3 ob) (okObs 4 ob) := by
  have := fold_bts ob true true true true true h
  simp only [Bool.true_and] at this
  exact this
theorem sn_in {ob : List (Nat × Bool)} {f g : Nat → Int32} (h6 : ob.length ≤ 6) (hw : ∀ q ∈ ob, q.1 < 4) (hf : agr f (ob.map (fun q => q.1))) (hg : agr g (ob.map (fun q => if q.2 then 1 else 0))) {k : Nat} (hk : k < 5) (x1 : Int32) (k4 : Int32 → Int32 → Option Int32) : ∀ (m e n : Nat) (is : Bool), e + m = ob.length → m < n → fX8_sortsNow_L14 (nI ob.length) f g x1 (nI k) k4 n (if is then 1 else 0) (nI e) = fX8_sortsNow_J81 x1 (nI k) k4 (if is && okObs k (ob.drop e) then ((1 : Int32) <<< (nI k &&& 31)) else 0) := by
  intro m
  induction m with
  | zero =>
    intro e n is he hn
    obtain ⟨n, rfl⟩ : ∃ q, n = q + 1 := ⟨n - 1, by omega⟩
    rw [fX8_sortsNow_L14, if_pos (nI_le (by omega) (by omega)), List.drop_eq_nil_of_le (by omega)]
    cases is <;> rfl
  | succ m ih =>
    intro e n is he hn
    obtain ⟨n, rfl⟩ : ∃ q, n = q + 1 := ⟨n - 1, by omega⟩
    have hlt : e < ob.length := by omega
    have hd : ob.drop e = ob[e] :: ob.drop (e + 1) := List.drop_eq_getElem_cons hlt
    rw [fX8_sortsNow_L14, if_neg (nI_ge hlt (by omega))]
    cases is with
    | false =>
      rw [if_neg (by decide : ¬ (false = true)), if_pos rfl]
      unfold fX8_sortsNow_J61 fX8_sortsNow_J62
      have := ih (e + 1) n false (by omega) (by omega)
      rw [if_neg (by decide : ¬ (false = true))] at this
      rw [nI_1, this]
      rfl
    | true =>
      rw [if_pos rfl, if_neg (by decide : ¬ (1 : Int32) = 0), gd_in (show e < 6 by omega) (by decide), nI_clamp (by omega)]
      have e1 : f e = nI ob[e].1 := by
        rw [hf e (by simpa using hlt)]
        simp [List.getD, hlt]
      have e2 : g e = nI (if ob[e].2 then 1 else 0) := by
        rw [hg e (by simpa using hlt)]
        simp [List.getD, hlt]
      have hq := hw ob[e] (List.getElem_mem hlt)
      rw [e1, f_could hk hq, bd_s, e2]
      unfold fX8_sortsNow_J54 fX8_sortsNow_J61 fX8_sortsNow_J62
      rw [nI_1, hd]
      by_cases c : cld k ob[e].1 = ob[e].2
      · have t := ih (e + 1) n true (by omega) (by omega)
        rw [if_pos rfl] at t
        have c2 : (if cld k ob[e].1 = true then (1 : Int32) else 0) = (if nI (if ob[e].2 = true then 1 else 0) = 1 then 1 else 0) := by
          rw [c]; cases ob[e].2 <;> rfl
        rw [if_pos c2, t, show okObs k (ob[e] :: ob.drop (e + 1)) = okObs k (ob.drop (e + 1)) by unfold okObs; rw [List.all_cons, c, beq_self_eq_true, Bool.true_and]]
      · have t := ih (e + 1) n false (by omega) (by omega)
        rw [if_neg (by decide : ¬ (false = true))] at t
        have c2 : ¬ (if cld k ob[e].1 = true then (1 : Int32) else 0) = (if nI (if ob[e].2 = true then 1 else 0) = 1 then 1 else 0) := by
          cases h1 : cld k ob[e].1 <;> cases h2 : ob[e].2 <;> simp_all <;> decide
        rw [if_neg c2, t]
        simp [okObs, c]
theorem f_sortsNow {ob : List (Nat × Bool)} {f g : Nat → Int32} (h6 : ob.length ≤ 6) (hw : ∀ q ∈ ob, q.1 < 4) (hf : agr f (ob.map (fun q => q.1))) (hg : agr g (ob.map (fun q => if q.2 then 1 else 0))) : fX8_sortsNow (nI ob.length) f g = some (kof ob) := by
  have st : ∀ k, k < 5 → ∀ (n : Nat) (x1 : Int32), fX8_sortsNow_L4 (nI ob.length) f g (n + 1) x1 (nI k) = fX8_sortsNow_L4 (nI ob.length) f g n (x1 ||| (if okObs k ob then ((1 : Int32) <<< (nI k &&& 31)) else 0)) (nI (k + 1)) := by
    intro k hk n x1
    have hk4 : ¬ 4 < nI k := nI_nlt (a := 4) (by omega) (by omega)
    have := sn_in h6 hw hf hg hk x1 (fX8_sortsNow_L4 (nI ob.length) f g n) ob.length 0 fu true (by omega) (by unfold fu; omega)
    rw [fX8_sortsNow_L4, if_neg hk4]
    rw [if_pos rfl] at this
    rw [show (0 : Int32) = nI 0 from rfl, this]
    unfold fX8_sortsNow_J81
    rw [nI_1]
    rfl
  unfold fX8_sortsNow
  rw [show fu = 999999999994 + 1 + 1 + 1 + 1 + 1 + 1 from rfl, show fX8_sortsNow_L4 (nI ob.length) f g (999999999994 + 1 + 1 + 1 + 1 + 1 + 1) 0 0 = fX8_sortsNow_L4 (nI ob.length) f g (999999999994 + 1 + 1 + 1 + 1 + 1 + 1) 0 (nI 0) from rfl, st 0 (by decide), st 1 (by decide), st 2 (by decide), st 3 (by decide), st 4 (by decide), fX8_sortsNow_L4, if_pos (show 4 < nI 5 from by decide), kof_bts ob hw]
  rfl
theorem ask_eq {n : Nat} (h : n < 32) : fX8_askNow_L14 (nI n) fX8_askNow_J128 fu (-1) 268435456 0 = fX2_bestQuestion (nI n) ∧ ∃ v, fX2_bestQuestion (nI n) = some v := by
  have a : ∀ n, n < 32 → fX8_askNow_L14 (nI n) fX8_askNow_J128 fu (-1) 268435456 0 = fX2_bestQuestion (nI n) := by decide +kernel
  have b : ∀ n, n < 32 → (fX2_bestQuestion (nI n)).isSome = true := by decide +kernel
  exact ⟨a n h, Option.isSome_iff_exists.mp (b n h)⟩
theorem f_ask {ob : List (Nat × Bool)} {f g : Nat → Int32} (h6 : ob.length ≤ 6) (hw : ∀ q ∈ ob, q.1 < 4) (hf : agr f (ob.map (fun q => q.1))) (hg : agr g (ob.map (fun q => if q.2 then 1 else 0))) : ∃ v, fX8_askNow (nI ob.length) f g = some v ∧ fX2_bestQuestion (kof ob) = some v := by
  obtain ⟨n, hn, e⟩ := kof_set ob hw
  obtain ⟨h1, v, hv⟩ := ask_eq hn
  refine ⟨v, ?_, by rw [e]; exact hv⟩
  unfold fX8_askNow
  rw [f_sortsNow h6 hw hf hg, bd_s, e, h1, hv]
theorem st_sorts (k : Nat) (v_saved : Int32) (v_boardsRead : Int32) (v_fillingsFresh : Int32) (v_productsFresh : Int32) (v_pg_codes : Nat → Int32) (v_pg_size : Int32) (v_rd_stage : Int32) (v_rd_digits : Int32) (v_rd_p_kind : Int32) (v_rd_p_rows : Int32) (v_rd_p_outer : Nat → Int32) (v_rd_p_inner : Nat → Int32) (v_rd_p_content : Nat → Int32) (v_pl_kind : Int32) (v_pl_rows : Int32) (v_pl_outer : Nat → Int32) (v_pl_inner : Nat → Int32) (v_pl_content : Nat → Int32) (v_dr_kind : Int32) (v_dr_rows : Int32) (v_dr_outer : Nat → Int32) (v_dr_inner : Nat → Int32) (v_dr_content : Nat → Int32) (v_ob_size : Int32) (v_ob_kinds : Int32) (v_sp_kind : Int32) (v_sp_rows : Int32) (v_sp_outer : Nat → Int32) (v_sp_inner : Nat → Int32) (v_sp_content : Nat → Int32) (v_so_size : Int32) (v_so_kinds : Int32) (v_fi_size : Int32) (v_fi_kind : Int32) (v_fi_codes : Nat → Int32) (v_fi_numbers : Nat → Int32) (v_fi_left : Nat → Int32) (v_fi_g_rowOf : Nat → Int32) (v_fi_g_columnOf : Nat → Int32) (v_fi_g_before : Nat → Int32) (v_fi_g_above : Nat → Int32) (v_fi_g_rowStart : Nat → Int32) (v_fi_g_size : Int32) (v_pr_size : Int32) (v_pr_multiplicitySum : Int32) (v_pr_boxes : Int32) (v_pr_inner : Nat → Int32) (v_pr_used : Nat → Int32) (v_pr_left : Nat → Int32) (v_pr_ends : Nat → Nat → Int32) (v_pr_fillingsOf : Nat → Int32) (v_pr_keys : Nat → Int32) (v_boards : Int32) (v_kind : Int32) (v_rows : Int32) (v_outer : Nat → Int32) (v_inner : Nat → Int32) (v_content : Nat → Int32) (v_boxes : Int32) (v_rowOf : Nat → Int32) (v_columnOf : Nat → Int32) (v_seen : Int32) (v_seenWhat : Nat → Int32) (v_seenCan : Nat → Int32) (v_pageLength : Int32) (v_page : Nat → Int32) (v_isWhole : Int32) (v_newKind : Int32) (v_newRows : Int32) (v_newOuter : Nat → Int32) (v_newInner : Nat → Int32) (v_newContent : Nat → Int32) (v_now : Nat → Int32) (v_left : Nat → Int32) (v_box : Int32) (v_isCounted : Int32) (v_counted : Int32) (v_given : Nat → Int32) (v_isTermed : Int32) (v_terms : Int32) (v_term : Nat → Int32) (v_shape : Nat → Int32) (v_readBoxes : Int32) (v_readRow : Nat → Int32) (v_readColumn : Nat → Int32) (v_grid : Nat → Int32) (v_often : Nat → Int32) (v_seedNow : Int64) (v_isKept : Int32) (v_keptBoard : Int32) (v_keptKind : Int32) (v_keptRows : Int32) (v_keptSeen : Int32) (v_keptOuter : Nat → Int32) (v_keptInner : Nat → Int32) (v_keptContent : Nat → Int32) (v_keptWhat : Nat → Int32) (v_keptCan : Nat → Int32) (v_h : Int64) (p1 : Int32) (hk : k < 512) (hI : Inv k v_saved v_boardsRead v_fillingsFresh v_productsFresh v_pg_codes v_pg_size v_rd_stage v_rd_digits v_rd_p_kind v_rd_p_rows v_rd_p_outer v_rd_p_inner v_rd_p_content v_pl_kind v_pl_rows v_pl_outer v_pl_inner v_pl_content v_dr_kind v_dr_rows v_dr_outer v_dr_inner v_dr_content v_ob_size v_ob_kinds v_sp_kind v_sp_rows v_sp_outer v_sp_inner v_sp_content v_so_size v_so_kinds v_fi_size v_fi_kind v_fi_codes v_fi_numbers v_fi_left v_fi_g_rowOf v_fi_g_columnOf v_fi_g_before v_fi_g_above v_fi_g_rowStart v_fi_g_size v_pr_size v_pr_multiplicitySum v_pr_boxes v_pr_inner v_pr_used v_pr_left v_pr_ends v_pr_fillingsOf v_pr_keys v_boards v_kind v_rows v_outer v_inner v_content v_boxes v_rowOf v_columnOf v_seen v_seenWhat v_seenCan v_pageLength v_page v_isWhole v_newKind v_newRows v_newOuter v_newInner v_newContent v_now v_left v_box v_isCounted v_counted v_given v_isTermed v_terms v_term v_shape v_readBoxes v_readRow v_readColumn v_grid v_often v_seedNow v_isKept v_keptBoard v_keptKind v_keptRows v_keptSeen v_keptOuter v_keptInner v_keptContent v_keptWhat v_keptCan v_h) : ∃ (fx : Int32) (fm : Int32), fX7_sorts p1 v_ob_kinds = some fx ∧ fX8_sorts p1 v_seen v_seenWhat v_seenCan = some fm ∧ fx = fm ∧ Inv (k + 1) v_saved v_boardsRead v_fillingsFresh v_productsFresh v_pg_codes v_pg_size v_rd_stage v_rd_digits v_rd_p_kind v_rd_p_rows v_rd_p_outer v_rd_p_inner v_rd_p_content v_pl_kind v_pl_rows v_pl_outer v_pl_inner v_pl_content v_dr_kind v_dr_rows v_dr_outer v_dr_inner v_dr_content v_ob_size v_ob_kinds v_sp_kind v_sp_rows v_sp_outer v_sp_inner v_sp_content v_so_size v_so_kinds v_fi_size v_fi_kind v_fi_codes v_fi_numbers v_fi_left v_fi_g_rowOf v_fi_g_columnOf v_fi_g_before v_fi_g_above v_fi_g_rowStart v_fi_g_size v_pr_size v_pr_multiplicitySum v_pr_boxes v_pr_inner v_pr_used v_pr_left v_pr_ends v_pr_fillingsOf v_pr_keys v_boards v_kind v_rows v_outer v_inner v_content v_boxes v_rowOf v_columnOf v_seen v_seenWhat v_seenCan v_pageLength v_page v_isWhole v_newKind v_newRows v_newOuter v_newInner v_newContent v_now v_left v_box v_isCounted v_counted v_given v_isTermed v_terms v_term v_shape v_readBoxes v_readRow v_readColumn v_grid v_often v_seedNow v_isKept v_keptBoard v_keptKind v_keptRows v_keptSeen v_keptOuter v_keptInner v_keptContent v_keptWhat v_keptCan v_h := by
  have hI0 := hI
  obtain ⟨pg, B, ob, sv, nbd, h1, h2, h3, h4, h5, h6, h7, ⟨o1, o2⟩, ⟨rfl, rfl⟩, ⟨rfl, q1, q2⟩, -⟩ := hI
  unfold fX7_sorts fX8_sorts fX7_sorts_J9 fX7_sorts_J33 fX8_sorts_J29
  rw [f_within]
  obtain ⟨v, e1, e2⟩ := f_ask o1 o2 q1 q2
  rcases what2 p1 with h | h | h
  · by_cases g : p1 < 0
    · simp only [g, if_true]
      exact ⟨_, _, rfl, rfl, rfl, Inv_mono hI0⟩
    · simp only [g, if_false, Int32.not_le.mpr (h.resolve_left g), h.resolve_left g, if_true]
      exact ⟨_, _, rfl, rfl, rfl, Inv_mono hI0⟩
  · subst h
    rw [f_sortsNow o1 o2 q1 q2]
    exact ⟨_, _, rfl, rfl, rfl, Inv_mono hI0⟩
  · subst h
    rw [e1, e2]
    exact ⟨_, _, rfl, rfl, rfl, Inv_mono hI0⟩
