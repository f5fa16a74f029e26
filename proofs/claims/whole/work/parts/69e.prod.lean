/-! the class collects its terms -/
theorem m1_s (n : Nat) : nI n + -1 = nI n - 1 := (Int32.sub_eq_add_neg _ _).symm
theorem KLf_s (g : Nat → Nat) (m : Nat) : KLf g (m + 1) = if 0 < g m then m :: KLf g m else KLf g m := by
  unfold KLf
  rw [dl, Nat.zero_add, List.filter_cons]
  by_cases q : 0 < g m
  · rw [if_pos (decide_eq_true q), if_pos q]
  · rw [if_neg (by simpa using q), if_neg q]
theorem f_collect {g : Nat → Nat} {fo : Nat → Int32} (hf : ∀ k, k < 1000 → fo k = nI (g k)) (hg : ∀ k, g k ≤ 262144) (hL : (KLf g 1000).length ≤ 220) (keys : Nat → Int32) : ∃ keys', agr keys' (KLf g 1000) ∧ fX5_collect 0 0 fo keys = some (nI (KLf g 1000).length, nI ((KLf g 1000).map g).sum, keys') := by
  have L : ∀ (m n : Nat) (acc : List Nat) (keys : Nat → Int32), m ≤ 1000 → m < n → acc ++ KLf g m = KLf g 1000 → agr keys acc → ∃ keys', agr keys' (KLf g 1000) ∧ fX5_collect_L4 fo n (nI m - 1) (nI acc.length) (nI (acc.map g).sum) keys = some (nI (KLf g 1000).length, nI ((KLf g 1000).map g).sum, keys') := by
    intro m
    induction m with
    | zero =>
      intro n acc keys _ hn ha hk
      obtain ⟨n, rfl, -⟩ := fuel hn
      rw [show KLf g 0 = [] from rfl, List.append_nil] at ha
      subst ha
      exact ⟨keys, hk, by rw [fX5_collect_L4, if_pos (by decide)]⟩
    | succ m ih =>
      intro n acc keys hm hn ha hk
      obtain ⟨n, rfl, hn2⟩ := fuel hn
      have gm := hg m
      rw [KLf_s] at ha
      rw [nI_pred, fX5_collect_L4, if_neg (nI_pos (by omega)), gd_in (show m < 1000 by omega) (by decide), nI_clamp (by omega), hf m (by omega)]
      unfold fX5_collect_J62
      rw [m1_s]
      by_cases q : 0 < g m
      · rw [if_pos q] at ha
        have hl : acc.length < 220 := by
          have := congrArg List.length ha
          rw [List.length_append, List.length_cons] at this
          omega
        rw [if_neg (nI_nle q (by omega)), if_neg (show ¬ 220 ≤ nI acc.length from nI_ge (b := 220) hl (by decide)), gd_in hl (by decide), nI_clamp (by omega), nI_1, nI_add]
        have := ih n (acc ++ [m]) (upd keys acc.length (nI m)) (by omega) (by omega) (by rw [List.append_assoc]; exact ha) (agr_app hk)
        rw [List.length_append, List.map_append, List.sum_append] at this
        simpa using this
      · rw [if_neg q] at ha
        rw [if_pos (show nI (g m) ≤ 0 by rw [show g m = 0 by omega]; decide)]
        exact ih n acc keys (by omega) (by omega) ha hk
  exact L 1000 fu [] keys (Nat.le_refl _) (by unfold fu; omega) rfl (fun j h => absurd h (Nat.not_lt_zero j))
theorem getD_map {α : Type} (l : List α) (f : α → Nat) (d : α) {t : Nat} (h : t < l.length) : (l.map f).getD t 0 = f (l.getD t d) := by
  simp [List.getD_eq_getElem?_getD, List.getElem?_map, List.getElem?_eq_getElem h]
theorem getD_in {α : Type} {l : List α} {d : α} {t : Nat} (h : t < l.length) : l.getD t d ∈ l := by
  rw [List.getD_eq_getElem?_getD, List.getElem?_eq_getElem h]
  exact List.getElem_mem h
theorem tms_none {B : Bd} (h : bR B = 0 ∨ 9 < csum B) : tms B = [] := by
  unfold tms
  rw [if_pos h]
theorem tm_mul {B : Bd} (hB : BdOK B) (hR : bR B ≠ 0) (h9 : csum B ≤ 9) {t : Nat × Nat × Nat × Nat × Nat} (ht : t ∈ tms B) : gK (bi B) (bc B) (tmK B t) = t.2.2.2.2 := by
  obtain ⟨a, b, c, ⟨ha, hb, hc, hs, hd, hm⟩, rfl⟩ := (tms_mem hR h9).mp ht
  exact (mul_gK (BdOK_ii hB) h9 ha.1 hb hc hs hd).symm
theorem tm_sum {B : Bd} (hB : BdOK B) (hR : bR B ≠ 0) (h9 : csum B ≤ 9) : (((tms B).map (tmK B)).map (gK (bi B) (bc B))).sum = tmS (tms B) := by
  unfold tmS
  rw [List.map_map]
  exact congrArg List.sum (List.map_congr_left (fun t ht => tm_mul hB hR h9 ht))
theorem f_findAllP {B : Bd} (hB : BdOK B) {inner content : Nat → Int32} (hi : rq_4 inner (bi B)) (hc : rq_4 content (bc B)) (inn used left : Nat → Int32) (ends : Nat → Nat → Int32) (fo keys : Nat → Int32) : ∃ inn' used' left' ends' fo' keys', PrI B (nI (tms B).length) (nI (tmS (tms B))) (nI (csum B)) inn' fo' keys' ∧ fX5_findAll inn used left ends fo keys (nI (bR B)) inner content = some (nI (tms B).length, nI (tmS (tms B)), nI (csum B), inn', used', left', ends', fo', keys') := by
  have cs := csum_lt hB
  have h4 := hB.2.1
  unfold fX5_findAll fX5_findAll_J34
  rw [f_contentSum hc, bd_s]
  by_cases hR : bR B = 0
  · have e := tms_none (Or.inl hR)
    refine ⟨inn, used, left, ends, fo, keys, ⟨rfl, rfl, rfl, fun h => absurd e h, fun t ht => ?_⟩, ?_⟩
    · rw [e] at ht; exact absurd ht (Nat.not_lt_zero t)
    · rw [(no_board hR).1, bd_s, if_neg (by decide), e]; rfl
  · rw [(a_board hR h4).1, bd_s, if_pos rfl]
    by_cases h9 : csum B ≤ 9
    · rw [if_pos (show nI (csum B) ≤ 9 from nI_le (b := 9) h9 (by decide))]
      have L : ∀ (m r n : Nat) (ends : Nat → Nat → Int32), r + m = 4 → m < n → (∀ r', r' < r → ends r' 0 = nI (bi B r')) → ∃ ends', (∀ r', r' < 4 → ends' r' 0 = nI (bi B r')) ∧ fX5_findAll_L81 inn used left fo keys inner content (nI (csum B)) n (nI r) ends = fX5_findAll_L81 inn used left fo keys inner content (nI (csum B)) (0 + 1) (nI 4) ends' := by
        intro m
        induction m with
        | zero =>
          intro r n ends h hn he
          obtain ⟨n, rfl, -⟩ := fuel hn
          have e : r = 4 := by omega
          subst e
          refine ⟨ends, he, ?_⟩
          rw [fX5_findAll_L81, fX5_findAll_L81, if_pos (show 4 ≤ nI 4 by decide), if_pos (show 4 ≤ nI 4 by decide)]
        | succ m ih =>
          intro r n ends h hn he
          obtain ⟨n, rfl, hn2⟩ := fuel hn
          have v0 : va_cpy inner inn 0 0 4 r = nI (bi B r) := cpy_rq hi r (by omega)
          obtain ⟨ends', g1, g2⟩ := ih (r + 1) n (upd2 ends r 0 (nI (bi B r))) (by omega) (by omega) (fun r' hr' => by
            unfold upd2
            by_cases e : r' = r
            · subst e; rw [if_pos rfl, pk_us]
            · rw [if_neg e]; exact he r' (by omega))
          refine ⟨ends', g1, ?_⟩
          rw [fX5_findAll_L81, if_neg (show ¬ 4 ≤ nI r from nI_ge (b := 4) (by omega) (by decide)), gd_in (show r < 4 by omega) (by decide), nI_1, nI_clamp (by omega), v0]
          exact g2
      obtain ⟨ends1, he, e1⟩ := L 4 0 fu ends rfl (by unfold fu; omega) (fun r' h => absurd h (Nat.not_lt_zero r'))
      have hc9 : bc B 0 + bc B 1 + bc B 2 + bc B 3 ≤ 9 := by unfold csum at h9; exact h9
      have hii := BdOK_ii hB
      have hi5 := (BdOK_b hB).2
      have hA : XA (bc B) 0 1 (fun _ => 0) (fun r _ => bi B r) (fill_f used 5 0) (va_cpy content left 0 1 4) ends1 := by
        refine ⟨fun w w1 w4 => ⟨?_, ?_⟩, fun r' w h1 h2 h3 => ?_⟩
        · unfold fill_f
          rw [if_pos (by omega)]; rfl
        · unfold va_cpy
          rw [if_pos (by omega), Nat.zero_add, hc (w - 1) (by omega)]; rfl
        · have : w = 0 := by omega
          rw [this]; exact he r' h1
      obtain ⟨used', left', ends', fo', g1, g2, g3⟩ := share_X hi5 hii hc9 (keys := keys) (cpy_rq (g := inn) hi) 0 0 (nI (csum B)) 26 0 1 (fun _ => 0) (fun r _ => bi B r) (fill_f used 5 0) (va_cpy content left 0 1 4) ends1 (fill_f fo 1000 0) (by omega) (by omega) (by omega) (by omega) (by omega) (XI_0 _ _) (fun r' h => absurd h (Nat.not_lt_zero r')) hA
      have hfo : ∀ k, k < 1000 → fo' k = nI (gK (bi B) (bc B) k) := by
        intro k hk
        rw [g2 k hk]
        unfold fill_f
        rw [if_pos hk]
        exact Int32.zero_add _
      have kl := key_list hR h9 hii hi5
      have k2 := tms_220 hB
      obtain ⟨keys', c1, c2⟩ := f_collect hfo (gK_le hii hc9) (by rw [kl, List.length_map]; exact k2) keys
      rw [kl, List.length_map] at c2
      rw [kl] at c1
      rw [tm_sum hB hR h9] at c2
      refine ⟨va_cpy inner inn 0 0 4, used', left', ends', fo', keys', ⟨rfl, rfl, rfl, fun _ => cpy_rq hi, fun t ht => ?_⟩, ?_⟩
      · have hin := getD_in (d := ((0 : Nat), (0 : Nat), (0 : Nat), (0 : Nat), (0 : Nat))) ht
        refine ⟨?_, ?_⟩
        · rw [c1 t (by rw [List.length_map]; exact ht), getD_map _ _ (0, 0, 0, 0, 0) ht]
        · have km := (key_mem hR h9 hii hi5 _).mp (List.mem_map.mpr ⟨_, hin, rfl⟩)
          rw [hfo _ km.1, tm_mul hB hR h9 hin]
          rfl
      · rw [lit_0, e1, fX5_findAll_L81, if_pos (show 4 ≤ nI 4 by decide)]
        have g3' : fX5_share 26 0 1 0 0 (nI (csum B)) (va_cpy inner inn 0 0 4) (fill_f used 5 0) (va_cpy content left 0 1 4) ends1 (fill_f fo 1000 0) keys = some (used', left', ends', fo') := g3
        rw [g3', bd_s]
        dsimp only
        rw [c2, bd_s]
    · have e := tms_none (B := B) (Or.inr (by omega))
      refine ⟨inn, used, left, ends, fo, keys, ⟨rfl, rfl, rfl, fun h => absurd e h, fun t ht => ?_⟩, ?_⟩
      · rw [e] at ht; exact absurd ht (Nat.not_lt_zero t)
      · rw [if_neg (show ¬ nI (csum B) ≤ 9 from nI_ge (a := 9) (by omega) (by omega)), e]; rfl
theorem f_freshP {B : Bd} (hB : BdOK B) {inner content : Nat → Int32} (hi : rq_4 inner (bi B)) (hc : rq_4 content (bc B)) {fr sz ms bx : Int32} {inn used left : Nat → Int32} {ends : Nat → Nat → Int32} {fo keys : Nat → Int32} (h : fr = 0 ∨ (fr = 1 ∧ PrI B sz ms bx inn fo keys)) : ∃ inn' used' left' ends' fo' keys', PrI B (nI (tms B).length) (nI (tmS (tms B))) (nI (csum B)) inn' fo' keys' ∧ fX7_freshProducts fr (nI (bR B)) inner content sz ms bx inn used left ends fo keys = some (1, nI (tms B).length, nI (tmS (tms B)), nI (csum B), inn', used', left', ends', fo', keys') := by
  unfold fX7_freshProducts fX7_freshProducts_J23
  rcases h with rfl | ⟨rfl, hf⟩
  · obtain ⟨a1, a2, a3, a4, a5, a6, e1, e2⟩ := f_findAllP hB hi hc inn used left ends fo keys
    exact ⟨a1, a2, a3, a4, a5, a6, e1, by rw [if_pos rfl, e2, bd_s]⟩
  · obtain ⟨rfl, rfl, rfl, g⟩ := hf
    exact ⟨inn, used, left, ends, fo, keys, ⟨rfl, rfl, rfl, g⟩, by rw [if_neg (by decide)]⟩
/-- a property of a term -/
theorem div_k : ∀ k, k < 1000 → nI k / 100 = nI (k / 100) ∧ nI k / 10 - nI k / 10 / 10 * 10 = nI (k / 10 % 10) ∧ nI k - nI k / 10 * 10 = nI (k % 10) := by decide +kernel
theorem f_propertyOf {B : Bd} (hB : BdOK B) {inn fo keys : Nat → Int32} (hP : PrI B (nI (tms B).length) (nI (tmS (tms B))) (nI (csum B)) inn fo keys) {t j : Nat} (ht : t < (tms B).length) (hj : j < 5) : fX5_propertyOf (nI t) (nI j) (nI (csum B)) inn fo keys = some (nI (tmG ((tms B).getD t (0, 0, 0, 0, 0)) j)) := by
  obtain ⟨-, -, -, hin, hk⟩ := hP
  have k2 := tms_220 hB
  have hR : bR B ≠ 0 := fun h => by rw [tms_none (Or.inl h)] at ht; exact absurd ht (Nat.not_lt_zero t)
  have h9 : csum B ≤ 9 := by
    apply Classical.byContradiction
    intro n
    rw [tms_none (Or.inr (by omega))] at ht
    exact absurd ht (Nat.not_lt_zero t)
  have hin := hin (fun e => by rw [e] at ht; exact absurd ht (Nat.not_lt_zero t))
  obtain ⟨q1, q2⟩ := hk t ht
  have hmem := getD_in (d := ((0 : Nat), (0 : Nat), (0 : Nat), (0 : Nat), (0 : Nat))) ht
  obtain ⟨a, b, c, ⟨ha, hb, hc, hs, hd, hm⟩, e⟩ := (tms_mem hR h9).mp hmem
  rw [e] at q1 q2 ⊢
  have e2 : tmK B (tmT B a b c) = 100 * (a - bi B 0) + 10 * (b - bi B 1) + (c - bi B 2) := rfl
  rw [e2] at q1 q2
  have kb : 100 * (a - bi B 0) + 10 * (b - bi B 1) + (c - bi B 2) < 1000 := by omega
  obtain ⟨d1, d2, d3⟩ := div_k _ kb
  have f1 : (100 * (a - bi B 0) + 10 * (b - bi B 1) + (c - bi B 2)) / 100 = a - bi B 0 := by omega
  have f2 : (100 * (a - bi B 0) + 10 * (b - bi B 1) + (c - bi B 2)) / 10 % 10 = b - bi B 1 := by omega
  have f3 : (100 * (a - bi B 0) + 10 * (b - bi B 1) + (c - bi B 2)) % 10 = c - bi B 2 := by omega
  rw [f1] at d1
  rw [f2] at d2
  rw [f3] at d3
  unfold fX5_propertyOf
  rw [gd_in (show t < 220 by omega) (by decide), nI_clamp (show t < 2 ^ 31 by omega), q1, d1, d2, d3, show (0 : Int32).toNatClampNeg = 0 from rfl, show (1 : Int32).toNatClampNeg = 1 from rfl, show (2 : Int32).toNatClampNeg = 2 from rfl, show (3 : Int32).toNatClampNeg = 3 from rfl, hin 0 (by decide), hin 1 (by decide), hin 2 (by decide), hin 3 (by decide)]
  rcases (show j = 0 ∨ j = 1 ∨ j = 2 ∨ j = 3 ∨ j = 4 by omega) with rfl | rfl | rfl | rfl | rfl
  · rw [if_pos (by decide), nI_add, show bi B 0 + (a - bi B 0) = a by omega]; rfl
  · rw [if_neg (by decide), if_pos (by decide), nI_add, show bi B 1 + (b - bi B 1) = b by omega]; rfl
  · rw [if_neg (by decide), if_neg (by decide), if_pos (by decide), nI_add, show bi B 2 + (c - bi B 2) = c by omega]; rfl
  · rw [if_neg (by decide), if_neg (by decide), if_neg (by decide), if_pos (by decide), nI_add, nI_sub (by omega), nI_sub (by omega), nI_sub (by omega)]
    show some _ = some (nI (tmD B a b c))
    unfold tmD
    congr 2
    omega
  · rw [if_neg (by decide), if_neg (by decide), if_neg (by decide), if_neg (by decide), gd_in kb (by decide), nI_clamp (by omega), q2]
