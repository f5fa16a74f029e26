/-! the class finds all fillings -/
theorem cq_app {p q : List Nat} (u : Nat) : ∀ k, k ≤ p.length → cq (p ++ q) u k = cq p u k := fun k => by
  induction k with
  | zero => intro _; rfl
  | succ k ih =>
    intro h
    rw [cq, cq, ih (by omega), getD_app_l (by omega)]
theorem getD_last (p : List Nat) (v : Nat) : (p ++ [v]).getD p.length 0 = v := by
  rw [getD_app_r (Nat.le_refl _), Nat.sub_self]; rfl
theorem cq_last (p : List Nat) (u v : Nat) : cq (p ++ [v]) u (p.length + 1) = cq p u p.length + (if v = u then 1 else 0) := by
  rw [cq, cq_app u _ (Nat.le_refl _), getD_last]
theorem getD_lt5 {p : List Nat} (h : ∀ x ∈ p, 1 ≤ x ∧ x ≤ 4) (j : Nat) : p.getD j 0 < 5 := by
  rw [List.getD_eq_getElem?_getD]
  by_cases hk : j < p.length
  · rw [List.getElem?_eq_getElem hk]
    have := (h _ (List.getElem_mem hk)).2
    show p[j] < 5
    omega
  · rw [List.getElem?_eq_none (by omega)]; decide
theorem v_app {p : List Nat} {v : Nat} (h : ∀ x ∈ p, 1 ≤ x ∧ x ≤ 4) (h1 : 1 ≤ v) (h4 : v ≤ 4) : ∀ x ∈ p ++ [v], 1 ≤ x ∧ x ≤ 4 := by
  intro x hx
  rcases List.mem_append.mp hx with q | q
  · exact h x q
  · rw [List.mem_singleton.mp q]; exact ⟨h1, h4⟩
theorem agr_app {f : Nat → Int32} {p : List Nat} {v : Nat} (h : agr f p) : agr (upd f p.length (nI v)) (p ++ [v]) := agr_push h rfl
theorem agr_le {f : Nat → Int32} {p : List Nat} {v : Nat} (h : agr f (p ++ [v])) : agr f p := fun j hj => by
  rw [h j (by rw [List.length_append]; omega), getD_app_l hj]
theorem agr_un {f : Nat → Int32} {p : List Nat} {x : Int32} {k : Nat} (h : agr f p) (hk : p.length ≤ k) : agr (upd f k x) p := fun j hj => by
  rw [pk_un (by omega)]; exact h j hj
theorem okP_app (B : Bd) (p : List Nat) (v : Nat) : okP B (p ++ [v]) = (fitB B (p ++ [v]) p.length && (decide (bK B ≠ 2) || latB B (p ++ [v]) p.length) && decide (cq p v p.length + 1 ≤ bc B (v - 1))) := by
  unfold okP
  rw [show (p ++ [v]).length - 1 = p.length by simp, getD_last, show (p ++ [v]).length = p.length + 1 by simp, cq_last, if_pos rfl]
def lfI (B : Bd) (p : List Nat) (left : Nat → Int32) : Prop := ∀ j, j < 4 → cq p (j + 1) p.length ≤ bc B j ∧ left j = nI (bc B j - cq p (j + 1) p.length)
theorem lf_take {B : Bd} {p : List Nat} {left : Nat → Int32} (h : lfI B p left) {v : Nat} (h1 : 1 ≤ v) (h4 : v ≤ 4) (hc : cq p v p.length + 1 ≤ bc B (v - 1)) : lfI B (p ++ [v]) (upd left (v - 1) (left (v - 1) - 1)) := by
  intro j hj
  have a := h j hj
  rw [show (p ++ [v]).length = p.length + 1 by simp, cq_last]
  by_cases e : j = v - 1
  · rw [if_pos (show v = j + 1 by omega), e, pk_us, (h (v - 1) (by omega)).2, show v - 1 + 1 = v by omega, lit_1, nI_sub (by omega)]
    exact ⟨by omega, by congr 1⟩
  · rw [if_neg (show ¬ v = j + 1 by omega), pk_un e]
    exact ⟨a.1, a.2⟩
theorem lf_back {B : Bd} {p : List Nat} {left : Nat → Int32} {v : Nat} (h : lfI B (p ++ [v]) left) (h1 : 1 ≤ v) (h4 : v ≤ 4) : lfI B p (upd left (v - 1) (left (v - 1) + 1)) := by
  intro j hj
  have a := h j hj
  rw [show (p ++ [v]).length = p.length + 1 by simp, cq_last] at a
  by_cases e : j = v - 1
  · rw [if_pos (show v = j + 1 by omega)] at a
    rw [← e, pk_us, a.2, nI_1]
    exact ⟨by omega, by congr 1; omega⟩
  · rw [if_neg (show ¬ v = j + 1 by omega)] at a
    rw [pk_un e]
    exact ⟨a.1, a.2⟩
theorem codeL_app (p : List Nat) (v : Nat) : codeL (p ++ [v]) = 4 * codeL p + (v - 1) := by
  unfold codeL
  rw [List.foldl_append]; rfl
def brs (ok : List Nat → Bool) (m : Nat) (p : List Nat) (v : Nat) : List (List Nat) := if ok (p ++ [v]) = true then dfs ok m (p ++ [v]) else []
/-- what comes from the numbers v to 4 -/
def alt (ok : List Nat → Bool) (m : Nat) (p : List Nat) : Nat → List (List Nat)
  | 0 => []
  | t + 1 => brs ok m p (4 - t) ++ alt ok m p t
theorem dfs_alt (ok : List Nat → Bool) (m : Nat) (p : List Nat) : dfs ok (m + 1) p = alt ok m p 4 := by
  rw [dfs]
  simp only [List.flatMap_cons, List.flatMap_nil, alt, brs]
theorem fill_X {B : Bd} (hB : BdOK B) {ro co be ab rs : Nat → Int32} (hg : gdI B ro co be ab rs (nI (nbx B))) : ∀ (m d : Nat) (p s : List Nat) (codes num left : Nat → Int32), p.length + m = nbx B → m < d → (∀ x ∈ p, 1 ≤ x ∧ x ≤ 4) → agr num p → lfI B p left → agr codes s → s.length + (dfs (okP B) m p).length ≤ 400 → ∃ codes' num' left', agr codes' (s ++ (dfs (okP B) m p).map codeL) ∧ agr num' p ∧ lfI B p left' ∧ fX0_fillFrom d (nI p.length) (nI (codeL p)) (nI s.length) (nI (bK B)) codes num left ro co be ab rs (nI (nbx B)) = some (nI (s ++ (dfs (okP B) m p).map codeL).length, codes', num', left') := by
  have n9 := hB.2.2.2.2.2.2.1
  intro m
  induction m with
  | zero =>
    intro d p s codes num left h hd hp hn hl hc h4
    obtain ⟨d, rfl, -⟩ := fuel hd
    have hs : s.length < 400 := by rw [dfs] at h4; simp at h4; omega
    refine ⟨upd codes s.length (nI (codeL p)), num, left, ?_, hn, hl, ?_⟩
    · rw [dfs]; exact agr_push hc rfl
    · rw [fX0_fillFrom, if_pos (nI_le (by omega) (by omega))]
      unfold fX0_fillFrom_J17 fX0_keep fX0_keep_J30
      rw [if_neg (show ¬ 400 ≤ nI s.length from nI_ge (b := 400) hs (by decide)), gd_in hs (by decide), nI_1, nI_clamp (by omega), dfs]
      simp [bd_s]
  | succ m ih =>
    intro d p s codes num left h hd hp hn hl hc h4
    obtain ⟨d, rfl, hd2⟩ := fuel hd
    rw [dfs_alt] at h4 ⊢
    have L : ∀ (t n : Nat) (s : List Nat) (codes num left : Nat → Int32), t ≤ 4 → t < n → agr num p → lfI B p left → agr codes s → s.length + (alt (okP B) m p t).length ≤ 400 → ∃ codes' num' left', agr codes' (s ++ (alt (okP B) m p t).map codeL) ∧ agr num' p ∧ lfI B p left' ∧ fX0_fillFrom_L25 (nI (bK B)) ro co be ab rs (nI (nbx B)) (nI p.length) (nI (codeL p)) (fX0_fillFrom d) n (nI (5 - t)) (nI s.length) codes num left = some (nI (s ++ (alt (okP B) m p t).map codeL).length, codes', num', left') := by
      intro t
      induction t with
      | zero =>
        intro n s codes num left ht hnn hn hl hc h4
        obtain ⟨n, rfl, -⟩ := fuel hnn
        refine ⟨codes, num, left, by rw [alt]; simpa using hc, hn, hl, ?_⟩
        rw [fX0_fillFrom_L25, if_pos (by decide), alt]; simp
      | succ t iht =>
        intro n s codes num left ht hnn hn hl hc h4
        obtain ⟨n, rfl, hn2⟩ := fuel hnn
        rw [show 5 - (t + 1) = 4 - t by omega]
        have v1 : 1 ≤ 4 - t := by omega
        have hnum : agr (upd num p.length (nI (4 - t))) (p ++ [4 - t]) := agr_app hn
        have hnum2 : agr (upd num p.length (nI (4 - t))) p := agr_le hnum
        have hpv := v_app hp v1 (show 4 - t ≤ 4 by omega)
        have ff := f_fitsX (num := upd num p.length (nI (4 - t))) hB hg (show p.length < nbx B by omega) (w := p ++ [4 - t]) (fun j hj => hnum j (by rw [List.length_append]; show j < p.length + 1; omega)) (getD_lt5 hpv) (by rw [getD_last]; exact v1)
        have hlv := hl (4 - t - 1) (by omega)
        rw [show 4 - t - 1 + 1 = 4 - t by omega] at hlv
        have cb := hB.2.2.2.2.2.1 (4 - t - 1)
        rw [fX0_fillFrom_L25, if_neg (show ¬ 4 < nI (4 - t) from nI_nlt (a := 4) (by omega) (by decide)), gd_in (show p.length < 9 by omega) (by decide), show nI (4 - t) - 1 = nI (4 - t - 1) by rw [lit_1, nI_sub v1], gd_in (show 4 - t - 1 < 4 by omega) (by decide), nI_clamp (show p.length < 2 ^ 31 by omega), nI_clamp (show 4 - t - 1 < 2 ^ 31 by omega), ff, bd_s, hlv.2]
        unfold fX0_fillFrom_J92
        rw [show nI (4 - t) + 1 = nI (5 - t) by rw [nI_1]; congr 1; omega]
        have okE := okP_app B p (4 - t)
        by_cases q1 : cq p (4 - t) p.length + 1 ≤ bc B (4 - t - 1)
        · rw [if_neg (show ¬ nI (bc B (4 - t - 1) - cq p (4 - t) p.length) ≤ 0 from nI_nle (by omega) (by omega))]
          by_cases q2 : (fitB B (p ++ [4 - t]) p.length && (decide (bK B ≠ 2) || latB B (p ++ [4 - t]) p.length)) = true
          · have ok : okP B (p ++ [4 - t]) = true := by rw [okE, q2]; simp [q1]
            have eA : alt (okP B) m p (t + 1) = dfs (okP B) m (p ++ [4 - t]) ++ alt (okP B) m p t := by rw [alt, brs, if_pos ok]
            rw [eA] at h4 ⊢
            rw [List.length_append] at h4
            rw [if_pos q2, if_neg (by decide)]
            unfold fX0_codeWith
            rw [bd_s, show 4 * nI (codeL p) + nI (4 - t) - 1 = nI (codeL (p ++ [4 - t])) by rw [codeL_app, lit_4, nI_mul, nI_add, lit_1, nI_sub (by omega)]; congr 1; omega, nI_1]
            have hl2 := lf_take hl v1 (show 4 - t ≤ 4 by omega) q1
            rw [hlv.2] at hl2
            obtain ⟨c1, m1, l1, e1, e2, e3, e4⟩ := ih d (p ++ [4 - t]) s codes (upd num p.length (nI (4 - t))) (upd left (4 - t - 1) (nI (bc B (4 - t - 1) - cq p (4 - t) p.length) - 1)) (by rw [List.length_append]; show p.length + 1 + m = nbx B; omega) (by omega) hpv hnum hl2 hc (by omega)
            rw [show (p ++ [4 - t]).length = p.length + 1 by simp] at e4
            obtain ⟨c2, m2, l2, d1, d2, d3, d4⟩ := iht n (s ++ (dfs (okP B) m (p ++ [4 - t])).map codeL) c1 m1 (upd l1 (4 - t - 1) (l1 (4 - t - 1) + 1)) (by omega) (by omega) (agr_le e2) (lf_back e3 v1 (by omega)) e1 (by rw [List.length_append, List.length_map]; omega)
            refine ⟨c2, m2, l2, by rw [List.map_append, ← List.append_assoc]; exact d1, d2, d3, ?_⟩
            rw [e4, bd_s, d4, List.map_append, ← List.append_assoc]
          · have ok : okP B (p ++ [4 - t]) = false := by
              rw [okE, show (fitB B (p ++ [4 - t]) p.length && (decide (bK B ≠ 2) || latB B (p ++ [4 - t]) p.length)) = false by simpa only [Bool.not_eq_true] using q2]; rfl
            have eA : alt (okP B) m p (t + 1) = alt (okP B) m p t := by rw [alt, brs, ok]; rfl
            rw [eA] at h4 ⊢
            rw [if_neg q2, if_pos rfl]
            exact iht n s codes (upd num p.length (nI (4 - t))) left (by omega) (by omega) hnum2 hl hc h4
        · have ok : okP B (p ++ [4 - t]) = false := by
            rw [okE, decide_eq_false q1, Bool.and_false]
          have eA : alt (okP B) m p (t + 1) = alt (okP B) m p t := by rw [alt, brs, ok]; rfl
          rw [eA] at h4 ⊢
          rw [if_pos (show nI (bc B (4 - t - 1) - cq p (4 - t) p.length) ≤ 0 by rw [show bc B (4 - t - 1) - cq p (4 - t) p.length = 0 by omega]; decide)]
          exact iht n s codes (upd num p.length (nI (4 - t))) left (by omega) (by omega) hnum2 hl hc h4
    rw [fX0_fillFrom, if_neg (nI_ge (by omega) (by omega)), if_pos (show nI p.length < 9 from nI_lt (b := 9) (by omega) (by decide))]
    exact L 4 fu s codes num left (Nat.le_refl 4) (by unfold fu; omega) hn hl hc h4
theorem f_contentSum {B : Bd} {c : Nat → Int32} (hc : rq_4 c (bc B)) : fX4_contentSum c = some (nI (csum B)) := by
  obtain ⟨m, hm⟩ : ∃ m, fu = m + 5 := ⟨fu - 5, by unfold fu; omega⟩
  unfold fX4_contentSum csum
  rw [hm, lit_0, fX4_contentSum_L13, if_neg (show ¬ 4 ≤ nI 0 by decide), gd_in (by decide) (by decide), rq_get hc (by decide), nI_1, fX4_contentSum_L13, if_neg (show ¬ 4 ≤ nI (0 + 1) by decide), gd_in (by decide) (by decide), rq_get hc (by decide), nI_1, fX4_contentSum_L13, if_neg (show ¬ 4 ≤ nI (0 + 1 + 1) by decide), gd_in (by decide) (by decide), rq_get hc (by decide), nI_1, fX4_contentSum_L13, if_neg (show ¬ 4 ≤ nI (0 + 1 + 1 + 1) by decide), gd_in (by decide) (by decide), rq_get hc (by decide), nI_1, fX4_contentSum_L13, if_pos (show 4 ≤ nI (0 + 1 + 1 + 1 + 1) by decide), nI_add, nI_add, nI_add, nI_add]
  simp
theorem csum_lt {B : Bd} (hB : BdOK B) : csum B < 100 := by
  have h := hB.2.2.2.2.2.1
  have := h 0
  have := h 1
  have := h 2
  have := h 3
  unfold csum
  omega
