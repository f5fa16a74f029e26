/-! the reference lays its terms -/
def TeL (L : List (Nat × Nat × Nat × Nat × Nat)) (terms : Int32) (term : Nat → Int32) : Prop := terms = nI L.length ∧ ∀ t, t < L.length → ∀ j, j < 5 → term (5 * t + j) = nI (tmG (L.getD t (0, 0, 0, 0, 0)) j)
def segC (B : Bd) (a b c : Nat) : List (Nat × Nat × Nat × Nat × Nat) := if (a - bi B 0) + (b - bi B 1) + (c - bi B 2) ≤ csum B ∧ tmD B a b c ≤ c ∧ 0 < mul B a b c (tmD B a b c) then [tmT B a b c] else []
def segB (B : Bd) (a b : Nat) : List (Nat × Nat × Nat × Nat × Nat) := (dl (bi B 2) (b + 1 - bi B 2)).flatMap (segC B a b)
def segA (B : Bd) (a : Nat) : List (Nat × Nat × Nat × Nat × Nat) := (dl (bi B 1) (a + 1 - bi B 1)).flatMap (segB B a)
theorem tms_seg {B : Bd} (hR : bR B ≠ 0) (h9 : csum B ≤ 9) : tms B = (dl (bi B 0) (15 - bi B 0)).flatMap (segA B) := by
  have e : ∀ b, downL b (bi B 2) = dl (bi B 2) (b + 1 - bi B 2) := fun b => downL_dl b _
  have e1 : ∀ b, downL b (bi B 1) = dl (bi B 1) (b + 1 - bi B 1) := fun b => downL_dl b _
  rw [tms_eq hR h9, downL_dl]
  simp only [e, e1]
  rfl
theorem getD_app5 {L : List (Nat × Nat × Nat × Nat × Nat)} {T : Nat × Nat × Nat × Nat × Nat} {t : Nat} (h : t < L.length) : (L ++ [T]).getD t (0, 0, 0, 0, 0) = L.getD t (0, 0, 0, 0, 0) := by
  simp [List.getD_eq_getElem?_getD, List.getElem?_append_left h]
theorem getD_last5 (L : List (Nat × Nat × Nat × Nat × Nat)) (T : Nat × Nat × Nat × Nat × Nat) : (L ++ [T]).getD L.length (0, 0, 0, 0, 0) = T := by
  simp [List.getD_eq_getElem?_getD]
theorem TeL_add {L : List (Nat × Nat × Nat × Nat × Nat)} {terms : Int32} {term term' : Nat → Int32} (h : TeL L terms term) {T : Nat × Nat × Nat × Nat × Nat} (h1 : ∀ k, k < 5 * L.length → term' k = term k) (h2 : ∀ j, j < 5 → term' (5 * L.length + j) = nI (tmG T j)) : TeL (L ++ [T]) (nI (L.length + 1)) term' := by
  refine ⟨by rw [List.length_append]; rfl, ?_⟩
  intro t ht j hj
  rw [List.length_append, List.length_singleton] at ht
  by_cases e : t = L.length
  · subst e
    rw [getD_last5]; exact h2 j hj
  · rw [getD_app5 (by omega), h1 _ (by omega)]
    exact h.2 t (by omega) j hj
theorem f_addTerm {B : Bd} (hB : BdOK B) (h9 : csum B ≤ 9) {inner content shape : Nat → Int32} (hin : rq_4 inner (bi B)) (hc : rq_4 content (bc B)) {a b c : Nat} (ha : bi B 0 ≤ a ∧ a ≤ 14) (hb : bi B 1 ≤ b ∧ b ≤ a) (hcc : bi B 2 ≤ c ∧ c ≤ b) (hs : (a - bi B 0) + (b - bi B 1) + (c - bi B 2) ≤ csum B) (hd : tmD B a b c ≤ c) (s0 : shape 0 = nI a) (s1 : shape 1 = nI b) (s2 : shape 2 = nI c) (s3 : shape 3 = nI (tmD B a b c)) {L : List (Nat × Nat × Nat × Nat × Nat)} {terms : Int32} {term : Nat → Int32} (hL : TeL L terms term) (h3 : L.length + (segC B a b c).length ≤ 220) (ro co gr of : Nat → Int32) : ∃ r, fX8_addTerm inner content terms term shape ro co gr of = some r ∧ TeL (L ++ segC B a b c) r.1 r.2.1 := by
  have hD : tmD B a b c = bi B 3 + (csum B - ((a - bi B 0) + (b - bi B 1) + (c - bi B 2))) := rfl
  have hS : ShOK (bi B) (xf4 (a - bi B 0) (b - bi B 1) (c - bi B 2) (tmD B a b c - bi B 3)) := by
    refine ⟨?_, ?_, ?_⟩
    · intro r hr
      rcases (show r = 0 ∨ r = 1 ∨ r = 2 ∨ r = 3 by omega) with rfl | rfl | rfl | rfl
      · rw [xf_0]; omega
      · rw [xf_1]; omega
      · rw [xf_2]; omega
      · rw [xf_3]; omega
    · intro r hr
      rcases (show r = 0 ∨ r = 1 ∨ r = 2 by omega) with rfl | rfl | rfl
      · rw [xf_0, show 0 + 1 = 1 from rfl, xf_1]; omega
      · rw [xf_1, show 1 + 1 = 2 from rfl, xf_2]; omega
      · rw [xf_2, show 2 + 1 = 3 from rfl, xf_3]; omega
    · simp only [sx, xf_0, xf_1, xf_2, xf_3]; omega
  have hsh : rq_4 shape (fun r => bi B r + xf4 (a - bi B 0) (b - bi B 1) (c - bi B 2) (tmD B a b c - bi B 3) r) := by
    intro r hr
    rcases (show r = 0 ∨ r = 1 ∨ r = 2 ∨ r = 3 by omega) with rfl | rfl | rfl | rfl
    · show shape 0 = nI (bi B 0 + (a - bi B 0))
      rw [s0]; congr 1; omega
    · show shape 1 = nI (bi B 1 + (b - bi B 1))
      rw [s1]; congr 1; omega
    · show shape 2 = nI (bi B 2 + (c - bi B 2))
      rw [s2]; congr 1; omega
    · show shape 3 = nI (bi B 3 + (tmD B a b c - bi B 3))
      rw [s3]; congr 1; omega
  obtain ⟨rb', ro', co', gr', of', eT⟩ := f_timesNow hS hB.2.2.2.2.2.1 hin hc hsh ro co gr of
  have em : (dfs (okT (bi B) (bc B) (xf4 (a - bi B 0) (b - bi B 1) (c - bi B 2) (tmD B a b c - bi B 3))) (sx (xf4 (a - bi B 0) (b - bi B 1) (c - bi B 2) (tmD B a b c - bi B 3)) 4) []).length = mul B a b c (tmD B a b c) := by
    have : sx (xf4 (a - bi B 0) (b - bi B 1) (c - bi B 2) (tmD B a b c - bi B 3)) 4 = (a - bi B 0) + (b - bi B 1) + (c - bi B 2) + (tmD B a b c - bi B 3) := by
      simp only [sx, xf_0, xf_1, xf_2, xf_3]; omega
    rw [this]
    rfl
  have ml : mul B a b c (tmD B a b c) ≤ 262144 := mulI_le (by omega)
  rw [em] at eT
  unfold fX8_addTerm
  rw [eT, bd_s]
  dsimp only
  by_cases q : 0 < mul B a b c (tmD B a b c)
  · have eS : segC B a b c = [tmT B a b c] := by unfold segC; rw [if_pos ⟨hs, hd, q⟩]
    rw [eS] at h3 ⊢
    rw [List.length_singleton] at h3
    rw [if_neg (nI_nle q (by omega)), hL.1]
    obtain ⟨n, hn⟩ : ∃ n, fu = n + 5 := ⟨fu - 5, by unfold fu; omega⟩
    have ix : ∀ j, 5 * nI L.length + nI j = nI (5 * L.length + j) := fun j => by rw [lit_5, nI_mul, nI_add]
    rw [hn, lit_0, fX8_addTerm_L11, if_neg (show ¬ 4 ≤ nI 0 by decide), gd_in (by decide) (by decide), ix, gd_in (show 5 * L.length + 0 < 1500 by omega) (by decide), nI_clamp (show 5 * L.length + 0 < 2 ^ 31 by omega), show (nI 0).toNatClampNeg = 0 from rfl, s0, nI_1]
    rw [fX8_addTerm_L11, if_neg (show ¬ 4 ≤ nI (0 + 1) by decide), gd_in (by decide) (by decide), ix, gd_in (show 5 * L.length + (0 + 1) < 1500 by omega) (by decide), nI_clamp (show 5 * L.length + (0 + 1) < 2 ^ 31 by omega), show (nI (0 + 1)).toNatClampNeg = 1 from rfl, s1, nI_1]
    rw [fX8_addTerm_L11, if_neg (show ¬ 4 ≤ nI (0 + 1 + 1) by decide), gd_in (by decide) (by decide), ix, gd_in (show 5 * L.length + (0 + 1 + 1) < 1500 by omega) (by decide), nI_clamp (show 5 * L.length + (0 + 1 + 1) < 2 ^ 31 by omega), show (nI (0 + 1 + 1)).toNatClampNeg = 2 from rfl, s2, nI_1]
    rw [fX8_addTerm_L11, if_neg (show ¬ 4 ≤ nI (0 + 1 + 1 + 1) by decide), gd_in (by decide) (by decide), ix, gd_in (show 5 * L.length + (0 + 1 + 1 + 1) < 1500 by omega) (by decide), nI_clamp (show 5 * L.length + (0 + 1 + 1 + 1) < 2 ^ 31 by omega), show (nI (0 + 1 + 1 + 1)).toNatClampNeg = 3 from rfl, s3, nI_1]
    rw [fX8_addTerm_L11, if_pos (show 4 ≤ nI (0 + 1 + 1 + 1 + 1) by decide), lit_4, ix, gd_in (show 5 * L.length + 4 < 1500 by omega) (by decide), nI_clamp (show 5 * L.length + 4 < 2 ^ 31 by omega), nI_1]
    refine ⟨_, rfl, TeL_add hL ?_ ?_⟩
    · intro k hk
      unfold upd
      dsimp only
      rw [if_neg (by omega), if_neg (by omega), if_neg (by omega), if_neg (by omega), if_neg (by omega)]
    · intro j hj
      unfold upd
      dsimp only
      rcases (show j = 0 ∨ j = 1 ∨ j = 2 ∨ j = 3 ∨ j = 4 by omega) with rfl | rfl | rfl | rfl | rfl
      · rw [if_neg (by omega), if_neg (by omega), if_neg (by omega), if_neg (by omega), if_pos rfl]; rfl
      · rw [if_neg (by omega), if_neg (by omega), if_neg (by omega), if_pos rfl]; rfl
      · rw [if_neg (by omega), if_neg (by omega), if_pos rfl]; rfl
      · rw [if_neg (by omega), if_pos rfl]; rfl
      · rw [if_pos rfl]; rfl
  · have eS : segC B a b c = [] := by unfold segC; rw [if_neg (fun h => q h.2.2)]
    rw [eS, List.append_nil, if_pos (show nI (mul B a b c (tmD B a b c)) ≤ 0 by rw [show mul B a b c (tmD B a b c) = 0 by omega]; decide)]
    exact ⟨_, rfl, hL⟩
theorem sub_neg : ∀ a, a < 10 → ∀ s, s < 60 → a < s → nI a - nI s < 0 := by decide +kernel
theorem pr_last (lo m : Nat) (hlo : lo ≤ 5) : nI (lo + 0) - 1 < nI lo := by
  rw [Nat.add_zero]
  by_cases z : lo = 0
  · rw [z]; decide
  · rw [lit_1, nI_sub (by omega)]
    exact nI_lt (by omega) (by omega)
theorem lower_L {B : Bd} (hB : BdOK B) (h9 : csum B ≤ 9) {inner content : Nat → Int32} (hin : rq_4 inner (bi B)) (hc : rq_4 content (bc B)) {a b : Nat} (ha : bi B 0 ≤ a ∧ a ≤ 14) (hb : bi B 1 ≤ b ∧ b ≤ a) : ∀ (m n : Nat) (L : List (Nat × Nat × Nat × Nat × Nat)) (terms : Int32) (term shape : Nat → Int32) (rb : Int32) (ro co gr of : Nat → Int32), bi B 2 + m ≤ b + 1 → m < n → shape 0 = nI a → shape 1 = nI b → TeL L terms term → L.length + ((dl (bi B 2) m).flatMap (segC B a b)).length ≤ 220 → ∃ r, fX8_layLower_L7 inner content (nI (csum B) - nI (a - bi B 0) - nI (b - bi B 1)) n (nI (bi B 2 + m) - 1) terms term shape rb ro co gr of = some r ∧ TeL (L ++ (dl (bi B 2) m).flatMap (segC B a b)) r.1 r.2.1 := by
  have i5 := (BdOK_b hB).2
  have b2 := i5 2
  intro m
  induction m with
  | zero =>
    intro n L terms term shape rb ro co gr of _ hn _ _ hL _
    obtain ⟨n, rfl, -⟩ := fuel hn
    rw [fX8_layLower_L7, show (2 : Int32).toNatClampNeg = 2 from rfl, hin 2 (by decide), if_pos (pr_last _ 0 b2)]
    refine ⟨_, rfl, ?_⟩
    rw [dl, List.flatMap_nil, List.append_nil]
    exact hL
  | succ m ih =>
    intro n L terms term shape rb ro co gr of hm hn s0 s1 hL h3
    obtain ⟨n, rfl, hn2⟩ := fuel hn
    rw [dl, List.flatMap_cons] at h3 ⊢
    rw [List.length_append] at h3
    rw [show bi B 2 + (m + 1) = bi B 2 + m + 1 from rfl, nI_pred, fX8_layLower_L7, show (2 : Int32).toNatClampNeg = 2 from rfl, show (3 : Int32).toNatClampNeg = 3 from rfl, hin 2 (by decide), hin 3 (by decide), if_neg (nI_nlt (by omega) (by omega)), nI_sub (show bi B 2 ≤ bi B 2 + m by omega), Int32.sub_sub, Int32.sub_sub, nI_add, nI_add, ← Nat.add_assoc]
    unfold fX8_layLower_J67
    rw [m1_s]
    have skip : segC B a b (bi B 2 + m) = [] → ∀ shape : Nat → Int32, shape 0 = nI a → shape 1 = nI b → ∃ r, fX8_layLower_L7 inner content (nI (csum B) - nI (a - bi B 0) - nI (b - bi B 1)) n (nI (bi B 2 + m) - 1) terms term shape rb ro co gr of = some r ∧ TeL (L ++ (segC B a b (bi B 2 + m) ++ (dl (bi B 2) m).flatMap (segC B a b))) r.1 r.2.1 := by
      intro e shape s0 s1
      have := ih n L terms term shape rb ro co gr of (by omega) (by omega) s0 s1 hL (by omega)
      rw [e, List.nil_append]
      exact this
    by_cases q1 : a - bi B 0 + (b - bi B 1) + (bi B 2 + m - bi B 2) ≤ csum B
    · have hD : tmD B a b (bi B 2 + m) = bi B 3 + (csum B - (a - bi B 0 + (b - bi B 1) + (bi B 2 + m - bi B 2))) := rfl
      have i3 := i5 3
      rw [nI_sub q1, if_neg (nI_pos (by omega)), nI_add, ← hD]
      by_cases q2 : tmD B a b (bi B 2 + m) ≤ bi B 2 + m
      · rw [if_neg (nI_nlt q2 (by omega))]
        obtain ⟨r, e1, e2⟩ := f_addTerm hB h9 hin hc ha hb (show bi B 2 ≤ bi B 2 + m ∧ bi B 2 + m ≤ b from ⟨by omega, by omega⟩) q1 q2 (shape := upd (upd shape 2 (nI (bi B 2 + m))) 3 (nI (tmD B a b (bi B 2 + m)))) (by rw [pk_un (by decide), pk_un (by decide)]; exact s0) (by rw [pk_un (by decide), pk_un (by decide)]; exact s1) (by rw [pk_un (by decide), pk_us]) (by rw [pk_us]) hL (by omega) ro co gr of
        rw [e1, bd_s]
        have := ih n (L ++ segC B a b (bi B 2 + m)) r.1 r.2.1 (upd (upd shape 2 (nI (bi B 2 + m))) 3 (nI (tmD B a b (bi B 2 + m)))) r.2.2.1 r.2.2.2.1 r.2.2.2.2.1 r.2.2.2.2.2.1 r.2.2.2.2.2.2 (by omega) (by omega) (by rw [pk_un (by decide), pk_un (by decide)]; exact s0) (by rw [pk_un (by decide), pk_un (by decide)]; exact s1) e2 (by rw [List.length_append]; omega)
        rw [List.append_assoc] at this
        exact this
      · rw [if_pos (nI_lt (by omega) (by omega))]
        exact skip (by unfold segC; rw [if_neg (fun h => q2 h.2.1)]) shape s0 s1
    · rw [if_pos (sub_neg _ (by omega) _ (by omega) (by omega))]
      exact skip (by unfold segC; rw [if_neg (fun h => q1 h.1)]) shape s0 s1
theorem terms_44 {B : Bd} (hB : BdOK B) (h9 : csum B ≤ 9) {inner content : Nat → Int32} (hin : rq_4 inner (bi B)) (hc : rq_4 content (bc B)) {a : Nat} (ha : bi B 0 ≤ a ∧ a ≤ 14) (k26 : Int32 → Int32 → (Nat → Int32) → (Nat → Int32) → Int32 → (Nat → Int32) → (Nat → Int32) → (Nat → Int32) → (Nat → Int32) → Option (Int32 × Int32 × (Nat → Int32) × (Nat → Int32) × Int32 × (Nat → Int32) × (Nat → Int32) × (Nat → Int32) × (Nat → Int32))) : ∀ (m n : Nat) (L : List (Nat × Nat × Nat × Nat × Nat)) (terms : Int32) (term shape : Nat → Int32) (rb : Int32) (ro co gr of : Nat → Int32), bi B 1 + m ≤ a + 1 → m < n → TeL L terms term → L.length + ((dl (bi B 1) m).flatMap (segB B a)).length ≤ 220 → ∃ (terms' : Int32) (term' shape' : Nat → Int32) (rb' : Int32) (ro' co' gr' of' : Nat → Int32), TeL (L ++ (dl (bi B 1) m).flatMap (segB B a)) terms' term' ∧ fX8_layTerms_L44 inner content (nI (csum B)) (nI a) k26 n (nI (bi B 1 + m) - 1) terms term shape rb ro co gr of = k26 (nI a - 1) terms' term' shape' rb' ro' co' gr' of' := by
  have i5 := (BdOK_b hB).2
  have b1 := i5 1
  intro m
  induction m with
  | zero =>
    intro n L terms term shape rb ro co gr of _ hn hL _
    obtain ⟨n, rfl, -⟩ := fuel hn
    refine ⟨terms, term, shape, rb, ro, co, gr, of, ?_, ?_⟩
    · rw [dl, List.flatMap_nil, List.append_nil]; exact hL
    · rw [fX8_layTerms_L44, show (1 : Int32).toNatClampNeg = 1 from rfl, hin 1 (by decide), if_pos (pr_last _ 0 b1), m1_s]
  | succ m ih =>
    intro n L terms term shape rb ro co gr of hm hn hL h3
    obtain ⟨n, rfl, hn2⟩ := fuel hn
    rw [dl, List.flatMap_cons] at h3 ⊢
    rw [List.length_append] at h3
    have b2 := i5 2
    have ii := BdOK_ii hB 1 (by decide)
    have eL : fX8_layLower (nI (csum B) - nI (a - bi B 0) - nI (bi B 1 + m - bi B 1)) inner content terms term (upd (upd shape 0 (nI a)) 1 (nI (bi B 1 + m))) rb ro co gr of = fX8_layLower_L7 inner content (nI (csum B) - nI (a - bi B 0) - nI (bi B 1 + m - bi B 1)) fu (nI (bi B 2 + (bi B 1 + m + 1 - bi B 2)) - 1) terms term (upd (upd shape 0 (nI a)) 1 (nI (bi B 1 + m))) rb ro co gr of := by
      unfold fX8_layLower
      rw [show (1 : Int32).toNatClampNeg = 1 from rfl, pk_us, show bi B 2 + (bi B 1 + m + 1 - bi B 2) = bi B 1 + m + 1 by simp only [show 1 + 1 = 2 from rfl] at ii; omega, nI_pred]
    obtain ⟨r, e1, e2⟩ := lower_L hB h9 hin hc ha (show bi B 1 ≤ bi B 1 + m ∧ bi B 1 + m ≤ a from ⟨by omega, by omega⟩) (bi B 1 + m + 1 - bi B 2) fu L terms term (upd (upd shape 0 (nI a)) 1 (nI (bi B 1 + m))) rb ro co gr of (by simp only [show 1 + 1 = 2 from rfl] at ii; omega) (by unfold fu; omega) (by rw [pk_un (by decide), pk_us]) (by rw [pk_us]) hL (by unfold segB at h3; omega)
    obtain ⟨t1, t2, t3, t4, t5, t6, t7, t8, g1, g2⟩ := ih n (L ++ segB B a (bi B 1 + m)) r.1 r.2.1 r.2.2.1 r.2.2.2.1 r.2.2.2.2.1 r.2.2.2.2.2.1 r.2.2.2.2.2.2.1 r.2.2.2.2.2.2.2 (by omega) (by omega) e2 (by rw [List.length_append]; omega)
    rw [List.append_assoc] at g1
    refine ⟨t1, t2, t3, t4, t5, t6, t7, t8, g1, ?_⟩
    rw [show bi B 1 + (m + 1) = bi B 1 + m + 1 from rfl, nI_pred, fX8_layTerms_L44, show (1 : Int32).toNatClampNeg = 1 from rfl, show (0 : Int32).toNatClampNeg = 0 from rfl, hin 1 (by decide), hin 0 (by decide), if_neg (nI_nlt (by omega) (by omega)), nI_sub ha.1, nI_sub (show bi B 1 ≤ bi B 1 + m by omega), eL, e1, bd_s, m1_s]
    exact g2
theorem terms_26 {B : Bd} (hB : BdOK B) (h9 : csum B ≤ 9) {inner content : Nat → Int32} (hin : rq_4 inner (bi B)) (hc : rq_4 content (bc B)) : ∀ (m n : Nat) (L : List (Nat × Nat × Nat × Nat × Nat)) (terms : Int32) (term shape : Nat → Int32) (rb : Int32) (ro co gr of : Nat → Int32), bi B 0 + m ≤ 15 → m < n → TeL L terms term → L.length + ((dl (bi B 0) m).flatMap (segA B)).length ≤ 220 → ∃ (terms' : Int32) (term' shape' : Nat → Int32) (rb' : Int32) (ro' co' gr' of' : Nat → Int32), TeL (L ++ (dl (bi B 0) m).flatMap (segA B)) terms' term' ∧ fX8_layTerms_L26 inner content (nI (csum B)) fX8_layTerms_J103 n (nI (bi B 0 + m) - 1) terms term shape rb ro co gr of = some (1, terms', term', shape', rb', ro', co', gr', of') := by
  have i5 := (BdOK_b hB).2
  have b0 := i5 0
  intro m
  induction m with
  | zero =>
    intro n L terms term shape rb ro co gr of _ hn hL _
    obtain ⟨n, rfl, -⟩ := fuel hn
    refine ⟨terms, term, shape, rb, ro, co, gr, of, ?_, ?_⟩
    · rw [dl, List.flatMap_nil, List.append_nil]; exact hL
    · rw [fX8_layTerms_L26, show (0 : Int32).toNatClampNeg = 0 from rfl, hin 0 (by decide), if_pos (pr_last _ 0 b0)]
      rfl
  | succ m ih =>
    intro n L terms term shape rb ro co gr of hm hn hL h3
    obtain ⟨n, rfl, hn2⟩ := fuel hn
    rw [dl, List.flatMap_cons] at h3 ⊢
    rw [List.length_append] at h3
    have ii := BdOK_ii hB 0 (by decide)
    have e15 : bi B 1 + (bi B 0 + m + 1 - bi B 1) = bi B 0 + m + 1 := by simp only [Nat.zero_add] at ii; omega
    obtain ⟨t1, t2, t3, t4, t5, t6, t7, t8, g1, g2⟩ := terms_44 hB h9 hin hc (show bi B 0 ≤ bi B 0 + m ∧ bi B 0 + m ≤ 14 from ⟨by omega, by omega⟩) (fX8_layTerms_L26 inner content (nI (csum B)) fX8_layTerms_J103 n) (bi B 0 + m + 1 - bi B 1) fu L terms term shape rb ro co gr of (by omega) (by unfold fu; omega) hL (by unfold segA at h3; omega)
    obtain ⟨u1, u2, u3, u4, u5, u6, u7, u8, k1, k2⟩ := ih n (L ++ segA B (bi B 0 + m)) t1 t2 t3 t4 t5 t6 t7 t8 (by omega) (by omega) g1 (by rw [List.length_append]; omega)
    rw [List.append_assoc] at k1
    refine ⟨u1, u2, u3, u4, u5, u6, u7, u8, k1, ?_⟩
    rw [e15, nI_pred] at g2
    rw [show bi B 0 + (m + 1) = bi B 0 + m + 1 from rfl, nI_pred, fX8_layTerms_L26, show (0 : Int32).toNatClampNeg = 0 from rfl, hin 0 (by decide), if_neg (nI_nlt (by omega) (by omega)), if_neg (show ¬ 9 < nI (csum B) from nI_nlt (a := 9) h9 (by decide)), g2]
    exact k2
theorem f_layTerms {B : Bd} (hB : BdOK B) (hR : bR B ≠ 0) {inner content : Nat → Int32} (hin : rq_4 inner (bi B)) (hc : rq_4 content (bc B)) {isT terms : Int32} {term : Nat → Int32} (h : isT = 0 ∨ (isT = 1 ∧ TeI B terms term)) (shape : Nat → Int32) (rb : Int32) (ro co gr of : Nat → Int32) : ∃ (term' shape' : Nat → Int32) (rb' : Int32) (ro' co' gr' of' : Nat → Int32), TeI B (nI (tms B).length) term' ∧ fX8_layTerms inner content isT terms term shape rb ro co gr of = some (1, nI (tms B).length, term', shape', rb', ro', co', gr', of') := by
  have cs := csum_lt hB
  have i5 := (BdOK_b hB).2 0
  unfold fX8_layTerms
  rcases h with rfl | ⟨rfl, hT⟩
  · rw [if_pos rfl, f_told hc, bd_s]
    have z : TeL [] 0 term := ⟨rfl, fun t h => absurd h (Nat.not_lt_zero t)⟩
    by_cases h9 : csum B ≤ 9
    · have k2 := tms_220 hB
      rw [tms_seg hR h9] at k2
      obtain ⟨t1, t2, t3, t4, t5, t6, t7, t8, g1, g2⟩ := terms_26 hB h9 hin hc (15 - bi B 0) fu [] 0 term shape rb ro co gr of (by omega) (by unfold fu; omega) z (by rw [List.length_nil]; omega)
      rw [List.nil_append, ← tms_seg hR h9] at g1
      have e : t1 = nI (tms B).length := g1.1
      subst e
      rw [show bi B 0 + (15 - bi B 0) = 14 + 1 by omega, nI_pred] at g2
      exact ⟨t2, t3, t4, t5, t6, t7, t8, g1, g2⟩
    · obtain ⟨n, hn, -⟩ := fuel (show 0 < fu by unfold fu; omega)
      have e := tms_none (B := B) (Or.inr (by omega))
      refine ⟨term, shape, rb, ro, co, gr, of, ⟨rfl, fun t h => by rw [e] at h; exact absurd h (Nat.not_lt_zero t)⟩, ?_⟩
      rw [hn, fX8_layTerms_L26, show (0 : Int32).toNatClampNeg = 0 from rfl, hin 0 (by decide), if_neg (show ¬ 14 < nI (bi B 0) from nI_nlt (a := 14) (by omega) (by decide)), if_pos (show 9 < nI (csum B) from nI_lt (a := 9) (by omega) (by omega)), e]
      rfl
  · rw [if_neg (by decide)]
    obtain ⟨rfl, h2⟩ := hT
    exact ⟨term, shape, rb, ro, co, gr, of, ⟨rfl, h2⟩, rfl⟩
