/-! the words of a shape are counted row by row -/
def ly (ok : List Nat → Bool) (M : Nat) (p : List Nat) : Nat → Nat
  | 0 => 0
  | y + 1 => (brs ok M p (y + 1)).length + ly ok M p y
theorem len_ly (ok : List Nat → Bool) (M : Nat) (p : List Nat) : (dfs ok (M + 1) p).length = ly ok M p 4 := by
  rw [dfs_alt]
  simp only [alt, ly, List.length_append, List.length_nil]
  rw [show 4 - 0 = 3 + 1 from rfl, show 4 - 1 = 2 + 1 from rfl, show 4 - 2 = 1 + 1 from rfl, show 4 - 3 = 0 + 1 from rfl]
  omega
theorem ly_top {ok : List Nat → Bool} {M : Nat} {p : List Nat} {y : Nat} (h : ∀ v, y < v → v ≤ 4 → ok (p ++ [v]) = false) : ∀ d, y + d ≤ 4 → ly ok M p (y + d) = ly ok M p y := by
  intro d
  induction d with
  | zero => intro _; rfl
  | succ d ih =>
    intro hd
    rw [← Nat.add_assoc, ly, ih (by omega), brs, h (y + d + 1) (by omega) (by omega)]
    simp
/-- the numbers of a state: r rows are written as p -/
def RSt (x : Nat → Nat) (r : Nat) (p : List Nat) (u b : Nat → Nat) : Prop := p.length = sx x r ∧ (∀ v, 1 ≤ v → v ≤ 4 → cq p v p.length = u v) ∧ (r ≠ 0 → ∃ Q, p = Q ++ rw4 b ∧ Q.length = sx x (r - 1) ∧ cm b 4 = x (r - 1))
def TM (i c x : Nat → Nat) : Nat → Nat → (Nat → Nat) → (Nat → Nat) → Nat
  | 0, _, _, _ => 1
  | q + 1, r, u, b => ES i c r u b (fun a => TM i c x q (r + 1) (fun v => u v + a v) a) 4 (x r) (fun _ => 0)
/-- what may come next, in a row of which the amounts a are written and m boxes are left -/
theorem okV_row {i c x : Nat → Nat} (hi : ∀ r, r + 1 < 4 → i (r + 1) + x (r + 1) ≤ i r + x r) {r : Nat} (hr : r < 4) {p : List Nat} {u b a : Nat → Nat} (hS : RSt x r p u b) {m y : Nat} (hm : cm a 4 + (m + 1) = x r) (h1 : 1 ≤ y) (h4 : y ≤ 4) (ha : ∀ v, 1 ≤ v → v < y → a v = 0) : okV i c x (p ++ rw4 a) y = cnd i c r u b a y 1 (m + 1) := by
  obtain ⟨s1, s2, s3⟩ := hS
  have hl : (p ++ rw4 a).length = sx x r + cm a 4 := by rw [List.length_append, rw4_len, s1]
  have hrow : rrow x (sx x r + cm a 4) = r := rrow_of hr (by omega) (by rw [sx]; omega)
  have hq : ∀ v, 1 ≤ v → v ≤ 4 → cq (p ++ rw4 a) v (p ++ rw4 a).length = u v + a v := by
    intro v v1 v4
    rw [cq_app2, s2 v v1 v4, cq_rw4 a v1 v4]
  apply Bool.eq_iff_iff.mpr
  rw [cnd_iff]
  unfold okV
  simp only [Bool.and_eq_true, Bool.or_eq_true, decide_eq_true_eq]
  rw [hq y h1 h4, hl, hrow]
  have k1 : (u y + a y + 1 ≤ c (y - 1)) ↔ (u y + a y + 1 ≤ c (y - 1)) := Iff.rfl
  have k2 : (y = 1 ∨ u y + a y < cq (p ++ rw4 a) (y - 1) (sx x r + cm a 4)) ↔ (y = 1 ∨ u y + a y + 1 ≤ u (y - 1)) := by
    by_cases e : y = 1
    · simp [e]
    · rw [← hl, hq (y - 1) (by omega) (by omega), ha (y - 1) (by omega) (by omega)]
      omega
  have k3 : sx x r + cm a 4 = sx x r ∨ y ≤ (p ++ rw4 a).getD (sx x r + cm a 4 - 1) 0 := by
    by_cases e : cm a 4 = 0
    · exact Or.inl (by omega)
    · refine Or.inr ?_
      rw [getD_app_r (by omega), s1]
      apply rw4_ge ha
      have hlt : sx x r + cm a 4 - 1 - sx x r < (rw4 a).length := by rw [rw4_len]; omega
      rw [List.getD_eq_getElem?_getD, List.getElem?_eq_getElem hlt]
      exact List.getElem_mem hlt
  have k4 : ((r = 0 ∨ rcol i x (sx x r + cm a 4) < i (r - 1)) ∨ (p ++ rw4 a).getD (rabv i x (sx x r + cm a 4)) 0 < y) ↔ (r = 0 ∨ i r + (m + 1) ≤ i (r - 1) + cm b (y - 1)) := by
    by_cases e0 : r = 0
    · simp [e0]
    · have hcol : rcol i x (sx x r + cm a 4) = i r + m := by
        unfold rcol
        rw [hrow]
        omega
      obtain ⟨Q, q1, q2, q3⟩ := s3 e0
      have hii := hi (r - 1) (by omega)
      rw [show r - 1 + 1 = r by omega] at hii
      have habv : rabv i x (sx x r + cm a 4) = sx x (r - 1) + (i (r - 1) + x (r - 1) - 1 - (i r + m)) := by
        unfold rabv
        rw [hcol, hrow]
      have cle : ∀ v, v ≤ 4 → cm b v ≤ cm b 4 := by
        intro v hv
        have : ∀ d, v + d ≤ 4 → cm b v ≤ cm b (v + d) := by
          intro d
          induction d with
          | zero => intro _; exact Nat.le_refl _
          | succ d ih => intro h; rw [← Nat.add_assoc, cm]; have := ih (by omega); omega
        have := this (4 - v) (by omega)
        rwa [show v + (4 - v) = 4 by omega] at this
      have ce := cle (y - 1) (by omega)
      rw [hcol, habv]
      by_cases e1 : i r + m < i (r - 1)
      · constructor
        · intro _; exact Or.inr (by omega)
        · intro _; exact Or.inl (Or.inr e1)
      · have hidx : (p ++ rw4 a).getD (sx x (r - 1) + (i (r - 1) + x (r - 1) - 1 - (i r + m))) 0 = (rw4 b).getD (i (r - 1) + x (r - 1) - 1 - (i r + m)) 0 := by
          have sxr : sx x r = sx x (r - 1) + x (r - 1) := by
            have : sx x (r - 1 + 1) = sx x (r - 1) + x (r - 1) := rfl
            rwa [show r - 1 + 1 = r by omega] at this
          rw [getD_app_l (by rw [s1, sxr]; omega), q1, getD_app_r (by rw [q2]; omega), q2]
          congr 1
          omega
        rw [hidx, rw4_get h1 h4 (by rw [q3]; omega), q3]
        omega
  rw [k2, k4]
  constructor
  · rintro ⟨⟨⟨a1, a2⟩, -⟩, a4⟩
    exact Or.inr ⟨a1, a2, a4⟩
  · intro h
    rcases h with h | ⟨a1, a2, a4⟩
    · omega
    · exact ⟨⟨⟨a1, a2⟩, k3⟩, a4⟩
theorem phase {i c x : Nat → Nat} (hi : ∀ r, r + 1 < 4 → i (r + 1) + x (r + 1) ≤ i r + x r) {r : Nat} (hr : r < 4) {p : List Nat} {u b : Nat → Nat} (hS : RSt x r p u b) (M : Nat) (F : (Nat → Nat) → Nat) (hF : ∀ a, cm a 4 = x r → (dfs (okT i c x) M (p ++ rw4 a)).length = F a) : ∀ (m y : Nat) (a : Nat → Nat), y ≤ 4 → cm a 4 + (m + 1) = x r → (∀ v, 1 ≤ v → v < y → a v = 0) → ly (okT i c x) (M + m) (p ++ rw4 a) y = ES i c r u b F y (m + 1) a := by
  intro m
  induction m with
  | zero =>
    intro y
    induction y with
    | zero => intro a _ _ _; rw [ly, ES, if_neg (by omega)]
    | succ y ihy =>
      intro a hy hm ha
      rw [ly, ES_s, ihy a (by omega) hm (fun v v1 v2 => ha v v1 (by omega)), brs, okT_app, okV_row hi hr hS hm (by omega) hy ha]
      congr 1
      by_cases q : cnd i c r u b a (y + 1) 1 (0 + 1) = true
      · rw [if_pos q, if_pos q, List.append_assoc, rw4_app (by omega) hy ha, ES_0, Nat.add_zero]
        refine hF _ ?_
        have := rw4_app (a := a) (y := y + 1) (by omega) hy ha
        have l := congrArg List.length this
        rw [List.length_append, rw4_len, rw4_len] at l
        simp at l
        omega
      · rw [if_neg q, if_neg q]; rfl
  | succ m ihm =>
    intro y
    induction y with
    | zero => intro a _ _ _; rw [ly, ES, if_neg (by omega)]
    | succ y ihy =>
      intro a hy hm ha
      rw [ly, ES_s, ihy a (by omega) hm (fun v v1 v2 => ha v v1 (by omega)), brs, okT_app, okV_row hi hr hS hm (by omega) hy ha]
      congr 1
      by_cases q : cnd i c r u b a (y + 1) 1 (m + 1 + 1) = true
      · have e := rw4_app (a := a) (y := y + 1) (by omega) hy ha
        have l : cm a 4 + 1 = cm (updN a (y + 1) (a (y + 1) + 1)) 4 := by
          have l := congrArg List.length e
          rw [List.length_append, rw4_len, rw4_len] at l
          simpa using l
        have ha2 : ∀ v, 1 ≤ v → v < y + 1 → updN a (y + 1) (a (y + 1) + 1) v = 0 := fun v v1 v2 => by rw [updN_ne (by omega)]; exact ha v v1 v2
        rw [if_pos q, if_pos q, ← ihm (y + 1) _ hy (by omega) ha2, ← e, ← List.append_assoc, show M + (m + 1) = (M + m) + 1 by omega, len_ly]
        have top := ly_top (ok := okT i c x) (M := M + m) (p := p ++ rw4 a ++ [y + 1]) (y := y + 1) (fun v hv v4 => by
          rw [okT_app]
          apply Bool.eq_false_iff.mpr
          intro h
          unfold okV at h
          simp only [Bool.and_eq_true, Bool.or_eq_true, decide_eq_true_eq] at h
          have h3 := h.1.2
          have hl : (p ++ rw4 a ++ [y + 1]).length = sx x r + (cm a 4 + 1) := by rw [List.length_append, List.length_append, rw4_len, hS.1]; rfl
          rw [hl, rrow_of hr (by omega) (by rw [sx]; omega)] at h3
          rw [show sx x r + (cm a 4 + 1) - 1 = (p ++ rw4 a).length by rw [List.length_append, rw4_len, hS.1]; omega, getD_last] at h3
          omega) (4 - (y + 1)) (by omega)
        rw [show y + 1 + (4 - (y + 1)) = 4 by omega] at top
        exact top
      · rw [if_neg q, if_neg q]; rfl
theorem sx_add {x : Nat → Nat} : ∀ {a b : Nat}, a ≤ b → sx x a ≤ sx x b := fun {a b} h => by
  induction b with
  | zero => rw [show a = 0 by omega]; exact Nat.le_refl _
  | succ b ih =>
    by_cases e : a = b + 1
    · rw [e]; exact Nat.le_refl _
    · have := ih (by omega)
      rw [sx]; omega
theorem dfs_TM {i c x : Nat → Nat} (hi : ∀ r, r + 1 < 4 → i (r + 1) + x (r + 1) ≤ i r + x r) : ∀ (q r : Nat) (p : List Nat) (u b : Nat → Nat), r + q = 4 → RSt x r p u b → (dfs (okT i c x) (sx x 4 - sx x r) p).length = TM i c x q r u b := by
  intro q
  induction q with
  | zero =>
    intro r p u b h hS
    have e : r = 4 := by omega
    subst e
    rw [Nat.sub_self, dfs, TM]; rfl
  | succ q ih =>
    intro r p u b h hS
    have hr : r < 4 := by omega
    have le := sx_add (x := x) (show r + 1 ≤ 4 by omega)
    have sr : sx x (r + 1) = sx x r + x r := rfl
    have hF : ∀ a, cm a 4 = x r → (dfs (okT i c x) (sx x 4 - sx x (r + 1)) (p ++ rw4 a)).length = TM i c x q (r + 1) (fun v => u v + a v) a := by
      intro a ha
      refine ih (r + 1) (p ++ rw4 a) (fun v => u v + a v) a (by omega) ⟨?_, ?_, ?_⟩
      · rw [List.length_append, rw4_len, hS.1, ha]; rfl
      · intro v v1 v4
        rw [cq_app2, hS.2.1 v v1 v4, cq_rw4 a v1 v4]
      · intro _
        exact ⟨p, rfl, hS.1, ha⟩
    rw [TM]
    have e0 : rw4 (fun _ => 0) = [] := rfl
    have c0 : cm (fun _ => 0) 4 = 0 := rfl
    by_cases hx : x r = 0
    · rw [hx, ES_0]
      have := hF (fun _ => 0) (by rw [hx]; rfl)
      rw [e0, List.append_nil, sr, hx, Nat.add_zero] at this
      exact this
    · have P := phase hi hr hS (sx x 4 - sx x (r + 1)) (fun a => TM i c x q (r + 1) (fun v => u v + a v) a) hF (x r - 1) 4 (fun _ => 0) (Nat.le_refl 4) (by rw [c0]; omega) (fun v _ _ => rfl)
      rw [show x r - 1 + 1 = x r by omega, e0, List.append_nil, ← len_ly] at P
      rw [← P]
      congr 2
      omega
theorem mulI_TM {i c : Nat → Nat} {x0 x1 x2 x3 : Nat} (h1 : i 1 + x1 ≤ i 0 + x0) (h2 : i 2 + x2 ≤ i 1 + x1) (h3 : i 3 + x3 ≤ i 2 + x2) : mulI i c x0 x1 x2 x3 = TM i c (xf4 x0 x1 x2 x3) 4 0 (fun _ => 0) (fun _ => 0) := by
  unfold mulI
  have hs : sx (xf4 x0 x1 x2 x3) 4 = x0 + x1 + x2 + x3 := by simp [sx, xf4]
  rw [← dfs_TM (fun r hr => by
    rcases (show r = 0 ∨ r = 1 ∨ r = 2 by omega) with rfl | rfl | rfl
    · exact h1
    · exact h2
    · exact h3) 4 0 [] (fun _ => 0) (fun _ => 0) rfl ⟨rfl, fun v _ _ => rfl, fun h => absurd rfl h⟩, hs]
  rfl
