/-! the amounts of a row, counted in the order of reading -/
theorem ES_l {i c : Nat → Nat} {r : Nat} {u b : Nat → Nat} {F : (Nat → Nat) → Nat} (y : Nat) {m : Nat} (hm : m ≤ 9) {a : Nat → Nat} (ha : a (y + 1) = 0) : ES i c r u b F (y + 1) m a = sm (fun t => if t ≤ m ∧ (t = 0 ∨ (u (y + 1) + t ≤ c y ∧ (y = 0 ∨ u (y + 1) + t ≤ u y) ∧ (r = 0 ∨ i r + m ≤ i (r - 1) + cm b y))) then ES i c r u b F y (m - t) (updN a (y + 1) t) else 0) 10 := by
  rw [ES, sm_10 _ (show m + 1 ≤ 10 by omega)]
  apply sm_congr
  intro t _
  have e : cnd i c r u b a (y + 1) t m = true ↔ (t = 0 ∨ (u (y + 1) + t ≤ c y ∧ (y = 0 ∨ u (y + 1) + t ≤ u y) ∧ (r = 0 ∨ i r + m ≤ i (r - 1) + cm b y))) := by
    rw [cnd_iff, ha, Nat.add_sub_cancel]
    omega
  rw [ha, Nat.zero_add]
  by_cases q : t < m + 1
  · rw [if_pos q]
    by_cases q2 : cnd i c r u b a (y + 1) t m = true
    · rw [if_pos q2, if_pos ⟨by omega, e.mp q2⟩]
    · rw [if_neg q2, if_neg (fun h => q2 (e.mpr h.2))]
  · rw [if_neg q, if_neg (fun h => q (by omega))]
def af (a1 a2 a3 a4 : Nat) : Nat → Nat := updN (updN (updN (updN (fun _ => 0) 4 a4) 3 a3) 2 a2) 1 a1
def KT (i c : Nat → Nat) (r : Nat) (u b : Nat → Nat) (a1 a2 a3 a4 : Nat) : Bool := decide ((a1 = 0 ∨ (u 1 + a1 ≤ c 0 ∧ (r = 0 ∨ i r + a1 ≤ i (r - 1) + cm b 0))) ∧ (a2 = 0 ∨ (u 2 + a2 ≤ c 1 ∧ u 2 + a2 ≤ u 1 ∧ (r = 0 ∨ i r + (a1 + a2) ≤ i (r - 1) + cm b 1))) ∧ (a3 = 0 ∨ (u 3 + a3 ≤ c 2 ∧ u 3 + a3 ≤ u 2 ∧ (r = 0 ∨ i r + (a1 + a2 + a3) ≤ i (r - 1) + cm b 2))) ∧ (a4 = 0 ∨ (u 4 + a4 ≤ c 3 ∧ u 4 + a4 ≤ u 3 ∧ (r = 0 ∨ i r + (a1 + a2 + a3 + a4) ≤ i (r - 1) + cm b 3))))
theorem ES_row {i c : Nat → Nat} {r : Nat} {u b : Nat → Nat} {F : (Nat → Nat) → Nat} {m : Nat} (hm : m ≤ 9) : ES i c r u b F 4 m (fun _ => 0) = sm (fun a4 => sm (fun a3 => sm (fun a2 => sm (fun a1 => if KT i c r u b a1 a2 a3 a4 = true ∧ a1 + a2 + a3 + a4 = m then F (af a1 a2 a3 a4) else 0) 10) 10) 10) 10 := by
  refine (ES_l 3 hm rfl).trans (sm_congr 10 (fun a4 _ => ?_))
  by_cases h4 : a4 ≤ m ∧ (a4 = 0 ∨ (u (3 + 1) + a4 ≤ c 3 ∧ (3 = 0 ∨ u (3 + 1) + a4 ≤ u 3) ∧ (r = 0 ∨ i r + m ≤ i (r - 1) + cm b 3)))
  · refine (if_pos h4).trans ?_
    refine (ES_l 2 (show m - a4 ≤ 9 by omega) (show updN (fun _ => 0) (3 + 1) a4 (2 + 1) = 0 from rfl)).trans (sm_congr 10 (fun a3 _ => ?_))
    by_cases h3 : a3 ≤ m - a4 ∧ (a3 = 0 ∨ (u (2 + 1) + a3 ≤ c 2 ∧ (2 = 0 ∨ u (2 + 1) + a3 ≤ u 2) ∧ (r = 0 ∨ i r + (m - a4) ≤ i (r - 1) + cm b 2)))
    · refine (if_pos h3).trans ?_
      refine (ES_l 1 (show m - a4 - a3 ≤ 9 by omega) (show updN (updN (fun _ => 0) (3 + 1) a4) (2 + 1) a3 (1 + 1) = 0 from rfl)).trans (sm_congr 10 (fun a2 _ => ?_))
      by_cases h2 : a2 ≤ m - a4 - a3 ∧ (a2 = 0 ∨ (u (1 + 1) + a2 ≤ c 1 ∧ (1 = 0 ∨ u (1 + 1) + a2 ≤ u 1) ∧ (r = 0 ∨ i r + (m - a4 - a3) ≤ i (r - 1) + cm b 1)))
      · refine (if_pos h2).trans ?_
        refine (ES_l 0 (show m - a4 - a3 - a2 ≤ 9 by omega) (show updN (updN (updN (fun _ => 0) (3 + 1) a4) (2 + 1) a3) (1 + 1) a2 (0 + 1) = 0 from rfl)).trans (sm_congr 10 (fun a1 _ => ?_))
        have tr : (a1 ≤ m - a4 - a3 - a2 ∧ (a1 = 0 ∨ (u (0 + 1) + a1 ≤ c 0 ∧ (0 = 0 ∨ u (0 + 1) + a1 ≤ u 0) ∧ (r = 0 ∨ i r + (m - a4 - a3 - a2) ≤ i (r - 1) + cm b 0))) ∧ m - a4 - a3 - a2 - a1 = 0) ↔ (KT i c r u b a1 a2 a3 a4 = true ∧ a1 + a2 + a3 + a4 = m) := by
          unfold KT
          rw [decide_eq_true_iff]
          simp only [show 3 + 1 = 4 from rfl, show 2 + 1 = 3 from rfl, show 1 + 1 = 2 from rfl, show 0 + 1 = 1 from rfl] at h4 h3 h2 ⊢
          constructor
          · rintro ⟨g1, g2, g3⟩
            have e : a1 + a2 + a3 + a4 = m := by omega
            subst e
            refine ⟨⟨?_, ?_, ?_, ?_⟩, rfl⟩
            · omega
            · omega
            · omega
            · omega
          · rintro ⟨⟨g1, g2, g3, g4⟩, e⟩
            subst e
            refine ⟨by omega, ?_, by omega⟩
            rcases g1 with g1 | ⟨g1, g5⟩
            · exact Or.inl g1
            · refine Or.inr ⟨g1, by first | exact Or.inl trivial | exact Or.inl rfl, ?_⟩
              omega
        by_cases h1 : a1 ≤ m - a4 - a3 - a2 ∧ (a1 = 0 ∨ (u (0 + 1) + a1 ≤ c 0 ∧ (0 = 0 ∨ u (0 + 1) + a1 ≤ u 0) ∧ (r = 0 ∨ i r + (m - a4 - a3 - a2) ≤ i (r - 1) + cm b 0)))
        · refine (if_pos h1).trans ?_
          rw [ES]
          by_cases h0 : m - a4 - a3 - a2 - a1 = 0
          · rw [if_pos h0, if_pos (tr.mp ⟨h1.1, h1.2, h0⟩)]
            rfl
          · rw [if_neg h0, if_neg (fun h => h0 (tr.mpr h).2.2)]
        · refine (if_neg h1).trans ?_
          rw [if_neg (fun h => h1 ⟨(tr.mpr h).1, (tr.mpr h).2.1⟩)]
      · refine (if_neg h2).trans ?_
        symm
        refine sm_0 10 (fun a1 _ => if_neg ?_)
        rintro ⟨h, e⟩
        unfold KT at h
        rw [decide_eq_true_iff] at h
        obtain ⟨g1, g2, g3, g4⟩ := h
        apply h2
        subst e
        simp only [show 1 + 1 = 2 from rfl]
        refine ⟨by omega, ?_⟩
        omega
    · refine (if_neg h3).trans ?_
      symm
      refine sm_0 10 (fun a2 _ => sm_0 10 (fun a1 _ => if_neg ?_))
      rintro ⟨h, e⟩
      unfold KT at h
      rw [decide_eq_true_iff] at h
      obtain ⟨g1, g2, g3, g4⟩ := h
      apply h3
      subst e
      simp only [show 2 + 1 = 3 from rfl]
      refine ⟨by omega, ?_⟩
      omega
  · refine (if_neg h4).trans ?_
    symm
    refine sm_0 10 (fun a3 _ => sm_0 10 (fun a2 _ => sm_0 10 (fun a1 _ => if_neg ?_)))
    rintro ⟨h, e⟩
    unfold KT at h
    rw [decide_eq_true_iff] at h
    obtain ⟨g1, g2, g3, g4⟩ := h
    apply h4
    subst e
    simp only [show 3 + 1 = 4 from rfl]
    refine ⟨by omega, ?_⟩
    omega
theorem sm_4 (f : Nat → Nat → Nat → Nat → Nat) : sm (fun a4 => sm (fun a3 => sm (fun a2 => sm (fun a1 => f a1 a2 a3 a4) 10) 10) 10) 10 = sm (fun a1 => sm (fun a2 => sm (fun a3 => sm (fun a4 => f a1 a2 a3 a4) 10) 10) 10) 10 := by
  have s1 : sm (fun a4 => sm (fun a3 => sm (fun a2 => sm (fun a1 => f a1 a2 a3 a4) 10) 10) 10) 10 = sm (fun a4 => sm (fun a3 => sm (fun a1 => sm (fun a2 => f a1 a2 a3 a4) 10) 10) 10) 10 := sm_congr 10 (fun a4 _ => sm_congr 10 (fun a3 _ => sm_swap (fun a2 a1 => f a1 a2 a3 a4) 10 10))
  have s2 : sm (fun a4 => sm (fun a3 => sm (fun a1 => sm (fun a2 => f a1 a2 a3 a4) 10) 10) 10) 10 = sm (fun a4 => sm (fun a1 => sm (fun a3 => sm (fun a2 => f a1 a2 a3 a4) 10) 10) 10) 10 := sm_congr 10 (fun a4 _ => sm_swap (fun a3 a1 => sm (fun a2 => f a1 a2 a3 a4) 10) 10 10)
  have s3 : sm (fun a4 => sm (fun a1 => sm (fun a3 => sm (fun a2 => f a1 a2 a3 a4) 10) 10) 10) 10 = sm (fun a1 => sm (fun a4 => sm (fun a3 => sm (fun a2 => f a1 a2 a3 a4) 10) 10) 10) 10 := sm_swap (fun a4 a1 => sm (fun a3 => sm (fun a2 => f a1 a2 a3 a4) 10) 10) 10 10
  have s4 : sm (fun a1 => sm (fun a4 => sm (fun a3 => sm (fun a2 => f a1 a2 a3 a4) 10) 10) 10) 10 = sm (fun a1 => sm (fun a4 => sm (fun a2 => sm (fun a3 => f a1 a2 a3 a4) 10) 10) 10) 10 := sm_congr 10 (fun a1 _ => sm_congr 10 (fun a4 _ => sm_swap (fun a3 a2 => f a1 a2 a3 a4) 10 10))
  have s5 : sm (fun a1 => sm (fun a4 => sm (fun a2 => sm (fun a3 => f a1 a2 a3 a4) 10) 10) 10) 10 = sm (fun a1 => sm (fun a2 => sm (fun a4 => sm (fun a3 => f a1 a2 a3 a4) 10) 10) 10) 10 := sm_congr 10 (fun a1 _ => sm_swap (fun a4 a2 => sm (fun a3 => f a1 a2 a3 a4) 10) 10 10)
  have s6 : sm (fun a1 => sm (fun a2 => sm (fun a4 => sm (fun a3 => f a1 a2 a3 a4) 10) 10) 10) 10 = sm (fun a1 => sm (fun a2 => sm (fun a3 => sm (fun a4 => f a1 a2 a3 a4) 10) 10) 10) 10 := sm_congr 10 (fun a1 _ => sm_congr 10 (fun a2 _ => sm_swap (fun a4 a3 => f a1 a2 a3 a4) 10 10))
  rw [s1, s2, s3, s4, s5, s6]
theorem sm_4c {f g : Nat → Nat → Nat → Nat → Nat} (h : ∀ a1 a2 a3 a4, f a1 a2 a3 a4 = g a1 a2 a3 a4) : sm (fun a1 => sm (fun a2 => sm (fun a3 => sm (fun a4 => f a1 a2 a3 a4) 10) 10) 10) 10 = sm (fun a1 => sm (fun a2 => sm (fun a3 => sm (fun a4 => g a1 a2 a3 a4) 10) 10) 10) 10 := sm_congr 10 (fun a1 _ => sm_congr 10 (fun a2 _ => sm_congr 10 (fun a3 _ => sm_congr 10 (fun a4 _ => h a1 a2 a3 a4))))
theorem sm_40 {f : Nat → Nat → Nat → Nat → Nat} (h : ∀ a1 a2 a3 a4, f a1 a2 a3 a4 = 0) : sm (fun a1 => sm (fun a2 => sm (fun a3 => sm (fun a4 => f a1 a2 a3 a4) 10) 10) 10) 10 = 0 := sm_0 10 (fun a1 _ => sm_0 10 (fun a2 _ => sm_0 10 (fun a3 _ => sm_0 10 (fun a4 _ => h a1 a2 a3 a4))))
/-! a row is laid -/
theorem u4_1 (u : Nat → Nat) (a1 a2 a3 a4 : Nat) : u4f u a1 a2 a3 a4 1 = u 1 + a1 := by simp [u4f, updN]
theorem u4_2 (u : Nat → Nat) (a1 a2 a3 a4 : Nat) : u4f u a1 a2 a3 a4 2 = u 2 + a2 := by simp [u4f, updN]
theorem u4_3 (u : Nat → Nat) (a1 a2 a3 a4 : Nat) : u4f u a1 a2 a3 a4 3 = u 3 + a3 := by simp [u4f, updN]
theorem u4_4 (u : Nat → Nat) (a1 a2 a3 a4 : Nat) : u4f u a1 a2 a3 a4 4 = u 4 + a4 := by simp [u4f, updN]
theorem E4_n (E : Nat → Nat → Nat) {r r' : Nat} (a1 a2 a3 a4 w : Nat) (h : r' ≠ r) : E4f E r a1 a2 a3 a4 r' w = E r' w := by simp [E4f, updE, h]
theorem E4_0 (E : Nat → Nat → Nat) (r a1 a2 a3 a4 : Nat) : E4f E r a1 a2 a3 a4 r 0 = E r 0 := by simp [E4f, updE]
theorem E4_1 (E : Nat → Nat → Nat) (r a1 a2 a3 a4 : Nat) : E4f E r a1 a2 a3 a4 r 1 = E r 0 + a1 := by simp [E4f, updE]
theorem E4_2 (E : Nat → Nat → Nat) (r a1 a2 a3 a4 : Nat) : E4f E r a1 a2 a3 a4 r 2 = E r 0 + a1 + a2 := by simp [E4f, updE]
theorem E4_3 (E : Nat → Nat → Nat) (r a1 a2 a3 a4 : Nat) : E4f E r a1 a2 a3 a4 r 3 = E r 0 + a1 + a2 + a3 := by simp [E4f, updE]
theorem E4_4 (E : Nat → Nat → Nat) (r a1 a2 a3 a4 : Nat) : E4f E r a1 a2 a3 a4 r 4 = E r 0 + a1 + a2 + a3 + a4 := by simp [E4f, updE]
theorem u4_af (u : Nat → Nat) (a1 a2 a3 a4 : Nat) : (fun v => u v + af a1 a2 a3 a4 v) = u4f u a1 a2 a3 a4 := by
  funext v
  unfold af u4f updN
  by_cases e1 : v = 1
  · subst e1; simp
  · by_cases e2 : v = 2
    · subst e2; simp
    · by_cases e3 : v = 3
      · subst e3; simp
      · by_cases e4 : v = 4
        · subst e4; simp
        · simp [e1, e2, e3, e4]
theorem KX_iff {c : Nat → Nat} {r : Nat} {u : Nat → Nat} {E : Nat → Nat → Nat} {a1 a2 a3 a4 : Nat} : KX c r u E a1 a2 a3 a4 = true ↔ ((r = 3 → c 0 - u 1 ≤ a1 ∧ c 1 - u 2 ≤ a2 ∧ c 2 - u 3 ≤ a3 ∧ c 3 - u 4 ≤ a4) ∧ u 1 + a1 ≤ c 0 ∧ u 2 + a2 ≤ c 1 ∧ u 3 + a3 ≤ c 2 ∧ u 4 + a4 ≤ c 3 ∧ u 2 + a2 ≤ u 1 ∧ u 3 + a3 ≤ u 2 ∧ u 4 + a4 ≤ u 3 ∧ (r ≠ 0 → E r 0 + a1 ≤ E (r - 1) 0 ∧ E r 0 + a1 + a2 ≤ E (r - 1) 1 ∧ E r 0 + a1 + a2 + a3 ≤ E (r - 1) 2 ∧ E r 0 + a1 + a2 + a3 + a4 ≤ E (r - 1) 3)) := by
  unfold KX
  rw [decide_eq_true_iff]
theorem KT_iff {i c : Nat → Nat} {r : Nat} {u b : Nat → Nat} {a1 a2 a3 a4 : Nat} : KT i c r u b a1 a2 a3 a4 = true ↔ ((a1 = 0 ∨ (u 1 + a1 ≤ c 0 ∧ (r = 0 ∨ i r + a1 ≤ i (r - 1) + cm b 0))) ∧ (a2 = 0 ∨ (u 2 + a2 ≤ c 1 ∧ u 2 + a2 ≤ u 1 ∧ (r = 0 ∨ i r + (a1 + a2) ≤ i (r - 1) + cm b 1))) ∧ (a3 = 0 ∨ (u 3 + a3 ≤ c 2 ∧ u 3 + a3 ≤ u 2 ∧ (r = 0 ∨ i r + (a1 + a2 + a3) ≤ i (r - 1) + cm b 2))) ∧ (a4 = 0 ∨ (u 4 + a4 ≤ c 3 ∧ u 4 + a4 ≤ u 3 ∧ (r = 0 ∨ i r + (a1 + a2 + a3 + a4) ≤ i (r - 1) + cm b 3)))) := by
  unfold KT
  rw [decide_eq_true_iff]
theorem XI_row {i c : Nat → Nat} (hii : ∀ r, r + 1 < 4 → i (r + 1) ≤ i r) {r : Nat} (hr : r < 4) {u : Nat → Nat} {E : Nat → Nat → Nat} (hI : XI i c r 1 u E) {a1 a2 a3 a4 : Nat} (hK : KX c r u E a1 a2 a3 a4 = true) : XI i c (r + 1) 1 (u4f u a1 a2 a3 a4) (E4f E r a1 a2 a3 a4) := by
  obtain ⟨i1, i2, i3, i4, i5, i6, i7⟩ := hI
  obtain ⟨k0, k1, k2, k3, k4, k5, k6, k7, k8⟩ := KX_iff.mp hK
  have er := i2 r hr
  refine ⟨?_, ?_, ?_, ?_, ?_, ?_, ?_⟩
  · intro w w1 w4
    rcases (show w = 1 ∨ w = 2 ∨ w = 3 ∨ w = 4 by omega) with rfl | rfl | rfl | rfl
    · rw [u4_1]; exact k1
    · rw [u4_2]; exact k2
    · rw [u4_3]; exact k3
    · rw [u4_4]; exact k4
  · intro r' h
    by_cases e : r' = r
    · rw [e, E4_0]; exact er
    · rw [E4_n _ _ _ _ _ _ e]; exact i2 r' h
  · intro h _
    rw [Nat.add_sub_cancel]
    refine ⟨?_, ?_⟩
    · rw [Nat.sub_self, E4_0, E4_n _ _ _ _ _ _ (by omega), i2 _ h, er]
      exact hii r h
    · intro w hw
      rcases (show w = 0 ∨ w = 1 ∨ w = 2 ∨ w = 3 by omega) with rfl | rfl | rfl | rfl
      · rw [E4_0, E4_1]; omega
      · rw [E4_1, E4_2]; omega
      · rw [E4_2, E4_3]; omega
      · rw [E4_3, E4_4]; omega
  · intro _ w hw
    omega
  · intro w w2 w4
    refine ⟨?_, fun _ e => by omega⟩
    rcases (show w = 2 ∨ w = 3 ∨ w = 4 by omega) with rfl | rfl | rfl
    · rw [u4_2, show 2 - 1 = 1 from rfl, u4_1]; omega
    · rw [u4_3, show 3 - 1 = 2 from rfl, u4_2]; omega
    · rw [u4_4, show 4 - 1 = 3 from rfl, u4_3]; omega
  · rw [sE, u4_1, u4_2, u4_3, u4_4, E4_4, sE_congr (E' := E) r (fun r' h => E4_n _ _ _ _ _ _ (by omega))]
    rw [if_pos hr, Nat.sub_self, er] at i6
    by_cases q : r + 1 < 4
    · rw [if_pos q, Nat.sub_self, E4_n _ _ _ _ _ _ (by omega), i2 _ q]; omega
    · rw [if_neg q]; omega
  · intro q
    rw [Nat.sub_self, E4_n _ _ _ _ _ _ (by omega), i2 _ q]; exact Nat.le_refl _
theorem cm_af (a1 a2 a3 a4 : Nat) : cm (af a1 a2 a3 a4) 0 = 0 ∧ cm (af a1 a2 a3 a4) 1 = a1 ∧ cm (af a1 a2 a3 a4) 2 = a1 + a2 ∧ cm (af a1 a2 a3 a4) 3 = a1 + a2 + a3 ∧ cm (af a1 a2 a3 a4) 4 = a1 + a2 + a3 + a4 := by
  refine ⟨rfl, ?_, ?_, ?_, ?_⟩ <;> simp [cm, af, updN]
