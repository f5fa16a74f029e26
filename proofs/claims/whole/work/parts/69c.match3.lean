/-! the class' count of a key is the number of words of its shape -/
theorem c_all {i c : Nat → Nat} {u : Nat → Nat} {E : Nat → Nat → Nat} (hI : XI i c 4 1 u E) (hu : ∀ v, 1 ≤ v → v ≤ 4 → u v = c (v - 1)) : sE i E 4 = c 0 + c 1 + c 2 + c 3 := by
  have i6 := hI.2.2.2.2.2.1
  rw [if_neg (by decide), hu 1 (by decide) (by decide), hu 2 (by decide) (by decide), hu 3 (by decide) (by decide), hu 4 (by decide) (by decide)] at i6
  exact i6
theorem sE_4 (i : Nat → Nat) (E : Nat → Nat → Nat) : sE i E 4 = (E 0 4 - i 0) + (E 1 4 - i 1) + (E 2 4 - i 2) + (E 3 4 - i 3) := by simp [sE]
theorem u_row {c : Nat → Nat} {r : Nat} {u : Nat → Nat} {E : Nat → Nat → Nat} {a1 a2 a3 a4 : Nat} (hK : KX c r u E a1 a2 a3 a4 = true) : r + 1 = 4 → ∀ v, 1 ≤ v → v ≤ 4 → u4f u a1 a2 a3 a4 v = c (v - 1) := by
  intro h v v1 v4
  obtain ⟨k0, k1, k2, k3, k4, -⟩ := KX_iff.mp hK
  have := k0 (by omega)
  rcases (show v = 1 ∨ v = 2 ∨ v = 3 ∨ v = 4 by omega) with rfl | rfl | rfl | rfl
  · rw [u4_1, Nat.sub_self]; omega
  · rw [u4_2, show 2 - 1 = 1 from rfl]; omega
  · rw [u4_3, show 3 - 1 = 2 from rfl]; omega
  · rw [u4_4, show 4 - 1 = 3 from rfl]; omega
theorem SH_bad {i c : Nat → Nat} (hii : ∀ r, r + 1 < 4 → i (r + 1) ≤ i r) (hc : c 0 + c 1 + c 2 + c 3 ≤ 9) {k : Nat} (hbad : ∀ E : Nat → Nat → Nat, kyE i E = k → (∀ r, r < 4 → i r ≤ E r 4) → sE i E 4 = c 0 + c 1 + c 2 + c 3 → (∀ r, r + 1 < 4 → E (r + 1) 4 ≤ E r 4) → False) : ∀ (q r d : Nat) (u : Nat → Nat) (E : Nat → Nat → Nat), r + q = 4 → XI i c r 1 u E → (r = 4 → ∀ v, 1 ≤ v → v ≤ 4 → u v = c (v - 1)) → (∀ r', r' < r → i r' ≤ E r' 4) → (∀ r', r' + 1 < r → E (r' + 1) 4 ≤ E r' 4) → SH i c k (5 * q + 1 + d) r 1 u E = 0 := by
  intro q
  induction q with
  | zero =>
    intro r d u E h hI hu h1 h2
    have e : r = 4 := by omega
    subst e
    rw [show 5 * 0 + 1 + d = d + 1 by omega, SH, if_neg (by decide)]
    exact if_neg (fun e => hbad E e h1 (c_all hI (hu rfl)) h2)
  | succ q ih =>
    intro r d u E h hI hu h1 h2
    have hr : r < 4 := by omega
    rw [show 5 * (q + 1) + 1 + d = (5 * q + 1 + d) + 5 by omega, SH_row hc k _ hr hI]
    apply sm_40
    intro a1 a2 a3 a4
    by_cases hK : KX c r u E a1 a2 a3 a4 = true
    · rw [if_pos hK]
      obtain ⟨k0, k1, k2, k3, k4, k5, k6, k7, k8⟩ := KX_iff.mp hK
      have er := hI.2.1 r hr
      refine ih (r + 1) d _ _ (by omega) (XI_row hii hr hI hK) (u_row hK) ?_ ?_
      · intro r' hr'
        by_cases e : r' = r
        · rw [e, E4_4]; omega
        · rw [E4_n _ _ _ _ _ _ e]; exact h1 r' (by omega)
      · intro r' hr'
        by_cases e : r' + 1 = r
        · rw [e, E4_4, E4_n _ _ _ _ _ _ (by omega)]
          have g := (hI.2.2.1 hr (by omega)).2 3 (by decide)
          have g2 := (k8 (by omega)).2.2.2
          rw [show r - 1 = r' by omega] at g g2
          rw [show 3 + 1 = 4 from rfl] at g
          omega
        · rw [E4_n _ _ _ _ _ _ (by omega), E4_n _ _ _ _ _ _ (by omega)]
          exact h2 r' (by omega)
    · rw [if_neg hK]
theorem xf_0 (x0 x1 x2 x3 : Nat) : xf4 x0 x1 x2 x3 0 = x0 := rfl
theorem xf_1 (x0 x1 x2 x3 : Nat) : xf4 x0 x1 x2 x3 1 = x1 := rfl
theorem xf_2 (x0 x1 x2 x3 : Nat) : xf4 x0 x1 x2 x3 2 = x2 := rfl
theorem xf_3 (x0 x1 x2 x3 : Nat) : xf4 x0 x1 x2 x3 3 = x3 := rfl
theorem dig3 {a b c x y z : Nat} (hb : b ≤ 9) (hc : c ≤ 9) (hy : y ≤ 9) (hz : z ≤ 9) (e : 100 * a + 10 * b + c = 100 * x + 10 * y + z) : a = x ∧ b = y ∧ c = z := by
  have h1 : a = x := by omega
  subst h1
  have h2 : b = y := by omega
  exact ⟨rfl, h2, by omega⟩
theorem SH_off {i c : Nat → Nat} (hii : ∀ r, r + 1 < 4 → i (r + 1) ≤ i r) (hc : c 0 + c 1 + c 2 + c 3 ≤ 9) {x0 x1 x2 : Nat} (hx : x0 + x1 + x2 ≤ c 0 + c 1 + c 2 + c 3) {r1 : Nat} : ∀ (q r d : Nat) (u : Nat → Nat) (E : Nat → Nat → Nat), r + q = 4 → XI i c r 1 u E → (r = 4 → ∀ v, 1 ≤ v → v ≤ 4 → u v = c (v - 1)) → (∀ r', r' < r → i r' ≤ E r' 4) → r1 < r → E r1 4 ≠ i r1 + xf4 x0 x1 x2 (c 0 + c 1 + c 2 + c 3 - (x0 + x1 + x2)) r1 → SH i c (100 * x0 + 10 * x1 + x2) (5 * q + 1 + d) r 1 u E = 0 := by
  intro q
  induction q with
  | zero =>
    intro r d u E h hI hu h1 h2 h3
    have e : r = 4 := by omega
    subst e
    rw [show 5 * 0 + 1 + d = d + 1 by omega, SH, if_neg (by decide)]
    apply if_neg
    intro e
    have s := c_all hI (hu rfl)
    rw [sE_4] at s
    unfold kyE at e
    have m0 := h1 0 (by decide)
    have m1 := h1 1 (by decide)
    have m2 := h1 2 (by decide)
    have m3 := h1 3 (by decide)
    obtain ⟨d0, d1, d2⟩ := dig3 (by omega) (by omega) (by omega) (by omega) e
    apply h3
    clear h3 e
    rcases (show r1 = 0 ∨ r1 = 1 ∨ r1 = 2 ∨ r1 = 3 by omega) with rfl | rfl | rfl | rfl
    · rw [xf_0]; omega
    · rw [xf_1]; omega
    · rw [xf_2]; omega
    · rw [xf_3]; omega
  | succ q ih =>
    intro r d u E h hI hu h1 h2 h3
    have hr : r < 4 := by omega
    rw [show 5 * (q + 1) + 1 + d = (5 * q + 1 + d) + 5 by omega, SH_row hc _ _ hr hI]
    apply sm_40
    intro a1 a2 a3 a4
    by_cases hK : KX c r u E a1 a2 a3 a4 = true
    · rw [if_pos hK]
      have er := hI.2.1 r hr
      refine ih (r + 1) d _ _ (by omega) (XI_row hii hr hI hK) (u_row hK) ?_ (by omega) ?_
      · intro r' hr'
        by_cases e : r' = r
        · rw [e, E4_4]; omega
        · rw [E4_n _ _ _ _ _ _ e]; exact h1 r' (by omega)
      · rw [E4_n _ _ _ _ _ _ (by omega)]; exact h3
    · rw [if_neg hK]
theorem SH_good {i c : Nat → Nat} (hii : ∀ r, r + 1 < 4 → i (r + 1) ≤ i r) (hc : c 0 + c 1 + c 2 + c 3 ≤ 9) {x0 x1 x2 : Nat} (hx : x0 + x1 + x2 ≤ c 0 + c 1 + c 2 + c 3) : ∀ (q r d : Nat) (u b : Nat → Nat) (E : Nat → Nat → Nat), r + q = 4 → XI i c r 1 u E → (r = 4 → ∀ v, 1 ≤ v → v ≤ 4 → u v = c (v - 1)) → (r ≠ 0 → ∀ w, w ≤ 4 → E (r - 1) w = i (r - 1) + cm b w) → (∀ r', r' < r → E r' 4 = i r' + xf4 x0 x1 x2 (c 0 + c 1 + c 2 + c 3 - (x0 + x1 + x2)) r') → SH i c (100 * x0 + 10 * x1 + x2) (5 * q + 1 + d) r 1 u E = TM i c (xf4 x0 x1 x2 (c 0 + c 1 + c 2 + c 3 - (x0 + x1 + x2))) q r u b := by
  intro q
  induction q with
  | zero =>
    intro r d u b E h hI hu hb h1
    have e : r = 4 := by omega
    subst e
    rw [show 5 * 0 + 1 + d = d + 1 by omega, SH, if_neg (by decide), TM]
    apply if_pos
    unfold kyE
    rw [h1 0 (by decide), h1 1 (by decide), h1 2 (by decide), xf_0, xf_1, xf_2]
    omega
  | succ q ih =>
    intro r d u b E h hI hu hb h1
    have hr : r < 4 := by omega
    have x9 : xf4 x0 x1 x2 (c 0 + c 1 + c 2 + c 3 - (x0 + x1 + x2)) r ≤ 9 := by
      rcases (show r = 0 ∨ r = 1 ∨ r = 2 ∨ r = 3 by omega) with rfl | rfl | rfl | rfl
      · rw [xf_0]; omega
      · rw [xf_1]; omega
      · rw [xf_2]; omega
      · rw [xf_3]; omega
    rw [show 5 * (q + 1) + 1 + d = (5 * q + 1 + d) + 5 by omega, SH_row hc _ _ hr hI, TM, ES_row x9, sm_4 (fun a1 a2 a3 a4 => if KT i c r u b a1 a2 a3 a4 = true ∧ a1 + a2 + a3 + a4 = xf4 x0 x1 x2 (c 0 + c 1 + c 2 + c 3 - (x0 + x1 + x2)) r then TM i c (xf4 x0 x1 x2 (c 0 + c 1 + c 2 + c 3 - (x0 + x1 + x2))) q (r + 1) (fun v => u v + af a1 a2 a3 a4 v) (af a1 a2 a3 a4) else 0)]
    apply sm_4c
    intro a1 a2 a3 a4
    have er := hI.2.1 r hr
    have hm : ∀ r', r' < r → i r' ≤ E r' 4 := fun r' hr' => by rw [h1 r' hr']; omega
    have b0 : cm b 0 = 0 := rfl
    have b1 : cm b 1 = cm b 0 + b 1 := rfl
    have b2 : cm b 2 = cm b 1 + b 2 := rfl
    have b3 : cm b 3 = cm b 2 + b 3 := rfl
    by_cases hK : KX c r u E a1 a2 a3 a4 = true
    · rw [if_pos hK]
      obtain ⟨k0, k1, k2, k3, k4, k5, k6, k7, k8⟩ := KX_iff.mp hK
      have hX := XI_row hii hr hI hK
      have hm2 : ∀ r', r' < r + 1 → i r' ≤ E4f E r a1 a2 a3 a4 r' 4 := by
        intro r' hr'
        by_cases e : r' = r
        · rw [e, E4_4]; omega
        · rw [E4_n _ _ _ _ _ _ e]; exact hm r' (by omega)
      by_cases hs : a1 + a2 + a3 + a4 = xf4 x0 x1 x2 (c 0 + c 1 + c 2 + c 3 - (x0 + x1 + x2)) r
      · have kt : KT i c r u b a1 a2 a3 a4 = true := by
          rw [KT_iff]
          by_cases r0 : r = 0
          · refine ⟨Or.inr ⟨k1, Or.inl r0⟩, Or.inr ⟨k2, k5, Or.inl r0⟩, Or.inr ⟨k3, k6, Or.inl r0⟩, Or.inr ⟨k4, k7, Or.inl r0⟩⟩
          · have k8 := k8 r0
            have hb := hb r0
            rw [hb 0 (by decide), hb 1 (by decide), hb 2 (by decide), hb 3 (by decide), er] at k8
            refine ⟨Or.inr ⟨k1, Or.inr (by omega)⟩, Or.inr ⟨k2, k5, Or.inr (by omega)⟩, Or.inr ⟨k3, k6, Or.inr (by omega)⟩, Or.inr ⟨k4, k7, Or.inr (by omega)⟩⟩
        rw [if_pos ⟨kt, hs⟩, u4_af]
        obtain ⟨c0, c1, c2, c3, c4⟩ := cm_af a1 a2 a3 a4
        refine ih (r + 1) d _ _ _ (by omega) hX (u_row hK) ?_ ?_
        · intro _ w hw
          rw [Nat.add_sub_cancel]
          rcases (show w = 0 ∨ w = 1 ∨ w = 2 ∨ w = 3 ∨ w = 4 by omega) with rfl | rfl | rfl | rfl | rfl
          · rw [E4_0, c0]; omega
          · rw [E4_1, c1]; omega
          · rw [E4_2, c2]; omega
          · rw [E4_3, c3]; omega
          · rw [E4_4, c4]; omega
        · intro r' hr'
          by_cases e : r' = r
          · rw [e, E4_4, ← hs]; omega
          · rw [E4_n _ _ _ _ _ _ e]; exact h1 r' (by omega)
      · rw [if_neg (fun h => hs h.2)]
        refine SH_off hii hc hx (r1 := r) q (r + 1) d _ _ (by omega) hX (u_row hK) hm2 (by omega) ?_
        rw [E4_4]
        omega
    · rw [if_neg hK, if_neg]
      rintro ⟨kt, hs⟩
      apply hK
      rw [KX_iff]
      obtain ⟨g1, g2, g3, g4⟩ := KT_iff.mp kt
      obtain ⟨i1, i2, i3, i4, i5, i6, i7⟩ := hI
      have v1 := i1 1 (by decide) (by decide)
      have v2 := i1 2 (by decide) (by decide)
      have v3 := i1 3 (by decide) (by decide)
      have v4 := i1 4 (by decide) (by decide)
      have w2 := (i5 2 (by decide) (by decide)).1
      have w3 := (i5 3 (by decide) (by decide)).1
      have w4 := (i5 4 (by decide) (by decide)).1
      simp only [Nat.sub_self, show 2 - 1 = 1 from rfl, show 3 - 1 = 2 from rfl, show 4 - 1 = 3 from rfl] at v1 v2 v3 v4 w2 w3 w4
      have t1 : u 1 + a1 ≤ c 0 := by omega
      have t2 : u 2 + a2 ≤ c 1 := by omega
      have t3 : u 3 + a3 ≤ c 2 := by omega
      have t4 : u 4 + a4 ≤ c 3 := by omega
      refine ⟨?_, t1, t2, t3, t4, by omega, by omega, by omega, ?_⟩
      · intro r3
        subst r3
        rw [if_pos (by decide), Nat.sub_self, er, Nat.sub_self] at i6
        have s3 : sE i E 3 = (E 0 4 - i 0) + (E 1 4 - i 1) + (E 2 4 - i 2) := by simp [sE]
        rw [s3, h1 0 (by decide), h1 1 (by decide), h1 2 (by decide), xf_0, xf_1, xf_2] at i6
        rw [xf_3] at hs
        omega
      · intro r0
        have hb := hb r0
        have hi := hii (r - 1) (by omega)
        rw [show r - 1 + 1 = r by omega] at hi
        rw [hb 0 (by decide), hb 1 (by decide), hb 2 (by decide), hb 3 (by decide), er]
        have z1 : i r + a1 ≤ i (r - 1) + cm b 0 := by omega
        have z2 : i r + (a1 + a2) ≤ i (r - 1) + cm b 1 := by omega
        have z3 : i r + (a1 + a2 + a3) ≤ i (r - 1) + cm b 2 := by omega
        have z4 : i r + (a1 + a2 + a3 + a4) ≤ i (r - 1) + cm b 3 := by omega
        omega
/-- the count of a key -/
def gK (i c : Nat → Nat) (k : Nat) : Nat := SH i c k 26 0 1 (fun _ => 0) (fun r _ => i r)
theorem XI_0 (i c : Nat → Nat) : XI i c 0 1 (fun _ => 0) (fun r _ => i r) := by
  refine ⟨fun w _ _ => Nat.zero_le _, fun r' _ => rfl, fun _ h => absurd rfl h, fun _ w h => absurd h (by omega), fun w w2 w4 => ⟨Nat.le_refl _, fun _ e => absurd e (by omega)⟩, ?_, fun _ => Nat.le_refl _⟩
  rw [if_pos (by decide), sE, Nat.sub_self]
  rfl
theorem gK_good {i c : Nat → Nat} (hii : ∀ r, r + 1 < 4 → i (r + 1) ≤ i r) (hc : c 0 + c 1 + c 2 + c 3 ≤ 9) {x0 x1 x2 x3 : Nat} (hx : x0 + x1 + x2 + x3 = c 0 + c 1 + c 2 + c 3) (h1 : i 1 + x1 ≤ i 0 + x0) (h2 : i 2 + x2 ≤ i 1 + x1) (h3 : i 3 + x3 ≤ i 2 + x2) : gK i c (100 * x0 + 10 * x1 + x2) = mulI i c x0 x1 x2 x3 := by
  have e : x3 = c 0 + c 1 + c 2 + c 3 - (x0 + x1 + x2) := by omega
  rw [mulI_TM h1 h2 h3, e]
  exact SH_good hii hc (by omega) 4 0 5 _ _ _ rfl (XI_0 i c) (fun h => absurd h (by decide)) (fun h => absurd rfl h) (fun r' h => absurd h (Nat.not_lt_zero r'))
theorem gK_bad {i c : Nat → Nat} (hii : ∀ r, r + 1 < 4 → i (r + 1) ≤ i r) (hc : c 0 + c 1 + c 2 + c 3 ≤ 9) {k : Nat} (hk : gK i c k ≠ 0) : ∃ x0 x1 x2 x3, k = 100 * x0 + 10 * x1 + x2 ∧ x0 + x1 + x2 + x3 = c 0 + c 1 + c 2 + c 3 ∧ i 1 + x1 ≤ i 0 + x0 ∧ i 2 + x2 ≤ i 1 + x1 ∧ i 3 + x3 ≤ i 2 + x2 := by
  apply Classical.byContradiction
  intro n
  apply hk
  refine SH_bad hii hc ?_ 4 0 5 _ _ rfl (XI_0 i c) (fun h => absurd h (by decide)) (fun r' h => absurd h (Nat.not_lt_zero r')) (fun r' h => absurd h (by omega))
  intro E e m s p
  rw [sE_4] at s
  unfold kyE at e
  have m0 := m 0 (by decide)
  have m1 := m 1 (by decide)
  have m2 := m 2 (by decide)
  have m3 := m 3 (by decide)
  have p0 := p 0 (by decide)
  have p1 := p 1 (by decide)
  have p2 := p 2 (by decide)
  simp only [Nat.zero_add, show 1 + 1 = 2 from rfl, show 2 + 1 = 3 from rfl] at p0 p1 p2
  exact n ⟨E 0 4 - i 0, E 1 4 - i 1, E 2 4 - i 2, E 3 4 - i 3, by omega, by omega, by omega, by omega, by omega⟩
theorem dfs_4 (ok : List Nat → Bool) : ∀ (m : Nat) (p : List Nat), (dfs ok m p).length ≤ 4 ^ m := by
  intro m
  induction m with
  | zero => intro p; rw [dfs]; exact Nat.le_refl _
  | succ m ih =>
    intro p
    have b : ∀ v, (if ok (p ++ [v]) = true then dfs ok m (p ++ [v]) else []).length ≤ 4 ^ m := by
      intro v
      by_cases q : ok (p ++ [v]) = true
      · rw [if_pos q]; exact ih _
      · rw [if_neg q]; exact Nat.zero_le _
    have b1 := b 1
    have b2 := b 2
    have b3 := b 3
    have b4 := b 4
    rw [dfs, Nat.pow_succ]
    simp only [List.flatMap_cons, List.flatMap_nil, List.length_append, List.length_nil]
    omega
theorem mulI_le {i c : Nat → Nat} {x0 x1 x2 x3 : Nat} (h : x0 + x1 + x2 + x3 ≤ 9) : mulI i c x0 x1 x2 x3 ≤ 262144 := by
  unfold mulI
  refine Nat.le_trans (dfs_4 _ _ _) ?_
  exact Nat.le_trans (Nat.pow_le_pow_right (by decide) h) (by decide)
theorem gK_le {i c : Nat → Nat} (hii : ∀ r, r + 1 < 4 → i (r + 1) ≤ i r) (hc : c 0 + c 1 + c 2 + c 3 ≤ 9) (k : Nat) : gK i c k ≤ 262144 := by
  by_cases q : gK i c k = 0
  · rw [q]; exact Nat.zero_le _
  · obtain ⟨x0, x1, x2, x3, e, s, h1, h2, h3⟩ := gK_bad hii hc q
    rw [e, gK_good hii hc s h1 h2 h3]
    exact mulI_le (by omega)
