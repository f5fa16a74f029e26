/-! the class' amounts and the words of the shapes agree -/
theorem c_9 {c : Nat → Nat} (hc : c 0 + c 1 + c 2 + c 3 ≤ 9) {v : Nat} (v1 : 1 ≤ v) (v4 : v ≤ 4) : c (v - 1) ≤ 9 := by
  rcases (show v = 1 ∨ v = 2 ∨ v = 3 ∨ v = 4 by omega) with rfl | rfl | rfl | rfl
  · simp only [Nat.sub_self]; omega
  · simp only [show 2 - 1 = 1 from rfl]; omega
  · simp only [show 3 - 1 = 2 from rfl]; omega
  · simp only [show 4 - 1 = 3 from rfl]; omega
theorem moS_le (c : Nat → Nat) (r v : Nat) (u : Nat → Nat) (E : Nat → Nat → Nat) : moS c r v u E ≤ c (v - 1) - u v := by
  have mA : moA c r v u E ≤ c (v - 1) - u v := by
    unfold moA
    by_cases h0 : r = 0
    · rw [if_pos h0]; exact Nat.le_refl _
    · rw [if_neg h0]
      split <;> omega
  unfold moS
  by_cases h0 : v ≤ 1
  · rw [if_pos h0]; exact mA
  · rw [if_neg h0]
    split <;> omega
theorem le_moS {i c : Nat → Nat} {r v : Nat} (hr : r < 4) (v1 : 1 ≤ v) (v4 : v ≤ 4) {u : Nat → Nat} {E : Nat → Nat → Nat} (hI : XI i c r v u E) {a : Nat} : a ≤ moS c r v u E ↔ (u v + a ≤ c (v - 1) ∧ (r ≠ 0 → E r (v - 1) + a ≤ E (r - 1) (v - 1)) ∧ (v ≠ 1 → u v + (E r (v - 1) - E r (v - 2)) + a ≤ u (v - 1))) := by
  obtain ⟨i1, i2, i3, i4, i5, i6, i7⟩ := hI
  have uv := i1 v v1 v4
  have eA : a ≤ moA c r v u E ↔ (u v + a ≤ c (v - 1) ∧ (r ≠ 0 → E r (v - 1) + a ≤ E (r - 1) (v - 1))) := by
    unfold moA
    by_cases h0 : r = 0
    · rw [if_pos h0]; omega
    · have := (i3 hr h0).1
      rw [if_neg h0]
      split <;> omega
  unfold moS
  by_cases h0 : v ≤ 1
  · rw [if_pos h0, eA]; omega
  · have := (i5 v (by omega) v4).2 hr rfl
    rw [if_neg h0]
    split <;> omega
theorem sm_range (G : Nat → Nat) {lo hi : Nat} (h : hi ≤ 9) : sm (fun j => G (lo + j)) (hi + 1 - lo) = sm (fun a => if lo ≤ a ∧ a ≤ hi then G a else 0) 10 := by
  have key : ∀ n N, (n = 0 ∨ lo + n ≤ N) → (∀ a, a < N → (lo ≤ a ∧ a ≤ hi) → a < lo + n) → (∀ a, lo ≤ a → a < lo + n → a ≤ hi) → sm (fun j => G (lo + j)) n = sm (fun a => if lo ≤ a ∧ a ≤ hi then G a else 0) N := by
    intro n N
    induction N generalizing n with
    | zero => intro h1 h2 h3; rw [show n = 0 by omega]; rfl
    | succ N ih =>
      intro h1 h2 h3
      rw [sm]
      by_cases e : lo + n = N + 1 ∧ n ≠ 0
      · obtain ⟨m, rfl⟩ : ∃ m, n = m + 1 := ⟨n - 1, by omega⟩
        rw [sm, ih m (by omega) (fun a ha hb => by omega) (fun a ha hb => h3 a ha (by omega)), if_pos ⟨by omega, h3 N (by omega) (by omega)⟩, show lo + m = N by omega]
      · rw [ih n (by omega) (fun a ha hb => h2 a (by omega) hb) h3]
        by_cases q : lo ≤ N ∧ N ≤ hi
        · have := h2 N (by omega) q
          omega
        · rw [if_neg q, Nat.add_zero]
  by_cases q : lo ≤ hi
  · exact key _ 10 (by omega) (fun a _ h => by omega) (fun a h1 h2 => by omega)
  · rw [show hi + 1 - lo = 0 by omega, sm_0 10 (fun j _ => if_neg (by omega))]; rfl
theorem if_sm {C : Prop} [Decidable C] (f : Nat → Nat) (n : Nat) : (if C then sm f n else 0) = sm (fun b => if C then f b else 0) n := by
  by_cases q : C
  · rw [if_pos q]; exact sm_congr n (fun j _ => by rw [if_pos q])
  · rw [if_neg q, sm_0 n (fun j _ => if_neg q)]
theorem SH_l {i c : Nat → Nat} (hc : c 0 + c 1 + c 2 + c 3 ≤ 9) (k d : Nat) {r v : Nat} (hr : r < 4) (v1 : 1 ≤ v) (v4 : v ≤ 4) (u : Nat → Nat) (E : Nat → Nat → Nat) : SH i c k (d + 1) r v u E = sm (fun a => if loS c r v u ≤ a ∧ a ≤ moS c r v u E then SH i c k d r (v + 1) (updN u v (u v + a)) (updE E r v (E r (v - 1) + a)) else 0) 10 := by
  rw [SH, if_pos hr, if_pos v4]
  have := moS_le c r v u E
  have := c_9 hc v1 v4
  exact sm_range (fun a => SH i c k d r (v + 1) (updN u v (u v + a)) (updE E r v (E r (v - 1) + a))) (by omega)
def u4f (u : Nat → Nat) (a1 a2 a3 a4 : Nat) : Nat → Nat := updN (updN (updN (updN u 1 (u 1 + a1)) 2 (u 2 + a2)) 3 (u 3 + a3)) 4 (u 4 + a4)
def E4f (E : Nat → Nat → Nat) (r a1 a2 a3 a4 : Nat) : Nat → Nat → Nat := updE (updE (updE (updE E r 1 (E r 0 + a1)) r 2 (E r 0 + a1 + a2)) r 3 (E r 0 + a1 + a2 + a3)) r 4 (E r 0 + a1 + a2 + a3 + a4)
def KX (c : Nat → Nat) (r : Nat) (u : Nat → Nat) (E : Nat → Nat → Nat) (a1 a2 a3 a4 : Nat) : Bool := decide ((r = 3 → c 0 - u 1 ≤ a1 ∧ c 1 - u 2 ≤ a2 ∧ c 2 - u 3 ≤ a3 ∧ c 3 - u 4 ≤ a4) ∧ u 1 + a1 ≤ c 0 ∧ u 2 + a2 ≤ c 1 ∧ u 3 + a3 ≤ c 2 ∧ u 4 + a4 ≤ c 3 ∧ u 2 + a2 ≤ u 1 ∧ u 3 + a3 ≤ u 2 ∧ u 4 + a4 ≤ u 3 ∧ (r ≠ 0 → E r 0 + a1 ≤ E (r - 1) 0 ∧ E r 0 + a1 + a2 ≤ E (r - 1) 1 ∧ E r 0 + a1 + a2 + a3 ≤ E (r - 1) 2 ∧ E r 0 + a1 + a2 + a3 + a4 ≤ E (r - 1) 3))
theorem SH_row {i c : Nat → Nat} (hc : c 0 + c 1 + c 2 + c 3 ≤ 9) (k d : Nat) {r : Nat} (hr : r < 4) {u : Nat → Nat} {E : Nat → Nat → Nat} (hI : XI i c r 1 u E) : SH i c k (d + 5) r 1 u E = sm (fun a1 => sm (fun a2 => sm (fun a3 => sm (fun a4 => if KX c r u E a1 a2 a3 a4 = true then SH i c k d (r + 1) 1 (u4f u a1 a2 a3 a4) (E4f E r a1 a2 a3 a4) else 0) 10) 10) 10) 10 := by
  have lo_iff : ∀ (v : Nat) (u : Nat → Nat) (a : Nat), loS c r v u ≤ a ↔ (r = 3 → c (v - 1) - u v ≤ a) := by
    intro v u a
    unfold loS
    by_cases e : r = 3
    · rw [if_pos e]; omega
    · rw [if_neg e]; omega
  rw [SH_l hc k (d + 4) hr (by decide) (by decide)]
  apply sm_congr
  intro a1 _
  have l1 := le_moS hr (show 1 ≤ 1 by decide) (by decide) hI (a := a1)
  have o1 := lo_iff 1 u a1
  simp only [Nat.sub_self] at l1 o1
  by_cases h1 : loS c r 1 u ≤ a1 ∧ a1 ≤ moS c r 1 u E
  · rw [if_pos h1, SH_l hc k (d + 3) hr (by decide) (by decide)]
    have I2 := XI_s hr (by decide) (by decide) hI h1.2
    apply sm_congr
    intro a2 _
    have l2 := le_moS hr (show 1 ≤ 1 + 1 by decide) (by decide) I2 (a := a2)
    have o2 := lo_iff (1 + 1) (updN u 1 (u 1 + a1)) a2
    simp only [show 1 + 1 - 1 = 1 from rfl, show 1 + 1 - 2 = 0 from rfl, Nat.sub_self, show 1 + 1 = 2 from rfl] at l2 o2 I2 ⊢
    have e2 : updN u 1 (u 1 + a1) 2 = u 2 := updN_ne (by decide)
    have e2b : updN u 1 (u 1 + a1) 1 = u 1 + a1 := updN_eq
    have f2 : updE E r 1 (E r 0 + a1) r 1 = E r 0 + a1 := updE_eq
    have f2b : updE E r 1 (E r 0 + a1) r 0 = E r 0 := updE_ne (by omega)
    have f2c : r ≠ 0 → updE E r 1 (E r 0 + a1) (r - 1) 1 = E (r - 1) 1 := fun h => updE_ne (by omega)
    rw [e2, e2b, f2, f2b] at l2
    rw [e2] at o2
    rw [e2, f2]
    by_cases h2 : loS c r 2 (updN u 1 (u 1 + a1)) ≤ a2 ∧ a2 ≤ moS c r 2 (updN u 1 (u 1 + a1)) (updE E r 1 (E r 0 + a1))
    · rw [if_pos h2, SH_l hc k (d + 2) hr (by decide) (by decide)]
      have I3 := XI_s hr (by decide) (by decide) I2 h2.2
      apply sm_congr
      intro a3 _
      have l3 := le_moS hr (show 1 ≤ 2 + 1 by decide) (by decide) I3 (a := a3)
      have o3 := lo_iff (2 + 1) (updN (updN u 1 (u 1 + a1)) 2 (u 2 + a2)) a3
      simp only [show 2 + 1 - 1 = 2 from rfl, show 2 + 1 - 2 = 1 from rfl, show 2 - 1 = 1 from rfl, show 2 + 1 = 3 from rfl, e2, f2] at l3 o3 I3 ⊢
      have e3 : updN (updN u 1 (u 1 + a1)) 2 (u 2 + a2) 3 = u 3 := by rw [updN_ne (by decide), updN_ne (by decide)]
      have e3b : updN (updN u 1 (u 1 + a1)) 2 (u 2 + a2) 2 = u 2 + a2 := updN_eq
      have f3 : updE (updE E r 1 (E r 0 + a1)) r 2 (E r 0 + a1 + a2) r 2 = E r 0 + a1 + a2 := updE_eq
      have f3b : updE (updE E r 1 (E r 0 + a1)) r 2 (E r 0 + a1 + a2) r 1 = E r 0 + a1 := by rw [updE_ne (by omega), updE_eq]
      have f3c : r ≠ 0 → updE (updE E r 1 (E r 0 + a1)) r 2 (E r 0 + a1 + a2) (r - 1) 2 = E (r - 1) 2 := fun h => by rw [updE_ne (by omega), updE_ne (by omega)]
      rw [e3, e3b, f3, f3b] at l3
      rw [e3] at o3
      rw [e3, f3]
      by_cases h3 : loS c r 3 (updN (updN u 1 (u 1 + a1)) 2 (u 2 + a2)) ≤ a3 ∧ a3 ≤ moS c r 3 (updN (updN u 1 (u 1 + a1)) 2 (u 2 + a2)) (updE (updE E r 1 (E r 0 + a1)) r 2 (E r 0 + a1 + a2))
      · rw [if_pos h3, SH_l hc k (d + 1) hr (by decide) (by decide)]
        have I4 := XI_s hr (by decide) (by decide) I3 h3.2
        apply sm_congr
        intro a4 _
        have l4 := le_moS hr (show 1 ≤ 3 + 1 by decide) (by decide) I4 (a := a4)
        have o4 := lo_iff (3 + 1) (updN (updN (updN u 1 (u 1 + a1)) 2 (u 2 + a2)) 3 (u 3 + a3)) a4
        simp only [show 3 + 1 - 1 = 3 from rfl, show 3 + 1 - 2 = 2 from rfl, show 3 - 1 = 2 from rfl, show 3 + 1 = 4 from rfl, e3, f3] at l4 o4 I4 ⊢
        have e4 : updN (updN (updN u 1 (u 1 + a1)) 2 (u 2 + a2)) 3 (u 3 + a3) 4 = u 4 := by rw [updN_ne (by decide), updN_ne (by decide), updN_ne (by decide)]
        have e4b : updN (updN (updN u 1 (u 1 + a1)) 2 (u 2 + a2)) 3 (u 3 + a3) 3 = u 3 + a3 := updN_eq
        have f4 : updE (updE (updE E r 1 (E r 0 + a1)) r 2 (E r 0 + a1 + a2)) r 3 (E r 0 + a1 + a2 + a3) r 3 = E r 0 + a1 + a2 + a3 := updE_eq
        have f4b : updE (updE (updE E r 1 (E r 0 + a1)) r 2 (E r 0 + a1 + a2)) r 3 (E r 0 + a1 + a2 + a3) r 2 = E r 0 + a1 + a2 := by rw [updE_ne (by omega), updE_eq]
        have f4c : r ≠ 0 → updE (updE (updE E r 1 (E r 0 + a1)) r 2 (E r 0 + a1 + a2)) r 3 (E r 0 + a1 + a2 + a3) (r - 1) 3 = E (r - 1) 3 := fun h => by rw [updE_ne (by omega), updE_ne (by omega), updE_ne (by omega)]
        rw [e4, e4b, f4, f4b] at l4
        rw [e4] at o4
        rw [e4, f4]
        have key : (loS c r 4 (updN (updN (updN u 1 (u 1 + a1)) 2 (u 2 + a2)) 3 (u 3 + a3)) ≤ a4 ∧ a4 ≤ moS c r 4 (updN (updN (updN u 1 (u 1 + a1)) 2 (u 2 + a2)) 3 (u 3 + a3)) (updE (updE (updE E r 1 (E r 0 + a1)) r 2 (E r 0 + a1 + a2)) r 3 (E r 0 + a1 + a2 + a3))) ↔ KX c r u E a1 a2 a3 a4 = true := by
          have k1 := h1
          have k2 := h2
          have k3 := h3
          rw [l1, o1] at k1
          rw [l2, o2] at k2
          rw [l3, o3] at k3
          rw [l4, o4]
          unfold KX
          rw [decide_eq_true_iff]
          by_cases h0 : r = 0
          · simp only [h0] at k1 k2 k3 ⊢
            omega
          · rw [f2c h0] at k2
            rw [f3c h0] at k3
            rw [f4c h0]
            omega
        by_cases h4 : loS c r 4 (updN (updN (updN u 1 (u 1 + a1)) 2 (u 2 + a2)) 3 (u 3 + a3)) ≤ a4 ∧ a4 ≤ moS c r 4 (updN (updN (updN u 1 (u 1 + a1)) 2 (u 2 + a2)) 3 (u 3 + a3)) (updE (updE (updE E r 1 (E r 0 + a1)) r 2 (E r 0 + a1 + a2)) r 3 (E r 0 + a1 + a2 + a3))
        · rw [if_pos h4, if_pos (key.mp h4), SH, if_pos hr, if_neg (by decide)]
          rfl
        · rw [if_neg h4, if_neg (fun h => h4 (key.mpr h))]
      · rw [if_neg h3]
        symm
        apply sm_0
        intro a4 _
        rw [if_neg]
        intro h
        apply h3
        have k1 := h1
        have k2 := h2
        rw [l1, o1] at k1
        rw [l2, o2] at k2
        rw [l3, o3]
        unfold KX at h
        rw [decide_eq_true_iff] at h
        by_cases h0 : r = 0
        · simp only [h0] at k1 k2 h ⊢
          omega
        · rw [f3c h0]
          rw [f2c h0] at k2
          omega
    · rw [if_neg h2]
      symm
      apply sm_0
      intro a3 _
      apply sm_0
      intro a4 _
      rw [if_neg]
      intro h
      apply h2
      have k1 := h1
      rw [l1, o1] at k1
      rw [l2, o2]
      unfold KX at h
      rw [decide_eq_true_iff] at h
      by_cases h0 : r = 0
      · simp only [h0] at k1 h ⊢
        omega
      · rw [f2c h0]
        omega
  · rw [if_neg h1]
    symm
    apply sm_0
    intro a2 _
    apply sm_0
    intro a3 _
    apply sm_0
    intro a4 _
    rw [if_neg]
    intro h
    apply h1
    rw [l1, o1]
    unfold KX at h
    rw [decide_eq_true_iff] at h
    by_cases h0 : r = 0
    · simp only [h0] at h ⊢
      omega
    · omega
