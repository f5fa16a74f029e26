/-! the class shares the numbers among the rows -/
def updE (E : Nat → Nat → Nat) (r v x : Nat) : Nat → Nat → Nat := fun r' v' => if r' = r ∧ v' = v then x else E r' v'
theorem updE_eq {E : Nat → Nat → Nat} {r v x : Nat} : updE E r v x r v = x := if_pos ⟨rfl, rfl⟩
theorem updE_ne {E : Nat → Nat → Nat} {r v x r' v' : Nat} (h : ¬ (r' = r ∧ v' = v)) : updE E r v x r' v' = E r' v' := if_neg h
def moA (c : Nat → Nat) (r v : Nat) (u : Nat → Nat) (E : Nat → Nat → Nat) : Nat := if r = 0 then c (v - 1) - u v else if E (r - 1) (v - 1) - E r (v - 1) < c (v - 1) - u v then E (r - 1) (v - 1) - E r (v - 1) else c (v - 1) - u v
def moS (c : Nat → Nat) (r v : Nat) (u : Nat → Nat) (E : Nat → Nat → Nat) : Nat := if v ≤ 1 then moA c r v u E else if u (v - 1) - (E r (v - 1) - E r (v - 2)) - u v < moA c r v u E then u (v - 1) - (E r (v - 1) - E r (v - 2)) - u v else moA c r v u E
def loS (c : Nat → Nat) (r v : Nat) (u : Nat → Nat) : Nat := if r = 3 then c (v - 1) - u v else 0
def kyE (i : Nat → Nat) (E : Nat → Nat → Nat) : Nat := 100 * (E 0 4 - i 0) + 10 * (E 1 4 - i 1) + (E 2 4 - i 2)
def SH (i c : Nat → Nat) (k : Nat) : Nat → Nat → Nat → (Nat → Nat) → (Nat → Nat → Nat) → Nat
  | 0, _, _, _, _ => 0
  | d + 1, r, v, u, E => if r < 4 then (if v ≤ 4 then sm (fun j => SH i c k d r (v + 1) (updN u v (u v + (loS c r v u + j))) (updE E r v (E r (v - 1) + (loS c r v u + j)))) (moS c r v u E + 1 - loS c r v u) else SH i c k d (r + 1) 1 u E) else (if kyE i E = k then 1 else 0)
def sE (i : Nat → Nat) (E : Nat → Nat → Nat) : Nat → Nat
  | 0 => 0
  | r + 1 => sE i E r + (E r 4 - i r)
theorem sE_congr {i : Nat → Nat} {E E' : Nat → Nat → Nat} : ∀ r, (∀ r', r' < r → E r' 4 = E' r' 4) → sE i E r = sE i E' r := fun r => by
  induction r with
  | zero => intro _; rfl
  | succ r ih => intro h; rw [sE, sE, ih (fun r' hr' => h r' (by omega)), h r (by omega)]
def XI (i c : Nat → Nat) (r v : Nat) (u : Nat → Nat) (E : Nat → Nat → Nat) : Prop := (∀ w, 1 ≤ w → w ≤ 4 → u w ≤ c (w - 1)) ∧ (∀ r', r' < 4 → E r' 0 = i r') ∧ (r < 4 → r ≠ 0 → E r (v - 1) ≤ E (r - 1) (v - 1) ∧ ∀ w, w < 4 → E (r - 1) w ≤ E (r - 1) (w + 1)) ∧ (r < 4 → ∀ w, w + 1 < v → E r w ≤ E r (w + 1)) ∧ (∀ w, 2 ≤ w → w ≤ 4 → u w ≤ u (w - 1) ∧ (r < 4 → w = v → u v + (E r (v - 1) - E r (v - 2)) ≤ u (v - 1))) ∧ sE i E r + (if r < 4 then E r (v - 1) - i r else 0) = u 1 + u 2 + u 3 + u 4 ∧ (r < 4 → i r ≤ E r (v - 1))
def XA (c : Nat → Nat) (r v : Nat) (u : Nat → Nat) (E : Nat → Nat → Nat) (used left : Nat → Int32) (ends : Nat → Nat → Int32) : Prop := (∀ w, 1 ≤ w → w ≤ 4 → used w = nI (u w) ∧ left w = nI (c (w - 1) - u w)) ∧ ∀ r' w, r' < 4 → w < 5 → (r' < r ∨ (r' = r ∧ w < v) ∨ w = 0) → ends r' w = nI (E r' w)
theorem mono_le {f : Nat → Nat} {n : Nat} (h : ∀ w, w < n → f w ≤ f (w + 1)) : ∀ d w, w + d ≤ n → f w ≤ f (w + d) := by
  intro d
  induction d with
  | zero => intro w _; exact Nat.le_refl _
  | succ d ih => intro w hw; have := ih w (by omega); have := h (w + d) (by omega); rw [← Nat.add_assoc]; omega
theorem XI_b {i c : Nat → Nat} (hc : c 0 + c 1 + c 2 + c 3 ≤ 9) {r v : Nat} {u : Nat → Nat} {E : Nat → Nat → Nat} (h : XI i c r v u E) : u 1 + u 2 + u 3 + u 4 ≤ 9 := by
  have a1 := h.1 1 (by omega) (by omega)
  have a2 := h.1 2 (by omega) (by omega)
  have a3 := h.1 3 (by omega) (by omega)
  have a4 := h.1 4 (by omega) (by omega)
  simp only [Nat.sub_self, show 2 - 1 = 1 from rfl, show 3 - 1 = 2 from rfl, show 4 - 1 = 3 from rfl] at a1 a2 a3 a4
  omega
theorem f_mostOf {i c : Nat → Nat} (hi5 : ∀ r, i r ≤ 5) (hc : c 0 + c 1 + c 2 + c 3 ≤ 9) {r v : Nat} (hr : r < 4) (v1 : 1 ≤ v) (v4 : v ≤ 4) {u : Nat → Nat} {E : Nat → Nat → Nat} (hI : XI i c r v u E) {used left : Nat → Int32} {ends : Nat → Nat → Int32} (hA : XA c r v u E used left ends) : fX5_mostOf (nI r) (nI v) used left ends = some (nI (moS c r v u E)) ∧ moS c r v u E ≤ c (v - 1) - u v ∧ c (v - 1) - u v ≤ 9 := by
  have b9 := XI_b hc hI
  obtain ⟨i1, i2, i3, i4, i5, i6, i7⟩ := hI
  obtain ⟨a1, a2⟩ := hA
  have uv := i1 v v1 v4
  have cv : c (v - 1) ≤ 9 := by
    rcases (show v = 1 ∨ v = 2 ∨ v = 3 ∨ v = 4 by omega) with rfl | rfl | rfl | rfl
    · simp only [Nat.sub_self]; omega
    · simp only [show 2 - 1 = 1 from rfl]; omega
    · simp only [show 3 - 1 = 2 from rfl]; omega
    · simp only [show 4 - 1 = 3 from rfl]; omega
  have hsum : r ≠ 0 → E (r - 1) 4 - i (r - 1) ≤ 9 := by
    intro h0
    have : sE i E (r - 1 + 1) = sE i E (r - 1) + (E (r - 1) 4 - i (r - 1)) := rfl
    rw [show r - 1 + 1 = r by omega] at this
    omega
  have mA : moA c r v u E ≤ c (v - 1) - u v := by
    unfold moA
    by_cases h0 : r = 0
    · rw [if_pos h0]; exact Nat.le_refl _
    · rw [if_neg h0]
      split <;> omega
  have mS : moS c r v u E ≤ moA c r v u E := by
    unfold moS
    by_cases h0 : v ≤ 1
    · rw [if_pos h0]; exact Nat.le_refl _
    · rw [if_neg h0]
      split <;> omega
  refine ⟨?_, by omega, by omega⟩
  have J39 : fX5_mostOf_J39 used ends (nI r) (nI v) (nI (moA c r v u E)) = some (nI (moS c r v u E)) := by
    unfold fX5_mostOf_J39 fX5_mostOf_J90 moS
    by_cases h0 : v ≤ 1
    · rw [if_pos (show nI v ≤ 1 from nI_le (b := 1) h0 (by decide)), if_pos h0]
    · have hv := (i5 v (by omega) v4).2 hr rfl
      have u1 := i1 (v - 1) (by omega) (by omega)
      rw [if_neg (show ¬ nI v ≤ 1 from nI_ge (a := 1) (by omega) (by omega)), if_neg h0, gd_in hr (by decide), show nI v - 1 = nI (v - 1) by rw [lit_1, nI_sub v1], show nI v - 2 = nI (v - 2) by rw [lit_2, nI_sub (by omega)], gd_in (show v - 1 < 5 by omega) (by decide), gd_in (show v - 2 < 5 by omega) (by decide), nI_clamp (by omega), nI_clamp (by omega), nI_clamp (by omega), nI_clamp (by omega), (a1 (v - 1) (by omega) (by omega)).1, (a1 v v1 v4).1, a2 r (v - 1) hr (by omega) (by omega), a2 r (v - 2) hr (by omega) (by omega)]
      have mono := i4 hr (v - 2) (by omega)
      rw [show v - 2 + 1 = v - 1 by omega] at mono
      have ub : u (v - 1) ≤ 9 := by
        rcases (show v = 2 ∨ v = 3 ∨ v = 4 by omega) with rfl | rfl | rfl
        · simp only [show 2 - 1 = 1 from rfl]; omega
        · simp only [show 3 - 1 = 2 from rfl]; omega
        · simp only [show 4 - 1 = 3 from rfl]; omega
      rw [nI_sub mono, nI_sub (by omega), nI_sub (by omega)]
      by_cases q : u (v - 1) - (E r (v - 1) - E r (v - 2)) - u v < moA c r v u E
      · rw [if_pos (nI_lt q (by omega)), if_pos q]
      · rw [if_neg (nI_nlt (by omega) (by omega)), if_neg q]
  unfold fX5_mostOf
  rw [gd_in (show v < 5 by omega) (by decide), nI_clamp (show v < 2 ^ 31 by omega), (a1 v v1 v4).2]
  by_cases h0 : r = 0
  · rw [if_pos (show nI r ≤ 0 by rw [h0]; decide)]
    have : moA c r v u E = c (v - 1) - u v := by unfold moA; rw [if_pos h0]
    rw [this] at J39
    exact J39
  · obtain ⟨g1, g2⟩ := i3 hr h0
    have g3 := hsum h0
    have g4 : E (r - 1) (v - 1) ≤ E (r - 1) 4 := by
      have := mono_le (f := E (r - 1)) (n := 4) g2 (4 - (v - 1)) (v - 1) (by omega)
      rwa [show v - 1 + (4 - (v - 1)) = 4 by omega] at this
    have ib := hi5 (r - 1)
    rw [if_neg (nI_nle (by omega) (by omega)), show nI r - 1 = nI (r - 1) by rw [lit_1, nI_sub (by omega)], show nI v - 1 = nI (v - 1) by rw [lit_1, nI_sub v1], gd_in (show r - 1 < 4 by omega) (by decide), gd_in (show v - 1 < 5 by omega) (by decide), gd_in hr (by decide), nI_clamp (by omega), nI_clamp (by omega), nI_clamp (by omega), a2 (r - 1) (v - 1) (by omega) (by omega) (by omega), a2 r (v - 1) hr (by omega) (by omega), nI_sub g1]
    have : (if nI (E (r - 1) (v - 1) - E r (v - 1)) < nI (c (v - 1) - u v) then nI (E (r - 1) (v - 1) - E r (v - 1)) else nI (c (v - 1) - u v)) = nI (moA c r v u E) := by
      unfold moA
      rw [if_neg h0]
      by_cases q : E (r - 1) (v - 1) - E r (v - 1) < c (v - 1) - u v
      · rw [if_pos (nI_lt q (by omega)), if_pos q]
      · rw [if_neg (nI_nlt (by omega) (by omega)), if_neg q]
    rw [this]
    exact J39
theorem updN_sum (u : Nat → Nat) (a : Nat) {v : Nat} (v1 : 1 ≤ v) (v4 : v ≤ 4) : updN u v (u v + a) 1 + updN u v (u v + a) 2 + updN u v (u v + a) 3 + updN u v (u v + a) 4 = u 1 + u 2 + u 3 + u 4 + a := by
  rcases (show v = 1 ∨ v = 2 ∨ v = 3 ∨ v = 4 by omega) with rfl | rfl | rfl | rfl <;> simp [updN] <;> omega
/-- one amount more -/
theorem XI_s {i c : Nat → Nat} {r v : Nat} (hr : r < 4) (v1 : 1 ≤ v) (v4 : v ≤ 4) {u : Nat → Nat} {E : Nat → Nat → Nat} (hI : XI i c r v u E) {a : Nat} (ha : a ≤ moS c r v u E) : XI i c r (v + 1) (updN u v (u v + a)) (updE E r v (E r (v - 1) + a)) := by
  obtain ⟨i1, i2, i3, i4, i5, i6, i7⟩ := hI
  have uv := i1 v v1 v4
  have mA : moA c r v u E ≤ c (v - 1) - u v ∧ (r ≠ 0 → moA c r v u E ≤ E (r - 1) (v - 1) - E r (v - 1)) := by
    unfold moA
    by_cases h0 : r = 0
    · rw [if_pos h0]; exact ⟨Nat.le_refl _, fun h => absurd h0 h⟩
    · rw [if_neg h0]
      split <;> omega
  have mS : moS c r v u E ≤ moA c r v u E ∧ (1 < v → moS c r v u E ≤ u (v - 1) - (E r (v - 1) - E r (v - 2)) - u v) := by
    unfold moS
    by_cases h0 : v ≤ 1
    · rw [if_pos h0]; exact ⟨Nat.le_refl _, fun h => by omega⟩
    · rw [if_neg h0]
      split <;> omega
  have e0 : updE E r v (E r (v - 1) + a) r v = E r (v - 1) + a := updE_eq
  have eb : updE E r v (E r (v - 1) + a) r (v - 1) = E r (v - 1) := updE_ne (by omega)
  have hs : sE i (updE E r v (E r (v - 1) + a)) r = sE i E r := sE_congr r (fun r' h => updE_ne (by omega))
  have i7' := i7 hr
  refine ⟨?_, ?_, ?_, ?_, ?_, ?_, ?_⟩
  · intro w w1 w4
    by_cases e : w = v
    · rw [e, updN_eq]; omega
    · rw [updN_ne e]; exact i1 w w1 w4
  · intro r' h
    rw [updE_ne (by omega)]; exact i2 r' h
  · intro _ h0
    obtain ⟨g1, g2⟩ := i3 hr h0
    have m3 := mA.2 h0
    refine ⟨?_, ?_⟩
    · rw [Nat.add_sub_cancel, e0, updE_ne (by omega)]
      have := g2 (v - 1) (by omega)
      rw [show v - 1 + 1 = v by omega] at this
      omega
    · intro w hw
      rw [updE_ne (by omega), updE_ne (by omega)]; exact g2 w hw
  · intro _ w hw
    by_cases e : w + 1 = v
    · rw [e, e0, updE_ne (by omega), show w = v - 1 by omega]; omega
    · rw [updE_ne (by omega), updE_ne (by omega)]; exact i4 hr w (by omega)
  · intro w w2 w4
    obtain ⟨j1, j2⟩ := i5 w w2 w4
    refine ⟨?_, ?_⟩
    · by_cases e : w = v
      · subst e
        have := mS.2 (by omega)
        rw [updN_eq, updN_ne (by omega)]
        have := j2 hr rfl
        omega
      · rw [updN_ne e]
        by_cases e2 : w - 1 = v
        · rw [e2, updN_eq]; rw [e2] at j1; omega
        · rw [updN_ne e2]; exact j1
    · intro _ e
      have e2 : w - 1 = v := by omega
      rw [Nat.add_sub_cancel, updN_ne (by omega), updN_eq, e0, show v + 1 - 2 = v - 1 by omega, eb]
      rw [e2] at j1
      rw [e] at j1
      omega
  · rw [hs, if_pos hr, Nat.add_sub_cancel, e0]
    rw [if_pos hr] at i6
    have hu := updN_sum u a v1 v4
    omega
  · intro _
    rw [Nat.add_sub_cancel, e0]; omega
theorem XA_s {c : Nat → Nat} {r v : Nat} (hr : r < 4) (v1 : 1 ≤ v) (v4 : v ≤ 4) {u : Nat → Nat} {E : Nat → Nat → Nat} {used left : Nat → Int32} {ends : Nat → Nat → Int32} (hA : XA c r v u E used left ends) {a : Nat} (ha : u v + a ≤ c (v - 1)) : XA c r (v + 1) (updN u v (u v + a)) (updE E r v (E r (v - 1) + a)) (upd used v (used v + nI a)) (upd left v (left v - nI a)) (upd2 ends r v (ends r (v - 1) + nI a)) := by
  obtain ⟨a1, a2⟩ := hA
  refine ⟨?_, ?_⟩
  · intro w w1 w4
    by_cases e : w = v
    · subst e
      rw [pk_us, pk_us, updN_eq, (a1 w w1 w4).1, (a1 w w1 w4).2, nI_add, nI_sub (by omega)]
      exact ⟨rfl, by congr 1; omega⟩
    · rw [pk_un e, pk_un e, updN_ne e]; exact a1 w w1 w4
  · intro r' w h1 h2 h3
    unfold upd2
    by_cases e : r' = r
    · subst e
      rw [if_pos rfl]
      by_cases e2 : w = v
      · subst e2
        rw [pk_us, updE_eq, a2 r' (w - 1) h1 (by omega) (by omega), nI_add]
      · rw [pk_un e2, updE_ne (by omega)]
        exact a2 r' w h1 h2 (by omega)
    · rw [if_neg e, updE_ne (by omega)]
      exact a2 r' w h1 h2 (by omega)
theorem XA_back {c : Nat → Nat} {r v : Nat} (v1 : 1 ≤ v) (v4 : v ≤ 4) {u : Nat → Nat} {E : Nat → Nat → Nat} {used left : Nat → Int32} {ends : Nat → Nat → Int32} {a : Nat} (ha : u v + a ≤ c (v - 1)) (hA : XA c r (v + 1) (updN u v (u v + a)) (updE E r v (E r (v - 1) + a)) used left ends) : XA c r v u E (upd used v (used v - nI a)) (upd left v (left v + nI a)) ends := by
  obtain ⟨a1, a2⟩ := hA
  refine ⟨?_, ?_⟩
  · intro w w1 w4
    have := a1 w w1 w4
    by_cases e : w = v
    · subst e
      rw [updN_eq] at this
      rw [pk_us, pk_us, this.1, this.2, nI_add, nI_sub (by omega), Nat.add_sub_cancel]
      exact ⟨rfl, by congr 1; omega⟩
    · rw [updN_ne e] at this
      rw [pk_un e, pk_un e]; exact this
  · intro r' w h1 h2 h3
    have := a2 r' w h1 h2 (by omega)
    rw [updE_ne (by omega)] at this
    exact this
theorem f_tally {i c : Nat → Nat} (hi5 : ∀ r, i r ≤ 5) (hc : c 0 + c 1 + c 2 + c 3 ≤ 9) {u : Nat → Nat} {E : Nat → Nat → Nat} (hI : XI i c 4 1 u E) {used left inner : Nat → Int32} {ends : Nat → Nat → Int32} (hin : rq_4 inner i) (hA : XA c 4 1 u E used left ends) (hm : ∀ r, r < 4 → i r ≤ E r 4) (fo : Nat → Int32) : ∃ fo', (∀ k, k < 1000 → fo' k = fo k + nI (if kyE i E = k then 1 else 0)) ∧ kyE i E < 1000 ∧ fX5_tally inner ends fo = some fo' := by
  have b9 := XI_b hc hI
  obtain ⟨i1, i2, i3, i4, i5, i6, i7⟩ := hI
  obtain ⟨a1, a2⟩ := hA
  rw [if_neg (by decide)] at i6
  have s4 : sE i E 4 = (E 0 4 - i 0) + (E 1 4 - i 1) + (E 2 4 - i 2) + (E 3 4 - i 3) := by simp [sE]
  have k1000 : kyE i E < 1000 := by unfold kyE; omega
  refine ⟨upd fo (kyE i E) (fo (kyE i E) + 1), ?_, k1000, ?_⟩
  · intro k hk
    by_cases e : kyE i E = k
    · rw [if_pos e, e, pk_us]; rfl
    · rw [if_neg e, pk_un (fun h => e h.symm)]
      exact (Int32.add_zero _).symm
  · have m0 := hm 0 (by decide)
    have m1 := hm 1 (by decide)
    have m2 := hm 2 (by decide)
    have st : ∀ (k r : Nat), r < 4 → i r ≤ E r 4 → ((10 * nI k) + ends (nI r).toNatClampNeg (4 : Int32).toNatClampNeg) - inner (nI r).toNatClampNeg = nI (10 * k + (E r 4 - i r)) := by
      intro k r hr hm
      rw [rq_get hin hr, nI_clamp (by omega), show (4 : Int32).toNatClampNeg = 4 from rfl, a2 r 4 hr (by decide) (by omega), show (10 : Int32) = nI 10 from rfl, nI_mul, nI_add, nI_sub (by omega)]
      congr 1
      omega
    obtain ⟨n, hn⟩ : ∃ n, fu = n + 4 := ⟨fu - 4, by unfold fu; omega⟩
    unfold fX5_tally
    rw [hn, lit_0, fX5_tally_L4, if_neg (show ¬ 3 ≤ nI 0 by decide), gd_in (by decide) (by decide), st 0 0 (by decide) m0, nI_1, fX5_tally_L4, if_neg (show ¬ 3 ≤ nI (0 + 1) by decide), gd_in (by decide) (by decide), st _ 1 (by decide) m1, nI_1, fX5_tally_L4, if_neg (show ¬ 3 ≤ nI (0 + 1 + 1) by decide), gd_in (by decide) (by decide), st _ 2 (by decide) m2, nI_1, fX5_tally_L4, if_pos (show 3 ≤ nI (0 + 1 + 1 + 1) by decide)]
    have ek : 10 * (10 * (10 * 0 + (E 0 4 - i 0)) + (E 1 4 - i 1)) + (E 2 4 - i 2) = kyE i E := by unfold kyE; omega
    rw [ek, if_neg (nI_pos (by omega)), if_neg (show ¬ 1000 ≤ nI (kyE i E) from nI_ge (b := 1000) k1000 (by decide)), gd_in k1000 (by decide), nI_clamp (by omega)]
    rfl
theorem share_X {i c : Nat → Nat} (hi5 : ∀ r, i r ≤ 5) (hii : ∀ r, r + 1 < 4 → i (r + 1) ≤ i r) (hc : c 0 + c 1 + c 2 + c 3 ≤ 9) {inner keys : Nat → Int32} (hin : rq_4 inner i) (sz ms bx : Int32) : ∀ (d r v : Nat) (u : Nat → Nat) (E : Nat → Nat → Nat) (used left : Nat → Int32) (ends : Nat → Nat → Int32) (fo : Nat → Int32), r ≤ 4 → 1 ≤ v → v ≤ 5 → (r = 4 → v = 1) → 5 * (4 - r) + (5 - v) < d + 4 → XI i c r v u E → (∀ r', r' < r → i r' ≤ E r' 4) → XA c r v u E used left ends → ∃ used' left' ends' fo', XA c r v u E used' left' ends' ∧ (∀ k, k < 1000 → fo' k = fo k + nI (SH i c k d r v u E)) ∧ fX5_share d (nI r) (nI v) sz ms bx inner used left ends fo keys = some (used', left', ends', fo') := by
  intro d
  induction d with
  | zero =>
    intro r v u E used left ends fo hr v1 v5 h4 hd
    exfalso
    by_cases e : r = 4
    · have := h4 e; omega
    · omega
  | succ d ih =>
    intro r v u E used left ends fo hr4 v1 v5 h4 hd hI hmE hA
    by_cases e4 : r = 4
    · have ev := h4 e4
      subst e4
      subst ev
      obtain ⟨fo', f1, -, f2⟩ := f_tally hi5 hc hI hin hA hmE fo
      refine ⟨used, left, ends, fo', hA, fun k hk => ?_, ?_⟩
      · rw [SH, if_neg (by decide)]; exact f1 k hk
      · rw [fX5_share, if_neg (show ¬ nI 4 < 4 by decide), f2, bd_s]
    · have hr : r < 4 := by omega
      by_cases ev : v = 5
      · subst ev
        have i7 := hI.2.2.2.2.2.2 hr
        have hI2 : XI i c (r + 1) 1 u E := by
          obtain ⟨i1, i2, i3, i4, i5, i6, i7⟩ := hI
          refine ⟨i1, i2, ?_, ?_, ?_, ?_, ?_⟩
          · intro h1 _
            rw [Nat.add_sub_cancel]
            refine ⟨?_, fun w hw => i4 hr w (by omega)⟩
            rw [Nat.sub_self, i2 (r + 1) h1, i2 r hr]
            exact hii r h1
          · intro _ w hw; omega
          · intro w w2 w4
            exact ⟨(i5 w w2 w4).1, fun _ e => by omega⟩
          · rw [if_pos hr] at i6
            rw [sE]
            by_cases q : r + 1 < 4
            · rw [if_pos q, Nat.sub_self, i2 (r + 1) q, Nat.sub_self]; exact i6
            · rw [if_neg q]; exact i6
          · intro q
            rw [Nat.sub_self, i2 (r + 1) q]; exact Nat.le_refl _
        have hA2 : XA c (r + 1) 1 u E used left ends := ⟨hA.1, fun r' w h1 h2 h3 => hA.2 r' w h1 h2 (by omega)⟩
        obtain ⟨used', left', ends', fo', g1, g2, g3⟩ := ih (r + 1) 1 u E used left ends fo (by omega) (by omega) (by omega) (fun _ => rfl) (by omega) hI2 (fun r' h => by
          by_cases e : r' = r
          · rw [e]; exact i7
          · exact hmE r' (by omega)) hA2
        refine ⟨used', left', ends', fo', ⟨g1.1, fun r' w h1 h2 h3 => g1.2 r' w h1 h2 (by omega)⟩, fun k hk => ?_, ?_⟩
        · rw [SH, if_pos hr, if_neg (by decide)]; exact g2 k hk
        · rw [fX5_share, if_pos (show nI r < 4 from nI_lt (b := 4) hr (by decide)), if_neg (show ¬ nI 5 ≤ 4 by decide), nI_1, show (1 : Int32) = nI 1 from rfl, g3, bd_s]
      · have v4 : v ≤ 4 := by omega
        obtain ⟨m1, m2, m3⟩ := f_mostOf hi5 hc hr v1 v4 hI hA
        have uv := hI.1 v v1 v4
        have L : ∀ (n j t : Nat) (used left : Nat → Int32) (ends : Nat → Nat → Int32) (fo : Nat → Int32), j + n = moS c r v u E + 1 - loS c r v u → n < t → XA c r v u E used left ends → ∃ used' left' ends' fo', XA c r v u E used' left' ends' ∧ (∀ k, k < 1000 → fo' k = fo k + nI (sm (fun j' => SH i c k d r (v + 1) (updN u v (u v + (loS c r v u + (j + j')))) (updE E r v (E r (v - 1) + (loS c r v u + (j + j'))))) n)) ∧ fX5_share_L51 sz ms bx inner keys (nI r) (nI v) (fX5_share d) (nI (moS c r v u E)) t (nI (loS c r v u + j)) used left ends fo = some (used', left', ends', fo') := by
          intro n
          induction n with
          | zero =>
            intro j t used left ends fo hj ht hA
            obtain ⟨t, rfl, -⟩ := fuel ht
            have lo9 : loS c r v u ≤ 9 := by unfold loS; split <;> omega
            refine ⟨used, left, ends, fo, hA, fun k hk => (Int32.add_zero _).symm, ?_⟩
            rw [fX5_share_L51, if_pos (nI_lt (by omega) (by omega))]
          | succ n ihn =>
            intro j t used left ends fo hj ht hA
            obtain ⟨t, rfl, ht2⟩ := fuel ht
            have hle : loS c r v u + j ≤ moS c r v u E := by omega
            have huv : u v + (loS c r v u + j) ≤ c (v - 1) := by omega
            have hI2 := XI_s hr v1 v4 hI hle
            have hA2 := XA_s hr v1 v4 hA huv
            obtain ⟨us2, lf2, en2, fo2, g1, g2, g3⟩ := ih r (v + 1) _ _ _ _ _ fo hr4 (by omega) (by omega) (fun e => absurd e e4) (by omega) hI2 (fun r' h => by rw [updE_ne (by omega)]; exact hmE r' h) hA2
            have hA3 := XA_back v1 v4 huv g1
            obtain ⟨us3, lf3, en3, fo3, k1, k2, k3⟩ := ihn (j + 1) t _ _ _ fo2 (by omega) (by omega) hA3
            refine ⟨us3, lf3, en3, fo3, k1, fun k hk => ?_, ?_⟩
            · rw [k2 k hk, g2 k hk, sm_shift, ← nI_add, Int32.add_assoc, Nat.add_zero]
              congr 3
              apply sm_congr
              intro j' _
              rw [show j + 1 + j' = j + (j' + 1) by omega]
            · rw [fX5_share_L51, if_neg (nI_nlt hle (by omega)), gd_in hr (by decide), show nI v - 1 = nI (v - 1) by rw [lit_1, nI_sub v1], gd_in (show v - 1 < 5 by omega) (by decide), gd_in (show v < 5 by omega) (by decide), nI_clamp (show r < 2 ^ 31 by omega), nI_clamp (show v < 2 ^ 31 by omega), nI_clamp (show v - 1 < 2 ^ 31 by omega), nI_1, g3, bd_s, nI_1]
              exact k3
        have hJ : fX5_share (d + 1) (nI r) (nI v) sz ms bx inner used left ends fo keys = fX5_share_L51 sz ms bx inner keys (nI r) (nI v) (fX5_share d) (nI (moS c r v u E)) fu (nI (loS c r v u + 0)) used left ends fo := by
          rw [fX5_share, if_pos (show nI r < 4 from nI_lt (b := 4) hr (by decide)), if_pos (show nI v ≤ 4 from nI_le (b := 4) v4 (by decide))]
          unfold fX5_share_J39 loS
          by_cases e3 : r = 3
          · rw [if_pos (show nI r = 3 by rw [e3]; rfl), gd_in (show v < 5 by omega) (by decide), m1, bd_s, nI_clamp (by omega), (hA.1 v v1 v4).2, if_pos e3]; rfl
          · rw [if_neg (show ¬ nI r = 3 from fun e => e3 ((nI_eq (b := 3) (by omega) (by decide)).mp e)), m1, bd_s, if_neg e3]; rfl
        obtain ⟨us, lf, en, fo', g1, g2, g3⟩ := L (moS c r v u E + 1 - loS c r v u) 0 fu used left ends fo (by omega) (by unfold fu; omega) hA
        refine ⟨us, lf, en, fo', g1, fun k hk => ?_, hJ.trans g3⟩
        rw [g2 k hk, SH, if_pos hr, if_pos v4]
        congr 2
        apply sm_congr
        intro j' _
        rw [Nat.zero_add]
