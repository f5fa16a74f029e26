/-! numbers: Int32 by the natural numbers that they show; guards and binds -/
theorem bd_s {α β : Type} (v : α) (k : α → Option β) : bd (some v) k = k v := rfl
theorem gd_t {α : Type} (t : Option α) : gd true t = t := rfl
theorem inb_nI {n N : Nat} (h : n < N) (hN : N ≤ 2 ^ 31) : inb (nI n) N = true := by
  have h1 : ¬ nI n < 0 := nI_pos (by omega)
  unfold inb
  rw [nI_clamp (by omega)]
  simp [h1, h]
theorem gd_in {α : Type} {n N : Nat} {t : Option α} (h : n < N) (hN : N ≤ 2 ^ 31) : gd (inb (nI n) N) t = t := by
  rw [inb_nI h hN]
  rfl
theorem pk_of {p : Int32} (lo hi : Nat) (hh : hi < 2 ^ 31) (hl : lo < 2 ^ 31) (h1 : ¬ p < nI lo) (h2 : ¬ nI hi < p) : ∃ c, lo ≤ c ∧ c ≤ hi ∧ p = nI c := by
  rw [Int32.lt_iff_toInt_lt, nI_toInt hl] at h1
  rw [Int32.lt_iff_toInt_lt, nI_toInt hh] at h2
  refine ⟨p.toInt.toNat, by omega, by omega, ?_⟩
  rw [← Int32.toInt_inj, nI_toInt (by omega)]
  omega
theorem gd_b {α : Type} {v : Int32} {t : Option α} (h : v = 0 ∨ v = 1) : gd (isb v) t = t := by
  rcases h with h | h <;> (subst h; rfl)
theorem ite_01 (c : Prop) [Decidable c] (a b : Int32) (ha : a = 0 ∨ a = 1) (hb : b = 0 ∨ b = 1) : (if c then a else b) = 0 ∨ (if c then a else b) = 1 := by
  by_cases h : c
  · rw [if_pos h]; exact ha
  · rw [if_neg h]; exact hb
theorem f_within (a lo hi : Int32) : fX8_within a lo hi = some (if a < lo then 0 else if hi < a then 0 else 1) := by
  unfold fX8_within fX8_within_J14 fX8_within_J15
  by_cases h1 : a < lo
  · rw [if_pos h1, if_pos h1]; rfl
  · rw [if_neg h1, if_neg h1]
    by_cases h2 : hi < a
    · rw [if_pos h2, if_pos h2]; rfl
    · rw [if_neg h2, if_neg h2]; rfl
theorem f_isKindM (a : Int32) : fX8_isKind a = some (if a < 0 then 0 else if 4 < a then 0 else 1) := by
  unfold fX8_isKind
  rw [f_within, bd_s, gd_b]
  exact ite_01 _ _ _ (Or.inl rfl) (ite_01 _ _ _ (Or.inl rfl) (Or.inr rfl))
theorem f_isBoard (r : Int32) : fX8_isBoard r = some (if r ≤ 0 then 0 else 1) := by
  unfold fX8_isBoard fX8_isBoard_J12
  rw [gd_b]
  exact ite_01 _ _ _ (Or.inl rfl) (Or.inr rfl)
theorem f_isRow (p r : Int32) : fX8_isRow p r = some (if p < 0 then 0 else if r - 1 < p then 0 else 1) := by
  unfold fX8_isRow
  rw [f_within, bd_s, gd_b]
  exact ite_01 _ _ _ (Or.inl rfl) (ite_01 _ _ _ (Or.inl rfl) (Or.inr rfl))
theorem f_isKindX (a : Int32) : fX7_isKind a = some (if a < 0 then 0 else if 5 ≤ a then 0 else 1) := by
  unfold fX7_isKind fX7_isKind_J13 fX7_isKind_J14
  by_cases h1 : a < 0
  · rw [if_pos h1, if_pos h1]; rfl
  · rw [if_neg h1, if_neg h1]
    by_cases h2 : 5 ≤ a
    · rw [if_pos h2, if_pos h2]; rfl
    · rw [if_neg h2, if_neg h2]; rfl
theorem f_isNumber (a : Int32) : fX7_isNumber a = some (if a < 1 then 0 else if 4 < a then 0 else 1) := by
  unfold fX7_isNumber fX7_isNumber_J14 fX7_isNumber_J15
  by_cases h1 : a < 1
  · rw [if_pos h1, if_pos h1]; rfl
  · rw [if_neg h1, if_neg h1]
    by_cases h2 : 4 < a
    · rw [if_pos h2, if_pos h2]; rfl
    · rw [if_neg h2, if_neg h2]; rfl
theorem f_hasRow (p r : Int32) : fX4_hasRow p r = some (if p < 0 then 0 else if r ≤ p then 0 else 1) := by
  unfold fX4_hasRow fX4_hasRow_J16 fX4_hasRow_J17
  by_cases h1 : p < 0
  · rw [if_pos h1, if_pos h1]; rfl
  · rw [if_neg h1, if_neg h1]
    by_cases h2 : r ≤ p
    · rw [if_pos h2, if_pos h2]; rfl
    · rw [if_neg h2, if_neg h2]; rfl
theorem f_isMissing (r : Int32) : fX4_isMissing r = some (if r = 0 then 1 else 0) := by
  unfold fX4_isMissing fX4_isMissing_J12
  rw [gd_b]
  exact ite_01 _ _ _ (Or.inr rfl) (Or.inl rfl)
/-- whether there is a board, on both sides -/
theorem no_board {R : Nat} (h : R = 0) : fX4_isMissing (nI R) = some 1 ∧ fX8_isBoard (nI R) = some 0 := by
  subst h
  exact ⟨by rw [f_isMissing]; rfl, by rw [f_isBoard]; rfl⟩
theorem a_board {R : Nat} (h : R ≠ 0) (h4 : R ≤ 4) : fX4_isMissing (nI R) = some 0 ∧ fX8_isBoard (nI R) = some 1 := by
  rw [f_isMissing, f_isBoard, if_neg (nI_ne0 (by omega) (by omega)), if_neg (nI_nle (by omega) (by omega))]
  exact ⟨rfl, rfl⟩
theorem kind_bad {p : Int32} (h : p < 0 ∨ 4 < p) : fX7_isKind p = some 0 ∧ fX8_isKind p = some 0 := by
  rw [f_isKindX, f_isKindM]
  by_cases h1 : p < 0
  · rw [if_pos h1, if_pos h1]; exact ⟨rfl, rfl⟩
  · have h2 : 4 < p := by rcases h with h | h; exact absurd h h1; exact h
    have h5 : 5 ≤ p := by
      rw [Int32.lt_iff_toInt_lt, show (4 : Int32).toInt = 4 from by decide] at h2
      rw [Int32.le_iff_toInt_le, show (5 : Int32).toInt = 5 from by decide]
      omega
    rw [if_neg h1, if_neg h1, if_pos h2, if_pos h5]
    exact ⟨rfl, rfl⟩
theorem kind_ok {c : Nat} (h : c ≤ 4) : fX7_isKind (nI c) = some 1 ∧ fX8_isKind (nI c) = some 1 := by
  have h5 : ¬ (5 : Int32) ≤ nI c := nI_ge (b := 5) (by omega) (by omega)
  have h4 : ¬ (4 : Int32) < nI c := nI_nlt (b := c) (a := 4) (by omega) (by omega)
  rw [f_isKindX, f_isKindM, if_neg (nI_pos (by omega)), if_neg (nI_pos (by omega)), if_neg h5, if_neg h4]
  exact ⟨rfl, rfl⟩
theorem kind_cases (p : Int32) : (p < 0 ∨ 4 < p) ∨ ∃ c, c ≤ 4 ∧ p = nI c := by
  by_cases h1 : p < 0
  · exact Or.inl (Or.inl h1)
  · by_cases h2 : 4 < p
    · exact Or.inl (Or.inr h2)
    · obtain ⟨c, _, h, e⟩ := pk_of 0 4 (by decide) (by decide) h1 h2
      exact Or.inr ⟨c, h, e⟩
theorem agr_push {f : Nat → Int32} {l : List Nat} {v : Nat} {x : Int32} (h : agr f l) (hx : x = nI v) : agr (upd f l.length x) (l ++ [v]) := by
  intro j hj
  rw [List.length_append] at hj
  unfold upd
  by_cases e : j = l.length
  · rw [if_pos e, hx, e]
    simp [List.getD]
  · rw [if_neg e, h j (by simp at hj; omega)]
    simp [List.getD, List.getElem?_append_left (show j < l.length by simp at hj; omega)]
theorem rq_get {f : Nat → Int32} {g : Nat → Nat} (h : rq_4 f g) {j : Nat} (hj : j < 4) : f (nI j).toNatClampNeg = nI (g j) := by
  rw [nI_clamp (by omega)]
  exact h j hj
theorem nI_sub {a b : Nat} (h : b ≤ a) : nI a - nI b = nI (a - b) := by
  have e : nI (a - b) + nI b = nI a := by rw [nI_add, Nat.sub_add_cancel h]
  rw [← e, Int32.add_sub_cancel]
/-- comparisons with written numbers -/
theorem l_lt {a b : Nat} (ha : a < 2 ^ 31) (hb : b < 2 ^ 31) : (nI a < (no_index (OfNat.ofNat b) : Int32)) ↔ a < b := nI_ltI ha hb
theorem l_le {a b : Nat} (ha : a < 2 ^ 31) (hb : b < 2 ^ 31) : (nI a ≤ (no_index (OfNat.ofNat b) : Int32)) ↔ a ≤ b := nI_leI ha hb
theorem l_eq {a b : Nat} (ha : a < 2 ^ 31) (hb : b < 2 ^ 31) : (nI a = (no_index (OfNat.ofNat b) : Int32)) ↔ a = b := nI_eq ha hb
theorem r_lt {a b : Nat} (ha : a < 2 ^ 31) (hb : b < 2 ^ 31) : ((no_index (OfNat.ofNat b) : Int32) < nI a) ↔ b < a := nI_ltI hb ha
theorem r_le {a b : Nat} (ha : a < 2 ^ 31) (hb : b < 2 ^ 31) : ((no_index (OfNat.ofNat b) : Int32) ≤ nI a) ↔ b ≤ a := nI_leI hb ha
theorem r_eq {a b : Nat} (ha : a < 2 ^ 31) (hb : b < 2 ^ 31) : ((no_index (OfNat.ofNat b) : Int32) = nI a) ↔ b = a := nI_eq hb ha
theorem l_add {a b : Nat} : nI a + (no_index (OfNat.ofNat b) : Int32) = nI (a + b) := nI_add a b
theorem l_sub {a b : Nat} (h : b ≤ a) : nI a - (no_index (OfNat.ofNat b) : Int32) = nI (a - b) := nI_sub h
theorem lit (n : Nat) : (OfNat.ofNat n : Int32) = nI n := rfl
theorem row_cases (p : Int32) {R : Nat} (h4 : R ≤ 4) : (fX4_hasRow p (nI R) = some 0 ∧ fX8_isRow p (nI R) = some 0) ∨ ∃ r, r < R ∧ p = nI r ∧ fX4_hasRow p (nI R) = some 1 ∧ fX8_isRow p (nI R) = some 1 := by
  rw [f_hasRow, f_isRow]
  by_cases h1 : p < 0
  · rw [if_pos h1, if_pos h1]; exact Or.inl ⟨rfl, rfl⟩
  · obtain ⟨r, hr, rfl⟩ := nI_of h1
    rw [if_neg h1, if_neg h1]
    by_cases h2 : r < R
    · have a : ¬ nI R ≤ nI r := nI_ge h2 (by omega)
      have b : ¬ nI R - 1 < nI r := by
        rw [show (1 : Int32) = nI 1 from rfl, nI_sub (by omega)]
        exact nI_nlt (by omega) (by omega)
      rw [if_neg a, if_neg b]
      exact Or.inr ⟨r, h2, rfl, rfl, rfl⟩
    · have a : nI R ≤ nI r := nI_le (by omega) hr
      have b : nI R - 1 < nI r := by
        by_cases h0 : R = 0
        · subst h0
          rw [Int32.lt_iff_toInt_lt, nI_toInt hr, show (nI 0 - 1).toInt = -1 from by decide]
          omega
        · rw [show (1 : Int32) = nI 1 from rfl, nI_sub (by omega)]
          exact nI_lt (by omega) hr
      rw [if_pos a, if_pos b]
      exact Or.inl ⟨rfl, rfl⟩
theorem num_cases (p : Int32) : (fX7_isNumber p = some 0 ∧ fX8_within p 1 4 = some 0) ∨ ∃ c, c < 4 ∧ p = nI (c + 1) ∧ fX7_isNumber p = some 1 ∧ fX8_within p 1 4 = some 1 := by
  rw [f_isNumber, f_within]
  by_cases h1 : p < 1
  · rw [if_pos h1]; exact Or.inl ⟨rfl, rfl⟩
  · by_cases h2 : 4 < p
    · rw [if_neg h1, if_pos h2]; exact Or.inl ⟨rfl, rfl⟩
    · obtain ⟨c, c1, c2, rfl⟩ := pk_of 1 4 (by decide) (by decide) h1 h2
      rw [if_neg h1, if_neg h2]
      exact Or.inr ⟨c - 1, by omega, by rw [Nat.sub_add_cancel c1], rfl, rfl⟩
theorem what2 (p : Int32) : (p < 0 ∨ 1 < p) ∨ p = 0 ∨ p = 1 := by
  by_cases h1 : p < 0
  · exact Or.inl (Or.inl h1)
  · by_cases h2 : 1 < p
    · exact Or.inl (Or.inr h2)
    · obtain ⟨c, c1, c2, rfl⟩ := pk_of 0 1 (by decide) (by decide) h1 h2
      rcases (show c = 0 ∨ c = 1 by omega) with rfl | rfl
      · exact Or.inr (Or.inl rfl)
      · exact Or.inr (Or.inr rfl)
