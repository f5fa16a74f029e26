/-! terms: the words of a shape, row by row -/
theorem okT_app (i c x : Nat → Nat) (p : List Nat) (v : Nat) : okT i c x (p ++ [v]) = okV i c x p v := by
  unfold okT
  rw [List.dropLast_concat]
  congr 1
  simp [List.getLastD_eq_getLast?]
theorem rrow_of {x : Nat → Nat} {r k : Nat} (hr : r < 4) (h1 : sx x r ≤ k) (h2 : k < sx x (r + 1)) : rrow x k = r := by
  unfold rrow
  rcases (show r = 0 ∨ r = 1 ∨ r = 2 ∨ r = 3 by omega) with rfl | rfl | rfl | rfl
  · rw [if_pos h2]
  · rw [if_neg (by omega), if_pos h2]
  · have : sx x 2 = sx x 1 + x 1 := rfl
    rw [if_neg (by omega), if_neg (by omega), if_pos h2]
  · have e1 : sx x 2 = sx x 1 + x 1 := rfl
    have e2 : sx x 3 = sx x 2 + x 2 := rfl
    rw [if_neg (by omega), if_neg (by omega), if_neg (by omega)]
def cm (a : Nat → Nat) : Nat → Nat
  | 0 => 0
  | v + 1 => cm a v + a (v + 1)
def rw4 (a : Nat → Nat) : List Nat := List.replicate (a 4) 4 ++ List.replicate (a 3) 3 ++ List.replicate (a 2) 2 ++ List.replicate (a 1) 1
theorem rw4_len (a : Nat → Nat) : (rw4 a).length = cm a 4 := by
  unfold rw4
  simp [cm]
  omega
theorem rw4_app {a : Nat → Nat} {y : Nat} (h1 : 1 ≤ y) (h4 : y ≤ 4) (h : ∀ v, 1 ≤ v → v < y → a v = 0) : rw4 a ++ [y] = rw4 (updN a y (a y + 1)) := by
  unfold rw4
  rcases (show y = 1 ∨ y = 2 ∨ y = 3 ∨ y = 4 by omega) with rfl | rfl | rfl | rfl
  · simp [updN, List.replicate_succ']
  · simp [updN, List.replicate_succ', h 1 (by omega) (by omega)]
  · simp [updN, List.replicate_succ', h 1 (by omega) (by omega), h 2 (by omega) (by omega)]
  · simp [updN, List.replicate_succ', h 1 (by omega) (by omega), h 2 (by omega) (by omega), h 3 (by omega) (by omega)]
theorem rw4_ge {a : Nat → Nat} {y : Nat} (h : ∀ v, 1 ≤ v → v < y → a v = 0) {z : Nat} (hz : z ∈ rw4 a) : y ≤ z := by
  unfold rw4 at hz
  simp only [List.mem_append, List.mem_replicate] at hz
  apply Classical.byContradiction
  intro q
  rcases hz with ((⟨a1, rfl⟩ | ⟨a1, rfl⟩) | ⟨a1, rfl⟩) | ⟨a1, rfl⟩
  · exact a1 (h 4 (by omega) (by omega))
  · exact a1 (h 3 (by omega) (by omega))
  · exact a1 (h 2 (by omega) (by omega))
  · exact a1 (h 1 (by omega) (by omega))
theorem rw4_get {a : Nat → Nat} {y j : Nat} (h1 : 1 ≤ y) (h4 : y ≤ 4) (hj : j < cm a 4) : (rw4 a).getD j 0 < y ↔ cm a 4 ≤ j + cm a (y - 1) := by
  have e : cm a 4 = a 1 + a 2 + a 3 + a 4 := by simp [cm]
  have val : (rw4 a).getD j 0 = if j < a 4 then 4 else if j < a 4 + a 3 then 3 else if j < a 4 + a 3 + a 2 then 2 else 1 := by
    unfold rw4
    by_cases q1 : j < a 4
    · rw [if_pos q1, getD_app_l (by simp; omega), getD_app_l (by simp; omega), getD_app_l (by simp; omega), getD_rep q1]
    · rw [if_neg q1]
      by_cases q2 : j < a 4 + a 3
      · rw [if_pos q2, getD_app_l (by simp; omega), getD_app_l (by simp; omega), getD_app_r (by simp; omega), getD_rep (by simp; omega)]
      · rw [if_neg q2]
        by_cases q3 : j < a 4 + a 3 + a 2
        · rw [if_pos q3, getD_app_l (by simp; omega), getD_app_r (by simp; omega), getD_rep (by simp; omega)]
        · rw [if_neg q3, getD_app_r (by simp; omega), getD_rep (by simp; omega)]
  have c0 : cm a 0 = 0 := rfl
  have c1 : cm a 1 = a 1 := by simp [cm]
  have c2 : cm a 2 = a 1 + a 2 := by simp [cm]
  have c3 : cm a 3 = a 1 + a 2 + a 3 := by simp [cm]
  have cy : cm a (y - 1) = if y = 1 then 0 else if y = 2 then a 1 else if y = 3 then a 1 + a 2 else a 1 + a 2 + a 3 := by
    rcases (show y = 1 ∨ y = 2 ∨ y = 3 ∨ y = 4 by omega) with rfl | rfl | rfl | rfl
    · exact c0
    · exact c1
    · exact c2
    · exact c3
  rw [val, e, cy]
  by_cases q1 : j < a 4
  · rw [if_pos q1]
    rcases (show y = 1 ∨ y = 2 ∨ y = 3 ∨ y = 4 by omega) with rfl | rfl | rfl | rfl <;> simp <;> omega
  · rw [if_neg q1]
    by_cases q2 : j < a 4 + a 3
    · rw [if_pos q2]
      rcases (show y = 1 ∨ y = 2 ∨ y = 3 ∨ y = 4 by omega) with rfl | rfl | rfl | rfl <;> simp <;> omega
    · rw [if_neg q2]
      by_cases q3 : j < a 4 + a 3 + a 2
      · rw [if_pos q3]
        rcases (show y = 1 ∨ y = 2 ∨ y = 3 ∨ y = 4 by omega) with rfl | rfl | rfl | rfl <;> simp <;> omega
      · rw [if_neg q3]
        rcases (show y = 1 ∨ y = 2 ∨ y = 3 ∨ y = 4 by omega) with rfl | rfl | rfl | rfl <;> simp <;> omega
theorem cq_append (p q : List Nat) (v : Nat) : ∀ k, k ≤ q.length → cq (p ++ q) v (p.length + k) = cq p v p.length + cq q v k := by
  intro k
  induction k with
  | zero => intro _; rw [Nat.add_zero, cq_app v _ (Nat.le_refl _)]; rfl
  | succ k ih =>
    intro h
    rw [← Nat.add_assoc, cq, ih (by omega), cq, getD_app_r (by omega), Nat.add_sub_cancel_left]
    omega
theorem cq_rep (n z v : Nat) : ∀ k, k ≤ n → cq (List.replicate n z) v k = if z = v then k else 0 := by
  intro k
  induction k with
  | zero => intro _; rw [cq]; split <;> rfl
  | succ k ih =>
    intro h
    rw [cq, ih (by omega), getD_rep (by omega)]
    split <;> rfl
theorem cq_app2 (p q : List Nat) (v : Nat) : cq (p ++ q) v (p ++ q).length = cq p v p.length + cq q v q.length := by
  rw [List.length_append]
  exact cq_append p q v q.length (Nat.le_refl _)
theorem cq_rep2 (n z v : Nat) : cq (List.replicate n z) v (List.replicate n z).length = if z = v then n else 0 := by
  rw [List.length_replicate]
  exact cq_rep n z v n (Nat.le_refl _)
theorem cq_rw4 (a : Nat → Nat) {v : Nat} (h1 : 1 ≤ v) (h4 : v ≤ 4) : cq (rw4 a) v (rw4 a).length = a v := by
  unfold rw4
  rw [cq_app2, cq_app2, cq_app2, cq_rep2, cq_rep2, cq_rep2, cq_rep2]
  rcases (show v = 1 ∨ v = 2 ∨ v = 3 ∨ v = 4 by omega) with rfl | rfl | rfl | rfl <;> simp
/-! sums -/
def sm (f : Nat → Nat) : Nat → Nat
  | 0 => 0
  | n + 1 => sm f n + f n
theorem sm_congr {f g : Nat → Nat} : ∀ n, (∀ j, j < n → f j = g j) → sm f n = sm g n := fun n => by
  induction n with
  | zero => intro _; rfl
  | succ n ih => intro h; rw [sm, sm, ih (fun j hj => h j (by omega)), h n (by omega)]
theorem sm_shift (f : Nat → Nat) : ∀ n, sm f (n + 1) = f 0 + sm (fun j => f (j + 1)) n := fun n => by
  induction n with
  | zero => rw [sm, sm, sm]; omega
  | succ n ih =>
    rw [sm, ih, sm]
    omega
theorem sm_0 {f : Nat → Nat} : ∀ n, (∀ j, j < n → f j = 0) → sm f n = 0 := fun n => by
  induction n with
  | zero => intro _; rfl
  | succ n ih => intro h; rw [sm, ih (fun j hj => h j (by omega)), h n (by omega)]
theorem sm_add (f g : Nat → Nat) : ∀ n, sm (fun j => f j + g j) n = sm f n + sm g n := fun n => by
  induction n with
  | zero => rfl
  | succ n ih => rw [sm, sm, sm, ih]; omega
theorem sm_swap (f : Nat → Nat → Nat) (m : Nat) : ∀ n, sm (fun a => sm (fun b => f a b) m) n = sm (fun b => sm (fun a => f a b) n) m := fun n => by
  induction n with
  | zero => exact (sm_0 m (fun j _ => rfl)).symm
  | succ n ih =>
    rw [sm, ih, ← sm_add]
    rfl
/-- the sum over the numbers up to m, as one over the numbers below 10 -/
theorem sm_10 (f : Nat → Nat) {m : Nat} (hm : m ≤ 10) : sm f m = sm (fun a => if a < m then f a else 0) 10 := by
  have : ∀ n, m ≤ n → sm f m = sm (fun a => if a < m then f a else 0) n := by
    intro n
    induction n with
    | zero => intro h; rw [show m = 0 by omega]; rfl
    | succ n ih =>
      intro h
      by_cases e : m = n + 1
      · rw [e]
        exact sm_congr _ (fun j hj => by rw [if_pos hj])
      · rw [sm, ← ih (by omega), if_neg (by omega), Nat.add_zero]
  exact this 10 hm
/-- amounts of the numbers y, y - 1, .. in m boxes of the row r -/
def cnd (i c : Nat → Nat) (r : Nat) (u b a : Nat → Nat) (y t m : Nat) : Bool := decide (t = 0 ∨ (u y + a y + t ≤ c (y - 1) ∧ (y = 1 ∨ u y + a y + t ≤ u (y - 1)) ∧ (r = 0 ∨ i r + m ≤ i (r - 1) + cm b (y - 1))))
theorem cnd_iff {i c : Nat → Nat} {r : Nat} {u b a : Nat → Nat} {y t m : Nat} : cnd i c r u b a y t m = true ↔ (t = 0 ∨ (u y + a y + t ≤ c (y - 1) ∧ (y = 1 ∨ u y + a y + t ≤ u (y - 1)) ∧ (r = 0 ∨ i r + m ≤ i (r - 1) + cm b (y - 1)))) := by
  unfold cnd
  rw [decide_eq_true_iff]
def ES (i c : Nat → Nat) (r : Nat) (u b : Nat → Nat) (F : (Nat → Nat) → Nat) : Nat → Nat → (Nat → Nat) → Nat
  | 0, m, a => if m = 0 then F a else 0
  | y + 1, m, a => sm (fun t => if cnd i c r u b a (y + 1) t m = true then ES i c r u b F y (m - t) (updN a (y + 1) (a (y + 1) + t)) else 0) (m + 1)
theorem updN_self (a : Nat → Nat) (k : Nat) : updN a k (a k) = a := by
  funext j
  unfold updN
  by_cases e : j = k
  · rw [if_pos e, e]
  · rw [if_neg e]
theorem updN_two (a : Nat → Nat) (k v w : Nat) : updN (updN a k v) k w = updN a k w := by
  funext j
  unfold updN
  by_cases e : j = k
  · rw [if_pos e, if_pos e]
  · rw [if_neg e, if_neg e, if_neg e]
theorem ES_0 (i c : Nat → Nat) (r : Nat) (u b : Nat → Nat) (F : (Nat → Nat) → Nat) : ∀ y a, ES i c r u b F y 0 a = F a := by
  intro y
  induction y with
  | zero => intro a; rw [ES, if_pos rfl]
  | succ y ih =>
    intro a
    rw [ES, sm, sm, Nat.zero_add, if_pos (cnd_iff.mpr (Or.inl rfl)), ih, show a (y + 1) + 0 = a (y + 1) from rfl, updN_self]
theorem ES_s (i c : Nat → Nat) (r : Nat) (u b : Nat → Nat) (F : (Nat → Nat) → Nat) (y m : Nat) (a : Nat → Nat) : ES i c r u b F (y + 1) (m + 1) a = (if cnd i c r u b a (y + 1) 1 (m + 1) = true then ES i c r u b F (y + 1) m (updN a (y + 1) (a (y + 1) + 1)) else 0) + ES i c r u b F y (m + 1) a := by
  rw [ES, sm_shift, if_pos (cnd_iff.mpr (Or.inl rfl)), show a (y + 1) + 0 = a (y + 1) from rfl, updN_self, Nat.sub_zero]
  refine (Nat.add_comm _ _).trans ?_
  congr 1
  by_cases q : cnd i c r u b a (y + 1) 1 (m + 1) = true
  · rw [if_pos q, ES]
    apply sm_congr
    intro t ht
    have e : cnd i c r u b a (y + 1) (t + 1) (m + 1) = true ↔ cnd i c r u b (updN a (y + 1) (a (y + 1) + 1)) (y + 1) t m = true := by
      rw [cnd_iff] at q ⊢
      rw [cnd_iff, updN_eq]
      omega
    rw [updN_two, updN_eq, show m + 1 - (t + 1) = m - t by omega, show a (y + 1) + (t + 1) = a (y + 1) + 1 + t by omega]
    by_cases q2 : cnd i c r u b a (y + 1) (t + 1) (m + 1) = true
    · rw [if_pos q2, if_pos (e.mp q2)]
    · rw [if_neg q2, if_neg (fun h => q2 (e.mpr h))]
  · rw [if_neg q]
    apply sm_0
    intro t ht
    rw [if_neg]
    intro h
    apply q
    rw [cnd_iff] at h ⊢
    omega
