/-! the count in numbers -/
def q_t4 (F : Nat → Nat → Nat → Nat → Nat) (m a b c d : Nat) : Nat := if m ≤ d then F a b c (d - m) else 0
def q_t3 (G : Nat → Nat → Nat → Nat → Nat → Nat) : Nat → Nat → Nat → Nat → Nat → Nat
  | 0, a, b, c, d => G 0 a b c d
  | m + 1, a, b, c, d => (if 1 ≤ c then q_t3 G m a b (c - 1) d else 0) + G (m + 1) a b c d
def q_t2 (G : Nat → Nat → Nat → Nat → Nat → Nat) : Nat → Nat → Nat → Nat → Nat → Nat
  | 0, a, b, c, d => G 0 a b c d
  | m + 1, a, b, c, d => (if 1 ≤ b then q_t2 G m a (b - 1) c d else 0) + G (m + 1) a b c d
def q_t1 (G : Nat → Nat → Nat → Nat → Nat → Nat) : Nat → Nat → Nat → Nat → Nat → Nat
  | 0, a, b, c, d => G 0 a b c d
  | m + 1, a, b, c, d => (if 1 ≤ a then q_t1 G m (a - 1) b c d else 0) + G (m + 1) a b c d
def q_rx (F : Nat → Nat → Nat → Nat → Nat) (m a b c d : Nat) : Nat := q_t1 (q_t2 (q_t3 (q_t4 F))) m a b c d
theorem q_x4 {F : (Nat → Nat) → Nat} {Fx : Nat → Nat → Nat → Nat → Nat} (h : ∀ e, F e = Fx (e 1) (e 2) (e 3) (e 4)) : ∀ m e, q_tk (q_en F) 4 m e = q_t4 Fx m (e 1) (e 2) (e 3) (e 4) := by
  intro m
  induction m with
  | zero =>
    intro e
    show q_en F 0 e = _
    unfold q_en q_t4
    rw [if_pos rfl, if_pos (Nat.zero_le _), Nat.sub_zero, h]
  | succ m ih =>
    intro e
    rw [q_tk, ih]
    unfold q_en q_t4
    rw [if_neg (show ¬ m + 1 = 0 by omega), updN_eq, updN_ne (by decide), updN_ne (by decide), updN_ne (by decide), Nat.add_zero]
    by_cases q : 1 ≤ e 4
    · rw [if_pos q]
      by_cases q2 : m ≤ e 4 - 1
      · rw [if_pos q2, if_pos (by omega), show e 4 - 1 - m = e 4 - (m + 1) by omega]
      · rw [if_neg q2, if_neg (by omega)]
    · rw [if_neg q, if_neg (by omega)]
theorem q_x3 {G : Nat → (Nat → Nat) → Nat} {Gx : Nat → Nat → Nat → Nat → Nat → Nat} (h : ∀ m e, G m e = Gx m (e 1) (e 2) (e 3) (e 4)) : ∀ m e, q_tk G 3 m e = q_t3 Gx m (e 1) (e 2) (e 3) (e 4) := by
  intro m
  induction m with
  | zero => intro e; exact h 0 e
  | succ m ih =>
    intro e
    rw [q_tk, q_t3, ih, h, updN_eq, updN_ne (by decide), updN_ne (by decide), updN_ne (by decide)]
theorem q_x2 {G : Nat → (Nat → Nat) → Nat} {Gx : Nat → Nat → Nat → Nat → Nat → Nat} (h : ∀ m e, G m e = Gx m (e 1) (e 2) (e 3) (e 4)) : ∀ m e, q_tk G 2 m e = q_t2 Gx m (e 1) (e 2) (e 3) (e 4) := by
  intro m
  induction m with
  | zero => intro e; exact h 0 e
  | succ m ih =>
    intro e
    rw [q_tk, q_t2, ih, h, updN_eq, updN_ne (by decide), updN_ne (by decide), updN_ne (by decide)]
theorem q_x1 {G : Nat → (Nat → Nat) → Nat} {Gx : Nat → Nat → Nat → Nat → Nat → Nat} (h : ∀ m e, G m e = Gx m (e 1) (e 2) (e 3) (e 4)) : ∀ m e, q_tk G 1 m e = q_t1 Gx m (e 1) (e 2) (e 3) (e 4) := by
  intro m
  induction m with
  | zero => intro e; exact h 0 e
  | succ m ih =>
    intro e
    rw [q_tk, q_t1, ih, h, updN_eq, updN_ne (by decide), updN_ne (by decide), updN_ne (by decide)]
theorem q_xr {F : (Nat → Nat) → Nat} {Fx : Nat → Nat → Nat → Nat → Nat} (h : ∀ e, F e = Fx (e 1) (e 2) (e 3) (e 4)) (m : Nat) (e : Nat → Nat) : q_lv (fun z => 4 - z) F 4 m e = q_rx Fx m (e 1) (e 2) (e 3) (e 4) := by
  rw [q_lv4]
  exact q_x1 (q_x2 (q_x3 (q_x4 h))) m e
theorem q_gx (ln : Nat → Nat) (e : Nat → Nat) : q_gR (fun z => 4 - z) ln 4 0 e = q_rx (q_rx (q_rx (q_rx (fun _ _ _ _ => 1) (ln 3)) (ln 2)) (ln 1)) (ln 0) (e 1) (e 2) (e 3) (e 4) := by
  have h3 : ∀ e, q_gR (fun z => 4 - z) ln 1 3 e = q_rx (fun _ _ _ _ => 1) (ln 3) (e 1) (e 2) (e 3) (e 4) := fun e => q_xr (F := q_gR (fun z => 4 - z) ln 0 4) (Fx := fun _ _ _ _ => 1) (fun e => rfl) (ln 3) e
  have h2 : ∀ e, q_gR (fun z => 4 - z) ln 2 2 e = q_rx (q_rx (fun _ _ _ _ => 1) (ln 3)) (ln 2) (e 1) (e 2) (e 3) (e 4) := fun e => q_xr h3 (ln 2) e
  have h1 : ∀ e, q_gR (fun z => 4 - z) ln 3 1 e = q_rx (q_rx (q_rx (fun _ _ _ _ => 1) (ln 3)) (ln 2)) (ln 1) (e 1) (e 2) (e 3) (e 4) := fun e => q_xr h2 (ln 1) e
  exact q_xr h1 (ln 0) e
/-! the last row is known -/
theorem q_c4 {F F' : Nat → Nat → Nat → Nat → Nat} {K : Nat} (h : ∀ a b c d, a + b + c + d = K → F a b c d = F' a b c d) : ∀ m a b c d, a + b + c + d = m + K → q_t4 F m a b c d = q_t4 F' m a b c d := by
  intro m a b c d e
  unfold q_t4
  by_cases q : m ≤ d
  · rw [if_pos q, if_pos q, h _ _ _ _ (by omega)]
  · rw [if_neg q, if_neg q]
theorem q_c3 {G G' : Nat → Nat → Nat → Nat → Nat → Nat} {K : Nat} (h : ∀ m a b c d, a + b + c + d = m + K → G m a b c d = G' m a b c d) : ∀ m a b c d, a + b + c + d = m + K → q_t3 G m a b c d = q_t3 G' m a b c d := by
  intro m
  induction m with
  | zero => intro a b c d e; exact h 0 a b c d e
  | succ m ih =>
    intro a b c d e
    rw [q_t3, q_t3, h (m + 1) a b c d e]
    by_cases q : 1 ≤ c
    · rw [if_pos q, if_pos q, ih a b (c - 1) d (by omega)]
    · rw [if_neg q, if_neg q]
theorem q_c2 {G G' : Nat → Nat → Nat → Nat → Nat → Nat} {K : Nat} (h : ∀ m a b c d, a + b + c + d = m + K → G m a b c d = G' m a b c d) : ∀ m a b c d, a + b + c + d = m + K → q_t2 G m a b c d = q_t2 G' m a b c d := by
  intro m
  induction m with
  | zero => intro a b c d e; exact h 0 a b c d e
  | succ m ih =>
    intro a b c d e
    rw [q_t2, q_t2, h (m + 1) a b c d e]
    by_cases q : 1 ≤ b
    · rw [if_pos q, if_pos q, ih a (b - 1) c d (by omega)]
    · rw [if_neg q, if_neg q]
theorem q_c1 {G G' : Nat → Nat → Nat → Nat → Nat → Nat} {K : Nat} (h : ∀ m a b c d, a + b + c + d = m + K → G m a b c d = G' m a b c d) : ∀ m a b c d, a + b + c + d = m + K → q_t1 G m a b c d = q_t1 G' m a b c d := by
  intro m
  induction m with
  | zero => intro a b c d e; exact h 0 a b c d e
  | succ m ih =>
    intro a b c d e
    rw [q_t1, q_t1, h (m + 1) a b c d e]
    by_cases q : 1 ≤ a
    · rw [if_pos q, if_pos q, ih (a - 1) b c d (by omega)]
    · rw [if_neg q, if_neg q]
theorem q_cr {F F' : Nat → Nat → Nat → Nat → Nat} {K : Nat} (h : ∀ a b c d, a + b + c + d = K → F a b c d = F' a b c d) {m a b c d : Nat} (e : a + b + c + d = m + K) : q_rx F m a b c d = q_rx F' m a b c d := q_c1 (q_c2 (q_c3 (q_c4 h))) m a b c d e
theorem q_l4 (m a b c d : Nat) : (d = m → q_t4 (fun _ _ _ _ => 1) m a b c d = 1) ∧ (d < m → q_t4 (fun _ _ _ _ => 1) m a b c d = 0) := by
  unfold q_t4
  exact ⟨fun h => if_pos (by omega), fun h => if_neg (by omega)⟩
theorem q_l3 : ∀ (m a b c d : Nat), (c + d = m → q_t3 (q_t4 (fun _ _ _ _ => 1)) m a b c d = 1) ∧ (c + d < m → q_t3 (q_t4 (fun _ _ _ _ => 1)) m a b c d = 0) := by
  intro m
  induction m with
  | zero => intro a b c d; exact ⟨fun h => (q_l4 0 a b c d).1 (by omega), fun h => by omega⟩
  | succ m ih =>
    intro a b c d
    rw [q_t3]
    by_cases q : 1 ≤ c
    · rw [if_pos q]
      refine ⟨fun h => ?_, fun h => ?_⟩
      · rw [(ih a b (c - 1) d).1 (by omega), (q_l4 (m + 1) a b c d).2 (by omega)]
      · rw [(ih a b (c - 1) d).2 (by omega), (q_l4 (m + 1) a b c d).2 (by omega)]
    · rw [if_neg q, Nat.zero_add]
      exact ⟨fun h => (q_l4 (m + 1) a b c d).1 (by omega), fun h => (q_l4 (m + 1) a b c d).2 (by omega)⟩
theorem q_l2 : ∀ (m a b c d : Nat), (b + c + d = m → q_t2 (q_t3 (q_t4 (fun _ _ _ _ => 1))) m a b c d = 1) ∧ (b + c + d < m → q_t2 (q_t3 (q_t4 (fun _ _ _ _ => 1))) m a b c d = 0) := by
  intro m
  induction m with
  | zero => intro a b c d; exact ⟨fun h => (q_l3 0 a b c d).1 (by omega), fun h => by omega⟩
  | succ m ih =>
    intro a b c d
    rw [q_t2]
    by_cases q : 1 ≤ b
    · rw [if_pos q]
      refine ⟨fun h => ?_, fun h => ?_⟩
      · rw [(ih a (b - 1) c d).1 (by omega), (q_l3 (m + 1) a b c d).2 (by omega)]
      · rw [(ih a (b - 1) c d).2 (by omega), (q_l3 (m + 1) a b c d).2 (by omega)]
    · rw [if_neg q, Nat.zero_add]
      exact ⟨fun h => (q_l3 (m + 1) a b c d).1 (by omega), fun h => (q_l3 (m + 1) a b c d).2 (by omega)⟩
theorem q_l1 : ∀ (m a b c d : Nat), a + b + c + d = m → q_rx (fun _ _ _ _ => 1) m a b c d = 1 := by
  unfold q_rx
  intro m
  induction m with
  | zero => intro a b c d h; exact (q_l2 0 a b c d).1 (by omega)
  | succ m ih =>
    intro a b c d h
    rw [q_t1]
    by_cases q : 1 ≤ a
    · rw [if_pos q, ih (a - 1) b c d (by omega), (q_l2 (m + 1) a b c d).2 (by omega)]
    · rw [if_neg q, Nat.zero_add]
      exact (q_l2 (m + 1) a b c d).1 (by omega)
def q_N3 (m0 m1 m2 a b c d : Nat) : Nat := q_rx (q_rx (q_rx (fun _ _ _ _ => 1) m2) m1) m0 a b c d
theorem q_N4 {m0 m1 m2 m3 a b c d : Nat} (h : a + b + c + d = m0 + m1 + m2 + m3) : q_rx (q_rx (q_rx (q_rx (fun _ _ _ _ => 1) m3) m2) m1) m0 a b c d = q_N3 m0 m1 m2 a b c d := by
  unfold q_N3
  refine q_cr (K := m1 + m2 + m3) (fun a b c d e => ?_) (by omega)
  refine q_cr (K := m2 + m3) (fun a b c d e => ?_) (by omega)
  refine q_cr (K := m3) (fun a b c d e => ?_) (by omega)
  exact q_l1 m3 a b c d e
def q_fa (P : Nat → Bool) : Nat → Bool
  | 0 => true
  | n + 1 => P n && q_fa P n
theorem q_fai {P : Nat → Bool} : ∀ n, q_fa P n = true → ∀ k, k < n → P k = true := by
  intro n
  induction n with
  | zero => intro _ k hk; omega
  | succ n ih =>
    intro h k hk
    rw [q_fa, Bool.and_eq_true] at h
    by_cases e : k = n
    · rw [e]; exact h.1
    · exact ih h.2 k (by omega)
theorem q_400b : q_fa (fun a => q_fa (fun b => q_fa (fun c => q_fa (fun d => !(Nat.ble (a + b + c + d) 9) || q_fa (fun m0 => q_fa (fun m1 => q_fa (fun m2 => Nat.ble (q_N3 m0 m1 m2 a b c d) 400) (a + b + c + d + 1 - m0 - m1)) (a + b + c + d + 1 - m0)) (a + b + c + d + 1)) (c + 1)) (b + 1)) (a + 1)) 10 = true := by decide +kernel
theorem q_400 {a b c d m0 m1 m2 : Nat} (ha : a < 10) (hb : b < a + 1) (hc : c < b + 1) (hd : d < c + 1) (h9 : a + b + c + d ≤ 9) (h0 : m0 < a + b + c + d + 1) (h1 : m1 < a + b + c + d + 1 - m0) (h2 : m2 < a + b + c + d + 1 - m0 - m1) : q_N3 m0 m1 m2 a b c d ≤ 400 := by
  have k := q_fai _ (q_fai _ (q_fai _ (q_fai _ q_400b a ha) b hb) c hc) d hd
  rw [Bool.or_eq_true] at k
  rcases k with k | k
  · rw [Nat.ble_eq_true_of_le h9] at k; cases k
  · exact Nat.le_of_ble_eq_true (q_fai _ (q_fai _ (q_fai _ k m0 h0) m1 h1) m2 h2)
def q_f4 (a b c d v : Nat) : Nat := if v = 1 then a else if v = 2 then b else if v = 3 then c else if v = 4 then d else 0
def q_Q (a b c d : Nat) : Prop := ∀ ln : Nat → Nat, ln 0 + ln 1 + ln 2 + ln 3 = a + b + c + d → a + b + c + d ≤ 9 → q_gR (fun z => 4 - z) ln 4 0 (q_f4 a b c d) ≤ 400
theorem q_Q0 {a b c d : Nat} (h1 : b ≤ a) (h2 : c ≤ b) (h3 : d ≤ c) : q_Q a b c d := by
  intro ln hs h9
  rw [q_gx]
  show q_rx (q_rx (q_rx (q_rx (fun _ _ _ _ => 1) (ln 3)) (ln 2)) (ln 1)) (ln 0) a b c d ≤ 400
  rw [q_N4 (by omega)]
  exact q_400 (by omega) (by omega) (by omega) (by omega) h9 (by omega) (by omega) (by omega)
theorem q_f12 (a b c d : Nat) : q_f4 a b c d = fun x => q_f4 b a c d (q_sp 1 2 x) := by
  funext x
  unfold q_f4 q_sp
  by_cases h1 : x = 1
  · subst h1; rfl
  · by_cases h2 : x = 2
    · subst h2; rfl
    · simp [h1, h2]
theorem q_f23 (a b c d : Nat) : q_f4 a b c d = fun x => q_f4 a c b d (q_sp 2 3 x) := by
  funext x
  unfold q_f4 q_sp
  by_cases h1 : x = 2
  · subst h1; rfl
  · by_cases h2 : x = 3
    · subst h2; rfl
    · simp [h1, h2]
theorem q_f34 (a b c d : Nat) : q_f4 a b c d = fun x => q_f4 a b d c (q_sp 3 4 x) := by
  funext x
  unfold q_f4 q_sp
  by_cases h1 : x = 3
  · subst h1; rfl
  · by_cases h2 : x = 4
    · subst h2; rfl
    · simp [h1, h2]
theorem q_Q12 {a b c d : Nat} (h : q_Q b a c d) : q_Q a b c d := by
  intro ln hs h9
  rw [q_f12, q_gRs (q_spi 1 2), q_gRc q_12]
  exact h ln (by omega) (by omega)
theorem q_Q23 {a b c d : Nat} (h : q_Q a c b d) : q_Q a b c d := by
  intro ln hs h9
  rw [q_f23, q_gRs (q_spi 2 3), q_gRc q_23]
  exact h ln (by omega) (by omega)
theorem q_Q34 {a b c d : Nat} (h : q_Q a b d c) : q_Q a b c d := by
  intro ln hs h9
  rw [q_f34, q_gRs (q_spi 3 4), q_gRc q_34]
  exact h ln (by omega) (by omega)
theorem q_Qa {a b c d : Nat} (h1 : b ≤ a) (h2 : c ≤ b) : q_Q a b c d := by
  by_cases q1 : d ≤ c
  · exact q_Q0 h1 h2 q1
  · by_cases q2 : d ≤ b
    · exact q_Q34 (q_Q0 h1 q2 (by omega))
    · by_cases q3 : d ≤ a
      · exact q_Q34 (q_Q23 (q_Q0 q3 (by omega) h2))
      · exact q_Q34 (q_Q23 (q_Q12 (q_Q0 (by omega) h1 h2)))
theorem q_Qb {a b c d : Nat} (h1 : b ≤ a) : q_Q a b c d := by
  by_cases q1 : c ≤ b
  · exact q_Qa h1 q1
  · by_cases q2 : c ≤ a
    · exact q_Q23 (q_Qa q2 (by omega))
    · exact q_Q23 (q_Q12 (q_Qa (by omega) h1))
theorem q_Qc (a b c d : Nat) : q_Q a b c d := by
  by_cases q1 : b ≤ a
  · exact q_Qb q1
  · exact q_Q12 (q_Qb (by omega))
theorem fls_400 {B : Bd} (hB : BdOK B) : (fls B).length ≤ 400 := by
  by_cases h : fls B = []
  · rw [h]; exact Nat.zero_le _
  · obtain ⟨g1, g2, g3⟩ := q_fls hB h
    refine Nat.le_trans g1 ?_
    have n9 := hB.2.2.2.2.2.2.1
    have l1 := rowsL_len B 0
    have l2 := rowsL_len B 1
    have l3 := rowsL_len B 2
    have l4 := rowsL_len B 3
    have l0 : (rowsL B 0).length = 0 := rfl
    simp only [Nat.zero_add, show 1 + 1 = 2 from rfl, show 2 + 1 = 3 from rfl, show 3 + 1 = 4 from rfl] at l1 l2 l3 l4
    have ed : ∀ F : (Nat → Nat) → Nat, q_lv (q_dir (bK B)) F 4 = q_lv (fun z => 4 - z) F 4 := by
      intro F
      by_cases k : bK B = 4
      · have : q_dir (bK B) = fun z => z + 1 := by funext z; unfold q_dir; rw [if_pos k]
        rw [this, q_dn]
      · have : q_dir (bK B) = fun z => 4 - z := by funext z; unfold q_dir; rw [if_neg k]
        rw [this]
    rw [q_gRc ed, q_gx]
    have Q := q_Qc (bc B 0) (bc B 1) (bc B 2) (bc B 3) (fun r => bo B r - bi B r) (by unfold csum at g2; omega) (by unfold csum at g2; omega)
    rw [q_gx] at Q
    exact Q
