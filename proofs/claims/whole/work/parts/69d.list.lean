/-! the terms in order, and the keys of the class -/
def dl (lo : Nat) : Nat → List Nat
  | 0 => []
  | m + 1 => (lo + m) :: dl lo m
theorem dl_mem {lo x : Nat} : ∀ m, x ∈ dl lo m ↔ (lo ≤ x ∧ x < lo + m) := fun m => by
  induction m with
  | zero => rw [dl]; constructor; intro h; cases h; intro h; omega
  | succ m ih => rw [dl, List.mem_cons, ih]; omega
theorem dl_pw (lo : Nat) : ∀ m, (dl lo m).Pairwise (fun a b => b < a) := fun m => by
  induction m with
  | zero => exact List.Pairwise.nil
  | succ m ih =>
    rw [dl, List.pairwise_cons]
    refine ⟨fun a h => ?_, ih⟩
    have := (dl_mem m).mp h
    omega
theorem downL_dl (hi lo : Nat) : downL hi lo = dl lo (hi + 1 - lo) := by
  have key : ∀ (n hi : Nat), lo + n = hi + 1 → (List.range n).map (fun j => hi - j) = dl lo n := by
    intro n
    induction n with
    | zero => intro hi _; rfl
    | succ n ih =>
      intro hi h
      rw [List.range_succ_eq_map, List.map_cons, List.map_map, dl, show hi - 0 = lo + n by omega]
      congr 1
      by_cases e : n = 0
      · subst e; rfl
      · rw [← ih (hi - 1) (by omega)]
        apply List.map_congr_left
        intro j _
        show hi - (j + 1) = hi - 1 - j
        omega
  unfold downL
  by_cases q : lo ≤ hi + 1
  · exact key _ hi (by omega)
  · rw [show hi + 1 - lo = 0 by omega]; rfl
theorem downL_mem {hi lo x : Nat} : x ∈ downL hi lo ↔ (lo ≤ x ∧ x ≤ hi) := by
  rw [downL_dl, dl_mem]; omega
theorem downL_pw (hi lo : Nat) : (downL hi lo).Pairwise (fun a b => b < a) := by
  rw [downL_dl]; exact dl_pw lo _
theorem pw_eq : ∀ (l1 l2 : List Nat), l1.Pairwise (fun a b => b < a) → l2.Pairwise (fun a b => b < a) → (∀ x, x ∈ l1 ↔ x ∈ l2) → l1 = l2 := by
  intro l1
  induction l1 with
  | nil =>
    intro l2 _ _ h
    cases l2 with
    | nil => rfl
    | cons b l2 => exact absurd ((h b).mpr (by simp)) (by simp)
  | cons a l1 ih =>
    intro l2 h1 h2 h
    cases l2 with
    | nil => exact absurd ((h a).mp (by simp)) (by simp)
    | cons b l2 =>
      rw [List.pairwise_cons] at h1 h2
      have ab : a = b := by
        have q1 := (h a).mp (by simp)
        have q2 := (h b).mpr (by simp)
        rw [List.mem_cons] at q1 q2
        rcases q1 with e | e
        · exact e
        · rcases q2 with f | f
          · exact f.symm
          · have := h1.1 b f
            have := h2.1 a e
            omega
      subst ab
      congr 1
      refine ih l2 h1.2 h2.2 (fun x => ?_)
      constructor
      · intro hx
        have := (h x).mp (by simp [hx])
        rw [List.mem_cons] at this
        rcases this with e | e
        · have := h1.1 x hx
          omega
        · exact e
      · intro hx
        have := (h x).mpr (by simp [hx])
        rw [List.mem_cons] at this
        rcases this with e | e
        · have := h2.1 x hx
          omega
        · exact e
/-- a term -/
def TmP (B : Bd) (a b c : Nat) : Prop := (bi B 0 ≤ a ∧ a ≤ 14) ∧ (bi B 1 ≤ b ∧ b ≤ a) ∧ (bi B 2 ≤ c ∧ c ≤ b) ∧ (a - bi B 0) + (b - bi B 1) + (c - bi B 2) ≤ csum B ∧ tmD B a b c ≤ c ∧ 0 < mul B a b c (tmD B a b c)
def tmT (B : Bd) (a b c : Nat) : Nat × Nat × Nat × Nat × Nat := (a, b, c, tmD B a b c, mul B a b c (tmD B a b c))
theorem tms_eq {B : Bd} (hR : bR B ≠ 0) (h9 : csum B ≤ 9) : tms B = (downL 14 (bi B 0)).flatMap fun a => (downL a (bi B 1)).flatMap fun b => (downL b (bi B 2)).flatMap fun c => if (a - bi B 0) + (b - bi B 1) + (c - bi B 2) ≤ csum B ∧ tmD B a b c ≤ c ∧ 0 < mul B a b c (tmD B a b c) then [(a, b, c, tmD B a b c, mul B a b c (tmD B a b c))] else [] := by
  unfold tms
  rw [if_neg (by omega)]
theorem tms_mem {B : Bd} (hR : bR B ≠ 0) (h9 : csum B ≤ 9) {t : Nat × Nat × Nat × Nat × Nat} : t ∈ tms B ↔ ∃ a b c, TmP B a b c ∧ t = tmT B a b c := by
  rw [tms_eq hR h9]
  simp only [List.mem_flatMap, downL_mem]
  constructor
  · rintro ⟨a, ha, b, hb, c, hc, h⟩
    by_cases q : (a - bi B 0) + (b - bi B 1) + (c - bi B 2) ≤ csum B ∧ tmD B a b c ≤ c ∧ 0 < mul B a b c (tmD B a b c)
    · rw [if_pos q, List.mem_singleton] at h
      exact ⟨a, b, c, ⟨ha, hb, hc, q.1, q.2.1, q.2.2⟩, h⟩
    · rw [if_neg q] at h; cases h
  · rintro ⟨a, b, c, ⟨ha, hb, hc, q⟩, h⟩
    refine ⟨a, ha, b, hb, c, hc, ?_⟩
    rw [if_pos q, List.mem_singleton]
    exact h
theorem mul_gK {B : Bd} (hii : ∀ r, r + 1 < 4 → bi B (r + 1) ≤ bi B r) (h9 : csum B ≤ 9) {a b c : Nat} (ha : bi B 0 ≤ a) (hb : bi B 1 ≤ b ∧ b ≤ a) (hc : bi B 2 ≤ c ∧ c ≤ b) (hs : (a - bi B 0) + (b - bi B 1) + (c - bi B 2) ≤ csum B) (hd : tmD B a b c ≤ c) : mul B a b c (tmD B a b c) = gK (bi B) (bc B) (100 * (a - bi B 0) + 10 * (b - bi B 1) + (c - bi B 2)) := by
  unfold csum at h9
  have hs' := hs
  unfold tmD at hd
  unfold csum at hs hd
  rw [gK_good hii h9 (x3 := bc B 0 + bc B 1 + bc B 2 + bc B 3 - ((a - bi B 0) + (b - bi B 1) + (c - bi B 2))) (by omega) (by omega) (by omega) (by omega)]
  unfold mul tmD csum
  rw [Nat.add_sub_cancel_left]
theorem key_mem {B : Bd} (hR : bR B ≠ 0) (h9 : csum B ≤ 9) (hii : ∀ r, r + 1 < 4 → bi B (r + 1) ≤ bi B r) (hi5 : ∀ r, bi B r ≤ 5) (x : Nat) : x ∈ (tms B).map (tmK B) ↔ (x < 1000 ∧ 0 < gK (bi B) (bc B) x) := by
  rw [List.mem_map]
  constructor
  · rintro ⟨t, ht, e⟩
    obtain ⟨a, b, c, ⟨ha, hb, hc, hs, hd, hm⟩, rfl⟩ := (tms_mem hR h9).mp ht
    rw [mul_gK hii h9 ha.1 hb hc hs hd] at hm
    have e2 : tmK B (tmT B a b c) = 100 * (a - bi B 0) + 10 * (b - bi B 1) + (c - bi B 2) := rfl
    rw [e2] at e
    rw [← e]
    exact ⟨by omega, hm⟩
  · rintro ⟨hx, hg⟩
    obtain ⟨x0, x1, x2, x3, e, s, h1, h2, h3⟩ := gK_bad hii (by unfold csum at h9; exact h9) (show gK (bi B) (bc B) x ≠ 0 by omega)
    have i0 := hi5 0
    have h9' := h9
    unfold csum at h9'
    have e0 : bi B 0 + x0 - bi B 0 = x0 := Nat.add_sub_cancel_left _ _
    have e1 : bi B 1 + x1 - bi B 1 = x1 := Nat.add_sub_cancel_left _ _
    have e2 : bi B 2 + x2 - bi B 2 = x2 := Nat.add_sub_cancel_left _ _
    have hs : (bi B 0 + x0 - bi B 0) + (bi B 1 + x1 - bi B 1) + (bi B 2 + x2 - bi B 2) ≤ csum B := by unfold csum; omega
    have hd : tmD B (bi B 0 + x0) (bi B 1 + x1) (bi B 2 + x2) ≤ bi B 2 + x2 := by unfold tmD csum; omega
    have k : tmK B (tmT B (bi B 0 + x0) (bi B 1 + x1) (bi B 2 + x2)) = x := by
      show 100 * (bi B 0 + x0 - bi B 0) + 10 * (bi B 1 + x1 - bi B 1) + (bi B 2 + x2 - bi B 2) = x
      omega
    refine ⟨tmT B (bi B 0 + x0) (bi B 1 + x1) (bi B 2 + x2), (tms_mem hR h9).mpr ⟨_, _, _, ⟨⟨by omega, by omega⟩, ⟨by omega, by omega⟩, ⟨by omega, by omega⟩, hs, hd, ?_⟩, rfl⟩, k⟩
    rw [mul_gK hii h9 (by omega) ⟨by omega, by omega⟩ ⟨by omega, by omega⟩ hs hd, e0, e1, e2, ← e]
    exact hg
theorem key_pw {B : Bd} (hR : bR B ≠ 0) (h9 : csum B ≤ 9) : ((tms B).map (tmK B)).Pairwise (fun a b => b < a) := by
  rw [List.pairwise_map, tms_eq hR h9, List.pairwise_flatMap]
  refine ⟨fun a ha => ?_, ?_⟩
  · rw [List.pairwise_flatMap]
    refine ⟨fun b hb => ?_, ?_⟩
    · rw [List.pairwise_flatMap]
      refine ⟨fun c hc => ?_, ?_⟩
      · split
        · exact List.pairwise_singleton _ _
        · exact List.Pairwise.nil
      · refine List.Pairwise.imp_of_mem ?_ (downL_pw b (bi B 2))
        intro c c' hc hc' lt x hx y hy
        rw [downL_mem] at hc hc'
        by_cases q : (a - bi B 0) + (b - bi B 1) + (c - bi B 2) ≤ csum B ∧ tmD B a b c ≤ c ∧ 0 < mul B a b c (tmD B a b c)
        · rw [if_pos q, List.mem_singleton] at hx
          by_cases q' : (a - bi B 0) + (b - bi B 1) + (c' - bi B 2) ≤ csum B ∧ tmD B a b c' ≤ c' ∧ 0 < mul B a b c' (tmD B a b c')
          · rw [if_pos q', List.mem_singleton] at hy
            rw [hx, hy]
            show 100 * (a - bi B 0) + 10 * (b - bi B 1) + (c' - bi B 2) < 100 * (a - bi B 0) + 10 * (b - bi B 1) + (c - bi B 2)
            omega
          · rw [if_neg q'] at hy; cases hy
        · rw [if_neg q] at hx; cases hx
    · refine List.Pairwise.imp_of_mem ?_ (downL_pw a (bi B 1))
      intro b b' hb hb' lt x hx y hy
      rw [downL_mem] at hb hb'
      rw [List.mem_flatMap] at hx hy
      obtain ⟨c, hc, hx⟩ := hx
      obtain ⟨c', hc', hy⟩ := hy
      rw [downL_mem] at hc hc'
      by_cases q : (a - bi B 0) + (b - bi B 1) + (c - bi B 2) ≤ csum B ∧ tmD B a b c ≤ c ∧ 0 < mul B a b c (tmD B a b c)
      · rw [if_pos q, List.mem_singleton] at hx
        by_cases q' : (a - bi B 0) + (b' - bi B 1) + (c' - bi B 2) ≤ csum B ∧ tmD B a b' c' ≤ c' ∧ 0 < mul B a b' c' (tmD B a b' c')
        · rw [if_pos q', List.mem_singleton] at hy
          rw [hx, hy]
          show 100 * (a - bi B 0) + 10 * (b' - bi B 1) + (c' - bi B 2) < 100 * (a - bi B 0) + 10 * (b - bi B 1) + (c - bi B 2)
          omega
        · rw [if_neg q'] at hy; cases hy
      · rw [if_neg q] at hx; cases hx
  · refine List.Pairwise.imp_of_mem ?_ (downL_pw 14 (bi B 0))
    intro a a' ha ha' lt x hx y hy
    rw [downL_mem] at ha ha'
    rw [List.mem_flatMap] at hx hy
    obtain ⟨b, hb, hx⟩ := hx
    obtain ⟨b', hb', hy⟩ := hy
    rw [downL_mem] at hb hb'
    rw [List.mem_flatMap] at hx hy
    obtain ⟨c, hc, hx⟩ := hx
    obtain ⟨c', hc', hy⟩ := hy
    rw [downL_mem] at hc hc'
    by_cases q : (a - bi B 0) + (b - bi B 1) + (c - bi B 2) ≤ csum B ∧ tmD B a b c ≤ c ∧ 0 < mul B a b c (tmD B a b c)
    · rw [if_pos q, List.mem_singleton] at hx
      by_cases q' : (a' - bi B 0) + (b' - bi B 1) + (c' - bi B 2) ≤ csum B ∧ tmD B a' b' c' ≤ c' ∧ 0 < mul B a' b' c' (tmD B a' b' c')
      · rw [if_pos q', List.mem_singleton] at hy
        rw [hx, hy]
        show 100 * (a' - bi B 0) + 10 * (b' - bi B 1) + (c' - bi B 2) < 100 * (a - bi B 0) + 10 * (b - bi B 1) + (c - bi B 2)
        omega
      · rw [if_neg q'] at hy; cases hy
    · rw [if_neg q] at hx; cases hx
def KLf (g : Nat → Nat) (n : Nat) : List Nat := (dl 0 n).filter (fun k => decide (0 < g k))
theorem key_list {B : Bd} (hR : bR B ≠ 0) (h9 : csum B ≤ 9) (hii : ∀ r, r + 1 < 4 → bi B (r + 1) ≤ bi B r) (hi5 : ∀ r, bi B r ≤ 5) : KLf (gK (bi B) (bc B)) 1000 = (tms B).map (tmK B) := by
  refine pw_eq _ _ (List.Pairwise.filter _ (dl_pw 0 1000)) (key_pw hR h9) (fun x => ?_)
  rw [key_mem hR h9 hii hi5 x]
  unfold KLf
  rw [List.mem_filter, dl_mem, decide_eq_true_iff]
  omega
theorem k220 : (dl 0 1000).countP (fun k => decide (k / 100 + k / 10 % 10 + k % 10 ≤ 9)) = 220 := by decide +kernel
theorem tms_220 {B : Bd} (hB : BdOK B) : (tms B).length ≤ 220 := by
  by_cases hR : bR B = 0
  · unfold tms; rw [if_pos (Or.inl hR)]; exact Nat.zero_le _
  · by_cases h9 : csum B ≤ 9
    · have hi5 := (BdOK_b hB).2
      have hii : ∀ r, r + 1 < 4 → bi B (r + 1) ≤ bi B r := by
        intro r _
        by_cases q : r + 1 < bR B
        · exact (hB.2.2.2.1 r q).2
        · rw [(hB.2.2.2.2.1 (r + 1) (by omega)).2]; exact Nat.zero_le _
      have e := congrArg List.length (key_list hR h9 hii hi5)
      rw [List.length_map] at e
      rw [← e, ← k220]
      unfold KLf
      rw [← List.countP_eq_length_filter]
      apply List.countP_mono_left
      intro x _ hx
      rw [decide_eq_true_iff] at hx ⊢
      unfold csum at h9
      obtain ⟨x0, x1, x2, x3, e, s, -⟩ := gK_bad hii h9 (show gK (bi B) (bc B) x ≠ 0 by omega)
      have l1 : x1 ≤ 9 := by omega
      have l2 : x2 ≤ 9 := by omega
      have f0 : x / 100 = x0 := by omega
      have f1 : x / 10 = 10 * x0 + x1 := by omega
      have f2 : x % 10 = x2 := by omega
      rw [f0, f1, f2, show (10 * x0 + x1) % 10 = x1 by omega]
      omega
    · unfold tms; rw [if_pos (Or.inr (by omega))]; exact Nat.zero_le _
theorem BdOK_ii {B : Bd} (hB : BdOK B) : ∀ r, r + 1 < 4 → bi B (r + 1) ≤ bi B r := by
  intro r _
  by_cases q : r + 1 < bR B
  · exact (hB.2.2.2.1 r q).2
  · rw [(hB.2.2.2.2.1 (r + 1) (by omega)).2]; exact Nat.zero_le _
