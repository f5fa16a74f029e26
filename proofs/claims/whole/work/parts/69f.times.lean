/-! the reference reads a shape -/
def rdL (i x : Nat → Nat) (n : Nat) (ro co : Nat → Int32) : Prop := ∀ j, j < n → ro j = nI (rrow x j) ∧ co j = nI (rcol i x j)
/-- a shape: lengths that do not increase, not too many boxes -/
def ShOK (i x : Nat → Nat) : Prop := (∀ r, r < 4 → i r + x r ≤ 14) ∧ (∀ r, r + 1 < 4 → i (r + 1) + x (r + 1) ≤ i r + x r) ∧ sx x 4 ≤ 9
theorem rd_in {i x : Nat → Nat} (hS : ShOK i x) {inner : Nat → Int32} (hin : rq_4 inner i) {r : Nat} (hr : r < 4) (k7 : Int32 → Int32 → (Nat → Int32) → (Nat → Int32) → Option (Int32 × (Nat → Int32) × (Nat → Int32) × (Nat → Int32) × (Nat → Int32))) : ∀ (m t n : Nat) (ro co : Nat → Int32), t + m = x r → m < n → rdL i x (sx x r + t) ro co → ∃ ro' co', rdL i x (sx x (r + 1)) ro' co' ∧ fX8_layReading_L21 inner (nI r) k7 n (nI (i r + m) - 1) (nI (sx x r + t)) ro co = k7 (nI (r + 1)) (nI (sx x (r + 1))) ro' co' := by
  have h14 := hS.1 r hr
  have h9 := Nat.le_trans (sx_add (x := x) (show r + 1 ≤ 4 by omega)) hS.2.2
  have sr : sx x (r + 1) = sx x r + x r := rfl
  intro m
  induction m with
  | zero =>
    intro t n ro co h hn hR
    obtain ⟨n, rfl, -⟩ := fuel hn
    have e : t = x r := by omega
    subst e
    refine ⟨ro, co, hR, ?_⟩
    rw [fX8_layReading_L21, rq_get hin hr, Nat.add_zero, if_pos, nI_1, sr]
    by_cases z : i r = 0
    · rw [z]; decide
    · rw [lit_1, nI_sub (by omega)]
      exact nI_lt (by omega) (by omega)
  | succ m ih =>
    intro t n ro co h hn hR
    obtain ⟨n, rfl, hn2⟩ := fuel hn
    obtain ⟨ro', co', g1, g2⟩ := ih (t + 1) n (upd ro (sx x r + t) (nI r)) (upd co (sx x r + t) (nI (i r + m))) (by omega) (by omega) (by
      intro j hj
      by_cases e : j = sx x r + t
      · subst e
        have rr : rrow x (sx x r + t) = r := rrow_of hr (by omega) (by omega)
        rw [pk_us, pk_us, rr]
        refine ⟨rfl, ?_⟩
        unfold rcol
        rw [rr]
        congr 1
        omega
      · rw [pk_un e, pk_un e]; exact hR j (by omega))
    refine ⟨ro', co', g1, ?_⟩
    rw [show i r + (m + 1) = i r + m + 1 from rfl, nI_pred, fX8_layReading_L21, rq_get hin hr, if_neg (nI_nlt (by omega) (by omega)), gd_in (show sx x r + t < 9 by omega) (by decide), nI_clamp (by omega), m1_s, nI_1]
    exact g2
theorem z_often (rb : Int32) (ro co gr : Nat → Int32) : ∀ (m r n : Nat) (of : Nat → Int32), r + m = 5 → m < n → (∀ j, j < r → of j = 0) → ∃ of', (∀ j, j < 5 → of' j = 0) ∧ fX8_layReading_L96 rb ro co gr n (nI r) of = some (rb, ro, co, gr, of') := by
  intro m
  induction m with
  | zero =>
    intro r n of h hn hz
    obtain ⟨n, rfl, -⟩ := fuel hn
    have e : r = 5 := by omega
    subst e
    exact ⟨of, hz, by rw [fX8_layReading_L96, if_pos (by decide)]⟩
  | succ m ih =>
    intro r n of h hn hz
    obtain ⟨n, rfl, h2⟩ := fuel hn
    obtain ⟨of', a, b⟩ := ih (r + 1) n (upd of r 0) (by omega) (by omega) (fun j hj => by
      by_cases e : j = r
      · rw [e, pk_us]
      · rw [pk_un e]; exact hz j (by omega))
    refine ⟨of', a, ?_⟩
    rw [fX8_layReading_L96, if_neg (show ¬ 5 ≤ nI r from nI_ge (b := 5) (by omega) (by decide)), gd_in (show r < 5 by omega) (by decide), nI_1, nI_clamp (by omega)]
    exact b
theorem z_grid (rb : Int32) (ro co of : Nat → Int32) : ∀ (m r n : Nat) (gr : Nat → Int32), r + m = 60 → m < n → (∀ j, j < r → gr j = 0) → ∃ gr' of', (∀ j, j < 60 → gr' j = 0) ∧ (∀ j, j < 5 → of' j = 0) ∧ fX8_layReading_L75 of rb ro co n (nI r) gr = some (rb, ro, co, gr', of') := by
  intro m
  induction m with
  | zero =>
    intro r n gr h hn hz
    obtain ⟨n, rfl, -⟩ := fuel hn
    have e : r = 60 := by omega
    subst e
    obtain ⟨of', a, b⟩ := z_often rb ro co gr 5 0 fu of (by omega) (by unfold fu; omega) (fun j h => absurd h (Nat.not_lt_zero j))
    exact ⟨gr, of', hz, a, by rw [fX8_layReading_L75, if_pos (by decide)]; exact b⟩
  | succ m ih =>
    intro r n gr h hn hz
    obtain ⟨n, rfl, h2⟩ := fuel hn
    obtain ⟨gr', of', a, a2, b⟩ := ih (r + 1) n (upd gr r 0) (by omega) (by omega) (fun j hj => by
      by_cases e : j = r
      · rw [e, pk_us]
      · rw [pk_un e]; exact hz j (by omega))
    refine ⟨gr', of', a, a2, ?_⟩
    rw [fX8_layReading_L75, if_neg (show ¬ 60 ≤ nI r from nI_ge (b := 60) (by omega) (by decide)), gd_in (show r < 60 by omega) (by decide), nI_1, nI_clamp (by omega)]
    exact b
theorem f_layReading {i x : Nat → Nat} (hS : ShOK i x) {inner shape : Nat → Int32} (hin : rq_4 inner i) (hsh : rq_4 shape (fun r => i r + x r)) (ro co gr of : Nat → Int32) : ∃ ro' co' gr' of', rdL i x (sx x 4) ro' co' ∧ (∀ j, j < 60 → gr' j = 0) ∧ (∀ j, j < 5 → of' j = 0) ∧ fX8_layReading inner shape ro co gr of = some (nI (sx x 4), ro', co', gr', of') := by
  have L : ∀ (m r n : Nat) (ro co : Nat → Int32), r + m = 4 → m < n → rdL i x (sx x r) ro co → ∃ ro' co' gr' of', rdL i x (sx x 4) ro' co' ∧ (∀ j, j < 60 → gr' j = 0) ∧ (∀ j, j < 5 → of' j = 0) ∧ fX8_layReading_L7 inner shape gr of n (nI r) (nI (sx x r)) ro co = some (nI (sx x 4), ro', co', gr', of') := by
    intro m
    induction m with
    | zero =>
      intro r n ro co h hn hR
      obtain ⟨n, rfl, -⟩ := fuel hn
      have e : r = 4 := by omega
      subst e
      obtain ⟨gr', of', a, a2, b⟩ := z_grid (nI (sx x 4)) ro co of 60 0 fu gr (by omega) (by unfold fu; omega) (fun j h => absurd h (Nat.not_lt_zero j))
      exact ⟨ro, co, gr', of', hR, a, a2, by rw [fX8_layReading_L7, if_pos (by decide)]; exact b⟩
    | succ m ih =>
      intro r n ro co h hn hR
      obtain ⟨n, rfl, h2⟩ := fuel hn
      have x9 : x r ≤ 9 := by
        have := sx_add (x := x) (show r + 1 ≤ 4 by omega)
        have := hS.2.2
        have : sx x (r + 1) = sx x r + x r := rfl
        omega
      obtain ⟨ro1, co1, g1, g2⟩ := rd_in hS hin (show r < 4 by omega) (fX8_layReading_L7 inner shape gr of n) (x r) 0 fu ro co (by omega) (by unfold fu; omega) hR
      obtain ⟨ro', co', gr', of', k1, k2, k3, k4⟩ := ih (r + 1) n ro1 co1 (by omega) (by omega) g1
      refine ⟨ro', co', gr', of', k1, k2, k3, ?_⟩
      rw [fX8_layReading_L7, if_neg (show ¬ 4 ≤ nI r from nI_ge (b := 4) (by omega) (by decide)), gd_in (show r < 4 by omega) (by decide), rq_get hsh (show r < 4 by omega)]
      exact g2.trans k4
  exact L 4 0 fu ro co (by omega) (by unfold fu; omega) (fun j h => absurd h (Nat.not_lt_zero j))
/-- a box's cell -/
def cel (i x : Nat → Nat) (k : Nat) : Nat := 15 * rrow x k + rcol i x k
theorem rr_b {x : Nat → Nat} {j : Nat} (h : j < sx x 4) : rrow x j < 4 ∧ sx x (rrow x j) ≤ j ∧ j < sx x (rrow x j + 1) := by
  have s0 : sx x 0 = 0 := rfl
  unfold rrow
  by_cases q1 : j < sx x 1
  · rw [if_pos q1]; exact ⟨by decide, by omega, q1⟩
  · rw [if_neg q1]
    by_cases q2 : j < sx x 2
    · rw [if_pos q2]; exact ⟨by decide, by omega, q2⟩
    · rw [if_neg q2]
      by_cases q3 : j < sx x 3
      · rw [if_pos q3]; exact ⟨by decide, by omega, q3⟩
      · rw [if_neg q3]; exact ⟨by decide, by omega, h⟩
theorem rc_b {i x : Nat → Nat} {j : Nat} (h : j < sx x 4) : i (rrow x j) ≤ rcol i x j ∧ rcol i x j < i (rrow x j) + x (rrow x j) ∧ rcol i x j + (j - sx x (rrow x j)) + 1 = i (rrow x j) + x (rrow x j) := by
  obtain ⟨a, b, c⟩ := rr_b h
  have : sx x (rrow x j + 1) = sx x (rrow x j) + x (rrow x j) := rfl
  unfold rcol
  omega
theorem cel_lt {i x : Nat → Nat} (hS : ShOK i x) {j : Nat} (h : j < sx x 4) : cel i x j < 60 := by
  obtain ⟨a, b, c⟩ := rr_b h
  obtain ⟨d, e, f⟩ := rc_b (i := i) h
  have := hS.1 _ a
  unfold cel
  omega
theorem cel_inj {i x : Nat → Nat} (hS : ShOK i x) {j j' : Nat} (h : j < sx x 4) (h' : j' < sx x 4) (e : cel i x j = cel i x j') : j = j' := by
  obtain ⟨a, b, c⟩ := rr_b h
  obtain ⟨d, f, g⟩ := rc_b (i := i) h
  obtain ⟨a', b', c'⟩ := rr_b h'
  obtain ⟨d', f', g'⟩ := rc_b (i := i) h'
  have k1 := hS.1 _ a
  have k2 := hS.1 _ a'
  unfold cel at e
  have er : rrow x j = rrow x j' := by omega
  rw [er] at b f g e
  omega
theorem f_cellAt {i x : Nat → Nat} (hS : ShOK i x) {ro co : Nat → Int32} (hR : rdL i x (sx x 4) ro co) {k : Nat} (hk : k < sx x 4) : fX8_cellAt (nI k) ro co = some (nI (cel i x k)) := by
  have h9 := hS.2.2
  unfold fX8_cellAt cel
  rw [gd_in (show k < 9 by omega) (by decide), nI_clamp (by omega), (hR k hk).1, (hR k hk).2, show (15 : Int32) = nI 15 from rfl, nI_mul, nI_add]
def GF (i x : Nat → Nat) (f : Nat → Nat) (grid : Nat → Int32) : Prop := (∀ j, j < sx x 4 → grid (cel i x j) = nI (f j)) ∧ ∀ m, m < 60 → (∀ j, j < sx x 4 → m ≠ cel i x j) → grid m = 0
theorem GF_congr {i x f g : Nat → Nat} {grid : Nat → Int32} (h : GF i x f grid) (e : ∀ j, j < sx x 4 → f j = g j) : GF i x g grid := ⟨fun j hj => by rw [h.1 j hj, e j hj], h.2⟩
theorem GF_upd {i x f : Nat → Nat} (hS : ShOK i x) {grid : Nat → Int32} (h : GF i x f grid) {k : Nat} (hk : k < sx x 4) (v : Nat) : GF i x (updN f k v) (upd grid (cel i x k) (nI v)) := by
  refine ⟨fun j hj => ?_, fun m hm hn => ?_⟩
  · by_cases e : j = k
    · rw [e, pk_us, updN_eq]
    · rw [pk_un (fun q => e (cel_inj hS hj hk q)), updN_ne e]; exact h.1 j hj
  · rw [pk_un (hn k hk)]; exact h.2 m hm hn
theorem okV_iff {i c x : Nat → Nat} {p : List Nat} {v : Nat} : okV i c x p v = true ↔ (cq p v p.length + 1 ≤ c (v - 1) ∧ (v = 1 ∨ cq p v p.length < cq p (v - 1) p.length)) ∧ ((p.length = sx x (rrow x p.length) ∨ v ≤ p.getD (p.length - 1) 0) ∧ ((rrow x p.length = 0 ∨ rcol i x p.length < i (rrow x p.length - 1)) ∨ p.getD (rabv i x p.length) 0 < v)) := by
  unfold okV
  simp only [Bool.and_eq_true, Bool.or_eq_true, decide_eq_true_eq]
  constructor
  · rintro ⟨⟨⟨a, b⟩, c⟩, d⟩; exact ⟨⟨a, b⟩, c, d⟩
  · rintro ⟨⟨a, b⟩, c, d⟩; exact ⟨⟨⟨a, b⟩, c⟩, d⟩
def ofI (p : List Nat) (often : Nat → Int32) : Prop := ∀ v, 1 ≤ v → v ≤ 4 → often v = nI (cq p v p.length)
theorem cq_len (p : List Nat) (v : Nat) : ∀ k, cq p v k ≤ k := fun k => by
  induction k with
  | zero => exact Nat.le_refl _
  | succ k ih => rw [cq]; split <;> omega
theorem mc_0 (ro grid : Nat → Int32) (a b r e : Int32) : fX8_mayCome_J79 ro grid a b r 0 e = some 0 := by
  unfold fX8_mayCome_J79
  rw [if_pos rfl]
  unfold fX8_mayCome_J107 fX8_mayCome_J108
  rw [if_pos rfl]
  rfl
theorem mc_108 (ro grid : Nat → Int32) (a b r : Int32) : fX8_mayCome_J108 ro grid a b r 0 = some 0 := by
  unfold fX8_mayCome_J108
  rw [if_pos rfl]
  rfl
theorem f_mayCome {i c x : Nat → Nat} (hS : ShOK i x) (hc9 : ∀ r, c r ≤ 9) {content shape ro co grid often : Nat → Int32} (hc : rq_4 content c) (hsh : rq_4 shape (fun r => i r + x r)) (hR : rdL i x (sx x 4) ro co) {p : List Nat} (hp : p.length < sx x 4) (hv : ∀ y ∈ p, 1 ≤ y ∧ y ≤ 4) {f : Nat → Nat} (hG : GF i x f grid) (hf : ∀ j, j < p.length → f j = p.getD j 0) (ho : ofI p often) {v : Nat} (v1 : 1 ≤ v) (v4 : v ≤ 4) : fX8_mayCome (nI p.length) (nI v) content shape ro co grid often = some (if okV i c x p v = true then 1 else 0) := by
  have h9 := hS.2.2
  have hk := hp
  obtain ⟨r4, b1, b2⟩ := rr_b hp
  obtain ⟨c1, c2, c3⟩ := rc_b (i := i) hp
  have k14 := hS.1 _ r4
  have cl := cel_lt hS hp
  have hcl : cel i x p.length = 15 * rrow x p.length + rcol i x p.length := rfl
  have p1 : ∀ j, j < p.length → 1 ≤ p.getD j 0 := by
    intro j hj
    rw [List.getD_eq_getElem?_getD, List.getElem?_eq_getElem hj]
    exact (hv _ (List.getElem_mem hj)).1
  have p5 : ∀ j, p.getD j 0 < 5 := getD_lt5 hv
  -- the rest of the test, when the number may be there
  have T : fX8_mayCome_J50 shape ro co grid (nI p.length) (nI v) (nI (cel i x p.length)) 1 = some (if (p.length = sx x (rrow x p.length) ∨ v ≤ p.getD (p.length - 1) 0) ∧ ((rrow x p.length = 0 ∨ rcol i x p.length < i (rrow x p.length - 1)) ∨ p.getD (rabv i x p.length) 0 < v) then 1 else 0) := by
    have U : fX8_mayCome_J108 ro grid (nI p.length) (nI v) (nI (cel i x p.length)) 1 = some (if (rrow x p.length = 0 ∨ rcol i x p.length < i (rrow x p.length - 1)) ∨ p.getD (rabv i x p.length) 0 < v then 1 else 0) := by
      unfold fX8_mayCome_J108 fX8_mayCome_J149 fX8_mayCome_J153
      rw [if_neg (by decide), nI_clamp (show p.length < 2 ^ 31 by omega), (hR _ hp).1]
      by_cases z : rrow x p.length = 0
      · rw [if_pos (by rw [z]; rfl), if_pos (Or.inl (Or.inl z))]; rfl
      · rw [if_neg (nI_ne0 (by omega) (by omega)), show (15 : Int32) = nI 15 from rfl, nI_sub (by omega), gd_in (show cel i x p.length - 15 < 60 by omega) (by decide), nI_clamp (by omega)]
        have hpart := hS.2.1 (rrow x p.length - 1) (by omega)
        rw [show rrow x p.length - 1 + 1 = rrow x p.length by omega] at hpart
        have sxr : sx x (rrow x p.length) = sx x (rrow x p.length - 1) + x (rrow x p.length - 1) := by
          have : sx x (rrow x p.length - 1 + 1) = sx x (rrow x p.length - 1) + x (rrow x p.length - 1) := rfl
          rwa [show rrow x p.length - 1 + 1 = rrow x p.length by omega] at this
        by_cases q : rcol i x p.length < i (rrow x p.length - 1)
        · have g0 : grid (cel i x p.length - 15) = 0 := by
            refine hG.2 _ (by omega) (fun j hj e => ?_)
            obtain ⟨a', b', c'⟩ := rr_b hj
            obtain ⟨d', f', g'⟩ := rc_b (i := i) hj
            have k2 := hS.1 _ a'
            unfold cel at e
            have er : rrow x j = rrow x p.length - 1 := by omega
            rw [er] at d' e
            omega
          rw [g0, if_pos rfl, if_pos (Or.inl (Or.inr q))]; rfl
        · have j0 : rabv i x p.length < sx x (rrow x p.length) := by
            unfold rabv
            omega
          have j1 : sx x (rrow x p.length - 1) ≤ rabv i x p.length := by
            unfold rabv
            omega
          have e1 : rrow x (rabv i x p.length) = rrow x p.length - 1 := rrow_of (by omega) j1 (by rw [show rrow x p.length - 1 + 1 = rrow x p.length by omega]; exact j0)
          have jn : rabv i x p.length < sx x 4 := by omega
          have e2 : rcol i x (rabv i x p.length) = rcol i x p.length := by
            obtain ⟨-, -, w⟩ := rc_b (i := i) jn
            rw [e1] at w
            unfold rabv at w j0 j1 ⊢
            omega
          have e3 : cel i x p.length - 15 = cel i x (rabv i x p.length) := by
            unfold cel
            rw [e1, e2]
            omega
          have y1 := p1 (rabv i x p.length) (by omega)
          have y5 := p5 (rabv i x p.length)
          rw [e3, hG.1 _ jn, hf _ (by omega), if_neg (nI_ne0 (by omega) (by omega))]
          by_cases w : p.getD (rabv i x p.length) 0 < v
          · rw [if_neg (nI_ge w (by omega)), if_pos (Or.inr w)]; rfl
          · rw [if_pos (nI_le (by omega) (by omega)), if_neg (by omega)]; rfl
    unfold fX8_mayCome_J50
    rw [gd_in (show p.length < 9 by omega) (by decide), nI_clamp (show p.length < 2 ^ 31 by omega), (hR _ hp).1, (hR _ hp).2, gd_in r4 (by decide), rq_get hsh r4, show nI (i (rrow x p.length) + x (rrow x p.length)) - 1 = nI (i (rrow x p.length) + x (rrow x p.length) - 1) by rw [lit_1, nI_sub (by omega)]]
    unfold fX8_mayCome_J79 fX8_mayCome_J107 fX8_mayCome_J103
    rw [if_neg (show ¬ (1 : Int32) = 0 by decide)]
    by_cases q : p.length = sx x (rrow x p.length)
    · rw [if_pos (show nI (rcol i x p.length) = nI (i (rrow x p.length) + x (rrow x p.length) - 1) by congr 1; omega), if_neg (show ¬ (1 : Int32) = 0 by decide)]
      refine U.trans ?_
      congr 1
      by_cases w : (rrow x p.length = 0 ∨ rcol i x p.length < i (rrow x p.length - 1)) ∨ p.getD (rabv i x p.length) 0 < v
      · rw [if_pos w, if_pos ⟨Or.inl q, w⟩]
      · rw [if_neg w, if_neg (fun h => w h.2)]
    · have e1 : rrow x (p.length - 1) = rrow x p.length := rrow_of r4 (by omega) (by omega)
      have jn : p.length - 1 < sx x 4 := by omega
      have e2 : rcol i x (p.length - 1) = rcol i x p.length + 1 := by
        obtain ⟨-, -, w⟩ := rc_b (i := i) jn
        rw [e1] at w
        omega
      have e3 : cel i x p.length + 1 = cel i x (p.length - 1) := by
        unfold cel
        rw [e1, e2]
        omega
      have cl2 := cel_lt hS jn
      have y5 := p5 (p.length - 1)
      rw [if_neg (show ¬ nI (rcol i x p.length) = nI (i (rrow x p.length) + x (rrow x p.length) - 1) from fun e => by
        have := (nI_eq (by omega) (by omega)).mp e
        omega), if_pos rfl, nI_1, e3, gd_in cl2 (by decide), nI_clamp (by omega), hG.1 _ jn, hf _ (by omega)]
      by_cases w2 : v ≤ p.getD (p.length - 1) 0
      · rw [if_neg (nI_nlt w2 (by omega))]
        refine U.trans ?_
        congr 1
        by_cases w : (rrow x p.length = 0 ∨ rcol i x p.length < i (rrow x p.length - 1)) ∨ p.getD (rabv i x p.length) 0 < v
        · rw [if_pos w, if_pos ⟨Or.inr w2, w⟩]
        · rw [if_neg w, if_neg (fun h => w h.2)]
      · rw [if_pos (nI_lt (by omega) (by omega)), mc_108, if_neg (fun h => by omega)]
  have T0 : fX8_mayCome_J50 shape ro co grid (nI p.length) (nI v) (nI (cel i x p.length)) 0 = some 0 := by
    unfold fX8_mayCome_J50
    rw [gd_in (show p.length < 9 by omega) (by decide), nI_clamp (show p.length < 2 ^ 31 by omega), (hR _ hp).1, gd_in r4 (by decide), mc_0]
  have cb := hc9 (v - 1)
  have q1 := cq_len p v p.length
  have q2 := cq_len p (v - 1) p.length
  unfold fX8_mayCome fX8_mayCome_J49 fX8_mayCome_J45
  rw [f_cellAt hS hR hp, bd_s, gd_in (show v < 5 by omega) (by decide), show nI v - 1 = nI (v - 1) by rw [lit_1, nI_sub v1], gd_in (show v - 1 < 4 by omega) (by decide), rq_get hc (show v - 1 < 4 by omega), nI_clamp (show v < 2 ^ 31 by omega), ho v v1 v4, T, T0]
  by_cases w1 : cq p v p.length + 1 ≤ c (v - 1)
  · rw [if_neg (nI_ge (by omega) (by omega))]
    by_cases w2 : v = 1
    · rw [if_pos (show nI v = 1 by rw [w2]; rfl)]
      congr 1
      by_cases w : okV i c x p v = true
      · rw [if_pos w, if_pos (okV_iff.mp w).2]
      · rw [if_neg w, if_neg (fun h => w (okV_iff.mpr ⟨⟨w1, Or.inl w2⟩, h⟩))]
    · rw [if_neg (show ¬ nI v = 1 from fun e => w2 ((nI_eq (b := 1) (by omega) (by decide)).mp e)), gd_in (show v - 1 < 5 by omega) (by decide), nI_clamp (by omega), ho (v - 1) (by omega) (by omega)]
      by_cases w3 : cq p v p.length < cq p (v - 1) p.length
      · rw [if_neg (nI_ge w3 (by omega))]
        congr 1
        by_cases w : okV i c x p v = true
        · rw [if_pos w, if_pos (okV_iff.mp w).2]
        · rw [if_neg w, if_neg (fun h => w (okV_iff.mpr ⟨⟨w1, Or.inr w3⟩, h⟩))]
      · rw [if_pos (nI_le (by omega) (by omega)), if_neg (fun h => by
          have := (okV_iff.mp h).1.2
          omega)]
  · rw [if_pos (nI_le (by omega) (by omega)), if_neg (fun h => w1 (okV_iff.mp h).1.1)]
