/-! the reference's checksum -/
theorem rM_45 {B : Bd} (hB : BdOK B) {inner ro : Nat → Int32} (l1 : agr ro (rowsL B (bR B))) (b2 : rq_4 inner (bi B)) {w : List Nat} (hf : full B w) {nw : Nat → Int32} (ha : agr nw w) (lf : Nat → Int32) (bx : Int32) {i : Nat} (hi : i ≤ bR B) (h0 : Int64) (k35 : Int32 → Int64 → Option ((Nat → Int32) × (Nat → Int32) × Int32 × Int32 × Int32 × Int64)) : ∀ (m j n : Nat), j + m = 5 → m < n → fX8_mixWay_L45 inner (nI (nbx B)) ro (1, nw, lf, bx, 1, nI (fls B).length) (nI i) k35 n (nI j) (md (hvF B w i) j h0) = k35 (nI (i + 1)) (md (hvF B w i) 5 h0) := by
  intro m
  induction m with
  | zero =>
    intro j n h hn
    obtain ⟨n, rfl, -⟩ := fuel hn
    have e : j = 5 := by omega
    subst e
    rw [fX8_mixWay_L45, if_pos (by decide), nI_1]
  | succ m ih =>
    intro j n h hn
    obtain ⟨n, rfl, hn2⟩ := fuel hn
    rw [fX8_mixWay_L45, if_neg (show ¬ 4 < nI j from nI_nlt (a := 4) (by omega) (by decide))]
    dsimp only
    rw [f_hiveNow hB l1 b2 hf ha hi (show j ≤ 4 by omega), bd_s, mM, bd_s, nI_1]
    exact ih (j + 1) n (by omega) (by omega)
theorem rM_35 {B : Bd} (hB : BdOK B) {inner ro : Nat → Int32} (l1 : agr ro (rowsL B (bR B))) (b2 : rq_4 inner (bi B)) {w : List Nat} (hf : full B w) {nw : Nat → Int32} (ha : agr nw w) (lf : Nat → Int32) (bx : Int32) (h0 : Int64) : ∀ (m i n : Nat), i + m = bR B + 1 → m < n → fX8_mixWay_L35 (nI (bR B)) inner (nI (nbx B)) ro (1, nw, lf, bx, 1, nI (fls B).length) n (nI i) (mh B w i h0) = some (nw, lf, bx, 1, nI (fls B).length, mh B w (bR B + 1) h0) := by
  have h4 := hB.2.1
  intro m
  induction m with
  | zero =>
    intro i n h hn
    obtain ⟨n, rfl, -⟩ := fuel hn
    have e : i = bR B + 1 := by omega
    subst e
    rw [fX8_mixWay_L35, if_pos (nI_lt (by omega) (by omega))]
  | succ m ih =>
    intro i n h hn
    obtain ⟨n, rfl, hn2⟩ := fuel hn
    rw [fX8_mixWay_L35, if_neg (nI_nlt (show i ≤ bR B by omega) (by omega))]
    exact (rM_45 hB l1 b2 hf ha lf bx (show i ≤ bR B by omega) (mh B w i h0) _ 5 0 fu (by omega) (by unfold fu; omega)).trans (ih (i + 1) n (by omega) (by omega))
theorem rM_8 {B : Bd} (hB : BdOK B) {inner ro : Nat → Int32} (l1 : agr ro (rowsL B (bR B))) (b2 : rq_4 inner (bi B)) {w : List Nat} (hf : full B w) {nw : Nat → Int32} (ha : agr nw w) (lf : Nat → Int32) (bx : Int32) (h0 : Int64) : ∀ (m b n : Nat), b + m = nbx B → m < n → fX8_mixWay_L8 (nI (bR B)) inner (nI (nbx B)) ro (1, nw, lf, bx, 1, nI (fls B).length) n (nI b) (md (wdF w) b h0) = some (nw, lf, bx, 1, nI (fls B).length, mw B w h0) := by
  have n9 := hB.2.2.2.2.2.2.1
  have h4 := hB.2.1
  intro m
  induction m with
  | zero =>
    intro b n h hn
    obtain ⟨n, rfl, -⟩ := fuel hn
    have e : b = nbx B := by omega
    rw [fX8_mixWay_L8, e, if_pos (nI_le (Nat.le_refl _) (by omega))]
    exact rM_35 hB l1 b2 hf ha lf bx (md (wdF w) (nbx B) h0) (bR B + 1) 0 fu (by omega) (by unfold fu; omega)
  | succ m ih =>
    intro b n h hn
    obtain ⟨n, rfl, hn2⟩ := fuel hn
    rw [fX8_mixWay_L8, if_neg (nI_ge (show b < nbx B by omega) (by omega)), gd_in (show b < 9 by omega) (by decide), mM, bd_s, nI_1]
    dsimp only
    rw [nI_clamp (by omega), ha b (by rw [hf.1]; omega)]
    exact ih (b + 1) n (by omega) (by omega)
theorem f_mixWay {B : Bd} (hB : BdOK B) (hR : bR B ≠ 0) {inner content ro co : Nat → Int32} (l1 : agr ro (rowsL B (bR B))) (l2 : agr co (colsL B (bR B))) (b2 : rq_4 inner (bi B)) (b3 : rq_4 content (bc B)) {k : Nat} (hk : k < (fls B).length) (h0 : Int64) (s : TC5) (hs : CCr B s) : ∃ s', CCr B s' ∧ fX8_mixWay (nI k) (nI (bK B)) (nI (bR B)) inner content (nI (nbx B)) ro co s.1 s.2.1 s.2.2.1 s.2.2.2.1 s.2.2.2.2 h0 = some (s'.1, s'.2.1, s'.2.2.1, s'.2.2.2.1, s'.2.2.2.2, mw B ((fls B).getD k []) h0) := by
  have n9 := hB.2.2.2.2.2.2.1
  have b4 := fls_400 hB
  unfold fX8_mixWay
  rcases f_find hB hR l1 l2 b3 s.1 s.2.1 s.2.2.1 s.2.2.2.1 s.2.2.2.2 hs (nI k) with ⟨nw, lf, bx, hp, -⟩ | ⟨q, nw, lf, bx, e, hq, ha, ef⟩
  · exfalso
    rcases hp with hp | hp
    · exact nI_pos (by omega) hp
    · exact nI_ge hk (by omega) hp
  · have e2 := (nI_eq (by omega) (by omega)).mp e
    subst e2
    refine ⟨(nw, lf, bx, 1, nI (fls B).length), Or.inr ⟨rfl, rfl⟩, ?_⟩
    rw [ef, bd_s]
    exact rM_8 hB l1 b2 (fls_at hk) ha lf bx h0 (nbx B) 0 fu (by omega) (by unfold fu; omega)
theorem rM_51 {B : Bd} (hB : BdOK B) (hR : bR B ≠ 0) {inner content ro co : Nat → Int32} (l1 : agr ro (rowsL B (bR B))) (l2 : agr co (colsL B (bR B))) (b2 : rq_4 inner (bi B)) (b3 : rq_4 content (bc B)) (h0 : Int64) (k75 : (Nat → Int32) → (Nat → Int32) → Int32 → Int32 → Int32 → Int64 → Option ((Nat → Int32) × (Nat → Int32) × Int32 × Int32 × Int32 × Int32 × Int32 × (Nat → Int32) × (Nat → Int32) × Int32 × (Nat → Int32) × (Nat → Int32) × (Nat → Int32) × (Nat → Int32) × Int64)) : ∀ (m k n : Nat) (s : TC5), k + m = cap3 B → m < n → CCr B s → ∃ s', CCr B s' ∧ fX8_mixBoard_L51 (nI (bK B)) (nI (bR B)) inner content (nI (nbx B)) ro co k75 n (nI k) s.1 s.2.1 s.2.2.1 s.2.2.2.1 s.2.2.2.2 (mfw B k h0) = k75 s'.1 s'.2.1 s'.2.2.1 s'.2.2.2.1 s'.2.2.2.2 (mfw B (cap3 B) h0) := by
  have n9 := hB.2.2.2.2.2.2.1
  have b4 := fls_400 hB
  intro m
  induction m with
  | zero =>
    intro k n s h hn hs
    obtain ⟨n, rfl, -⟩ := fuel hn
    have e : k = cap3 B := by omega
    subst e
    by_cases q : (fls B).length < 3
    · have ec : cap3 B = (fls B).length := by unfold cap3; rw [if_pos q]
      obtain ⟨nw, lf, bx, ew⟩ := f_ways hB hR l1 l2 b3 s.1 s.2.1 s.2.2.1 s.2.2.2.1 s.2.2.2.2 hs
      refine ⟨(nw, lf, bx, 1, nI (fls B).length), Or.inr ⟨rfl, rfl⟩, ?_⟩
      rw [fX8_mixBoard_L51, if_neg (show ¬ 3 ≤ nI (cap3 B) from nI_ge (b := 3) (by omega) (by decide)), ew, bd_s]
      dsimp only
      rw [if_pos (nI_le (by omega) (by omega))]
    · have ec : cap3 B = 3 := by unfold cap3; rw [if_neg q]
      refine ⟨s, hs, ?_⟩
      rw [fX8_mixBoard_L51, if_pos (show 3 ≤ nI (cap3 B) by rw [ec]; decide)]
  | succ m ih =>
    intro k n s h hn hs
    obtain ⟨n, rfl, hn2⟩ := fuel hn
    have hk : k < (fls B).length ∧ k < 3 := by
      unfold cap3 at h
      by_cases q : (fls B).length < 3
      · rw [if_pos q] at h; omega
      · rw [if_neg q] at h; omega
    obtain ⟨nw, lf, bx, ew⟩ := f_ways hB hR l1 l2 b3 s.1 s.2.1 s.2.2.1 s.2.2.2.1 s.2.2.2.2 hs
    obtain ⟨s1, g1, e1⟩ := f_mixWay hB hR l1 l2 b2 b3 hk.1 (mfw B k h0) (nw, lf, bx, 1, nI (fls B).length) (Or.inr ⟨rfl, rfl⟩)
    obtain ⟨s', g2, e2⟩ := ih (k + 1) n s1 (by omega) (by omega) g1
    refine ⟨s', g2, ?_⟩
    rw [fX8_mixBoard_L51, if_neg (show ¬ 3 ≤ nI k from nI_ge (b := 3) hk.2 (by decide)), ew, bd_s]
    dsimp only
    dsimp only at e1
    rw [if_neg (nI_ge hk.1 (by omega)), e1, bd_s, nI_1]
    exact e2
theorem md_c {f g : Nat → Int32} (h0 : Int64) : ∀ n, (∀ k, k < n → f k = g k) → md f n h0 = md g n h0 := by
  intro n
  induction n with
  | zero => intro _; rfl
  | succ n ih => intro h; rw [md, md, ih (fun k hk => h k (by omega)), h n (by omega)]
theorem md_mt {B : Bd} {term : Nat → Int32} (hT : TeI B (nI (tms B).length) term) (h0 : Int64) : ∀ t, t ≤ (tms B).length → md term (5 * t) h0 = mt B t h0 := by
  intro t
  induction t with
  | zero => intro _; rfl
  | succ t ih =>
    intro ht
    have e : md term (5 * t + 5) h0 = md (fun j => term (5 * t + j)) 5 (md term (5 * t) h0) := rfl
    rw [show 5 * (t + 1) = 5 * t + 5 by omega, e, ih (by omega), mt]
    exact md_c _ 5 (fun k hk => hT.2 t (by omega) k hk)
theorem rM_75 {B : Bd} (hB : BdOK B) (hR : bR B ≠ 0) {inner content : Nat → Int32} (b2 : rq_4 inner (bi B)) (b3 : rq_4 content (bc B)) (h0 : Int64) (t : TT9) (ht : CTr B t) (s : TC5) (hs : CCr B s) : ∃ s', CMr B s' ∧ fX8_mixBoard_J75 inner content t.1 t.2.1 t.2.2.1 t.2.2.2.1 t.2.2.2.2.1 t.2.2.2.2.2.1 t.2.2.2.2.2.2.1 t.2.2.2.2.2.2.2.1 t.2.2.2.2.2.2.2.2 s.1 s.2.1 s.2.2.1 s.2.2.2.1 s.2.2.2.2 h0 = some (s'.1, s'.2.1, s'.2.2.1, s'.2.2.2.1, s'.2.2.2.2.1, s'.2.2.2.2.2.1, s'.2.2.2.2.2.2.1, s'.2.2.2.2.2.2.2.1, s'.2.2.2.2.2.2.2.2.1, s'.2.2.2.2.2.2.2.2.2.1, s'.2.2.2.2.2.2.2.2.2.2.1, s'.2.2.2.2.2.2.2.2.2.2.2.1, s'.2.2.2.2.2.2.2.2.2.2.2.2.1, s'.2.2.2.2.2.2.2.2.2.2.2.2.2, mt B (tms B).length h0) := by
  have k2 := tms_220 hB
  obtain ⟨t', s', rb', ro', co', gr', of', hT, eT⟩ := f_layTerms hB hR b2 b3 ht t.2.2.2.1 t.2.2.2.2.1 t.2.2.2.2.2.1 t.2.2.2.2.2.2.1 t.2.2.2.2.2.2.2.1 t.2.2.2.2.2.2.2.2
  refine ⟨(s.1, s.2.1, s.2.2.1, s.2.2.2.1, s.2.2.2.2, 1, nI (tms B).length, t', s', rb', ro', co', gr', of'), ⟨hs, Or.inr ⟨rfl, hT⟩⟩, ?_⟩
  have L : ∀ (m k n : Nat), k + m = 5 * (tms B).length → m < n → fX8_mixBoard_L81 s.1 s.2.1 s.2.2.1 s.2.2.2.1 s.2.2.2.2 (1, nI (tms B).length, t', s', rb', ro', co', gr', of') n (nI k) (md t' k h0) = some (s.1, s.2.1, s.2.2.1, s.2.2.2.1, s.2.2.2.2, 1, nI (tms B).length, t', s', rb', ro', co', gr', of', md t' (5 * (tms B).length) h0) := by
    intro m
    induction m with
    | zero =>
      intro k n h hn
      obtain ⟨n, rfl, -⟩ := fuel hn
      have e : k = 5 * (tms B).length := by omega
      rw [e, fX8_mixBoard_L81]
      dsimp only
      rw [lit_5, nI_mul, if_pos (nI_le (Nat.le_refl _) (by omega))]
    | succ m ih =>
      intro k n h hn
      obtain ⟨n, rfl, hn2⟩ := fuel hn
      rw [fX8_mixBoard_L81]
      dsimp only
      rw [lit_5, nI_mul, if_neg (nI_ge (show k < 5 * (tms B).length by omega) (by omega)), gd_in (show k < 1500 by omega) (by decide), mM, bd_s, nI_1, nI_clamp (by omega)]
      exact ih (k + 1) n (by omega) (by omega)
  unfold fX8_mixBoard_J75
  rw [eT, bd_s, ← md_mt hT h0 (tms B).length (Nat.le_refl _)]
  exact L (5 * (tms B).length) 0 fu (by omega) (by unfold fu; omega)
theorem f_aboutM {B : Bd} (hB : BdOK B) (hR : bR B ≠ 0) {content ro co : Nat → Int32} (l1 : agr ro (rowsL B (bR B))) (l2 : agr co (colsL B (bR B))) (b3 : rq_4 content (bc B)) (w : Nat) (s : TC5) (hs : CCr B s) : ∃ r, fX8_aboutNow (nI w) (nI (bK B)) (nI (bR B)) content (nI (nbx B)) ro co s.1 s.2.1 s.2.2.1 s.2.2.2.1 s.2.2.2.2 = some r ∧ r.1 = abF B w ∧ CCr B r.2 := by
  unfold fX8_aboutNow fX8_aboutNow_J51 abF aI
  by_cases e0 : nI w = 0
  · rw [if_pos e0, if_pos e0]
    exact ⟨_, rfl, rfl, hs⟩
  rw [if_neg e0, if_neg e0]
  by_cases e1 : nI w = 1
  · rw [if_pos e1, if_pos e1]
    exact ⟨_, rfl, rfl, hs⟩
  rw [if_neg e1, if_neg e1]
  by_cases e2 : nI w = 2
  · rw [if_pos e2, if_pos e2]
    exact ⟨_, rfl, rfl, hs⟩
  rw [if_neg e2, if_neg e2]
  by_cases e3 : nI w = 3
  · rw [if_pos e3, if_pos e3, f_told b3, bd_s]
    exact ⟨_, rfl, rfl, hs⟩
  rw [if_neg e3, if_neg e3]
  obtain ⟨nw, lf, bx, ew⟩ := f_ways hB hR l1 l2 b3 s.1 s.2.1 s.2.2.1 s.2.2.2.1 s.2.2.2.2 hs
  rw [ew, bd_s]
  exact ⟨_, rfl, rfl, Or.inr ⟨rfl, rfl⟩⟩
theorem rM_25 {B : Bd} (hB : BdOK B) (hR : bR B ≠ 0) {outer inner content ro co : Nat → Int32} (l1 : agr ro (rowsL B (bR B))) (l2 : agr co (colsL B (bR B))) (b1 : rq_4 outer (bo B)) (b2 : rq_4 inner (bi B)) (b3 : rq_4 content (bc B)) (h0 : Int64) (t : TT9) (ht : CTr B t) (s : TC5) (hs : CCr B s) : ∀ (m q n : Nat), q + m = 2 * bR B + 7 → m < n → ∃ s', CMr B s' ∧ fX8_mixBoard_L25 (nI (bK B)) (nI (bR B)) outer inner content (nI (nbx B)) ro co t.1 t.2.1 t.2.2.1 t.2.2.2.1 t.2.2.2.2.1 t.2.2.2.2.2.1 t.2.2.2.2.2.2.1 t.2.2.2.2.2.2.2.1 t.2.2.2.2.2.2.2.2 s.1 s.2.1 s.2.2.1 s.2.2.2.1 s.2.2.2.2 n (nI q) (md (txF B) q h0) = some (s'.1, s'.2.1, s'.2.2.1, s'.2.2.2.1, s'.2.2.2.2.1, s'.2.2.2.2.2.1, s'.2.2.2.2.2.2.1, s'.2.2.2.2.2.2.2.1, s'.2.2.2.2.2.2.2.2.1, s'.2.2.2.2.2.2.2.2.2.1, s'.2.2.2.2.2.2.2.2.2.2.1, s'.2.2.2.2.2.2.2.2.2.2.2.1, s'.2.2.2.2.2.2.2.2.2.2.2.2.1, s'.2.2.2.2.2.2.2.2.2.2.2.2.2, mt B (tms B).length (mfw B (cap3 B) (md (txF B) (2 * bR B + 7) h0))) := by
  have h4 := hB.2.1
  intro m
  induction m with
  | zero =>
    intro q n h hn
    obtain ⟨n, rfl, -⟩ := fuel hn
    have e : q = 2 * bR B + 7 := by omega
    subst e
    obtain ⟨s1, g1, e1⟩ := rM_51 hB hR l1 l2 b2 b3 (md (txF B) (2 * bR B + 7) h0) (fX8_mixBoard_J75 inner content t.1 t.2.1 t.2.2.1 t.2.2.2.1 t.2.2.2.2.1 t.2.2.2.2.2.1 t.2.2.2.2.2.2.1 t.2.2.2.2.2.2.2.1 t.2.2.2.2.2.2.2.2) (cap3 B) 0 fu s (by omega) (by have := fls_400 hB; unfold cap3 fu; split <;> omega) hs
    obtain ⟨s', g2, e2⟩ := rM_75 hB hR b2 b3 (mfw B (cap3 B) (md (txF B) (2 * bR B + 7) h0)) t ht s1 g1
    refine ⟨s', g2, ?_⟩
    rw [fX8_mixBoard_L25, f_letters h4, bd_s, if_neg hR, if_pos (nI_le (Nat.le_refl _) (by omega))]
    exact (show _ from e1).trans e2
  | succ m ih =>
    intro q n h hn
    obtain ⟨n, rfl, hn2⟩ := fuel hn
    obtain ⟨s', g1, g2⟩ := ih (q + 1) n (by omega) (by omega)
    refine ⟨s', g1, ?_⟩
    rw [fX8_mixBoard_L25, f_letters h4, bd_s, if_neg hR, if_neg (nI_ge (show q < 2 * bR B + 7 by omega) (by omega)), tx_M hB b1 b2 b3 (show q < 2 * bR B + 7 by omega), bd_s, mM, bd_s, nI_1]
    exact g2
theorem rM_2 {B : Bd} (hB : BdOK B) (hR : bR B ≠ 0) {outer inner content ro co : Nat → Int32} (l1 : agr ro (rowsL B (bR B))) (l2 : agr co (colsL B (bR B))) (b1 : rq_4 outer (bo B)) (b2 : rq_4 inner (bi B)) (b3 : rq_4 content (bc B)) (h0 : Int64) (t : TT9) (ht : CTr B t) : ∀ (m w n : Nat) (s : TC5), w + m = 5 → m < n → CCr B s → ∃ s', CMr B s' ∧ fX8_mixBoard_L2 (nI (bK B)) (nI (bR B)) outer inner content (nI (nbx B)) ro co t.1 t.2.1 t.2.2.1 t.2.2.2.1 t.2.2.2.2.1 t.2.2.2.2.2.1 t.2.2.2.2.2.2.1 t.2.2.2.2.2.2.2.1 t.2.2.2.2.2.2.2.2 n (nI w) s.1 s.2.1 s.2.2.1 s.2.2.2.1 s.2.2.2.2 (md (abF B) w h0) = some (s'.1, s'.2.1, s'.2.2.1, s'.2.2.2.1, s'.2.2.2.2.1, s'.2.2.2.2.2.1, s'.2.2.2.2.2.2.1, s'.2.2.2.2.2.2.2.1, s'.2.2.2.2.2.2.2.2.1, s'.2.2.2.2.2.2.2.2.2.1, s'.2.2.2.2.2.2.2.2.2.2.1, s'.2.2.2.2.2.2.2.2.2.2.2.1, s'.2.2.2.2.2.2.2.2.2.2.2.2.1, s'.2.2.2.2.2.2.2.2.2.2.2.2.2, HB B h0) := by
  intro m
  induction m with
  | zero =>
    intro w n s h hn hs
    obtain ⟨n, rfl, -⟩ := fuel hn
    have e : w = 5 := by omega
    subst e
    obtain ⟨s', g1, g2⟩ := rM_25 hB hR l1 l2 b1 b2 b3 (md (abF B) 5 h0) t ht s hs (2 * bR B + 7) 0 fu (by omega) (by have := hB.2.1; unfold fu; omega)
    refine ⟨s', g1, ?_⟩
    rw [fX8_mixBoard_L2, if_pos (by decide)]
    exact g2
  | succ m ih =>
    intro w n s h hn hs
    obtain ⟨n, rfl, hn2⟩ := fuel hn
    obtain ⟨r, e1, e2, e3⟩ := f_aboutM hB hR l1 l2 b3 w s hs
    obtain ⟨s', g1, g2⟩ := ih (w + 1) n r.2 (by omega) (by omega) e3
    refine ⟨s', g1, ?_⟩
    rw [fX8_mixBoard_L2, if_neg (show ¬ 5 ≤ nI w from nI_ge (b := 5) (by omega) (by decide)), e1, bd_s, mM, bd_s, e2, nI_1]
    exact g2
theorem rM_65 {B : Bd} (hB : BdOK B) {inner content ro co : Nat → Int32} (l1 : agr ro (rowsL B (bR B))) (l2 : agr co (colsL B (bR B))) (b2 : rq_4 inner (bi B)) (b3 : rq_4 content (bc B)) (obn pgn nbd : Nat) (h0 : Int64) : ∀ (m w n : Nat) (s : TM14), w + m = 8 → m < n → CMr B s → ∃ s', CMr B s' ∧ fX8_digest_L65 (nI nbd) (nI (bK B)) (nI (bR B)) inner content (nI (nbx B)) ro co (nI obn) (nI pgn) n (nI w) s.1 s.2.1 s.2.2.1 s.2.2.2.1 s.2.2.2.2.1 s.2.2.2.2.2.1 s.2.2.2.2.2.2.1 s.2.2.2.2.2.2.2.1 s.2.2.2.2.2.2.2.2.1 s.2.2.2.2.2.2.2.2.2.1 s.2.2.2.2.2.2.2.2.2.2.1 s.2.2.2.2.2.2.2.2.2.2.2.1 s.2.2.2.2.2.2.2.2.2.2.2.2.1 s.2.2.2.2.2.2.2.2.2.2.2.2.2 (md (cnF B obn pgn nbd) w h0) = some (md (cnF B obn pgn nbd) 8 h0, s'.1, s'.2.1, s'.2.2.1, s'.2.2.2.1, s'.2.2.2.2.1, s'.2.2.2.2.2.1, s'.2.2.2.2.2.2.1, s'.2.2.2.2.2.2.2.1, s'.2.2.2.2.2.2.2.2.1, s'.2.2.2.2.2.2.2.2.2.1, s'.2.2.2.2.2.2.2.2.2.2.1, s'.2.2.2.2.2.2.2.2.2.2.2.1, s'.2.2.2.2.2.2.2.2.2.2.2.2.1, s'.2.2.2.2.2.2.2.2.2.2.2.2.2, md (cnF B obn pgn nbd) 8 h0) := by
  intro m
  induction m with
  | zero =>
    intro w n s h hn hs
    obtain ⟨n, rfl, -⟩ := fuel hn
    have e : w = 8 := by omega
    subst e
    exact ⟨s, hs, by rw [fX8_digest_L65, if_pos (by decide)]⟩
  | succ m ih =>
    intro w n s h hn hs
    obtain ⟨n, rfl, hn2⟩ := fuel hn
    obtain ⟨r, e1, e2, e3⟩ := f_howMany hB l1 l2 b2 b3 obn pgn nbd (nI w) hs
    obtain ⟨s', g1, g2⟩ := ih (w + 1) n r.2 (by omega) (by omega) e3
    refine ⟨s', g1, ?_⟩
    rw [fX8_digest_L65, if_neg (show ¬ 8 ≤ nI w from nI_ge (b := 8) (by omega) (by decide)), e1, bd_s, mM, bd_s, e2, nI_1]
    exact g2
theorem rM_38 {B : Bd} {inner content ro co : Nat → Int32} (obn nbd : Nat) {pg : List Nat} (hpg : pgOK pg) {page : Nat → Int32} (hg : agr page pg) (h0 : Int64) (s : TM14) : ∀ (m k n : Nat), k + m = pg.length → m < n → fX8_digest_L38 (nI nbd) (nI (bK B)) (nI (bR B)) inner content (nI (nbx B)) ro co (nI obn) (nI pg.length) page s.1 s.2.1 s.2.2.1 s.2.2.2.1 s.2.2.2.2.1 s.2.2.2.2.2.1 s.2.2.2.2.2.2.1 s.2.2.2.2.2.2.2.1 s.2.2.2.2.2.2.2.2.1 s.2.2.2.2.2.2.2.2.2.1 s.2.2.2.2.2.2.2.2.2.2.1 s.2.2.2.2.2.2.2.2.2.2.2.1 s.2.2.2.2.2.2.2.2.2.2.2.2.1 s.2.2.2.2.2.2.2.2.2.2.2.2.2 n (nI k) (md (wdF pg) k h0) = fX8_digest_L65 (nI nbd) (nI (bK B)) (nI (bR B)) inner content (nI (nbx B)) ro co (nI obn) (nI pg.length) fu 0 s.1 s.2.1 s.2.2.1 s.2.2.2.1 s.2.2.2.2.1 s.2.2.2.2.2.1 s.2.2.2.2.2.2.1 s.2.2.2.2.2.2.2.1 s.2.2.2.2.2.2.2.2.1 s.2.2.2.2.2.2.2.2.2.1 s.2.2.2.2.2.2.2.2.2.2.1 s.2.2.2.2.2.2.2.2.2.2.2.1 s.2.2.2.2.2.2.2.2.2.2.2.2.1 s.2.2.2.2.2.2.2.2.2.2.2.2.2 (md (wdF pg) pg.length h0) := by
  have l20 := hpg.1
  intro m
  induction m with
  | zero =>
    intro k n h hn
    obtain ⟨n, rfl, -⟩ := fuel hn
    have e : k = pg.length := by omega
    rw [fX8_digest_L38, e, if_pos (nI_le (Nat.le_refl _) (by omega))]
  | succ m ih =>
    intro k n h hn
    obtain ⟨n, rfl, hn2⟩ := fuel hn
    rw [fX8_digest_L38, if_neg (nI_ge (show k < pg.length by omega) (by omega)), gd_in (show k < 20 by omega) (by decide), mM, bd_s, nI_clamp (by omega), hg k (by omega), nI_1]
    exact ih (k + 1) n (by omega) (by omega)
theorem rM_18 {B : Bd} (hB : BdOK B) {inner content ro co : Nat → Int32} (l1 : agr ro (rowsL B (bR B))) (l2 : agr co (colsL B (bR B))) (b2 : rq_4 inner (bi B)) (b3 : rq_4 content (bc B)) (nbd : Nat) {ob : List (Nat × Bool)} (hob : obOK ob) {sw sc : Nat → Int32} (hw : agr sw (ob.map (fun q => q.1))) (hsc : agr sc (ob.map (fun q => if q.2 then 1 else 0))) {v : Int32} (hv : fX8_askNow (nI ob.length) sw sc = some v) {pg : List Nat} (hpg : pgOK pg) {page : Nat → Int32} (hg : agr page pg) (h0 : Int64) (s : TM14) (hs : CMr B s) : ∃ s', CMr B s' ∧ fX8_digest_J18 (nI nbd) (nI (bK B)) (nI (bR B)) inner content (nI (nbx B)) ro co (nI ob.length) sw sc (nI pg.length) page s.1 s.2.1 s.2.2.1 s.2.2.2.1 s.2.2.2.2.1 s.2.2.2.2.2.1 s.2.2.2.2.2.2.1 s.2.2.2.2.2.2.2.1 s.2.2.2.2.2.2.2.2.1 s.2.2.2.2.2.2.2.2.2.1 s.2.2.2.2.2.2.2.2.2.2.1 s.2.2.2.2.2.2.2.2.2.2.2.1 s.2.2.2.2.2.2.2.2.2.2.2.2.1 s.2.2.2.2.2.2.2.2.2.2.2.2.2 h0 = some (HE B ob pg nbd v h0, s'.1, s'.2.1, s'.2.2.1, s'.2.2.2.1, s'.2.2.2.2.1, s'.2.2.2.2.2.1, s'.2.2.2.2.2.2.1, s'.2.2.2.2.2.2.2.1, s'.2.2.2.2.2.2.2.2.1, s'.2.2.2.2.2.2.2.2.2.1, s'.2.2.2.2.2.2.2.2.2.2.1, s'.2.2.2.2.2.2.2.2.2.2.2.1, s'.2.2.2.2.2.2.2.2.2.2.2.2.1, s'.2.2.2.2.2.2.2.2.2.2.2.2.2, HE B ob pg nbd v h0) := by
  obtain ⟨s', g1, g2⟩ := rM_65 hB l1 l2 b2 b3 ob.length pg.length nbd (md (wdF pg) pg.length (31 * (31 * h0 + (kof ob).toInt64) + v.toInt64)) 8 0 fu s (by omega) (by unfold fu; omega) hs
  refine ⟨s', g1, ?_⟩
  unfold fX8_digest_J18
  rw [f_sortsNow hob.1 hob.2 hw hsc, bd_s, mM, bd_s, hv, bd_s, mM, bd_s]
  exact (rM_38 ob.length nbd hpg hg (31 * (31 * h0 + (kof ob).toInt64) + v.toInt64) s pg.length 0 fu (by omega) (by have := hpg.1; unfold fu; omega)).trans g2
theorem rM {B : Bd} (hB : BdOK B) {outer inner content ro co : Nat → Int32} (l1 : agr ro (rowsL B (bR B))) (l2 : agr co (colsL B (bR B))) (b1 : rq_4 outer (bo B)) (b2 : rq_4 inner (bi B)) (b3 : rq_4 content (bc B)) (nbd : Nat) {ob : List (Nat × Bool)} (hob : obOK ob) {sw sc : Nat → Int32} (hw : agr sw (ob.map (fun q => q.1))) (hsc : agr sc (ob.map (fun q => if q.2 then 1 else 0))) {v : Int32} (hv : fX8_askNow (nI ob.length) sw sc = some v) {pg : List Nat} (hpg : pgOK pg) {page : Nat → Int32} (hg : agr page pg) (s : TM14) (hs : CMr B s) : ∃ s', CMr B s' ∧ fX8_digest (nI nbd) (nI (bK B)) (nI (bR B)) outer inner content (nI (nbx B)) ro co (nI ob.length) sw sc (nI pg.length) page s.1 s.2.1 s.2.2.1 s.2.2.2.1 s.2.2.2.2.1 s.2.2.2.2.2.1 s.2.2.2.2.2.2.1 s.2.2.2.2.2.2.2.1 s.2.2.2.2.2.2.2.2.1 s.2.2.2.2.2.2.2.2.2.1 s.2.2.2.2.2.2.2.2.2.2.1 s.2.2.2.2.2.2.2.2.2.2.2.1 s.2.2.2.2.2.2.2.2.2.2.2.2.1 s.2.2.2.2.2.2.2.2.2.2.2.2.2 = some (HT B ob pg nbd v, s'.1, s'.2.1, s'.2.2.1, s'.2.2.2.1, s'.2.2.2.2.1, s'.2.2.2.2.2.1, s'.2.2.2.2.2.2.1, s'.2.2.2.2.2.2.2.1, s'.2.2.2.2.2.2.2.2.1, s'.2.2.2.2.2.2.2.2.2.1, s'.2.2.2.2.2.2.2.2.2.2.1, s'.2.2.2.2.2.2.2.2.2.2.2.1, s'.2.2.2.2.2.2.2.2.2.2.2.2.1, s'.2.2.2.2.2.2.2.2.2.2.2.2.2, HT B ob pg nbd v) := by
  unfold fX8_digest HT
  by_cases hR : bR B = 0
  · rw [(no_board hR).2, bd_s, if_pos rfl, if_pos hR]
    exact rM_18 hB l1 l2 b2 b3 nbd hob hw hsc hv hpg hg 1471 s hs
  · rw [(a_board hR hB.2.1).2, bd_s, if_neg (by decide), if_neg hR]
    obtain ⟨s1, g1, g2⟩ := rM_2 hB hR l1 l2 b1 b2 b3 1471 (s.2.2.2.2.2.1, s.2.2.2.2.2.2.1, s.2.2.2.2.2.2.2.1, s.2.2.2.2.2.2.2.2.1, s.2.2.2.2.2.2.2.2.2.1, s.2.2.2.2.2.2.2.2.2.2.1, s.2.2.2.2.2.2.2.2.2.2.2.1, s.2.2.2.2.2.2.2.2.2.2.2.2.1, s.2.2.2.2.2.2.2.2.2.2.2.2.2) hs.2 5 0 fu (s.1, s.2.1, s.2.2.1, s.2.2.2.1, s.2.2.2.2.1) (by omega) (by unfold fu; omega) hs.1
    obtain ⟨s2, k1, k2⟩ := rM_18 hB l1 l2 b2 b3 nbd hob hw hsc hv hpg hg (HB B 1471) s1 g1
    refine ⟨s2, k1, ?_⟩
    unfold fX8_mixBoard
    exact (congrArg (fun z => bd z _) (show _ from g2)).trans k2
theorem st_digest (k : Nat) (v_saved : Int32) (v_boardsRead : Int32) (v_fillingsFresh : Int32) (v_productsFresh : Int32) (v_pg_codes : Nat → Int32) (v_pg_size : Int32) (v_rd_stage : Int32) (v_rd_digits : Int32) (v_rd_p_kind : Int32) (v_rd_p_rows : Int32) (v_rd_p_outer : Nat → Int32) (v_rd_p_inner : Nat → Int32) (v_rd_p_content : Nat → Int32) (v_pl_kind : Int32) (v_pl_rows : Int32) (v_pl_outer : Nat → Int32) (v_pl_inner : Nat → Int32) (v_pl_content : Nat → Int32) (v_dr_kind : Int32) (v_dr_rows : Int32) (v_dr_outer : Nat → Int32) (v_dr_inner : Nat → Int32) (v_dr_content : Nat → Int32) (v_ob_size : Int32) (v_ob_kinds : Int32) (v_sp_kind : Int32) (v_sp_rows : Int32) (v_sp_outer : Nat → Int32) (v_sp_inner : Nat → Int32) (v_sp_content : Nat → Int32) (v_so_size : Int32) (v_so_kinds : Int32) (v_fi_size : Int32) (v_fi_kind : Int32) (v_fi_codes : Nat → Int32) (v_fi_numbers : Nat → Int32) (v_fi_left : Nat → Int32) (v_fi_g_rowOf : Nat → Int32) (v_fi_g_columnOf : Nat → Int32) (v_fi_g_before : Nat → Int32) (v_fi_g_above : Nat → Int32) (v_fi_g_rowStart : Nat → Int32) (v_fi_g_size : Int32) (v_pr_size : Int32) (v_pr_multiplicitySum : Int32) (v_pr_boxes : Int32) (v_pr_inner : Nat → Int32) (v_pr_used : Nat → Int32) (v_pr_left : Nat → Int32) (v_pr_ends : Nat → Nat → Int32) (v_pr_fillingsOf : Nat → Int32) (v_pr_keys : Nat → Int32) (v_boards : Int32) (v_kind : Int32) (v_rows : Int32) (v_outer : Nat → Int32) (v_inner : Nat → Int32) (v_content : Nat → Int32) (v_boxes : Int32) (v_rowOf : Nat → Int32) (v_columnOf : Nat → Int32) (v_seen : Int32) (v_seenWhat : Nat → Int32) (v_seenCan : Nat → Int32) (v_pageLength : Int32) (v_page : Nat → Int32) (v_isWhole : Int32) (v_newKind : Int32) (v_newRows : Int32) (v_newOuter : Nat → Int32) (v_newInner : Nat → Int32) (v_newContent : Nat → Int32) (v_now : Nat → Int32) (v_left : Nat → Int32) (v_box : Int32) (v_isCounted : Int32) (v_counted : Int32) (v_given : Nat → Int32) (v_isTermed : Int32) (v_terms : Int32) (v_term : Nat → Int32) (v_shape : Nat → Int32) (v_readBoxes : Int32) (v_readRow : Nat → Int32) (v_readColumn : Nat → Int32) (v_grid : Nat → Int32) (v_often : Nat → Int32) (v_seedNow : Int64) (v_isKept : Int32) (v_keptBoard : Int32) (v_keptKind : Int32) (v_keptRows : Int32) (v_keptSeen : Int32) (v_keptOuter : Nat → Int32) (v_keptInner : Nat → Int32) (v_keptContent : Nat → Int32) (v_keptWhat : Nat → Int32) (v_keptCan : Nat → Int32) (v_h : Int64) (hk : k < 512) (hI : Inv k v_saved v_boardsRead v_fillingsFresh v_productsFresh v_pg_codes v_pg_size v_rd_stage v_rd_digits v_rd_p_kind v_rd_p_rows v_rd_p_outer v_rd_p_inner v_rd_p_content v_pl_kind v_pl_rows v_pl_outer v_pl_inner v_pl_content v_dr_kind v_dr_rows v_dr_outer v_dr_inner v_dr_content v_ob_size v_ob_kinds v_sp_kind v_sp_rows v_sp_outer v_sp_inner v_sp_content v_so_size v_so_kinds v_fi_size v_fi_kind v_fi_codes v_fi_numbers v_fi_left v_fi_g_rowOf v_fi_g_columnOf v_fi_g_before v_fi_g_above v_fi_g_rowStart v_fi_g_size v_pr_size v_pr_multiplicitySum v_pr_boxes v_pr_inner v_pr_used v_pr_left v_pr_ends v_pr_fillingsOf v_pr_keys v_boards v_kind v_rows v_outer v_inner v_content v_boxes v_rowOf v_columnOf v_seen v_seenWhat v_seenCan v_pageLength v_page v_isWhole v_newKind v_newRows v_newOuter v_newInner v_newContent v_now v_left v_box v_isCounted v_counted v_given v_isTermed v_terms v_term v_shape v_readBoxes v_readRow v_readColumn v_grid v_often v_seedNow v_isKept v_keptBoard v_keptKind v_keptRows v_keptSeen v_keptOuter v_keptInner v_keptContent v_keptWhat v_keptCan v_h) : ∃ (fx : Int64 × Int32 × Int32 × Int32 × Int32 × (Nat → Int32) × (Nat → Int32) × (Nat → Int32) × (Nat → Int32) × (Nat → Int32) × (Nat → Int32) × (Nat → Int32) × (Nat → Int32) × Int32 × Int32 × Int32 × Int32 × (Nat → Int32) × (Nat → Int32) × (Nat → Int32) × (Nat → Nat → Int32) × (Nat → Int32) × (Nat → Int32)) (fm : Int64 × (Nat → Int32) × (Nat → Int32) × Int32 × Int32 × Int32 × Int32 × Int32 × (Nat → Int32) × (Nat → Int32) × Int32 × (Nat → Int32) × (Nat → Int32) × (Nat → Int32) × (Nat → Int32) × Int64), fX7_digest v_boardsRead v_fillingsFresh v_productsFresh v_pg_codes v_pg_size v_pl_kind v_pl_rows v_pl_outer v_pl_inner v_pl_content v_ob_size v_ob_kinds v_fi_size v_fi_kind v_fi_codes v_fi_numbers v_fi_left v_fi_g_rowOf v_fi_g_columnOf v_fi_g_before v_fi_g_above v_fi_g_rowStart v_fi_g_size v_pr_size v_pr_multiplicitySum v_pr_boxes v_pr_inner v_pr_used v_pr_left v_pr_ends v_pr_fillingsOf v_pr_keys = some fx ∧ fX8_digest v_boards v_kind v_rows v_outer v_inner v_content v_boxes v_rowOf v_columnOf v_seen v_seenWhat v_seenCan v_pageLength v_page v_now v_left v_box v_isCounted v_counted v_isTermed v_terms v_term v_shape v_readBoxes v_readRow v_readColumn v_grid v_often = some fm ∧ fx.1 = fm.1 ∧ Inv (k + 1) v_saved v_boardsRead fx.2.1 fx.2.2.1 v_pg_codes v_pg_size v_rd_stage v_rd_digits v_rd_p_kind v_rd_p_rows v_rd_p_outer v_rd_p_inner v_rd_p_content v_pl_kind v_pl_rows v_pl_outer v_pl_inner v_pl_content v_dr_kind v_dr_rows v_dr_outer v_dr_inner v_dr_content v_ob_size v_ob_kinds v_sp_kind v_sp_rows v_sp_outer v_sp_inner v_sp_content v_so_size v_so_kinds fx.2.2.2.1 fx.2.2.2.2.1 fx.2.2.2.2.2.1 fx.2.2.2.2.2.2.1 fx.2.2.2.2.2.2.2.1 fx.2.2.2.2.2.2.2.2.1 fx.2.2.2.2.2.2.2.2.2.1 fx.2.2.2.2.2.2.2.2.2.2.1 fx.2.2.2.2.2.2.2.2.2.2.2.1 fx.2.2.2.2.2.2.2.2.2.2.2.2.1 fx.2.2.2.2.2.2.2.2.2.2.2.2.2.1 fx.2.2.2.2.2.2.2.2.2.2.2.2.2.2.1 fx.2.2.2.2.2.2.2.2.2.2.2.2.2.2.2.1 fx.2.2.2.2.2.2.2.2.2.2.2.2.2.2.2.2.1 fx.2.2.2.2.2.2.2.2.2.2.2.2.2.2.2.2.2.1 fx.2.2.2.2.2.2.2.2.2.2.2.2.2.2.2.2.2.2.1 fx.2.2.2.2.2.2.2.2.2.2.2.2.2.2.2.2.2.2.2.1 fx.2.2.2.2.2.2.2.2.2.2.2.2.2.2.2.2.2.2.2.2.1 fx.2.2.2.2.2.2.2.2.2.2.2.2.2.2.2.2.2.2.2.2.2.1 fx.2.2.2.2.2.2.2.2.2.2.2.2.2.2.2.2.2.2.2.2.2.2 v_boards v_kind v_rows v_outer v_inner v_content v_boxes v_rowOf v_columnOf v_seen v_seenWhat v_seenCan v_pageLength v_page v_isWhole v_newKind v_newRows v_newOuter v_newInner v_newContent fm.2.1 fm.2.2.1 fm.2.2.2.1 fm.2.2.2.2.1 fm.2.2.2.2.2.1 v_given fm.2.2.2.2.2.2.1 fm.2.2.2.2.2.2.2.1 fm.2.2.2.2.2.2.2.2.1 fm.2.2.2.2.2.2.2.2.2.1 fm.2.2.2.2.2.2.2.2.2.2.1 fm.2.2.2.2.2.2.2.2.2.2.2.1 fm.2.2.2.2.2.2.2.2.2.2.2.2.1 fm.2.2.2.2.2.2.2.2.2.2.2.2.2.1 fm.2.2.2.2.2.2.2.2.2.2.2.2.2.2.1 v_seedNow v_isKept v_keptBoard v_keptKind v_keptRows v_keptSeen v_keptOuter v_keptInner v_keptContent v_keptWhat v_keptCan fm.2.2.2.2.2.2.2.2.2.2.2.2.2.2.2 := by
  obtain ⟨pg, B, ob, sv, nbd, h1, ⟨rfl, g1⟩, ⟨rfl, g2⟩, h4, ⟨rfl, rfl, a1, a2, a3⟩, ⟨rfl, rfl, b1, b2, b3⟩, ⟨rfl, l1, l2⟩, h8, ⟨rfl, o1⟩, ⟨rfl, o2⟩, h11, rfl, rfl, h14, h15, h16, h17, h18, h19, h20⟩ := hI
  subst o1
  obtain ⟨v, e1, e2⟩ := f_ask h8.1 h8.2 o2.1 o2.2
  obtain ⟨r, c1, c2⟩ := dX h4 a1 a2 a3 nbd ob e2 h1 g1 (v_fillingsFresh, v_productsFresh, v_fi_size, v_fi_kind, v_fi_codes, v_fi_numbers, v_fi_left, v_fi_g_rowOf, v_fi_g_columnOf, v_fi_g_before, v_fi_g_above, v_fi_g_rowStart, v_fi_g_size, v_pr_size, v_pr_multiplicitySum, v_pr_boxes, v_pr_inner, v_pr_used, v_pr_left, v_pr_ends, v_pr_fillingsOf, v_pr_keys) ⟨h17, h18⟩
  obtain ⟨q, d1, d2⟩ := rM h4 l1 l2 b1 b2 b3 nbd h8 o2.1 o2.2 e1 h1 g2 (v_now, v_left, v_box, v_isCounted, v_counted, v_isTermed, v_terms, v_term, v_shape, v_readBoxes, v_readRow, v_readColumn, v_grid, v_often) ⟨h19, h20⟩
  exact ⟨_, _, c2, d2, rfl, Inv_mono ⟨pg, B, ob, sv, nbd, h1, ⟨rfl, g1⟩, ⟨rfl, g2⟩, h4, ⟨rfl, rfl, a1, a2, a3⟩, ⟨rfl, rfl, b1, b2, b3⟩, ⟨rfl, l1, l2⟩, h8, ⟨rfl, rfl⟩, ⟨rfl, o2⟩, h11, rfl, rfl, h14, h15, h16, c1.1, c1.2, d1.1, d1.2⟩⟩
