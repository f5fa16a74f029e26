/-! the checksum: the pure words -/
def md (f : Nat → Int32) : Nat → Int64 → Int64
  | 0, h => h
  | n + 1, h => 31 * md f n h + (f n).toInt64
def aI (B : Bd) (p : Int32) : Int32 := if p = 0 then nI (bK B) else if p = 1 then nI (nbx B) else if p = 2 then nI (bR B) else if p = 3 then nI (csum B) else nI (fls B).length
def hvF (B : Bd) (w : List Nat) (i j : Nat) : Int32 := nI (isum B i + bu B w i j)
def mh (B : Bd) (w : List Nat) : Nat → Int64 → Int64
  | 0, h => h
  | i + 1, h => md (hvF B w i) 5 (mh B w i h)
def wdF (w : List Nat) (b : Nat) : Int32 := nI (w.getD b 0)
def mw (B : Bd) (w : List Nat) (h : Int64) : Int64 := mh B w (bR B + 1) (md (wdF w) (nbx B) h)
def mfw (B : Bd) : Nat → Int64 → Int64
  | 0, h => h
  | k + 1, h => mw B ((fls B).getD k []) (mfw B k h)
def cap3 (B : Bd) : Nat := if (fls B).length < 3 then (fls B).length else 3
def tmF (B : Bd) (t j : Nat) : Int32 := nI (tmG ((tms B).getD t (0, 0, 0, 0, 0)) j)
def mt (B : Bd) : Nat → Int64 → Int64
  | 0, h => h
  | t + 1, h => md (tmF B t) 5 (mt B t h)
def txF (B : Bd) (q : Nat) : Int32 := nI (txt B q)
def abF (B : Bd) (w : Nat) : Int32 := aI B (nI w)
def cnF (B : Bd) (obn pgn nbd : Nat) (w : Nat) : Int32 := cI B obn pgn nbd (nI w)
def HB (B : Bd) (h : Int64) : Int64 := mt B (tms B).length (mfw B (cap3 B) (md (txF B) (2 * bR B + 7) (md (abF B) 5 h)))
def HE (B : Bd) (ob : List (Nat × Bool)) (pg : List Nat) (nbd : Nat) (v : Int32) (h : Int64) : Int64 := md (cnF B ob.length pg.length nbd) 8 (md (wdF pg) pg.length (31 * (31 * h + (kof ob).toInt64) + v.toInt64))
theorem mX (h v : Int64) : fX7_mix h v = some (31 * h + v) := rfl
theorem mM (h v : Int64) : fX8_mix v h = some (31 * h + v) := rfl
theorem dX_138 {B : Bd} (hB : BdOK B) {outer inner content : Nat → Int32} (a1 : rq_4 outer (bo B)) (a2 : rq_4 inner (bi B)) (a3 : rq_4 content (bc B)) (obn pgn nbd : Nat) (h0 : Int64) : ∀ (m w n : Nat) (s : TX), w + m = 8 → m < n → CXr B s → ∃ s', CXr B s' ∧ fX7_digest_L138 (nI nbd) (nI pgn) (nI (bK B)) (nI (bR B)) outer inner content (nI obn) n (md (cnF B obn pgn nbd) w h0) (nI w) s.1 s.2.1 s.2.2.1 s.2.2.2.1 s.2.2.2.2.1 s.2.2.2.2.2.1 s.2.2.2.2.2.2.1 s.2.2.2.2.2.2.2.1 s.2.2.2.2.2.2.2.2.1 s.2.2.2.2.2.2.2.2.2.1 s.2.2.2.2.2.2.2.2.2.2.1 s.2.2.2.2.2.2.2.2.2.2.2.1 s.2.2.2.2.2.2.2.2.2.2.2.2.1 s.2.2.2.2.2.2.2.2.2.2.2.2.2.1 s.2.2.2.2.2.2.2.2.2.2.2.2.2.2.1 s.2.2.2.2.2.2.2.2.2.2.2.2.2.2.2.1 s.2.2.2.2.2.2.2.2.2.2.2.2.2.2.2.2.1 s.2.2.2.2.2.2.2.2.2.2.2.2.2.2.2.2.2.1 s.2.2.2.2.2.2.2.2.2.2.2.2.2.2.2.2.2.2.1 s.2.2.2.2.2.2.2.2.2.2.2.2.2.2.2.2.2.2.2.1 s.2.2.2.2.2.2.2.2.2.2.2.2.2.2.2.2.2.2.2.2.1 s.2.2.2.2.2.2.2.2.2.2.2.2.2.2.2.2.2.2.2.2.2 = some (md (cnF B obn pgn nbd) 8 h0, s') := by
  intro m
  induction m with
  | zero =>
    intro w n s h hn hs
    obtain ⟨n, rfl, -⟩ := fuel hn
    have e : w = 8 := by omega
    subst e
    exact ⟨s, hs, by rw [fX7_digest_L138, if_pos (by decide)]⟩
  | succ m ih =>
    intro w n s h hn hs
    obtain ⟨n, rfl, hn2⟩ := fuel hn
    obtain ⟨r, e1, e2, e3⟩ := f_countX hB a1 a2 a3 obn pgn nbd (nI w) hs
    obtain ⟨s', g1, g2⟩ := ih (w + 1) n r.2 (by omega) (by omega) e3
    refine ⟨s', g1, ?_⟩
    rw [fX7_digest_L138, if_neg (show ¬ 7 < nI w from nI_nlt (a := 7) (by omega) (by decide)), e1, bd_s, mX, bd_s, e2, nI_1]
    exact g2
theorem dX_104 {B : Bd} {outer inner content : Nat → Int32} (obn nbd : Nat) {pg : List Nat} (hpg : pgOK pg) {codes : Nat → Int32} (hg : agr codes pg) (h0 : Int64) (s : TX) : ∀ (m k n : Nat), k + m = pg.length → m < n → fX7_digest_L104 (nI nbd) codes (nI pg.length) (nI (bK B)) (nI (bR B)) outer inner content (nI obn) s.1 s.2.1 s.2.2.1 s.2.2.2.1 s.2.2.2.2.1 s.2.2.2.2.2.1 s.2.2.2.2.2.2.1 s.2.2.2.2.2.2.2.1 s.2.2.2.2.2.2.2.2.1 s.2.2.2.2.2.2.2.2.2.1 s.2.2.2.2.2.2.2.2.2.2.1 s.2.2.2.2.2.2.2.2.2.2.2.1 s.2.2.2.2.2.2.2.2.2.2.2.2.1 s.2.2.2.2.2.2.2.2.2.2.2.2.2.1 s.2.2.2.2.2.2.2.2.2.2.2.2.2.2.1 s.2.2.2.2.2.2.2.2.2.2.2.2.2.2.2.1 s.2.2.2.2.2.2.2.2.2.2.2.2.2.2.2.2.1 s.2.2.2.2.2.2.2.2.2.2.2.2.2.2.2.2.2.1 s.2.2.2.2.2.2.2.2.2.2.2.2.2.2.2.2.2.2.1 s.2.2.2.2.2.2.2.2.2.2.2.2.2.2.2.2.2.2.2.1 s.2.2.2.2.2.2.2.2.2.2.2.2.2.2.2.2.2.2.2.2.1 s.2.2.2.2.2.2.2.2.2.2.2.2.2.2.2.2.2.2.2.2.2 n (md (wdF pg) k h0) (nI k) = fX7_digest_L138 (nI nbd) (nI pg.length) (nI (bK B)) (nI (bR B)) outer inner content (nI obn) fu (md (wdF pg) pg.length h0) 0 s.1 s.2.1 s.2.2.1 s.2.2.2.1 s.2.2.2.2.1 s.2.2.2.2.2.1 s.2.2.2.2.2.2.1 s.2.2.2.2.2.2.2.1 s.2.2.2.2.2.2.2.2.1 s.2.2.2.2.2.2.2.2.2.1 s.2.2.2.2.2.2.2.2.2.2.1 s.2.2.2.2.2.2.2.2.2.2.2.1 s.2.2.2.2.2.2.2.2.2.2.2.2.1 s.2.2.2.2.2.2.2.2.2.2.2.2.2.1 s.2.2.2.2.2.2.2.2.2.2.2.2.2.2.1 s.2.2.2.2.2.2.2.2.2.2.2.2.2.2.2.1 s.2.2.2.2.2.2.2.2.2.2.2.2.2.2.2.2.1 s.2.2.2.2.2.2.2.2.2.2.2.2.2.2.2.2.2.1 s.2.2.2.2.2.2.2.2.2.2.2.2.2.2.2.2.2.2.1 s.2.2.2.2.2.2.2.2.2.2.2.2.2.2.2.2.2.2.2.1 s.2.2.2.2.2.2.2.2.2.2.2.2.2.2.2.2.2.2.2.2.1 s.2.2.2.2.2.2.2.2.2.2.2.2.2.2.2.2.2.2.2.2.2 := by
  have l20 := hpg.1
  intro m
  induction m with
  | zero =>
    intro k n h hn
    obtain ⟨n, rfl, -⟩ := fuel hn
    have e : k = pg.length := by omega
    rw [fX7_digest_L104, e, if_pos (nI_le (Nat.le_refl _) (by omega))]
  | succ m ih =>
    intro k n h hn
    obtain ⟨n, rfl, hn2⟩ := fuel hn
    rw [fX7_digest_L104, if_neg (nI_ge (show k < pg.length by omega) (by omega)), gd_in (show k < 20 by omega) (by decide), mX, bd_s, nI_clamp (by omega), hg k (by omega), nI_1]
    exact ih (k + 1) n (by omega) (by omega)
theorem dX_80 {B : Bd} (hB : BdOK B) {outer inner content : Nat → Int32} (a1 : rq_4 outer (bo B)) (a2 : rq_4 inner (bi B)) (a3 : rq_4 content (bc B)) (nbd : Nat) (ob : List (Nat × Bool)) {v : Int32} (hv : fX2_bestQuestion (kof ob) = some v) {pg : List Nat} (hpg : pgOK pg) {codes : Nat → Int32} (hg : agr codes pg) (h0 : Int64) (s : TX) (hs : CXr B s) : ∃ s', CXr B s' ∧ fX7_digest_J80 (nI nbd) codes (nI pg.length) (nI (bK B)) (nI (bR B)) outer inner content (nI ob.length) (kof ob) h0 s.1 s.2.1 s.2.2.1 s.2.2.2.1 s.2.2.2.2.1 s.2.2.2.2.2.1 s.2.2.2.2.2.2.1 s.2.2.2.2.2.2.2.1 s.2.2.2.2.2.2.2.2.1 s.2.2.2.2.2.2.2.2.2.1 s.2.2.2.2.2.2.2.2.2.2.1 s.2.2.2.2.2.2.2.2.2.2.2.1 s.2.2.2.2.2.2.2.2.2.2.2.2.1 s.2.2.2.2.2.2.2.2.2.2.2.2.2.1 s.2.2.2.2.2.2.2.2.2.2.2.2.2.2.1 s.2.2.2.2.2.2.2.2.2.2.2.2.2.2.2.1 s.2.2.2.2.2.2.2.2.2.2.2.2.2.2.2.2.1 s.2.2.2.2.2.2.2.2.2.2.2.2.2.2.2.2.2.1 s.2.2.2.2.2.2.2.2.2.2.2.2.2.2.2.2.2.2.1 s.2.2.2.2.2.2.2.2.2.2.2.2.2.2.2.2.2.2.2.1 s.2.2.2.2.2.2.2.2.2.2.2.2.2.2.2.2.2.2.2.2.1 s.2.2.2.2.2.2.2.2.2.2.2.2.2.2.2.2.2.2.2.2.2 = some (HE B ob pg nbd v h0, s') := by
  have s0 : fX7_sorts 0 (kof ob) = some (kof ob) := rfl
  have s1 : fX7_sorts 1 (kof ob) = some v := by
    unfold fX7_sorts fX7_sorts_J33
    rw [if_neg (by decide), if_pos (by decide), if_neg (by decide), hv, bd_s]
  obtain ⟨s', g1, g2⟩ := dX_138 hB a1 a2 a3 ob.length pg.length nbd (md (wdF pg) pg.length (31 * (31 * h0 + (kof ob).toInt64) + v.toInt64)) 8 0 fu s (by omega) (by unfold fu; omega) hs
  refine ⟨s', g1, ?_⟩
  unfold fX7_digest_J80
  rw [s0, bd_s, mX, bd_s, s1, bd_s, mX, bd_s]
  exact (dX_104 ob.length nbd hpg hg (31 * (31 * h0 + (kof ob).toInt64) + v.toInt64) s pg.length 0 fu (by omega) (by have := hpg.1; unfold fu; omega)).trans g2
/-! fillings and terms in the class' checksum -/
theorem dX_82 {B : Bd} (hB : BdOK B) {inner : Nat → Int32} (a2 : rq_4 inner (bi B)) (c' m' l' r' co' be' ab' rs' : Nat → Int32) (hc : agr c' ((fls B).map codeL)) (hr : agr r' (rowsL B (bR B))) {k i : Nat} (hk : k < (fls B).length) (hi : i ≤ bR B) (h0 : Int64) (k67 : Int64 → Int32 → Option (Int64 × Int32 × Int32 × Int32 × (Nat → Int32) × (Nat → Int32) × (Nat → Int32) × (Nat → Int32) × (Nat → Int32) × (Nat → Int32) × (Nat → Int32) × (Nat → Int32) × Int32)) : ∀ (m j n : Nat), j + m = 5 → m < n → fX7_digestFillings_L82 (nI (bR B)) inner (1, nI (fls B).length, nI (bK B), c', m', l', r', co', be', ab', rs', nI (nbx B)) (nI k) (nI i) k67 n (md (hvF B ((fls B).getD k []) i) j h0) (nI j) = k67 (md (hvF B ((fls B).getD k []) i) 5 h0) (nI (i + 1)) := by
  intro m
  induction m with
  | zero =>
    intro j n h hn
    obtain ⟨n, rfl, -⟩ := fuel hn
    have e : j = 5 := by omega
    subst e
    rw [fX7_digestFillings_L82, if_pos (by decide), nI_1]
  | succ m ih =>
    intro j n h hn
    obtain ⟨n, rfl, hn2⟩ := fuel hn
    rw [fX7_digestFillings_L82, if_neg (show ¬ 4 < nI j from nI_nlt (a := 4) (by omega) (by decide))]
    dsimp only
    rw [f_partialSum hB hc hr a2 hk hi (show j ≤ 4 by omega), bd_s, mX, bd_s, nI_1]
    exact ih (j + 1) n (by omega) (by omega)
theorem dX_67 {B : Bd} (hB : BdOK B) {inner : Nat → Int32} (a2 : rq_4 inner (bi B)) (c' m' l' r' co' be' ab' rs' : Nat → Int32) (hc : agr c' ((fls B).map codeL)) (hr : agr r' (rowsL B (bR B))) {k : Nat} (hk : k < (fls B).length) (h0 : Int64) (k11 : Int64 → Int32 → Option (Int64 × Int32 × Int32 × Int32 × (Nat → Int32) × (Nat → Int32) × (Nat → Int32) × (Nat → Int32) × (Nat → Int32) × (Nat → Int32) × (Nat → Int32) × (Nat → Int32) × Int32)) : ∀ (m i n : Nat), i + m = bR B + 1 → m < n → fX7_digestFillings_L67 (nI (bR B)) inner (1, nI (fls B).length, nI (bK B), c', m', l', r', co', be', ab', rs', nI (nbx B)) (nI k) k11 n (mh B ((fls B).getD k []) i h0) (nI i) = k11 (mh B ((fls B).getD k []) (bR B + 1) h0) (nI (k + 1)) := by
  have h4 := hB.2.1
  intro m
  induction m with
  | zero =>
    intro i n h hn
    obtain ⟨n, rfl, -⟩ := fuel hn
    have e : i = bR B + 1 := by omega
    subst e
    rw [fX7_digestFillings_L67, if_pos (nI_lt (by omega) (by omega)), nI_1]
  | succ m ih =>
    intro i n h hn
    obtain ⟨n, rfl, hn2⟩ := fuel hn
    rw [fX7_digestFillings_L67, if_neg (nI_nlt (show i ≤ bR B by omega) (by omega))]
    exact (dX_82 hB a2 c' m' l' r' co' be' ab' rs' hc hr hk (show i ≤ bR B by omega) (mh B ((fls B).getD k []) i h0) _ 5 0 fu (by omega) (by unfold fu; omega)).trans (ih (i + 1) n (by omega) (by omega))
theorem dX_30 {B : Bd} (hB : BdOK B) {inner : Nat → Int32} (a2 : rq_4 inner (bi B)) (c' m' l' r' co' be' ab' rs' : Nat → Int32) (hc : agr c' ((fls B).map codeL)) (hr : agr r' (rowsL B (bR B))) {k : Nat} (hk : k < (fls B).length) (h0 : Int64) (k11 : Int64 → Int32 → Option (Int64 × Int32 × Int32 × Int32 × (Nat → Int32) × (Nat → Int32) × (Nat → Int32) × (Nat → Int32) × (Nat → Int32) × (Nat → Int32) × (Nat → Int32) × (Nat → Int32) × Int32)) : ∀ (m b n : Nat), b + m = nbx B → m < n → fX7_digestFillings_L30 (nI (bR B)) inner (1, nI (fls B).length, nI (bK B), c', m', l', r', co', be', ab', rs', nI (nbx B)) (nI k) k11 n (md (wdF ((fls B).getD k [])) b h0) (nI b) = k11 (mw B ((fls B).getD k []) h0) (nI (k + 1)) := by
  have n9 := hB.2.2.2.2.2.2.1
  have h4 := hB.2.1
  intro m
  induction m with
  | zero =>
    intro b n h hn
    obtain ⟨n, rfl, -⟩ := fuel hn
    have e : b = nbx B := by omega
    subst e
    rw [fX7_digestFillings_L30]
    dsimp only
    rw [if_pos (nI_le (Nat.le_refl _) (by omega))]
    exact dX_67 hB a2 c' m' l' r' co' be' ab' rs' hc hr hk (md (wdF ((fls B).getD k [])) (nbx B) h0) k11 (bR B + 1) 0 fu (by omega) (by unfold fu; omega)
  | succ m ih =>
    intro b n h hn
    obtain ⟨n, rfl, hn2⟩ := fuel hn
    rw [fX7_digestFillings_L30]
    dsimp only
    rw [if_neg (nI_ge (show b < nbx B by omega) (by omega)), f_numberIn hB hc hk (show b < nbx B by omega), bd_s, mX, bd_s, nI_1]
    exact ih (b + 1) n (by omega) (by omega)
theorem dX_11 {B : Bd} (hB : BdOK B) {inner : Nat → Int32} (a2 : rq_4 inner (bi B)) (c' m' l' r' co' be' ab' rs' : Nat → Int32) (hc : agr c' ((fls B).map codeL)) (hr : agr r' (rowsL B (bR B))) (h0 : Int64) (k124 : Int64 → Option (Int64 × Int32 × Int32 × Int32 × (Nat → Int32) × (Nat → Int32) × (Nat → Int32) × (Nat → Int32) × (Nat → Int32) × (Nat → Int32) × (Nat → Int32) × (Nat → Int32) × Int32)) : ∀ (m k n : Nat), k + m = cap3 B → m < n → fX7_digestFillings_L11 (nI (bR B)) inner (1, nI (fls B).length, nI (bK B), c', m', l', r', co', be', ab', rs', nI (nbx B)) k124 n (mfw B k h0) (nI k) = k124 (mfw B (cap3 B) h0) := by
  have n9 := hB.2.2.2.2.2.2.1
  have b4 := fls_400 hB
  intro m
  induction m with
  | zero =>
    intro k n h hn
    obtain ⟨n, rfl, -⟩ := fuel hn
    have e : k = cap3 B := by omega
    rw [e, fX7_digestFillings_L11]
    dsimp only
    unfold cap3
    by_cases q : (fls B).length < 3
    · rw [if_pos q, if_pos (nI_le (Nat.le_refl _) (by omega))]
    · rw [if_neg q]
      by_cases q2 : (fls B).length ≤ 3
      · rw [if_pos (nI_le q2 (by decide))]
      · rw [if_neg (nI_ge (by omega) (by omega)), if_pos (by decide)]
  | succ m ih =>
    intro k n h hn
    obtain ⟨n, rfl, hn2⟩ := fuel hn
    have hk : k < (fls B).length ∧ k < 3 := by
      unfold cap3 at h
      by_cases q : (fls B).length < 3
      · rw [if_pos q] at h; omega
      · rw [if_neg q] at h; omega
    rw [fX7_digestFillings_L11]
    dsimp only
    rw [if_neg (nI_ge hk.1 (by omega)), if_neg (show ¬ 3 ≤ nI k from nI_ge (b := 3) hk.2 (by decide))]
    exact (dX_30 hB a2 c' m' l' r' co' be' ab' rs' hc hr hk.1 (mfw B k h0) _ (nbx B) 0 fu (by omega) (by unfold fu; omega)).trans (ih (k + 1) n (by omega) (by omega))
theorem dX_F {B : Bd} (hB : BdOK B) {outer inner content : Nat → Int32} (a1 : rq_4 outer (bo B)) (a2 : rq_4 inner (bi B)) (a3 : rq_4 content (bc B)) (h0 : Int64) (s : TF) (hs : CFr B s) : ∃ s', CFr B s' ∧ fX7_digestFillings h0 s.1 (nI (bK B)) (nI (bR B)) outer inner content s.2.1 s.2.2.1 s.2.2.2.1 s.2.2.2.2.1 s.2.2.2.2.2.1 s.2.2.2.2.2.2.1 s.2.2.2.2.2.2.2.1 s.2.2.2.2.2.2.2.2.1 s.2.2.2.2.2.2.2.2.2.1 s.2.2.2.2.2.2.2.2.2.2.1 s.2.2.2.2.2.2.2.2.2.2.2 = some (mfw B (cap3 B) h0, s') := by
  obtain ⟨c', m', l', r', co', be', ab', rs', hF, eF⟩ := f_fresh (num := s.2.2.2.2.1) (left := s.2.2.2.2.2.1) hB a1 a2 a3 hs
  refine ⟨(1, nI (fls B).length, nI (bK B), c', m', l', r', co', be', ab', rs', nI (nbx B)), Or.inr ⟨rfl, hF⟩, ?_⟩
  unfold fX7_digestFillings
  rw [eF, bd_s]
  exact dX_11 hB a2 c' m' l' r' co' be' ab' rs' hF.2.2.2 hF.2.1.2.1 h0 _ (cap3 B) 0 fu (by omega) (by have := fls_400 hB; unfold cap3 fu; split <;> omega)
theorem dX_24 {B : Bd} (hB : BdOK B) {i' u' l' : Nat → Int32} {e' : Nat → Nat → Int32} {f' k' : Nat → Int32} (hP : PrI B (nI (tms B).length) (nI (tmS (tms B))) (nI (csum B)) i' f' k') {t : Nat} (ht : t < (tms B).length) (h0 : Int64) (k11 : Int64 → Int32 → Option (Int64 × Int32 × Int32 × Int32 × Int32 × (Nat → Int32) × (Nat → Int32) × (Nat → Int32) × (Nat → Nat → Int32) × (Nat → Int32) × (Nat → Int32))) : ∀ (m j n : Nat), j + m = 5 → m < n → fX7_digestTerms_L24 (1, nI (tms B).length, nI (tmS (tms B)), nI (csum B), i', u', l', e', f', k') (nI t) k11 n (md (tmF B t) j h0) (nI j) = k11 (md (tmF B t) 5 h0) (nI (t + 1)) := by
  intro m
  induction m with
  | zero =>
    intro j n h hn
    obtain ⟨n, rfl, -⟩ := fuel hn
    have e : j = 5 := by omega
    subst e
    rw [fX7_digestTerms_L24, if_pos (by decide), nI_1]
  | succ m ih =>
    intro j n h hn
    obtain ⟨n, rfl, hn2⟩ := fuel hn
    rw [fX7_digestTerms_L24, if_neg (show ¬ 4 < nI j from nI_nlt (a := 4) (by omega) (by decide))]
    dsimp only
    rw [f_propertyOf hB hP ht (show j < 5 by omega), bd_s, mX, bd_s, nI_1]
    exact ih (j + 1) n (by omega) (by omega)
theorem dX_T {B : Bd} (hB : BdOK B) {inner content : Nat → Int32} (a2 : rq_4 inner (bi B)) (a3 : rq_4 content (bc B)) (h0 : Int64) (s : TP) (hs : CPr B s) : ∃ s', CPr B s' ∧ fX7_digestTerms h0 s.1 (nI (bR B)) inner content s.2.1 s.2.2.1 s.2.2.2.1 s.2.2.2.2.1 s.2.2.2.2.2.1 s.2.2.2.2.2.2.1 s.2.2.2.2.2.2.2.1 s.2.2.2.2.2.2.2.2.1 s.2.2.2.2.2.2.2.2.2 = some (mt B (tms B).length h0, s') := by
  have k2 := tms_220 hB
  obtain ⟨i', u', l', e', f', k', hP, eP⟩ := f_freshP (used := s.2.2.2.2.2.1) (left := s.2.2.2.2.2.2.1) (ends := s.2.2.2.2.2.2.2.1) hB a2 a3 hs
  refine ⟨(1, nI (tms B).length, nI (tmS (tms B)), nI (csum B), i', u', l', e', f', k'), Or.inr ⟨rfl, hP⟩, ?_⟩
  have L : ∀ (m t n : Nat), t + m = (tms B).length → m < n → fX7_digestTerms_L11 (1, nI (tms B).length, nI (tmS (tms B)), nI (csum B), i', u', l', e', f', k') n (mt B t h0) (nI t) = some (mt B (tms B).length h0, (1, nI (tms B).length, nI (tmS (tms B)), nI (csum B), i', u', l', e', f', k')) := by
    intro m
    induction m with
    | zero =>
      intro t n h hn
      obtain ⟨n, rfl, -⟩ := fuel hn
      have e : t = (tms B).length := by omega
      rw [e, fX7_digestTerms_L11]
      dsimp only
      rw [if_pos (nI_le (Nat.le_refl _) (by omega))]
    | succ m ih =>
      intro t n h hn
      obtain ⟨n, rfl, hn2⟩ := fuel hn
      rw [fX7_digestTerms_L11]
      dsimp only
      rw [if_neg (nI_ge (show t < (tms B).length by omega) (by omega))]
      exact (dX_24 hB hP (show t < (tms B).length by omega) (mt B t h0) _ 5 0 fu (by omega) (by unfold fu; omega)).trans (ih (t + 1) n (by omega) (by omega))
  unfold fX7_digestTerms
  rw [eP, bd_s]
  exact L (tms B).length 0 fu (by omega) (by unfold fu; omega)
theorem f_aboutX {B : Bd} (hB : BdOK B) (hR : bR B ≠ 0) {outer inner content : Nat → Int32} (a1 : rq_4 outer (bo B)) (a2 : rq_4 inner (bi B)) (a3 : rq_4 content (bc B)) {w : Nat} (hw : w < 5) (s : TF) (hs : CFr B s) : ∃ r, fX7_about (nI w) s.1 (nI (bK B)) (nI (bR B)) outer inner content s.2.1 s.2.2.1 s.2.2.2.1 s.2.2.2.2.1 s.2.2.2.2.2.1 s.2.2.2.2.2.2.1 s.2.2.2.2.2.2.2.1 s.2.2.2.2.2.2.2.2.1 s.2.2.2.2.2.2.2.2.2.1 s.2.2.2.2.2.2.2.2.2.2.1 s.2.2.2.2.2.2.2.2.2.2.2 = some r ∧ r.1 = abF B w ∧ CFr B r.2 := by
  unfold fX7_about abF aI
  rw [if_neg (nI_pos (by omega)), if_pos (show nI w ≤ 4 from nI_le (b := 4) (by omega) (by decide)), (a_board hR hB.2.1).1, bd_s, if_pos rfl]
  by_cases e0 : nI w = 0
  · rw [if_pos e0, if_pos e0]
    exact ⟨_, rfl, rfl, hs⟩
  rw [if_neg e0, if_neg e0]
  by_cases e1 : nI w = 1
  · rw [if_pos e1, if_pos e1, f_boxCount hB.2.1 a1 a2 (fun r hr => (hB.2.2.1 r hr).2.2), bd_s]
    exact ⟨_, rfl, rfl, hs⟩
  rw [if_neg e1, if_neg e1]
  by_cases e2 : nI w = 2
  · rw [if_pos e2, if_pos e2]
    exact ⟨_, rfl, rfl, hs⟩
  rw [if_neg e2, if_neg e2]
  by_cases e3 : nI w = 3
  · rw [if_pos e3, if_pos e3, f_contentSum a3, bd_s]
    exact ⟨_, rfl, rfl, hs⟩
  rw [if_neg e3, if_neg e3]
  obtain ⟨c', m', l', r', co', be', ab', rs', hF, eF⟩ := f_fresh (num := s.2.2.2.2.1) (left := s.2.2.2.2.2.1) hB a1 a2 a3 hs
  rw [eF, bd_s]
  exact ⟨_, rfl, rfl, Or.inr ⟨rfl, hF⟩⟩
theorem dX_40 {B : Bd} (hB : BdOK B) (hR : bR B ≠ 0) {outer inner content : Nat → Int32} (a1 : rq_4 outer (bo B)) (a2 : rq_4 inner (bi B)) (a3 : rq_4 content (bc B)) (h0 : Int64) (p : TP) (hp : CPr B p) (s : TF) (hs : CFr B s) (k80 : Int64 → Int32 → Int32 → Int32 → Int32 → (Nat → Int32) → (Nat → Int32) → (Nat → Int32) → (Nat → Int32) → (Nat → Int32) → (Nat → Int32) → (Nat → Int32) → (Nat → Int32) → Int32 → Int32 → Int32 → Int32 → (Nat → Int32) → (Nat → Int32) → (Nat → Int32) → (Nat → Nat → Int32) → (Nat → Int32) → (Nat → Int32) → Option (Int64 × Int32 × Int32 × Int32 × Int32 × (Nat → Int32) × (Nat → Int32) × (Nat → Int32) × (Nat → Int32) × (Nat → Int32) × (Nat → Int32) × (Nat → Int32) × (Nat → Int32) × Int32 × Int32 × Int32 × Int32 × (Nat → Int32) × (Nat → Int32) × (Nat → Int32) × (Nat → Nat → Int32) × (Nat → Int32) × (Nat → Int32))) : ∀ (m q n : Nat), q + m = 2 * bR B + 7 → m < n → ∃ s', CXr B s' ∧ fX7_digest_L40 p.1 (nI (bK B)) (nI (bR B)) outer inner content p.2.1 p.2.2.1 p.2.2.2.1 p.2.2.2.2.1 p.2.2.2.2.2.1 p.2.2.2.2.2.2.1 p.2.2.2.2.2.2.2.1 p.2.2.2.2.2.2.2.2.1 p.2.2.2.2.2.2.2.2.2 s.1 s.2.1 s.2.2.1 s.2.2.2.1 s.2.2.2.2.1 s.2.2.2.2.2.1 s.2.2.2.2.2.2.1 s.2.2.2.2.2.2.2.1 s.2.2.2.2.2.2.2.2.1 s.2.2.2.2.2.2.2.2.2.1 s.2.2.2.2.2.2.2.2.2.2.1 s.2.2.2.2.2.2.2.2.2.2.2 k80 n (md (txF B) q h0) (nI q) = k80 (mt B (tms B).length (mfw B (cap3 B) (md (txF B) (2 * bR B + 7) h0))) s'.1 s'.2.1 s'.2.2.1 s'.2.2.2.1 s'.2.2.2.2.1 s'.2.2.2.2.2.1 s'.2.2.2.2.2.2.1 s'.2.2.2.2.2.2.2.1 s'.2.2.2.2.2.2.2.2.1 s'.2.2.2.2.2.2.2.2.2.1 s'.2.2.2.2.2.2.2.2.2.2.1 s'.2.2.2.2.2.2.2.2.2.2.2.1 s'.2.2.2.2.2.2.2.2.2.2.2.2.1 s'.2.2.2.2.2.2.2.2.2.2.2.2.2.1 s'.2.2.2.2.2.2.2.2.2.2.2.2.2.2.1 s'.2.2.2.2.2.2.2.2.2.2.2.2.2.2.2.1 s'.2.2.2.2.2.2.2.2.2.2.2.2.2.2.2.2.1 s'.2.2.2.2.2.2.2.2.2.2.2.2.2.2.2.2.2.1 s'.2.2.2.2.2.2.2.2.2.2.2.2.2.2.2.2.2.2.1 s'.2.2.2.2.2.2.2.2.2.2.2.2.2.2.2.2.2.2.2.1 s'.2.2.2.2.2.2.2.2.2.2.2.2.2.2.2.2.2.2.2.2.1 s'.2.2.2.2.2.2.2.2.2.2.2.2.2.2.2.2.2.2.2.2.2 := by
  have h4 := hB.2.1
  intro m
  induction m with
  | zero =>
    intro q n h hn
    obtain ⟨n, rfl, -⟩ := fuel hn
    have e : q = 2 * bR B + 7 := by omega
    subst e
    obtain ⟨s1, g1, e1⟩ := dX_F hB a1 a2 a3 (md (txF B) (2 * bR B + 7) h0) s hs
    obtain ⟨p1, g2, e2⟩ := dX_T hB a2 a3 (mfw B (cap3 B) (md (txF B) (2 * bR B + 7) h0)) p hp
    refine ⟨(s1.1, p1.1, s1.2.1, s1.2.2.1, s1.2.2.2.1, s1.2.2.2.2.1, s1.2.2.2.2.2.1, s1.2.2.2.2.2.2.1, s1.2.2.2.2.2.2.2.1, s1.2.2.2.2.2.2.2.2.1, s1.2.2.2.2.2.2.2.2.2.1, s1.2.2.2.2.2.2.2.2.2.2.1, s1.2.2.2.2.2.2.2.2.2.2.2, p1.2.1, p1.2.2.1, p1.2.2.2.1, p1.2.2.2.2.1, p1.2.2.2.2.2.1, p1.2.2.2.2.2.2.1, p1.2.2.2.2.2.2.2.1, p1.2.2.2.2.2.2.2.2.1, p1.2.2.2.2.2.2.2.2.2), ⟨g1, g2⟩, ?_⟩
    rw [fX7_digest_L40, f_signCount h4, bd_s, if_neg hR, if_pos (nI_le (Nat.le_refl _) (by omega)), e1, bd_s]
    dsimp only
    rw [e2, bd_s]
  | succ m ih =>
    intro q n h hn
    obtain ⟨n, rfl, hn2⟩ := fuel hn
    obtain ⟨s', g1, g2⟩ := ih (q + 1) n (by omega) (by omega)
    refine ⟨s', g1, ?_⟩
    rw [fX7_digest_L40, f_signCount h4, bd_s, if_neg hR, if_neg (nI_ge (show q < 2 * bR B + 7 by omega) (by omega))]
    unfold fX7_text
    rw [tx_X hB hR a1 a2 a3 (show q < 2 * bR B + 7 by omega), bd_s, bd_s, mX, bd_s, nI_1]
    exact g2
theorem dX_16 {B : Bd} (hB : BdOK B) (hR : bR B ≠ 0) {outer inner content : Nat → Int32} (a1 : rq_4 outer (bo B)) (a2 : rq_4 inner (bi B)) (a3 : rq_4 content (bc B)) (h0 : Int64) (p : TP) (hp : CPr B p) (k80 : Int64 → Int32 → Int32 → Int32 → Int32 → (Nat → Int32) → (Nat → Int32) → (Nat → Int32) → (Nat → Int32) → (Nat → Int32) → (Nat → Int32) → (Nat → Int32) → (Nat → Int32) → Int32 → Int32 → Int32 → Int32 → (Nat → Int32) → (Nat → Int32) → (Nat → Int32) → (Nat → Nat → Int32) → (Nat → Int32) → (Nat → Int32) → Option (Int64 × Int32 × Int32 × Int32 × Int32 × (Nat → Int32) × (Nat → Int32) × (Nat → Int32) × (Nat → Int32) × (Nat → Int32) × (Nat → Int32) × (Nat → Int32) × (Nat → Int32) × Int32 × Int32 × Int32 × Int32 × (Nat → Int32) × (Nat → Int32) × (Nat → Int32) × (Nat → Nat → Int32) × (Nat → Int32) × (Nat → Int32))) : ∀ (m w n : Nat) (s : TF), w + m = 5 → m < n → CFr B s → ∃ s', CXr B s' ∧ fX7_digest_L16 p.1 (nI (bK B)) (nI (bR B)) outer inner content p.2.1 p.2.2.1 p.2.2.2.1 p.2.2.2.2.1 p.2.2.2.2.2.1 p.2.2.2.2.2.2.1 p.2.2.2.2.2.2.2.1 p.2.2.2.2.2.2.2.2.1 p.2.2.2.2.2.2.2.2.2 k80 n (md (abF B) w h0) (nI w) s.1 s.2.1 s.2.2.1 s.2.2.2.1 s.2.2.2.2.1 s.2.2.2.2.2.1 s.2.2.2.2.2.2.1 s.2.2.2.2.2.2.2.1 s.2.2.2.2.2.2.2.2.1 s.2.2.2.2.2.2.2.2.2.1 s.2.2.2.2.2.2.2.2.2.2.1 s.2.2.2.2.2.2.2.2.2.2.2 = k80 (HB B h0) s'.1 s'.2.1 s'.2.2.1 s'.2.2.2.1 s'.2.2.2.2.1 s'.2.2.2.2.2.1 s'.2.2.2.2.2.2.1 s'.2.2.2.2.2.2.2.1 s'.2.2.2.2.2.2.2.2.1 s'.2.2.2.2.2.2.2.2.2.1 s'.2.2.2.2.2.2.2.2.2.2.1 s'.2.2.2.2.2.2.2.2.2.2.2.1 s'.2.2.2.2.2.2.2.2.2.2.2.2.1 s'.2.2.2.2.2.2.2.2.2.2.2.2.2.1 s'.2.2.2.2.2.2.2.2.2.2.2.2.2.2.1 s'.2.2.2.2.2.2.2.2.2.2.2.2.2.2.2.1 s'.2.2.2.2.2.2.2.2.2.2.2.2.2.2.2.2.1 s'.2.2.2.2.2.2.2.2.2.2.2.2.2.2.2.2.2.1 s'.2.2.2.2.2.2.2.2.2.2.2.2.2.2.2.2.2.2.1 s'.2.2.2.2.2.2.2.2.2.2.2.2.2.2.2.2.2.2.2.1 s'.2.2.2.2.2.2.2.2.2.2.2.2.2.2.2.2.2.2.2.2.1 s'.2.2.2.2.2.2.2.2.2.2.2.2.2.2.2.2.2.2.2.2.2 := by
  intro m
  induction m with
  | zero =>
    intro w n s h hn hs
    obtain ⟨n, rfl, -⟩ := fuel hn
    have e : w = 5 := by omega
    subst e
    obtain ⟨s', g1, g2⟩ := dX_40 hB hR a1 a2 a3 (md (abF B) 5 h0) p hp s hs k80 (2 * bR B + 7) 0 fu (by omega) (by have := hB.2.1; unfold fu; omega)
    refine ⟨s', g1, ?_⟩
    rw [fX7_digest_L16, if_pos (by decide)]
    exact g2
  | succ m ih =>
    intro w n s h hn hs
    obtain ⟨n, rfl, hn2⟩ := fuel hn
    obtain ⟨r, e1, e2, e3⟩ := f_aboutX hB hR a1 a2 a3 (show w < 5 by omega) s hs
    obtain ⟨s', g1, g2⟩ := ih (w + 1) n r.2 (by omega) (by omega) e3
    refine ⟨s', g1, ?_⟩
    rw [fX7_digest_L16, if_neg (show ¬ 4 < nI w from nI_nlt (a := 4) (by omega) (by decide)), e1, bd_s, mX, bd_s, e2, nI_1]
    exact g2
def HT (B : Bd) (ob : List (Nat × Bool)) (pg : List Nat) (nbd : Nat) (v : Int32) : Int64 := HE B ob pg nbd v (if bR B = 0 then 1471 else HB B 1471)
theorem dX {B : Bd} (hB : BdOK B) {outer inner content : Nat → Int32} (a1 : rq_4 outer (bo B)) (a2 : rq_4 inner (bi B)) (a3 : rq_4 content (bc B)) (nbd : Nat) (ob : List (Nat × Bool)) {v : Int32} (hv : fX2_bestQuestion (kof ob) = some v) {pg : List Nat} (hpg : pgOK pg) {codes : Nat → Int32} (hg : agr codes pg) (s : TX) (hs : CXr B s) : ∃ s', CXr B s' ∧ fX7_digest (nI nbd) s.1 s.2.1 codes (nI pg.length) (nI (bK B)) (nI (bR B)) outer inner content (nI ob.length) (kof ob) s.2.2.1 s.2.2.2.1 s.2.2.2.2.1 s.2.2.2.2.2.1 s.2.2.2.2.2.2.1 s.2.2.2.2.2.2.2.1 s.2.2.2.2.2.2.2.2.1 s.2.2.2.2.2.2.2.2.2.1 s.2.2.2.2.2.2.2.2.2.2.1 s.2.2.2.2.2.2.2.2.2.2.2.1 s.2.2.2.2.2.2.2.2.2.2.2.2.1 s.2.2.2.2.2.2.2.2.2.2.2.2.2.1 s.2.2.2.2.2.2.2.2.2.2.2.2.2.2.1 s.2.2.2.2.2.2.2.2.2.2.2.2.2.2.2.1 s.2.2.2.2.2.2.2.2.2.2.2.2.2.2.2.2.1 s.2.2.2.2.2.2.2.2.2.2.2.2.2.2.2.2.2.1 s.2.2.2.2.2.2.2.2.2.2.2.2.2.2.2.2.2.2.1 s.2.2.2.2.2.2.2.2.2.2.2.2.2.2.2.2.2.2.2.1 s.2.2.2.2.2.2.2.2.2.2.2.2.2.2.2.2.2.2.2.2.1 s.2.2.2.2.2.2.2.2.2.2.2.2.2.2.2.2.2.2.2.2.2 = some (HT B ob pg nbd v, s') := by
  unfold fX7_digest HT
  by_cases hR : bR B = 0
  · rw [(no_board hR).1, bd_s, if_neg (by decide), if_pos hR]
    exact dX_80 hB a1 a2 a3 nbd ob hv hpg hg 1471 s hs
  · rw [(a_board hR hB.2.1).1, bd_s, if_pos rfl, if_neg hR]
    obtain ⟨s1, g1, g2⟩ := dX_16 hB hR a1 a2 a3 1471 (s.2.1, s.2.2.2.2.2.2.2.2.2.2.2.2.2.1, s.2.2.2.2.2.2.2.2.2.2.2.2.2.2.1, s.2.2.2.2.2.2.2.2.2.2.2.2.2.2.2.1, s.2.2.2.2.2.2.2.2.2.2.2.2.2.2.2.2.1, s.2.2.2.2.2.2.2.2.2.2.2.2.2.2.2.2.2.1, s.2.2.2.2.2.2.2.2.2.2.2.2.2.2.2.2.2.2.1, s.2.2.2.2.2.2.2.2.2.2.2.2.2.2.2.2.2.2.2.1, s.2.2.2.2.2.2.2.2.2.2.2.2.2.2.2.2.2.2.2.2.1, s.2.2.2.2.2.2.2.2.2.2.2.2.2.2.2.2.2.2.2.2.2) hs.2 (fX7_digest_J80 (nI nbd) codes (nI pg.length) (nI (bK B)) (nI (bR B)) outer inner content (nI ob.length) (kof ob)) 5 0 fu (s.1, s.2.2.1, s.2.2.2.1, s.2.2.2.2.1, s.2.2.2.2.2.1, s.2.2.2.2.2.2.1, s.2.2.2.2.2.2.2.1, s.2.2.2.2.2.2.2.2.1, s.2.2.2.2.2.2.2.2.2.1, s.2.2.2.2.2.2.2.2.2.2.1, s.2.2.2.2.2.2.2.2.2.2.2.1, s.2.2.2.2.2.2.2.2.2.2.2.2.1) (by omega) (by unfold fu; omega) hs.1
    obtain ⟨s2, k1, k2⟩ := dX_80 hB a1 a2 a3 nbd ob hv hpg hg (HB B 1471) s1 g1
    exact ⟨s2, k1, (show _ from g2).trans k2⟩
