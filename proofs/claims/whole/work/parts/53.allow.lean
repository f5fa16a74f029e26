/-! which lengths are allowed -/
def updN (g : Nat → Nat) (k v : Nat) : Nat → Nat := fun j => if j = k then v else g j
theorem rq_upd {f : Nat → Int32} {g : Nat → Nat} (h : rq_4 f g) (k v : Nat) : rq_4 (upd f k (nI v)) (updN g k v) := fun j hj => by
  unfold upd updN
  by_cases e : j = k
  · rw [if_pos e, if_pos e]
  · rw [if_neg e, if_neg e]; exact h j hj
def okR (o i : Nat → Int32) (r : Nat) : Prop := (¬ o r < 1 ∧ ¬ (if r = 0 then (5 : Int32) else o (r - 1)) < o r) ∧ ¬ i r < 0 ∧ ¬ (if r = 0 then (5 : Int32) else i (r - 1)) < i r ∧ ¬ o r < i r
theorem f_outer {r : Nat} (hr : r < 4) (p : Int32) (o : Nat → Int32) : fX4_outerAllowed (nI r) p o = some (if ¬ p < 1 ∧ ¬ (if r = 0 then (5 : Int32) else o (r - 1)) < p then 1 else 0) := by
  have fin : ∀ y : Int32, fX4_outerAllowed_J16 p y = some (if ¬ p < 1 ∧ ¬ y < p then 1 else 0) := by
    intro y
    unfold fX4_outerAllowed_J16 fX4_outerAllowed_J31 fX4_outerAllowed_J32
    by_cases h1 : p < 1
    · rw [if_pos h1, if_neg (fun h => h.1 h1)]; rfl
    · by_cases h2 : y < p
      · rw [if_neg h1, if_pos h2, if_neg (fun h => h.2 h2)]; rfl
      · rw [if_neg h1, if_neg h2, if_pos ⟨h1, h2⟩]; rfl
  unfold fX4_outerAllowed
  by_cases h0 : r = 0
  · subst h0
    rw [if_pos (show nI 0 = 0 from rfl), if_pos rfl, fin]
  · rw [if_neg (nI_ne0 (by omega) (by omega)), if_neg h0, show (1 : Int32) = nI 1 from rfl, nI_sub (by omega), gd_in (show r - 1 < 4 by omega) (by decide), nI_clamp (by omega)]
    exact fin _
theorem f_inner {r : Nat} (hr : r < 4) (p : Int32) (o i : Nat → Int32) : fX4_innerAllowed (nI r) p o i = some (if ¬ p < 0 ∧ ¬ (if r = 0 then (5 : Int32) else i (r - 1)) < p ∧ ¬ o r < p then 1 else 0) := by
  have fin : ∀ y : Int32, fX4_innerAllowed_J16 o (nI r) p y = some (if ¬ p < 0 ∧ ¬ y < p ∧ ¬ o r < p then 1 else 0) := by
    intro y
    unfold fX4_innerAllowed_J16 fX4_innerAllowed_J40 fX4_innerAllowed_J41
    rw [gd_in hr (by decide), nI_clamp (by omega)]
    by_cases h1 : p < 0
    · rw [if_pos h1, if_neg (fun h => h.1 h1)]; rfl
    · by_cases h2 : y < p
      · rw [if_neg h1, if_pos h2, if_neg (fun h => h.2.1 h2)]; rfl
      · by_cases h3 : o r < p
        · rw [if_neg h1, if_neg h2, if_pos h3, if_neg (fun h => h.2.2 h3)]; rfl
        · rw [if_neg h1, if_neg h2, if_neg h3, if_pos ⟨h1, h2, h3⟩]; rfl
  unfold fX4_innerAllowed
  by_cases h0 : r = 0
  · subst h0
    rw [if_pos (show nI 0 = 0 from rfl), if_pos rfl, fin]
  · rw [if_neg (nI_ne0 (by omega) (by omega)), if_neg h0, show (1 : Int32) = nI 1 from rfl, nI_sub (by omega), gd_in (show r - 1 < 4 by omega) (by decide), nI_clamp (by omega)]
    exact fin _
theorem len_ok {R : Nat} (hR : R ≤ 4) {o i : Nat → Int32} (h : ∀ r, r < R → okR o i r) : fX4_lengthsAllowed (nI R) o i = some 1 := by
  have L : ∀ (m r n : Nat), r + m = R → m < n → fX4_lengthsAllowed_L2 (nI R) o i fX4_lengthsAllowed_J38 n (nI r) = some 1 := by
    intro m
    induction m with
    | zero =>
      intro r n e hn
      obtain ⟨n, rfl, -⟩ := fuel hn
      rw [fX4_lengthsAllowed_L2, if_pos (nI_le (by omega) (by omega))]
    | succ m ih =>
      intro r n e hn
      obtain ⟨n, rfl, h2⟩ := fuel hn
      have hr : r < 4 := by omega
      have q := h r (by omega)
      rw [fX4_lengthsAllowed_L2, if_neg (nI_ge (show r < R by omega) (by omega)), gd_in hr (by decide), nI_clamp (by omega), f_outer hr, if_pos q.1, bd_s, if_neg (by decide), f_inner hr, if_pos q.2, bd_s, if_neg (by decide), nI_1]
      exact ih (r + 1) n (by omega) (by omega)
  exact L R 0 fu (by omega) (by unfold fu; omega)
theorem len_no {R : Nat} (hR : R ≤ 4) {o i : Nat → Int32} {r0 : Nat} (h0 : r0 < R) (h : ¬ okR o i r0) : fX4_lengthsAllowed (nI R) o i = some 0 := by
  have L : ∀ (m r n : Nat), r + m = r0 → m < n → fX4_lengthsAllowed_L2 (nI R) o i fX4_lengthsAllowed_J38 n (nI r) = some 0 := by
    intro m
    induction m with
    | zero =>
      intro r n e hn
      obtain ⟨n, rfl, -⟩ := fuel hn
      have e : r = r0 := by omega
      subst e
      have hr : r < 4 := by omega
      rw [fX4_lengthsAllowed_L2, if_neg (nI_ge h0 (by omega)), gd_in hr (by decide), nI_clamp (by omega), f_outer hr, bd_s]
      by_cases q : ¬ o r < 1 ∧ ¬ (if r = 0 then (5 : Int32) else o (r - 1)) < o r
      · rw [if_pos q, if_neg (by decide), f_inner hr, bd_s, if_neg (fun q2 => h ⟨q, q2⟩), if_pos rfl]; rfl
      · rw [if_neg q, if_pos rfl]; rfl
    | succ m ih =>
      intro r n e hn
      obtain ⟨n, rfl, h2⟩ := fuel hn
      have hr : r < 4 := by omega
      rw [fX4_lengthsAllowed_L2, if_neg (nI_ge (show r < R by omega) (by omega)), gd_in hr (by decide), nI_clamp (by omega), f_outer hr, bd_s]
      by_cases q : ¬ o r < 1 ∧ ¬ (if r = 0 then (5 : Int32) else o (r - 1)) < o r
      · rw [if_pos q, if_neg (by decide), f_inner hr, bd_s]
        by_cases q2 : ¬ i r < 0 ∧ ¬ (if r = 0 then (5 : Int32) else i (r - 1)) < i r ∧ ¬ o r < i r
        · rw [if_pos q2, if_neg (by decide), nI_1]
          exact ih (r + 1) n (by omega) (by omega)
        · rw [if_neg q2, if_pos rfl]; rfl
      · rw [if_neg q, if_pos rfl]; rfl
  exact L r0 0 fu (by omega) (by unfold fu; omega)
/-- the same over natural numbers -/
def okN (o i : Nat → Nat) (r : Nat) : Prop := 1 ≤ o r ∧ o r ≤ (if r = 0 then 5 else o (r - 1)) ∧ i r ≤ (if r = 0 then 5 else i (r - 1)) ∧ i r ≤ o r
theorem okR_N {o i : Nat → Nat} {f g : Nat → Int32} (hf : rq_4 f o) (hg : rq_4 g i) (bo5 : ∀ r, r < 4 → o r < 100) (bi5 : ∀ r, r < 4 → i r < 100) {r : Nat} (hr : r < 4) : okR f g r ↔ okN o i r := by
  have e1 := hf r hr
  have e2 := hg r hr
  have b1 := bo5 r hr
  have b2 := bi5 r hr
  unfold okR okN
  rw [e1, e2]
  by_cases h0 : r = 0
  · subst h0
    simp only [if_true]
    rw [show (1 : Int32) = nI 1 from rfl, show (5 : Int32) = nI 5 from rfl, show (0 : Int32) = nI 0 from rfl, nI_ltI (by omega) (by omega), nI_ltI (by omega) (by omega), nI_ltI (by omega) (by omega), nI_ltI (by omega) (by omega), nI_ltI (by omega) (by omega)]
    omega
  · have b3 := bo5 (r - 1) (by omega)
    have b4 := bi5 (r - 1) (by omega)
    simp only [if_neg h0]
    rw [hf (r - 1) (by omega), hg (r - 1) (by omega), show (1 : Int32) = nI 1 from rfl, show (0 : Int32) = nI 0 from rfl, nI_ltI (by omega) (by omega), nI_ltI (by omega) (by omega), nI_ltI (by omega) (by omega), nI_ltI (by omega) (by omega), nI_ltI (by omega) (by omega)]
    omega
theorem mbo_ok {R r v : Nat} (hR : R ≤ 4) (hr : r < R) {o i : Nat → Int32} {no ni : Nat → Nat} (ho : rq_4 o no) (hi : rq_4 i ni) (h5 : ∀ r, no r ≤ 5) (h6 : ∀ r, ni r ≤ 5) (h : 1 ≤ v ∧ v ≤ 5 ∧ ni r ≤ v ∧ (r = 0 ∨ v ≤ no (r - 1)) ∧ (r + 1 = R ∨ no (r + 1) ≤ v)) : fX8_mayBeOuter (nI r) (nI v) (nI R) o i = some 1 := by
  unfold fX8_mayBeOuter fX8_mayBeOuter_J23 fX8_mayBeOuter_J24 fX8_mayBeOuter_J45 fX8_mayBeOuter_J49 fX8_mayBeOuter_J50 fX8_mayBeOuter_J77 fX8_mayBeOuter_J81 fX8_mayBeOuter_J82
  have b1 := h6 r
  rw [f_within, bd_s, if_neg (show ¬ nI v < 1 from nI_nlt (b := 1) (by omega) (by omega)), if_neg (show ¬ 5 < nI v from nI_nlt (a := 5) (by omega) (by decide)), if_neg (by decide), gd_in (show r < 4 by omega) (by decide), rq_get hi (by omega), if_neg (nI_nlt (by omega) (by omega)), if_neg (by decide)]
  have tail : (if (nI r) = (nI R - 1) then gd (isb 1) (some (1 : Int32)) else gd (inb (nI r + 1) 4) (if nI v < o (nI r + 1).toNatClampNeg then gd (isb 0) (some 0) else gd (isb 1) (some 1))) = some 1 := by
    rw [show (1 : Int32) = nI 1 from rfl, nI_sub (by omega), nI_add]
    by_cases e : r + 1 = R
    · rw [if_pos (by rw [show r = R - 1 by omega])]; rfl
    · have b2 := h5 (r + 1)
      rw [if_neg (fun q => by have := (nI_eq (by omega) (by omega)).mp q; omega), gd_in (show r + 1 < 4 by omega) (by decide), rq_get ho (by omega), if_neg (nI_nlt (by omega) (by omega))]; rfl
  by_cases h0 : r = 0
  · rw [if_pos (show nI r = 0 by rw [h0]; rfl), if_neg (by decide)]
    exact tail
  · have b3 := h5 (r - 1)
    rw [if_neg (nI_ne0 (by omega) (by omega)), show gd (inb (nI r - 1) 4) = gd (inb (nI (r - 1)) 4) by rw [show (1 : Int32) = nI 1 from rfl, nI_sub (by omega)], gd_in (show r - 1 < 4 by omega) (by decide), show (nI r - 1).toNatClampNeg = (nI (r - 1)).toNatClampNeg by rw [show (1 : Int32) = nI 1 from rfl, nI_sub (by omega)], rq_get ho (by omega), if_neg (nI_nlt (by omega) (by omega)), if_neg (by decide)]
    exact tail
theorem mbo50 (R : Int32) (o : Nat → Int32) (a b : Int32) : fX8_mayBeOuter_J50 R o a b 0 = some 0 := by
  unfold fX8_mayBeOuter_J50 fX8_mayBeOuter_J81 fX8_mayBeOuter_J82
  rw [if_pos rfl]; rfl
theorem mbo24 (R : Int32) (o : Nat → Int32) (a b : Int32) : fX8_mayBeOuter_J24 R o a b 0 = some 0 := by
  unfold fX8_mayBeOuter_J24 fX8_mayBeOuter_J49
  rw [if_pos rfl]; exact mbo50 R o a b
theorem mbo_no {R r v : Nat} (hR : R ≤ 4) (hr : r < R) {o i : Nat → Int32} {no ni : Nat → Nat} (ho : rq_4 o no) (hi : rq_4 i ni) (h5 : ∀ r, no r ≤ 5) (h6 : ∀ r, ni r ≤ 5) (hv : v < 100) (h : ¬ (1 ≤ v ∧ v ≤ 5 ∧ ni r ≤ v ∧ (r = 0 ∨ v ≤ no (r - 1)) ∧ (r + 1 = R ∨ no (r + 1) ≤ v))) : fX8_mayBeOuter (nI r) (nI v) (nI R) o i = some 0 := by
  have b1 := h6 r
  unfold fX8_mayBeOuter fX8_mayBeOuter_J23
  rw [f_within, bd_s]
  by_cases c1 : v < 1
  · rw [if_pos (show nI v < 1 from nI_lt (b := 1) c1 (by decide)), if_pos rfl, mbo24]
  · rw [if_neg (show ¬ nI v < 1 from nI_nlt (b := 1) (by omega) (by omega))]
    by_cases c2 : 5 < v
    · rw [if_pos (show 5 < nI v from nI_lt (a := 5) c2 (by omega)), if_pos rfl, mbo24]
    · rw [if_neg (show ¬ 5 < nI v from nI_nlt (a := 5) (by omega) (by decide)), if_neg (by decide), gd_in (show r < 4 by omega) (by decide), rq_get hi (by omega)]
      by_cases c3 : v < ni r
      · rw [if_pos (nI_lt c3 (by omega)), mbo24]
      · rw [if_neg (nI_nlt (by omega) (by omega))]
        unfold fX8_mayBeOuter_J24 fX8_mayBeOuter_J49 fX8_mayBeOuter_J45
        rw [if_neg (by decide)]
        have tail : r = 0 ∨ v ≤ no (r - 1) → fX8_mayBeOuter_J50 (nI R) o (nI r) (nI v) 1 = some 0 := by
          intro hq
          have e : r + 1 < R ∧ v < no (r + 1) := by omega
          unfold fX8_mayBeOuter_J50 fX8_mayBeOuter_J77 fX8_mayBeOuter_J81 fX8_mayBeOuter_J82
          have b2 := h5 (r + 1)
          rw [if_neg (by decide), show (1 : Int32) = nI 1 from rfl, nI_sub (by omega), nI_add, if_neg (fun q => by have := (nI_eq (by omega) (by omega)).mp q; omega), gd_in (show r + 1 < 4 by omega) (by decide), rq_get ho (by omega), if_pos (nI_lt e.2 (by omega))]; rfl
        by_cases h0 : r = 0
        · rw [if_pos (show nI r = 0 by rw [h0]; rfl)]
          exact tail (Or.inl h0)
        · have b3 := h5 (r - 1)
          rw [if_neg (nI_ne0 (by omega) (by omega)), show gd (inb (nI r - 1) 4) = gd (inb (nI (r - 1)) 4) by rw [show (1 : Int32) = nI 1 from rfl, nI_sub (by omega)], gd_in (show r - 1 < 4 by omega) (by decide), show (nI r - 1).toNatClampNeg = (nI (r - 1)).toNatClampNeg by rw [show (1 : Int32) = nI 1 from rfl, nI_sub (by omega)], rq_get ho (by omega)]
          by_cases c4 : no (r - 1) < v
          · rw [if_pos (nI_lt c4 (by omega)), mbo50]
          · rw [if_neg (nI_nlt (by omega) (by omega))]
            exact tail (Or.inr (by omega))
theorem mbi37 (R : Int32) (o : Nat → Int32) (a b : Int32) : fX8_mayBeInner_J37 R o a b 0 = some 0 := by
  unfold fX8_mayBeInner_J37 fX8_mayBeInner_J68 fX8_mayBeInner_J69
  rw [if_pos rfl]; rfl
theorem mbi_out {R r : Nat} {p : Int32} (hR : R ≤ 4) (hr : r < R) {o i : Nat → Int32} (h : p < 0 ∨ o r < p) : fX8_mayBeInner (nI r) p (nI R) o i = some 0 := by
  unfold fX8_mayBeInner fX8_mayBeInner_J36
  rw [gd_in (show r < 4 by omega) (by decide), nI_clamp (by omega), f_within, bd_s]
  by_cases c1 : p < 0
  · rw [if_pos c1, if_pos rfl, mbi37]
  · rw [if_neg c1, if_pos (h.resolve_left c1), if_pos rfl, mbi37]
theorem mbi {R r v : Nat} (hR : R ≤ 4) (hr : r < R) {o i : Nat → Int32} {no ni : Nat → Nat} (ho : rq_4 o no) (hi : rq_4 i ni) (h5 : ∀ r, no r ≤ 5) (h6 : ∀ r, ni r ≤ 5) (hv : v ≤ no r) : fX8_mayBeInner (nI r) (nI v) (nI R) o i = some (if (r = 0 ∨ v ≤ ni (r - 1)) ∧ (r + 1 = R ∨ ni (r + 1) ≤ v) then 1 else 0) := by
  have b0 := h5 r
  unfold fX8_mayBeInner fX8_mayBeInner_J36 fX8_mayBeInner_J32
  rw [gd_in (show r < 4 by omega) (by decide), rq_get ho (by omega), f_within, bd_s, if_neg (nI_pos (by omega)), if_neg (nI_nlt hv (by omega)), if_neg (by decide)]
  have tail : (r = 0 ∨ v ≤ ni (r - 1)) → fX8_mayBeInner_J37 (nI R) i (nI r) (nI v) 1 = some (if (r = 0 ∨ v ≤ ni (r - 1)) ∧ (r + 1 = R ∨ ni (r + 1) ≤ v) then 1 else 0) := by
    intro hq
    unfold fX8_mayBeInner_J37 fX8_mayBeInner_J64 fX8_mayBeInner_J68 fX8_mayBeInner_J69
    rw [if_neg (by decide)]
    by_cases e : r + 1 = R
    · rw [if_pos (show nI r = nI R - 1 by rw [show (1 : Int32) = nI 1 from rfl, nI_sub (by omega), show r = R - 1 by omega]), if_pos ⟨hq, Or.inl e⟩]; rfl
    · have b2 := h6 (r + 1)
      rw [if_neg (show ¬ nI r = nI R - 1 from fun q => by rw [show (1 : Int32) = nI 1 from rfl, nI_sub (by omega)] at q; have := (nI_eq (by omega) (by omega)).mp q; omega), nI_1, gd_in (show r + 1 < 4 by omega) (by decide), rq_get hi (by omega)]
      by_cases c : v < ni (r + 1)
      · rw [if_pos (nI_lt c (by omega)), if_neg (by omega)]; rfl
      · rw [if_neg (nI_nlt (by omega) (by omega)), if_pos ⟨hq, Or.inr (by omega)⟩]; rfl
  by_cases h0 : r = 0
  · rw [if_pos (show nI r = 0 by rw [h0]; rfl)]
    exact tail (Or.inl h0)
  · have b3 := h6 (r - 1)
    rw [if_neg (nI_ne0 (by omega) (by omega)), show gd (inb (nI r - 1) 4) = gd (inb (nI (r - 1)) 4) by rw [show (1 : Int32) = nI 1 from rfl, nI_sub (by omega)], gd_in (show r - 1 < 4 by omega) (by decide), show (nI r - 1).toNatClampNeg = (nI (r - 1)).toNatClampNeg by rw [show (1 : Int32) = nI 1 from rfl, nI_sub (by omega)], rq_get hi (by omega)]
    by_cases c4 : ni (r - 1) < v
    · rw [if_pos (nI_lt c4 (by omega)), mbi37, if_neg (by omega)]
    · rw [if_neg (nI_nlt (by omega) (by omega))]
      exact tail (Or.inr (by omega))
/-- the box count of changed lengths -/
theorem rowsL_upto {B B' : Bd} : ∀ r, (∀ j, j < r → bo B' j - bi B' j = bo B j - bi B j) → rowsL B' r = rowsL B r := fun r => by
  induction r with
  | zero => intro _; rfl
  | succ r ih =>
    intro h
    rw [rowsL, rowsL, ih (fun j hj => h j (by omega)), h r (by omega)]
theorem len_change {B B' : Bd} {r : Nat} : ∀ R, r < R → (∀ j, j ≠ r → bo B' j - bi B' j = bo B j - bi B j) → (rowsL B' R).length + (bo B r - bi B r) = (rowsL B R).length + (bo B' r - bi B' r) := by
  intro R
  induction R with
  | zero => intro h; omega
  | succ R ih =>
    intro h hj
    rw [rowsL_len, rowsL_len]
    by_cases e : r = R
    · subst e
      rw [rowsL_upto r (fun j hj2 => hj j (by omega))]
      omega
    · have := ih (by omega) hj
      have := hj R (fun q => e q.symm)
      omega
theorem BdOK_b {B : Bd} (hB : BdOK B) : (∀ r, bo B r ≤ 5) ∧ (∀ r, bi B r ≤ 5) := by
  obtain ⟨-, hR, h3, h4, h5, -⟩ := hB
  constructor
  · intro r
    by_cases h : r < bR B
    · exact (h3 r h).2.1
    · rw [(h5 r (by omega)).1]; omega
  · intro r
    by_cases h : r < bR B
    · have := h3 r h; omega
    · rw [(h5 r (by omega)).2]; omega
theorem updN_ne {g : Nat → Nat} {k v j : Nat} (h : j ≠ k) : updN g k v j = g j := if_neg h
theorem updN_eq {g : Nat → Nat} {k v : Nat} : updN g k v k = v := if_pos rfl
