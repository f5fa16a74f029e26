/-! copying rows, counting and laying boxes -/
def cpF (f g : Nat → Int32) (r N : Nat) : Nat → Int32 := fun j => if r ≤ j ∧ j < N then f j else g j
theorem cpF_step (f g : Nat → Int32) {r N : Nat} (h : r < N) : cpF f (upd g r (f r)) (r + 1) N = cpF f g r N := by
  funext j
  unfold cpF upd
  by_cases e : j = r
  · subst e
    rw [if_neg (by omega), if_pos rfl, if_pos (by omega)]
  · by_cases h2 : r + 1 ≤ j ∧ j < N
    · rw [if_pos h2, if_pos (by omega)]
    · rw [if_neg h2, if_neg e, if_neg (by omega)]
theorem cpF_end (f g : Nat → Int32) (N : Nat) : cpF f g N N = g := by
  funext j
  unfold cpF
  rw [if_neg (by omega)]
theorem cpF_get {f g : Nat → Int32} {N j : Nat} (h : j < N) : cpF f g 0 N j = f j := by
  unfold cpF
  rw [if_pos ⟨Nat.zero_le j, h⟩]
theorem cpF_rq {f g : Nat → Int32} {o : Nat → Nat} (h : rq_4 f o) : rq_4 (cpF f g 0 4) o := fun j hj => by rw [cpF_get hj]; exact h j hj
theorem cpF_agr {f g : Nat → Int32} {l : List Nat} (h : agr f l) (h6 : l.length ≤ 6) : agr (cpF f g 0 6) l := fun j hj => by rw [cpF_get (by omega)]; exact h j hj
theorem cpy_rq {f g : Nat → Int32} {o : Nat → Nat} (h : rq_4 f o) : rq_4 (va_cpy f g 0 0 4) o := fun j hj => by
  unfold va_cpy
  rw [if_pos ⟨Nat.zero_le j, by omega⟩, Nat.sub_zero, Nat.zero_add]
  exact h j hj
theorem fuel {n m : Nat} (h : m < n) : ∃ q, n = q + 1 ∧ m ≤ q := ⟨n - 1, by omega, by omega⟩
theorem rowsL_len (B : Bd) (r : Nat) : (rowsL B (r + 1)).length = (rowsL B r).length + (bo B r - bi B r) := by
  rw [rowsL, List.length_append, List.length_replicate]
theorem colsL_len (B : Bd) : ∀ r, (colsL B r).length = (rowsL B r).length := fun r => by
  induction r with
  | zero => rfl
  | succ r ih => rw [rowsL_len, colsL, List.length_append, ih, List.length_map, List.length_range]
theorem rowsL_mono (B : Bd) {a b : Nat} (h : a ≤ b) : (rowsL B a).length ≤ (rowsL B b).length := by
  induction b with
  | zero => rw [show a = 0 by omega]; exact Nat.le_refl _
  | succ b ih =>
    by_cases e : a = b + 1
    · rw [e]; exact Nat.le_refl _
    · rw [rowsL_len]
      have := ih (by omega)
      omega
theorem f_boxCount {B : Bd} {outer inner : Nat → Int32} (hR : bR B ≤ 4) (ho : rq_4 outer (bo B)) (hi : rq_4 inner (bi B)) (hle : ∀ r, r < bR B → bi B r ≤ bo B r) : fX4_boxCount (nI (bR B)) outer inner = some (nI (nbx B)) := by
  have L : ∀ (m r n : Nat), r + m = bR B → m < n → fX4_boxCount_L4 (nI (bR B)) outer inner n (nI (rowsL B r).length) (nI r) = some (nI (nbx B)) := by
    intro m
    induction m with
    | zero =>
      intro r n h hn
      obtain ⟨n, rfl, -⟩ := fuel hn
      rw [fX4_boxCount_L4, if_pos (nI_le (by omega) (by omega)), show r = bR B by omega]
      rfl
    | succ m ih =>
      intro r n h hn
      obtain ⟨n, rfl, h2⟩ := fuel hn
      have hr4 : r < 4 := by omega
      rw [fX4_boxCount_L4, if_neg (nI_ge (show r < bR B by omega) (by omega)), gd_in hr4 (by decide), rq_get ho hr4, rq_get hi hr4, nI_sub (hle r (by omega)), nI_add, nI_1, ← rowsL_len]
      exact ih (r + 1) n (by omega) (by omega)
  exact L (bR B) 0 fu (by omega) (by unfold fu; omega)
theorem lay_in {B : Bd} {outer : Nat → Int32} (hR : bR B ≤ 4) (ho : rq_4 outer (bo B)) (h9 : nbx B ≤ 9) {r : Nat} (hr : r < bR B) (hle : bi B r ≤ bo B r) (h5 : bo B r ≤ 5) (k7 : Int32 → Int32 → (Nat → Int32) → (Nat → Int32) → Option (Int32 × (Nat → Int32) × (Nat → Int32) × Int32 × Int32)) : ∀ (m t n : Nat) (ro co : Nat → Int32), t + m = bo B r - bi B r → m < n → agr ro (rowsL B r ++ List.replicate t r) → agr co (colsL B r ++ (List.range t).map (fun j => bi B r + j)) → ∃ ro' co', agr ro' (rowsL B (r + 1)) ∧ agr co' (colsL B (r + 1)) ∧ fX8_lay_L22 outer (nI r) k7 n (nI (bi B r + t)) (nI ((rowsL B r).length + t)) ro co = k7 (nI (r + 1)) (nI (rowsL B (r + 1)).length) ro' co' := by
  intro m
  induction m with
  | zero =>
    intro t n ro co h hn h1 h2
    obtain ⟨n, rfl, -⟩ := fuel hn
    have e : t = bo B r - bi B r := by omega
    refine ⟨ro, co, by rw [rowsL, ← e]; exact h1, by rw [colsL, ← e]; exact h2, ?_⟩
    rw [fX8_lay_L22, rq_get ho (show r < 4 by omega), if_pos (nI_le (by omega) (by omega)), nI_1, rowsL_len, e]
  | succ m ih =>
    intro t n ro co h hn h1 h2
    obtain ⟨n, rfl, hn2⟩ := fuel hn
    have hl : (rowsL B (r + 1)).length ≤ 9 := Nat.le_trans (rowsL_mono B (show r + 1 ≤ bR B by omega)) h9
    rw [rowsL_len] at hl
    have e1 : (rowsL B r ++ List.replicate t r).length = (rowsL B r).length + t := by rw [List.length_append, List.length_replicate]
    have e2 : (colsL B r ++ (List.range t).map (fun j => bi B r + j)).length = (rowsL B r).length + t := by rw [List.length_append, List.length_map, List.length_range, colsL_len]
    have p1 := agr_push (x := nI r) (v := r) h1 rfl
    have p2 := agr_push (x := nI (bi B r + t)) (v := bi B r + t) h2 rfl
    rw [e1, List.append_assoc, show List.replicate t r ++ [r] = List.replicate (t + 1) r from (List.replicate_succ').symm] at p1
    rw [e2, List.append_assoc, show (List.range t).map (fun j => bi B r + j) ++ [bi B r + t] = (List.range (t + 1)).map (fun j => bi B r + j) by rw [List.range_succ, List.map_append]; rfl] at p2
    obtain ⟨ro', co', a1, a2, a3⟩ := ih (t + 1) n _ _ (by omega) (by omega) p1 p2
    refine ⟨ro', co', a1, a2, ?_⟩
    rw [fX8_lay_L22, rq_get ho (show r < 4 by omega), if_neg (nI_ge (by omega) (by omega)), gd_in (show (rowsL B r).length + t < 9 by omega) (by decide), nI_1, nI_1, nI_clamp (by omega)]
    exact a3
theorem f_lay {B : Bd} {outer inner : Nat → Int32} (hB : BdOK B) (ho : rq_4 outer (bo B)) (hi : rq_4 inner (bi B)) (ro co : Nat → Int32) : ∃ ro' co', mLay B (nI (nbx B)) ro' co' ∧ fX8_lay (nI (bR B)) outer inner ro co = some (nI (nbx B), ro', co', 0, 0) := by
  obtain ⟨-, hR, hrow, -, -, -, h9, -⟩ := hB
  have L : ∀ (m r n : Nat) (ro co : Nat → Int32), r + m = bR B → m < n → agr ro (rowsL B r) → agr co (colsL B r) → ∃ ro' co', mLay B (nI (nbx B)) ro' co' ∧ fX8_lay_L7 (nI (bR B)) outer inner n (nI r) (nI (rowsL B r).length) ro co = some (nI (nbx B), ro', co', 0, 0) := by
    intro m
    induction m with
    | zero =>
      intro r n ro co h hn h1 h2
      obtain ⟨n, rfl, -⟩ := fuel hn
      have e : r = bR B := by omega
      subst e
      refine ⟨ro, co, ⟨rfl, h1, h2⟩, ?_⟩
      rw [fX8_lay_L7, if_pos (nI_le (by omega) (by omega))]
      rfl
    | succ m ih =>
      intro r n ro co h hn h1 h2
      obtain ⟨n, rfl, hn2⟩ := fuel hn
      have hr : r < bR B := by omega
      obtain ⟨g1, g2, g3⟩ := hrow r hr
      obtain ⟨ro', co', a1, a2, a3⟩ := lay_in hR ho h9 hr g3 g2 (fX8_lay_L7 (nI (bR B)) outer inner n) (bo B r - bi B r) 0 fu ro co (by omega) (by unfold fu; omega) (by simpa using h1) (by simpa using h2)
      obtain ⟨ro2, co2, b1, b2⟩ := ih (r + 1) n ro' co' (by omega) (by omega) a1 a2
      refine ⟨ro2, co2, b1, ?_⟩
      rw [fX8_lay_L7, if_neg (nI_ge hr (by omega)), gd_in (show r < 4 by omega) (by decide), rq_get hi (show r < 4 by omega)]
      rw [Nat.add_zero, Nat.add_zero] at a3
      rw [a3]
      exact b2
  exact L (bR B) 0 fu ro co (by omega) (by unfold fu; omega) (fun j h => absurd h (Nat.not_lt_zero j)) (fun j h => absurd h (Nat.not_lt_zero j))
