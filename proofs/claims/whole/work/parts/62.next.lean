/-! one filling after the other -/
def okQ (B : Bd) (w : List Nat) : Bool := fitB B w (w.length - 1) && decide (cq w (w.getD (w.length - 1) 0) w.length ≤ bc B (w.getD (w.length - 1) 0 - 1))
def lsB (B : Bd) (w : List Nat) : Bool := decide (bK B ≠ 2) || latB B w (w.length - 1)
theorem okP_Q (B : Bd) (w : List Nat) : okP B w = (okQ B w && lsB B w) := by
  unfold okP okQ lsB
  cases fitB B w (w.length - 1) <;> cases (decide (bK B ≠ 2) || latB B w (w.length - 1)) <;> simp
theorem okQ_app (B : Bd) (p : List Nat) (v : Nat) : okQ B (p ++ [v]) = (fitB B (p ++ [v]) p.length && decide (cq p v p.length + 1 ≤ bc B (v - 1))) := by
  unfold okQ
  rw [show (p ++ [v]).length - 1 = p.length by simp, getD_last, show (p ++ [v]).length = p.length + 1 by simp, cq_last, if_pos rfl]
theorem dfs_mem (ok : List Nat → Bool) : ∀ (m : Nat) (p w : List Nat), w ∈ dfs ok m p → ∃ q, w = p ++ q ∧ q.length = m ∧ (∀ x ∈ q, 1 ≤ x ∧ x ≤ 4) ∧ ∀ i, p.length < i → i ≤ w.length → ok (w.take i) = true := by
  intro m
  induction m with
  | zero =>
    intro p w h
    rw [dfs, List.mem_singleton] at h
    refine ⟨[], by rw [h, List.append_nil], rfl, (fun x h => by cases h), fun i h1 h2 => ?_⟩
    rw [h] at h2
    omega
  | succ m ih =>
    intro p w h
    rw [dfs, List.mem_flatMap] at h
    obtain ⟨v, hv, h⟩ := h
    by_cases q : ok (p ++ [v]) = true
    · rw [if_pos q] at h
      obtain ⟨r, e1, e2, e3, e4⟩ := ih (p ++ [v]) w h
      refine ⟨v :: r, by rw [e1, List.append_assoc]; rfl, by rw [List.length_cons, e2], ?_, ?_⟩
      · intro x hx
        rcases List.mem_cons.mp hx with e | e
        · rw [e]
          simp only [List.mem_cons, List.not_mem_nil, or_false] at hv
          omega
        · exact e3 x e
      · intro i h1 h2
        by_cases e : i = p.length + 1
        · rw [e, e1, List.take_append_of_le_length (by simp), List.take_of_length_le (by simp)]
          exact q
        · exact e4 i (by rw [List.length_append]; show p.length + 1 < i; omega) h2
    · rw [if_neg q] at h
      cases h
def ap (l : List Nat → Bool) (k : Nat) (w : List Nat) : Bool := (List.range w.length).all (fun i => decide (i < k) || l (w.take (i + 1)))
theorem ap_iff {l : List Nat → Bool} {k : Nat} {w : List Nat} : ap l k w = true ↔ ∀ i, i < w.length → k ≤ i → l (w.take (i + 1)) = true := by
  unfold ap
  rw [List.all_eq_true]
  simp only [List.mem_range, Bool.or_eq_true, decide_eq_true_eq]
  constructor
  · intro h i hi hk
    rcases h i hi with e | e
    · omega
    · exact e
  · intro h i hi
    by_cases e : i < k
    · exact Or.inl e
    · exact Or.inr (h i hi (by omega))
theorem flatMap_filter (l : List Nat) (f g : Nat → List (List Nat)) (F : List Nat → Bool) (h : ∀ v ∈ l, f v = (g v).filter F) : l.flatMap f = (l.flatMap g).filter F := by
  induction l with
  | nil => rfl
  | cons a l ih =>
    rw [List.flatMap_cons, List.flatMap_cons, List.filter_append, h a (by simp), ih (fun v hv => h v (by simp [hv]))]
theorem dfs_prune (ok l : List Nat → Bool) : ∀ (m : Nat) (p : List Nat), dfs (fun w => ok w && l w) m p = (dfs ok m p).filter (ap l p.length) := by
  intro m
  induction m with
  | zero =>
    intro p
    rw [dfs, dfs, List.filter_cons, if_pos (ap_iff.mpr (fun i h1 h2 => by omega)), List.filter_nil]
  | succ m ih =>
    intro p
    rw [dfs, dfs]
    apply flatMap_filter
    intro v _
    by_cases q : ok (p ++ [v]) = true
    · by_cases q2 : l (p ++ [v]) = true
      · rw [if_pos (by simp [q, q2]), if_pos q, ih]
        apply List.filter_congr
        intro w hw
        obtain ⟨r, e1, e2, -⟩ := dfs_mem ok m (p ++ [v]) w hw
        apply Bool.eq_iff_iff.mpr
        rw [ap_iff, ap_iff]
        constructor
        · intro h i h1 h2
          by_cases e : i = p.length
          · rw [e, e1, List.take_append_of_le_length (by simp), List.take_of_length_le (by simp)]; exact q2
          · exact h i h1 (by rw [List.length_append]; show p.length + 1 ≤ i; omega)
        · intro h i h1 h2
          rw [List.length_append] at h2
          exact h i h1 (by omega)
      · rw [if_neg (by simp [q2]), if_pos q]
        symm
        apply List.filter_eq_nil_iff.mpr
        intro w hw h
        obtain ⟨r, e1, e2, -⟩ := dfs_mem ok m (p ++ [v]) w hw
        have := ap_iff.mp h p.length (by rw [e1]; simp) (Nat.le_refl _)
        rw [e1, List.take_append_of_le_length (by simp), List.take_of_length_le (by simp)] at this
        exact q2 this
    · rw [if_neg (by simp [q]), if_neg q]; rfl
theorem cq_take (w : List Nat) (u : Nat) {i : Nat} : ∀ k, k ≤ i → cq (w.take i) u k = cq w u k := fun k => by
  induction k with
  | zero => intro _; rfl
  | succ k ih =>
    intro h
    rw [cq, cq, ih (by omega)]
    congr 2
    rw [List.getD_eq_getElem?_getD, List.getD_eq_getElem?_getD, List.getElem?_take_of_lt (by omega)]
theorem getD_take {w : List Nat} {i j : Nat} (h : j < i) : (w.take i).getD j 0 = w.getD j 0 := by
  rw [List.getD_eq_getElem?_getD, List.getD_eq_getElem?_getD, List.getElem?_take_of_lt h]
theorem latB_take {B : Bd} {w : List Nat} {b : Nat} (hb : b < nbx B) : latB B (w.take (b + 1)) b = latB B w b := by
  have := (box_row hb).2.1
  unfold latB
  rw [getD_take (by omega), cq_take w _ (b + 1) (Nat.le_refl _), cq_take w _ (rst B b) (by omega)]
theorem fitR_take {B : Bd} {w : List Nat} {b : Nat} (hb : b < nbx B) : fitR B (w.take (b + 1)) b = fitR B w b := by
  unfold fitR
  rw [bef_of hb]
  by_cases e : b = rst B b
  · rw [if_pos e]
  · rw [if_neg e]
    dsimp only
    rw [getD_take (by omega), getD_take (by omega)]
theorem fitC_take {B : Bd} {w : List Nat} {b : Nat} : fitC B (w.take (b + 1)) b = fitC B w b := by
  unfold fitC
  cases e : abv B b with
  | none => rfl
  | some a =>
    have := abv_lt e
    dsimp only
    rw [getD_take (by omega), getD_take (by omega)]
/-- a full filling of the plain search -/
def full (B : Bd) (w : List Nat) : Prop := w.length = nbx B ∧ (∀ x ∈ w, 1 ≤ x ∧ x ≤ 4) ∧ ∀ b, b < nbx B → fitB B w b = true
theorem dfs_full {B : Bd} {w : List Nat} (h : w ∈ dfs (okQ B) (nbx B) []) : full B w := by
  obtain ⟨q, e1, e2, e3, e4⟩ := dfs_mem _ _ _ _ h
  rw [List.nil_append] at e1
  subst e1
  refine ⟨e2, e3, fun b hb => ?_⟩
  have := e4 (b + 1) (by simp) (by omega)
  unfold okQ at this
  rw [Bool.and_eq_true, show (w.take (b + 1)).length - 1 = b by rw [List.length_take]; omega, fitB_eq, fitR_take hb, fitC_take, ← fitB_eq] at this
  exact this.1
theorem full_1 {B : Bd} {w : List Nat} (h : full B w) {j : Nat} (hj : j < nbx B) : 1 ≤ w.getD j 0 := by
  rw [List.getD_eq_getElem?_getD, List.getElem?_eq_getElem (by rw [h.1]; exact hj)]
  exact (h.2.1 _ (List.getElem_mem _)).1
theorem full_wk {B : Bd} {w : List Nat} (hK : bK B = 2) (h : full B w) : wkI B w := by
  intro i j
  induction j with
  | zero => intro h1 h2 h3; rw [show i = 0 by omega]; exact Nat.le_refl _
  | succ j ih =>
    intro h1 h2 h3
    by_cases e : i = j + 1
    · rw [e]; exact Nat.le_refl _
    · have m1 := rAt_mono (B := B) (show i ≤ j by omega) (by omega)
      have m2 := rAt_mono (B := B) (show j ≤ j + 1 by omega) h2
      have a := ih (by omega) (by omega) (by omega)
      have f := h.2.2 (j + 1) h2
      rw [fitB_eq, Bool.and_eq_true] at f
      have f := f.1
      unfold fitR bef at f
      rw [if_pos ⟨by omega, by rw [Nat.add_sub_cancel]; omega⟩] at f
      dsimp only at f
      unfold rowOK at f
      rw [hK, if_neg (by decide), if_neg (by decide), decide_eq_true_eq, Nat.add_sub_cancel] at f
      omega
theorem LTp_ap {B : Bd} {w : List Nat} (hK : bK B = 2) (h : full B w) : LTp B w ↔ ap (lsB B) 0 w = true := by
  rw [lat_iff (getD_lt5 h.2.1) (fun j hj => full_1 h hj) (full_wk hK h), ap_iff]
  constructor
  · intro g i hi _
    unfold lsB
    have hb : i < nbx B := by rw [← h.1]; exact hi
    rw [show (w.take (i + 1)).length - 1 = i by rw [List.length_take]; omega, latB_take hb, g i hb, Bool.or_true]
  · intro g b hb
    have := g b (by rw [h.1]; exact hb) (Nat.zero_le _)
    unfold lsB at this
    rw [show (w.take (b + 1)).length - 1 = b by rw [List.length_take, h.1]; omega, latB_take hb, hK] at this
    simpa using this
theorem ap_true {B : Bd} (hK : bK B ≠ 2) (w : List Nat) : ap (lsB B) 0 w = true := ap_iff.mpr (fun i _ _ => by unfold lsB; simp [hK])
theorem dfs_congr {ok ok' : List Nat → Bool} (h : ∀ w, ok w = ok' w) : dfs ok = dfs ok' := by rw [show ok = ok' from funext h]
theorem fls_eq {B : Bd} (hR : bR B ≠ 0) (hs : csum B = nbx B) : fls B = (dfs (okQ B) (nbx B) []).filter (ap (lsB B) 0) := by
  unfold fls
  rw [if_neg (by omega), dfs_congr (okP_Q B), dfs_prune]; rfl
/-- what is still to come, when the boxes before hold rp (the last first) and the next holds x -/
def fut (ok : List Nat → Bool) (n : Nat) : List Nat → Nat → List (List Nat)
  | [], x => alt ok (n - 1) [] (4 - x)
  | y :: rp, x => alt ok (n - 2 - rp.length) (y :: rp).reverse (4 - x) ++ fut ok n rp y
def kk : Nat → Nat
  | 0 => 1
  | m + 1 => 4 * kk m + 2
def meas (n : Nat) : List Nat → Nat → Nat
  | [], x => (4 - x) * kk (n - 1) + 1
  | y :: rp, x => (4 - x) * kk (n - 2 - rp.length) + 1 + meas n rp y
theorem kk_mono {a b : Nat} (h : a ≤ b) : kk a ≤ kk b := by
  induction b with
  | zero => rw [show a = 0 by omega]; exact Nat.le_refl _
  | succ b ih =>
    by_cases e : a = b + 1
    · rw [e]; exact Nat.le_refl _
    · have := ih (by omega)
      rw [kk]; omega
theorem meas_le {n : Nat} (hn : n ≤ 9) : ∀ (rp : List Nat) (x : Nat), meas n rp x ≤ (rp.length + 1) * (4 * kk 9 + 1) := by
  intro rp
  induction rp with
  | nil =>
    intro x
    rw [meas]
    have := kk_mono (show n - 1 ≤ 9 by omega)
    have h2 := Nat.mul_le_mul (show 4 - x ≤ 4 by omega) this
    simp only [List.length_nil]
    omega
  | cons y rp ih =>
    intro x
    rw [meas]
    have := kk_mono (show n - 2 - rp.length ≤ 9 by omega)
    have h2 := Nat.mul_le_mul (show 4 - x ≤ 4 by omega) this
    have h3 := ih y
    rw [List.length_cons, Nat.add_mul (rp.length + 1) 1]
    omega
/-- the level of a state: alternatives here, then what is above -/
def lev (n : Nat) (rp : List Nat) : Nat := n - 1 - rp.length
def upF (ok : List Nat → Bool) (n : Nat) : List Nat → List (List Nat)
  | [] => []
  | y :: rp => fut ok n rp y
def upM (n : Nat) : List Nat → Nat
  | [] => 0
  | y :: rp => meas n rp y
theorem fut_eq (ok : List Nat → Bool) (n : Nat) (rp : List Nat) (x : Nat) : fut ok n rp x = alt ok (lev n rp) rp.reverse (4 - x) ++ upF ok n rp := by
  cases rp with
  | nil => rw [fut, upF, List.append_nil]; rfl
  | cons y rp =>
    rw [fut, upF]
    unfold lev
    rw [List.length_cons, show n - 2 - rp.length = n - 1 - (rp.length + 1) by omega]
theorem meas_eq (n : Nat) (rp : List Nat) (x : Nat) : meas n rp x = (4 - x) * kk (lev n rp) + 1 + upM n rp := by
  cases rp with
  | nil => rw [meas, upM]; rfl
  | cons y rp =>
    rw [meas, upM]
    unfold lev
    rw [List.length_cons, show n - 2 - rp.length = n - 1 - (rp.length + 1) by omega]
/-- going down a box -/
theorem fut_down (ok : List Nat → Bool) {n : Nat} {rp : List Nat} {v : Nat} (h : rp.length + 1 < n) : fut ok n (v :: rp) 0 = dfs ok (lev n rp) (rp.reverse ++ [v]) ++ fut ok n rp v := by
  rw [fut_eq ok n (v :: rp) 0, upF, List.reverse_cons]
  congr 1
  have : lev n rp = lev n (v :: rp) + 1 := by unfold lev; rw [List.length_cons]; omega
  rw [this, dfs_alt]
theorem meas_down {n : Nat} {rp : List Nat} {v x : Nat} (h : rp.length + 1 < n) (hv : x < v) (h4 : v ≤ 4) : meas n (v :: rp) 0 < meas n rp x := by
  rw [meas_eq n (v :: rp) 0, upM, meas_eq n rp v, meas_eq n rp x]
  have e : lev n rp = lev n (v :: rp) + 1 := by unfold lev; rw [List.length_cons]; omega
  have k : kk (lev n rp) = 4 * kk (lev n (v :: rp)) + 2 := by rw [e, kk]
  have : (4 - v) * kk (lev n rp) + kk (lev n rp) ≤ (4 - x) * kk (lev n rp) := by
    rw [← Nat.succ_mul]
    exact Nat.mul_le_mul_right _ (by omega)
  omega
theorem kk_pos (m : Nat) : 1 ≤ kk m := by cases m <;> rw [kk] <;> omega
theorem meas_leaf {n : Nat} {rp : List Nat} {v x : Nat} (hv : x < v) (h4 : v ≤ 4) : meas n rp v < meas n rp x := by
  rw [meas_eq n rp v, meas_eq n rp x]
  have : (4 - v) * kk (lev n rp) + kk (lev n rp) ≤ (4 - x) * kk (lev n rp) := by
    rw [← Nat.succ_mul]
    exact Nat.mul_le_mul_right _ (by omega)
  have := kk_pos (lev n rp)
  omega
