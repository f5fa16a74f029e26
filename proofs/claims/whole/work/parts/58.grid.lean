/-! boxes: rows, columns, neighbours -/
theorem getD_app_l {l m : List Nat} {b : Nat} (h : b < l.length) : (l ++ m).getD b 0 = l.getD b 0 := by
  simp [List.getD_eq_getElem?_getD, List.getElem?_append_left h]
theorem getD_app_r {l m : List Nat} {b : Nat} (h : l.length ≤ b) : (l ++ m).getD b 0 = m.getD (b - l.length) 0 := by
  simp [List.getD_eq_getElem?_getD, List.getElem?_append_right h]
theorem getD_rep {n r b : Nat} (h : b < n) : (List.replicate n r).getD b 0 = r := by
  simp [List.getD_eq_getElem?_getD, List.getElem?_replicate, h]
theorem rAt_of (B : Bd) {r b : Nat} (h1 : (rowsL B r).length ≤ b) (h2 : b < (rowsL B (r + 1)).length) : ∀ R, r < R → (rowsL B R).getD b 0 = r := by
  intro R
  induction R with
  | zero => intro h; omega
  | succ R ih =>
    intro h
    rw [rowsL]
    by_cases e : r = R
    · subst e
      rw [getD_app_r h1, getD_rep (by rw [rowsL_len] at h2; omega)]
    · rw [getD_app_l (Nat.lt_of_lt_of_le h2 (rowsL_mono B (by omega)))]
      exact ih (by omega)
theorem cAt_of (B : Bd) {r b : Nat} (h1 : (rowsL B r).length ≤ b) (h2 : b < (rowsL B (r + 1)).length) : ∀ R, r < R → (colsL B R).getD b 0 = bi B r + (b - (rowsL B r).length) := by
  intro R
  induction R with
  | zero => intro h; omega
  | succ R ih =>
    intro h
    rw [colsL]
    by_cases e : r = R
    · subst e
      rw [getD_app_r (by rw [colsL_len]; exact h1), colsL_len]
      have : b - (rowsL B r).length < bo B r - bi B r := by rw [rowsL_len] at h2; omega
      simp [List.getD_eq_getElem?_getD, this]
    · rw [getD_app_l (by rw [colsL_len]; exact Nat.lt_of_lt_of_le h2 (rowsL_mono B (by omega)))]
      exact ih (by omega)
theorem in_row (B : Bd) : ∀ R b, b < (rowsL B R).length → ∃ r, r < R ∧ (rowsL B r).length ≤ b ∧ b < (rowsL B (r + 1)).length := by
  intro R
  induction R with
  | zero => intro b h; exact absurd h (Nat.not_lt_zero b)
  | succ R ih =>
    intro b h
    by_cases q : b < (rowsL B R).length
    · obtain ⟨r, h1, h2, h3⟩ := ih b q
      exact ⟨r, by omega, h2, h3⟩
    · exact ⟨R, by omega, by omega, h⟩
/-- a box of the board: its row and what follows -/
theorem box_row {B : Bd} {b : Nat} (h : b < nbx B) : rAt B b < bR B ∧ rst B b ≤ b ∧ b < (rowsL B (rAt B b + 1)).length ∧ cAt B b = bi B (rAt B b) + (b - rst B b) := by
  obtain ⟨r, h1, h2, h3⟩ := in_row B (bR B) b h
  have e : rAt B b = r := rAt_of B h2 h3 (bR B) h1
  unfold rst
  rw [e]
  exact ⟨h1, h2, h3, cAt_of B h2 h3 (bR B) h1⟩
theorem rAt_eq {B : Bd} {r b : Nat} (hr : r < bR B) (h2 : (rowsL B r).length ≤ b) (h3 : b < (rowsL B (r + 1)).length) : rAt B b = r := rAt_of B h2 h3 (bR B) hr
theorem rAt_lt {B : Bd} {r b : Nat} (h : b < nbx B) : rAt B b < r ↔ b < (rowsL B r).length := by
  obtain ⟨h1, h2, h3, -⟩ := box_row h
  unfold rst at h2
  constructor
  · intro q
    exact Nat.lt_of_lt_of_le h3 (rowsL_mono B q)
  · intro q
    apply Classical.byContradiction
    intro n
    have := rowsL_mono B (show r ≤ rAt B b by omega)
    omega
theorem rAt_mono {B : Bd} {a b : Nat} (h : a ≤ b) (hb : b < nbx B) : rAt B a ≤ rAt B b := by
  obtain ⟨h1, h2, h3, -⟩ := box_row hb
  have : rAt B a < rAt B b + 1 := (rAt_lt (by omega)).mpr (by omega)
  omega
theorem bef_of {B : Bd} {b : Nat} (h : b < nbx B) : bef B b = if b = rst B b then none else some (b - 1) := by
  obtain ⟨h1, h2, h3, -⟩ := box_row h
  unfold bef
  by_cases e : b = rst B b
  · rw [if_pos e, if_neg]
    intro q
    have : rAt B (b - 1) < rAt B b := (rAt_lt (by omega)).mpr (by unfold rst at e; omega)
    omega
  · rw [if_neg e, if_pos]
    refine ⟨by omega, ?_⟩
    unfold rst at e h2
    exact rAt_eq h1 (by omega) (by omega)
theorem abv_lt {B : Bd} {b a : Nat} (h : abv B b = some a) : a < b := by
  unfold abv at h
  have := List.mem_of_find?_eq_some h
  simpa using this
theorem find_r (P : Nat → Bool) (j m : Nat) : (List.range' j (m + 1)).find? P = if P j = true then some j else (List.range' (j + 1) m).find? P := by
  rw [List.range'_succ, List.find?_cons]
  cases P j <;> rfl
theorem m1_eq {a b : Nat} (ha : a < 100) (hb : b < 100) : nI a = nI b - 1 ↔ a + 1 = b := by
  by_cases h : b = 0
  · subst h
    constructor
    · intro e
      exfalso
      exact nI_pos (n := a) (by omega) (by rw [e]; decide)
    · intro e; omega
  · rw [lit_1, nI_sub (by omega), nI_eq (by omega) (by omega)]
    omega
theorem BdOK_c {B : Bd} (hB : BdOK B) {b : Nat} (h : b < nbx B) : rAt B b < 4 ∧ cAt B b < 14 := by
  obtain ⟨h1, h2, h3, h4⟩ := box_row h
  have := hB.2.1
  have a := (hB.2.2.1 _ h1)
  have n9 := hB.2.2.2.2.2.2.1
  omega
theorem a_r {B : Bd} {ro : Nat → Int32} (h : agr ro (rowsL B (bR B))) {j : Nat} (hj : j < nbx B) : ro j = nI (rAt B j) := h j hj
theorem a_c {B : Bd} {co : Nat → Int32} (h : agr co (colsL B (bR B))) {j : Nat} (hj : j < nbx B) : co j = nI (cAt B j) := h j (by rw [colsL_len]; exact hj)
theorem f_aboveOf {B : Bd} (hB : BdOK B) {ro co : Nat → Int32} (h1 : agr ro (rowsL B (bR B))) (h2 : agr co (colsL B (bR B))) {b : Nat} (hb : b < nbx B) : fX8_aboveOf (nI b) ro co = some (optI (abv B b)) := by
  have n9 := hB.2.2.2.2.2.2.1
  have hl2 : (colsL B (bR B)).length = nbx B := colsL_len B (bR B)
  have L : ∀ (m j n : Nat), j + m = b → m < n → fX8_aboveOf_L2 ro co (nI b) n (nI j) = some (optI ((List.range' j m).find? (fun k => decide (rAt B k + 1 = rAt B b) && decide (cAt B k = cAt B b)))) := by
    intro m
    induction m with
    | zero =>
      intro j n e hn
      obtain ⟨n, rfl, -⟩ := fuel hn
      rw [fX8_aboveOf_L2, if_pos (nI_le (by omega) (by omega))]; rfl
    | succ m ih =>
      intro j n e hn
      obtain ⟨n, rfl, hn2⟩ := fuel hn
      have c1 := BdOK_c hB hb
      have c2 := BdOK_c hB (show j < nbx B by omega)
      rw [fX8_aboveOf_L2, if_neg (nI_ge (show j < b by omega) (by omega)), gd_in (show j < 9 by omega) (by decide), gd_in (show b < 9 by omega) (by decide), nI_clamp (by omega), nI_clamp (by omega), a_r h1 (show j < nbx B by omega), a_r h1 hb, a_c h2 (show j < nbx B by omega), a_c h2 hb, find_r]
      unfold fX8_aboveOf_J41
      rw [nI_1, ih (j + 1) n (by omega) (by omega)]
      by_cases q1 : rAt B j + 1 = rAt B b
      · rw [if_pos ((m1_eq (by omega) (by omega)).mpr q1)]
        by_cases q2 : cAt B j = cAt B b
        · rw [if_pos (show nI (cAt B j) = nI (cAt B b) by rw [q2]), if_pos (by simp [q1, q2])]; rfl
        · rw [if_neg (show ¬ nI (cAt B j) = nI (cAt B b) from fun e => q2 ((nI_eq (by omega) (by omega)).mp e)), if_neg (by simp [q2])]
      · rw [if_neg (fun e => q1 ((m1_eq (by omega) (by omega)).mp e)), if_neg (by simp [q1])]
  have := L b 0 fu (by omega) (by unfold fu; omega)
  rw [← List.range_eq_range'] at this
  exact this
theorem f_rowFits : ∀ K, K < 5 → ∀ x, x < 5 → ∀ y, y < 5 → fX8_rowFits (nI x) (nI y) (nI K) = some (if rowOK K x y = true then 1 else 0) := by decide +kernel
theorem f_colFits : ∀ K, K < 5 → ∀ x, x < 5 → ∀ y, y < 5 → fX8_columnFits (nI x) (nI y) (nI K) = some (if colOK K x y = true then 1 else 0) := by decide +kernel
theorem f_beside : ∀ K, K < 5 → ∀ x, x < 5 → ∀ y, y < 5 → fX0_mayStandBeside (nI K) (nI x) (nI y) = some (if rowOK K x y = true then 1 else 0) := by decide +kernel
theorem f_below : ∀ K, K < 5 → ∀ x, x < 5 → ∀ y, y < 5 → fX0_mayStandBelow (nI K) (nI x) (nI y) = some (if colOK K x y = true then 1 else 0) := by decide +kernel
theorem optI_n : optI none = -1 := rfl
theorem optI_s (a : Nat) : optI (some a) = nI a := rfl
def fitR (B : Bd) (w : List Nat) (b : Nat) : Bool := match bef B b with
  | some a => rowOK (bK B) (w.getD a 0) (w.getD b 0)
  | none => true
def fitC (B : Bd) (w : List Nat) (b : Nat) : Bool := match abv B b with
  | some a => colOK (bK B) (w.getD a 0) (w.getD b 0)
  | none => true
theorem fitB_eq (B : Bd) (w : List Nat) (b : Nat) : fitB B w b = (fitR B w b && fitC B w b) := rfl
theorem f_fitsM {B : Bd} (hB : BdOK B) {ro co now : Nat → Int32} (h1 : agr ro (rowsL B (bR B))) (h2 : agr co (colsL B (bR B))) {b : Nat} (hb : b < nbx B) {w : List Nat} (hw : ∀ j, j ≤ b → now j = nI (w.getD j 0)) (h4 : ∀ j, w.getD j 0 < 5) : fX8_fits (nI b) (nI (bK B)) ro co now = some (if fitB B w b = true then 1 else 0) := by
  have n9 := hB.2.2.2.2.2.2.1
  have hK := hB.1
  have J47 : ∀ y : Bool, fX8_fits_J47 (nI (bK B)) ro co now (nI b) (if y = true then 1 else 0) = some (if (y && fitC B w b) = true then 1 else 0) := by
    intro y
    unfold fX8_fits_J47 fX8_fits_J82 fX8_fits_J86 fX8_fits_J87
    rw [f_aboveOf hB h1 h2 hb, bd_s]
    cases y with
    | false => rw [if_pos (show (if false = true then (1 : Int32) else 0) = 0 from rfl)]; rfl
    | true =>
      rw [if_neg (show ¬ (if true = true then (1 : Int32) else 0) = 0 by decide)]
      unfold fitC
      cases e : abv B b with
      | none => rw [optI_n, if_pos rfl]; rfl
      | some a =>
        have ha := abv_lt e
        have ne : ¬ nI a = -1 := fun e => nI_pos (n := a) (by omega) (by rw [e]; decide)
        rw [optI_s, if_neg ne, gd_in (show a < 9 by omega) (by decide), gd_in (show b < 9 by omega) (by decide), nI_clamp (by omega), nI_clamp (by omega), hw a (by omega), hw b (by omega), f_colFits _ (by omega) _ (h4 a) _ (h4 b), bd_s]
        by_cases q : colOK (bK B) (w.getD a 0) (w.getD b 0) = true
        · rw [if_pos q, if_neg (by decide)]; dsimp only; rw [Bool.true_and, if_pos q]; rfl
        · rw [if_neg q, if_pos rfl]; dsimp only; rw [Bool.true_and, if_neg q]; rfl
  have j1 := J47 true
  have j0 := J47 false
  rw [if_pos rfl, Bool.true_and] at j1
  rw [if_neg (by decide), Bool.false_and, if_neg (by decide)] at j0
  unfold fX8_fits fX8_fits_J42
  rw [fitB_eq]
  by_cases h0 : b = 0
  · have e : fitR B w b = true := by
      unfold fitR bef
      rw [if_neg (by omega)]
    rw [if_pos (show nI b = 0 by rw [h0]; rfl), e, Bool.true_and]
    exact j1
  · rw [if_neg (nI_ne0 (by omega) (by omega)), lit_1, nI_sub (by omega), gd_in (show b - 1 < 9 by omega) (by decide), gd_in (show b < 9 by omega) (by decide), nI_clamp (by omega), nI_clamp (by omega), a_r h1 (show b - 1 < nbx B by omega), a_r h1 hb]
    have c1 := BdOK_c hB hb
    have c2 := BdOK_c hB (show b - 1 < nbx B by omega)
    by_cases q : rAt B (b - 1) = rAt B b
    · have e : fitR B w b = rowOK (bK B) (w.getD (b - 1) 0) (w.getD b 0) := by
        unfold fitR bef
        rw [if_pos ⟨by omega, q⟩]
      rw [if_pos (show nI (rAt B (b - 1)) = nI (rAt B b) by rw [q]), hw (b - 1) (by omega), hw b (by omega), f_rowFits _ (by omega) _ (h4 _) _ (h4 b), bd_s, e]
      by_cases q2 : rowOK (bK B) (w.getD (b - 1) 0) (w.getD b 0) = true
      · rw [if_pos q2, if_neg (by decide), q2, Bool.true_and]
        exact j1
      · rw [if_neg q2, if_pos rfl, show rowOK (bK B) (w.getD (b - 1) 0) (w.getD b 0) = false by simpa using q2, Bool.false_and, if_neg (by decide)]
        exact j0
    · have e : fitR B w b = true := by
        unfold fitR bef
        rw [if_neg (by omega)]
      rw [if_neg (show ¬ nI (rAt B (b - 1)) = nI (rAt B b) from fun e => q ((nI_eq (by omega) (by omega)).mp e)), e, Bool.true_and]
      exact j1
