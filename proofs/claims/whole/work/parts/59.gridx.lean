/-! the class' grid -/
def gdP (B : Bd) (k : Nat) (ro co be ab rs : Nat → Int32) : Prop := ∀ j, j < k → ro j = nI (rAt B j) ∧ co j = nI (cAt B j) ∧ be j = optI (bef B j) ∧ ab j = optI (abv B j) ∧ rs j = nI (rst B j)
theorem f_boxAt {B : Bd} (hB : BdOK B) {ro co : Nat → Int32} {k : Nat} (hk : k < nbx B) (h1 : ∀ j, j < k → ro j = nI (rAt B j)) (h2 : ∀ j, j < k → co j = nI (cAt B j)) : fX1_boxAt (nI (rAt B k) - 1) (nI (cAt B k)) ro co (nI k) = some (optI (abv B k)) := by
  have n9 := hB.2.2.2.2.2.2.1
  have L : ∀ (m j n : Nat), j + m = k → m < n → fX1_boxAt_L2 ro co (nI k) (nI (rAt B k) - 1) (nI (cAt B k)) n (nI j) = some (optI ((List.range' j m).find? (fun a => decide (rAt B a + 1 = rAt B k) && decide (cAt B a = cAt B k)))) := by
    intro m
    induction m with
    | zero =>
      intro j n e hn
      obtain ⟨n, rfl, -⟩ := fuel hn
      rw [fX1_boxAt_L2, if_pos (nI_le (by omega) (by omega))]; rfl
    | succ m ih =>
      intro j n e hn
      obtain ⟨n, rfl, hn2⟩ := fuel hn
      have c1 := BdOK_c hB hk
      have c2 := BdOK_c hB (show j < nbx B by omega)
      rw [fX1_boxAt_L2, if_neg (nI_ge (show j < k by omega) (by omega)), gd_in (show j < 9 by omega) (by decide), nI_clamp (by omega), h1 j (by omega), h2 j (by omega), find_r]
      unfold fX1_boxAt_J32
      rw [nI_1, ih (j + 1) n (by omega) (by omega)]
      by_cases q1 : rAt B j + 1 = rAt B k
      · rw [if_pos ((m1_eq (by omega) (by omega)).mpr q1)]
        by_cases q2 : cAt B j = cAt B k
        · rw [if_pos (show nI (cAt B j) = nI (cAt B k) by rw [q2]), if_pos (by simp [q1, q2])]; rfl
        · rw [if_neg (show ¬ nI (cAt B j) = nI (cAt B k) from fun e => q2 ((nI_eq (by omega) (by omega)).mp e)), if_neg (by simp [q2])]
      · rw [if_neg (fun e => q1 ((m1_eq (by omega) (by omega)).mp e)), if_neg (by simp [q1])]
  have := L k 0 fu (by omega) (by unfold fu; omega)
  rw [← List.range_eq_range'] at this
  exact this
theorem f_addBox {B : Bd} (hB : BdOK B) {ro co be ab rs : Nat → Int32} {k : Nat} (hk : k < nbx B) (h : gdP B k ro co be ab rs) : ∃ ro' co' be' ab' rs', gdP B (k + 1) ro' co' be' ab' rs' ∧ fX1_addBox (nI (rAt B k)) (nI (cAt B k)) (nI (rst B k)) ro co be ab rs (nI k) = some (ro', co', be', ab', rs', nI (k + 1)) := by
  have n9 := hB.2.2.2.2.2.2.1
  obtain ⟨r1, r2, r3, -⟩ := box_row hk
  refine ⟨upd ro k (nI (rAt B k)), upd co k (nI (cAt B k)), upd be k (optI (bef B k)), upd ab k (optI (abv B k)), upd rs k (nI (rst B k)), ?_, ?_⟩
  · intro j hj
    by_cases e : j = k
    · subst e
      rw [pk_us, pk_us, pk_us, pk_us, pk_us]
      exact ⟨rfl, rfl, rfl, rfl, rfl⟩
    · rw [pk_un e, pk_un e, pk_un e, pk_un e, pk_un e]
      exact h j (by omega)
  · unfold fX1_addBox fX1_addBox_J56
    rw [if_pos (show nI k < 9 from nI_lt (b := 9) (by omega) (by decide)), gd_in (show k < 9 by omega) (by decide), nI_clamp (by omega), f_boxAt hB hk (fun j hj => by rw [pk_un (by omega)]; exact (h j hj).1) (fun j hj => by rw [pk_un (by omega)]; exact (h j hj).2.1), bd_s, nI_1]
    have e : (if nI k ≤ nI (rst B k) then (-1 : Int32) else nI k - 1) = optI (bef B k) := by
      rw [bef_of hk]
      by_cases q : k = rst B k
      · rw [if_pos (nI_le (by omega) (by omega)), if_pos q]; rfl
      · rw [if_neg (nI_ge (by omega) (by omega)), if_neg q, lit_1, nI_sub (by omega)]; rfl
    rw [e]
theorem lo_in {B : Bd} (hB : BdOK B) {outer : Nat → Int32} (ho : rq_4 outer (bo B)) {r : Nat} (hr : r < bR B) (k7 : Int32 → (Nat → Int32) → (Nat → Int32) → (Nat → Int32) → (Nat → Int32) → (Nat → Int32) → Int32 → Option ((Nat → Int32) × (Nat → Int32) × (Nat → Int32) × (Nat → Int32) × (Nat → Int32) × Int32)) : ∀ (m t n : Nat) (ro co be ab rs : Nat → Int32), t + m = bo B r - bi B r → m < n → gdP B ((rowsL B r).length + t) ro co be ab rs → ∃ ro' co' be' ab' rs', gdP B (rowsL B (r + 1)).length ro' co' be' ab' rs' ∧ fX1_layOut_L28 outer (nI r) (nI (rowsL B r).length) k7 n (nI (bi B r + t)) ro co be ab rs (nI ((rowsL B r).length + t)) = k7 (nI (r + 1)) ro' co' be' ab' rs' (nI (rowsL B (r + 1)).length) := by
  have h4 := hB.2.1
  have hrow := hB.2.2.1 r hr
  intro m
  induction m with
  | zero =>
    intro t n ro co be ab rs h hn hg
    obtain ⟨n, rfl, -⟩ := fuel hn
    refine ⟨ro, co, be, ab, rs, by rw [rowsL_len, ← h]; exact hg, ?_⟩
    rw [fX1_layOut_L28, rq_get ho (show r < 4 by omega), if_pos (nI_le (by omega) (by omega)), nI_1, rowsL_len, ← h]; rfl
  | succ m ih =>
    intro t n ro co be ab rs h hn hg
    obtain ⟨n, rfl, hn2⟩ := fuel hn
    have hlt : (rowsL B r).length + t < (rowsL B (r + 1)).length := by rw [rowsL_len]; omega
    have hk : (rowsL B r).length + t < nbx B := Nat.lt_of_lt_of_le hlt (rowsL_mono B (by omega))
    have e1 : rAt B ((rowsL B r).length + t) = r := rAt_eq hr (by omega) hlt
    have e2 : rst B ((rowsL B r).length + t) = (rowsL B r).length := by unfold rst; rw [e1]
    have e3 : cAt B ((rowsL B r).length + t) = bi B r + t := by
      rw [(box_row hk).2.2.2, e1, e2]; omega
    obtain ⟨ro', co', be', ab', rs', g1, g2⟩ := f_addBox hB hk hg
    rw [e1, e2, e3] at g2
    obtain ⟨ro2, co2, be2, ab2, rs2, g3, g4⟩ := ih (t + 1) n ro' co' be' ab' rs' (by omega) (by omega) g1
    refine ⟨ro2, co2, be2, ab2, rs2, g3, ?_⟩
    rw [fX1_layOut_L28, rq_get ho (show r < 4 by omega), if_neg (nI_ge (by omega) (by omega)), g2, bd_s, nI_1]
    exact g4
theorem f_layOut {B : Bd} (hB : BdOK B) {outer inner : Nat → Int32} (ho : rq_4 outer (bo B)) (hi : rq_4 inner (bi B)) (ro co be ab rs : Nat → Int32) : ∃ ro' co' be' ab' rs', gdI B ro' co' be' ab' rs' (nI (nbx B)) ∧ fX1_layOut ro co be ab rs (nI (bR B)) outer inner = some (ro', co', be', ab', rs', nI (nbx B)) := by
  have h4 := hB.2.1
  have L : ∀ (m r n : Nat) (ro co be ab rs : Nat → Int32), r + m = bR B → m < n → gdP B (rowsL B r).length ro co be ab rs → ∃ ro' co' be' ab' rs', gdI B ro' co' be' ab' rs' (nI (nbx B)) ∧ fX1_layOut_L7 (nI (bR B)) outer inner n (nI r) ro co be ab rs (nI (rowsL B r).length) = some (ro', co', be', ab', rs', nI (nbx B)) := by
    intro m
    induction m with
    | zero =>
      intro r n ro co be ab rs h hn hg
      obtain ⟨n, rfl, -⟩ := fuel hn
      have e : r = bR B := by omega
      subst e
      refine ⟨ro, co, be, ab, rs, ⟨rfl, fun j hj => (hg j hj).1, fun j hj => (hg j (by rw [colsL_len] at hj; exact hj)).2.1, fun b hb => (hg b hb).2.2.1, fun b hb => (hg b hb).2.2.2.1, fun b hb => (hg b hb).2.2.2.2⟩, ?_⟩
      rw [fX1_layOut_L7, if_pos (nI_le (by omega) (by omega))]; rfl
    | succ m ih =>
      intro r n ro co be ab rs h hn hg
      obtain ⟨n, rfl, hn2⟩ := fuel hn
      have hr : r < bR B := by omega
      obtain ⟨ro', co', be', ab', rs', g1, g2⟩ := lo_in hB ho hr (fX1_layOut_L7 (nI (bR B)) outer inner n) (bo B r - bi B r) 0 fu ro co be ab rs (by omega) (by have := (BdOK_b hB).1 r; unfold fu; omega) hg
      obtain ⟨ro2, co2, be2, ab2, rs2, g3, g4⟩ := ih (r + 1) n ro' co' be' ab' rs' (by omega) (by omega) g1
      refine ⟨ro2, co2, be2, ab2, rs2, g3, ?_⟩
      rw [fX1_layOut_L7, if_neg (nI_ge hr (by omega)), gd_in (show r < 4 by omega) (by decide), rq_get hi (show r < 4 by omega)]
      rw [Nat.add_zero, Nat.add_zero] at g2
      rw [g2]
      exact g4
  exact L (bR B) 0 fu ro co be ab rs (by omega) (by unfold fu; omega) (fun j h => absurd h (Nat.not_lt_zero j))
theorem cq_le (w : List Nat) (u : Nat) : ∀ k, cq w u k ≤ k := fun k => by
  induction k with
  | zero => exact Nat.le_refl 0
  | succ k ih =>
    rw [cq]
    split <;> omega
theorem cq_mono (w : List Nat) (u : Nat) {a b : Nat} (h : a ≤ b) : cq w u a ≤ cq w u b := by
  induction b with
  | zero => rw [show a = 0 by omega]; exact Nat.le_refl _
  | succ b ih =>
    by_cases e : a = b + 1
    · rw [e]; exact Nat.le_refl _
    · have := ih (by omega)
      rw [cq]; omega
theorem f_lattice {B : Bd} (hB : BdOK B) {num rs : Nat → Int32} {b : Nat} (hb : b < nbx B) {w : List Nat} (hw : ∀ j, j ≤ b → num j = nI (w.getD j 0)) (h4 : ∀ j, w.getD j 0 < 5) (h1 : 1 ≤ w.getD b 0) (hrs : rs b = nI (rst B b)) : fX0_keepsLattice (nI b) num rs = some (if latB B w b = true then 1 else 0) := by
  have n9 := hB.2.2.2.2.2.2.1
  have hst := (box_row hb).2.1
  have v4 := h4 b
  have L : ∀ (m e n : Nat), e + m = b + 1 → m < n → fX0_keepsLattice_L15 num rs (nI b) n (nI (cq w (w.getD b 0) e)) (nI (cq w (w.getD b 0 - 1) (if e ≤ rst B b then e else rst B b))) (nI e) = some (if latB B w b = true then 1 else 0) := by
    intro m
    induction m with
    | zero =>
      intro e n h hn
      obtain ⟨n, rfl, -⟩ := fuel hn
      have e1 : e = b + 1 := by omega
      subst e1
      have l1 := cq_le w (w.getD b 0) (b + 1)
      have l2 := cq_le w (w.getD b 0 - 1) (rst B b)
      rw [fX0_keepsLattice_L15, if_pos (nI_lt (by omega) (by omega)), nI_clamp (by omega), hw b (Nat.le_refl b), if_neg (show ¬ b + 1 ≤ rst B b by omega)]
      unfold fX0_keepsLattice_J85 fX0_keepsLattice_J90 latB
      by_cases q : w.getD b 0 = 1
      · rw [if_pos (show nI (w.getD b 0) = 1 by rw [q]; rfl), if_pos (by simp only [Bool.or_eq_true, decide_eq_true_eq]; exact Or.inl q)]; rfl
      · rw [if_neg (show ¬ nI (w.getD b 0) = 1 from fun e => q ((nI_eq (b := 1) (by omega) (by decide)).mp e))]
        by_cases q2 : cq w (w.getD b 0) (b + 1) ≤ cq w (w.getD b 0 - 1) (rst B b)
        · rw [if_neg (nI_nlt q2 (by omega)), if_pos (by simp only [Bool.or_eq_true, decide_eq_true_eq]; exact Or.inr q2)]; rfl
        · rw [if_pos (nI_lt (by omega) (by omega)), if_neg (by simp only [Bool.or_eq_true, decide_eq_true_eq]; omega)]; rfl
    | succ m ih =>
      intro e n h hn
      obtain ⟨n, rfl, h2⟩ := fuel hn
      have ve := h4 e
      rw [fX0_keepsLattice_L15, if_neg (nI_nlt (by omega) (by omega)), gd_in (show e < 9 by omega) (by decide), nI_clamp (by omega), nI_clamp (by omega), hw b (Nat.le_refl b), hw e (by omega), hrs]
      unfold fX0_keepsLattice_J68
      rw [show nI e + 1 = nI (e + 1) from nI_1 e]
      have g := ih (e + 1) n (by omega) (by omega)
      have a1 : (if nI (w.getD e 0) = nI (w.getD b 0) then nI (cq w (w.getD b 0) e) + 1 else nI (cq w (w.getD b 0) e)) = nI (cq w (w.getD b 0) (e + 1)) := by
        rw [cq]
        by_cases q : w.getD e 0 = w.getD b 0
        · rw [if_pos (by rw [q]), if_pos q, nI_1]
        · rw [if_neg (fun x => q ((nI_eq (by omega) (by omega)).mp x)), if_neg q]; rfl
      have a2 : (if nI (w.getD e 0) = nI (w.getD b 0) then nI (cq w (w.getD b 0 - 1) (if e ≤ rst B b then e else rst B b)) else if nI (w.getD e 0) = nI (w.getD b 0) - 1 then if nI (rst B b) ≤ nI e then nI (cq w (w.getD b 0 - 1) (if e ≤ rst B b then e else rst B b)) else nI (cq w (w.getD b 0 - 1) (if e ≤ rst B b then e else rst B b)) + 1 else nI (cq w (w.getD b 0 - 1) (if e ≤ rst B b then e else rst B b))) = nI (cq w (w.getD b 0 - 1) (if e + 1 ≤ rst B b then e + 1 else rst B b)) := by
        by_cases q3 : e < rst B b
        · rw [if_pos (show e ≤ rst B b by omega), if_pos (show e + 1 ≤ rst B b by omega), cq, if_neg (show ¬ nI (rst B b) ≤ nI e from nI_ge q3 (by omega))]
          by_cases q : w.getD e 0 = w.getD b 0
          · rw [if_pos (by rw [q]), if_neg (by omega)]; rfl
          · rw [if_neg (fun x => q ((nI_eq (by omega) (by omega)).mp x))]
            by_cases q4 : w.getD e 0 + 1 = w.getD b 0
            · rw [if_pos ((m1_eq (by omega) (by omega)).mpr q4), if_pos (by omega), nI_1]
            · rw [if_neg (fun x => q4 ((m1_eq (by omega) (by omega)).mp x)), if_neg (by omega)]; rfl
        · rw [if_neg (show ¬ e + 1 ≤ rst B b by omega), if_pos (show nI (rst B b) ≤ nI e from nI_le (by omega) (by omega))]
          have : (if e ≤ rst B b then e else rst B b) = rst B b := by split <;> omega
          rw [this]
          split
          · rfl
          · split <;> rfl
      rw [a1, a2]
      exact g
  unfold fX0_keepsLattice
  rw [gd_in (show b < 9 by omega) (by decide)]
  exact L (b + 1) 0 fu (by omega) (by unfold fu; omega)
theorem f_fitsX {B : Bd} (hB : BdOK B) {num ro co be ab rs : Nat → Int32} {gs : Int32} (hg : gdI B ro co be ab rs gs) {b : Nat} (hb : b < nbx B) {w : List Nat} (hw : ∀ j, j ≤ b → num j = nI (w.getD j 0)) (h4 : ∀ j, w.getD j 0 < 5) (h1 : 1 ≤ w.getD b 0) : fX0_fits (nI b) (nI (bK B)) num be ab rs = some (if (fitB B w b && (decide (bK B ≠ 2) || latB B w b)) = true then 1 else 0) := by
  have n9 := hB.2.2.2.2.2.2.1
  have hK := hB.1
  obtain ⟨-, -, -, g1, g2, g3⟩ := hg
  have J76 : fX0_fits_J76 (nI (bK B)) num rs (nI b) () = some (if (decide (bK B ≠ 2) || latB B w b) = true then 1 else 0) := by
    unfold fX0_fits_J76 fX0_fits_J92 fX0_fits_J97
    by_cases q : bK B = 2
    · rw [if_pos (show nI (bK B) = 2 by rw [q]; rfl), f_lattice hB hb hw h4 h1 (g3 b hb), bd_s]
      by_cases q2 : latB B w b = true
      · rw [if_pos q2, if_neg (by decide), if_pos (by simp [q2])]; rfl
      · rw [if_neg q2, if_pos rfl, if_neg (by simp [q, q2])]; rfl
    · rw [if_neg (show ¬ nI (bK B) = 2 from fun e => q ((nI_eq (b := 2) (by omega) (by decide)).mp e)), if_pos (by simp [q])]; rfl
  have J51 : fX0_fits_J51 (nI (bK B)) num ab rs (nI b) () = some (if (fitC B w b && (decide (bK B ≠ 2) || latB B w b)) = true then 1 else 0) := by
    unfold fX0_fits_J51
    rw [J76, nI_clamp (by omega), g2 b hb]
    cases e : abv B b with
    | none =>
      have ef : fitC B w b = true := by unfold fitC; rw [e]
      rw [optI_n, if_pos (by decide), ef, Bool.true_and]
    | some a =>
      have ef : fitC B w b = colOK (bK B) (w.getD a 0) (w.getD b 0) := by unfold fitC; rw [e]
      have ha := abv_lt e
      rw [optI_s, if_neg (nI_pos (by omega)), gd_in (show a < 9 by omega) (by decide), nI_clamp (by omega), hw a (by omega), hw b (by omega), f_below _ (by omega) _ (h4 a) _ (h4 b), bd_s, ef]
      by_cases q : colOK (bK B) (w.getD a 0) (w.getD b 0) = true
      · rw [if_pos q, if_neg (by decide), q, Bool.true_and]
      · rw [if_neg q, if_pos rfl, show colOK (bK B) (w.getD a 0) (w.getD b 0) = false by simpa only [Bool.not_eq_true] using q, Bool.false_and, if_neg (by decide)]
  unfold fX0_fits
  rw [gd_in (show b < 9 by omega) (by decide), J51, nI_clamp (by omega), g1 b hb, fitB_eq, Bool.and_assoc]
  cases e : bef B b with
  | none =>
    have ef : fitR B w b = true := by unfold fitR; rw [e]
    rw [optI_n, if_pos (by decide), ef, Bool.true_and]
  | some a =>
    have ef : fitR B w b = rowOK (bK B) (w.getD a 0) (w.getD b 0) := by unfold fitR; rw [e]
    have ha : a < b := by
      rw [bef_of hb] at e
      split at e
      · cases e
      · have := Option.some.inj e
        have := (box_row hb).2.1
        omega
    rw [optI_s, if_neg (nI_pos (by omega)), gd_in (show a < 9 by omega) (by decide), nI_clamp (by omega), hw a (by omega), hw b (by omega), f_beside _ (by omega) _ (h4 a) _ (h4 b), bd_s, ef]
    by_cases q : rowOK (bK B) (w.getD a 0) (w.getD b 0) = true
    · rw [if_pos q, if_neg (by decide), q, Bool.true_and]
    · rw [if_neg q, if_pos rfl, show rowOK (bK B) (w.getD a 0) (w.getD b 0) = false by simpa only [Bool.not_eq_true] using q, Bool.false_and, if_neg (by decide)]
