/-! looking at a filling -/
theorem shr_s : ∀ s, s < 32 → (nI s &&& 31) = nI s ∧ ((nI s).toBitVec.smod 32).toNat = s := by decide +kernel
theorem shr3 {c s : Nat} (hc : c < 2 ^ 31) (hs : s < 32) : (nI c >>> (nI s &&& 31)) &&& 3 = nI (c / 2 ^ s % 4) := by
  obtain ⟨e1, e2⟩ := shr_s s hs
  rw [e1]
  apply Int32.toBitVec_inj.mp
  rw [Int32.toBitVec_and, Int32.toBitVec_shiftRight]
  have e3 : (nI c).toBitVec = BitVec.ofNat 32 c := rfl
  have e4 : (nI (c / 2 ^ s % 4)).toBitVec = BitVec.ofNat 32 (c / 2 ^ s % 4) := rfl
  have e5 : (3 : Int32).toBitVec = BitVec.ofNat 32 3 := rfl
  have m : (BitVec.ofNat 32 c).msb = false := by
    rw [BitVec.msb_eq_false_iff_two_mul_lt, BitVec.toNat_ofNat, Nat.mod_eq_of_lt (by omega)]
    omega
  rw [BitVec.sshiftRight', e2, e3, e4, e5, BitVec.sshiftRight_eq_of_msb_false m]
  apply BitVec.eq_of_toNat_eq
  rw [BitVec.toNat_and, BitVec.toNat_ushiftRight, BitVec.toNat_ofNat, BitVec.toNat_ofNat, BitVec.toNat_ofNat, Nat.mod_eq_of_lt (show c < 2 ^ 32 by omega), Nat.shiftRight_eq_div_pow, Nat.mod_eq_of_lt (show c / 2 ^ s % 4 < 2 ^ 32 by omega), show 3 % 2 ^ 32 = 2 ^ 2 - 1 by decide, Nat.and_two_pow_sub_one_eq_mod]
theorem codeL_lt : ∀ (q : List Nat), (∀ x ∈ q, 1 ≤ x ∧ x ≤ 4) → ∀ c, q.foldl (fun c v => 4 * c + (v - 1)) c = c * 4 ^ q.length + codeL q ∧ codeL q < 4 ^ q.length := by
  intro q
  induction q with
  | nil => intro _ c; exact ⟨by simp [codeL], by decide⟩
  | cons x q ih =>
    intro h c
    have hx := h x (by simp)
    have h2 := ih (fun y hy => h y (by simp [hy]))
    have e : codeL (x :: q) = (x - 1) * 4 ^ q.length + codeL q := by
      show q.foldl (fun c v => 4 * c + (v - 1)) (4 * 0 + (x - 1)) = _
      rw [(h2 _).1]; simp
    have p4 : 4 ^ (x :: q).length = 4 * 4 ^ q.length := by rw [List.length_cons, Nat.pow_succ, Nat.mul_comm]
    refine ⟨?_, ?_⟩
    · rw [List.foldl_cons, (h2 _).1, e, p4, Nat.add_mul]
      rw [show c * (4 * 4 ^ q.length) = 4 * c * 4 ^ q.length by rw [← Nat.mul_assoc, Nat.mul_comm c 4]]
      omega
    · rw [e, p4]
      have := (h2 0).2
      have : (x - 1) * 4 ^ q.length ≤ 3 * 4 ^ q.length := Nat.mul_le_mul_right _ (by omega)
      omega
theorem codeL_split {p q : List Nat} (hq : ∀ x ∈ q, 1 ≤ x ∧ x ≤ 4) : codeL (p ++ q) / 4 ^ q.length = codeL p := by
  have h := codeL_lt q hq
  have e : codeL (p ++ q) = codeL p * 4 ^ q.length + codeL q := by
    unfold codeL
    rw [List.foldl_append]
    exact (h _).1
  rw [e, Nat.add_comm, Nat.add_mul_div_right _ _ (Nat.pow_pos (by decide)), Nat.div_eq_of_lt (h 0).2, Nat.zero_add]
theorem codeL_get {w : List Nat} (hw : ∀ x ∈ w, 1 ≤ x ∧ x ≤ 4) {b : Nat} (hb : b < w.length) : codeL w / 4 ^ (w.length - 1 - b) % 4 = w.getD b 0 - 1 := by
  have e : w = (w.take b ++ [w.getD b 0]) ++ w.drop (b + 1) := by
    conv => lhs; rw [← List.take_append_drop (b + 1) w]
    rw [List.take_succ]
    congr 2
    rw [List.getD_eq_getElem?_getD, List.getElem?_eq_getElem hb]; rfl
  have hl : (w.drop (b + 1)).length = w.length - 1 - b := by rw [List.length_drop]; omega
  rw [← hl]
  conv => lhs; lhs; lhs; rw [e]
  rw [codeL_split (fun x hx => hw x (List.mem_of_mem_drop hx)), codeL_app]
  have := getD_lt5 hw b
  omega
theorem codeL_small {w : List Nat} (hw : ∀ x ∈ w, 1 ≤ x ∧ x ≤ 4) (h9 : w.length ≤ 9) : codeL w < 262144 := by
  have a := (codeL_lt w hw 0).2
  have : 4 ^ w.length ≤ 4 ^ 9 := Nat.pow_le_pow_right (by decide) h9
  omega
theorem codeL_inj : ∀ (n : Nat) (w g : List Nat), w.length = n → g.length = n → (∀ x ∈ w, 1 ≤ x ∧ x ≤ 4) → (∀ x ∈ g, 1 ≤ x ∧ x ≤ 4) → codeL w = codeL g → w = g := by
  intro n w g h1 h2 hw hg e
  apply List.ext_getElem (by omega)
  intro i a b
  have c1 := codeL_get hw a
  have c2 := codeL_get hg b
  rw [e, h1, ← h2, c2] at c1
  have d1 : w.getD i 0 = w[i] := by rw [List.getD_eq_getElem?_getD, List.getElem?_eq_getElem a]; rfl
  have d2 : g.getD i 0 = g[i] := by rw [List.getD_eq_getElem?_getD, List.getElem?_eq_getElem b]; rfl
  have k1 := (hw _ (List.getElem_mem a)).1
  have k2 := (hg _ (List.getElem_mem b)).1
  omega
/-- the fillings themselves -/
theorem fls_full {B : Bd} {w : List Nat} (h : w ∈ fls B) : full B w ∧ bR B ≠ 0 ∧ csum B = nbx B := by
  by_cases q : bR B = 0 ∨ csum B ≠ nbx B
  · unfold fls at h
    rw [if_pos q] at h
    cases h
  · have hR : bR B ≠ 0 := fun e => q (Or.inl e)
    have hs : csum B = nbx B := by omega
    rw [fls_eq hR hs] at h
    exact ⟨dfs_full (List.mem_filter.mp h).1, hR, hs⟩
theorem fls_at {B : Bd} {k : Nat} (h : k < (fls B).length) : full B ((fls B).getD k []) := by
  rw [List.getD_eq_getElem?_getD, List.getElem?_eq_getElem h]
  exact (fls_full (List.getElem_mem h)).1
theorem code_at {B : Bd} {codes : Nat → Int32} (hc : agr codes ((fls B).map codeL)) {k : Nat} (h : k < (fls B).length) : codes k = nI (codeL ((fls B).getD k [])) := by
  rw [hc k (by rw [List.length_map]; exact h)]
  congr 1
  rw [List.getD_eq_getElem?_getD, List.getD_eq_getElem?_getD, List.getElem?_map, List.getElem?_eq_getElem h]; rfl
theorem f_numberIn {B : Bd} (hB : BdOK B) {codes : Nat → Int32} (hc : agr codes ((fls B).map codeL)) {k b : Nat} (hk : k < (fls B).length) (hb : b < nbx B) : fX0_numberIn (nI k) (nI b) codes (nI (nbx B)) = some (nI (((fls B).getD k []).getD b 0)) := by
  have n9 := hB.2.2.2.2.2.2.1
  have b4 := fls_400 hB
  have hf := fls_at hk
  have cs := codeL_small hf.2.1 (by rw [hf.1]; exact n9)
  have g1 := full_1 hf hb
  have g2 := codeL_get hf.2.1 (show b < ((fls B).getD k []).length by rw [hf.1]; exact hb)
  unfold fX0_numberIn
  rw [gd_in (show k < 400 by omega) (by decide), nI_clamp (by omega), code_at hc hk, lit_1, nI_sub (by omega), nI_sub (by omega), lit_2, nI_mul, shr3 (by omega) (by omega), Nat.pow_mul, show 2 ^ 2 = 4 by decide]
  rw [hf.1] at g2
  rw [g2, nI_add]
  congr 2
  omega
def bu (B : Bd) (w : List Nat) (i j : Nat) : Nat := cp (fun b => decide (rAt B b < i) && decide (w.getD b 0 ≤ j)) (nbx B)
def isum (B : Bd) : Nat → Nat
  | 0 => 0
  | i + 1 => isum B i + bi B i
theorem f_boxesUpTo {B : Bd} (hB : BdOK B) {codes ro : Nat → Int32} (hc : agr codes ((fls B).map codeL)) (hr : agr ro (rowsL B (bR B))) {k i j : Nat} (hk : k < (fls B).length) (hi : i ≤ 4) (hj : j ≤ 4) : fX0_boxesUpTo (nI k) (nI i) (nI j) codes ro (nI (nbx B)) = some (nI (bu B ((fls B).getD k []) i j)) := by
  have n9 := hB.2.2.2.2.2.2.1
  have hf := fls_at hk
  have L : ∀ (m b n : Nat), b + m = nbx B → m < n → fX0_boxesUpTo_L6 codes ro (nI (nbx B)) (nI k) (nI i) (nI j) n (nI (cp (fun b => decide (rAt B b < i) && decide (((fls B).getD k []).getD b 0 ≤ j)) b)) (nI b) = some (nI (bu B ((fls B).getD k []) i j)) := by
    intro m
    induction m with
    | zero =>
      intro b n h hn
      obtain ⟨n, rfl, -⟩ := fuel hn
      rw [fX0_boxesUpTo_L6, if_pos (nI_le (by omega) (by omega)), show b = nbx B by omega]; rfl
    | succ m ih =>
      intro b n h hn
      obtain ⟨n, rfl, h2⟩ := fuel hn
      have g := ih (b + 1) n (by omega) (by omega)
      have rc := BdOK_c hB (show b < nbx B by omega)
      have v5 := getD_lt5 hf.2.1 b
      rw [cp] at g
      rw [fX0_boxesUpTo_L6, if_neg (nI_ge (by omega) (by omega)), gd_in (show b < 9 by omega) (by decide), nI_clamp (by omega), a_r hr (by omega), f_numberIn hB hc hk (by omega), bd_s]
      unfold fX0_boxesUpTo_J46
      rw [nI_1]
      by_cases q : rAt B b < i
      · rw [if_neg (nI_ge q (by omega))]
        by_cases q2 : ((fls B).getD k []).getD b 0 ≤ j
        · rw [if_pos (by simp only [Bool.and_eq_true, decide_eq_true_eq]; exact ⟨q, q2⟩)] at g
          rw [if_neg (nI_nlt q2 (by omega)), nI_1]
          exact g
        · rw [if_neg (by simp only [Bool.and_eq_true, decide_eq_true_eq]; exact fun e => q2 e.2), Nat.add_zero] at g
          rw [if_pos (nI_lt (by omega) (by omega))]
          exact g
      · rw [if_neg (by simp only [Bool.and_eq_true, decide_eq_true_eq]; exact fun e => q e.1), Nat.add_zero] at g
        rw [if_pos (nI_le (by omega) (by omega))]
        exact g
  exact L (nbx B) 0 fu (by omega) (by unfold fu; omega)
theorem f_innerSum {B : Bd} (hB : BdOK B) {inner : Nat → Int32} (hi : rq_4 inner (bi B)) {i : Nat} (h : i ≤ bR B) : fX4_innerSum (nI i) (nI (bR B)) inner = some (nI (isum B i)) := by
  have h4 := hB.2.1
  have L : ∀ (m r n : Nat), r + m = i → m < n → fX4_innerSum_L4 (nI (bR B)) inner (nI i) fX4_innerSum_J32 n (nI (isum B r)) (nI r) = some (nI (isum B i)) := by
    intro m
    induction m with
    | zero =>
      intro r n h hn
      obtain ⟨n, rfl, -⟩ := fuel hn
      rw [fX4_innerSum_L4, if_pos (nI_le (by omega) (by omega)), show r = i by omega]; rfl
    | succ m ih =>
      intro r n h hn
      obtain ⟨n, rfl, h2⟩ := fuel hn
      rw [fX4_innerSum_L4, if_neg (nI_ge (by omega) (by omega)), if_neg (nI_ge (by omega) (by omega)), gd_in (show r < 4 by omega) (by decide), rq_get hi (by omega), nI_add, nI_1]
      exact ih (r + 1) n (by omega) (by omega)
  exact L i 0 fu (by omega) (by unfold fu; omega)
theorem f_partialSum {B : Bd} (hB : BdOK B) {codes ro inner : Nat → Int32} (hc : agr codes ((fls B).map codeL)) (hr : agr ro (rowsL B (bR B))) (hin : rq_4 inner (bi B)) {k i j : Nat} (hk : k < (fls B).length) (hi : i ≤ bR B) (hj : j ≤ 4) : fX7_partialSum (nI k) (nI i) (nI j) (nI (bR B)) inner codes ro (nI (nbx B)) = some (nI (isum B i + bu B ((fls B).getD k []) i j)) := by
  have h4 := hB.2.1
  unfold fX7_partialSum
  rw [f_innerSum hB hin hi, bd_s, f_boxesUpTo hB hc hr hk (by omega) hj, bd_s, nI_add]
theorem f_hiveNow {B : Bd} (hB : BdOK B) {ro now inner : Nat → Int32} (hr : agr ro (rowsL B (bR B))) (hin : rq_4 inner (bi B)) {w : List Nat} (hf : full B w) (hw : agr now w) {i j : Nat} (hi : i ≤ bR B) (hj : j ≤ 4) : fX8_hiveNow (nI i) (nI j) inner (nI (nbx B)) ro now = some (nI (isum B i + bu B w i j)) := by
  have n9 := hB.2.2.2.2.2.2.1
  have h4 := hB.2.1
  have L2 : ∀ (m b n : Nat), b + m = nbx B → m < n → fX8_hiveNow_L30 (nI (nbx B)) ro now (nI i) (nI j) n (nI (isum B i + cp (fun b => decide (rAt B b < i) && decide (w.getD b 0 ≤ j)) b)) (nI b) = some (nI (isum B i + bu B w i j)) := by
    intro m
    induction m with
    | zero =>
      intro b n h hn
      obtain ⟨n, rfl, -⟩ := fuel hn
      rw [fX8_hiveNow_L30, if_pos (nI_le (by omega) (by omega)), show b = nbx B by omega]; rfl
    | succ m ih =>
      intro b n h hn
      obtain ⟨n, rfl, h2⟩ := fuel hn
      have g := ih (b + 1) n (by omega) (by omega)
      have rc := BdOK_c hB (show b < nbx B by omega)
      have v5 := getD_lt5 hf.2.1 b
      rw [cp] at g
      rw [fX8_hiveNow_L30, if_neg (nI_ge (by omega) (by omega)), gd_in (show b < 9 by omega) (by decide), nI_clamp (by omega), a_r hr (by omega), hw b (by rw [hf.1]; omega)]
      unfold fX8_hiveNow_J66 fX8_hiveNow_J67
      rw [nI_1]
      by_cases q : rAt B b < i
      · rw [if_neg (nI_ge q (by omega))]
        by_cases q2 : w.getD b 0 ≤ j
        · rw [if_pos (by simp only [Bool.and_eq_true, decide_eq_true_eq]; exact ⟨q, q2⟩)] at g
          rw [if_neg (nI_nlt q2 (by omega)), nI_1]
          exact g
        · rw [if_neg (by simp only [Bool.and_eq_true, decide_eq_true_eq]; exact fun e => q2 e.2), Nat.add_zero] at g
          rw [if_pos (nI_lt (by omega) (by omega)), Int32.add_zero]
          exact g
      · rw [if_neg (by simp only [Bool.and_eq_true, decide_eq_true_eq]; exact fun e => q e.1), Nat.add_zero] at g
        rw [if_pos (nI_le (by omega) (by omega)), Int32.add_zero]
        exact g
  have L : ∀ (m r n : Nat), r + m = i → m < n → fX8_hiveNow_L5 inner (nI (nbx B)) ro now (nI i) (nI j) n (nI (isum B r)) (nI r) = some (nI (isum B i + bu B w i j)) := by
    intro m
    induction m with
    | zero =>
      intro r n h hn
      obtain ⟨n, rfl, -⟩ := fuel hn
      rw [fX8_hiveNow_L5, if_pos (nI_le (by omega) (by omega)), show r = i by omega]
      exact L2 (nbx B) 0 fu (by omega) (by unfold fu; omega)
    | succ m ih =>
      intro r n h hn
      obtain ⟨n, rfl, h2⟩ := fuel hn
      rw [fX8_hiveNow_L5, if_neg (nI_ge (by omega) (by omega)), gd_in (show r < 4 by omega) (by decide), rq_get hin (by omega), nI_add, nI_1]
      exact ih (r + 1) n (by omega) (by omega)
  exact L i 0 fu (by omega) (by unfold fu; omega)
/-- the place of a filling in a list -/
def idxF : List (List Nat) → List Nat → Nat → Int32
  | [], _, _ => -1
  | a :: l, g, k => if a = g then nI k else idxF l g (k + 1)
theorem f_indexOf {B : Bd} (hB : BdOK B) {codes : Nat → Int32} (hc : agr codes ((fls B).map codeL)) {g : List Nat} (hg : g.length = nbx B) (hg4 : ∀ x ∈ g, 1 ≤ x ∧ x ≤ 4) : fX0_indexOf (nI (codeL g)) (nI (fls B).length) codes = some (idxF (fls B) g 0) := by
  have n9 := hB.2.2.2.2.2.2.1
  have b4 := fls_400 hB
  have cg := codeL_small hg4 (by omega)
  have L : ∀ (l : List (List Nat)) (k n : Nat), (fls B).drop k = l → l.length < n → k ≤ (fls B).length → fX0_indexOf_L2 (nI (fls B).length) codes (nI (codeL g)) n (nI k) = some (idxF l g k) := by
    intro l
    induction l with
    | nil =>
      intro k n h hn hk
      obtain ⟨n, rfl, -⟩ := fuel hn
      have : (fls B).length ≤ k := List.drop_eq_nil_iff.mp h
      rw [fX0_indexOf_L2, if_pos (nI_le this (by omega))]; rfl
    | cons a l ih =>
      intro k n h hn hk
      obtain ⟨n, rfl, h2⟩ := fuel hn
      have hk2 : k < (fls B).length := by
        apply Classical.byContradiction
        intro q
        rw [List.drop_eq_nil_iff.mpr (by omega)] at h
        cases h
      have ea : (fls B).getD k [] = a := by
        rw [List.getD_eq_getElem?_getD]
        have : (fls B)[k]? = some a := by
          have := List.getElem?_drop (xs := fls B) (i := k) (j := 0)
          rw [h] at this
          simpa using this.symm
        rw [this]; rfl
      have hf := fls_at hk2
      have ca := codeL_small hf.2.1 (by rw [hf.1]; exact n9)
      rw [fX0_indexOf_L2, if_neg (nI_ge hk2 (by omega)), gd_in (show k < 400 by omega) (by decide), nI_clamp (by omega), code_at hc hk2, nI_1, idxF]
      by_cases e : a = g
      · rw [if_pos (by rw [ea, e]), if_pos e]
      · rw [if_neg (fun x => e (by
          rw [← ea]
          exact codeL_inj (nbx B) _ _ hf.1 hg hf.2.1 hg4 ((nI_eq (by omega) (by omega)).mp x))), if_neg e]
        exact ih (k + 1) n (by rw [← List.drop_drop, h]; rfl) (by rw [List.length_cons] at h2; omega) (by omega)
  exact L (fls B) 0 fu rfl (by unfold fu; omega) (Nat.zero_le _)
theorem f_isGiven {n : Nat} (hn : n ≤ 9) {now given : Nat → Int32} {w g : List Nat} (hw : agr now w) (hg : agr given g) (lw : w.length = n) (lg : g.length = n) (w5 : ∀ j, w.getD j 0 < 5) (g5 : ∀ j, g.getD j 0 < 5) : fX8_isGiven (nI n) now given = some (if w = g then 1 else 0) := by
  have L : ∀ (m b t : Nat) (f : Int32), b + m = n → m < t → FLG (∀ j, j < b → w.getD j 0 = g.getD j 0) f → fX8_isGiven_L4 (nI n) now given t f (nI b) = some (if w = g then 1 else 0) := by
    intro m
    induction m with
    | zero =>
      intro b t f h ht hf
      obtain ⟨t, rfl, -⟩ := fuel ht
      rw [fX8_isGiven_L4, if_pos (nI_le (by omega) (by omega))]
      have key : (∀ j, j < b → w.getD j 0 = g.getD j 0) ↔ w = g := by
        constructor
        · intro q
          apply List.ext_getElem (by omega)
          intro i a c
          have := q i (by omega)
          rw [List.getD_eq_getElem?_getD, List.getD_eq_getElem?_getD, List.getElem?_eq_getElem a, List.getElem?_eq_getElem c] at this
          exact this
        · intro e j _; rw [e]
      rcases hf with ⟨rfl, hf⟩ | ⟨rfl, hf⟩
      · rw [if_pos (key.mp hf)]; rfl
      · rw [if_neg (fun e => hf (key.mpr e))]; rfl
    | succ m ih =>
      intro b t f h ht hf
      obtain ⟨t, rfl, h2⟩ := fuel ht
      rw [fX8_isGiven_L4, if_neg (nI_ge (by omega) (by omega)), gd_in (show b < 9 by omega) (by decide), nI_clamp (by omega), hw b (by omega), hg b (by omega)]
      unfold fX8_isGiven_J35 fX8_isGiven_J36
      rw [nI_1]
      have wb := w5 b
      have gb := g5 b
      rcases hf with ⟨rfl, hf⟩ | ⟨rfl, hf⟩
      · rw [if_neg (by decide)]
        by_cases q : w.getD b 0 = g.getD b 0
        · rw [if_pos (by rw [q])]
          refine ih (b + 1) t 1 (by omega) (by omega) (Or.inl ⟨rfl, fun j hj => ?_⟩)
          by_cases e : j = b
          · rw [e]; exact q
          · exact hf j (by omega)
        · rw [if_neg (fun e => q ((nI_eq (by omega) (by omega)).mp e))]
          exact ih (b + 1) t 0 (by omega) (by omega) (Or.inr ⟨rfl, fun q2 => q (q2 b (by omega))⟩)
      · rw [if_pos rfl]
        exact ih (b + 1) t 0 (by omega) (by omega) (Or.inr ⟨rfl, fun q2 => hf (fun j hj => q2 j (by omega))⟩)
  exact L n 0 fu 1 (by omega) (by unfold fu; omega) (Or.inl ⟨rfl, fun j hj => by omega⟩)
theorem f_numberOf {B : Bd} (hB : BdOK B) (hR : bR B ≠ 0) {ro co content given : Nat → Int32} (h1 : agr ro (rowsL B (bR B))) (h2 : agr co (colsL B (bR B))) (hc : rq_4 content (bc B)) (now left : Nat → Int32) (box isC cn : Int32) (hcn : isC = 0 ∨ (isC = 1 ∧ cn = nI (fls B).length)) {g : List Nat} (hg : agr given g) (lg : g.length = nbx B) (g4 : ∀ x ∈ g, 1 ≤ x ∧ x ≤ 4) : ∃ now' left' box', fX8_numberOf (nI (bK B)) (nI (bR B)) content (nI (nbx B)) ro co now left box isC cn given = some (idxF (fls B) g 0, now', left', box', 1, nI (fls B).length) := by
  have n9 := hB.2.2.2.2.2.2.1
  have b4 := fls_400 hB
  obtain ⟨now1, left1, box1, ew⟩ := f_ways hB hR h1 h2 hc now left box isC cn hcn
  obtain ⟨now0, left0, z0, l0, eb⟩ := f_begin hc now1 left1
  unfold fX8_numberOf
  rw [ew, bd_s]
  dsimp only
  rw [eb, bd_s]
  dsimp only
  by_cases hn : nbx B = 0
  · have g0 : g = [] := List.eq_nil_of_length_eq_zero (by omega)
    have e : fls B = if csum B = 0 then [[]] else [] := by
      unfold fls
      rw [hn]
      by_cases q : csum B = 0
      · rw [if_neg (by omega), if_pos q]; rfl
      · rw [if_pos (Or.inr q), if_neg q]
    obtain ⟨n, hn', -⟩ := fuel (show 0 < fu by unfold fu; omega)
    refine ⟨now0, left0, 0, ?_⟩
    rw [hn', fX8_numberOf_L11]
    dsimp only
    by_cases q : csum B = 0
    · rw [if_pos q] at e
      rw [e, if_neg (show ¬ nI ([[]] : List (List Nat)).length ≤ 0 by decide), if_pos (show nI (nbx B) ≤ 0 by rw [hn]; decide)]
      unfold fX8_numberOf_J28
      have := f_isGiven (n := nbx B) n9 (now := now0) (given := given) (w := []) (g := g) (fun j h => absurd h (Nat.not_lt_zero j)) hg (by rw [hn]; rfl) lg (fun j => by simp) (getD_lt5 g4)
      rw [this, g0, bd_s, if_pos rfl, if_neg (by decide)]; rfl
    · rw [if_neg q] at e
      rw [e, if_pos (show nI ([] : List (List Nat)).length ≤ 0 by decide)]; rfl
  · by_cases hs : csum B = nbx B
    · have L : ∀ (l : List (List Nat)) (k n : Nat) (now left : Nat → Int32) (box : Int32), (∀ w ∈ l, full B w) → k + l.length = (fls B).length → l.length < n → CU B l now left box → ∃ now' left' box', fX8_numberOf_L11 (nI (bK B)) (nI (bR B)) (nI (nbx B)) ro co given (nI (fls B).length, now1, left1, box1, 1, nI (fls B).length) n (nI k) now left box = some (idxF l g k, now', left', box', 1, nI (fls B).length) := by
        intro l
        induction l with
        | nil =>
          intro k n now left box _ hk hl hcu
          obtain ⟨n, rfl, -⟩ := fuel hl
          refine ⟨now, left, box, ?_⟩
          rw [fX8_numberOf_L11]
          dsimp only
          rw [if_pos (nI_le (by simp at hk; omega) (by simp at hk; omega))]; rfl
        | cons w l ih =>
          intro k n now left box hfu hk hl hcu
          obtain ⟨n, rfl, hn2⟩ := fuel hl
          rw [List.length_cons] at hk hn2
          rcases cu_next hB h1 h2 hcu with ⟨e, -⟩ | ⟨w', l', now', left', box', e, ha, hcu', en⟩
          · cases e
          · cases e
            have hf := hfu w (by simp)
            rw [fX8_numberOf_L11]
            dsimp only
            rw [if_neg (nI_ge (by omega) (by omega)), if_neg (nI_nle (by omega) (by omega)), en, bd_s]
            unfold fX8_numberOf_J28
            dsimp only
            rw [f_isGiven n9 ha hg hf.1 lg (getD_lt5 hf.2.1) (getD_lt5 g4), bd_s, idxF, nI_1]
            by_cases q : w = g
            · rw [if_pos q, if_neg (by decide), if_pos q]
              exact ⟨now', left', box', rfl⟩
            · rw [if_neg q, if_pos rfl, if_neg q]
              exact ih (k + 1) n now' left' box' (fun w hw => hfu w (by simp [hw])) (by omega) (by omega) hcu'
      exact L (fls B) 0 fu now0 left0 0 (fun w hw => (fls_full hw).1) (by omega) (by unfold fu; omega) (cu_0 hB hR hs (by omega) z0 l0)
    · have e : fls B = [] := by unfold fls; rw [if_pos (Or.inr hs)]
      obtain ⟨n, hn', -⟩ := fuel (show 0 < fu by unfold fu; omega)
      refine ⟨now0, left0, 0, ?_⟩
      rw [hn', fX8_numberOf_L11]
      dsimp only
      rw [e, if_pos (show nI ([] : List (List Nat)).length ≤ 0 by decide)]; rfl
/-- the fillings of the class, fresh -/
theorem f_fresh {B : Bd} (hB : BdOK B) {outer inner content : Nat → Int32} (ho : rq_4 outer (bo B)) (hi : rq_4 inner (bi B)) (hc : rq_4 content (bc B)) {fr sz kd gs : Int32} {codes num left ro co be ab rs : Nat → Int32} (h : fr = 0 ∨ (fr = 1 ∧ FiI B sz kd codes ro co be ab rs gs)) : ∃ codes' num' left' ro' co' be' ab' rs', FiI B (nI (fls B).length) (nI (bK B)) codes' ro' co' be' ab' rs' (nI (nbx B)) ∧ fX7_freshFillings fr (nI (bK B)) (nI (bR B)) outer inner content sz kd codes num left ro co be ab rs gs = some (1, nI (fls B).length, nI (bK B), codes', num', left', ro', co', be', ab', rs', nI (nbx B)) := by
  unfold fX7_freshFillings fX7_freshFillings_J23
  rcases h with rfl | ⟨rfl, hf⟩
  · obtain ⟨a1, a2, a3, a4, a5, a6, a7, a8, e1, e2⟩ := f_findAll hB ho hi hc codes num left ro co be ab rs
    exact ⟨a1, a2, a3, a4, a5, a6, a7, a8, e1, by rw [if_pos rfl, e2, bd_s]⟩
  · obtain ⟨rfl, ⟨rfl, g⟩, rfl, h4⟩ := hf
    exact ⟨codes, num, left, ro, co, be, ab, rs, ⟨rfl, ⟨rfl, g⟩, rfl, h4⟩, by rw [if_neg (by decide)]⟩
