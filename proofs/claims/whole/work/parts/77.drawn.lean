/-! random fillings -/
def dz (z : Int64) : Int64 := ((1103515245 * z) + 12345) &&& 2147483647
def dn (z : Int64) : Nat := z.toBitVec.toNat / 65536 % 4 + 1
def dws : Nat → Int64 → List Nat → List Nat × Int64
  | 0, z, p => (p, z)
  | n + 1, z, p => dws n (dz z) (p ++ [dn (dz z)])
theorem and31 (z : Int64) : ∃ m, m < 2 ^ 31 ∧ (z &&& 2147483647) = lN m ∧ (z &&& 2147483647).toBitVec.toNat = m := by
  have e : (z &&& 2147483647).toBitVec.toNat = z.toBitVec.toNat % 2 ^ 31 := by
    rw [Int64.toBitVec_and, BitVec.toNat_and, show (2147483647 : Int64).toBitVec.toNat = 2 ^ 31 - 1 by decide, Nat.and_two_pow_sub_one_eq_mod]
  refine ⟨z.toBitVec.toNat % 2 ^ 31, Nat.mod_lt _ (by decide), ?_, e⟩
  apply Int64.toBitVec_inj.mp
  apply BitVec.eq_of_toNat_eq
  rw [e]
  have : (lN (z.toBitVec.toNat % 2 ^ 31)).toBitVec = BitVec.ofNat 64 (z.toBitVec.toNat % 2 ^ 31) := rfl
  have hlt := Nat.mod_lt z.toBitVec.toNat (show 0 < 2 ^ 31 by decide)
  rw [this, BitVec.toNat_ofNat, Nat.mod_eq_of_lt (show z.toBitVec.toNat % 2 ^ 31 < 2 ^ 64 by omega)]
theorem shrL {m : Nat} (hm : m < 2 ^ 31) : (lN m >>> ((16 : Int32).toInt64 &&& 63)) &&& 3 = lN (m / 65536 % 4) := by
  rw [show ((16 : Int32).toInt64 &&& 63) = 16 by decide]
  apply Int64.toBitVec_inj.mp
  rw [Int64.toBitVec_and, Int64.toBitVec_shiftRight]
  have e3 : (lN m).toBitVec = BitVec.ofNat 64 m := rfl
  have e4 : (lN (m / 65536 % 4)).toBitVec = BitVec.ofNat 64 (m / 65536 % 4) := rfl
  have e5 : (3 : Int64).toBitVec = BitVec.ofNat 64 3 := rfl
  have mm : (BitVec.ofNat 64 m).msb = false := by
    rw [BitVec.msb_eq_false_iff_two_mul_lt, BitVec.toNat_ofNat, Nat.mod_eq_of_lt (by omega)]
    omega
  rw [BitVec.sshiftRight', show ((16 : Int64).toBitVec.smod 64).toNat = 16 by decide, e3, e4, e5, BitVec.sshiftRight_eq_of_msb_false mm]
  apply BitVec.eq_of_toNat_eq
  rw [BitVec.toNat_and, BitVec.toNat_ushiftRight, BitVec.toNat_ofNat, BitVec.toNat_ofNat, BitVec.toNat_ofNat, Nat.mod_eq_of_lt (show m < 2 ^ 64 by omega), Nat.shiftRight_eq_div_pow, Nat.mod_eq_of_lt (show m / 65536 % 4 < 2 ^ 64 by omega), show 3 % 2 ^ 64 = 2 ^ 2 - 1 by decide, Nat.and_two_pow_sub_one_eq_mod]
theorem lN_div {a b : Nat} (ha : a < 2 ^ 31) (hb : b < 2 ^ 31) : lN a / lN b = lN (a / b) := by
  have hq : a / b ≤ a := Nat.div_le_self a b
  rw [← Int64.toInt_inj, Int64.toInt_div, lN_toInt ha, lN_toInt hb, lN_toInt (by omega), ← Int.ofNat_tdiv]
  generalize a / b = q at hq ⊢
  rw [Int.bmod_eq_of_le (by omega) (by omega)]
theorem dz_X (z : Int64) : 1 + ((((((1103515245 * z) + 12345) &&& 2147483647) >>> ((16 : Int32).toInt64 &&& 63)) &&& 3).toInt32) = nI (dn (dz z)) := by
  obtain ⟨m, h1, h2, h3⟩ := and31 ((1103515245 * z) + 12345)
  unfold dn dz
  rw [h3, h2, shrL h1, lN_i, lit_1, nI_add, Nat.add_comm]
theorem dz_M (z : Int64) : fX8_draw 4 z = some (nI (dn (dz z) - 1), dz z) := by
  obtain ⟨m, h1, h2, h3⟩ := and31 ((1103515245 * z) + 12345)
  unfold fX8_draw
  have e4 : (4 : Int32).toInt64 = lN 4 := by decide
  have e6 : (65536 : Int64) = lN 65536 := rfl
  have hd : dn (dz z) - 1 = m / 65536 % 4 := by unfold dn dz; rw [h3, Nat.add_sub_cancel]
  rw [hd, show gd (!decide ((4 : Int32).toInt64 = 0)) = gd (α := Int32 × Int64) true by rw [show (!decide ((4 : Int32).toInt64 = 0)) = true by decide], gd_t]
  unfold dz
  rw [h2, e4, e6, lN_div h1 (by decide), lN_div (by omega) (by decide), lN_mul, lN_sub (Nat.div_mul_le_self _ _), lN_i]
  congr 3
  omega
theorem dn_le (z : Int64) : 1 ≤ dn z ∧ dn z ≤ 4 := by
  unfold dn
  omega
theorem dws_ok : ∀ (n : Nat) (z : Int64) (p : List Nat), (∀ x ∈ p, 1 ≤ x ∧ x ≤ 4) → (dws n z p).1.length = p.length + n ∧ ∀ x ∈ (dws n z p).1, 1 ≤ x ∧ x ≤ 4 := by
  intro n
  induction n with
  | zero => intro z p h; exact ⟨rfl, h⟩
  | succ n ih =>
    intro z p h
    have := ih (dz z) (p ++ [dn (dz z)]) (v_app h (dn_le _).1 (dn_le _).2)
    rw [dws]
    refine ⟨?_, this.2⟩
    rw [this.1]
    simp
    omega
theorem f_drawNumbers {B : Bd} (hB : BdOK B) (z : Int64) (num : Nat → Int32) : ∃ num', agr num' (dws (nbx B) z []).1 ∧ fX0_drawNumbers z num (nI (nbx B)) = some ((dws (nbx B) z []).2, num') := by
  have n9 := hB.2.2.2.2.2.2.1
  have L : ∀ (m n : Nat) (z : Int64) (p : List Nat) (num : Nat → Int32), p.length + m = nbx B → m < n → agr num p → ∃ num', agr num' (dws m z p).1 ∧ fX0_drawNumbers_L5 (nI (nbx B)) n z (nI p.length) num = some ((dws m z p).2, num') := by
    intro m
    induction m with
    | zero =>
      intro n z p num h hn ha
      obtain ⟨n, rfl, -⟩ := fuel hn
      exact ⟨num, ha, by rw [fX0_drawNumbers_L5, if_pos (nI_le (by omega) (by omega))]; rfl⟩
    | succ m ih =>
      intro n z p num h hn ha
      obtain ⟨n, rfl, h2⟩ := fuel hn
      obtain ⟨num', e1, e2⟩ := ih n (dz z) (p ++ [dn (dz z)]) (upd num p.length (nI (dn (dz z)))) (by rw [List.length_append]; show p.length + 1 + m = nbx B; omega) (by omega) (agr_app ha)
      refine ⟨num', e1, ?_⟩
      rw [fX0_drawNumbers_L5, if_neg (nI_ge (by omega) (by omega)), gd_in (show p.length < 9 by omega) (by decide), nI_1, nI_clamp (by omega), dz_X]
      rw [show (p ++ [dn (dz z)]).length = p.length + 1 by simp] at e2
      exact e2
  exact L (nbx B) fu z [] num (by simp) (by unfold fu; omega) (fun j h => absurd h (Nat.not_lt_zero j))
def sat (B : Bd) (w : List Nat) : Prop := ∀ b, b < nbx B → (fitB B w b && (decide (bK B ≠ 2) || latB B w b)) = true
def asT (B : Bd) (w : List Nat) : Prop := ∀ v, v < 4 → cq w (v + 1) (nbx B) = bc B v
theorem w_1 {w : List Nat} (h : ∀ x ∈ w, 1 ≤ x ∧ x ≤ 4) {j : Nat} (hj : j < w.length) : 1 ≤ w.getD j 0 := by
  rw [List.getD_eq_getElem?_getD, List.getElem?_eq_getElem hj]
  exact (h _ (List.getElem_mem _)).1
theorem f_satisfies {B : Bd} (hB : BdOK B) {num ro co be ab rs : Nat → Int32} (hg : gdI B ro co be ab rs (nI (nbx B))) {w : List Nat} (hw : agr num w) (hl : w.length = nbx B) (h4 : ∀ x ∈ w, 1 ≤ x ∧ x ≤ 4) : ∃ f, FLG (sat B w) f ∧ fX0_satisfiesRule (nI (bK B)) num be ab rs (nI (nbx B)) = some f := by
  have n9 := hB.2.2.2.2.2.2.1
  have L : ∀ (m b n : Nat), b + m = nbx B → m < n → (∀ j, j < b → (fitB B w j && (decide (bK B ≠ 2) || latB B w j)) = true) → ∃ f, FLG (sat B w) f ∧ fX0_satisfiesRule_L2 (nI (bK B)) num be ab rs (nI (nbx B)) n (nI b) = some f := by
    intro m
    induction m with
    | zero =>
      intro b n h hn ha
      obtain ⟨n, rfl, -⟩ := fuel hn
      exact ⟨1, Or.inl ⟨rfl, fun j hj => ha j (by omega)⟩, by rw [fX0_satisfiesRule_L2, if_pos (nI_le (by omega) (by omega))]⟩
    | succ m ih =>
      intro b n h hn ha
      obtain ⟨n, rfl, h2⟩ := fuel hn
      rw [fX0_satisfiesRule_L2, if_neg (nI_ge (by omega) (by omega)), f_fitsX hB hg (show b < nbx B by omega) (fun j hj => hw j (by omega)) (getD_lt5 h4) (w_1 h4 (by omega)), bd_s]
      by_cases q : (fitB B w b && (decide (bK B ≠ 2) || latB B w b)) = true
      · rw [if_pos q, if_neg (by decide), nI_1]
        refine ih (b + 1) n (by omega) (by omega) (fun j hj => ?_)
        by_cases e : j = b
        · rw [e]; exact q
        · exact ha j (by omega)
      · rw [if_neg q, if_pos rfl]
        exact ⟨0, Or.inr ⟨rfl, fun s => q (s b (by omega))⟩, rfl⟩
  exact L (nbx B) 0 fu (by omega) (by unfold fu; omega) (fun j hj => absurd hj (Nat.not_lt_zero j))
theorem keeps_L {B : Bd} (hB : BdOK B) {ro co now : Nat → Int32} (h1 : agr ro (rowsL B (bR B))) (h2 : agr co (colsL B (bR B))) {w : List Nat} (hw : agr now w) (hl : w.length = nbx B) (h4 : ∀ x ∈ w, 1 ≤ x ∧ x ≤ 4) {P : Prop} : ∀ (m b n : Nat) (f : Int32), b + m = nbx B → m < n → FLG (P ∧ ∀ j, j < b → fitB B w j = true) f → ∃ f', FLG (P ∧ ∀ j, j < nbx B → fitB B w j = true) f' ∧ fX8_keeps_L23 (nI (bK B)) (nI (nbx B)) ro co now n f (nI b) = some f' := by
  have n9 := hB.2.2.2.2.2.2.1
  intro m
  induction m with
  | zero =>
    intro b n f h hn hf
    obtain ⟨n, rfl, -⟩ := fuel hn
    have e : b = nbx B := by omega
    subst e
    exact ⟨f, hf, by rw [fX8_keeps_L23, if_pos (nI_le (by omega) (by omega)), gd_b (by rcases hf with h | h; exact Or.inr h.1; exact Or.inl h.1)]⟩
  | succ m ih =>
    intro b n f h hn hf
    obtain ⟨n, rfl, hn2⟩ := fuel hn
    rw [fX8_keeps_L23, if_neg (nI_ge (by omega) (by omega)), f_fitsM hB h1 h2 (show b < nbx B by omega) (fun j hj => hw j (by omega)) (getD_lt5 h4), bd_s]
    unfold fX8_keeps_J47 fX8_keeps_J48
    rw [nI_1]
    rcases hf with ⟨rfl, hf⟩ | ⟨rfl, hf⟩
    · rw [if_neg (by decide)]
      by_cases q : fitB B w b = true
      · rw [if_pos q, if_neg (by decide)]
        refine ih (b + 1) n 1 (by omega) (by omega) (Or.inl ⟨rfl, hf.1, fun j hj => ?_⟩)
        by_cases e : j = b
        · rw [e]; exact q
        · exact hf.2 j (by omega)
      · rw [if_neg q, if_pos rfl]
        exact ih (b + 1) n 0 (by omega) (by omega) (Or.inr ⟨rfl, fun s => q (s.2 b (by omega))⟩)
    · rw [if_pos rfl]
      exact ih (b + 1) n 0 (by omega) (by omega) (Or.inr ⟨rfl, fun s => hf ⟨s.1, fun j hj => s.2 j (by omega)⟩⟩)
theorem f_keeps {B : Bd} (hB : BdOK B) {ro co now : Nat → Int32} (h1 : agr ro (rowsL B (bR B))) (h2 : agr co (colsL B (bR B))) {w : List Nat} (hw : agr now w) (hl : w.length = nbx B) (h4 : ∀ x ∈ w, 1 ≤ x ∧ x ≤ 4) : ∃ f, FLG (sat B w) f ∧ fX8_keeps (nI (bK B)) (nI (bR B)) (nI (nbx B)) ro co now = some f := by
  have n9 := hB.2.2.2.2.2.2.1
  have hK := hB.1
  unfold fX8_keeps fX8_keeps_J15 fX8_keeps_J20
  by_cases k2 : bK B = 2
  · obtain ⟨f, hf, ef⟩ := f_isLattice hB h1 hw hl (getD_lt5 h4)
    have key : (LTp B w ∧ ∀ j, j < nbx B → fitB B w j = true) ↔ sat B w := by
      constructor
      · rintro ⟨a, b⟩ j hj
        have fu2 : full B w := ⟨hl, h4, b⟩
        rw [b j hj, (lat_iff (getD_lt5 h4) (fun j hj => full_1 fu2 hj) (full_wk k2 fu2)).mp a j hj]
        simp
      · intro s
        have b : ∀ j, j < nbx B → fitB B w j = true := fun j hj => (Bool.and_eq_true_iff.mp (s j hj)).1
        have fu2 : full B w := ⟨hl, h4, b⟩
        refine ⟨(lat_iff (getD_lt5 h4) (fun j hj => full_1 fu2 hj) (full_wk k2 fu2)).mpr (fun j hj => ?_), b⟩
        have := (Bool.and_eq_true_iff.mp (s j hj)).2
        rw [k2] at this
        simpa using this
    rw [if_pos (show nI (bK B) = 2 by rw [k2]; rfl), ef, bd_s]
    unfold FLG at hf
    rcases hf with ⟨rfl, hf⟩ | ⟨rfl, hf⟩
    · rw [if_neg (by decide)]
      obtain ⟨f', g1, g2⟩ := keeps_L hB h1 h2 hw hl h4 (P := LTp B w) (nbx B) 0 fu 1 (by omega) (by unfold fu; omega) (Or.inl ⟨rfl, hf, fun j hj => absurd hj (Nat.not_lt_zero j)⟩)
      unfold FLG at g1
      rw [key] at g1
      exact ⟨f', g1, g2⟩
    · rw [if_pos rfl]
      obtain ⟨f', g1, g2⟩ := keeps_L hB h1 h2 hw hl h4 (P := LTp B w) (nbx B) 0 fu 0 (by omega) (by unfold fu; omega) (Or.inr ⟨rfl, fun s => hf s.1⟩)
      unfold FLG at g1
      rw [key] at g1
      exact ⟨f', g1, g2⟩
  · have key : (True ∧ ∀ j, j < nbx B → fitB B w j = true) ↔ sat B w := by
      constructor
      · rintro ⟨-, b⟩ j hj
        rw [b j hj]
        simp [k2]
      · intro s
        exact ⟨trivial, fun j hj => (Bool.and_eq_true_iff.mp (s j hj)).1⟩
    rw [if_neg (show ¬ nI (bK B) = 2 from fun e => k2 ((nI_eq (b := 2) (by omega) (by decide)).mp e))]
    obtain ⟨f', g1, g2⟩ := keeps_L hB h1 h2 hw hl h4 (P := True) (nbx B) 0 fu 1 (by omega) (by unfold fu; omega) (Or.inl ⟨rfl, trivial, fun j hj => absurd hj (Nat.not_lt_zero j)⟩)
    unfold FLG at g1
    rw [key] at g1
    exact ⟨f', g1, g2⟩
theorem f_timesThere {B : Bd} (hB : BdOK B) {num : Nat → Int32} {w : List Nat} (hw : agr num w) (hl : w.length = nbx B) (h5 : ∀ j, w.getD j 0 < 5) {v : Nat} (hv : v ≤ 4) : fX0_timesThere (nI v) num (nI (nbx B)) = some (nI (cq w v (nbx B))) := by
  have n9 := hB.2.2.2.2.2.2.1
  have L : ∀ (m b n : Nat), b + m = nbx B → m < n → fX0_timesThere_L4 num (nI (nbx B)) (nI v) n (nI (cq w v b)) (nI b) = some (nI (cq w v (nbx B))) := by
    intro m
    induction m with
    | zero =>
      intro b n h hn
      obtain ⟨n, rfl, -⟩ := fuel hn
      rw [fX0_timesThere_L4, if_pos (nI_le (by omega) (by omega)), show b = nbx B by omega]
    | succ m ih =>
      intro b n h hn
      obtain ⟨n, rfl, h2⟩ := fuel hn
      have g := ih (b + 1) n (by omega) (by omega)
      have wb := h5 b
      rw [cq] at g
      rw [fX0_timesThere_L4, if_neg (nI_ge (by omega) (by omega)), gd_in (show b < 9 by omega) (by decide), nI_clamp (by omega), hw b (by omega)]
      unfold fX0_timesThere_J28
      by_cases q : w.getD b 0 = v
      · rw [if_pos q] at g
        rw [if_pos (by rw [q]), nI_1, nI_1]
        exact g
      · rw [if_neg q] at g
        rw [if_neg (fun e => q ((nI_eq (by omega) (by omega)).mp e)), nI_1]
        exact g
  exact L (nbx B) 0 fu (by omega) (by unfold fu; omega)
theorem f_hasContent {B : Bd} (hB : BdOK B) {num content : Nat → Int32} (hc : rq_4 content (bc B)) {w : List Nat} (hw : agr num w) (hl : w.length = nbx B) (h5 : ∀ j, w.getD j 0 < 5) : ∃ f, FLG (asT B w) f ∧ fX0_hasContent num (nI (nbx B)) content = some f := by
  have n9 := hB.2.2.2.2.2.2.1
  have L : ∀ (m v n : Nat), v + m = 4 → m < n → (∀ j, j < v → cq w (j + 1) (nbx B) = bc B j) → ∃ f, FLG (asT B w) f ∧ fX0_hasContent_L2 num (nI (nbx B)) content n (nI (v + 1)) = some f := by
    intro m
    induction m with
    | zero =>
      intro v n h hn ha
      obtain ⟨n, rfl, -⟩ := fuel hn
      have e : v = 4 := by omega
      subst e
      exact ⟨1, Or.inl ⟨rfl, ha⟩, by rw [fX0_hasContent_L2, if_pos (by decide)]⟩
    | succ m ih =>
      intro v n h hn ha
      obtain ⟨n, rfl, h2⟩ := fuel hn
      have l1 := cq_le w (v + 1) (nbx B)
      have cb := hB.2.2.2.2.2.1 v
      rw [fX0_hasContent_L2, if_neg (show ¬ 4 < nI (v + 1) from nI_nlt (a := 4) (by omega) (by decide)), f_timesThere hB hw hl h5 (by omega), bd_s, show nI (v + 1) - 1 = nI v by rw [lit_1, nI_sub (by omega), Nat.add_sub_cancel], gd_in (show v < 4 by omega) (by decide), rq_get hc (by omega), nI_1]
      by_cases q : cq w (v + 1) (nbx B) = bc B v
      · rw [if_pos (by rw [q])]
        refine ih (v + 1) n (by omega) (by omega) (fun j hj => ?_)
        by_cases e : j = v
        · rw [e]; exact q
        · exact ha j (by omega)
      · rw [if_neg (fun e => q ((nI_eq (by omega) (by omega)).mp e))]
        exact ⟨0, Or.inr ⟨rfl, fun s => q (s v (by omega))⟩, rfl⟩
  exact L 4 0 fu (by omega) (by unfold fu; omega) (fun j hj => absurd hj (Nat.not_lt_zero j))
theorem f_isAsTold {B : Bd} (hB : BdOK B) {now content : Nat → Int32} (hc : rq_4 content (bc B)) {w : List Nat} (hw : agr now w) (hl : w.length = nbx B) (h5 : ∀ j, w.getD j 0 < 5) : ∃ f, FLG (asT B w) f ∧ fX8_isAsTold content (nI (nbx B)) now = some f := by
  have n9 := hB.2.2.2.2.2.2.1
  have Lin : ∀ (v : Nat) (f : Int32) (k4 : Int32 → Int32 → Option Int32), v < 4 → ∀ (m b n : Nat), b + m = nbx B → m < n → fX8_isAsTold_L14 content (nI (nbx B)) now f (nI (v + 1)) k4 n (nI (cq w (v + 1) b)) (nI b) = (if f = 0 then k4 0 (nI (v + 2)) else if cq w (v + 1) (nbx B) = bc B v then k4 1 (nI (v + 2)) else k4 0 (nI (v + 2))) := by
    intro v f k4 hv m
    induction m with
    | zero =>
      intro b n h hn
      obtain ⟨n, rfl, -⟩ := fuel hn
      have e : b = nbx B := by omega
      subst e
      have l1 := cq_le w (v + 1) (nbx B)
      have cb := hB.2.2.2.2.2.1 v
      rw [fX8_isAsTold_L14, if_pos (nI_le (by omega) (by omega))]
      unfold fX8_isAsTold_J68 fX8_isAsTold_J69
      rw [show nI (v + 1) - 1 = nI v by rw [lit_1, nI_sub (by omega), Nat.add_sub_cancel], gd_in (show v < 4 by omega) (by decide), rq_get hc (by omega), nI_1]
      by_cases q : cq w (v + 1) (nbx B) = bc B v
      · rw [if_pos (show nI (cq w (v + 1) (nbx B)) = nI (bc B v) by rw [q]), if_pos q]
      · rw [if_neg (show ¬ nI (cq w (v + 1) (nbx B)) = nI (bc B v) from fun e => q ((nI_eq (by omega) (by omega)).mp e)), if_neg q]
    | succ m ih =>
      intro b n h hn
      obtain ⟨n, rfl, h2⟩ := fuel hn
      have g := ih (b + 1) n (by omega) (by omega)
      have wb := h5 b
      rw [cq] at g
      rw [fX8_isAsTold_L14, if_neg (nI_ge (by omega) (by omega)), gd_in (show b < 9 by omega) (by decide), nI_clamp (by omega), hw b (by omega)]
      unfold fX8_isAsTold_J40
      rw [nI_1]
      by_cases q : w.getD b 0 = v + 1
      · rw [if_pos q] at g
        rw [if_pos (by rw [q]), nI_1]
        exact g
      · rw [if_neg q] at g
        rw [if_neg (fun e => q ((nI_eq (by omega) (by omega)).mp e)), Int32.add_zero]
        exact g
  have L : ∀ (m v n : Nat) (f : Int32), v + m = 4 → m < n → FLG (∀ j, j < v → cq w (j + 1) (nbx B) = bc B j) f → ∃ f', FLG (asT B w) f' ∧ fX8_isAsTold_L4 content (nI (nbx B)) now n f (nI (v + 1)) = some f' := by
    intro m
    induction m with
    | zero =>
      intro v n f h hn hf
      obtain ⟨n, rfl, -⟩ := fuel hn
      have e : v = 4 := by omega
      subst e
      exact ⟨f, hf, by rw [fX8_isAsTold_L4, if_pos (by decide), gd_b (by rcases hf with h | h; exact Or.inr h.1; exact Or.inl h.1)]⟩
    | succ m ih =>
      intro v n f h hn hf
      obtain ⟨n, rfl, h2⟩ := fuel hn
      have e := Lin v f (fX8_isAsTold_L4 content (nI (nbx B)) now n) (by omega) (nbx B) 0 fu (by omega) (by unfold fu; omega)
      rw [fX8_isAsTold_L4, if_neg (show ¬ 4 < nI (v + 1) from nI_nlt (a := 4) (by omega) (by decide)), show fX8_isAsTold_L14 content (nI (nbx B)) now f (nI (v + 1)) (fX8_isAsTold_L4 content (nI (nbx B)) now n) fu 0 0 = _ from e]
      rcases hf with ⟨rfl, hf⟩ | ⟨rfl, hf⟩
      · rw [if_neg (by decide)]
        by_cases q : cq w (v + 1) (nbx B) = bc B v
        · rw [if_pos q]
          refine ih (v + 1) n 1 (by omega) (by omega) (Or.inl ⟨rfl, fun j hj => ?_⟩)
          by_cases e : j = v
          · rw [e]; exact q
          · exact hf j (by omega)
        · rw [if_neg q]
          exact ih (v + 1) n 0 (by omega) (by omega) (Or.inr ⟨rfl, fun s => q (s v (by omega))⟩)
      · rw [if_pos rfl]
        exact ih (v + 1) n 0 (by omega) (by omega) (Or.inr ⟨rfl, fun s => hf (fun j hj => s j (by omega))⟩)
  exact L 4 0 fu 1 (by omega) (by unfold fu; omega) (Or.inl ⟨rfl, fun j hj => absurd hj (Nat.not_lt_zero j)⟩)
theorem FLG_u {P : Prop} {f g : Int32} (h1 : FLG P f) (h2 : FLG P g) : f = g := by
  rcases h1 with ⟨rfl, a⟩ | ⟨rfl, a⟩ <;> rcases h2 with ⟨rfl, b⟩ | ⟨rfl, b⟩
  · rfl
  · exact absurd a b
  · exact absurd b a
  · rfl
theorem drawM_in {B : Bd} (hB : BdOK B) (ro co content : Nat → Int32) (x4 x5 x6 : Int32) (k15 : Int32 → Int32 → Int32 → (Nat → Int32) → Int64 → Option (Int32 × (Nat → Int32) × Int64)) : ∀ (m n : Nat) (z : Int64) (p : List Nat) (now : Nat → Int32), p.length + m = nbx B → m < n → agr now p → ∃ now', agr now' (dws m z p).1 ∧ fX8_drawnNow_L24 (nI (bK B)) (nI (bR B)) content (nI (nbx B)) ro co x4 x5 x6 k15 n (nI p.length) now z = bd (fX8_keeps (nI (bK B)) (nI (bR B)) (nI (nbx B)) ro co now') (fun r_5 => fX8_drawnNow_J71 content (nI (nbx B)) x4 x5 x6 now' (dws m z p).2 r_5 k15 (if r_5 = 0 then 0 else 1)) := by
  have n9 := hB.2.2.2.2.2.2.1
  intro m
  induction m with
  | zero =>
    intro n z p now h hn ha
    obtain ⟨n, rfl, -⟩ := fuel hn
    exact ⟨now, ha, by rw [fX8_drawnNow_L24, if_pos (nI_le (by omega) (by omega))]; rfl⟩
  | succ m ih =>
    intro n z p now h hn ha
    obtain ⟨n, rfl, h2⟩ := fuel hn
    have dl := dn_le (dz z)
    obtain ⟨now', e1, e2⟩ := ih n (dz z) (p ++ [dn (dz z)]) (upd now p.length (nI (dn (dz z)))) (by rw [List.length_append]; show p.length + 1 + m = nbx B; omega) (by omega) (agr_app ha)
    refine ⟨now', e1, ?_⟩
    rw [fX8_drawnNow_L24, if_neg (nI_ge (by omega) (by omega)), dz_M, bd_s, gd_in (show p.length < 9 by omega) (by decide), nI_1, nI_clamp (by omega)]
    dsimp only
    rw [nI_1, Nat.sub_add_cancel dl.1]
    rw [show (p ++ [dn (dz z)]).length = p.length + 1 by simp] at e2
    exact e2
theorem drawn_L {B : Bd} (hB : BdOK B) {ro co content1 content2 r' co' be' ab' rs' : Nat → Int32} (h1 : agr ro (rowsL B (bR B))) (h2 : agr co (colsL B (bR B))) (hc1 : rq_4 content1 (bc B)) (hc2 : rq_4 content2 (bc B)) (hg : gdI B r' co' be' ab' rs' (nI (nbx B))) (sz : Int32) (c' m' l' : Nat → Int32) {T p3 : Nat} (hT : T ≤ 100) (hp3 : p3 ≤ 2) : ∀ (m k n1 n2 : Nat) (z : Int64) (a b : Int32) (num now : Nat → Int32), k + m = T → m < n1 → m < n2 → ∃ v num' now' z', fX7_drawn_L59 content1 (nI T) (nI p3) (1, sz, nI (bK B), c', m', l', r', co', be', ab', rs', nI (nbx B)) n1 z a b (nI k) num = some (v, 1, sz, nI (bK B), c', num', l', r', co', be', ab', rs', nI (nbx B)) ∧ fX8_drawnNow_L15 (nI (bK B)) (nI (bR B)) content2 (nI (nbx B)) ro co (nI T) (nI p3) n2 a b (nI k) now z = some (v, now', z') := by
  have n9 := hB.2.2.2.2.2.2.1
  intro m
  induction m with
  | zero =>
    intro k n1 n2 z a b num now h hn1 hn2
    obtain ⟨n1, rfl, -⟩ := fuel hn1
    obtain ⟨n2, rfl, -⟩ := fuel hn2
    rw [fX7_drawn_L59, fX8_drawnNow_L15, if_pos (nI_le (show T ≤ k by omega) (by omega)), if_pos (nI_le (show T ≤ k by omega) (by omega))]
    unfold fX7_drawn_J133 fX8_drawnNow_J126
    rcases (show p3 = 0 ∨ p3 = 1 ∨ p3 = 2 by omega) with rfl | rfl | rfl
    · exact ⟨a, num, now, z, rfl, rfl⟩
    · exact ⟨b, num, now, z, rfl, rfl⟩
    · exact ⟨z.toInt32, num, now, z, rfl, rfl⟩
  | succ m ih =>
    intro k n1 n2 z a b num now h hn1 hn2
    obtain ⟨n1, rfl, g1⟩ := fuel hn1
    obtain ⟨n2, rfl, g2⟩ := fuel hn2
    obtain ⟨num', e1, e2⟩ := f_drawNumbers hB z num
    obtain ⟨now', e3, e4⟩ := drawM_in hB ro co content2 a b (nI k) (fX8_drawnNow_L15 (nI (bK B)) (nI (bR B)) content2 (nI (nbx B)) ro co (nI T) (nI p3) n2) (nbx B) fu z [] now (by simp) (by unfold fu; omega) (fun j h => absurd h (Nat.not_lt_zero j))
    obtain ⟨w1, w2⟩ := dws_ok (nbx B) z [] (fun x h => by cases h)
    rw [List.length_nil, Nat.zero_add] at w1
    obtain ⟨f, f1, f2⟩ := f_satisfies hB hg e1 w1 w2
    obtain ⟨f', f3, f4⟩ := f_keeps hB h1 h2 e3 w1 w2
    have ef := FLG_u f1 f3
    subst ef
    obtain ⟨t, t1, t2⟩ := f_hasContent hB hc1 e1 w1 (getD_lt5 w2)
    obtain ⟨t', t3, t4⟩ := f_isAsTold hB hc2 e3 w1 (getD_lt5 w2)
    have et := FLG_u t1 t3
    subst et
    rw [fX7_drawn_L59, fX8_drawnNow_L15, if_neg (nI_ge (show k < T by omega) (by omega)), if_neg (nI_ge (show k < T by omega) (by omega))]
    dsimp only
    rw [e2, bd_s]
    dsimp only
    rw [f2, bd_s, show fX8_drawnNow_L24 (nI (bK B)) (nI (bR B)) content2 (nI (nbx B)) ro co a b (nI k) (fX8_drawnNow_L15 (nI (bK B)) (nI (bR B)) content2 (nI (nbx B)) ro co (nI T) (nI p3) n2) fu 0 now z = _ from e4, f4, bd_s]
    unfold fX7_drawn_J104 fX7_drawn_J107 fX8_drawnNow_J71 fX8_drawnNow_J92 fX8_drawnNow_J93
    rw [t2, t4, bd_s, bd_s, nI_1]
    rcases f1 with ⟨rfl, -⟩ | ⟨rfl, -⟩
    · rcases t1 with ⟨rfl, -⟩ | ⟨rfl, -⟩
      · simp only [show ¬ (1 : Int32) = 0 by decide, if_false]
        exact ih (k + 1) n1 n2 (dws (nbx B) z []).2 (a + 1) (b + 1) num' now' (by omega) (by omega) (by omega)
      · simp only [show ¬ (1 : Int32) = 0 by decide, if_false, if_true]
        exact ih (k + 1) n1 n2 (dws (nbx B) z []).2 (a + 1) (b + 0) num' now' (by omega) (by omega) (by omega)
    · simp only [if_true, Int32.add_zero]
      exact ih (k + 1) n1 n2 (dws (nbx B) z []).2 a b num' now' (by omega) (by omega) (by omega)
theorem st_drawn (k : Nat) (v_saved : Int32) (v_boardsRead : Int32) (v_fillingsFresh : Int32) (v_productsFresh : Int32) (v_pg_codes : Nat → Int32) (v_pg_size : Int32) (v_rd_stage : Int32) (v_rd_digits : Int32) (v_rd_p_kind : Int32) (v_rd_p_rows : Int32) (v_rd_p_outer : Nat → Int32) (v_rd_p_inner : Nat → Int32) (v_rd_p_content : Nat → Int32) (v_pl_kind : Int32) (v_pl_rows : Int32) (v_pl_outer : Nat → Int32) (v_pl_inner : Nat → Int32) (v_pl_content : Nat → Int32) (v_dr_kind : Int32) (v_dr_rows : Int32) (v_dr_outer : Nat → Int32) (v_dr_inner : Nat → Int32) (v_dr_content : Nat → Int32) (v_ob_size : Int32) (v_ob_kinds : Int32) (v_sp_kind : Int32) (v_sp_rows : Int32) (v_sp_outer : Nat → Int32) (v_sp_inner : Nat → Int32) (v_sp_content : Nat → Int32) (v_so_size : Int32) (v_so_kinds : Int32) (v_fi_size : Int32) (v_fi_kind : Int32) (v_fi_codes : Nat → Int32) (v_fi_numbers : Nat → Int32) (v_fi_left : Nat → Int32) (v_fi_g_rowOf : Nat → Int32) (v_fi_g_columnOf : Nat → Int32) (v_fi_g_before : Nat → Int32) (v_fi_g_above : Nat → Int32) (v_fi_g_rowStart : Nat → Int32) (v_fi_g_size : Int32) (v_pr_size : Int32) (v_pr_multiplicitySum : Int32) (v_pr_boxes : Int32) (v_pr_inner : Nat → Int32) (v_pr_used : Nat → Int32) (v_pr_left : Nat → Int32) (v_pr_ends : Nat → Nat → Int32) (v_pr_fillingsOf : Nat → Int32) (v_pr_keys : Nat → Int32) (v_boards : Int32) (v_kind : Int32) (v_rows : Int32) (v_outer : Nat → Int32) (v_inner : Nat → Int32) (v_content : Nat → Int32) (v_boxes : Int32) (v_rowOf : Nat → Int32) (v_columnOf : Nat → Int32) (v_seen : Int32) (v_seenWhat : Nat → Int32) (v_seenCan : Nat → Int32) (v_pageLength : Int32) (v_page : Nat → Int32) (v_isWhole : Int32) (v_newKind : Int32) (v_newRows : Int32) (v_newOuter : Nat → Int32) (v_newInner : Nat → Int32) (v_newContent : Nat → Int32) (v_now : Nat → Int32) (v_left : Nat → Int32) (v_box : Int32) (v_isCounted : Int32) (v_counted : Int32) (v_given : Nat → Int32) (v_isTermed : Int32) (v_terms : Int32) (v_term : Nat → Int32) (v_shape : Nat → Int32) (v_readBoxes : Int32) (v_readRow : Nat → Int32) (v_readColumn : Nat → Int32) (v_grid : Nat → Int32) (v_often : Nat → Int32) (v_seedNow : Int64) (v_isKept : Int32) (v_keptBoard : Int32) (v_keptKind : Int32) (v_keptRows : Int32) (v_keptSeen : Int32) (v_keptOuter : Nat → Int32) (v_keptInner : Nat → Int32) (v_keptContent : Nat → Int32) (v_keptWhat : Nat → Int32) (v_keptCan : Nat → Int32) (v_h : Int64) (p1 : Int32) (p2 : Int32) (p3 : Int32) (hk : k < 512) (hI : Inv k v_saved v_boardsRead v_fillingsFresh v_productsFresh v_pg_codes v_pg_size v_rd_stage v_rd_digits v_rd_p_kind v_rd_p_rows v_rd_p_outer v_rd_p_inner v_rd_p_content v_pl_kind v_pl_rows v_pl_outer v_pl_inner v_pl_content v_dr_kind v_dr_rows v_dr_outer v_dr_inner v_dr_content v_ob_size v_ob_kinds v_sp_kind v_sp_rows v_sp_outer v_sp_inner v_sp_content v_so_size v_so_kinds v_fi_size v_fi_kind v_fi_codes v_fi_numbers v_fi_left v_fi_g_rowOf v_fi_g_columnOf v_fi_g_before v_fi_g_above v_fi_g_rowStart v_fi_g_size v_pr_size v_pr_multiplicitySum v_pr_boxes v_pr_inner v_pr_used v_pr_left v_pr_ends v_pr_fillingsOf v_pr_keys v_boards v_kind v_rows v_outer v_inner v_content v_boxes v_rowOf v_columnOf v_seen v_seenWhat v_seenCan v_pageLength v_page v_isWhole v_newKind v_newRows v_newOuter v_newInner v_newContent v_now v_left v_box v_isCounted v_counted v_given v_isTermed v_terms v_term v_shape v_readBoxes v_readRow v_readColumn v_grid v_often v_seedNow v_isKept v_keptBoard v_keptKind v_keptRows v_keptSeen v_keptOuter v_keptInner v_keptContent v_keptWhat v_keptCan v_h) : ∃ (fx : Int32 × Int32 × Int32 × Int32 × (Nat → Int32) × (Nat → Int32) × (Nat → Int32) × (Nat → Int32) × (Nat → Int32) × (Nat → Int32) × (Nat → Int32) × (Nat → Int32) × Int32) (fm : Int32 × (Nat → Int32) × Int64), fX7_drawn p1 p2 p3 v_fillingsFresh v_pl_kind v_pl_rows v_pl_outer v_pl_inner v_pl_content v_fi_size v_fi_kind v_fi_codes v_fi_numbers v_fi_left v_fi_g_rowOf v_fi_g_columnOf v_fi_g_before v_fi_g_above v_fi_g_rowStart v_fi_g_size = some fx ∧ fX8_drawn p1 p2 p3 v_kind v_rows v_content v_boxes v_rowOf v_columnOf v_now v_seedNow = some fm ∧ fx.1 = fm.1 ∧ Inv (k + 1) v_saved v_boardsRead fx.2.1 v_productsFresh v_pg_codes v_pg_size v_rd_stage v_rd_digits v_rd_p_kind v_rd_p_rows v_rd_p_outer v_rd_p_inner v_rd_p_content v_pl_kind v_pl_rows v_pl_outer v_pl_inner v_pl_content v_dr_kind v_dr_rows v_dr_outer v_dr_inner v_dr_content v_ob_size v_ob_kinds v_sp_kind v_sp_rows v_sp_outer v_sp_inner v_sp_content v_so_size v_so_kinds fx.2.2.1 fx.2.2.2.1 fx.2.2.2.2.1 fx.2.2.2.2.2.1 fx.2.2.2.2.2.2.1 fx.2.2.2.2.2.2.2.1 fx.2.2.2.2.2.2.2.2.1 fx.2.2.2.2.2.2.2.2.2.1 fx.2.2.2.2.2.2.2.2.2.2.1 fx.2.2.2.2.2.2.2.2.2.2.2.1 fx.2.2.2.2.2.2.2.2.2.2.2.2 v_pr_size v_pr_multiplicitySum v_pr_boxes v_pr_inner v_pr_used v_pr_left v_pr_ends v_pr_fillingsOf v_pr_keys v_boards v_kind v_rows v_outer v_inner v_content v_boxes v_rowOf v_columnOf v_seen v_seenWhat v_seenCan v_pageLength v_page v_isWhole v_newKind v_newRows v_newOuter v_newInner v_newContent fm.2.1 v_left v_box v_isCounted v_counted v_given v_isTermed v_terms v_term v_shape v_readBoxes v_readRow v_readColumn v_grid v_often fm.2.2 v_isKept v_keptBoard v_keptKind v_keptRows v_keptSeen v_keptOuter v_keptInner v_keptContent v_keptWhat v_keptCan v_h := by
  have hI0 := hI
  obtain ⟨pg, B, ob, sv, nbd, h1, h2, h3, h4, ⟨rfl, rfl, a1, a2, a3⟩, ⟨rfl, rfl, b1, b2, b3⟩, ⟨rfl, l1, l2⟩, h8, h9, h10, h11, h12, h13, h14, h15, h16, h17, h18, h19, h20⟩ := hI
  have hR4 := h4.2.1
  by_cases hp : p1 < 1 ∨ 100 < p1 ∨ p2 < 0 ∨ p3 < 0 ∨ 2 < p3
  · refine ⟨(-102, v_fillingsFresh, v_fi_size, v_fi_kind, v_fi_codes, v_fi_numbers, v_fi_left, v_fi_g_rowOf, v_fi_g_columnOf, v_fi_g_before, v_fi_g_above, v_fi_g_rowStart, v_fi_g_size), (-102, v_now, v_seedNow), ?_, ?_, rfl, Inv_mono hI0⟩
    · unfold fX7_drawn fX7_drawn_J24
      by_cases q1 : p1 < 1
      · rw [if_pos q1]
      · rw [if_neg q1]
        by_cases q2 : 100 < p1
        · rw [if_pos q2]
        · rw [if_neg q2]
          by_cases q3 : p2 < 0
          · rw [if_pos q3]
          · rw [if_neg q3]
            by_cases q4 : p3 < 0
            · rw [if_pos q4]
            · rw [if_neg q4, if_neg (fun e => Int32.not_lt.mpr e ((((hp.resolve_left q1).resolve_left q2).resolve_left q3).resolve_left q4))]
    · unfold fX8_drawn fX8_drawn_J23
      rw [f_within, f_within, bd_s, bd_s]
      by_cases q1 : p1 < 1
      · rw [if_pos q1, if_pos rfl]
      · rw [if_neg q1]
        by_cases q2 : 100 < p1
        · rw [if_pos q2, if_pos rfl]
        · rw [if_neg q2, if_neg (show ¬ (1 : Int32) = 0 by decide)]
          by_cases q3 : p2 < 0
          · rw [if_pos q3]
          · rw [if_neg q3]
            by_cases q4 : p3 < 0
            · rw [if_pos q4, if_pos rfl]
            · rw [if_neg q4, if_pos ((((hp.resolve_left q1).resolve_left q2).resolve_left q3).resolve_left q4), if_pos rfl]
  · have q1 : ¬ p1 < 1 := fun h => hp (Or.inl h)
    have q2 : ¬ 100 < p1 := fun h => hp (Or.inr (Or.inl h))
    have q3 : ¬ p2 < 0 := fun h => hp (Or.inr (Or.inr (Or.inl h)))
    have q4 : ¬ p3 < 0 := fun h => hp (Or.inr (Or.inr (Or.inr (Or.inl h))))
    have q5 : ¬ 2 < p3 := fun h => hp (Or.inr (Or.inr (Or.inr (Or.inr h))))
    unfold fX7_drawn fX8_drawn
    rw [if_neg q1, if_neg q2, if_neg q3, if_neg q4, if_pos (Int32.not_lt.mp q5), f_within, bd_s, if_neg q1, if_neg q2, if_neg (show ¬ (1 : Int32) = 0 by decide), if_neg q3, f_within, bd_s, if_neg q4, if_neg q5, if_neg (show ¬ (1 : Int32) = 0 by decide)]
    by_cases hR : bR B = 0
    · rw [(no_board hR).1, (no_board hR).2, bd_s, bd_s, if_neg (show ¬ (1 : Int32) = 0 by decide), if_pos (show (0 : Int32) = 0 from rfl)]
      exact ⟨_, _, rfl, rfl, rfl, Inv_mono hI0⟩
    · rw [(a_board hR hR4).1, (a_board hR hR4).2, bd_s, bd_s, if_pos (show (0 : Int32) = 0 from rfl), if_neg (show ¬ (1 : Int32) = 0 by decide)]
      obtain ⟨T, t1, t2, rfl⟩ := pk_of 1 100 (by decide) (by decide) q1 q2
      obtain ⟨w3, -, w2, rfl⟩ := pk_of 0 2 (by decide) (by decide) q4 q5
      obtain ⟨c', m', l', r', co', be', ab', rs', hF, eF⟩ := f_fresh (num := v_fi_numbers) (left := v_fi_left) h4 a1 a2 a3 h17
      obtain ⟨v, num', now', z', e1, e2⟩ := drawn_L h4 l1 l2 a3 b3 hF.2.1 (nI (fls B).length) c' m' l' t2 w2 T 0 fu fu p2.toInt64 0 0 m' v_now (by omega) (by unfold fu; omega) (by unfold fu; omega)
      refine ⟨(v, 1, nI (fls B).length, nI (bK B), c', num', l', r', co', be', ab', rs', nI (nbx B)), (v, now', z'), ?_, ?_, rfl, Inv_mono ⟨pg, B, ob, sv, nbd, h1, h2, h3, h4, ⟨rfl, rfl, a1, a2, a3⟩, ⟨rfl, rfl, b1, b2, b3⟩, ⟨rfl, l1, l2⟩, h8, h9, h10, h11, h12, h13, h14, h15, h16, Or.inr ⟨rfl, hF⟩, h18, h19, h20⟩⟩
      · rw [eF, bd_s]
        exact e1
      · unfold fX8_drawnNow
        rw [show fX8_drawnNow_L15 (nI (bK B)) (nI (bR B)) v_content (nI (nbx B)) v_rowOf v_columnOf (nI T) (nI w3) fu 0 0 0 v_now p2.toInt64 = _ from e2, bd_s]
        rfl
