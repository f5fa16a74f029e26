/-! the lattice rule: by boxes, and in the order of reading -/
def cp (P : Nat → Bool) : Nat → Nat
  | 0 => 0
  | n + 1 => cp P n + (if P n = true then 1 else 0)
theorem cp_le {P Q : Nat → Bool} : ∀ n, (∀ j, j < n → P j = true → Q j = true) → cp P n ≤ cp Q n := fun n => by
  induction n with
  | zero => intro _; exact Nat.le_refl 0
  | succ n ih =>
    intro h
    have a := ih (fun j hj => h j (by omega))
    rw [cp, cp]
    by_cases q : P n = true
    · rw [if_pos q, if_pos (h n (by omega) q)]; omega
    · rw [if_neg q]; omega
theorem cp_eq {P Q : Nat → Bool} {n : Nat} (h : ∀ j, j < n → (P j = true ↔ Q j = true)) : cp P n = cp Q n := Nat.le_antisymm (cp_le n (fun j hj => (h j hj).mp)) (cp_le n (fun j hj => (h j hj).mpr))
theorem cp_lt {P : Nat → Bool} : ∀ n, cp P n ≤ n := fun n => by
  induction n with
  | zero => exact Nat.le_refl 0
  | succ n ih => rw [cp]; split <;> omega
theorem cp_0 {P : Nat → Bool} : ∀ n, (∀ j, j < n → P j = false) → cp P n = 0 := fun n => by
  induction n with
  | zero => intro _; rfl
  | succ n ih =>
    intro h
    rw [cp, ih (fun j hj => h j (by omega)), h n (by omega)]; rfl
theorem cp_one {P Q : Nat → Bool} {i : Nat} (hi : Q i = false) (h : ∀ j, j ≠ i → P j = Q j) : ∀ n, i < n → cp P n = cp Q n + (if P i = true then 1 else 0) := fun n => by
  induction n with
  | zero => intro h; omega
  | succ n ih =>
    intro hn
    rw [cp, cp]
    by_cases e : i = n
    · subst e
      rw [cp_eq (P := P) (Q := Q) (n := i) (fun j hj => by rw [h j (by omega)]), hi]
      simp
    · rw [ih (by omega), h n (fun x => e x.symm)]
      omega
theorem cq_cp (w : List Nat) (u : Nat) {n : Nat} : ∀ k, k ≤ n → cq w u k = cp (fun j => decide (j < k) && decide (w.getD j 0 = u)) n := fun k => by
  induction k with
  | zero => intro _; rw [cp_0 n (fun j _ => by simp)]; rfl
  | succ k ih =>
    intro h
    rw [cq, ih (by omega), cp_one (P := fun j => decide (j < k + 1) && decide (w.getD j 0 = u)) (Q := fun j => decide (j < k) && decide (w.getD j 0 = u)) (i := k) (by simp) (fun j hj => by simp only [show (j < k + 1) ↔ (j < k) by omega]) n (by omega)]
    congr 1
    by_cases q : w.getD k 0 = u
    · rw [if_pos q, if_pos (by simp only [Bool.and_eq_true, decide_eq_true_eq]; exact ⟨by omega, q⟩)]
    · rw [if_neg q, if_neg (by simp only [Bool.and_eq_true, decide_eq_true_eq]; exact fun h => q h.2)]
/-- read: the rows above r, and of the row r what stands at b or behind -/
def sel (B : Bd) (r b j : Nat) : Prop := rAt B j < r ∨ (rAt B j = r ∧ b ≤ j)
def NR (B : Bd) (w : List Nat) (r b u : Nat) : Nat := cp (fun j => (decide (rAt B j < r) || (decide (rAt B j = r) && decide (b ≤ j))) && decide (w.getD j 0 = u)) (nbx B)
def OKat (B : Bd) (w : List Nat) (r b : Nat) : Prop := NR B w r b 2 ≤ NR B w r b 1 ∧ NR B w r b 3 ≤ NR B w r b 2 ∧ NR B w r b 4 ≤ NR B w r b 3
def LTp (B : Bd) (w : List Nat) : Prop := ∀ b, b < nbx B → OKat B w (rAt B b) b
theorem NR_lt (B : Bd) (w : List Nat) (r b u : Nat) : NR B w r b u ≤ nbx B := cp_lt _
theorem NR_s (B : Bd) (w : List Nat) {r c u : Nat} (hc : c < nbx B) : NR B w r c u = NR B w r (c + 1) u + (if rAt B c = r ∧ w.getD c 0 = u then 1 else 0) := by
  unfold NR
  by_cases e : rAt B c = r
  · rw [cp_one (i := c) (Q := fun j => (decide (rAt B j < r) || (decide (rAt B j = r) && decide (c + 1 ≤ j))) && decide (w.getD j 0 = u)) (by simp; intro h; omega) (fun j hj => by simp only [show (c + 1 ≤ j) ↔ (c ≤ j) by omega]) (nbx B) hc]
    congr 1
    by_cases q : w.getD c 0 = u
    · rw [if_pos (by simp only [Bool.and_eq_true, Bool.or_eq_true, decide_eq_true_eq]; exact ⟨Or.inr ⟨e, Nat.le_refl c⟩, q⟩), if_pos ⟨e, q⟩]
    · rw [if_neg (by simp only [Bool.and_eq_true, decide_eq_true_eq]; exact fun h => q h.2), if_neg (fun h => q h.2)]
  · rw [if_neg (fun h => e h.1), Nat.add_zero]
    apply cp_eq
    intro j hj
    simp only [Bool.and_eq_true, Bool.or_eq_true, decide_eq_true_eq]
    constructor
    · rintro ⟨h1 | h1, h2⟩
      · exact ⟨Or.inl h1, h2⟩
      · refine ⟨Or.inr ⟨h1.1, ?_⟩, h2⟩
        rcases (show j = c ∨ c + 1 ≤ j by omega) with q | q
        · rw [q] at h1; exact absurd h1.1 e
        · exact q
    · rintro ⟨h1 | h1, h2⟩
      · exact ⟨Or.inl h1, h2⟩
      · exact ⟨Or.inr ⟨h1.1, by omega⟩, h2⟩
theorem NR_row (B : Bd) (w : List Nat) (r u : Nat) : NR B w (r + 1) (nbx B) u = NR B w r 0 u := by
  unfold NR
  apply cp_eq
  intro j hj
  simp only [Bool.and_eq_true, Bool.or_eq_true, decide_eq_true_eq]
  constructor
  · rintro ⟨h1 | h1, h2⟩
    · exact ⟨by omega, h2⟩
    · omega
  · rintro ⟨h1 | h1, h2⟩
    · exact ⟨Or.inl (by omega), h2⟩
    · exact ⟨Or.inl (by omega), h2⟩
theorem NR_0 (B : Bd) (w : List Nat) (u : Nat) : NR B w 0 (nbx B) u = 0 := cp_0 _ (fun j hj => by
  apply Bool.eq_false_iff.mpr
  intro h
  simp only [Bool.and_eq_true, Bool.or_eq_true, decide_eq_true_eq] at h
  omega)
def FLG (P : Prop) (f : Int32) : Prop := (f = 1 ∧ P) ∨ (f = 0 ∧ ¬ P)
def Gi (B : Bd) (w : List Nat) (r c : Nat) : Prop := ∀ b, b < nbx B → (rAt B b < r ∨ (rAt B b = r ∧ c ≤ b)) → OKat B w (rAt B b) b
theorem lat_in {B : Bd} (hB : BdOK B) {ro now : Nat → Int32} (h1 : agr ro (rowsL B (bR B))) {w : List Nat} (hw : agr now w) (hl : w.length = nbx B) (h5 : ∀ j, w.getD j 0 < 5) {r : Nat} (hr : r < 4) (k15 : Int32 → Int32 → Int32 → Int32 → Int32 → Int32 → Option Int32) : ∀ (c n : Nat) (f : Int32), c ≤ nbx B → c < n → FLG (Gi B w r c) f → ∃ f', FLG (Gi B w r 0) f' ∧ fX8_isLattice_L32 ro now (nI r) k15 n (nI (NR B w r c 1)) (nI (NR B w r c 2)) (nI (NR B w r c 3)) (nI (NR B w r c 4)) f (nI c - 1) = k15 (nI (NR B w r 0 1)) (nI (NR B w r 0 2)) (nI (NR B w r 0 3)) (nI (NR B w r 0 4)) f' (nI (r + 1)) := by
  have n9 := hB.2.2.2.2.2.2.1
  intro c
  induction c with
  | zero =>
    intro n f _ hn hf
    obtain ⟨n, rfl, -⟩ := fuel hn
    refine ⟨f, hf, ?_⟩
    rw [fX8_isLattice_L32, if_pos (by decide), nI_1]
  | succ c ih =>
    intro n f hc hn hf
    obtain ⟨n, rfl, hn2⟩ := fuel hn
    have rc := BdOK_c hB (show c < nbx B by omega)
    have e1 : nI (c + 1) - 1 = nI c := by rw [lit_1, nI_sub (by omega), Nat.add_sub_cancel]
    have e2 : nI c + -1 = nI c - 1 := (Int32.sub_eq_add_neg _ _).symm
    rw [e1, fX8_isLattice_L32, if_neg (nI_pos (by omega)), gd_in (show c < 9 by omega) (by decide), nI_clamp (by omega), a_r h1 (show c < nbx B by omega)]
    unfold fX8_isLattice_J66 fX8_isLattice_J85 fX8_isLattice_J104 fX8_isLattice_J124 fX8_isLattice_J152 fX8_isLattice_J153 fX8_isLattice_J155
    rw [nI_clamp (by omega), hw c (by omega), e2]
    by_cases q : rAt B c = r
    · have v5 := h5 c
      have cnt : ∀ u, u < 5 → nI (NR B w r (c + 1) u) + (if nI (w.getD c 0) = nI u then 1 else 0) = nI (NR B w r c u) := by
        intro u hu
        rw [NR_s B w (show c < nbx B by omega)]
        by_cases e : w.getD c 0 = u
        · rw [if_pos (by rw [e]), if_pos ⟨q, e⟩, nI_1]
        · rw [if_neg (fun x => e ((nI_eq (by omega) (by omega)).mp x)), if_neg (fun x => e x.2)]
          exact Int32.add_zero _
      rw [if_pos (by rw [q]), show (if nI (w.getD c 0) = 1 then (1 : Int32) else 0) = (if nI (w.getD c 0) = nI 1 then 1 else 0) from rfl, show (if nI (w.getD c 0) = 2 then (1 : Int32) else 0) = (if nI (w.getD c 0) = nI 2 then 1 else 0) from rfl, show (if nI (w.getD c 0) = 3 then (1 : Int32) else 0) = (if nI (w.getD c 0) = nI 3 then 1 else 0) from rfl, show (if nI (w.getD c 0) = 4 then (1 : Int32) else 0) = (if nI (w.getD c 0) = nI 4 then 1 else 0) from rfl, cnt 1 (by decide), cnt 2 (by decide), cnt 3 (by decide), cnt 4 (by decide)]
      have b1 := NR_lt B w r c 1
      have b2 := NR_lt B w r c 2
      have b3 := NR_lt B w r c 3
      have b4 := NR_lt B w r c 4
      have gi : Gi B w r c ↔ (Gi B w r (c + 1) ∧ OKat B w r c) := by
        constructor
        · intro g
          refine ⟨fun b hb h => g b hb (by omega), ?_⟩
          have := g c (by omega) (Or.inr ⟨q, Nat.le_refl c⟩)
          rwa [q] at this
        · rintro ⟨g, o⟩ b hb h
          by_cases e : b = c
          · rw [e, q]; exact o
          · exact g b hb (by omega)
      rcases hf with ⟨rfl, hf⟩ | ⟨rfl, hf⟩
      · rw [if_neg (by decide)]
        by_cases o1 : NR B w r c 2 ≤ NR B w r c 1
        · rw [if_neg (nI_nlt o1 (by omega))]
          by_cases o2 : NR B w r c 3 ≤ NR B w r c 2
          · rw [if_neg (nI_nlt o2 (by omega))]
            by_cases o3 : NR B w r c 4 ≤ NR B w r c 3
            · rw [if_neg (nI_nlt o3 (by omega))]
              exact ih n 1 (by omega) (by omega) (Or.inl ⟨rfl, gi.mpr ⟨hf, o1, o2, o3⟩⟩)
            · rw [if_pos (nI_lt (by omega) (by omega))]
              exact ih n 0 (by omega) (by omega) (Or.inr ⟨rfl, fun g => o3 (gi.mp g).2.2.2⟩)
          · rw [if_pos (nI_lt (by omega) (by omega))]
            exact ih n 0 (by omega) (by omega) (Or.inr ⟨rfl, fun g => o2 (gi.mp g).2.2.1⟩)
        · rw [if_pos (nI_lt (by omega) (by omega))]
          exact ih n 0 (by omega) (by omega) (Or.inr ⟨rfl, fun g => o1 (gi.mp g).2.1⟩)
      · rw [if_pos rfl]
        exact ih n 0 (by omega) (by omega) (Or.inr ⟨rfl, fun g => hf (gi.mp g).1⟩)
    · rw [if_neg (show ¬ nI (rAt B c) = nI r from fun x => q ((nI_eq (by omega) (by omega)).mp x))]
      have same : ∀ u, NR B w r (c + 1) u = NR B w r c u := fun u => by
        have := NR_s B w (r := r) (u := u) (show c < nbx B by omega)
        rw [if_neg (fun x => q x.1)] at this
        omega
      rw [same, same, same, same]
      refine ih n f (by omega) (by omega) ?_
      have gi : Gi B w r c ↔ Gi B w r (c + 1) := by
        constructor
        · intro g b hb h; exact g b hb (by omega)
        · intro g b hb h
          refine g b hb ?_
          rcases h with h | h
          · exact Or.inl h
          · refine Or.inr ⟨h.1, ?_⟩
            rcases (show b = c ∨ c + 1 ≤ b by omega) with e | e
            · rw [e] at h; exact absurd h.1 q
            · exact e
      unfold FLG
      rw [gi]
      exact hf
theorem f_isLattice {B : Bd} (hB : BdOK B) {ro now : Nat → Int32} (h1 : agr ro (rowsL B (bR B))) {w : List Nat} (hw : agr now w) (hl : w.length = nbx B) (h5 : ∀ j, w.getD j 0 < 5) : ∃ f, FLG (LTp B w) f ∧ fX8_isLattice (nI (bR B)) (nI (nbx B)) ro now = some f := by
  have n9 := hB.2.2.2.2.2.2.1
  have h4 := hB.2.1
  have L : ∀ (m r n : Nat) (f : Int32), r + m = bR B → m < n → FLG (Gi B w r (nbx B)) f → ∃ f', FLG (LTp B w) f' ∧ fX8_isLattice_L15 (nI (bR B)) (nI (nbx B)) ro now n (nI (NR B w r (nbx B) 1)) (nI (NR B w r (nbx B) 2)) (nI (NR B w r (nbx B) 3)) (nI (NR B w r (nbx B) 4)) f (nI r) = some f' := by
    intro m
    induction m with
    | zero =>
      intro r n f h hn hf
      obtain ⟨n, rfl, -⟩ := fuel hn
      have e : r = bR B := by omega
      have gi : Gi B w r (nbx B) ↔ LTp B w := by
        constructor
        · intro g b hb; exact g b hb (Or.inl (by rw [e]; exact (box_row hb).1))
        · intro g b hb _; exact g b hb
      refine ⟨f, ?_, ?_⟩
      · unfold FLG at hf ⊢
        rw [gi] at hf
        exact hf
      · rw [fX8_isLattice_L15, if_pos (nI_le (by omega) (by omega)), gd_b (by rcases hf with h | h; exact Or.inr h.1; exact Or.inl h.1)]
    | succ m ih =>
      intro r n f h hn hf
      obtain ⟨n, rfl, hn2⟩ := fuel hn
      obtain ⟨f1, g1, g2⟩ := lat_in hB h1 hw hl h5 (show r < 4 by omega) (fX8_isLattice_L15 (nI (bR B)) (nI (nbx B)) ro now n) (nbx B) fu f (Nat.le_refl _) (by unfold fu; omega) hf
      have gi : Gi B w r 0 ↔ Gi B w (r + 1) (nbx B) := by
        constructor
        · intro g b hb h; exact g b hb (by omega)
        · intro g b hb h; exact g b hb (by omega)
      unfold FLG at g1
      rw [gi] at g1
      obtain ⟨f2, g3, g4⟩ := ih (r + 1) n f1 (by omega) (by omega) g1
      refine ⟨f2, g3, ?_⟩
      rw [fX8_isLattice_L15, if_neg (nI_ge (show r < bR B by omega) (by omega)), g2]
      rw [NR_row, NR_row, NR_row, NR_row] at g4
      exact g4
  have := L (bR B) 0 fu 1 (by omega) (by unfold fu; omega) (Or.inl ⟨rfl, fun b hb h => by omega⟩)
  rw [NR_0, NR_0, NR_0, NR_0] at this
  exact this
/-- the first, and the last, of those that have it -/
theorem first_of {P : Nat → Prop} : ∀ b, P b → ∃ f, f ≤ b ∧ P f ∧ ∀ j, j < f → ¬ P j := by
  intro b
  induction b using Nat.strongRecOn with
  | _ b ih =>
    intro h
    by_cases q : ∃ j, j < b ∧ P j
    · obtain ⟨j, h1, h2⟩ := q
      obtain ⟨f, g1, g2, g3⟩ := ih j h1 h2
      exact ⟨f, by omega, g2, g3⟩
    · exact ⟨b, Nat.le_refl b, h, fun j hj hp => q ⟨j, hj, hp⟩⟩
theorem last_of {P : Nat → Prop} (n : Nat) : ∀ m b, b + m = n → P b → ∃ f, f < n + 1 ∧ P f ∧ ∀ j, f < j → j ≤ n → ¬ P j := by
  intro m
  induction m using Nat.strongRecOn with
  | _ m ih =>
    intro b hb h
    by_cases q : ∃ j, b < j ∧ j ≤ n ∧ P j
    · obtain ⟨j, h1, h2, h3⟩ := q
      exact ih (n - j) (by omega) j (by omega) h3
    · exact ⟨b, by omega, h, fun j h1 h2 hp => q ⟨j, h1, h2, hp⟩⟩
/-- rows that do not decrease -/
def wkI (B : Bd) (w : List Nat) : Prop := ∀ i j, i ≤ j → j < nbx B → rAt B i = rAt B j → w.getD i 0 ≤ w.getD j 0
theorem lat_iff {B : Bd} {w : List Nat} (h5 : ∀ j, w.getD j 0 < 5) (h1 : ∀ j, j < nbx B → 1 ≤ w.getD j 0) (hk : wkI B w) : LTp B w ↔ ∀ b, b < nbx B → latB B w b = true := by
  have key : ∀ b, b < nbx B → (latB B w b = true ↔ (w.getD b 0 = 1 ∨ cp (fun j => decide (j < b + 1) && decide (w.getD j 0 = w.getD b 0)) (nbx B) ≤ cp (fun j => decide (j < rst B b) && decide (w.getD j 0 = w.getD b 0 - 1)) (nbx B))) := by
    intro b hb
    unfold latB
    rw [Bool.or_eq_true, decide_eq_true_eq, decide_eq_true_eq, cq_cp w _ (b + 1) (show b + 1 ≤ nbx B by omega), cq_cp w _ (rst B b) (show rst B b ≤ nbx B by have := (box_row hb).2.1; omega)]
  constructor
  · intro g b hb
    rw [key b hb]
    by_cases q : w.getD b 0 = 1
    · exact Or.inl q
    · refine Or.inr ?_
      have v5 := h5 b
      have v1 := h1 b hb
      obtain ⟨f, f1, ⟨f2, f3⟩, f4⟩ := first_of (P := fun j => rAt B j = rAt B b ∧ w.getD j 0 = w.getD b 0) b ⟨rfl, rfl⟩
      have o := g f (by omega)
      rw [f2] at o
      have o2 : NR B w (rAt B b) f (w.getD b 0) ≤ NR B w (rAt B b) f (w.getD b 0 - 1) := by
        rcases (show w.getD b 0 = 2 ∨ w.getD b 0 = 3 ∨ w.getD b 0 = 4 by omega) with e | e | e
        · rw [e]; exact o.1
        · rw [e]; exact o.2.1
        · rw [e]; exact o.2.2
      refine Nat.le_trans (cp_le _ ?_) (Nat.le_trans o2 (cp_le _ ?_))
      · intro j hj hp
        simp only [Bool.and_eq_true, Bool.or_eq_true, decide_eq_true_eq] at hp ⊢
        refine ⟨?_, hp.2⟩
        have m := rAt_mono (B := B) (show j ≤ b by omega) hb
        by_cases e : rAt B j < rAt B b
        · exact Or.inl e
        · refine Or.inr ⟨by omega, ?_⟩
          apply Classical.byContradiction
          intro n
          exact f4 j (by omega) ⟨by omega, hp.2⟩
      · intro j hj hp
        simp only [Bool.and_eq_true, Bool.or_eq_true, decide_eq_true_eq] at hp ⊢
        refine ⟨?_, hp.2⟩
        rcases hp.1 with e | e
        · exact (rAt_lt hj).mp e
        · exfalso
          have := hk f j e.2 hj (by omega)
          omega
  · intro g b hb
    have main : ∀ u, 2 ≤ u → NR B w (rAt B b) b u ≤ NR B w (rAt B b) b (u - 1) := by
      intro u hu
      by_cases q : ∃ j, j < nbx B ∧ (rAt B j < rAt B b ∨ (rAt B j = rAt B b ∧ b ≤ j)) ∧ w.getD j 0 = u
      · obtain ⟨j, j1, j2, j3⟩ := q
        obtain ⟨L, l1, ⟨l2, l3, l4⟩, l5⟩ := last_of (P := fun j => j < nbx B ∧ (rAt B j < rAt B b ∨ (rAt B j = rAt B b ∧ b ≤ j)) ∧ w.getD j 0 = u) (nbx B) (nbx B - j) j (by omega) ⟨j1, j2, j3⟩
        have lL := (key L l2).mp (g L l2)
        rw [l4] at lL
        rcases lL with e | e
        · omega
        · refine Nat.le_trans (cp_le _ ?_) (Nat.le_trans e (cp_le _ ?_))
          · intro i hi hp
            simp only [Bool.and_eq_true, Bool.or_eq_true, decide_eq_true_eq] at hp ⊢
            refine ⟨?_, hp.2⟩
            apply Classical.byContradiction
            intro n
            exact l5 i (by omega) (by omega) ⟨hi, hp.1, hp.2⟩
          · intro i hi hp
            simp only [Bool.and_eq_true, Bool.or_eq_true, decide_eq_true_eq] at hp ⊢
            refine ⟨Or.inl ?_, hp.2⟩
            have : rAt B i < rAt B L := (rAt_lt hi).mpr hp.1
            omega
      · rw [show NR B w (rAt B b) b u = 0 from cp_0 _ (fun j hj => by
          apply Bool.eq_false_iff.mpr
          intro h
          simp only [Bool.and_eq_true, Bool.or_eq_true, decide_eq_true_eq] at h
          exact q ⟨j, hj, h.1, h.2⟩)]
        exact Nat.zero_le _
    exact ⟨main 2 (by decide), main 3 (by decide), main 4 (by decide)⟩
