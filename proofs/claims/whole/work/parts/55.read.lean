/-! reading a board's text: three runs of figures -/
def rdG (ok : Nat → (Nat → Nat) → Nat → Bool) (pg : List Nat) : Nat → Nat → Nat → (Nat → Nat) → Nat × Nat × (Nat → Nat)
  | 0, k, r, o => (k, r, o)
  | m + 1, k, r, o => if ok r o (pg.getD k 0) = true then rdG ok pg m (k + 1) (r + 1) (updN o r (pg.getD k 0 - 48)) else (k, r, o)
def okO (r : Nat) (o : Nat → Nat) (d : Nat) : Bool := decide (49 ≤ d ∧ d ≤ 48 + (if r = 0 then 5 else o (r - 1)))
def okI (O : Nat → Nat) (r : Nat) (i : Nat → Nat) (d : Nat) : Bool := decide (48 ≤ d ∧ d ≤ 48 + (if r = 0 then 5 else i (r - 1)) ∧ d ≤ 48 + O r)
def okC (r : Nat) (c : Nat → Nat) (d : Nat) : Bool := decide (48 ≤ d ∧ d ≤ 57)
theorem rdG_blk (ok : Nat → (Nat → Nat) → Nat → Bool) (pg : List Nat) : ∀ (m k r : Nat) (o : Nat → Nat), (rdG ok pg m k r o).2.1 = r + m ∨ ok (rdG ok pg m k r o).2.1 (rdG ok pg m k r o).2.2 (pg.getD (rdG ok pg m k r o).1 0) = false := by
  intro m
  induction m with
  | zero => intro k r o; exact Or.inl rfl
  | succ m ih =>
    intro k r o
    rw [rdG]
    by_cases h : ok r o (pg.getD k 0) = true
    · rw [if_pos h]
      rcases ih (k + 1) (r + 1) (updN o r (pg.getD k 0 - 48)) with q | q
      · exact Or.inl (by omega)
      · exact Or.inr q
    · rw [if_neg h]
      exact Or.inr (by simpa using h)
theorem getD_lt {pg : List Nat} {k : Nat} (h : pg.getD k 0 ≠ 0) : k < pg.length := by
  apply Classical.byContradiction
  intro hn
  apply h
  rw [List.getD_eq_getElem?_getD, List.getElem?_eq_none (by omega)]; rfl
theorem rdG_run {β : Type} (W : Nat → Nat → Nat → (Nat → Int32) → β) (ok : Nat → (Nat → Nat) → Nat → Bool) (pg : List Nat) (N : Nat) (P : Nat → (Nat → Nat) → Prop) (A : Nat → (Nat → Int32) → (Nat → Nat) → Prop)
    (h0 : ∀ r o, ok r o 0 = false)
    (hs : ∀ n k r f o, r < N → k < pg.length → P r o → A r f o → ok r o (pg.getD k 0) = true → W (n + 1) k r f = W n (k + 1) (r + 1) (upd f r (nI (pg.getD k 0 - 48))))
    (hA : ∀ r f o v, r < N → A r f o → A (r + 1) (upd f r (nI v)) (updN o r v))
    (hP : ∀ r o d, r < N → P r o → ok r o d = true → P (r + 1) (updN o r (d - 48))) :
    ∀ (m k r n : Nat) (f : Nat → Int32) (o : Nat → Nat), r + m = N → m < n → k ≤ pg.length → P r o → A r f o → ∃ n' f', n ≤ n' + m ∧ A (rdG ok pg m k r o).2.1 f' (rdG ok pg m k r o).2.2 ∧ P (rdG ok pg m k r o).2.1 (rdG ok pg m k r o).2.2 ∧ (rdG ok pg m k r o).1 ≤ pg.length ∧ (rdG ok pg m k r o).2.1 ≤ N ∧ W n k r f = W n' (rdG ok pg m k r o).1 (rdG ok pg m k r o).2.1 f' := by
  intro m
  induction m with
  | zero =>
    intro k r n f o h hn hk hp ha
    exact ⟨n, f, by omega, ha, hp, hk, by show r ≤ N; omega, rfl⟩
  | succ m ih =>
    intro k r n f o h hn hk hp ha
    rw [rdG]
    by_cases q : ok r o (pg.getD k 0) = true
    · rw [if_pos q]
      obtain ⟨n, rfl, h2⟩ := fuel hn
      have hl : k < pg.length := getD_lt (fun e => by rw [e, h0] at q; cases q)
      obtain ⟨n', f', e1, e2, e3, e4, e5, e6⟩ := ih (k + 1) (r + 1) n (upd f r (nI (pg.getD k 0 - 48))) (updN o r (pg.getD k 0 - 48)) (by omega) (by omega) hl (hP r o _ (by omega) hp q) (hA r f o _ (by omega) ha)
      exact ⟨n', f', by omega, e2, e3, e4, e5, by rw [hs n k r f o (by omega) hl hp ha q]; exact e6⟩
    · rw [if_neg q]
      exact ⟨n, f, by omega, ha, hp, hk, by show r ≤ N; omega, rfl⟩
def PO (r : Nat) (o : Nat → Nat) : Prop := (∀ j, j < r → 1 ≤ o j ∧ o j ≤ 5) ∧ (∀ j, j + 1 < r → o (j + 1) ≤ o j) ∧ ∀ j, r ≤ j → o j = 0
def PI (O : Nat → Nat) (r : Nat) (i : Nat → Nat) : Prop := (∀ j, j < r → i j ≤ O j ∧ i j ≤ 5) ∧ (∀ j, j + 1 < r → i (j + 1) ≤ i j) ∧ ∀ j, r ≤ j → i j = 0
def PC (r : Nat) (c : Nat → Nat) : Prop := ∀ j, c j ≤ 9
theorem PO_s (r : Nat) (o : Nat → Nat) (d : Nat) (hr : r < 4) (h : PO r o) (q : okO r o d = true) : PO (r + 1) (updN o r (d - 48)) := by
  obtain ⟨h1, h2, h3⟩ := h
  unfold okO at q
  have q := of_decide_eq_true q
  have b : d - 48 ≤ (if r = 0 then 5 else o (r - 1)) := by omega
  have b5 : d - 48 ≤ 5 := by
    by_cases h0 : r = 0
    · rw [if_pos h0] at b; exact b
    · rw [if_neg h0] at b; have := h1 (r - 1) (by omega); omega
  refine ⟨?_, ?_, ?_⟩
  · intro j hj
    by_cases e : j = r
    · rw [e, updN_eq]; omega
    · rw [updN_ne e]; exact h1 j (by omega)
  · intro j hj
    by_cases e : j + 1 = r
    · rw [e, updN_eq, updN_ne (by omega)]
      rw [if_neg (by omega)] at b
      rw [show j = r - 1 by omega]; exact b
    · rw [updN_ne e, updN_ne (by omega)]; exact h2 j (by omega)
  · intro j hj
    rw [updN_ne (by omega)]; exact h3 j (by omega)
theorem PI_s (O : Nat → Nat) (r : Nat) (o : Nat → Nat) (d : Nat) (hr : r < 4) (h : PI O r o) (q : okI O r o d = true) : PI O (r + 1) (updN o r (d - 48)) := by
  obtain ⟨h1, h2, h3⟩ := h
  unfold okI at q
  have q := of_decide_eq_true q
  have b : d - 48 ≤ (if r = 0 then 5 else o (r - 1)) := by omega
  have b5 : d - 48 ≤ 5 := by
    by_cases h0 : r = 0
    · rw [if_pos h0] at b; exact b
    · rw [if_neg h0] at b; have := h1 (r - 1) (by omega); omega
  refine ⟨?_, ?_, ?_⟩
  · intro j hj
    by_cases e : j = r
    · rw [e, updN_eq]; omega
    · rw [updN_ne e]; exact h1 j (by omega)
  · intro j hj
    by_cases e : j + 1 = r
    · rw [e, updN_eq, updN_ne (by omega)]
      rw [if_neg (by omega)] at b
      rw [show j = r - 1 by omega]; exact b
    · rw [updN_ne e, updN_ne (by omega)]; exact h2 j (by omega)
  · intro j hj
    rw [updN_ne (by omega)]; exact h3 j (by omega)
theorem PC_s (r : Nat) (o : Nat → Nat) (d : Nat) (h : PC r o) (q : okC r o d = true) : PC (r + 1) (updN o r (d - 48)) := by
  unfold okC at q
  have q := of_decide_eq_true q
  intro j
  by_cases e : j = r
  · rw [e, updN_eq]; omega
  · rw [updN_ne e]; exact h j
/-- what stands for a run of figures in the reference, and in the class -/
def Am (r : Nat) (f : Nat → Int32) (o : Nat → Nat) : Prop := ∀ j, j < r → f j = nI (o j)
def Ax (r : Nat) (f : Nat → Int32) (o : Nat → Nat) : Prop := rq_4 f o
theorem Am_s (r : Nat) (f : Nat → Int32) (o : Nat → Nat) (v : Nat) (h : Am r f o) : Am (r + 1) (upd f r (nI v)) (updN o r v) := fun j hj => by
  unfold upd updN
  by_cases e : j = r
  · rw [if_pos e, if_pos e]
  · rw [if_neg e, if_neg e]; exact h j (by omega)
theorem Ax_s (r : Nat) (f : Nat → Int32) (o : Nat → Nat) (v : Nat) (h : Ax r f o) : Ax (r + 1) (upd f r (nI v)) (updN o r v) := rq_upd h r v
/-- figures as numbers -/
theorem fig {d : Nat} (h : 48 ≤ d) : nI d - 48 = nI (d - 48) := by rw [lit_48, nI_sub h]
theorem fig_c : ∀ d, d < 127 → ∀ a, a < 2 → ∀ b, b < 10 → ((¬ nI d - 48 < nI a ∧ ¬ nI b < nI d - 48) ↔ (48 + a ≤ d ∧ d ≤ 48 + b)) := by decide +kernel
theorem pg_d {pg : List Nat} (h : pgOK pg) (k : Nat) : pg.getD k 0 < 127 := by
  rw [List.getD_eq_getElem?_getD]
  by_cases hk : k < pg.length
  · rw [List.getElem?_eq_getElem hk]
    have := (h.2 _ (List.getElem_mem hk)).2
    show pg[k] < 127
    omega
  · rw [List.getElem?_eq_none (by omega)]; decide
theorem f_at {pg : List Nat} (h : pgOK pg) {page : Nat → Int32} (ha : agr page pg) {k : Nat} (hk : k < 2 ^ 31) : fX8_at (nI k) (nI pg.length) page = some (nI (pg.getD k 0)) := by
  have h20 := h.1
  unfold fX8_at fX8_at_J18
  by_cases q : k < pg.length
  · rw [if_neg (nI_ge q (by omega)), gd_in (show k < 20 by omega) (by decide), nI_clamp hk, ha k q]
  · rw [if_pos (nI_le (by omega) hk), List.getD_eq_getElem?_getD, List.getElem?_eq_none (by omega)]; rfl
theorem f_figure {pg : List Nat} (h : pgOK pg) {page : Nat → Int32} (ha : agr page pg) {k : Nat} (hk : k < 2 ^ 31) : fX8_figure (nI k) (nI pg.length) page = some (nI (pg.getD k 0) - 48) := by
  unfold fX8_figure
  rw [f_at h ha hk, bd_s]
theorem w_fig {d a b : Nat} (hd : d < 127) (ha : a < 2) (hb : b < 10) : fX8_within (nI d - 48) (nI a) (nI b) = some (if 48 + a ≤ d ∧ d ≤ 48 + b then 1 else 0) := by
  have q := fig_c d hd a ha b hb
  rw [f_within]
  by_cases h1 : nI d - 48 < nI a
  · rw [if_pos h1, if_neg (fun e => (q.mpr e).1 h1)]
  · by_cases h2 : nI b < nI d - 48
    · rw [if_neg h1, if_pos h2, if_neg (fun e => (q.mpr e).2 h2)]
    · rw [if_neg h1, if_neg h2, if_pos (q.mp ⟨h1, h2⟩)]
def kfn (d : Nat) : Nat := if d = 99 then 1 else if d = 102 then 0 else if d = 108 then 2 else if d = 115 then 3 else if d = 116 then 4 else 5
theorem kfn_M : ∀ d, d < 127 → fX8_kindBy (nI d) = some (if kfn d = 5 then -1 else nI (kfn d)) := by decide +kernel
theorem kfn_X : ∀ d, d < 127 → fJ0_indexOf_0f7a4 (((nI d).toUInt32 % 65536).toInt32) = some (if kfn d = 5 then -1 else nI (kfn d)) := by decide +kernel
theorem kfn_le (d : Nat) : kfn d ≤ 5 := by unfold kfn; split <;> (try split) <;> (try split) <;> (try split) <;> (try split) <;> omega
