/-! the reference counts, finds and ranks -/
def CU (B : Bd) (l : List (List Nat)) (now left : Nat → Int32) (box : Int32) : Prop := (box = -1 ∧ l = []) ∨ (∃ rp x, box = nI rp.length ∧ rp.length < nbx B ∧ SM B rp x now left ∧ (∀ w ∈ fut (okQ B) (nbx B) rp x, full B w) ∧ (fut (okQ B) (nbx B) rp x).filter (ap (lsB B) 0) = l)
theorem meas_fu {n : Nat} (hn : n ≤ 9) {rp : List Nat} (h : rp.length < n) (x : Nat) : meas n rp x < fu := by
  have := meas_le hn rp x
  have h2 : (rp.length + 1) * (4 * kk 9 + 1) ≤ 9 * (4 * kk 9 + 1) := Nat.mul_le_mul_right _ (by omega)
  have h3 : 9 * (4 * kk 9 + 1) < fu := by decide +kernel
  omega
theorem cu_next {B : Bd} (hB : BdOK B) {ro co : Nat → Int32} (h1 : agr ro (rowsL B (bR B))) (h2 : agr co (colsL B (bR B))) {l : List (List Nat)} {now left : Nat → Int32} {box : Int32} (h : CU B l now left box) : (l = [] ∧ ∃ now' left', fX8_next (nI (bK B)) (nI (bR B)) (nI (nbx B)) ro co now left box = some (0, now', left', -1)) ∨ (∃ w l' now' left' box', l = w :: l' ∧ agr now' w ∧ CU B l' now' left' box' ∧ fX8_next (nI (bK B)) (nI (bR B)) (nI (nbx B)) ro co now left box = some (1, now', left', box')) := by
  have n9 := hB.2.2.2.2.2.2.1
  unfold fX8_next
  rcases h with ⟨rfl, rfl⟩ | ⟨rp, x, rfl, hp, hS, hf, rfl⟩
  · refine Or.inl ⟨rfl, now, left, ?_⟩
    obtain ⟨n, hn, -⟩ := fuel (show 0 < fu by unfold fu; omega)
    rw [hn, fX8_next_L0, if_pos (by decide)]
  · rcases next_L hB h1 h2 (meas (nbx B) rp x) rp x fu now left (Nat.le_refl _) (meas_fu n9 hp x) hp hS hf with ⟨g1, g2⟩ | ⟨rp', x', now', left', g1, g2, g3, g4, g5⟩
    · exact Or.inl ⟨g1, g2⟩
    · exact Or.inr ⟨_, _, now', left', nI rp'.length, g1, g2.2.2.1, Or.inr ⟨rp', x', rfl, by omega, g2, g4, rfl⟩, g5⟩
theorem beg_in (left : Nat → Int32) : ∀ (m r n : Nat) (now : Nat → Int32), r + m = 9 → m < n → (∀ j, j < r → now j = 0) → ∃ now', (∀ j, j < 9 → now' j = 0) ∧ fX8_begin_L27 left n (nI r) now = some (now', left, 0) := by
  intro m
  induction m with
  | zero =>
    intro r n now h hn hz
    obtain ⟨n, rfl, -⟩ := fuel hn
    have e : r = 9 := by omega
    subst e
    exact ⟨now, hz, by rw [fX8_begin_L27, if_pos (by decide)]⟩
  | succ m ih =>
    intro r n now h hn hz
    obtain ⟨n, rfl, h2⟩ := fuel hn
    obtain ⟨now', a, b⟩ := ih (r + 1) n (upd now r 0) (by omega) (by omega) (fun j hj => by
      by_cases e : j = r
      · rw [e, pk_us]
      · rw [pk_un e]; exact hz j (by omega))
    refine ⟨now', a, ?_⟩
    rw [fX8_begin_L27, if_neg (show ¬ 9 ≤ nI r from nI_ge (b := 9) (by omega) (by decide)), gd_in (show r < 9 by omega) (by decide), nI_1, nI_clamp (by omega)]
    exact b
theorem f_begin {B : Bd} {content : Nat → Int32} (hc : rq_4 content (bc B)) (now left : Nat → Int32) : ∃ now' left', (∀ j, j < 9 → now' j = 0) ∧ rq_4 left' (bc B) ∧ fX8_begin content now left = some (now', left', 0) := by
  have L : ∀ (m r n : Nat) (left : Nat → Int32), r + m = 4 → m < n → Am r left (bc B) → ∃ now' left', (∀ j, j < 9 → now' j = 0) ∧ rq_4 left' (bc B) ∧ fX8_begin_L2 content now n (nI r) left = some (now', left', 0) := by
    intro m
    induction m with
    | zero =>
      intro r n left h hn ha
      obtain ⟨n, rfl, -⟩ := fuel hn
      have e : r = 4 := by omega
      subst e
      obtain ⟨now', a, b⟩ := beg_in left 9 0 fu now (by omega) (by unfold fu; omega) (fun j h => absurd h (Nat.not_lt_zero j))
      refine ⟨now', left, a, ha, ?_⟩
      rw [fX8_begin_L2, if_pos (by decide)]
      exact b
    | succ m ih =>
      intro r n left h hn ha
      obtain ⟨n, rfl, h2⟩ := fuel hn
      obtain ⟨now', left', a, b, c⟩ := ih (r + 1) n (upd left r (nI (bc B r))) (by omega) (by omega) (fun j hj => by
        by_cases e : j = r
        · rw [e, pk_us]
        · rw [pk_un e]; exact ha j (by omega))
      refine ⟨now', left', a, b, ?_⟩
      rw [fX8_begin_L2, if_neg (show ¬ 4 ≤ nI r from nI_ge (b := 4) (by omega) (by decide)), gd_in (show r < 4 by omega) (by decide), nI_1, rq_get hc (show r < 4 by omega), nI_clamp (by omega)]
      exact c
  exact L 4 0 fu left (by omega) (by unfold fu; omega) (Am_0 _ _)
theorem cu_0 {B : Bd} (hB : BdOK B) (hR : bR B ≠ 0) (hs : csum B = nbx B) (hn : 0 < nbx B) {now left : Nat → Int32} (hz : ∀ j, j < 9 → now j = 0) (hl : rq_4 left (bc B)) : CU B (fls B) now left 0 := by
  refine Or.inr ⟨[], 0, rfl, hn, ⟨(fun y h => by cases h), by omega, ?_, fun j _ h => hz j h, fun j hj => ⟨Nat.zero_le _, by rw [hl j hj]; rfl⟩⟩, ?_, ?_⟩
  · intro j hj
    have : j = 0 := by simp at hj; omega
    rw [this, hz 0 (by decide)]; rfl
  · intro w hw
    rw [fut, show nbx B - 1 = nbx B - 1 from rfl, ← dfs_alt, Nat.sub_add_cancel hn] at hw
    exact dfs_full hw
  · rw [fut, ← dfs_alt, Nat.sub_add_cancel hn, fls_eq hR hs]
theorem f_told {B : Bd} {c : Nat → Int32} (hc : rq_4 c (bc B)) : fX8_told c = some (nI (csum B)) := by
  unfold fX8_told csum
  rw [show (0 : Int32).toNatClampNeg = 0 from rfl, show (1 : Int32).toNatClampNeg = 1 from rfl, show (2 : Int32).toNatClampNeg = 2 from rfl, show (3 : Int32).toNatClampNeg = 3 from rfl, hc 0 (by decide), hc 1 (by decide), hc 2 (by decide), hc 3 (by decide), nI_add, nI_add, nI_add]
theorem f_ways {B : Bd} (hB : BdOK B) (hR : bR B ≠ 0) {ro co content : Nat → Int32} (h1 : agr ro (rowsL B (bR B))) (h2 : agr co (colsL B (bR B))) (hc : rq_4 content (bc B)) (now left : Nat → Int32) (box isC cn : Int32) (hcn : isC = 0 ∨ (isC = 1 ∧ cn = nI (fls B).length)) : ∃ now' left' box', fX8_ways (nI (bK B)) (nI (bR B)) content (nI (nbx B)) ro co now left box isC cn = some (nI (fls B).length, now', left', box', 1, nI (fls B).length) := by
  have n9 := hB.2.2.2.2.2.2.1
  have cs := csum_lt hB
  have b4 := fls_400 hB
  unfold fX8_ways fX8_ways_J31
  rcases hcn with rfl | ⟨rfl, rfl⟩
  · rw [if_pos rfl]
    obtain ⟨now0, left0, z0, l0, eb⟩ := f_begin hc now left
    have J : ∀ y, fX8_ways_J32 (nI (bK B)) (nI (bR B)) content (nI (nbx B)) ro co now left fX8_ways_J77 y = fX8_ways_L39 (nI (bK B)) (nI (bR B)) content (nI (nbx B)) ro co fX8_ways_J77 fu now0 left0 0 y := by
      intro y
      unfold fX8_ways_J32
      rw [eb, bd_s]
    rw [J, J, f_told hc, bd_s]
    by_cases hn : nbx B = 0
    · obtain ⟨n, hn', -⟩ := fuel (show 0 < fu by unfold fu; omega)
      have e : fls B = if csum B = 0 then [[]] else [] := by
        unfold fls
        rw [hn]
        by_cases q : csum B = 0
        · rw [if_neg (by omega), if_pos q]; rfl
        · rw [if_pos (Or.inr q), if_neg q]
      refine ⟨now0, left0, 0, ?_⟩
      have L0 : ∀ y, fX8_ways_L39 (nI (bK B)) (nI (bR B)) content (nI (nbx B)) ro co fX8_ways_J77 fu now0 left0 0 y = some (y, now0, left0, 0, 1, y) := by
        intro y
        rw [hn', fX8_ways_L39, if_pos (show nI (nbx B) ≤ 0 by rw [hn]; decide)]; rfl
      rw [if_pos (show nI (nbx B) = 0 by rw [hn]; rfl), L0, L0, e]
      by_cases q : csum B = 0
      · rw [if_pos (show nI (csum B) = 0 by rw [q]; rfl), if_pos q]; rfl
      · rw [if_neg (show ¬ nI (csum B) = 0 from nI_ne0 (by omega) (by omega)), if_neg q]; rfl
    · rw [if_neg (nI_ne0 (by omega) (by omega))]
      by_cases hs : csum B = nbx B
      · have L : ∀ (l : List (List Nat)) (c n : Nat) (now left : Nat → Int32) (box : Int32), l.length < n → CU B l now left box → ∃ now' left' box', fX8_ways_L39 (nI (bK B)) (nI (bR B)) content (nI (nbx B)) ro co fX8_ways_J77 n now left box (nI c) = some (nI (c + l.length), now', left', box', 1, nI (c + l.length)) := by
          intro l
          induction l with
          | nil =>
            intro c n now left box hl hcu
            obtain ⟨n, rfl, -⟩ := fuel hl
            rcases cu_next hB h1 h2 hcu with ⟨-, now', left', e⟩ | ⟨w, l', now', left', box', e, -⟩
            · refine ⟨now', left', -1, ?_⟩
              rw [fX8_ways_L39, if_neg (nI_nle (by omega) (by omega)), f_told hc, bd_s, if_pos (by rw [hs]), e, bd_s]
              rfl
            · cases e
          | cons w l ih =>
            intro c n now left box hl hcu
            obtain ⟨n, rfl, hn2⟩ := fuel hl
            rw [List.length_cons] at hn2 ⊢
            rcases cu_next hB h1 h2 hcu with ⟨e, -⟩ | ⟨w', l', now', left', box', e, -, hcu', en⟩
            · cases e
            · cases e
              obtain ⟨now2, left2, box2, e2⟩ := ih (c + 1) n now' left' box' (by omega) hcu'
              refine ⟨now2, left2, box2, ?_⟩
              rw [fX8_ways_L39, if_neg (nI_nle (by omega) (by omega)), f_told hc, bd_s, if_pos (by rw [hs]), en, bd_s]
              dsimp only
              rw [if_neg (by decide), nI_1, e2, show c + 1 + l.length = c + (l.length + 1) by omega]
        have := L (fls B) 0 fu now0 left0 0 (by unfold fu; omega) (cu_0 hB hR hs (by omega) z0 l0)
        rw [Nat.zero_add] at this
        exact this
      · have e : fls B = [] := by unfold fls; rw [if_pos (Or.inr hs)]
        obtain ⟨n, hn', -⟩ := fuel (show 0 < fu by unfold fu; omega)
        refine ⟨now0, left0, 0, ?_⟩
        rw [e, hn', fX8_ways_L39, if_neg (nI_nle (by omega) (by omega)), f_told hc, bd_s, if_neg (fun x => hs ((nI_eq (by omega) (by omega)).mp x))]
        rfl
  · rw [if_neg (by decide)]
    exact ⟨now, left, box, rfl⟩
theorem f_find {B : Bd} (hB : BdOK B) (hR : bR B ≠ 0) {ro co content : Nat → Int32} (h1 : agr ro (rowsL B (bR B))) (h2 : agr co (colsL B (bR B))) (hc : rq_4 content (bc B)) (now left : Nat → Int32) (box isC cn : Int32) (hcn : isC = 0 ∨ (isC = 1 ∧ cn = nI (fls B).length)) (p : Int32) : (∃ now' left' box', (p < 0 ∨ nI (fls B).length ≤ p) ∧ fX8_find p (nI (bK B)) (nI (bR B)) content (nI (nbx B)) ro co now left box isC cn = some (0, now', left', box', 1, nI (fls B).length)) ∨ (∃ k now' left' box', p = nI k ∧ k < (fls B).length ∧ agr now' ((fls B).getD k []) ∧ fX8_find p (nI (bK B)) (nI (bR B)) content (nI (nbx B)) ro co now left box isC cn = some (1, now', left', box', 1, nI (fls B).length)) := by
  have n9 := hB.2.2.2.2.2.2.1
  have b4 := fls_400 hB
  obtain ⟨now1, left1, box1, ew⟩ := f_ways hB hR h1 h2 hc now left box isC cn hcn
  unfold fX8_find
  rw [(a_board hR hB.2.1).2, bd_s, if_neg (by decide), ew, bd_s]
  dsimp only
  rw [f_within, bd_s]
  have bad : (p < 0 ∨ nI (fls B).length ≤ p) → (if p < 0 then (0 : Int32) else if nI (fls B).length - 1 < p then 0 else 1) = 0 := by
    intro h
    by_cases q : p < 0
    · rw [if_pos q]
    · rw [if_neg q]
      obtain ⟨k, hk, rfl⟩ := nI_of q
      have h3 := (nI_leI (by omega) hk).mp (h.resolve_left q)
      by_cases z : (fls B).length = 0
      · rw [z, if_pos (show nI 0 - 1 < nI k by rw [Int32.lt_iff_toInt_lt, nI_toInt hk, show (nI 0 - 1).toInt = -1 from by decide]; omega)]
      · rw [lit_1, nI_sub (by omega), if_pos (nI_lt (by omega) hk)]
  by_cases q : p < 0 ∨ nI (fls B).length ≤ p
  · refine Or.inl ⟨now1, left1, box1, q, ?_⟩
    rw [bad q, if_pos rfl]
    rfl
  · have q1 : ¬ p < 0 := fun h => q (Or.inl h)
    obtain ⟨k, hk, rfl⟩ := nI_of q1
    have hk2 : k < (fls B).length := by
      apply Classical.byContradiction
      intro n
      exact q (Or.inr (nI_le (by omega) hk))
    obtain ⟨now0, left0, z0, l0, eb⟩ := f_begin hc now1 left1
    rw [if_neg q1, lit_1, nI_sub (by omega), if_neg (nI_nlt (by omega) (by omega)), if_neg (by decide), eb, bd_s]
    dsimp only
    by_cases hn : nbx B = 0
    · obtain ⟨n, hn', -⟩ := fuel (show 0 < fu by unfold fu; omega)
      have hw : (fls B).getD k [] = [] := by
        have e : fls B = if csum B = 0 then [[]] else [] := by
          unfold fls
          rw [hn]
          by_cases q : csum B = 0
          · rw [if_neg (by omega), if_pos q]; rfl
          · rw [if_pos (Or.inr q), if_neg q]
        rw [e] at hk2 ⊢
        by_cases q : csum B = 0
        · rw [if_pos q] at hk2 ⊢
          rw [show k = 0 by simp at hk2; omega]; rfl
        · rw [if_neg q]; rfl
      refine Or.inr ⟨k, now0, left0, 0, rfl, hk2, by rw [hw]; exact fun j h => absurd h (Nat.not_lt_zero j), ?_⟩
      rw [hn', fX8_find_L29, if_neg (show ¬ nI k < 0 from nI_pos (by omega)), if_pos (by rw [hn]; decide)]
      rfl
    · have hs : csum B = nbx B := by
        apply Classical.byContradiction
        intro n
        have e : fls B = [] := by unfold fls; rw [if_pos (Or.inr n)]
        rw [e] at hk2
        exact absurd hk2 (Nat.not_lt_zero k)
      have L : ∀ (l : List (List Nat)) (j n : Nat) (now left : Nat → Int32) (box : Int32), k + 1 - j < n → j ≤ k → k - j < l.length → CU B l now left box → ∃ now' left' box', agr now' (l.getD (k - j) []) ∧ fX8_find_L29 (nI (bK B)) (nI (bR B)) (nI (nbx B)) ro co (nI k) (fX8_find_J52 (nI (fls B).length, now1, left1, box1, 1, nI (fls B).length)) n (nI j) now left box = some (1, now', left', box', 1, nI (fls B).length) := by
        intro l
        induction l with
        | nil => intro j n now left box _ _ h; exact absurd h (Nat.not_lt_zero _)
        | cons w l ih =>
          intro j n now left box hn2 hj hl hcu
          obtain ⟨n, rfl, hn3⟩ := fuel hn2
          rcases cu_next hB h1 h2 hcu with ⟨e, -⟩ | ⟨w', l', now', left', box', e, ha, hcu', en⟩
          · cases e
          · cases e
            rw [fX8_find_L29, if_neg (nI_nlt hj (by omega)), if_neg (nI_nle (by omega) (by omega)), en, bd_s]
            dsimp only
            rw [nI_1]
            by_cases e : j = k
            · obtain ⟨n, rfl, -⟩ := fuel (show 0 < n by omega)
              refine ⟨now', left', box', by rw [e, Nat.sub_self]; exact ha, ?_⟩
              rw [fX8_find_L29, if_pos (nI_lt (by omega) (by omega))]
              rfl
            · obtain ⟨a, b, c, d1, d2⟩ := ih (j + 1) n now' left' box' (by omega) (by omega) (by rw [List.length_cons] at hl; omega) hcu'
              refine ⟨a, b, c, ?_, d2⟩
              rw [show k - j = (k - (j + 1)) + 1 by omega]
              exact d1
      obtain ⟨a, b, c, d1, d2⟩ := L (fls B) 0 fu now0 left0 0 (by unfold fu; omega) (Nat.zero_le k) (by omega) (cu_0 hB hR hs (by omega) z0 l0)
      exact Or.inr ⟨k, a, b, c, rfl, hk2, d1, d2⟩
