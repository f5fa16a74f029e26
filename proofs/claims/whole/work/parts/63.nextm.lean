/-! the reference's search -/
def cur (p : List Nat) (x : Nat) : List Nat := if x = 0 then p else p ++ [x]
def zer (now : Nat → Int32) (k : Nat) : Prop := ∀ j, k ≤ j → j < 9 → now j = 0
def SM (B : Bd) (rp : List Nat) (x : Nat) (now left : Nat → Int32) : Prop := (∀ y ∈ rp, 1 ≤ y ∧ y ≤ 4) ∧ x ≤ 4 ∧ agr now (rp.reverse ++ [x]) ∧ zer now (rp.length + 1) ∧ lfI B (cur rp.reverse x) left
theorem raise_L {B : Bd} (hB : BdOK B) {ro co : Nat → Int32} (h1 : agr ro (rowsL B (bR B))) (h2 : agr co (colsL B (bR B))) {p : List Nat} (hp : p.length < nbx B) (hv : ∀ x ∈ p, 1 ≤ x ∧ x ≤ 4) {left : Nat → Int32} (hl : lfI B p left) : ∀ (t n : Nat) (now : Nat → Int32), t ≤ 4 → t < n → agr now (p ++ [5 - t]) → zer now (p.length + 1) → (∃ v now' left', 5 - t ≤ v ∧ v ≤ 4 ∧ (∀ m, alt (okQ B) m p t = dfs (okQ B) m (p ++ [v]) ++ alt (okQ B) m p (4 - v)) ∧ agr now' (p ++ [v]) ∧ zer now' (p.length + 1) ∧ lfI B (p ++ [v]) left' ∧ fX8_raise_L17 (nI (bK B)) ro co (nI p.length) left (fX8_raise_J76 (nI p.length) left) n now = some (1, now', left')) ∨ ((∀ m, alt (okQ B) m p t = []) ∧ ∃ now', agr now' p ∧ zer now' p.length ∧ fX8_raise_L17 (nI (bK B)) ro co (nI p.length) left (fX8_raise_J76 (nI p.length) left) n now = some (0, now', left)) := by
  have n9 := hB.2.2.2.2.2.2.1
  intro t
  induction t with
  | zero =>
    intro n now ht hn ha hz
    obtain ⟨n, rfl, -⟩ := fuel hn
    have e : now p.length = nI 5 := by
      have := ha p.length (by simp)
      rwa [getD_last] at this
    refine Or.inr ⟨fun m => rfl, upd now p.length 0, agr_un (agr_le ha) (Nat.le_refl _), ?_, ?_⟩
    · intro j h1 h2
      by_cases q : j = p.length
      · rw [q, pk_us]
      · rw [pk_un q]; exact hz j (by omega) h2
    · rw [fX8_raise_L17, nI_clamp (by omega), e, if_pos (by decide)]
      unfold fX8_raise_J76
      rw [nI_clamp (by omega), e, if_neg (by decide)]
  | succ t ih =>
    intro n now ht hn ha hz
    obtain ⟨n, rfl, hn2⟩ := fuel hn
    rw [show 5 - (t + 1) = 4 - t by omega] at ha
    have e : now p.length = nI (4 - t) := by
      have := ha p.length (by simp)
      rwa [getD_last] at this
    have v1 : 1 ≤ 4 - t := by omega
    have hpv := v_app hv v1 (show 4 - t ≤ 4 by omega)
    have ff := f_fitsM hB h1 h2 hp (w := p ++ [4 - t]) (now := now) (fun j hj => ha j (by rw [List.length_append]; show j < p.length + 1; omega)) (getD_lt5 hpv)
    have hlv := hl (4 - t - 1) (by omega)
    rw [show 4 - t - 1 + 1 = 4 - t by omega] at hlv
    have cb := hB.2.2.2.2.2.1 (4 - t - 1)
    have okE := okQ_app B p (4 - t)
    have hnx : agr (upd now p.length (nI (4 - t) + 1)) (p ++ [5 - t]) := by
      rw [nI_1, show 4 - t + 1 = 5 - t by omega]
      exact agr_app (agr_le ha)
    have hzx : zer (upd now p.length (nI (4 - t) + 1)) (p.length + 1) := fun j h1 h2 => by rw [pk_un (by omega)]; exact hz j h1 h2
    have fail : okQ B (p ++ [4 - t]) = false → (fX8_raise_L17 (nI (bK B)) ro co (nI p.length) left (fX8_raise_J76 (nI p.length) left) (n + 1) now = fX8_raise_L17 (nI (bK B)) ro co (nI p.length) left (fX8_raise_J76 (nI p.length) left) n (upd now p.length (nI (4 - t) + 1))) → (∃ v now' left', 5 - (t + 1) ≤ v ∧ v ≤ 4 ∧ (∀ m, alt (okQ B) m p (t + 1) = dfs (okQ B) m (p ++ [v]) ++ alt (okQ B) m p (4 - v)) ∧ agr now' (p ++ [v]) ∧ zer now' (p.length + 1) ∧ lfI B (p ++ [v]) left' ∧ fX8_raise_L17 (nI (bK B)) ro co (nI p.length) left (fX8_raise_J76 (nI p.length) left) (n + 1) now = some (1, now', left')) ∨ ((∀ m, alt (okQ B) m p (t + 1) = []) ∧ ∃ now', agr now' p ∧ zer now' p.length ∧ fX8_raise_L17 (nI (bK B)) ro co (nI p.length) left (fX8_raise_J76 (nI p.length) left) (n + 1) now = some (0, now', left)) := by
      intro hno hst
      have eA : ∀ m, alt (okQ B) m p (t + 1) = alt (okQ B) m p t := fun m => by rw [alt, brs, hno]; rfl
      rcases ih n _ (by omega) (by omega) hnx hzx with ⟨v, now', left', g1, g2, g3, g4, g5, g6, g7⟩ | ⟨g1, now', g2, g3, g4⟩
      · exact Or.inl ⟨v, now', left', by omega, g2, fun m => by rw [eA]; exact g3 m, g4, g5, g6, by rw [hst]; exact g7⟩
      · exact Or.inr ⟨fun m => by rw [eA]; exact g1 m, now', g2, g3, by rw [hst]; exact g4⟩
    by_cases q1 : cq p (4 - t) p.length + 1 ≤ bc B (4 - t - 1)
    · by_cases q2 : fitB B (p ++ [4 - t]) p.length = true
      · have ok : okQ B (p ++ [4 - t]) = true := by rw [okE, q2]; simp [q1]
        refine Or.inl ⟨4 - t, now, upd left (4 - t - 1) (left (4 - t - 1) - 1), by omega, by omega, fun m => by rw [alt, brs, if_pos ok, show 4 - (4 - t) = t by omega], ha, hz, lf_take hl v1 (by omega) q1, ?_⟩
        rw [fX8_raise_L17, nI_clamp (by omega), e, if_neg (show ¬ 4 < nI (4 - t) from nI_nlt (a := 4) (by omega) (by decide)), show nI (4 - t) - 1 = nI (4 - t - 1) by rw [lit_1, nI_sub v1], gd_in (show 4 - t - 1 < 4 by omega) (by decide), nI_clamp (by omega), hlv.2, if_neg (nI_ne0 (by omega) (by omega)), ff, bd_s, if_pos q2, if_neg (by decide)]
        unfold fX8_raise_J76
        rw [nI_clamp (by omega), e, if_pos (show nI (4 - t) ≤ 4 from nI_le (b := 4) (by omega) (by decide)), show nI (4 - t) - 1 = nI (4 - t - 1) by rw [lit_1, nI_sub v1], gd_in (show 4 - t - 1 < 4 by omega) (by decide), nI_clamp (by omega), hlv.2]
      · refine fail (by rw [okE, show fitB B (p ++ [4 - t]) p.length = false by simpa only [Bool.not_eq_true] using q2]; rfl) ?_
        rw [fX8_raise_L17, nI_clamp (by omega), e, if_neg (show ¬ 4 < nI (4 - t) from nI_nlt (a := 4) (by omega) (by decide)), show nI (4 - t) - 1 = nI (4 - t - 1) by rw [lit_1, nI_sub v1], gd_in (show 4 - t - 1 < 4 by omega) (by decide), nI_clamp (by omega), hlv.2, if_neg (nI_ne0 (by omega) (by omega)), ff, bd_s, if_neg q2, if_pos rfl]
        unfold fX8_raise_J60
        rw [nI_clamp (by omega), e]
    · refine fail (by rw [okE, decide_eq_false q1, Bool.and_false]) ?_
      rw [fX8_raise_L17, nI_clamp (by omega), e, if_neg (show ¬ 4 < nI (4 - t) from nI_nlt (a := 4) (by omega) (by decide)), show nI (4 - t) - 1 = nI (4 - t - 1) by rw [lit_1, nI_sub v1], gd_in (show 4 - t - 1 < 4 by omega) (by decide), nI_clamp (by omega), hlv.2, if_pos (by rw [show bc B (4 - t - 1) - cq p (4 - t) p.length = 0 by omega]; rfl)]
      unfold fX8_raise_J60
      rw [nI_clamp (by omega), e]
theorem f_raise {B : Bd} (hB : BdOK B) {ro co : Nat → Int32} (h1 : agr ro (rowsL B (bR B))) (h2 : agr co (colsL B (bR B))) {rp : List Nat} (hp : rp.length < nbx B) {x : Nat} {now left : Nat → Int32} (hS : SM B rp x now left) : (∃ v now' left', x < v ∧ v ≤ 4 ∧ (∀ m, alt (okQ B) m rp.reverse (4 - x) = dfs (okQ B) m (rp.reverse ++ [v]) ++ alt (okQ B) m rp.reverse (4 - v)) ∧ agr now' (rp.reverse ++ [v]) ∧ zer now' (rp.length + 1) ∧ lfI B (rp.reverse ++ [v]) left' ∧ fX8_raise (nI (bK B)) ro co now left (nI rp.length) = some (1, now', left')) ∨ ((∀ m, alt (okQ B) m rp.reverse (4 - x) = []) ∧ ∃ now' left', agr now' rp.reverse ∧ zer now' rp.length ∧ lfI B rp.reverse left' ∧ fX8_raise (nI (bK B)) ro co now left (nI rp.length) = some (0, now', left')) := by
  have n9 := hB.2.2.2.2.2.2.1
  obtain ⟨s1, s2, s3, s4, s5⟩ := hS
  have lr : rp.reverse.length = rp.length := List.length_reverse
  have e : now rp.length = nI x := by
    have := s3 rp.reverse.length (by simp)
    rwa [getD_last, lr] at this
  obtain ⟨l1, hl1, eg⟩ : ∃ l1, lfI B rp.reverse l1 ∧ fX8_giveBack now left (nI rp.length) = some l1 := by
    unfold fX8_giveBack fX8_giveBack_J32
    rw [gd_in (show rp.length < 9 by omega) (by decide), nI_clamp (by omega), e]
    unfold cur at s5
    by_cases q : x = 0
    · rw [if_pos q] at s5
      exact ⟨left, s5, by rw [if_pos (by rw [q]; decide)]⟩
    · rw [if_neg q] at s5
      refine ⟨_, lf_back s5 (by omega) s2, ?_⟩
      rw [if_neg (nI_nle (by omega) (by omega)), lit_1, nI_sub (by omega), gd_in (show x - 1 < 4 by omega) (by decide), nI_clamp (by omega)]
  have er : fX8_raise (nI (bK B)) ro co now left (nI rp.length) = fX8_raise_L17 (nI (bK B)) ro co (nI rp.reverse.length) l1 (fX8_raise_J76 (nI rp.reverse.length) l1) fu (upd now rp.length (nI (x + 1))) := by
    unfold fX8_raise
    rw [eg, bd_s, gd_in (show rp.length < 9 by omega) (by decide), nI_clamp (by omega), e, nI_1, lr]
  have ha : agr (upd now rp.length (nI (x + 1))) (rp.reverse ++ [5 - (4 - x)]) := by
    rw [show 5 - (4 - x) = x + 1 by omega, ← lr]
    exact agr_app (agr_le s3)
  rcases raise_L hB h1 h2 (p := rp.reverse) (by rw [lr]; exact hp) (fun y hy => s1 y (List.mem_reverse.mp hy)) hl1 (4 - x) fu (upd now rp.length (nI (x + 1))) (by omega) (by unfold fu; omega) ha (fun j h1 h2 => by rw [lr] at h1; rw [pk_un (by omega)]; exact s4 j h1 h2) with ⟨v, now', left', g1, g2, g3, g4, g5, g6, g7⟩ | ⟨g1, now', g2, g3, g4⟩
  · rw [lr] at g5
    exact Or.inl ⟨v, now', left', by omega, g2, g3, g4, g5, g6, er.trans g7⟩
  · rw [lr] at g3
    exact Or.inr ⟨g1, now', l1, g2, g3, hl1, er.trans g4⟩
/-- the next filling -/
theorem next_L {B : Bd} (hB : BdOK B) {ro co : Nat → Int32} (h1 : agr ro (rowsL B (bR B))) (h2 : agr co (colsL B (bR B))) : ∀ (N : Nat) (rp : List Nat) (x n : Nat) (now left : Nat → Int32), meas (nbx B) rp x ≤ N → N < n → rp.length < nbx B → SM B rp x now left → (∀ w ∈ fut (okQ B) (nbx B) rp x, full B w) → ((fut (okQ B) (nbx B) rp x).filter (ap (lsB B) 0) = [] ∧ ∃ now' left', fX8_next_L0 (nI (bK B)) (nI (bR B)) (nI (nbx B)) ro co fX8_next_J68 n now left (nI rp.length) = some (0, now', left', -1)) ∨ (∃ rp' x' now' left', (fut (okQ B) (nbx B) rp x).filter (ap (lsB B) 0) = (rp'.reverse ++ [x']) :: (fut (okQ B) (nbx B) rp' x').filter (ap (lsB B) 0) ∧ SM B rp' x' now' left' ∧ rp'.length + 1 = nbx B ∧ (∀ w ∈ fut (okQ B) (nbx B) rp' x', full B w) ∧ fX8_next_L0 (nI (bK B)) (nI (bR B)) (nI (nbx B)) ro co fX8_next_J68 n now left (nI rp.length) = some (1, now', left', nI rp'.length)) := by
  have n9 := hB.2.2.2.2.2.2.1
  have hK := hB.1
  intro N
  induction N with
  | zero =>
    intro rp x n now left hm
    rw [meas_eq] at hm
    omega
  | succ N ih =>
    intro rp x n now left hm hn hp hS hfull
    obtain ⟨n, rfl, hn2⟩ := fuel hn
    rw [fut_eq] at hfull ⊢
    rw [fX8_next_L0, if_neg (nI_pos (by omega))]
    rcases f_raise hB h1 h2 hp hS with ⟨v, now', left', g1, g2, g3, g4, g5, g6, g7⟩ | ⟨g1, now', left', g2, g3, g4, g5⟩
    · rw [g7, bd_s]
      dsimp only
      rw [if_neg (by decide), show nI (nbx B) - 1 = nI (nbx B - 1) by rw [lit_1, nI_sub (by omega)]]
      have cv : cur rp.reverse v = rp.reverse ++ [v] := if_neg (by omega)
      rw [g3] at hfull ⊢
      by_cases qb : rp.length + 1 < nbx B
      · rw [if_neg (nI_ge (by omega) (by omega)), nI_1]
        have e0 : dfs (okQ B) (lev (nbx B) rp) (rp.reverse ++ [v]) ++ alt (okQ B) (lev (nbx B) rp) rp.reverse (4 - v) ++ upF (okQ B) (nbx B) rp = fut (okQ B) (nbx B) (v :: rp) 0 := by
          rw [fut_down _ qb, fut_eq _ _ rp v, List.append_assoc]
        rw [e0] at hfull ⊢
        have hz0 : now' (rp.length + 1) = 0 := g5 (rp.length + 1) (by omega) (by omega)
        have hS2 : SM B (v :: rp) 0 now' left' := by
          refine ⟨?_, by omega, ?_, ?_, ?_⟩
          · intro y hy
            rcases List.mem_cons.mp hy with e | e
            · rw [e]; omega
            · exact hS.1 y e
          · rw [List.reverse_cons]
            intro j hj
            by_cases q : j = (rp.reverse ++ [v]).length
            · rw [q, getD_last]
              have : (rp.reverse ++ [v]).length = rp.length + 1 := by simp
              rw [this, hz0]; rfl
            · rw [List.length_append] at hj
              have hj2 : j < (rp.reverse ++ [v]).length := by
                have : ([0] : List Nat).length = 1 := rfl
                omega
              rw [g4 j hj2, getD_app_l (l := rp.reverse ++ [v]) (m := [0]) hj2]
          · intro j a b
            rw [List.length_cons] at a
            exact g5 j (by omega) b
          · unfold cur
            rw [if_pos rfl, List.reverse_cons]
            exact g6
        have md := meas_down (n := nbx B) (rp := rp) qb g1 g2
        exact ih (v :: rp) 0 n now' left' (by omega) (by omega) (by rw [List.length_cons]; exact qb) hS2 hfull
      · rw [if_pos (nI_le (by omega) (by omega))]
        have l0 : lev (nbx B) rp = 0 := by unfold lev; omega
        rw [l0, dfs, List.append_assoc] at hfull ⊢
        have e0 : alt (okQ B) 0 rp.reverse (4 - v) ++ upF (okQ B) (nbx B) rp = fut (okQ B) (nbx B) rp v := by
          rw [fut_eq _ _ rp v, l0]
        rw [e0] at hfull ⊢
        have hw : full B (rp.reverse ++ [v]) := hfull _ (by simp)
        have hrest : ∀ w ∈ fut (okQ B) (nbx B) rp v, full B w := fun w h => hfull w (by simp [h])
        have hS2 : SM B rp v now' left' := ⟨hS.1, g2, g4, g5, by rw [cv]; exact g6⟩
        have md := meas_leaf (n := nbx B) (rp := rp) g1 g2
        have yes : ap (lsB B) 0 (rp.reverse ++ [v]) = true → ((([rp.reverse ++ [v]] ++ fut (okQ B) (nbx B) rp v).filter (ap (lsB B) 0) = [] ∧ ∃ now'' left'', fX8_next_J68 now' left' (nI rp.length) = some (0, now'', left'', -1)) ∨ (∃ rp' x' now'' left'', ([rp.reverse ++ [v]] ++ fut (okQ B) (nbx B) rp v).filter (ap (lsB B) 0) = (rp'.reverse ++ [x']) :: (fut (okQ B) (nbx B) rp' x').filter (ap (lsB B) 0) ∧ SM B rp' x' now'' left'' ∧ rp'.length + 1 = nbx B ∧ (∀ w ∈ fut (okQ B) (nbx B) rp' x', full B w) ∧ fX8_next_J68 now' left' (nI rp.length) = some (1, now'', left'', nI rp'.length))) := by
          intro h
          refine Or.inr ⟨rp, v, now', left', ?_, hS2, by omega, hrest, rfl⟩
          rw [List.singleton_append, List.filter_cons, if_pos h]
        by_cases k2 : bK B = 2
        · obtain ⟨f, hf, ef⟩ := f_isLattice hB h1 (now := now') g4 hw.1 (getD_lt5 hw.2.1)
          rw [if_pos (show nI (bK B) = 2 by rw [k2]; rfl), ef, bd_s]
          rcases hf with ⟨rfl, hf⟩ | ⟨rfl, hf⟩
          · rw [if_neg (by decide)]
            exact yes ((LTp_ap k2 hw).mp hf)
          · rw [if_pos rfl, List.singleton_append, List.filter_cons, if_neg (fun h => hf ((LTp_ap k2 hw).mpr h))]
            exact ih rp v n now' left' (by omega) (by omega) hp hS2 hrest
        · rw [if_neg (show ¬ nI (bK B) = 2 from fun e => k2 ((nI_eq (b := 2) (by omega) (by decide)).mp e))]
          exact yes (ap_true k2 _)
    · rw [g5, bd_s, g1, List.nil_append]
      rw [g1, List.nil_append] at hfull
      dsimp only
      rw [if_pos rfl]
      cases rp with
      | nil =>
        refine Or.inl ⟨rfl, now', left', ?_⟩
        obtain ⟨n, rfl, -⟩ := fuel (show 0 < n by rw [meas_eq] at hm; omega)
        rw [fX8_next_L0, if_pos (by decide)]
        rfl
      | cons y rp =>
        have hy := hS.1 y (by simp)
        rw [List.length_cons] at hp ⊢
        rw [show nI (rp.length + 1) - 1 = nI rp.length by rw [lit_1, nI_sub (by omega), Nat.add_sub_cancel]]
        have hS2 : SM B rp y now' left' := by
          rw [List.reverse_cons] at g2 g4
          exact ⟨fun z hz => hS.1 z (by simp [hz]), hy.2, g2, g3, by unfold cur; rw [if_neg (by omega)]; exact g4⟩
        rw [upF] at hfull ⊢
        have hm2 : meas (nbx B) rp y ≤ N := by
          rw [meas_eq, upM] at hm
          omega
        exact ih rp y n now' left' hm2 (by omega) (by omega) hS2 hfull
