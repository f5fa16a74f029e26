/-! the reference counts the words of a shape -/
theorem of_take {p : List Nat} {often : Nat → Int32} (h : ofI p often) {v : Nat} (v1 : 1 ≤ v) (v4 : v ≤ 4) : ofI (p ++ [v]) (upd often v (often v + 1)) := by
  intro u u1 u4
  rw [show (p ++ [v]).length = p.length + 1 by simp, cq_last]
  by_cases e : u = v
  · subst e
    rw [pk_us, h u u1 u4, if_pos rfl, nI_1]
  · rw [pk_un e, h u u1 u4, if_neg (fun q => e q.symm)]
    rfl
theorem of_back {p : List Nat} {often : Nat → Int32} {v : Nat} (h : ofI (p ++ [v]) often) (v1 : 1 ≤ v) (v4 : v ≤ 4) : ofI p (upd often v (often v - 1)) := by
  intro u u1 u4
  have := h u u1 u4
  rw [show (p ++ [v]).length = p.length + 1 by simp, cq_last] at this
  by_cases e : u = v
  · subst e
    rw [pk_us, this, if_pos rfl, nI_pred]
  · rw [pk_un e, this, if_neg (fun q => e q.symm)]
    rfl
theorem getD_z (w : List Nat) (j : Nat) : (w ++ [0]).getD j 0 = w.getD j 0 := by
  by_cases h : j < w.length
  · exact getD_app_l h
  · rw [getD_app_r (by omega)]
    have : w.getD j 0 = 0 := by
      rw [List.getD_eq_getElem?_getD, List.getElem?_eq_none (by omega)]; rfl
    rw [this]
    cases j - w.length with
    | zero => rfl
    | succ n => rfl
theorem getD_u (p : List Nat) (y v j : Nat) : updN (fun j => (p ++ [y]).getD j 0) p.length v j = (p ++ [v]).getD j 0 := by
  unfold updN
  by_cases e : j = p.length
  · rw [if_pos e, e, getD_last]
  · rw [if_neg e]
    show (p ++ [y]).getD j 0 = (p ++ [v]).getD j 0
    by_cases h : j < p.length
    · rw [getD_app_l h, getD_app_l h]
    · rw [List.getD_eq_getElem?_getD, List.getD_eq_getElem?_getD, List.getElem?_eq_none (by simp; omega), List.getElem?_eq_none (by simp; omega)]
theorem t_67 {i c x : Nat → Nat} (hS : ShOK i x) (hc9 : ∀ r, c r ≤ 9) {content shape ro co grid often : Nat → Int32} (hc : rq_4 content c) (hsh : rq_4 shape (fun r => i r + x r)) (hR : rdL i x (sx x 4) ro co) {p : List Nat} (hp : p.length < sx x 4) (hv : ∀ y ∈ p, 1 ≤ y ∧ y ≤ 4) {f : Nat → Nat} (hG : GF i x f grid) (hf : ∀ j, j < p.length → f j = p.getD j 0) (ho : ofI p often) (rb : Int32) (g0 o0 : Nat → Int32) (k89 : Int32 → Option (Int32 × Int32 × (Nat → Int32) × (Nat → Int32) × (Nat → Int32) × (Nat → Int32))) : ∀ (t n : Nat), t ≤ 4 → t < n → (∃ v, 5 - t ≤ v ∧ v ≤ 4 ∧ (∀ m, alt (okT i c x) m p t = dfs (okT i c x) m (p ++ [v]) ++ alt (okT i c x) m p (4 - v)) ∧ fX8_timesNow_L67 content shape (rb, ro, co, g0, o0) (nI p.length) grid often k89 n (nI (5 - t)) = k89 (nI v)) ∨ ((∀ m, alt (okT i c x) m p t = []) ∧ fX8_timesNow_L67 content shape (rb, ro, co, g0, o0) (nI p.length) grid often k89 n (nI (5 - t)) = k89 (nI 5)) := by
  intro t
  induction t with
  | zero =>
    intro n _ hn
    obtain ⟨n, rfl, -⟩ := fuel hn
    refine Or.inr ⟨fun m => rfl, ?_⟩
    rw [fX8_timesNow_L67, if_pos (by decide)]
  | succ t ih =>
    intro n ht hn
    obtain ⟨n, rfl, hn2⟩ := fuel hn
    have v1 : 1 ≤ 4 - t := by omega
    have M := f_mayCome hS hc9 hc hsh hR hp hv hG hf ho v1 (show 4 - t ≤ 4 by omega)
    rw [show 5 - (t + 1) = 4 - t by omega, fX8_timesNow_L67, if_neg (show ¬ 4 < nI (4 - t) from nI_nlt (a := 4) (by omega) (by decide))]
    dsimp only
    rw [M, bd_s]
    by_cases q : okV i c x p (4 - t) = true
    · rw [if_pos q, if_neg (by decide)]
      exact Or.inl ⟨4 - t, Nat.le_refl _, by omega, fun m => by rw [alt, brs, okT_app, if_pos q, show 4 - (4 - t) = t by omega], rfl⟩
    · rw [if_neg q, if_pos rfl, nI_1, show 4 - t + 1 = 5 - t by omega]
      have eA : ∀ m, alt (okT i c x) m p (t + 1) = alt (okT i c x) m p t := fun m => by rw [alt, brs, okT_app, if_neg q]; rfl
      rcases ih n (by omega) (by omega) with ⟨v, g1, g2, g3, g4⟩ | ⟨g1, g2⟩
      · exact Or.inl ⟨v, by omega, g2, fun m => by rw [eA]; exact g3 m, g4⟩
      · exact Or.inr ⟨fun m => by rw [eA]; exact g1 m, g2⟩
def TS (i x : Nat → Nat) (rp : List Nat) (y : Nat) (grid often : Nat → Int32) : Prop := (∀ z ∈ rp, 1 ≤ z ∧ z ≤ 4) ∧ y ≤ 4 ∧ GF i x (fun j => (rp.reverse ++ [y]).getD j 0) grid ∧ ofI (cur rp.reverse y) often
theorem times_L {i c x : Nat → Nat} (hS : ShOK i x) (hc9 : ∀ r, c r ≤ 9) {content shape ro co : Nat → Int32} (hc : rq_4 content c) (hsh : rq_4 shape (fun r => i r + x r)) (hR : rdL i x (sx x 4) ro co) (g0 o0 : Nat → Int32) : ∀ (N : Nat) (rp : List Nat) (y n many : Nat) (grid often : Nat → Int32), meas (sx x 4) rp y ≤ N → N < n → rp.length < sx x 4 → TS i x rp y grid often → ∃ grid' often', fX8_timesNow_L30 content shape (nI (sx x 4), ro, co, g0, o0) n (nI many) (nI rp.length) grid often = some (nI (many + (fut (okT i c x) (sx x 4) rp y).length), nI (sx x 4), ro, co, grid', often') := by
  have h9 := hS.2.2
  intro N
  induction N with
  | zero =>
    intro rp y n many grid often hm
    rw [meas_eq] at hm
    omega
  | succ N ih =>
    intro rp y n many grid often hm hn hp hT
    obtain ⟨n, rfl, hn2⟩ := fuel hn
    obtain ⟨s1, s2, s3, s4⟩ := hT
    have lr : rp.reverse.length = rp.length := List.length_reverse
    have cl := cel_lt hS hp
    have hy : grid (cel i x rp.length) = nI y := by
      rw [s3.1 rp.length hp]
      show nI ((rp.reverse ++ [y]).getD rp.length 0) = nI y
      rw [← lr, getD_last]
    rw [fut_eq, fX8_timesNow_L30, if_neg (nI_pos (by omega))]
    dsimp only
    rw [f_cellAt hS hR hp, bd_s, gd_in cl (by decide), nI_clamp (show cel i x rp.length < 2 ^ 31 by omega), hy]
    obtain ⟨of1, ho1, e1⟩ : ∃ of1, ofI rp.reverse of1 ∧ (if nI y ≤ 0 then fX8_timesNow_J64 content shape (nI (sx x 4), ro, co, g0, o0) (nI many) (nI rp.length) grid (nI (cel i x rp.length)) (fX8_timesNow_L30 content shape (nI (sx x 4), ro, co, g0, o0) n) often else gd (inb (nI y) 5) (fX8_timesNow_J64 content shape (nI (sx x 4), ro, co, g0, o0) (nI many) (nI rp.length) grid (nI (cel i x rp.length)) (fX8_timesNow_L30 content shape (nI (sx x 4), ro, co, g0, o0) n) (upd often (nI y).toNatClampNeg (often (nI y).toNatClampNeg - 1)))) = fX8_timesNow_J64 content shape (nI (sx x 4), ro, co, g0, o0) (nI many) (nI rp.length) grid (nI (cel i x rp.length)) (fX8_timesNow_L30 content shape (nI (sx x 4), ro, co, g0, o0) n) of1 := by
      unfold cur at s4
      by_cases q : y = 0
      · rw [if_pos q] at s4
        exact ⟨often, s4, by rw [if_pos (by rw [q]; decide)]⟩
      · rw [if_neg q] at s4
        refine ⟨_, of_back s4 (by omega) s2, ?_⟩
        rw [if_neg (nI_nle (by omega) (by omega)), gd_in (show y < 5 by omega) (by decide), nI_clamp (by omega)]
    rw [e1]
    unfold fX8_timesNow_J64
    rw [nI_clamp (show cel i x rp.length < 2 ^ 31 by omega), hy, nI_1, show y + 1 = 5 - (4 - y) by omega]
    have hv : ∀ z ∈ rp.reverse, 1 ≤ z ∧ z ≤ 4 := fun z hz => s1 z (List.mem_reverse.mp hz)
    have K := t_67 hS hc9 hc hsh hR (p := rp.reverse) (by rw [lr]; exact hp) hv s3 (fun j hj => getD_app_l hj) ho1 (nI (sx x 4)) g0 o0 (fX8_timesNow_J89 (nI (sx x 4), ro, co, g0, o0) (nI many) (nI rp.length) grid (nI (cel i x rp.length)) of1 (fX8_timesNow_L30 content shape (nI (sx x 4), ro, co, g0, o0) n)) (4 - y) fu (by omega) (by unfold fu; omega)
    rw [lr] at K
    rcases K with ⟨v, g1, g2, g3, g4⟩ | ⟨g1, g2⟩
    · rw [g4]
      unfold fX8_timesNow_J89 fX8_timesNow_J106 fX8_timesNow_J149
      have v1 : 1 ≤ v := by omega
      rw [if_neg (show ¬ 4 < nI v from nI_nlt (a := 4) g2 (by decide)), if_pos (show nI v ≤ 4 from nI_le (b := 4) g2 (by decide)), gd_in (show v < 5 by omega) (by decide), nI_clamp (show cel i x rp.length < 2 ^ 31 by omega), nI_clamp (show v < 2 ^ 31 by omega), g3]
      dsimp only
      rw [show nI (sx x 4) - 1 = nI (sx x 4 - 1) by rw [lit_1, nI_sub (by omega)]]
      have G2 : GF i x (fun j => (rp.reverse ++ [v]).getD j 0) (upd grid (cel i x rp.length) (nI v)) := GF_congr (GF_upd hS s3 hp v) (fun j _ => by
        have := getD_u rp.reverse y v j
        rwa [lr] at this)
      have O2 := of_take ho1 v1 g2
      by_cases qb : rp.length + 1 < sx x 4
      · rw [if_neg (show ¬ nI rp.length = nI (sx x 4 - 1) from fun e => by
          have := (nI_eq (by omega) (by omega)).mp e
          omega), nI_1]
        have e0 : dfs (okT i c x) (lev (sx x 4) rp) (rp.reverse ++ [v]) ++ alt (okT i c x) (lev (sx x 4) rp) rp.reverse (4 - v) ++ upF (okT i c x) (sx x 4) rp = fut (okT i c x) (sx x 4) (v :: rp) 0 := by
          rw [fut_down _ qb, fut_eq _ _ rp v, List.append_assoc]
        rw [e0]
        have md := meas_down (n := sx x 4) (rp := rp) qb (show y < v by omega) g2
        refine ih (v :: rp) 0 n many _ _ (by omega) (by omega) (by rw [List.length_cons]; exact qb) ⟨?_, by omega, ?_, ?_⟩
        · intro z hz
          rcases List.mem_cons.mp hz with e | e
          · rw [e]; omega
          · exact s1 z e
        · rw [List.reverse_cons]
          exact GF_congr G2 (fun j _ => (getD_z _ j).symm)
        · unfold cur
          rw [if_pos rfl, List.reverse_cons]
          exact O2
      · rw [if_pos (show nI rp.length = nI (sx x 4 - 1) by congr 1; omega), nI_1]
        have l0 : lev (sx x 4) rp = 0 := by unfold lev; omega
        have e0 : alt (okT i c x) 0 rp.reverse (4 - v) ++ upF (okT i c x) (sx x 4) rp = fut (okT i c x) (sx x 4) rp v := by
          rw [fut_eq _ _ rp v, l0]
        rw [l0, dfs, List.append_assoc, e0, List.length_append, List.length_singleton, ← Nat.add_assoc]
        have md := meas_leaf (n := sx x 4) (rp := rp) (show y < v by omega) g2
        refine ih rp v n (many + 1) _ _ (by omega) (by omega) hp ⟨s1, g2, G2, ?_⟩
        unfold cur
        rw [if_neg (by omega)]
        exact O2
    · rw [g2, g1, List.nil_append]
      unfold fX8_timesNow_J89 fX8_timesNow_J106 fX8_timesNow_J149
      rw [if_pos (show 4 < nI 5 by decide), if_neg (show ¬ nI 5 ≤ 4 by decide), nI_clamp (show cel i x rp.length < 2 ^ 31 by omega)]
      have G2 : GF i x (fun j => rp.reverse.getD j 0) (upd grid (cel i x rp.length) 0) := GF_congr (GF_upd hS s3 hp 0) (fun j _ => by
        have := getD_u rp.reverse y 0 j
        rw [lr] at this
        rw [this, getD_z])
      cases rp with
      | nil =>
        obtain ⟨n, rfl, -⟩ := fuel (show 0 < n by rw [meas_eq] at hm; omega)
        exact ⟨_, _, by rw [fX8_timesNow_L30, if_pos (show nI ([] : List Nat).length + -1 < 0 by decide)]; rfl⟩
      | cons z rp =>
        have hz := s1 z (by simp)
        rw [List.length_cons] at hp ⊢
        rw [show nI (rp.length + 1) + -1 = nI rp.length by rw [m1_s, nI_pred]]
        rw [upF]
        have hm2 : meas (sx x 4) rp z ≤ N := by
          rw [meas_eq, upM] at hm
          omega
        rw [List.reverse_cons] at G2 ho1
        refine ih rp z n many _ _ hm2 (by omega) (by omega) ⟨fun z hz => s1 z (by simp [hz]), hz.2, G2, ?_⟩
        unfold cur
        rw [if_neg (by omega)]
        exact ho1
theorem f_timesNow {i c x : Nat → Nat} (hS : ShOK i x) (hc9 : ∀ r, c r ≤ 9) {inner content shape : Nat → Int32} (hin : rq_4 inner i) (hc : rq_4 content c) (hsh : rq_4 shape (fun r => i r + x r)) (ro co gr of : Nat → Int32) : ∃ rb' ro' co' gr' of', fX8_timesNow inner content shape ro co gr of = some (nI (dfs (okT i c x) (sx x 4) []).length, rb', ro', co', gr', of') := by
  have h9 := hS.2.2
  obtain ⟨ro', co', gr', of', g1, g2, g3, g4⟩ := f_layReading hS hin hsh ro co gr of
  unfold fX8_timesNow
  rw [g4, bd_s]
  unfold fX8_timesNow_J16 fX8_timesNow_J29
  dsimp only
  by_cases z : sx x 4 = 0
  · obtain ⟨n, hn, -⟩ := fuel (show 0 < fu by unfold fu; omega)
    refine ⟨nI (sx x 4), ro', co', gr', of', ?_⟩
    rw [if_pos (show nI (sx x 4) = 0 by rw [z]; rfl), if_pos (show nI (sx x 4) = 0 by rw [z]; rfl), hn, fX8_timesNow_L30, if_pos (show (-1 : Int32) < 0 by decide), z]
    rfl
  · rw [if_neg (nI_ne0 (by omega) (by omega)), if_neg (nI_ne0 (by omega) (by omega))]
    have hT : TS i x [] 0 gr' of' := by
      refine ⟨(fun z h => by cases h), by omega, ⟨fun j hj => ?_, fun m hm _ => g2 m hm⟩, ?_⟩
      · rw [g2 _ (cel_lt hS hj)]
        show 0 = nI (([] ++ [0]).getD j 0)
        rw [getD_z]
        rfl
      · intro v v1 v4
        rw [g3 v (by omega)]
        rfl
    obtain ⟨gr2, of2, e⟩ := times_L hS hc9 hc hsh g1 gr' of' (meas (sx x 4) [] 0) [] 0 fu 0 gr' of' (Nat.le_refl _) (meas_fu h9 (show ([] : List Nat).length < sx x 4 by simp; omega) 0) (show 0 < sx x 4 by omega) hT
    have ef : fut (okT i c x) (sx x 4) [] 0 = dfs (okT i c x) (sx x 4) [] := by
      rw [fut, show 4 - 0 = 4 from rfl, ← dfs_alt, Nat.sub_add_cancel (by omega)]
    rw [ef, Nat.zero_add] at e
    exact ⟨_, _, _, _, _, e⟩
