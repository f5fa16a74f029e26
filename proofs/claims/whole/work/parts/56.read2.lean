/-! the two readers over the runs -/
def rq1 (pg : List Nat) : Nat × Nat × (Nat → Nat) := rdG okO pg 4 1 0 (fun _ => 0)
def rq2 (pg : List Nat) : Nat × Nat × (Nat → Nat) := rdG (okI (rq1 pg).2.2) pg (rq1 pg).2.1 ((rq1 pg).1 + 1) 0 (fun _ => 0)
def rq3 (pg : List Nat) : Nat × Nat × (Nat → Nat) := rdG okC pg 4 ((rq2 pg).1 + 1) 0 (fun _ => 0)
def rdP (pg : List Nat) : Nat := if kfn (pg.getD 0 0) = 5 then 0 else if (rq1 pg).2.1 = 0 ∨ pg.getD (rq1 pg).1 0 ≠ 47 then (rq1 pg).1 else if pg.getD (rq2 pg).1 0 ≠ 58 then (rq2 pg).1 else (rq3 pg).1
def rdW (pg : List Nat) : Prop := kfn (pg.getD 0 0) ≠ 5 ∧ (rq1 pg).2.1 ≠ 0 ∧ pg.getD (rq1 pg).1 0 = 47 ∧ pg.getD (rq2 pg).1 0 = 58 ∧ 0 < (rq3 pg).2.1 ∧ (rq3 pg).1 = pg.length
def rdB (pg : List Nat) : Bd := (kfn (pg.getD 0 0), (rq1 pg).2.1, (rq1 pg).2.2, (rq2 pg).2.2, (rq3 pg).2.2)
theorem PO_0 : PO 0 (fun _ => 0) := ⟨fun j h => absurd h (Nat.not_lt_zero j), fun j h => absurd h (Nat.not_lt_zero _), fun _ _ => rfl⟩
theorem PI_0 (O : Nat → Nat) : PI O 0 (fun _ => 0) := ⟨fun j h => absurd h (Nat.not_lt_zero j), fun j h => absurd h (Nat.not_lt_zero _), fun _ _ => rfl⟩
theorem PC_0 : PC 0 (fun _ => 0) := fun _ => Nat.zero_le 9
theorem Am_0 (f : Nat → Int32) (o : Nat → Nat) : Am 0 f o := fun j h => absurd h (Nat.not_lt_zero j)
theorem okO_0 (r : Nat) (o : Nat → Nat) : okO r o 0 = false := decide_eq_false (by omega)
theorem okI_0 (O : Nat → Nat) (r : Nat) (o : Nat → Nat) : okI O r o 0 = false := decide_eq_false (by omega)
theorem okC_0 (r : Nat) (o : Nat → Nat) : okC r o 0 = false := decide_eq_false (by omega)
/-! the class -/
theorem accO {r : Nat} {o : Nat → Nat} {f : Nat → Int32} (hr : r < 4) (hP : PO r o) (hA : Ax r f o) {d : Nat} (hd : d < 127) (s : Int32) : fX4_outerAllowed (nI r) (nI d - 48) f = some (if okO r o d = true then 1 else 0) := by
  rw [f_outer hr]
  have key : (¬ nI d - 48 < 1 ∧ ¬ (if r = 0 then (5 : Int32) else f (r - 1)) < nI d - 48) ↔ okO r o d = true := by
    unfold okO
    rw [decide_eq_true_iff]
    by_cases h0 : r = 0
    · rw [if_pos h0, if_pos h0]
      exact fig_c d hd 1 (by decide) 5 (by decide)
    · rw [if_neg h0, if_neg h0, hA (r - 1) (by omega)]
      exact fig_c d hd 1 (by decide) _ (by have := hP.1 (r - 1) (by omega); omega)
  by_cases h : okO r o d = true
  · rw [if_pos (key.mpr h), if_pos h]
  · rw [if_neg (fun e => h (key.mp e)), if_neg h]
theorem accI {O : Nat → Nat} (hO : ∀ j, O j ≤ 5) {F : Nat → Int32} (hF : rq_4 F O) {r : Nat} {o : Nat → Nat} {f : Nat → Int32} (hr : r < 4) (hP : PI O r o) (hA : Ax r f o) {d : Nat} (hd : d < 127) : fX4_innerAllowed (nI r) (nI d - 48) F f = some (if okI O r o d = true then 1 else 0) := by
  rw [f_inner hr]
  have key : (¬ nI d - 48 < 0 ∧ ¬ (if r = 0 then (5 : Int32) else f (r - 1)) < nI d - 48 ∧ ¬ F r < nI d - 48) ↔ okI O r o d = true := by
    unfold okI
    rw [decide_eq_true_iff, hF r hr]
    have k2 := fig_c d hd 0 (by decide) (O r) (by have := hO r; omega)
    have e0 : nI 0 = 0 := rfl
    rw [e0] at k2
    by_cases h0 : r = 0
    · rw [if_pos h0, if_pos h0]
      have k1 := fig_c d hd 0 (by decide) 5 (by decide)
      rw [e0] at k1
      constructor
      · intro h; have a := k1.mp ⟨h.1, h.2.1⟩; have b := k2.mp ⟨h.1, h.2.2⟩; omega
      · intro h; have a := k1.mpr ⟨h.1, h.2.1⟩; have b := k2.mpr ⟨h.1, h.2.2⟩; exact ⟨a.1, a.2, b.2⟩
    · rw [if_neg h0, if_neg h0, hA (r - 1) (by omega)]
      have k1 := fig_c d hd 0 (by decide) (o (r - 1)) (by have := hP.1 (r - 1) (by omega); omega)
      rw [e0] at k1
      constructor
      · intro h; have a := k1.mp ⟨h.1, h.2.1⟩; have b := k2.mp ⟨h.1, h.2.2⟩; omega
      · intro h; have a := k1.mpr ⟨h.1, h.2.1⟩; have b := k2.mpr ⟨h.1, h.2.2⟩; exact ⟨a.1, a.2, b.2⟩
  by_cases h : okI O r o d = true
  · rw [if_pos (key.mpr h), if_pos h]
  · rw [if_neg (fun e => h (key.mp e)), if_neg h]
/-- a step of the class' reader by what `accepts` answers -/
theorem rdX_y {pg : List Nat} (hpg : pgOK pg) {page : Nat → Int32} (hag : agr page pg) {k n : Nat} (hk : k < pg.length) {st dg kd rw2 st' dg' kd' rw' : Int32} {f g h f' g' h' : Nat → Int32} (e : fX6_accepts (nI (pg.getD k 0)) st dg kd rw2 f g h = some (1, st', dg', kd', rw', f', g', h')) : fX6_readFrom_L14 page (nI pg.length) (n + 1) (nI k) st dg kd rw2 f g h = fX6_readFrom_L14 page (nI pg.length) n (nI (k + 1)) st' dg' kd' rw' f' g' h' := by
  have h20 := hpg.1
  rw [fX6_readFrom_L14, if_neg (nI_ge hk (by omega)), gd_in (show k < 20 by omega) (by decide), nI_clamp (by omega), hag k hk, e, bd_s, nI_1, if_neg (show ¬ (1 : Int32) = 0 by decide)]
theorem rdX_n {pg : List Nat} (hpg : pgOK pg) {page : Nat → Int32} (hag : agr page pg) {k n : Nat} (hk : k < pg.length) {st dg kd rw2 st' dg' kd' rw' : Int32} {f g h f' g' h' : Nat → Int32} (e : fX6_accepts (nI (pg.getD k 0)) st dg kd rw2 f g h = some (0, st', dg', kd', rw', f', g', h')) : fX6_readFrom_L14 page (nI pg.length) (n + 1) (nI k) st dg kd rw2 f g h = some (nI k, st', dg', kd', rw', f', g', h') := by
  have h20 := hpg.1
  rw [fX6_readFrom_L14, if_neg (nI_ge hk (by omega)), gd_in (show k < 20 by omega) (by decide), nI_clamp (by omega), hag k hk, e, bd_s, if_pos (show (0 : Int32) = 0 by decide)]
theorem rdX_e {pg : List Nat} (hpg : pgOK pg) {page : Nat → Int32} {k n : Nat} (hk : k = pg.length) {st dg kd rw2 : Int32} {f g h : Nat → Int32} : fX6_readFrom_L14 page (nI pg.length) (n + 1) (nI k) st dg kd rw2 f g h = some (nI pg.length, st, dg, kd, rw2, f, g, h) := by
  have h20 := hpg.1
  rw [fX6_readFrom_L14, if_pos (nI_le (by omega) (by omega))]
theorem ax1 {d r : Nat} {kd : Int32} {f g h : Nat → Int32} (hr : r < 4) {o : Nat → Nat} (hP : PO r o) (hA : Ax r f o) (hd : d < 127) (q : okO r o d = true) : fX6_accepts (nI d) 1 (nI r) kd (nI r) f g h = some (1, 1, nI (r + 1), kd, nI (r + 1), upd f r (nI (d - 48)), g, h) := by
  have q2 := of_decide_eq_true q
  unfold fX6_accepts fX6_acceptsOuter fX6_acceptsOuter_J20
  rw [if_neg (by decide), if_pos rfl, if_neg (show ¬ nI d = 47 from fun e => by have := (nI_eq (b := 47) (by omega) (by decide)).mp e; omega), if_neg (show ¬ 4 ≤ nI r from nI_ge (b := 4) hr (by decide)), accO hr hP hA hd 0, bd_s, if_pos q, if_neg (by decide), gd_in hr (by decide), nI_clamp (by omega), nI_1, fig (by omega)]
  rfl
theorem ax2 {O : Nat → Nat} (hO : ∀ j, O j ≤ 5) {F : Nat → Int32} (hF : rq_4 F O) {R d r : Nat} (hR : R ≤ 4) {kd : Int32} {f h : Nat → Int32} (hr : r < R) {o : Nat → Nat} (hP : PI O r o) (hA : Ax r f o) (hd : d < 127) (q : okI O r o d = true) : fX6_accepts (nI d) 2 (nI r) kd (nI R) F f h = some (1, 2, nI (r + 1), kd, nI R, F, upd f r (nI (d - 48)), h) := by
  have q2 := of_decide_eq_true q
  have hO' := hO r
  unfold fX6_accepts fX6_acceptsInner
  rw [if_neg (by decide), if_neg (by decide), if_pos rfl, if_neg (show ¬ nI d = 58 from fun e => by have := (nI_eq (b := 58) (by omega) (by decide)).mp e; omega), if_neg (nI_ge hr (by omega)), accI hO hF (by omega) hP hA hd, bd_s, if_pos q, if_neg (by decide), gd_in (show r < 4 by omega) (by decide), nI_clamp (by omega), nI_1, fig (by omega)]
  rfl
theorem ax3 {d r : Nat} {kd rw2 : Int32} {f g h : Nat → Int32} (hr : r < 4) {o : Nat → Nat} (hd : d < 127) (q : okC r o d = true) : fX6_accepts (nI d) 3 (nI r) kd rw2 f g h = some (1, 3, nI (r + 1), kd, rw2, f, g, upd h r (nI (d - 48))) := by
  have q2 := of_decide_eq_true q
  have w := (fig_c d hd 0 (by decide) 9 (by decide)).mpr (by omega)
  unfold fX6_accepts fX6_acceptsContent
  rw [if_neg (by decide), if_neg (by decide), if_neg (by decide), if_neg (show ¬ 4 ≤ nI r from nI_ge (b := 4) hr (by decide)), if_neg (show ¬ nI d - 48 < 0 from w.1), if_pos (show nI d - 48 ≤ 9 from Int32.not_lt.mp w.2), gd_in hr (by decide), nI_clamp (by omega), nI_1, fig (by omega)]
  rfl
/-- where a run has ended -/
theorem bx1 {d r : Nat} {kd : Int32} {f g h : Nat → Int32} (hr : r ≤ 4) {o : Nat → Nat} (hP : PO r o) (hA : Ax r f o) (hd : d < 127) (q : r = 0 + 4 ∨ okO r o d = false) : fX6_accepts (nI d) 1 (nI r) kd (nI r) f g h = some (if r = 0 ∨ d ≠ 47 then (0, 1, nI r, kd, nI r, f, g, h) else (1, 2, 0, kd, nI r, f, g, h)) := by
  have tail : fX6_acceptsOuter_J20 1 (nI r) (nI r) f (nI d) () = some (0, 1, nI r, nI r, f) := by
    unfold fX6_acceptsOuter_J20 fX6_acceptsOuter_J48
    by_cases h4 : r = 4
    · rw [if_pos (show 4 ≤ nI r by rw [h4]; decide)]
    · rw [if_neg (show ¬ 4 ≤ nI r from nI_ge (b := 4) (by omega) (by decide)), accO (by omega) hP hA hd 0, bd_s, if_neg (show ¬ okO r o d = true by rcases q with q | q; omega; rw [q]; decide), if_pos rfl]
  unfold fX6_accepts fX6_acceptsOuter
  rw [if_neg (by decide), if_pos rfl, tail]
  by_cases c : d = 47
  · rw [if_pos (show nI d = 47 by rw [c]; rfl)]
    by_cases c0 : r = 0
    · rw [if_pos (show nI r ≤ 0 by rw [c0]; decide), if_pos (Or.inl c0)]; rfl
    · rw [if_neg (nI_nle (by omega) (by omega)), if_neg (by omega)]; rfl
  · rw [if_neg (show ¬ nI d = 47 from fun e => c ((nI_eq (b := 47) (by omega) (by decide)).mp e)), if_pos (Or.inr c)]; rfl
theorem bx2 {O : Nat → Nat} (hO : ∀ j, O j ≤ 5) {F : Nat → Int32} (hF : rq_4 F O) {R d r : Nat} (hR : R ≤ 4) {kd : Int32} {f h : Nat → Int32} (hr : r ≤ R) {o : Nat → Nat} (hP : PI O r o) (hA : Ax r f o) (hd : d < 127) (q : r = 0 + R ∨ okI O r o d = false) : fX6_accepts (nI d) 2 (nI r) kd (nI R) F f h = some (if d ≠ 58 then (0, 2, nI r, kd, nI R, F, f, h) else (1, 3, 0, kd, nI R, F, f, h)) := by
  unfold fX6_accepts fX6_acceptsInner fX6_acceptsInner_J47
  rw [if_neg (by decide), if_neg (by decide), if_pos rfl]
  by_cases c : d = 58
  · rw [if_pos (show nI d = 58 by rw [c]; rfl), if_neg (fun e => e c)]; rfl
  · rw [if_neg (show ¬ nI d = 58 from fun e => c ((nI_eq (b := 58) (by omega) (by decide)).mp e)), if_pos c]
    by_cases h4 : r = R
    · rw [if_pos (nI_le (by omega) (by omega))]; rfl
    · rw [if_neg (nI_ge (show r < R by omega) (by omega)), accI hO hF (by omega) hP hA hd, bd_s, if_neg (show ¬ okI O r o d = true by rcases q with q | q; omega; rw [q]; decide), if_pos rfl]; rfl
theorem bx3 {d r : Nat} {kd rw2 : Int32} {f g h : Nat → Int32} (hr : r ≤ 4) {o : Nat → Nat} (hd : d < 127) (q : r = 0 + 4 ∨ okC r o d = false) : fX6_accepts (nI d) 3 (nI r) kd rw2 f g h = some (0, 3, nI r, kd, rw2, f, g, h) := by
  unfold fX6_accepts fX6_acceptsContent fX6_acceptsContent_J23
  rw [if_neg (by decide), if_neg (by decide), if_neg (by decide)]
  by_cases h4 : r = 4
  · rw [if_pos (show 4 ≤ nI r by rw [h4]; decide)]; rfl
  · have q : ¬ (48 ≤ d ∧ d ≤ 57) := by
      rcases q with q | q
      · omega
      · exact of_decide_eq_false q
    have w := fig_c d hd 0 (by decide) 9 (by decide)
    rw [if_neg (show ¬ 4 ≤ nI r from nI_ge (b := 4) (by omega) (by decide))]
    by_cases c1 : nI d - 48 < 0
    · rw [if_pos c1]; rfl
    · rw [if_neg c1, if_neg (fun c2 => q (by have := w.mp ⟨c1, Int32.not_lt.mpr c2⟩; omega))]; rfl
theorem PO_5 {r : Nat} {o : Nat → Nat} (h : PO r o) (j : Nat) : o j ≤ 5 := by
  by_cases q : j < r
  · exact (h.1 j q).2
  · rw [h.2.2 j (by omega)]; omega
theorem getD_len (pg : List Nat) : pg.getD pg.length 0 = 0 := by rw [List.getD_eq_getElem?_getD, List.getElem?_eq_none (Nat.le_refl _)]; rfl
theorem fill_z (f : Nat → Int32) : rq_4 (fill_f f 4 0) (fun _ => 0) := by
  intro j hj
  unfold fill_f
  rw [if_pos hj]; rfl
/-- what a reading by the class shows -/
def XR (pg : List Nat) (r : Option (Int32 × Int32 × Int32 × Int32 × Int32 × (Nat → Int32) × (Nat → Int32) × (Nat → Int32))) : Prop := ∃ (st dg kd rw2 : Int32) (f g h : Nat → Int32), r = some (nI (rdP pg), st, dg, kd, rw2, f, g, h) ∧ ((rdW pg ∧ rdP pg = pg.length ∧ st = 3 ∧ ¬ dg ≤ 0 ∧ kd = nI (bK (rdB pg)) ∧ rw2 = nI (bR (rdB pg)) ∧ rq_4 f (bo (rdB pg)) ∧ rq_4 g (bi (rdB pg)) ∧ rq_4 h (bc (rdB pg))) ∨ (¬ rdW pg ∧ (nI (rdP pg) ≠ nI pg.length ∨ st ≠ 3 ∨ dg ≤ 0)))
theorem XR3 {pg : List Nat} (hpg : pgOK pg) {page : Nat → Int32} (hag : agr page pg) (k5 : kfn (pg.getD 0 0) ≠ 5) (hR : (rq1 pg).2.1 ≠ 0) (hs : pg.getD (rq1 pg).1 0 = 47) (hc : pg.getD (rq2 pg).1 0 = 58) {n : Nat} (hn : 10 < n) {F G H : Nat → Int32} (hF : rq_4 F (rq1 pg).2.2) (hG : rq_4 G (rq2 pg).2.2) (hH : rq_4 H (fun _ => 0)) : XR pg (fX6_readFrom_L14 page (nI pg.length) n (nI ((rq2 pg).1 + 1)) 3 0 (nI (kfn (pg.getD 0 0))) (nI (rq1 pg).2.1) F G H) := by
  have hk : (rq2 pg).1 < pg.length := getD_lt (by rw [hc]; decide)
  obtain ⟨n1, f1, a1, a2, a3, a4, a5, a6⟩ := rdG_run (fun n k r f => fX6_readFrom_L14 page (nI pg.length) n (nI k) 3 (nI r) (nI (kfn (pg.getD 0 0))) (nI (rq1 pg).2.1) F G f) okC pg 4 PC Ax okC_0 (fun n k r f o hr hk hp ha q => rdX_y hpg hag hk (ax3 hr (pg_d hpg k) q)) (fun r f o v _ h => Ax_s r f o v h) (fun r o d _ h q => PC_s r o d h q) 4 ((rq2 pg).1 + 1) 0 n H (fun _ => 0) (by omega) (by omega) (by omega) PC_0 hH
  have blk := rdG_blk okC pg 4 ((rq2 pg).1 + 1) 0 (fun _ => 0)
  change Ax (rq3 pg).2.1 f1 (rq3 pg).2.2 at a2
  change (rq3 pg).1 ≤ pg.length at a4
  change (rq3 pg).2.1 ≤ 4 at a5
  change fX6_readFrom_L14 page (nI pg.length) n (nI ((rq2 pg).1 + 1)) 3 0 (nI (kfn (pg.getD 0 0))) (nI (rq1 pg).2.1) F G H = fX6_readFrom_L14 page (nI pg.length) n1 (nI (rq3 pg).1) 3 (nI (rq3 pg).2.1) (nI (kfn (pg.getD 0 0))) (nI (rq1 pg).2.1) F G f1 at a6
  change (rq3 pg).2.1 = 0 + 4 ∨ okC (rq3 pg).2.1 (rq3 pg).2.2 (pg.getD (rq3 pg).1 0) = false at blk
  rw [a6]
  obtain ⟨n1, rfl, -⟩ := fuel (show 0 < n1 by omega)
  have hP : rdP pg = (rq3 pg).1 := by
    unfold rdP
    rw [if_neg k5, if_neg (by rw [hs]; simp [hR]), if_neg (by rw [hc]; simp)]
  by_cases hl : (rq3 pg).1 = pg.length
  · refine ⟨3, nI (rq3 pg).2.1, nI (kfn (pg.getD 0 0)), nI (rq1 pg).2.1, F, G, f1, by rw [rdX_e hpg hl, hP, hl], ?_⟩
    by_cases h0 : (rq3 pg).2.1 = 0
    · exact Or.inr ⟨fun w => absurd h0 (by have := w.2.2.2.2.1; omega), Or.inr (Or.inr (by rw [h0]; decide))⟩
    · exact Or.inl ⟨⟨k5, hR, hs, hc, by omega, hl⟩, by rw [hP, hl], rfl, nI_nle (by omega) (by omega), rfl, rfl, hF, hG, a2⟩
  · refine ⟨3, nI (rq3 pg).2.1, nI (kfn (pg.getD 0 0)), nI (rq1 pg).2.1, F, G, f1, by rw [rdX_n hpg hag (by omega) (bx3 a5 (pg_d hpg _) blk), hP], Or.inr ⟨fun w => hl w.2.2.2.2.2, Or.inl (by rw [hP]; have h20 := hpg.1; exact fun e => hl ((nI_eq (by omega) (by omega)).mp e))⟩⟩
theorem XR2 {pg : List Nat} (hpg : pgOK pg) {page : Nat → Int32} (hag : agr page pg) (k5 : kfn (pg.getD 0 0) ≠ 5) (hPO : PO (rq1 pg).2.1 (rq1 pg).2.2) (hR4 : (rq1 pg).2.1 ≤ 4) (hR : (rq1 pg).2.1 ≠ 0) (hs : pg.getD (rq1 pg).1 0 = 47) {n : Nat} (hn : 20 < n) {F G H : Nat → Int32} (hF : rq_4 F (rq1 pg).2.2) (hG : rq_4 G (fun _ => 0)) (hH : rq_4 H (fun _ => 0)) : XR pg (fX6_readFrom_L14 page (nI pg.length) n (nI ((rq1 pg).1 + 1)) 2 0 (nI (kfn (pg.getD 0 0))) (nI (rq1 pg).2.1) F G H) := by
  have hk : (rq1 pg).1 < pg.length := getD_lt (by rw [hs]; decide)
  obtain ⟨n1, f1, a1, a2, a3, a4, a5, a6⟩ := rdG_run (fun n k r f => fX6_readFrom_L14 page (nI pg.length) n (nI k) 2 (nI r) (nI (kfn (pg.getD 0 0))) (nI (rq1 pg).2.1) F f H) (okI (rq1 pg).2.2) pg (rq1 pg).2.1 (PI (rq1 pg).2.2) Ax (okI_0 (rq1 pg).2.2) (fun n k r f o hr hk hp ha q => rdX_y hpg hag hk (ax2 (PO_5 hPO) hF hR4 hr hp ha (pg_d hpg k) q)) (fun r f o v _ h => Ax_s r f o v h) (fun r o d hr h q => PI_s (rq1 pg).2.2 r o d (by omega) h q) (rq1 pg).2.1 ((rq1 pg).1 + 1) 0 n G (fun _ => 0) (by omega) (by omega) (by omega) (PI_0 (rq1 pg).2.2) hG
  have blk := rdG_blk (okI (rq1 pg).2.2) pg (rq1 pg).2.1 ((rq1 pg).1 + 1) 0 (fun _ => 0)
  change Ax (rq2 pg).2.1 f1 (rq2 pg).2.2 at a2
  change PI (rq1 pg).2.2 (rq2 pg).2.1 (rq2 pg).2.2 at a3
  change (rq2 pg).1 ≤ pg.length at a4
  change (rq2 pg).2.1 ≤ (rq1 pg).2.1 at a5
  change fX6_readFrom_L14 page (nI pg.length) n (nI ((rq1 pg).1 + 1)) 2 0 (nI (kfn (pg.getD 0 0))) (nI (rq1 pg).2.1) F G H = fX6_readFrom_L14 page (nI pg.length) n1 (nI (rq2 pg).1) 2 (nI (rq2 pg).2.1) (nI (kfn (pg.getD 0 0))) (nI (rq1 pg).2.1) F f1 H at a6
  change (rq2 pg).2.1 = 0 + (rq1 pg).2.1 ∨ okI (rq1 pg).2.2 (rq2 pg).2.1 (rq2 pg).2.2 (pg.getD (rq2 pg).1 0) = false at blk
  rw [a6]
  obtain ⟨n1, rfl, hn1⟩ := fuel (show 15 < n1 by omega)
  by_cases hc : pg.getD (rq2 pg).1 0 = 58
  · have hk2 : (rq2 pg).1 < pg.length := getD_lt (by rw [hc]; decide)
    have b := bx2 (PO_5 hPO) hF (kd := nI (kfn (pg.getD 0 0))) (h := H) hR4 a5 a3 a2 (pg_d hpg _) blk
    rw [if_neg (fun e => e hc)] at b
    rw [rdX_y hpg hag hk2 b]
    exact XR3 hpg hag k5 hR hs hc (by omega) hF a2 hH
  · have hP : rdP pg = (rq2 pg).1 := by
      unfold rdP
      rw [if_neg k5, if_neg (by rw [hs]; simp [hR]), if_pos hc]
    by_cases hl : (rq2 pg).1 = pg.length
    · exact ⟨2, nI (rq2 pg).2.1, nI (kfn (pg.getD 0 0)), nI (rq1 pg).2.1, F, f1, H, by rw [rdX_e hpg hl, hP, hl], Or.inr ⟨fun w => hc w.2.2.2.1, Or.inr (Or.inl (by decide))⟩⟩
    · have b := bx2 (PO_5 hPO) hF (kd := nI (kfn (pg.getD 0 0))) (h := H) hR4 a5 a3 a2 (pg_d hpg _) blk
      rw [if_pos hc] at b
      exact ⟨2, nI (rq2 pg).2.1, nI (kfn (pg.getD 0 0)), nI (rq1 pg).2.1, F, f1, H, by rw [rdX_n hpg hag (by omega) b, hP], Or.inr ⟨fun w => hc w.2.2.2.1, Or.inr (Or.inl (by decide))⟩⟩
theorem XR1 {pg : List Nat} (hpg : pgOK pg) {page : Nat → Int32} (hag : agr page pg) (k5 : kfn (pg.getD 0 0) ≠ 5) {n : Nat} (hn : 40 < n) {F G H : Nat → Int32} (hF : rq_4 F (fun _ => 0)) (hG : rq_4 G (fun _ => 0)) (hH : rq_4 H (fun _ => 0)) : XR pg (fX6_readFrom_L14 page (nI pg.length) n (nI 1) 1 0 (nI (kfn (pg.getD 0 0))) 0 F G H) := by
  have hk : 0 < pg.length := getD_lt (fun e => by rw [e] at k5; exact k5 rfl)
  obtain ⟨n1, f1, a1, a2, a3, a4, a5, a6⟩ := rdG_run (fun n k r f => fX6_readFrom_L14 page (nI pg.length) n (nI k) 1 (nI r) (nI (kfn (pg.getD 0 0))) (nI r) f G H) okO pg 4 PO Ax okO_0 (fun n k r f o hr hk hp ha q => rdX_y hpg hag hk (ax1 hr hp ha (pg_d hpg k) q)) (fun r f o v _ h => Ax_s r f o v h) PO_s 4 1 0 n F (fun _ => 0) (by omega) (by omega) (by omega) PO_0 hF
  have blk := rdG_blk okO pg 4 1 0 (fun _ => 0)
  change Ax (rq1 pg).2.1 f1 (rq1 pg).2.2 at a2
  change PO (rq1 pg).2.1 (rq1 pg).2.2 at a3
  change (rq1 pg).1 ≤ pg.length at a4
  change (rq1 pg).2.1 ≤ 4 at a5
  change fX6_readFrom_L14 page (nI pg.length) n (nI 1) 1 0 (nI (kfn (pg.getD 0 0))) 0 F G H = fX6_readFrom_L14 page (nI pg.length) n1 (nI (rq1 pg).1) 1 (nI (rq1 pg).2.1) (nI (kfn (pg.getD 0 0))) (nI (rq1 pg).2.1) f1 G H at a6
  change (rq1 pg).2.1 = 0 + 4 ∨ okO (rq1 pg).2.1 (rq1 pg).2.2 (pg.getD (rq1 pg).1 0) = false at blk
  rw [a6]
  obtain ⟨n1, rfl, hn1⟩ := fuel (show 30 < n1 by omega)
  have b := bx1 (kd := nI (kfn (pg.getD 0 0))) (g := G) (h := H) a5 a3 a2 (pg_d hpg _) blk
  by_cases hc : (rq1 pg).2.1 = 0 ∨ pg.getD (rq1 pg).1 0 ≠ 47
  · have hP : rdP pg = (rq1 pg).1 := by
      unfold rdP
      rw [if_neg k5, if_pos hc]
    have hW : ¬ rdW pg := fun w => by
      rcases hc with h | h
      · exact w.2.1 h
      · exact h w.2.2.1
    by_cases hl : (rq1 pg).1 = pg.length
    · exact ⟨1, nI (rq1 pg).2.1, nI (kfn (pg.getD 0 0)), nI (rq1 pg).2.1, f1, G, H, by rw [rdX_e hpg hl, hP, hl], Or.inr ⟨hW, Or.inr (Or.inl (by decide))⟩⟩
    · rw [if_pos hc] at b
      exact ⟨1, nI (rq1 pg).2.1, nI (kfn (pg.getD 0 0)), nI (rq1 pg).2.1, f1, G, H, by rw [rdX_n hpg hag (by omega) b, hP], Or.inr ⟨hW, Or.inr (Or.inl (by decide))⟩⟩
  · rw [if_neg hc] at b
    have hs : pg.getD (rq1 pg).1 0 = 47 := Classical.byContradiction (fun h => hc (Or.inr h))
    have hR : (rq1 pg).2.1 ≠ 0 := fun h => hc (Or.inl h)
    have hk2 : (rq1 pg).1 < pg.length := getD_lt (by rw [hs]; decide)
    rw [rdX_y hpg hag hk2 b]
    exact XR2 hpg hag k5 a3 a5 hR hs (by omega) a2 hG hH
theorem rdX {pg : List Nat} (hpg : pgOK pg) {page : Nat → Int32} (hag : agr page pg) (f0 g0 h0 : Nat → Int32) : XR pg (fX6_readFrom f0 g0 h0 page (nI pg.length)) := by
  have e0 : fX6_readFrom f0 g0 h0 page (nI pg.length) = fX6_readFrom_L14 page (nI pg.length) fu (nI 0) 0 0 0 0 (fill_f f0 4 0) (fill_f g0 4 0) (fill_f h0 4 0) := by
    unfold fX6_readFrom fX4_clear fX6_enter
    rw [bd_s, bd_s]
    rfl
  obtain ⟨m, hm, hm2⟩ : ∃ m, fu = m + 1 ∧ 40 < m := ⟨fu - 1, by unfold fu; omega, by unfold fu; omega⟩
  rw [e0, hm]
  by_cases hl0 : pg.length = 0
  · have d0 : pg.getD 0 0 = 0 := by have := getD_len pg; rw [hl0] at this; exact this
    have p0 : rdP pg = 0 := by unfold rdP; rw [d0]; rfl
    exact ⟨0, 0, 0, 0, fill_f f0 4 0, fill_f g0 4 0, fill_f h0 4 0, by rw [rdX_e hpg hl0.symm, p0, hl0], Or.inr ⟨fun h => h.1 (by rw [d0]; rfl), Or.inr (Or.inl (by decide))⟩⟩
  · have hK := kfn_X _ (pg_d hpg 0)
    by_cases k5 : kfn (pg.getD 0 0) = 5
    · have p0 : rdP pg = 0 := by unfold rdP; rw [if_pos k5]
      have ea : fX6_accepts (nI (pg.getD 0 0)) 0 0 0 0 (fill_f f0 4 0) (fill_f g0 4 0) (fill_f h0 4 0) = some (0, 0, 0, 0, 0, fill_f f0 4 0, fill_f g0 4 0, fill_f h0 4 0) := by
        unfold fX6_accepts fX6_acceptsRule
        rw [if_pos rfl, hK, if_pos k5]; rfl
      exact ⟨0, 0, 0, 0, fill_f f0 4 0, fill_f g0 4 0, fill_f h0 4 0, by rw [rdX_n hpg hag (by omega) ea, p0], Or.inr ⟨fun h => h.1 k5, Or.inr (Or.inl (by decide))⟩⟩
    · have kle := kfn_le (pg.getD 0 0)
      have ea : fX6_accepts (nI (pg.getD 0 0)) 0 0 0 0 (fill_f f0 4 0) (fill_f g0 4 0) (fill_f h0 4 0) = some (1, 1, 0, nI (kfn (pg.getD 0 0)), 0, fill_f f0 4 0, fill_f g0 4 0, fill_f h0 4 0) := by
        unfold fX6_accepts fX6_acceptsRule fX6_enter
        rw [if_pos rfl, hK, if_neg k5, bd_s, if_pos (show (0 : Int32) ≤ nI (kfn (pg.getD 0 0)) from nI_le (a := 0) (by omega) (by omega))]; rfl
      rw [rdX_y hpg hag (by omega) ea]
      exact XR1 hpg hag k5 hm2 (fill_z f0) (fill_z g0) (fill_z h0)
