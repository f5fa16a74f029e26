/-! the reference's reader -/
theorem w_fig0 {d b : Nat} (hd : d < 127) (hb : b < 10) : fX8_within (nI d - 48) 0 (nI b) = some (if 48 + 0 ≤ d ∧ d ≤ 48 + b then 1 else 0) := w_fig hd (by decide) hb
theorem w_fig9 {d : Nat} (hd : d < 127) : fX8_within (nI d - 48) 0 9 = some (if 48 + 0 ≤ d ∧ d ≤ 48 + 9 then 1 else 0) := w_fig hd (by decide) (show 9 < 10 by decide)
theorem ro_s {pg : List Nat} (hpg : pgOK pg) {page : Nat → Int32} (hag : agr page pg) {n k r : Nat} (hk : k ≤ pg.length) (hr : r < 4) {f : Nat → Int32} {o : Nat → Nat} (hP : PO r o) (hA : Am r f o) (k79 : Int32 → Int32 → (Nat → Int32) → Option (Int32 × Int32 × (Nat → Int32))) : fX8_readOuter_L7 (nI pg.length) page k79 (n + 1) (nI k) (nI r) f = if okO r o (pg.getD k 0) = true then fX8_readOuter_L7 (nI pg.length) page k79 n (nI (k + 1)) (nI (r + 1)) (upd f r (nI (pg.getD k 0 - 48))) else k79 (nI k) (nI r) f := by
  have h20 := hpg.1
  have hd := pg_d hpg k
  have J : ∀ b : Nat, b < 10 → (okO r o (pg.getD k 0) = true ↔ (48 + 1 ≤ pg.getD k 0 ∧ pg.getD k 0 ≤ 48 + b)) → fX8_readOuter_J43 (nI pg.length) page (nI k) (nI r) f (nI (pg.getD k 0) - 48) k79 (fX8_readOuter_L7 (nI pg.length) page k79 n) (nI b) = if okO r o (pg.getD k 0) = true then fX8_readOuter_L7 (nI pg.length) page k79 n (nI (k + 1)) (nI (r + 1)) (upd f r (nI (pg.getD k 0 - 48))) else k79 (nI k) (nI r) f := by
    intro b hb q
    unfold fX8_readOuter_J43
    rw [lit_1, w_fig hd (by decide) hb, bd_s]
    by_cases c : okO r o (pg.getD k 0) = true
    · rw [if_pos (q.mp c), if_neg (by decide), if_pos c, f_figure hpg hag (by omega), bd_s, gd_in hr (by decide), nI_add, nI_add, nI_clamp (by omega), fig (by have := (q.mp c).1; omega)]
    · rw [if_neg (fun e => c (q.mpr e)), if_pos rfl, if_neg c]
  rw [fX8_readOuter_L7, if_neg (show ¬ 4 ≤ nI r from nI_ge (b := 4) hr (by decide)), f_figure hpg hag (by omega), bd_s]
  by_cases h0 : r = 0
  · rw [if_pos (show nI r = 0 by rw [h0]; rfl), lit_5]
    exact J 5 (by decide) (by unfold okO; rw [decide_eq_true_iff, if_pos h0])
  · rw [if_neg (nI_ne0 (by omega) (by omega)), lit_1, nI_sub (by omega), gd_in (show r - 1 < 4 by omega) (by decide), nI_clamp (by omega), hA (r - 1) (by omega)]
    exact J (o (r - 1)) (by have := hP.1 (r - 1) (by omega); omega) (by unfold okO; rw [decide_eq_true_iff, if_neg h0])
theorem MR1 {pg : List Nat} (hpg : pgOK pg) {page : Nat → Int32} (hag : agr page pg) (hl : 0 < pg.length) (f0 : Nat → Int32) : ∃ f, Am (rq1 pg).2.1 f (rq1 pg).2.2 ∧ PO (rq1 pg).2.1 (rq1 pg).2.2 ∧ (rq1 pg).1 ≤ pg.length ∧ (rq1 pg).2.1 ≤ 4 ∧ fX8_readOuter 1 (nI pg.length) page f0 = some (nI (rq1 pg).1, nI (rq1 pg).2.1, f) := by
  obtain ⟨n1, f1, a1, a2, a3, a4, a5, a6⟩ := rdG_run (fun n k r f => fX8_readOuter_L7 (nI pg.length) page fX8_readOuter_J79 n (nI k) (nI r) f) okO pg 4 PO Am okO_0 (fun n k r f o hr hk hp ha q => (ro_s hpg hag (by omega) hr hp ha _).trans (if_pos q)) (fun r f o v _ h => Am_s r f o v h) PO_s 4 1 0 fu f0 (fun _ => 0) (by omega) (by unfold fu; omega) (by omega) PO_0 (Am_0 f0 _)
  have blk := rdG_blk okO pg 4 1 0 (fun _ => 0)
  change Am (rq1 pg).2.1 f1 (rq1 pg).2.2 at a2
  change PO (rq1 pg).2.1 (rq1 pg).2.2 at a3
  change (rq1 pg).1 ≤ pg.length at a4
  change (rq1 pg).2.1 ≤ 4 at a5
  change fX8_readOuter 1 (nI pg.length) page f0 = fX8_readOuter_L7 (nI pg.length) page fX8_readOuter_J79 n1 (nI (rq1 pg).1) (nI (rq1 pg).2.1) f1 at a6
  change (rq1 pg).2.1 = 0 + 4 ∨ okO (rq1 pg).2.1 (rq1 pg).2.2 (pg.getD (rq1 pg).1 0) = false at blk
  obtain ⟨n1, rfl, -⟩ := fuel (show 0 < n1 by unfold fu at a1; omega)
  refine ⟨f1, a2, a3, a4, a5, a6.trans ?_⟩
  by_cases h4 : (rq1 pg).2.1 = 4
  · rw [fX8_readOuter_L7, if_pos (show 4 ≤ nI (rq1 pg).2.1 by rw [h4]; decide)]; rfl
  · rw [ro_s hpg hag a4 (by omega) a3 a2, if_neg (by rcases blk with q | q; omega; rw [q]; decide)]; rfl
theorem ri_s {pg : List Nat} (hpg : pgOK pg) {page : Nat → Int32} (hag : agr page pg) {R : Nat} (hR : R ≤ 4) {O : Nat → Nat} (hO : ∀ j, O j ≤ 5) {F : Nat → Int32} (hF : Am R F O) {n k r : Nat} (hk : k ≤ pg.length) (hr : r < R) {f : Nat → Int32} {o : Nat → Nat} (hP : PI O r o) (hA : Am r f o) (k98 : Int32 → Int32 → (Nat → Int32) → Option (Int32 × (Nat → Int32))) : fX8_readInner_L7 (nI pg.length) page (nI R) F k98 (n + 1) (nI k) (nI r) 1 f = if okI O r o (pg.getD k 0) = true then fX8_readInner_L7 (nI pg.length) page (nI R) F k98 n (nI (k + 1)) (nI (r + 1)) 1 (upd f r (nI (pg.getD k 0 - 48))) else fX8_readInner_L7 (nI pg.length) page (nI R) F k98 n (nI k) (nI r) 0 f := by
  have h20 := hpg.1
  have hd := pg_d hpg k
  have J : ∀ b : Nat, b < 10 → (okI O r o (pg.getD k 0) = true ↔ (48 + 0 ≤ pg.getD k 0 ∧ pg.getD k 0 ≤ 48 + b)) → fX8_readInner_J58 (nI pg.length) page (nI k) (nI r) f (fX8_readInner_L7 (nI pg.length) page (nI R) F k98 n) (nI b) = if okI O r o (pg.getD k 0) = true then fX8_readInner_L7 (nI pg.length) page (nI R) F k98 n (nI (k + 1)) (nI (r + 1)) 1 (upd f r (nI (pg.getD k 0 - 48))) else fX8_readInner_L7 (nI pg.length) page (nI R) F k98 n (nI k) (nI r) 0 f := by
    intro b hb q
    unfold fX8_readInner_J58 fX8_readInner_J95
    rw [f_figure hpg hag (by omega), bd_s, w_fig0 hd hb, bd_s]
    by_cases c : okI O r o (pg.getD k 0) = true
    · rw [if_pos (q.mp c), if_neg (by decide), if_pos c, bd_s, gd_in (show r < 4 by omega) (by decide), nI_1, nI_1, nI_clamp (by omega), fig (by have := (q.mp c).1; omega)]
    · rw [if_neg (fun e => c (q.mpr e)), if_pos rfl, if_neg c]
  have O5 := hO r
  rw [fX8_readInner_L7, if_neg (nI_ge hr (by omega)), if_neg (by decide)]
  unfold fX8_readInner_J52
  by_cases h0 : r = 0
  · rw [if_pos (show nI r ≤ 0 by rw [h0]; decide), gd_in (show r < 4 by omega) (by decide), nI_clamp (by omega), hF r hr]
    refine J (O r) (by omega) ?_
    unfold okI
    rw [decide_eq_true_iff, if_pos h0]
    omega
  · have o5 := (hP.1 (r - 1) (by omega)).2
    rw [if_neg (nI_nle (by omega) (by omega)), show nI r - 1 = nI (r - 1) by rw [lit_1, nI_sub (by omega)], gd_in (show r - 1 < 4 by omega) (by decide), gd_in (show r < 4 by omega) (by decide), gd_in (show r < 4 by omega) (by decide), nI_clamp (by omega), nI_clamp (by omega), hF r hr, hA (r - 1) (by omega)]
    by_cases c : O r ≤ o (r - 1)
    · rw [if_pos (nI_le c (by omega))]
      refine J (O r) (by omega) ?_
      unfold okI
      rw [decide_eq_true_iff, if_neg h0]
      omega
    · rw [if_neg (nI_ge (by omega) (by omega))]
      refine J (o (r - 1)) (by omega) ?_
      unfold okI
      rw [decide_eq_true_iff, if_neg h0]
      omega
theorem zf (x : Int32) : ∀ (m r n : Nat) (f : Nat → Int32), r + m = 4 → m < n → ∃ f2, (∀ j, j < r → f2 j = f j) ∧ (∀ j, r ≤ j → j < 4 → f2 j = 0) ∧ fX8_readInner_L101 x n (nI r) f = some (x, f2) := by
  intro m
  induction m with
  | zero =>
    intro r n f h hn
    obtain ⟨n, rfl, -⟩ := fuel hn
    have e : r = 4 := by omega
    subst e
    exact ⟨f, fun _ _ => rfl, fun j h1 h2 => by omega, by rw [fX8_readInner_L101, if_pos (by decide)]⟩
  | succ m ih =>
    intro r n f h hn
    obtain ⟨n, rfl, h2⟩ := fuel hn
    obtain ⟨f2, a, b, c⟩ := ih (r + 1) n (upd f r 0) (by omega) (by omega)
    refine ⟨f2, fun j hj => ?_, fun j h1 h2 => ?_, ?_⟩
    · rw [a j (by omega), pk_un (by omega)]
    · by_cases e : j = r
      · rw [a j (by omega), e, pk_us]
      · exact b j (by omega) h2
    · rw [fX8_readInner_L101, if_neg (show ¬ 4 ≤ nI r from nI_ge (b := 4) (by omega) (by decide)), gd_in (show r < 4 by omega) (by decide), nI_1, nI_clamp (by omega)]
      exact c
theorem MR2 {pg : List Nat} (hpg : pgOK pg) {page : Nat → Int32} (hag : agr page pg) (hs : pg.getD (rq1 pg).1 0 = 47) (hPO : PO (rq1 pg).2.1 (rq1 pg).2.2) (hR4 : (rq1 pg).2.1 ≤ 4) {F : Nat → Int32} (hF : Am (rq1 pg).2.1 F (rq1 pg).2.2) (f0 : Nat → Int32) : ∃ f, rq_4 f (rq2 pg).2.2 ∧ PI (rq1 pg).2.2 (rq2 pg).2.1 (rq2 pg).2.2 ∧ (rq2 pg).1 ≤ pg.length ∧ (rq2 pg).2.1 ≤ (rq1 pg).2.1 ∧ fX8_readInner (nI ((rq1 pg).1 + 1)) (nI pg.length) page (nI (rq1 pg).2.1) F f0 = some (nI (rq2 pg).1, f) := by
  have hk : (rq1 pg).1 < pg.length := getD_lt (by rw [hs]; decide)
  obtain ⟨n1, f1, a1, a2, a3, a4, a5, a6⟩ := rdG_run (fun n k r f => fX8_readInner_L7 (nI pg.length) page (nI (rq1 pg).2.1) F fX8_readInner_J98 n (nI k) (nI r) 1 f) (okI (rq1 pg).2.2) pg (rq1 pg).2.1 (PI (rq1 pg).2.2) Am (okI_0 (rq1 pg).2.2) (fun n k r f o hr hk hp ha q => (ri_s hpg hag hR4 (PO_5 hPO) hF (by omega) hr hp ha _).trans (if_pos q)) (fun r f o v _ h => Am_s r f o v h) (fun r o d hr h q => PI_s (rq1 pg).2.2 r o d (by omega) h q) (rq1 pg).2.1 ((rq1 pg).1 + 1) 0 fu f0 (fun _ => 0) (by omega) (by unfold fu; omega) (by omega) (PI_0 (rq1 pg).2.2) (Am_0 f0 _)
  have blk := rdG_blk (okI (rq1 pg).2.2) pg (rq1 pg).2.1 ((rq1 pg).1 + 1) 0 (fun _ => 0)
  change Am (rq2 pg).2.1 f1 (rq2 pg).2.2 at a2
  change PI (rq1 pg).2.2 (rq2 pg).2.1 (rq2 pg).2.2 at a3
  change (rq2 pg).1 ≤ pg.length at a4
  change (rq2 pg).2.1 ≤ (rq1 pg).2.1 at a5
  change fX8_readInner (nI ((rq1 pg).1 + 1)) (nI pg.length) page (nI (rq1 pg).2.1) F f0 = fX8_readInner_L7 (nI pg.length) page (nI (rq1 pg).2.1) F fX8_readInner_J98 n1 (nI (rq2 pg).1) (nI (rq2 pg).2.1) 1 f1 at a6
  change (rq2 pg).2.1 = 0 + (rq1 pg).2.1 ∨ okI (rq1 pg).2.2 (rq2 pg).2.1 (rq2 pg).2.2 (pg.getD (rq2 pg).1 0) = false at blk
  obtain ⟨f2, b1, b2, b3⟩ := zf (nI (rq2 pg).1) (4 - (rq2 pg).2.1) (rq2 pg).2.1 fu f1 (by omega) (by unfold fu; omega)
  refine ⟨f2, fun j hj => ?_, a3, a4, a5, a6.trans ?_⟩
  · by_cases q : j < (rq2 pg).2.1
    · rw [b1 j q, a2 j q]
    · rw [b2 j (by omega) hj, a3.2.2 j (by omega)]; rfl
  · obtain ⟨n1, rfl, hn1⟩ := fuel (show 1 < n1 by unfold fu at a1; omega)
    by_cases h4 : (rq2 pg).2.1 = (rq1 pg).2.1
    · rw [fX8_readInner_L7, if_pos (nI_le (by omega) (by omega))]
      exact b3
    · rw [ri_s hpg hag hR4 (PO_5 hPO) hF a4 (by omega) a3 a2, if_neg (by rcases blk with q | q; omega; rw [q]; decide)]
      obtain ⟨n1, rfl, -⟩ := fuel (show 0 < n1 by omega)
      rw [fX8_readInner_L7, if_neg (nI_ge (show (rq2 pg).2.1 < (rq1 pg).2.1 by omega) (by omega)), if_pos rfl]
      exact b3
theorem zc (r8 : Int32 × (Nat → Int32)) (k97 : Int32 → Int32 → (Nat → Int32) → Option (Int32 × Int32 × Int32 × Int32 × (Nat → Int32) × (Nat → Int32) × (Nat → Int32))) : ∀ (m r n : Nat) (f : Nat → Int32), r + m = 4 → m < n → ∃ f2, (∀ j, j < r → f2 j = f j) ∧ (∀ j, r ≤ j → j < 4 → f2 j = 0) ∧ fX8_read_L79 r8 k97 n (nI r) f = k97 (r8.1 + 1) 0 f2 := by
  intro m
  induction m with
  | zero =>
    intro r n f h hn
    obtain ⟨n, rfl, -⟩ := fuel hn
    have e : r = 4 := by omega
    subst e
    exact ⟨f, fun _ _ => rfl, fun j h1 h2 => by omega, by rw [fX8_read_L79, if_pos (by decide)]⟩
  | succ m ih =>
    intro r n f h hn
    obtain ⟨n, rfl, h2⟩ := fuel hn
    obtain ⟨f2, a, b, c⟩ := ih (r + 1) n (upd f r 0) (by omega) (by omega)
    refine ⟨f2, fun j hj => ?_, fun j h1 h2 => ?_, ?_⟩
    · rw [a j (by omega), pk_un (by omega)]
    · by_cases e : j = r
      · rw [a j (by omega), e, pk_us]
      · exact b j (by omega) h2
    · rw [fX8_read_L79, if_neg (show ¬ 4 ≤ nI r from nI_ge (b := 4) (by omega) (by decide)), gd_in (show r < 4 by omega) (by decide), nI_1, nI_clamp (by omega)]
      exact c
theorem rc_s {pg : List Nat} (hpg : pgOK pg) {page : Nat → Int32} (hag : agr page pg) {n k r : Nat} (hk : k ≤ pg.length) (hr : r < 4) {f : Nat → Int32} {o : Nat → Nat} (k136 : Int32 → Int32 → (Nat → Int32) → Option (Int32 × Int32 × Int32 × Int32 × (Nat → Int32) × (Nat → Int32) × (Nat → Int32))) : fX8_read_L97 (nI pg.length) page k136 (n + 1) (nI k) (nI r) f = if okC r o (pg.getD k 0) = true then fX8_read_L97 (nI pg.length) page k136 n (nI (k + 1)) (nI (r + 1)) (upd f r (nI (pg.getD k 0 - 48))) else k136 (nI k) (nI r) f := by
  have h20 := hpg.1
  have hd := pg_d hpg k
  have q : okC r o (pg.getD k 0) = true ↔ (48 + 0 ≤ pg.getD k 0 ∧ pg.getD k 0 ≤ 48 + 9) := by
    unfold okC
    rw [decide_eq_true_iff]
  rw [fX8_read_L97, if_neg (show ¬ 4 ≤ nI r from nI_ge (b := 4) hr (by decide)), f_figure hpg hag (by omega), bd_s, w_fig9 hd, bd_s]
  by_cases c : okC r o (pg.getD k 0) = true
  · rw [if_pos (q.mp c), if_neg (by decide), if_pos c, bd_s, gd_in hr (by decide), nI_1, nI_1, nI_clamp (by omega), fig (by have := (q.mp c).1; omega)]
  · rw [if_neg (fun e => c (q.mpr e)), if_pos rfl, if_neg c]
theorem MR3 {pg : List Nat} (hpg : pgOK pg) {page : Nat → Int32} (hag : agr page pg) (hs : pg.getD (rq2 pg).1 0 = 58) {f0 : Nat → Int32} (hf : rq_4 f0 (fun _ => 0)) (k136 : Int32 → Int32 → (Nat → Int32) → Option (Int32 × Int32 × Int32 × Int32 × (Nat → Int32) × (Nat → Int32) × (Nat → Int32))) : ∃ f, rq_4 f (rq3 pg).2.2 ∧ PC (rq3 pg).2.1 (rq3 pg).2.2 ∧ (rq3 pg).1 ≤ pg.length ∧ (rq3 pg).2.1 ≤ 4 ∧ fX8_read_L97 (nI pg.length) page k136 fu (nI ((rq2 pg).1 + 1)) 0 f0 = k136 (nI (rq3 pg).1) (nI (rq3 pg).2.1) f := by
  have hk : (rq2 pg).1 < pg.length := getD_lt (by rw [hs]; decide)
  obtain ⟨n1, f1, a1, a2, a3, a4, a5, a6⟩ := rdG_run (fun n k r f => fX8_read_L97 (nI pg.length) page k136 n (nI k) (nI r) f) okC pg 4 PC Ax okC_0 (fun n k r f o hr hk hp ha q => (rc_s hpg hag (o := o) (by omega) hr _).trans (if_pos q)) (fun r f o v _ h => Ax_s r f o v h) (fun r o d _ h q => PC_s r o d h q) 4 ((rq2 pg).1 + 1) 0 fu f0 (fun _ => 0) (by omega) (by unfold fu; omega) (by omega) PC_0 hf
  have blk := rdG_blk okC pg 4 ((rq2 pg).1 + 1) 0 (fun _ => 0)
  change Ax (rq3 pg).2.1 f1 (rq3 pg).2.2 at a2
  change PC (rq3 pg).2.1 (rq3 pg).2.2 at a3
  change (rq3 pg).1 ≤ pg.length at a4
  change (rq3 pg).2.1 ≤ 4 at a5
  change fX8_read_L97 (nI pg.length) page k136 fu (nI ((rq2 pg).1 + 1)) 0 f0 = fX8_read_L97 (nI pg.length) page k136 n1 (nI (rq3 pg).1) (nI (rq3 pg).2.1) f1 at a6
  change (rq3 pg).2.1 = 0 + 4 ∨ okC (rq3 pg).2.1 (rq3 pg).2.2 (pg.getD (rq3 pg).1 0) = false at blk
  obtain ⟨n1, rfl, -⟩ := fuel (show 0 < n1 by unfold fu at a1; omega)
  refine ⟨f1, a2, a3, a4, a5, a6.trans ?_⟩
  by_cases h4 : (rq3 pg).2.1 = 4
  · rw [fX8_read_L97, if_pos (show 4 ≤ nI (rq3 pg).2.1 by rw [h4]; decide)]
  · rw [rc_s hpg hag (o := (rq3 pg).2.2) a4 (by omega), if_neg (by rcases blk with q | q; omega; rw [q]; decide)]
def MR (pg : List Nat) (r : Option (Int32 × Int32 × Int32 × Int32 × (Nat → Int32) × (Nat → Int32) × (Nat → Int32))) : Prop := ∃ (w kd rw2 : Int32) (f g h : Nat → Int32), r = some (nI (rdP pg), w, kd, rw2, f, g, h) ∧ ((rdW pg ∧ w = 1 ∧ kd = nI (bK (rdB pg)) ∧ rw2 = nI (bR (rdB pg)) ∧ Am (bR (rdB pg)) f (bo (rdB pg)) ∧ rq_4 g (bi (rdB pg)) ∧ rq_4 h (bc (rdB pg)) ∧ PO (rq1 pg).2.1 (rq1 pg).2.2 ∧ (rq1 pg).2.1 ≤ 4 ∧ PI (rq1 pg).2.2 (rq2 pg).2.1 (rq2 pg).2.2 ∧ (rq2 pg).2.1 ≤ (rq1 pg).2.1 ∧ PC (rq3 pg).2.1 (rq3 pg).2.2) ∨ (¬ rdW pg ∧ w = 0))
theorem rdM {pg : List Nat} (hpg : pgOK pg) {page : Nat → Int32} (hag : agr page pg) (r0 : Int32) (f0 g0 h0 : Nat → Int32) : MR pg (fX8_read (nI pg.length) page r0 f0 g0 h0) := by
  have h20 := hpg.1
  have hK := kfn_M _ (pg_d hpg 0)
  have kle := kfn_le (pg.getD 0 0)
  unfold fX8_read
  rw [show fX8_at 0 (nI pg.length) page = fX8_at (nI 0) (nI pg.length) page from rfl, f_at hpg hag (by decide), bd_s, hK, bd_s]
  by_cases k5 : kfn (pg.getD 0 0) = 5
  · have p0 : rdP pg = 0 := by unfold rdP; rw [if_pos k5]
    rw [if_pos k5, if_pos rfl]
    exact ⟨0, -1, r0, f0, g0, h0, by rw [p0]; rfl, Or.inr ⟨fun h => h.1 k5, rfl⟩⟩
  · have hk : 0 < pg.length := getD_lt (fun e => by rw [e] at k5; exact k5 rfl)
    have kn : ¬ nI (kfn (pg.getD 0 0)) = -1 := fun e => nI_pos (n := kfn (pg.getD 0 0)) (by omega) (by rw [e]; decide)
    obtain ⟨F, m1, m2, m3, m4, m5⟩ := MR1 hpg hag hk f0
    rw [if_neg k5, if_neg kn, m5, bd_s]
    dsimp only
    by_cases hR : (rq1 pg).2.1 = 0
    · have hP : rdP pg = (rq1 pg).1 := by
        unfold rdP
        rw [if_neg k5, if_pos (Or.inl hR)]
      rw [if_pos (show nI (rq1 pg).2.1 = 0 by rw [hR]; rfl)]
      exact ⟨0, nI (kfn (pg.getD 0 0)), nI (rq1 pg).2.1, F, g0, h0, by rw [hP]; rfl, Or.inr ⟨fun h => h.2.1 hR, rfl⟩⟩
    · rw [if_neg (nI_ne0 (by omega) (by omega)), f_at hpg hag (by omega), bd_s]
      have hd1 := pg_d hpg (rq1 pg).1
      by_cases hs : pg.getD (rq1 pg).1 0 = 47
      · rw [if_pos (show nI (pg.getD (rq1 pg).1 0) = 47 by rw [hs]; rfl), nI_1]
        obtain ⟨G, q1, q2, q3, q4, q5⟩ := MR2 hpg hag hs m2 m4 m1 g0
        rw [q5, bd_s]
        dsimp only
        rw [f_at hpg hag (by omega), bd_s]
        have hd2 := pg_d hpg (rq2 pg).1
        by_cases hc : pg.getD (rq2 pg).1 0 = 58
        · rw [if_pos (show nI (pg.getD (rq2 pg).1 0) = 58 by rw [hc]; rfl)]
          obtain ⟨H0, c1, c2, c3⟩ := zc (nI (rq2 pg).1, G) (fX8_read_L97 (nI pg.length) page (fX8_read_J136 (nI pg.length) (nI (kfn (pg.getD 0 0))) (nI (rq1 pg).1, nI (rq1 pg).2.1, F) (nI (rq2 pg).1, G)) fu) 4 0 fu h0 (by omega) (by unfold fu; omega)
          obtain ⟨H, s1, s2, s3, s4, s5⟩ := MR3 hpg hag hc (f0 := H0) (fun j hj => c2 j (Nat.zero_le j) hj) (fX8_read_J136 (nI pg.length) (nI (kfn (pg.getD 0 0))) (nI (rq1 pg).1, nI (rq1 pg).2.1, F) (nI (rq2 pg).1, G))
          rw [show fX8_read_L79 (nI (rq2 pg).1, G) (fX8_read_L97 (nI pg.length) page (fX8_read_J136 (nI pg.length) (nI (kfn (pg.getD 0 0))) (nI (rq1 pg).1, nI (rq1 pg).2.1, F) (nI (rq2 pg).1, G)) fu) fu 0 h0 = _ from c3, nI_1, s5]
          have hP : rdP pg = (rq3 pg).1 := by
            unfold rdP
            rw [if_neg k5, if_neg (by rw [hs]; simp [hR]), if_neg (by rw [hc]; simp)]
          unfold fX8_read_J136 fX8_read_J153 fX8_read_J154
          by_cases z : (rq3 pg).2.1 = 0
          · rw [if_pos (show nI (rq3 pg).2.1 ≤ 0 by rw [z]; decide)]
            exact ⟨0, nI (kfn (pg.getD 0 0)), nI (rq1 pg).2.1, F, G, H, by rw [hP]; rfl, Or.inr ⟨fun h => absurd z (by have := h.2.2.2.2.1; omega), rfl⟩⟩
          · rw [if_neg (nI_nle (by omega) (by omega))]
            by_cases hl : (rq3 pg).1 = pg.length
            · rw [if_pos (by rw [hl])]
              exact ⟨1, nI (kfn (pg.getD 0 0)), nI (rq1 pg).2.1, F, G, H, by rw [hP]; rfl, Or.inl ⟨⟨k5, hR, hs, hc, by omega, hl⟩, rfl, rfl, rfl, m1, q1, s1, m2, m4, q2, q4, s2⟩⟩
            · rw [if_neg (fun e => hl ((nI_eq (by omega) (by omega)).mp e))]
              exact ⟨0, nI (kfn (pg.getD 0 0)), nI (rq1 pg).2.1, F, G, H, by rw [hP]; rfl, Or.inr ⟨fun h => hl h.2.2.2.2.2, rfl⟩⟩
        · have hP : rdP pg = (rq2 pg).1 := by
            unfold rdP
            rw [if_neg k5, if_neg (by rw [hs]; simp [hR]), if_pos hc]
          rw [if_neg (show ¬ nI (pg.getD (rq2 pg).1 0) = 58 from fun e => hc ((nI_eq (b := 58) (by omega) (by decide)).mp e))]
          exact ⟨0, nI (kfn (pg.getD 0 0)), nI (rq1 pg).2.1, F, G, h0, by rw [hP], Or.inr ⟨fun h => hc h.2.2.2.1, rfl⟩⟩
      · have hP : rdP pg = (rq1 pg).1 := by
          unfold rdP
          rw [if_neg k5, if_pos (Or.inr hs)]
        rw [if_neg (show ¬ nI (pg.getD (rq1 pg).1 0) = 47 from fun e => hs ((nI_eq (b := 47) (by omega) (by decide)).mp e))]
        exact ⟨0, nI (kfn (pg.getD 0 0)), nI (rq1 pg).2.1, F, g0, h0, by rw [hP]; rfl, Or.inr ⟨fun h => hs h.2.2.1, rfl⟩⟩
