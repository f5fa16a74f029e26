/-! not more than 400 fillings: a filling is known from how many times each row has each number -/
def q_tk (G : Nat → (Nat → Nat) → Nat) (v : Nat) : Nat → (Nat → Nat) → Nat
  | 0, e => G 0 e
  | m + 1, e => (if 1 ≤ e v then q_tk G v m (updN e v (e v - 1)) else 0) + G (m + 1) e
def q_en (F : (Nat → Nat) → Nat) (m : Nat) (e : Nat → Nat) : Nat := if m = 0 then F e else 0
def q_lv (σ : Nat → Nat) (F : (Nat → Nat) → Nat) : Nat → Nat → (Nat → Nat) → Nat
  | 0 => q_en F
  | y + 1 => q_tk (q_lv σ F y) (σ y)
theorem q_lv0 (σ : Nat → Nat) (F : (Nat → Nat) → Nat) (e : Nat → Nat) : ∀ y, q_lv σ F y 0 e = F e := by
  intro y
  induction y with
  | zero => show q_en F 0 e = F e; unfold q_en; exact if_pos rfl
  | succ y ih => exact ih
def q_gR (σ ln : Nat → Nat) : Nat → Nat → (Nat → Nat) → Nat
  | 0, _, _ => 1
  | q + 1, r, e => q_lv σ (q_gR σ ln q (r + 1)) 4 (ln r) e
def q_e (B : Bd) (p : List Nat) (v : Nat) : Nat := bc B (v - 1) - cq p v p.length
theorem q_e_s (B : Bd) (p : List Nat) (v : Nat) : q_e B (p ++ [v]) = updN (q_e B p) v (q_e B p v - 1) := by
  funext u
  unfold updN q_e
  rw [show (p ++ [v]).length = p.length + 1 by simp, cq_last]
  by_cases h : u = v
  · rw [if_pos h, if_pos h.symm, h]; omega
  · rw [if_neg h, if_neg (fun e => h e.symm)]; rfl
def q_su (f : Nat → Nat) : Nat → Nat
  | 0 => 0
  | n + 1 => q_su f n + f n
theorem q_len (ok : List Nat → Bool) (M : Nat) (p : List Nat) : (dfs ok (M + 1) p).length = (brs ok M p 1).length + (brs ok M p 2).length + (brs ok M p 3).length + (brs ok M p 4).length := by
  rw [dfs_alt]
  simp only [alt, List.length_append, List.length_nil]
  rw [show 4 - 0 = 4 from rfl, show 4 - 1 = 3 from rfl, show 4 - 2 = 2 from rfl, show 4 - 3 = 1 from rfl]
  omega
def q_dir (K : Nat) (z : Nat) : Nat := if K = 4 then z + 1 else 4 - z
theorem q_sum {f : Nat → Nat} (K : Nat) : q_su (fun z => f (q_dir K z)) 4 = f 1 + f 2 + f 3 + f 4 := by
  unfold q_dir
  by_cases h : K = 4
  · simp only [q_su, if_pos h]
    show 0 + f 1 + f 2 + f 3 + f 4 = _
    omega
  · simp only [q_su, if_neg h]
    show 0 + f 4 + f 3 + f 2 + f 1 = _
    omega
theorem q_rule {K y z : Nat} (h1 : 1 ≤ y) (h4 : y ≤ 4) (hz : z < 4) (h : rowOK K (q_dir K (y - 1)) (q_dir K z) = true) : z < y := by
  unfold rowOK q_dir at h
  by_cases k3 : K = 3
  · rw [if_pos k3, if_neg (by omega), if_neg (by omega), decide_eq_true_iff] at h
    omega
  · rw [if_neg k3] at h
    by_cases k4 : K = 4
    · rw [if_pos k4, if_pos k4, if_pos k4, decide_eq_true_iff] at h
      omega
    · rw [if_neg k4, if_neg k4, if_neg k4, decide_eq_true_iff] at h
      omega
theorem q_row {B : Bd} {r : Nat} (hr : r < bR B) (Mr : Nat) (F : (Nat → Nat) → Nat) (hF : ∀ p, p.length = (rowsL B (r + 1)).length → (dfs (okP B) Mr p).length ≤ F (q_e B p)) : ∀ (m t y : Nat) (p : List Nat), t + m = bo B r - bi B r → p.length = (rowsL B r).length + t → y ≤ 4 → (t = 0 → y = 4) → (t ≠ 0 → 1 ≤ y ∧ p.getD (p.length - 1) 0 = q_dir (bK B) (y - 1)) → (dfs (okP B) (m + Mr) p).length ≤ q_lv (q_dir (bK B)) F y m (q_e B p) := by
  have rl := rowsL_len B r
  intro m
  induction m with
  | zero =>
    intro t y p h hp _ _ _
    rw [q_lv0, Nat.zero_add]
    exact hF p (by omega)
  | succ m ih =>
    intro t y p h hp y4 t0 t1
    have hA : rAt B p.length = r := rAt_of B (by omega) (by omega) (bR B) hr
    -- a number that may be there
    have ok1 : ∀ z, okP B (p ++ [q_dir (bK B) z]) = true → 1 ≤ q_e B p (q_dir (bK B) z) := by
      intro z hz
      rw [okP_app, Bool.and_eq_true, decide_eq_true_iff] at hz
      unfold q_e
      omega
    have ok2 : ∀ z, z < 4 → okP B (p ++ [q_dir (bK B) z]) = true → z < y := by
      intro z z4 hz
      by_cases t00 : t = 0
      · rw [t0 t00]; exact z4
      · obtain ⟨y1, e1⟩ := t1 t00
        rw [okP_app, Bool.and_eq_true, Bool.and_eq_true] at hz
        have hf := hz.1.1
        have hbf : bef B p.length = some (p.length - 1) := by
          unfold bef
          rw [if_pos]
          refine ⟨by omega, ?_⟩
          rw [hA]
          exact rAt_of B (by omega) (by omega) (bR B) hr
        unfold fitB at hf
        rw [hbf, Bool.and_eq_true] at hf
        have hf := hf.1
        dsimp only at hf
        rw [getD_last, getD_app_l (by omega), e1] at hf
        exact q_rule y1 y4 z4 hf
    have cA : ∀ z, z < 4 → (brs (okP B) (m + Mr) p (q_dir (bK B) z)).length ≤ (if 1 ≤ q_e B p (q_dir (bK B) z) then q_lv (q_dir (bK B)) F (z + 1) m (updN (q_e B p) (q_dir (bK B) z) (q_e B p (q_dir (bK B) z) - 1)) else 0) := by
      intro z z4
      unfold brs
      by_cases q : okP B (p ++ [q_dir (bK B) z]) = true
      · rw [if_pos q, if_pos (ok1 z q), ← q_e_s]
        refine ih (t + 1) (z + 1) (p ++ [q_dir (bK B) z]) (by omega) (by rw [List.length_append, List.length_singleton]; omega) (by omega) (fun h => by omega) (fun _ => ⟨by omega, ?_⟩)
        rw [List.length_append, List.length_singleton, Nat.add_sub_cancel, getD_last, Nat.add_sub_cancel]
      · rw [if_neg q]; exact Nat.zero_le _
    have cB : ∀ z, z < 4 → y ≤ z → (brs (okP B) (m + Mr) p (q_dir (bK B) z)).length = 0 := by
      intro z z4 hz
      unfold brs
      rw [if_neg (fun q => by have := ok2 z z4 q; omega)]; rfl
    have cC : ∀ y, y ≤ 4 → q_su (fun z => (brs (okP B) (m + Mr) p (q_dir (bK B) z)).length) y ≤ q_lv (q_dir (bK B)) F y (m + 1) (q_e B p) := by
      intro y
      induction y with
      | zero => intro _; exact Nat.zero_le _
      | succ y ihy =>
        intro hy
        have a := ihy (by omega)
        have b := cA y (by omega)
        show q_su (fun z => (brs (okP B) (m + Mr) p (q_dir (bK B) z)).length) y + (brs (okP B) (m + Mr) p (q_dir (bK B) y)).length ≤ (if 1 ≤ q_e B p (q_dir (bK B) y) then q_lv (q_dir (bK B)) F (y + 1) m (updN (q_e B p) (q_dir (bK B) y) (q_e B p (q_dir (bK B) y) - 1)) else 0) + q_lv (q_dir (bK B)) F y (m + 1) (q_e B p)
        omega
    have cD : ∀ d, y + d ≤ 4 → q_su (fun z => (brs (okP B) (m + Mr) p (q_dir (bK B) z)).length) (y + d) = q_su (fun z => (brs (okP B) (m + Mr) p (q_dir (bK B) z)).length) y := by
      intro d
      induction d with
      | zero => intro _; rfl
      | succ d ihd =>
        intro hd
        show q_su (fun z => (brs (okP B) (m + Mr) p (q_dir (bK B) z)).length) (y + d) + (brs (okP B) (m + Mr) p (q_dir (bK B) (y + d))).length = _
        rw [ihd (by omega), cB (y + d) (by omega) (by omega)]; rfl
    rw [show m + 1 + Mr = (m + Mr) + 1 by omega, q_len, ← q_sum (f := fun v => (brs (okP B) (m + Mr) p v).length) (bK B)]
    have := cD (4 - y) (by omega)
    rw [show y + (4 - y) = 4 by omega] at this
    rw [this]
    exact cC y y4
theorem q_all {B : Bd} (hB : BdOK B) : ∀ (q r : Nat) (p : List Nat), r + q = 4 → p.length = (rowsL B r).length → (dfs (okP B) ((rowsL B 4).length - (rowsL B r).length) p).length ≤ q_gR (q_dir (bK B)) (fun r => bo B r - bi B r) q r (q_e B p) := by
  intro q
  induction q with
  | zero =>
    intro r p h hp
    have e : r = 4 := by omega
    rw [e, Nat.sub_self, dfs]
    exact Nat.le_refl _
  | succ q ih =>
    intro r p h hp
    have rl := rowsL_len B r
    have mo := rowsL_mono B (show r + 1 ≤ 4 by omega)
    rw [q_gR]
    by_cases hr : r < bR B
    · rw [show (rowsL B 4).length - (rowsL B r).length = (bo B r - bi B r) + ((rowsL B 4).length - (rowsL B (r + 1)).length) by omega]
      exact q_row hr _ _ (fun p' hp' => ih (r + 1) p' (by omega) hp') (bo B r - bi B r) 0 4 p (by omega) (by omega) (by omega) (fun _ => rfl) (fun h => absurd rfl h)
    · obtain ⟨z1, z2⟩ := hB.2.2.2.2.1 r (by omega)
      rw [z1, z2] at rl ⊢
      rw [q_lv0]
      have := ih (r + 1) p (by omega) (by omega)
      rw [rl] at this
      exact this
theorem q_fls {B : Bd} (hB : BdOK B) (h : fls B ≠ []) : (fls B).length ≤ q_gR (q_dir (bK B)) (fun r => bo B r - bi B r) 4 0 (q_e B []) ∧ csum B = nbx B ∧ (rowsL B 4).length = nbx B := by
  have e4 : (rowsL B 4).length = nbx B := by
    have : ∀ d, (rowsL B (bR B + d)).length = nbx B := by
      intro d
      induction d with
      | zero => rfl
      | succ d ih =>
        obtain ⟨z1, z2⟩ := hB.2.2.2.2.1 (bR B + d) (by omega)
        rw [← Nat.add_assoc, rowsL_len, ih, z1, z2]; rfl
    have := this (4 - bR B)
    rwa [show bR B + (4 - bR B) = 4 by have := hB.2.1; omega] at this
  unfold fls at h ⊢
  by_cases q : bR B = 0 ∨ csum B ≠ nbx B
  · rw [if_pos q] at h; exact absurd rfl h
  · rw [if_neg q]
    have := q_all hB 4 0 [] rfl rfl
    rw [e4, show (rowsL B 0).length = 0 from rfl, Nat.sub_zero] at this
    exact ⟨this, by omega, e4⟩
/-! the count does not depend on the order of the numbers -/
theorem q_un2 (e : Nat → Nat) {v w : Nat} (h : v ≠ w) (a b : Nat) : updN (updN e v a) w b = updN (updN e w b) v a := by
  funext j
  unfold updN
  by_cases h1 : j = w
  · by_cases h2 : j = v
    · omega
    · rw [if_pos h1, if_neg h2, if_pos h1]
  · by_cases h2 : j = v
    · rw [if_neg h1, if_pos h2, if_pos h2]
    · rw [if_neg h1, if_neg h2, if_neg h2, if_neg h1]
theorem q_comm (G : Nat → (Nat → Nat) → Nat) {v w : Nat} (h : v ≠ w) : ∀ (m : Nat) (e : Nat → Nat), q_tk (q_tk G v) w m e = q_tk (q_tk G w) v m e := by
  intro m
  induction m using Nat.strongRecOn with
  | _ m ih =>
    intro e
    match m, ih with
    | 0, _ => rfl
    | 1, _ =>
      simp only [q_tk]
      omega
    | m + 2, ih =>
      have u1 : updN e w (e w - 1) v = e v := updN_ne h
      have u2 : updN e v (e v - 1) w = e w := updN_ne (fun q => h q.symm)
      have A1 : q_tk (q_tk G v) w (m + 1) (updN e w (e w - 1)) = (if 1 ≤ e v then q_tk (q_tk G w) v m (updN (updN e w (e w - 1)) v (e v - 1)) else 0) + q_tk G w (m + 1) (updN e w (e w - 1)) := by
        rw [ih (m + 1) (by omega), q_tk, u1]
      have A2 : q_tk (q_tk G w) v (m + 1) (updN e v (e v - 1)) = (if 1 ≤ e w then q_tk (q_tk G v) w m (updN (updN e v (e v - 1)) w (e w - 1)) else 0) + q_tk G v (m + 1) (updN e v (e v - 1)) := by
        rw [← ih (m + 1) (by omega), q_tk, u2]
      have B1 : q_tk G v (m + 2) e = (if 1 ≤ e v then q_tk G v (m + 1) (updN e v (e v - 1)) else 0) + G (m + 2) e := rfl
      have B2 : q_tk G w (m + 2) e = (if 1 ≤ e w then q_tk G w (m + 1) (updN e w (e w - 1)) else 0) + G (m + 2) e := rfl
      have C1 : q_tk (q_tk G v) w (m + 2) e = (if 1 ≤ e w then q_tk (q_tk G v) w (m + 1) (updN e w (e w - 1)) else 0) + q_tk G v (m + 2) e := rfl
      have C2 : q_tk (q_tk G w) v (m + 2) e = (if 1 ≤ e v then q_tk (q_tk G w) v (m + 1) (updN e v (e v - 1)) else 0) + q_tk G w (m + 2) e := rfl
      rw [C1, C2, B1, B2, A1, A2, ih m (by omega), q_un2 e h]
      by_cases hv : 1 ≤ e v
      · by_cases hw : 1 ≤ e w
        · simp only [if_pos hv, if_pos hw]; omega
        · simp only [if_pos hv, if_neg hw]; omega
      · by_cases hw : 1 ≤ e w
        · simp only [if_neg hv, if_pos hw]; omega
        · simp only [if_neg hv, if_neg hw]
theorem q_sw {s : Nat → Nat} (hs : ∀ x, s (s x) = x) (G : Nat → (Nat → Nat) → Nat) (v : Nat) : ∀ (m : Nat) (e : Nat → Nat), q_tk G v m (fun x => e (s x)) = q_tk (fun m e => G m (fun x => e (s x))) (s v) m e := by
  intro m
  induction m with
  | zero => intro e; rfl
  | succ m ih =>
    intro e
    have u : updN (fun x => e (s x)) v (e (s v) - 1) = fun x => updN e (s v) (e (s v) - 1) (s x) := by
      funext j
      unfold updN
      by_cases h : j = v
      · rw [if_pos h, if_pos (by rw [h])]
      · rw [if_neg h, if_neg (fun q => h (by rw [← hs j, q, hs]))]
    rw [q_tk, q_tk, u, ih]
theorem q_lvs {s : Nat → Nat} (hs : ∀ x, s (s x) = x) (σ : Nat → Nat) (F : (Nat → Nat) → Nat) : ∀ (y m : Nat) (e : Nat → Nat), q_lv σ F y m (fun x => e (s x)) = q_lv (fun z => s (σ z)) (fun e => F (fun x => e (s x))) y m e := by
  intro y
  induction y with
  | zero => intro m e; rfl
  | succ y ih =>
    intro m e
    rw [q_lv, q_sw hs, q_lv]
    have : (fun m e => q_lv σ F y m (fun x => e (s x))) = q_lv (fun z => s (σ z)) (fun e => F (fun x => e (s x))) y := by
      funext m e
      exact ih m e
    rw [this]
theorem q_gRs {s : Nat → Nat} (hs : ∀ x, s (s x) = x) (σ ln : Nat → Nat) : ∀ (q r : Nat) (e : Nat → Nat), q_gR σ ln q r (fun x => e (s x)) = q_gR (fun z => s (σ z)) ln q r e := by
  intro q
  induction q with
  | zero => intro r e; rfl
  | succ q ih =>
    intro r e
    rw [q_gR, q_lvs hs, q_gR]
    have : (fun e => q_gR σ ln q (r + 1) (fun x => e (s x))) = q_gR (fun z => s (σ z)) ln q (r + 1) := by
      funext e
      exact ih (r + 1) e
    rw [this]
theorem q_gRc {σ τ : Nat → Nat} (h : ∀ F : (Nat → Nat) → Nat, q_lv σ F 4 = q_lv τ F 4) (ln : Nat → Nat) : ∀ (q r : Nat) (e : Nat → Nat), q_gR σ ln q r e = q_gR τ ln q r e := by
  intro q
  induction q with
  | zero => intro r e; rfl
  | succ q ih =>
    intro r e
    rw [q_gR, q_gR, h]
    have : q_gR σ ln q (r + 1) = q_gR τ ln q (r + 1) := by
      funext e
      exact ih (r + 1) e
    rw [this]
def q_sp (a b x : Nat) : Nat := if x = a then b else if x = b then a else x
theorem q_spi (a b : Nat) : ∀ x, q_sp a b (q_sp a b x) = x := by
  intro x
  unfold q_sp
  by_cases h : x = a
  · rw [if_pos h]
    by_cases h2 : b = a
    · rw [if_pos h2]; omega
    · rw [if_neg h2, if_pos rfl]; omega
  · rw [if_neg h]
    by_cases h2 : x = b
    · rw [if_pos h2, if_pos rfl]; omega
    · rw [if_neg h2, if_neg h, if_neg h2]
theorem q_lv4 (σ : Nat → Nat) (F : (Nat → Nat) → Nat) : q_lv σ F 4 = q_tk (q_tk (q_tk (q_tk (q_en F) (σ 0)) (σ 1)) (σ 2)) (σ 3) := rfl
theorem q_cf (G : Nat → (Nat → Nat) → Nat) {v w : Nat} (h : v ≠ w) : q_tk (q_tk G v) w = q_tk (q_tk G w) v := by
  funext m e
  exact q_comm G h m e
theorem q_12 (F : (Nat → Nat) → Nat) : q_lv (fun z => q_sp 1 2 (4 - z)) F 4 = q_lv (fun z => 4 - z) F 4 := by
  rw [q_lv4, q_lv4]
  exact q_cf _ (show 1 ≠ 2 by decide)
theorem q_23 (F : (Nat → Nat) → Nat) : q_lv (fun z => q_sp 2 3 (4 - z)) F 4 = q_lv (fun z => 4 - z) F 4 := by
  rw [q_lv4, q_lv4]
  exact congrArg (fun G => q_tk G 1) (q_cf _ (show 2 ≠ 3 by decide))
theorem q_34 (F : (Nat → Nat) → Nat) : q_lv (fun z => q_sp 3 4 (4 - z)) F 4 = q_lv (fun z => 4 - z) F 4 := by
  rw [q_lv4, q_lv4]
  exact congrArg (fun G => q_tk (q_tk G 2) 1) (q_cf _ (show 3 ≠ 4 by decide))
/-- the other direction -/
theorem q_dn (F : (Nat → Nat) → Nat) : q_lv (fun z => z + 1) F 4 = q_lv (fun z => 4 - z) F 4 := by
  rw [q_lv4, q_lv4]
  show q_tk (q_tk (q_tk (q_tk (q_en F) 1) 2) 3) 4 = q_tk (q_tk (q_tk (q_tk (q_en F) 4) 3) 2) 1
  rw [q_cf (q_en F) (show 1 ≠ 2 by decide), q_cf (q_tk (q_en F) 2) (show 1 ≠ 3 by decide), q_cf (q_en F) (show 2 ≠ 3 by decide), q_cf (q_tk (q_tk (q_en F) 3) 2) (show 1 ≠ 4 by decide), q_cf (q_tk (q_en F) 3) (show 2 ≠ 4 by decide), q_cf (q_en F) (show 3 ≠ 4 by decide)]
