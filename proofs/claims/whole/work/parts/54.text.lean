theorem nI_mul (a b : Nat) : nI a * nI b = nI (a * b) := (Int32.ofNat_mul a b).symm
theorem lit_0 : (0 : Int32) = nI 0 := rfl
theorem lit_1 : (1 : Int32) = nI 1 := rfl
theorem lit_2 : (2 : Int32) = nI 2 := rfl
theorem lit_3 : (3 : Int32) = nI 3 := rfl
theorem lit_4 : (4 : Int32) = nI 4 := rfl
theorem lit_5 : (5 : Int32) = nI 5 := rfl
theorem lit_9 : (9 : Int32) = nI 9 := rfl
theorem lit_48 : (48 : Int32) = nI 48 := rfl
def kch (K : Nat) : Nat := if K = 1 then 99 else if K = 2 then 108 else if K = 3 then 115 else if K = 4 then 116 else 102
/-- the letters of the board's text -/
def txt (B : Bd) (q : Nat) : Nat := if q = 0 then kch (bK B) else if q ≤ bR B then 48 + bo B (q - 1) else if q = bR B + 1 then 47 else if q < 2 * bR B + 2 then 48 + bi B (q - bR B - 2) else if q = 2 * bR B + 2 then 58 else 48 + bc B (q - 2 * bR B - 3)
theorem kch_X {K : Nat} (h : K ≤ 4) : fJ0_charAt_5068e (nI K) = some (nI (kch K)) := by
  have q : ∀ K, K < 5 → fJ0_charAt_5068e (nI K) = some (nI (kch K)) := by decide +kernel
  exact q K (by omega)
theorem kch_M {K : Nat} (h : K ≤ 4) : fX8_letterOf (nI K) = some (nI (kch K)) := by
  have q : ∀ K, K < 5 → fX8_letterOf (nI K) = some (nI (kch K)) := by decide +kernel
  exact q K (by omega)
theorem tx_M {B : Bd} (hB : BdOK B) {o i c : Nat → Int32} (ho : rq_4 o (bo B)) (hi : rq_4 i (bi B)) (hc : rq_4 c (bc B)) {q : Nat} (hq : q < 2 * bR B + 7) : fX8_letterAt (nI q) (nI (bK B)) (nI (bR B)) o i c = some (nI (txt B q)) := by
  have hR := hB.2.1
  unfold fX8_letterAt fX8_letterAt_J109 txt
  by_cases q0 : q = 0
  · rw [if_pos (show nI q = 0 by rw [q0]; rfl), if_pos q0, kch_M hB.1, bd_s]
  · rw [if_neg (nI_ne0 (by omega) (by omega)), if_neg q0]
    by_cases q1 : q ≤ bR B
    · rw [if_neg (nI_nlt (by omega) (by omega)), if_pos q1, lit_1, nI_sub (by omega), gd_in (show q - 1 < 4 by omega) (by decide), rq_get ho (by omega), lit_48, nI_add]
    · rw [if_pos (nI_lt (by omega) (by omega)), if_neg q1, nI_1]
      by_cases q2 : q = bR B + 1
      · rw [if_pos (by rw [q2]), if_pos q2]; rfl
      · rw [if_neg (fun e => q2 ((nI_eq (by omega) (by omega)).mp e)), if_neg q2, lit_2, nI_mul, nI_add]
        by_cases q3 : q < 2 * bR B + 2
        · rw [if_neg (nI_ge q3 (by omega)), if_pos q3, nI_sub (by omega), nI_sub (by omega), gd_in (show q - bR B - 2 < 4 by omega) (by decide), rq_get hi (by omega), lit_48, nI_add]
        · rw [if_pos (nI_le (by omega) (by omega)), if_neg q3]
          by_cases q4 : q = 2 * bR B + 2
          · rw [if_pos (by rw [q4]), if_pos q4]; rfl
          · rw [if_neg (fun e => q4 ((nI_eq (by omega) (by omega)).mp e)), if_neg q4, nI_sub (by omega), lit_3, nI_sub (by omega), gd_in (show q - 2 * bR B - 3 < 4 by omega) (by decide), rq_get hc (by omega), lit_48, nI_add]
theorem f_signCount {R : Nat} (h : R ≤ 4) : fX4_signCount (nI R) = some (nI (if R = 0 then 0 else 2 * R + 7)) := by
  have q : ∀ R, R < 5 → fX4_signCount (nI R) = some (nI (if R = 0 then 0 else 2 * R + 7)) := by decide +kernel
  exact q R (by omega)
theorem f_letters {R : Nat} (h : R ≤ 4) : fX8_letters (nI R) = some (nI (if R = 0 then 0 else 2 * R + 7)) := by
  have q : ∀ R, R < 5 → fX8_letters (nI R) = some (nI (if R = 0 then 0 else 2 * R + 7)) := by decide +kernel
  exact q R (by omega)
theorem tx_X {B : Bd} (hB : BdOK B) (hR0 : bR B ≠ 0) {o i c : Nat → Int32} (ho : rq_4 o (bo B)) (hi : rq_4 i (bi B)) (hc : rq_4 c (bc B)) {q : Nat} (hq : q < 2 * bR B + 7) : fX4_signAt (nI q) (nI (bK B)) (nI (bR B)) o i c = some (nI (txt B q)) := by
  have hR := hB.2.1
  unfold fX4_signAt fX4_signAt_J112 txt
  rw [if_neg (nI_pos (by omega)), f_signCount hR, bd_s, if_neg hR0, if_pos (nI_lt hq (by omega))]
  by_cases q0 : q = 0
  · rw [if_pos (show nI q = 0 by rw [q0]; rfl), if_pos q0, kch_X hB.1, bd_s]
  · rw [if_neg (nI_ne0 (by omega) (by omega)), if_neg q0, lit_1, nI_add]
    by_cases q1 : q ≤ bR B
    · rw [if_neg (nI_ge (show q < 1 + bR B by omega) (by omega)), if_pos q1, nI_sub (by omega), gd_in (show q - 1 < 4 by omega) (by decide), rq_get ho (by omega), lit_48, nI_add]
    · rw [if_pos (nI_le (by omega) (by omega)), if_neg q1]
      by_cases q2 : q = bR B + 1
      · rw [if_pos (by rw [q2, Nat.add_comm]), if_pos q2]; rfl
      · rw [if_neg (fun e => q2 (by have := (nI_eq (by omega) (by omega)).mp e; omega)), if_neg q2, nI_add, nI_add]
        by_cases q3 : q < 2 * bR B + 2
        · rw [if_neg (nI_ge (show q < 1 + bR B + 1 + bR B by omega) (by omega)), if_pos q3, nI_sub (by omega), nI_sub (by omega), gd_in (show q - (1 + bR B) - 1 < 4 by omega) (by decide), rq_get hi (by omega), lit_48, nI_add, show q - (1 + bR B) - 1 = q - bR B - 2 by omega]
        · rw [if_pos (nI_le (by omega) (by omega)), if_neg q3]
          by_cases q4 : q = 2 * bR B + 2
          · rw [if_pos (by congr 1; omega), if_pos q4]; rfl
          · rw [if_neg (fun e => q4 (by have := (nI_eq (by omega) (by omega)).mp e; omega)), if_neg q4, nI_sub (by omega), nI_sub (by omega), gd_in (show q - (1 + bR B + 1 + bR B) - 1 < 4 by omega) (by decide), rq_get hc (by omega), lit_48, nI_add, show q - (1 + bR B + 1 + bR B) - 1 = q - 2 * bR B - 3 by omega]
