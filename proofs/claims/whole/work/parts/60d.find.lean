theorem f_findAll {B : Bd} (hB : BdOK B) {outer inner content : Nat → Int32} (ho : rq_4 outer (bo B)) (hi : rq_4 inner (bi B)) (hc : rq_4 content (bc B)) (codes num left ro co be ab rs : Nat → Int32) : ∃ codes' num' left' ro' co' be' ab' rs', FiI B (nI (fls B).length) (nI (bK B)) codes' ro' co' be' ab' rs' (nI (nbx B)) ∧ fX0_findAll codes num left ro co be ab rs (nI (bK B)) (nI (bR B)) outer inner content = some (nI (fls B).length, nI (bK B), codes', num', left', ro', co', be', ab', rs', nI (nbx B)) := by
  have n9 := hB.2.2.2.2.2.2.1
  have b4 := fls_400 hB
  obtain ⟨ro', co', be', ab', rs', hg, eL⟩ := f_layOut hB ho hi ro co be ab rs
  have cs := csum_lt hB
  unfold fX0_findAll fX0_findAll_J62
  rw [eL, bd_s]
  dsimp only
  by_cases hR : bR B = 0
  · have e : fls B = [] := by unfold fls; rw [if_pos (Or.inl hR)]
    rw [(no_board hR).1, bd_s, if_neg (by decide), e]
    exact ⟨codes, num, va_cpy content left 0 0 4, ro', co', be', ab', rs', ⟨rfl, hg, by rw [e], by rw [e]; exact fun j h => absurd h (Nat.not_lt_zero j)⟩, rfl⟩
  · rw [(a_board hR hB.2.1).1, bd_s, if_pos rfl, f_contentSum hc, bd_s]
    by_cases hs : csum B = nbx B
    · have e : fls B = dfs (okP B) (nbx B) [] := by unfold fls; rw [if_neg (by omega)]
      rw [if_pos (by rw [hs])]
      obtain ⟨c1, m1, l1, e1, e2, e3, e4⟩ := fill_X hB hg (nbx B) 12 [] [] codes num (va_cpy content left 0 0 4) (by simp) (by omega) (fun x h => by cases h) (fun j h => absurd h (Nat.not_lt_zero j)) (fun j hj => ⟨Nat.zero_le _, by rw [cpy_rq hc j hj]; rfl⟩) (fun j h => absurd h (Nat.not_lt_zero j)) (by rw [e] at b4; simpa using b4)
      rw [show fX0_fillFrom 12 0 0 0 (nI (bK B)) codes num (va_cpy content left 0 0 4) ro' co' be' ab' rs' (nI (nbx B)) = _ from e4, bd_s, ← e]
      refine ⟨c1, m1, l1, ro', co', be', ab', rs', ⟨rfl, hg, rfl, by rw [e]; exact e1⟩, ?_⟩
      simp
    · have e : fls B = [] := by unfold fls; rw [if_pos (Or.inr hs)]
      rw [if_neg (fun x => hs ((nI_eq (by omega) (by omega)).mp x)), e]
      exact ⟨codes, num, va_cpy content left 0 0 4, ro', co', be', ab', rs', ⟨rfl, hg, by rw [e], by rw [e]; exact fun j h => absurd h (Nat.not_lt_zero j)⟩, rfl⟩
