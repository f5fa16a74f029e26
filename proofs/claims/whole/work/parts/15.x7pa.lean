def fX7_isNumber_J15 (y0_15 : Int32) : Option (Int32) :=
    gd (isb y0_15) (some y0_15)
def fX7_isNumber_J14 (k15 : Int32 → Option (Int32)) (u_14 : Unit) : Option (Int32) :=
    k15 0
def fX7_isNumber (p1 : Int32) : Option (Int32) :=
  if p1 < 1 then (fX7_isNumber_J14 fX7_isNumber_J15 ()) else (if 4 < p1 then (fX7_isNumber_J14 fX7_isNumber_J15 ()) else (fX7_isNumber_J15 1))
def rmX7_isNumber : Room := { frames := 0, cells := 0, slots := 0, locals := 0 }
set_option maxRecDepth 100000 in
set_option maxHeartbeats 4000000 in
theorem ctX7_isNumber (l : Launch) (z : Nat × Nat × Nat) (dC : Nat → ClassId) (dI : Nat → Nat → Nat) (cI cB cE : ClassId) (p1 : Int32) (fin : Int32) (hf : fX7_isNumber p1 = some fin) : Ct l z (dC, dI) (tyL cI cB cE) yX7_isNumber wsX7_isNumber rmX7_isNumber [.int p1] [] (some (.int fin)) [] := by
  refine Met.ofC (cc := cX7_isNumber) (maxL := 1) (ret := (some .boolean)) (by decide) rfl (Nat.le_of_ble_eq_true rfl) ?_
  intro p e s m args below meth c A Q ls hx hb hr hml hts hown hlocks hA hK hP hD hZ hS hQ hl
  have hown : s.vm.findClass RX7 = some m.cls := hown
  have hl : lv_has ls 1 [(0, .int p1)] := hl
  unfold fX7_isNumber at hf
  refine lv_iload_n hx hb dX7_isNumber_0 rfl (lv_at hl 0 rfl) ?_
  refine lv_iconst (v := 1) hx hb dX7_isNumber_1 (by decide) ?_
  have J15 : ∀ (y0_15 : Int32), fX7_isNumber_J15  y0_15 = some fin → ∀ (H : Heap) (locs : List Loc), va_P (dC, dI) vwCl [] H → va_D A [] → va_S A s.heap H locs → ∀ (ls : Array Slot), lv_has ls 1 [] → W p l e rmX7_isNumber s m args below meth c H locs 0 0 Q (F0 m 15 ls [.int y0_15]) := by
    intro y0_15 hf H locs hP hD hS ls hl
    unfold fX7_isNumber_J15 at hf
    obtain ⟨g_1, hf⟩ := gd_some hf
    have hQ2 := hQ
    rw [← Option.some.inj hf] at hQ2
    exact cx_zret (isb_nar g_1) hQ2 hx hb hr hlocks hK hP hD hS dX7_isNumber_15
  have J14 : ∀ (u_14 : Unit), fX7_isNumber_J14 (fX7_isNumber_J15) u_14 = some fin → ∀ (H : Heap) (locs : List Loc), va_P (dC, dI) vwCl [] H → va_D A [] → va_S A s.heap H locs → ∀ (ls : Array Slot), lv_has ls 1 [] → W p l e rmX7_isNumber s m args below meth c H locs 0 0 Q (F0 m 14 ls []) := by
    intro u_14 hf H locs hP hD hS ls hl
    unfold fX7_isNumber_J14 at hf
    refine lv_iconst (v := 0) hx hb dX7_isNumber_14 (by decide) ?_
    exact J15 0 hf _ _ hP hD hS ls (lv_sub hl [] rfl)
  refine lv_icmp_lt (tgt := 14) hx hb dX7_isNumber_2 (by decide) (fun c_2 => ?_) (fun c_2 => ?_)
  · rw [if_pos c_2] at hf
    exact J14 () hf _ _ hP hD hS ls (lv_sub hl [] rfl)
  · rw [if_neg c_2] at hf
    refine lv_iload_n hx hb dX7_isNumber_5 rfl (lv_at hl 0 rfl) ?_
    refine lv_iconst (v := 4) hx hb dX7_isNumber_6 (by decide) ?_
    refine lv_icmp_gt (tgt := 14) hx hb dX7_isNumber_7 (by decide) (fun c_3 => ?_) (fun c_3 => ?_)
    · rw [if_pos c_3] at hf
      exact J14 () hf _ _ hP hD hS ls (lv_sub hl [] rfl)
    · rw [if_neg c_3] at hf
      refine lv_iconst (v := 1) hx hb dX7_isNumber_10 (by decide) ?_
      refine lv_goto (tgt := 15) hx hb dX7_isNumber_11 (by decide) ?_
      exact J15 1 hf _ _ hP hD hS ls (lv_sub hl [] rfl)

