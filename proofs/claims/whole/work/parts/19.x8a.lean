def fX8_within_J15 (y0_15 : Int32) : Option (Int32) :=
    gd (isb y0_15) (some y0_15)
def fX8_within_J14 (k15 : Int32 → Option (Int32)) (u_14 : Unit) : Option (Int32) :=
    k15 0
def fX8_within (p1 : Int32) (p2 : Int32) (p3 : Int32) : Option (Int32) :=
  if p1 < p2 then (fX8_within_J14 fX8_within_J15 ()) else (if p3 < p1 then (fX8_within_J14 fX8_within_J15 ()) else (fX8_within_J15 1))
def rmX8_within : Room := { frames := 0, cells := 0, slots := 0, locals := 0 }
set_option maxRecDepth 100000 in
set_option maxHeartbeats 4000000 in
theorem ctX8_within (l : Launch) (z : Nat × Nat × Nat) (dC : Nat → ClassId) (dI : Nat → Nat → Nat) (cI cB cE : ClassId) (p1 : Int32) (p2 : Int32) (p3 : Int32) (fin : Int32) (hf : fX8_within p1 p2 p3 = some fin) : Ct l z (dC, dI) (tyL cI cB cE) yX8_within wsX8_within rmX8_within [.int p1, .int p2, .int p3] [] (some (.int fin)) [] := by
  refine Met.ofC (cc := cX8_within) (maxL := 3) (ret := (some .boolean)) (by decide) rfl (Nat.le_of_ble_eq_true rfl) ?_
  intro p e s m args below meth c A Q ls hx hb hr hml hts hown hlocks hA hK hP hD hZ hS hQ hl
  have hown : s.vm.findClass RX8 = some m.cls := hown
  have hl : lv_has ls 3 [(0, .int p1), (1, .int p2), (2, .int p3)] := hl
  unfold fX8_within at hf
  refine lv_iload_n hx hb dX8_within_0 rfl (lv_at hl 0 rfl) ?_
  refine lv_iload_n hx hb dX8_within_1 rfl (lv_at hl 1 rfl) ?_
  have J15 : ∀ (y0_15 : Int32), fX8_within_J15  y0_15 = some fin → ∀ (H : Heap) (locs : List Loc), va_P (dC, dI) vwCl [] H → va_D A [] → va_S A s.heap H locs → ∀ (ls : Array Slot), lv_has ls 3 [] → W p l e rmX8_within s m args below meth c H locs 0 0 Q (F0 m 15 ls [.int y0_15]) := by
    intro y0_15 hf H locs hP hD hS ls hl
    unfold fX8_within_J15 at hf
    obtain ⟨g_1, hf⟩ := gd_some hf
    have hQ2 := hQ
    rw [← Option.some.inj hf] at hQ2
    exact cx_zret (isb_nar g_1) hQ2 hx hb hr hlocks hK hP hD hS dX8_within_15
  have J14 : ∀ (u_14 : Unit), fX8_within_J14 (fX8_within_J15) u_14 = some fin → ∀ (H : Heap) (locs : List Loc), va_P (dC, dI) vwCl [] H → va_D A [] → va_S A s.heap H locs → ∀ (ls : Array Slot), lv_has ls 3 [] → W p l e rmX8_within s m args below meth c H locs 0 0 Q (F0 m 14 ls []) := by
    intro u_14 hf H locs hP hD hS ls hl
    unfold fX8_within_J14 at hf
    refine lv_iconst (v := 0) hx hb dX8_within_14 (by decide) ?_
    exact J15 0 hf _ _ hP hD hS ls (lv_sub hl [] rfl)
  refine lv_icmp_lt (tgt := 14) hx hb dX8_within_2 (by decide) (fun c_2 => ?_) (fun c_2 => ?_)
  · rw [if_pos c_2] at hf
    exact J14 () hf _ _ hP hD hS ls (lv_sub hl [] rfl)
  · rw [if_neg c_2] at hf
    refine lv_iload_n hx hb dX8_within_5 rfl (lv_at hl 0 rfl) ?_
    refine lv_iload_n hx hb dX8_within_6 rfl (lv_at hl 2 rfl) ?_
    refine lv_icmp_gt (tgt := 14) hx hb dX8_within_7 (by decide) (fun c_3 => ?_) (fun c_3 => ?_)
    · rw [if_pos c_3] at hf
      exact J14 () hf _ _ hP hD hS ls (lv_sub hl [] rfl)
    · rw [if_neg c_3] at hf
      refine lv_iconst (v := 1) hx hb dX8_within_10 (by decide) ?_
      refine lv_goto (tgt := 15) hx hb dX8_within_11 (by decide) ?_
      exact J15 1 hf _ _ hP hD hS ls (lv_sub hl [] rfl)

def fX8_isIn_J14 (y0_14 : Int32) : Option (Int32) :=
    gd (isb y0_14) (some y0_14)
def fX8_isIn (p1 : Int32) (p2 : Int32) : Option (Int32) :=
  fX8_isIn_J14 (if ((p1 >>> (p2 &&& 31)) &&& 1) = 1 then 1 else 0)
def rmX8_isIn : Room := { frames := 0, cells := 0, slots := 0, locals := 0 }
set_option maxRecDepth 100000 in
set_option maxHeartbeats 4000000 in
theorem ctX8_isIn (l : Launch) (z : Nat × Nat × Nat) (dC : Nat → ClassId) (dI : Nat → Nat → Nat) (cI cB cE : ClassId) (p1 : Int32) (p2 : Int32) (fin : Int32) (hf : fX8_isIn p1 p2 = some fin) : Ct l z (dC, dI) (tyL cI cB cE) yX8_isIn wsX8_isIn rmX8_isIn [.int p1, .int p2] [] (some (.int fin)) [] := by
  refine Met.ofC (cc := cX8_isIn) (maxL := 2) (ret := (some .boolean)) (by decide) rfl (Nat.le_of_ble_eq_true rfl) ?_
  intro p e s m args below meth c A Q ls hx hb hr hml hts hown hlocks hA hK hP hD hZ hS hQ hl
  have hown : s.vm.findClass RX8 = some m.cls := hown
  have hl : lv_has ls 2 [(0, .int p1), (1, .int p2)] := hl
  unfold fX8_isIn at hf
  refine lv_iload_n hx hb dX8_isIn_0 rfl (lv_at hl 0 rfl) ?_
  refine lv_iload_n hx hb dX8_isIn_1 rfl (lv_at hl 1 rfl) ?_
  refine lv_ishr hx hb dX8_isIn_2 ?_
  refine lv_iconst (v := 1) hx hb dX8_isIn_3 (by decide) ?_
  refine lv_iand hx hb dX8_isIn_4 ?_
  refine lv_iconst (v := 1) hx hb dX8_isIn_5 (by decide) ?_
  have J14 : ∀ (y0_14 : Int32), fX8_isIn_J14  y0_14 = some fin → ∀ (H : Heap) (locs : List Loc), va_P (dC, dI) vwCl [] H → va_D A [] → va_S A s.heap H locs → ∀ (ls : Array Slot), lv_has ls 2 [] → W p l e rmX8_isIn s m args below meth c H locs 0 0 Q (F0 m 14 ls [.int y0_14]) := by
    intro y0_14 hf H locs hP hD hS ls hl
    unfold fX8_isIn_J14 at hf
    obtain ⟨g_1, hf⟩ := gd_some hf
    have hQ2 := hQ
    rw [← Option.some.inj hf] at hQ2
    exact cx_zret (isb_nar g_1) hQ2 hx hb hr hlocks hK hP hD hS dX8_isIn_14
  refine lv_icmp_ne (tgt := 13) hx hb dX8_isIn_6 (by decide) (fun c_2 => ?_) (fun c_2 => ?_)
  · rw [if_neg c_2] at hf
    refine lv_iconst (v := 0) hx hb dX8_isIn_13 (by decide) ?_
    exact J14 0 hf _ _ hP hD hS ls (lv_sub hl [] rfl)
  · rw [if_pos c_2] at hf
    refine lv_iconst (v := 1) hx hb dX8_isIn_9 (by decide) ?_
    refine lv_goto (tgt := 14) hx hb dX8_isIn_10 (by decide) ?_
    exact J14 1 hf _ _ hP hD hS ls (lv_sub hl [] rfl)

def fX8_size_L4 (p1 : Int32) : Nat → Int32 → Int32 → Option (Int32)
  | 0, _, _ => none
  | n + 1, x1_4, x2_4 =>
    if 16 ≤ x2_4 then (some x1_4) else (fX8_size_L4 p1 n (x1_4 + ((p1 >>> (x2_4 &&& 31)) &&& 1)) (x2_4 + 1))
def fX8_size (p1 : Int32) : Option (Int32) :=
  fX8_size_L4 p1 fu 0 0
def rmX8_size : Room := { frames := 0, cells := 0, slots := 0, locals := 0 }
set_option maxRecDepth 100000 in
set_option maxHeartbeats 4000000 in
theorem ctX8_size (l : Launch) (z : Nat × Nat × Nat) (dC : Nat → ClassId) (dI : Nat → Nat → Nat) (cI cB cE : ClassId) (p1 : Int32) (fin : Int32) (hf : fX8_size p1 = some fin) : Ct l z (dC, dI) (tyL cI cB cE) yX8_size wsX8_size rmX8_size [.int p1] [] (some (.int fin)) [] := by
  refine Met.ofC (cc := cX8_size) (maxL := 3) (ret := (some .int)) (by decide) rfl (Nat.le_of_ble_eq_true rfl) ?_
  intro p e s m args below meth c A Q ls hx hb hr hml hts hown hlocks hA hK hP hD hZ hS hQ hl
  have hown : s.vm.findClass RX8 = some m.cls := hown
  have hl : lv_has ls 3 [(0, .int p1)] := hl
  unfold fX8_size at hf
  refine lv_iconst (v := 0) hx hb dX8_size_0 (by decide) ?_
  refine lv_istore_n (lv' := [(1, .int 0), (0, .int p1)]) hx hb dX8_size_1 rfl hl (by decide) rfl (fun ls hl => ?_)
  refine lv_iconst (v := 0) hx hb dX8_size_2 (by decide) ?_
  refine lv_istore_n (lv' := [(2, .int 0), (1, .int 0), (0, .int p1)]) hx hb dX8_size_3 rfl hl (by decide) rfl (fun ls hl => ?_)
  have L4 : ∀ (n4 : Nat) (x1_4 : Int32) (x2_4 : Int32), fX8_size_L4 p1 n4 x1_4 x2_4 = some fin → ∀ (H : Heap) (locs : List Loc), va_P (dC, dI) vwCl [] H → va_D A [] → va_S A s.heap H locs → ∀ (ls : Array Slot), lv_has ls 3 [(0, .int p1), (1, .int x1_4), (2, .int x2_4)] → W p l e rmX8_size s m args below meth c H locs 0 0 Q (F0 m 4 ls []) := by
    intro n4
    induction n4 with
    | zero =>
      intro x1_4 x2_4 hf
      rw [fX8_size_L4] at hf
      cases hf
    | succ n4 ih4 =>
      intro x1_4 x2_4 hf H locs hP hD hS ls hl
      rw [fX8_size_L4] at hf
      refine lv_iload_n hx hb dX8_size_4 rfl (lv_at hl 2 rfl) ?_
      refine lv_bipush (v := 16) hx hb dX8_size_5 (by decide) ?_
      refine lv_icmp_ge (tgt := 24) hx hb dX8_size_7 (by decide) (fun c_1 => ?_) (fun c_1 => ?_)
      · rw [if_pos c_1] at hf
        refine lv_iload_n hx hb dX8_size_24 rfl (lv_at hl 1 rfl) ?_
        have hQ2 := hQ
        rw [← Option.some.inj hf] at hQ2
        exact cx_iret hQ2 hx hb hr hlocks hK hP hD hS dX8_size_25
      · rw [if_neg c_1] at hf
        refine lv_iload_n hx hb dX8_size_10 rfl (lv_at hl 1 rfl) ?_
        refine lv_iload_n hx hb dX8_size_11 rfl (lv_at hl 0 rfl) ?_
        refine lv_iload_n hx hb dX8_size_12 rfl (lv_at hl 2 rfl) ?_
        refine lv_ishr hx hb dX8_size_13 ?_
        refine lv_iconst (v := 1) hx hb dX8_size_14 (by decide) ?_
        refine lv_iand hx hb dX8_size_15 ?_
        refine lv_iadd hx hb dX8_size_16 ?_
        refine lv_istore_n (lv' := [(1, .int (x1_4 + ((p1 >>> (x2_4 &&& 31)) &&& 1))), (0, .int p1), (2, .int x2_4)]) hx hb dX8_size_17 rfl hl (by decide) rfl (fun ls hl => ?_)
        refine lv_iinc (v := (x2_4 + 1)) (lv' := [(2, .int (x2_4 + 1)), (1, .int (x1_4 + ((p1 >>> (x2_4 &&& 31)) &&& 1))), (0, .int p1)]) hx hb dX8_size_18 hl (k := 2) rfl rfl (by decide) rfl (fun ls hl => ?_)
        refine lv_goto (tgt := 4) hx hb dX8_size_21 (by decide) ?_
        exact ih4 (x1_4 + ((p1 >>> (x2_4 &&& 31)) &&& 1)) (x2_4 + 1) hf _ _ hP hD hS ls (lv_sub hl [2, 1, 0] rfl)
  exact L4 fu 0 0 hf _ _ hP hD hS ls (lv_sub hl [2, 1, 0] rfl)

def fX8_letter (p1 : Int32) (v_pageLength : Int32) (v_page : Nat → Int32) : Option (Int32 × Int32 × (Nat → Int32)) :=
  bd (fX8_within p1 32 126) (fun r_1 => if r_1 = 0 then (some ((-102), v_pageLength, v_page)) else (if v_pageLength = 20 then (some ((-104), v_pageLength, v_page)) else (gd (inb v_pageLength 20) (some ((v_pageLength + 1), (v_pageLength + 1), (upd v_page v_pageLength.toNatClampNeg (vp_nar .byte p1.toInt8.toInt32)))))))
def rmX8_letter : Room := { frames := 1, cells := 0, slots := 0, locals := 22 }
set_option maxRecDepth 100000 in
set_option maxHeartbeats 4000000 in
theorem ctX8_letter (l : Launch) (z : Nat × Nat × Nat) (dC : Nat → ClassId) (dI : Nat → Nat → Nat) (cI cB cE : ClassId) (a : Nat → Nat) (v_boards : Int32) (v_kind : Int32) (v_rows : Int32) (v_outer : Nat → Int32) (v_inner : Nat → Int32) (v_content : Nat → Int32) (v_boxes : Int32) (v_rowOf : Nat → Int32) (v_columnOf : Nat → Int32) (v_seen : Int32) (v_seenWhat : Nat → Int32) (v_seenCan : Nat → Int32) (v_pageLength : Int32) (v_page : Nat → Int32) (v_isWhole : Int32) (v_newKind : Int32) (v_newRows : Int32) (v_newOuter : Nat → Int32) (v_newInner : Nat → Int32) (v_newContent : Nat → Int32) (v_now : Nat → Int32) (v_left : Nat → Int32) (v_box : Int32) (v_isCounted : Int32) (v_counted : Int32) (v_given : Nat → Int32) (v_isTermed : Int32) (v_terms : Int32) (v_term : Nat → Int32) (v_shape : Nat → Int32) (v_readBoxes : Int32) (v_readRow : Nat → Int32) (v_readColumn : Nat → Int32) (v_grid : Nat → Int32) (v_often : Nat → Int32) (v_seedNow : Int64) (v_isKept : Int32) (v_keptBoard : Int32) (v_keptKind : Int32) (v_keptRows : Int32) (v_keptSeen : Int32) (v_keptOuter : Nat → Int32) (v_keptInner : Nat → Int32) (v_keptContent : Nat → Int32) (v_keptWhat : Nat → Int32) (v_keptCan : Nat → Int32) (v_h : Int64) (p1 : Int32) (fin : Int32 × Int32 × (Nat → Int32)) (hf : fX8_letter p1 v_pageLength v_page = some fin) : Ct l z (dC, dI) (tyL cI cB cE) yX8_letter wsX8_letter rmX8_letter [.ref (a 0), .int p1] (wX8 cI cB cE a v_boards v_kind v_rows v_outer v_inner v_content v_boxes v_rowOf v_columnOf v_seen v_seenWhat v_seenCan v_pageLength v_page v_isWhole v_newKind v_newRows v_newOuter v_newInner v_newContent v_now v_left v_box v_isCounted v_counted v_given v_isTermed v_terms v_term v_shape v_readBoxes v_readRow v_readColumn v_grid v_often v_seedNow v_isKept v_keptBoard v_keptKind v_keptRows v_keptSeen v_keptOuter v_keptInner v_keptContent v_keptWhat v_keptCan v_h) (some (.int fin.1)) (wX8 cI cB cE a v_boards v_kind v_rows v_outer v_inner v_content v_boxes v_rowOf v_columnOf v_seen v_seenWhat v_seenCan fin.2.1 fin.2.2 v_isWhole v_newKind v_newRows v_newOuter v_newInner v_newContent v_now v_left v_box v_isCounted v_counted v_given v_isTermed v_terms v_term v_shape v_readBoxes v_readRow v_readColumn v_grid v_often v_seedNow v_isKept v_keptBoard v_keptKind v_keptRows v_keptSeen v_keptOuter v_keptInner v_keptContent v_keptWhat v_keptCan v_h) := by
  refine Met.ofC (cc := cX8_letter) (maxL := 2) (ret := (some .int)) (by decide) rfl (Nat.le_of_ble_eq_true rfl) ?_
  intro p e s m args below meth c A Q ls hx hb hr hml hts hown hlocks hA hK hP hD hZ hS hQ hl
  have hown : s.vm.findClass RX8 = some m.cls := hown
  have hl : lv_has ls 2 [(0, .ref (a 0)), (1, .int p1)] := hl
  unfold fX8_letter at hf
  refine lv_iload_n hx hb dX8_letter_0 rfl (lv_at hl 1 rfl) ?_
  refine lv_bipush (v := 32) hx hb dX8_letter_1 (by decide) ?_
  refine lv_bipush (v := 126) hx hb dX8_letter_3 (by decide) ?_
  obtain ⟨r_1, hr_1, hf⟩ := bd_some hf
  refine cx_run0 (cx_S (A := A) (As := [.int p1, .int 32, .int 126]) (rest := []) ⟨hx, hb, hml, hown, hts⟩ (ctX8_within l z dC dI cI cB cE p1 32 126 r_1 hr_1) (va_cwS 3 hts gX8_letter_X8_within rfl rfl rfl (by decide +kernel) ⟨Nat.le_of_ble_eq_true rfl, Nat.le_of_ble_eq_true rfl⟩) hK vaP0 vaD0 hZ hS hA rfl hl.1 rfl (Nat.le_of_ble_eq_true rfl) dX8_letter_5) hP hS hA [.int r_1] rfl (fun H locs hP hS => ?_)
  refine lv_if_ne (tgt := 14) hx hb dX8_letter_8 (by decide) (fun c_2 => ?_) (fun c_2 => ?_)
  · rw [if_neg c_2] at hf
    refine lv_aload_n hx hb dX8_letter_14 rfl (lv_at hl 0 rfl) ?_
    refine va_get (D := (dC, dI)) (ci := 8) (C := RX8) (T := TX8) (N := 47) hx hb hts (fun _ h => List.mem_cons_of_mem _ (List.mem_append_right _ h)) hown hK hP 0 rfl rfl 12 (by decide) (hts (.fieldLink RX8 90 "SkewBoardModel" "pageLength" "I") (List.mem_of_getElem? (i := 1) rfl)) (fun _ h9 => h9) rfl dX8_letter_15 ?_
    refine lv_bipush (v := 20) hx hb dX8_letter_18 (by decide) ?_
    refine lv_icmp_ne (tgt := 26) hx hb dX8_letter_20 (by decide) (fun c_3 => ?_) (fun c_3 => ?_)
    · rw [if_neg c_3] at hf
      refine lv_aload_n hx hb dX8_letter_26 rfl (lv_at hl 0 rfl) ?_
      refine va_get (D := (dC, dI)) (ci := 8) (C := RX8) (T := TX8) (N := 47) hx hb hts (fun _ h => List.mem_cons_of_mem _ (List.mem_append_right _ h)) hown hK hP 0 rfl rfl 13 (by decide) (hts (.fieldLink RX8 31 "SkewBoardModel" "page" "[B") (List.mem_of_getElem? (i := 2) rfl)) (fun _ h9 => h9) rfl dX8_letter_27 ?_
      refine lv_aload_n hx hb dX8_letter_30 rfl (lv_at hl 0 rfl) ?_
      refine va_get (D := (dC, dI)) (ci := 8) (C := RX8) (T := TX8) (N := 47) hx hb hts (fun _ h => List.mem_cons_of_mem _ (List.mem_append_right _ h)) hown hK hP 0 rfl rfl 12 (by decide) (hts (.fieldLink RX8 90 "SkewBoardModel" "pageLength" "I") (List.mem_of_getElem? (i := 1) rfl)) (fun _ h9 => h9) rfl dX8_letter_31 ?_
      refine lv_iload_n hx hb dX8_letter_34 rfl (lv_at hl 1 rfl) ?_
      refine lv_i2b hx hb dX8_letter_35 rfl ?_
      obtain ⟨g_4, hf⟩ := gd_some hf
      refine va_bast hx hb hK hP hD hS 8 1 rfl rfl (inb_vp g_4) dX8_letter_36 (fun H locs hP hD hS => ?_)
      have hP : va_P (dC, dI) vwCl (wX8 cI cB cE a v_boards v_kind v_rows v_outer v_inner v_content v_boxes v_rowOf v_columnOf v_seen v_seenWhat v_seenCan v_pageLength (upd v_page v_pageLength.toNatClampNeg (vp_nar .byte p1.toInt8.toInt32)) v_isWhole v_newKind v_newRows v_newOuter v_newInner v_newContent v_now v_left v_box v_isCounted v_counted v_given v_isTermed v_terms v_term v_shape v_readBoxes v_readRow v_readColumn v_grid v_often v_seedNow v_isKept v_keptBoard v_keptKind v_keptRows v_keptSeen v_keptOuter v_keptInner v_keptContent v_keptWhat v_keptCan v_h) H := hP
      have hD : va_D A (wX8 cI cB cE a v_boards v_kind v_rows v_outer v_inner v_content v_boxes v_rowOf v_columnOf v_seen v_seenWhat v_seenCan v_pageLength (upd v_page v_pageLength.toNatClampNeg (vp_nar .byte p1.toInt8.toInt32)) v_isWhole v_newKind v_newRows v_newOuter v_newInner v_newContent v_now v_left v_box v_isCounted v_counted v_given v_isTermed v_terms v_term v_shape v_readBoxes v_readRow v_readColumn v_grid v_often v_seedNow v_isKept v_keptBoard v_keptKind v_keptRows v_keptSeen v_keptOuter v_keptInner v_keptContent v_keptWhat v_keptCan v_h) := hD
      refine lv_aload_n hx hb dX8_letter_37 rfl (lv_at hl 0 rfl) ?_
      refine lv_dup hx hb dX8_letter_38 rfl ?_
      refine va_get (D := (dC, dI)) (ci := 8) (C := RX8) (T := TX8) (N := 47) hx hb hts (fun _ h => List.mem_cons_of_mem _ (List.mem_append_right _ h)) hown hK hP 0 rfl rfl 12 (by decide) (hts (.fieldLink RX8 90 "SkewBoardModel" "pageLength" "I") (List.mem_of_getElem? (i := 1) rfl)) (fun _ h9 => h9) rfl dX8_letter_39 ?_
      refine lv_iconst (v := 1) hx hb dX8_letter_42 (by decide) ?_
      refine lv_iadd hx hb dX8_letter_43 ?_
      refine va_put (D := (dC, dI)) (ci := 8) (v := .int (v_pageLength + 1)) (ty := .int) (C := RX8) (T := TX8) (N := 47) hx hb hts (fun _ h => List.mem_cons_of_mem _ (List.mem_append_right _ h)) tyX8 tyX8_ok nmX8 hown hK hP hD hS 0 rfl rfl 12 (by decide) (hts (.fieldLink RX8 90 "SkewBoardModel" "pageLength" "I") (List.mem_of_getElem? (i := 1) rfl)) (fun _ h9 => h9) rfl (by decide +kernel) rfl rfl (Nat.le_of_ble_eq_true rfl) dX8_letter_44 (fun H locs hP hD hS => ?_)
      have hP : va_P (dC, dI) vwCl (wX8 cI cB cE a v_boards v_kind v_rows v_outer v_inner v_content v_boxes v_rowOf v_columnOf v_seen v_seenWhat v_seenCan (v_pageLength + 1) (upd v_page v_pageLength.toNatClampNeg (vp_nar .byte p1.toInt8.toInt32)) v_isWhole v_newKind v_newRows v_newOuter v_newInner v_newContent v_now v_left v_box v_isCounted v_counted v_given v_isTermed v_terms v_term v_shape v_readBoxes v_readRow v_readColumn v_grid v_often v_seedNow v_isKept v_keptBoard v_keptKind v_keptRows v_keptSeen v_keptOuter v_keptInner v_keptContent v_keptWhat v_keptCan v_h) H := hP
      have hD : va_D A (wX8 cI cB cE a v_boards v_kind v_rows v_outer v_inner v_content v_boxes v_rowOf v_columnOf v_seen v_seenWhat v_seenCan (v_pageLength + 1) (upd v_page v_pageLength.toNatClampNeg (vp_nar .byte p1.toInt8.toInt32)) v_isWhole v_newKind v_newRows v_newOuter v_newInner v_newContent v_now v_left v_box v_isCounted v_counted v_given v_isTermed v_terms v_term v_shape v_readBoxes v_readRow v_readColumn v_grid v_often v_seedNow v_isKept v_keptBoard v_keptKind v_keptRows v_keptSeen v_keptOuter v_keptInner v_keptContent v_keptWhat v_keptCan v_h) := hD
      refine lv_aload_n hx hb dX8_letter_47 rfl (lv_at hl 0 rfl) ?_
      refine va_get (D := (dC, dI)) (ci := 8) (C := RX8) (T := TX8) (N := 47) hx hb hts (fun _ h => List.mem_cons_of_mem _ (List.mem_append_right _ h)) hown hK hP 0 rfl rfl 12 (by decide) (hts (.fieldLink RX8 90 "SkewBoardModel" "pageLength" "I") (List.mem_of_getElem? (i := 1) rfl)) (fun _ h9 => h9) rfl dX8_letter_48 ?_
      have hQ2 := hQ
      rw [← Option.some.inj hf] at hQ2
      exact cx_iret hQ2 hx hb hr hlocks hK hP hD hS dX8_letter_51
    · rw [if_pos c_3] at hf
      refine lv_bipush (v := (-104)) hx hb dX8_letter_23 (by decide) ?_
      have hQ2 := hQ
      rw [← Option.some.inj hf] at hQ2
      exact cx_iret hQ2 hx hb hr hlocks hK hP hD hS dX8_letter_25
  · rw [if_pos c_2] at hf
    refine lv_bipush (v := (-102)) hx hb dX8_letter_11 (by decide) ?_
    have hQ2 := hQ
    rw [← Option.some.inj hf] at hQ2
    exact cx_iret hQ2 hx hb hr hlocks hK hP hD hS dX8_letter_13

def fX8_blank (v_pageLength : Int32) : Option (Int32 × Int32) :=
  some (v_pageLength, 0)
def rmX8_blank : Room := { frames := 0, cells := 0, slots := 0, locals := 0 }
set_option maxRecDepth 100000 in
set_option maxHeartbeats 4000000 in
theorem ctX8_blank (l : Launch) (z : Nat × Nat × Nat) (dC : Nat → ClassId) (dI : Nat → Nat → Nat) (cI cB cE : ClassId) (a : Nat → Nat) (v_boards : Int32) (v_kind : Int32) (v_rows : Int32) (v_outer : Nat → Int32) (v_inner : Nat → Int32) (v_content : Nat → Int32) (v_boxes : Int32) (v_rowOf : Nat → Int32) (v_columnOf : Nat → Int32) (v_seen : Int32) (v_seenWhat : Nat → Int32) (v_seenCan : Nat → Int32) (v_pageLength : Int32) (v_page : Nat → Int32) (v_isWhole : Int32) (v_newKind : Int32) (v_newRows : Int32) (v_newOuter : Nat → Int32) (v_newInner : Nat → Int32) (v_newContent : Nat → Int32) (v_now : Nat → Int32) (v_left : Nat → Int32) (v_box : Int32) (v_isCounted : Int32) (v_counted : Int32) (v_given : Nat → Int32) (v_isTermed : Int32) (v_terms : Int32) (v_term : Nat → Int32) (v_shape : Nat → Int32) (v_readBoxes : Int32) (v_readRow : Nat → Int32) (v_readColumn : Nat → Int32) (v_grid : Nat → Int32) (v_often : Nat → Int32) (v_seedNow : Int64) (v_isKept : Int32) (v_keptBoard : Int32) (v_keptKind : Int32) (v_keptRows : Int32) (v_keptSeen : Int32) (v_keptOuter : Nat → Int32) (v_keptInner : Nat → Int32) (v_keptContent : Nat → Int32) (v_keptWhat : Nat → Int32) (v_keptCan : Nat → Int32) (v_h : Int64) (fin : Int32 × Int32) (hf : fX8_blank v_pageLength = some fin) : Ct l z (dC, dI) (tyL cI cB cE) yX8_blank wsX8_blank rmX8_blank [.ref (a 0)] (wX8 cI cB cE a v_boards v_kind v_rows v_outer v_inner v_content v_boxes v_rowOf v_columnOf v_seen v_seenWhat v_seenCan v_pageLength v_page v_isWhole v_newKind v_newRows v_newOuter v_newInner v_newContent v_now v_left v_box v_isCounted v_counted v_given v_isTermed v_terms v_term v_shape v_readBoxes v_readRow v_readColumn v_grid v_often v_seedNow v_isKept v_keptBoard v_keptKind v_keptRows v_keptSeen v_keptOuter v_keptInner v_keptContent v_keptWhat v_keptCan v_h) (some (.int fin.1)) (wX8 cI cB cE a v_boards v_kind v_rows v_outer v_inner v_content v_boxes v_rowOf v_columnOf v_seen v_seenWhat v_seenCan fin.2 v_page v_isWhole v_newKind v_newRows v_newOuter v_newInner v_newContent v_now v_left v_box v_isCounted v_counted v_given v_isTermed v_terms v_term v_shape v_readBoxes v_readRow v_readColumn v_grid v_often v_seedNow v_isKept v_keptBoard v_keptKind v_keptRows v_keptSeen v_keptOuter v_keptInner v_keptContent v_keptWhat v_keptCan v_h) := by
  refine Met.ofC (cc := cX8_blank) (maxL := 2) (ret := (some .int)) (by decide) rfl (Nat.le_of_ble_eq_true rfl) ?_
  intro p e s m args below meth c A Q ls hx hb hr hml hts hown hlocks hA hK hP hD hZ hS hQ hl
  have hown : s.vm.findClass RX8 = some m.cls := hown
  have hl : lv_has ls 2 [(0, .ref (a 0))] := hl
  unfold fX8_blank at hf
  refine lv_aload_n hx hb dX8_blank_0 rfl (lv_at hl 0 rfl) ?_
  refine va_get (D := (dC, dI)) (ci := 8) (C := RX8) (T := TX8) (N := 47) hx hb hts (fun _ h => List.mem_cons_of_mem _ (List.mem_append_right _ h)) hown hK hP 0 rfl rfl 12 (by decide) (hts (.fieldLink RX8 90 "SkewBoardModel" "pageLength" "I") (List.mem_of_getElem? (i := 1) rfl)) (fun _ h9 => h9) rfl dX8_blank_1 ?_
  refine lv_istore_n (lv' := [(1, .int v_pageLength), (0, .ref (a 0))]) hx hb dX8_blank_4 rfl hl (by decide) rfl (fun ls hl => ?_)
  refine lv_aload_n hx hb dX8_blank_5 rfl (lv_at hl 1 rfl) ?_
  refine lv_iconst (v := 0) hx hb dX8_blank_6 (by decide) ?_
  refine va_put (D := (dC, dI)) (ci := 8) (v := .int 0) (ty := .int) (C := RX8) (T := TX8) (N := 47) hx hb hts (fun _ h => List.mem_cons_of_mem _ (List.mem_append_right _ h)) tyX8 tyX8_ok nmX8 hown hK hP hD hS 0 rfl rfl 12 (by decide) (hts (.fieldLink RX8 90 "SkewBoardModel" "pageLength" "I") (List.mem_of_getElem? (i := 1) rfl)) (fun _ h9 => h9) rfl (by decide +kernel) rfl rfl (Nat.le_of_ble_eq_true rfl) dX8_blank_7 (fun H locs hP hD hS => ?_)
  have hP : va_P (dC, dI) vwCl (wX8 cI cB cE a v_boards v_kind v_rows v_outer v_inner v_content v_boxes v_rowOf v_columnOf v_seen v_seenWhat v_seenCan 0 v_page v_isWhole v_newKind v_newRows v_newOuter v_newInner v_newContent v_now v_left v_box v_isCounted v_counted v_given v_isTermed v_terms v_term v_shape v_readBoxes v_readRow v_readColumn v_grid v_often v_seedNow v_isKept v_keptBoard v_keptKind v_keptRows v_keptSeen v_keptOuter v_keptInner v_keptContent v_keptWhat v_keptCan v_h) H := hP
  have hD : va_D A (wX8 cI cB cE a v_boards v_kind v_rows v_outer v_inner v_content v_boxes v_rowOf v_columnOf v_seen v_seenWhat v_seenCan 0 v_page v_isWhole v_newKind v_newRows v_newOuter v_newInner v_newContent v_now v_left v_box v_isCounted v_counted v_given v_isTermed v_terms v_term v_shape v_readBoxes v_readRow v_readColumn v_grid v_often v_seedNow v_isKept v_keptBoard v_keptKind v_keptRows v_keptSeen v_keptOuter v_keptInner v_keptContent v_keptWhat v_keptCan v_h) := hD
  refine lv_iload_n hx hb dX8_blank_10 rfl (lv_at hl 0 rfl) ?_
  have hQ2 := hQ
  rw [← Option.some.inj hf] at hQ2
  exact cx_iret hQ2 hx hb hr hlocks hK hP hD hS dX8_blank_11

def fX8_kindBy (p1 : Int32) : Option (Int32) :=
  if p1 = 99 then (some 1) else if p1 = 102 then (some 0) else if p1 = 108 then (some 2) else if p1 = 115 then (some 3) else if p1 = 116 then (some 4) else (some (-1))
def rmX8_kindBy : Room := { frames := 0, cells := 0, slots := 0, locals := 0 }
set_option maxRecDepth 100000 in
set_option maxHeartbeats 4000000 in
theorem ctX8_kindBy (l : Launch) (z : Nat × Nat × Nat) (dC : Nat → ClassId) (dI : Nat → Nat → Nat) (cI cB cE : ClassId) (p1 : Int32) (fin : Int32) (hf : fX8_kindBy p1 = some fin) : Ct l z (dC, dI) (tyL cI cB cE) yX8_kindBy wsX8_kindBy rmX8_kindBy [.int p1] [] (some (.int fin)) [] := by
  refine Met.ofC (cc := cX8_kindBy) (maxL := 1) (ret := (some .int)) (by decide) rfl (Nat.le_of_ble_eq_true rfl) ?_
  intro p e s m args below meth c A Q ls hx hb hr hml hts hown hlocks hA hK hP hD hZ hS hQ hl
  have hown : s.vm.findClass RX8 = some m.cls := hown
  have hl : lv_has ls 1 [(0, .int p1)] := hl
  unfold fX8_kindBy at hf
  refine lv_iload_n hx hb dX8_kindBy_0 rfl (lv_at hl 0 rfl) ?_
  by_cases c_1 : p1 = 99
  · rw [if_pos c_1] at hf
    refine lv_lookup (off := 53) (tgt := 54) hx hb dX8_kindBy_1 (by decide) (by rw [c_1]; rfl) (by decide) ?_
    refine lv_iconst (v := 1) hx hb dX8_kindBy_54 (by decide) ?_
    have hQ2 := hQ
    rw [← Option.some.inj hf] at hQ2
    exact cx_iret hQ2 hx hb hr hlocks hK hP hD hS dX8_kindBy_55
  · rw [if_neg c_1] at hf
    by_cases c_2 : p1 = 102
    · rw [if_pos c_2] at hf
      refine lv_lookup (off := 51) (tgt := 52) hx hb dX8_kindBy_1 (by decide) (by rw [c_2]; rfl) (by decide) ?_
      refine lv_iconst (v := 0) hx hb dX8_kindBy_52 (by decide) ?_
      have hQ2 := hQ
      rw [← Option.some.inj hf] at hQ2
      exact cx_iret hQ2 hx hb hr hlocks hK hP hD hS dX8_kindBy_53
    · rw [if_neg c_2] at hf
      by_cases c_3 : p1 = 108
      · rw [if_pos c_3] at hf
        refine lv_lookup (off := 55) (tgt := 56) hx hb dX8_kindBy_1 (by decide) (by rw [c_3]; rfl) (by decide) ?_
        refine lv_iconst (v := 2) hx hb dX8_kindBy_56 (by decide) ?_
        have hQ2 := hQ
        rw [← Option.some.inj hf] at hQ2
        exact cx_iret hQ2 hx hb hr hlocks hK hP hD hS dX8_kindBy_57
      · rw [if_neg c_3] at hf
        by_cases c_4 : p1 = 115
        · rw [if_pos c_4] at hf
          refine lv_lookup (off := 57) (tgt := 58) hx hb dX8_kindBy_1 (by decide) (by rw [c_4]; rfl) (by decide) ?_
          refine lv_iconst (v := 3) hx hb dX8_kindBy_58 (by decide) ?_
          have hQ2 := hQ
          rw [← Option.some.inj hf] at hQ2
          exact cx_iret hQ2 hx hb hr hlocks hK hP hD hS dX8_kindBy_59
        · rw [if_neg c_4] at hf
          by_cases c_5 : p1 = 116
          · rw [if_pos c_5] at hf
            refine lv_lookup (off := 59) (tgt := 60) hx hb dX8_kindBy_1 (by decide) (by rw [c_5]; rfl) (by decide) ?_
            refine lv_iconst (v := 4) hx hb dX8_kindBy_60 (by decide) ?_
            have hQ2 := hQ
            rw [← Option.some.inj hf] at hQ2
            exact cx_iret hQ2 hx hb hr hlocks hK hP hD hS dX8_kindBy_61
          · rw [if_neg c_5] at hf
            have tc_1 : ¬ (p1).toInt = 99 := fun h => c_1 (Int32.toInt_inj.mp h)
            have tc_2 : ¬ (p1).toInt = 102 := fun h => c_2 (Int32.toInt_inj.mp h)
            have tc_3 : ¬ (p1).toInt = 108 := fun h => c_3 (Int32.toInt_inj.mp h)
            have tc_4 : ¬ (p1).toInt = 115 := fun h => c_4 (Int32.toInt_inj.mp h)
            have tc_5 : ¬ (p1).toInt = 116 := fun h => c_5 (Int32.toInt_inj.mp h)
            refine lv_lookup (off := 61) (tgt := 62) hx hb dX8_kindBy_1 (by decide) (by simp only [Op.lookupswitch.offset_cons, Op.lookupswitch.offset_nil, if_neg (Ne.symm tc_1), if_neg (Ne.symm tc_2), if_neg (Ne.symm tc_3), if_neg (Ne.symm tc_4), if_neg (Ne.symm tc_5)]) (by decide) ?_
            refine lv_iconst (v := (-1)) hx hb dX8_kindBy_62 (by decide) ?_
            have hQ2 := hQ
            rw [← Option.some.inj hf] at hQ2
            exact cx_iret hQ2 hx hb hr hlocks hK hP hD hS dX8_kindBy_63

def fX8_letterOf (p1 : Int32) : Option (Int32) :=
  if p1 = 1 then (some 99) else if p1 = 2 then (some 108) else if p1 = 3 then (some 115) else if p1 = 4 then (some 116) else (some 102)
def rmX8_letterOf : Room := { frames := 0, cells := 0, slots := 0, locals := 0 }
set_option maxRecDepth 100000 in
set_option maxHeartbeats 4000000 in
theorem ctX8_letterOf (l : Launch) (z : Nat × Nat × Nat) (dC : Nat → ClassId) (dI : Nat → Nat → Nat) (cI cB cE : ClassId) (p1 : Int32) (fin : Int32) (hf : fX8_letterOf p1 = some fin) : Ct l z (dC, dI) (tyL cI cB cE) yX8_letterOf wsX8_letterOf rmX8_letterOf [.int p1] [] (some (.int fin)) [] := by
  refine Met.ofC (cc := cX8_letterOf) (maxL := 1) (ret := (some .int)) (by decide) rfl (Nat.le_of_ble_eq_true rfl) ?_
  intro p e s m args below meth c A Q ls hx hb hr hml hts hown hlocks hA hK hP hD hZ hS hQ hl
  have hown : s.vm.findClass RX8 = some m.cls := hown
  have hl : lv_has ls 1 [(0, .int p1)] := hl
  unfold fX8_letterOf at hf
  refine lv_iload_n hx hb dX8_letterOf_0 rfl (lv_at hl 0 rfl) ?_
  by_cases c_1 : p1 = 1
  · rw [if_pos c_1] at hf
    refine lv_tableIn (off := 31) (tgt := 32) hx hb dX8_letterOf_1 (by rw [c_1]; decide) (by rw [c_1]; decide) (by rw [c_1]; rfl) (by decide) ?_
    refine lv_bipush (v := 99) hx hb dX8_letterOf_32 (by decide) ?_
    have hQ2 := hQ
    rw [← Option.some.inj hf] at hQ2
    exact cx_iret hQ2 hx hb hr hlocks hK hP hD hS dX8_letterOf_34
  · rw [if_neg c_1] at hf
    by_cases c_2 : p1 = 2
    · rw [if_pos c_2] at hf
      refine lv_tableIn (off := 34) (tgt := 35) hx hb dX8_letterOf_1 (by rw [c_2]; decide) (by rw [c_2]; decide) (by rw [c_2]; rfl) (by decide) ?_
      refine lv_bipush (v := 108) hx hb dX8_letterOf_35 (by decide) ?_
      have hQ2 := hQ
      rw [← Option.some.inj hf] at hQ2
      exact cx_iret hQ2 hx hb hr hlocks hK hP hD hS dX8_letterOf_37
    · rw [if_neg c_2] at hf
      by_cases c_3 : p1 = 3
      · rw [if_pos c_3] at hf
        refine lv_tableIn (off := 37) (tgt := 38) hx hb dX8_letterOf_1 (by rw [c_3]; decide) (by rw [c_3]; decide) (by rw [c_3]; rfl) (by decide) ?_
        refine lv_bipush (v := 115) hx hb dX8_letterOf_38 (by decide) ?_
        have hQ2 := hQ
        rw [← Option.some.inj hf] at hQ2
        exact cx_iret hQ2 hx hb hr hlocks hK hP hD hS dX8_letterOf_40
      · rw [if_neg c_3] at hf
        by_cases c_4 : p1 = 4
        · rw [if_pos c_4] at hf
          refine lv_tableIn (off := 40) (tgt := 41) hx hb dX8_letterOf_1 (by rw [c_4]; decide) (by rw [c_4]; decide) (by rw [c_4]; rfl) (by decide) ?_
          refine lv_bipush (v := 116) hx hb dX8_letterOf_41 (by decide) ?_
          have hQ2 := hQ
          rw [← Option.some.inj hf] at hQ2
          exact cx_iret hQ2 hx hb hr hlocks hK hP hD hS dX8_letterOf_43
        · rw [if_neg c_4] at hf
          have tc_1 : ¬ (p1).toInt = 1 := fun h => c_1 (Int32.toInt_inj.mp h)
          have tc_2 : ¬ (p1).toInt = 2 := fun h => c_2 (Int32.toInt_inj.mp h)
          have tc_3 : ¬ (p1).toInt = 3 := fun h => c_3 (Int32.toInt_inj.mp h)
          have tc_4 : ¬ (p1).toInt = 4 := fun h => c_4 (Int32.toInt_inj.mp h)
          refine lv_tableOut (tgt := 44) hx hb dX8_letterOf_1 (by omega) (by decide) ?_
          refine lv_bipush (v := 102) hx hb dX8_letterOf_44 (by decide) ?_
          have hQ2 := hQ
          rw [← Option.some.inj hf] at hQ2
          exact cx_iret hQ2 hx hb hr hlocks hK hP hD hS dX8_letterOf_46

def fX8_at_J18 (y0_18 : Int32) : Option (Int32) :=
    some y0_18
def fX8_at (p1 : Int32) (v_pageLength : Int32) (v_page : Nat → Int32) : Option (Int32) :=
  if v_pageLength ≤ p1 then (fX8_at_J18 0) else (gd (inb p1 20) (fX8_at_J18 (v_page p1.toNatClampNeg)))
def rmX8_at : Room := { frames := 0, cells := 0, slots := 0, locals := 0 }
set_option maxRecDepth 100000 in
set_option maxHeartbeats 4000000 in
theorem ctX8_at (l : Launch) (z : Nat × Nat × Nat) (dC : Nat → ClassId) (dI : Nat → Nat → Nat) (cI cB cE : ClassId) (a : Nat → Nat) (v_boards : Int32) (v_kind : Int32) (v_rows : Int32) (v_outer : Nat → Int32) (v_inner : Nat → Int32) (v_content : Nat → Int32) (v_boxes : Int32) (v_rowOf : Nat → Int32) (v_columnOf : Nat → Int32) (v_seen : Int32) (v_seenWhat : Nat → Int32) (v_seenCan : Nat → Int32) (v_pageLength : Int32) (v_page : Nat → Int32) (v_isWhole : Int32) (v_newKind : Int32) (v_newRows : Int32) (v_newOuter : Nat → Int32) (v_newInner : Nat → Int32) (v_newContent : Nat → Int32) (v_now : Nat → Int32) (v_left : Nat → Int32) (v_box : Int32) (v_isCounted : Int32) (v_counted : Int32) (v_given : Nat → Int32) (v_isTermed : Int32) (v_terms : Int32) (v_term : Nat → Int32) (v_shape : Nat → Int32) (v_readBoxes : Int32) (v_readRow : Nat → Int32) (v_readColumn : Nat → Int32) (v_grid : Nat → Int32) (v_often : Nat → Int32) (v_seedNow : Int64) (v_isKept : Int32) (v_keptBoard : Int32) (v_keptKind : Int32) (v_keptRows : Int32) (v_keptSeen : Int32) (v_keptOuter : Nat → Int32) (v_keptInner : Nat → Int32) (v_keptContent : Nat → Int32) (v_keptWhat : Nat → Int32) (v_keptCan : Nat → Int32) (v_h : Int64) (p1 : Int32) (fin : Int32) (hf : fX8_at p1 v_pageLength v_page = some fin) : Ct l z (dC, dI) (tyL cI cB cE) yX8_at wsX8_at rmX8_at [.ref (a 0), .int p1] (wX8 cI cB cE a v_boards v_kind v_rows v_outer v_inner v_content v_boxes v_rowOf v_columnOf v_seen v_seenWhat v_seenCan v_pageLength v_page v_isWhole v_newKind v_newRows v_newOuter v_newInner v_newContent v_now v_left v_box v_isCounted v_counted v_given v_isTermed v_terms v_term v_shape v_readBoxes v_readRow v_readColumn v_grid v_often v_seedNow v_isKept v_keptBoard v_keptKind v_keptRows v_keptSeen v_keptOuter v_keptInner v_keptContent v_keptWhat v_keptCan v_h) (some (.int fin)) (wX8 cI cB cE a v_boards v_kind v_rows v_outer v_inner v_content v_boxes v_rowOf v_columnOf v_seen v_seenWhat v_seenCan v_pageLength v_page v_isWhole v_newKind v_newRows v_newOuter v_newInner v_newContent v_now v_left v_box v_isCounted v_counted v_given v_isTermed v_terms v_term v_shape v_readBoxes v_readRow v_readColumn v_grid v_often v_seedNow v_isKept v_keptBoard v_keptKind v_keptRows v_keptSeen v_keptOuter v_keptInner v_keptContent v_keptWhat v_keptCan v_h) := by
  refine Met.ofC (cc := cX8_at) (maxL := 2) (ret := (some .int)) (by decide) rfl (Nat.le_of_ble_eq_true rfl) ?_
  intro p e s m args below meth c A Q ls hx hb hr hml hts hown hlocks hA hK hP hD hZ hS hQ hl
  have hown : s.vm.findClass RX8 = some m.cls := hown
  have hl : lv_has ls 2 [(0, .ref (a 0)), (1, .int p1)] := hl
  unfold fX8_at at hf
  refine lv_iload_n hx hb dX8_at_0 rfl (lv_at hl 1 rfl) ?_
  refine lv_aload_n hx hb dX8_at_1 rfl (lv_at hl 0 rfl) ?_
  refine va_get (D := (dC, dI)) (ci := 8) (C := RX8) (T := TX8) (N := 47) hx hb hts (fun _ h => List.mem_cons_of_mem _ (List.mem_append_right _ h)) hown hK hP 0 rfl rfl 12 (by decide) (hts (.fieldLink RX8 90 "SkewBoardModel" "pageLength" "I") (List.mem_of_getElem? (i := 1) rfl)) (fun _ h9 => h9) rfl dX8_at_2 ?_
  have J18 : ∀ (y0_18 : Int32), fX8_at_J18  y0_18 = some fin → ∀ (H : Heap) (locs : List Loc), va_P (dC, dI) vwCl (wX8 cI cB cE a v_boards v_kind v_rows v_outer v_inner v_content v_boxes v_rowOf v_columnOf v_seen v_seenWhat v_seenCan v_pageLength v_page v_isWhole v_newKind v_newRows v_newOuter v_newInner v_newContent v_now v_left v_box v_isCounted v_counted v_given v_isTermed v_terms v_term v_shape v_readBoxes v_readRow v_readColumn v_grid v_often v_seedNow v_isKept v_keptBoard v_keptKind v_keptRows v_keptSeen v_keptOuter v_keptInner v_keptContent v_keptWhat v_keptCan v_h) H → va_D A (wX8 cI cB cE a v_boards v_kind v_rows v_outer v_inner v_content v_boxes v_rowOf v_columnOf v_seen v_seenWhat v_seenCan v_pageLength v_page v_isWhole v_newKind v_newRows v_newOuter v_newInner v_newContent v_now v_left v_box v_isCounted v_counted v_given v_isTermed v_terms v_term v_shape v_readBoxes v_readRow v_readColumn v_grid v_often v_seedNow v_isKept v_keptBoard v_keptKind v_keptRows v_keptSeen v_keptOuter v_keptInner v_keptContent v_keptWhat v_keptCan v_h) → va_S A s.heap H locs → ∀ (ls : Array Slot), lv_has ls 2 [] → W p l e rmX8_at s m args below meth c H locs 0 0 Q (F0 m 18 ls [.int y0_18]) := by
    intro y0_18 hf H locs hP hD hS ls hl
    unfold fX8_at_J18 at hf
    have hQ2 := hQ
    rw [← Option.some.inj hf] at hQ2
    exact cx_iret hQ2 hx hb hr hlocks hK hP hD hS dX8_at_18
  refine lv_icmp_ge (tgt := 17) hx hb dX8_at_5 (by decide) (fun c_1 => ?_) (fun c_1 => ?_)
  · rw [if_pos c_1] at hf
    refine lv_iconst (v := 0) hx hb dX8_at_17 (by decide) ?_
    exact J18 0 hf _ _ hP hD hS ls (lv_sub hl [] rfl)
  · rw [if_neg c_1] at hf
    refine lv_aload_n hx hb dX8_at_8 rfl (lv_at hl 0 rfl) ?_
    refine va_get (D := (dC, dI)) (ci := 8) (C := RX8) (T := TX8) (N := 47) hx hb hts (fun _ h => List.mem_cons_of_mem _ (List.mem_append_right _ h)) hown hK hP 0 rfl rfl 13 (by decide) (hts (.fieldLink RX8 31 "SkewBoardModel" "page" "[B") (List.mem_of_getElem? (i := 2) rfl)) (fun _ h9 => h9) rfl dX8_at_9 ?_
    refine lv_iload_n hx hb dX8_at_12 rfl (lv_at hl 1 rfl) ?_
    obtain ⟨g_2, hf⟩ := gd_some hf
    refine va_bald hx hb hK hP 8 1 rfl rfl (inb_vp g_2) dX8_at_13 ?_
    refine lv_goto (tgt := 18) hx hb dX8_at_14 (by decide) ?_
    exact J18 (v_page p1.toNatClampNeg) hf _ _ hP hD hS ls (lv_sub hl [] rfl)

def fX8_figure (p1 : Int32) (v_pageLength : Int32) (v_page : Nat → Int32) : Option (Int32) :=
  bd (fX8_at p1 v_pageLength v_page) (fun r_1 => some (r_1 - 48))
def rmX8_figure : Room := { frames := 1, cells := 0, slots := 0, locals := 21 }
set_option maxRecDepth 100000 in
set_option maxHeartbeats 4000000 in
theorem ctX8_figure (l : Launch) (z : Nat × Nat × Nat) (dC : Nat → ClassId) (dI : Nat → Nat → Nat) (cI cB cE : ClassId) (a : Nat → Nat) (v_boards : Int32) (v_kind : Int32) (v_rows : Int32) (v_outer : Nat → Int32) (v_inner : Nat → Int32) (v_content : Nat → Int32) (v_boxes : Int32) (v_rowOf : Nat → Int32) (v_columnOf : Nat → Int32) (v_seen : Int32) (v_seenWhat : Nat → Int32) (v_seenCan : Nat → Int32) (v_pageLength : Int32) (v_page : Nat → Int32) (v_isWhole : Int32) (v_newKind : Int32) (v_newRows : Int32) (v_newOuter : Nat → Int32) (v_newInner : Nat → Int32) (v_newContent : Nat → Int32) (v_now : Nat → Int32) (v_left : Nat → Int32) (v_box : Int32) (v_isCounted : Int32) (v_counted : Int32) (v_given : Nat → Int32) (v_isTermed : Int32) (v_terms : Int32) (v_term : Nat → Int32) (v_shape : Nat → Int32) (v_readBoxes : Int32) (v_readRow : Nat → Int32) (v_readColumn : Nat → Int32) (v_grid : Nat → Int32) (v_often : Nat → Int32) (v_seedNow : Int64) (v_isKept : Int32) (v_keptBoard : Int32) (v_keptKind : Int32) (v_keptRows : Int32) (v_keptSeen : Int32) (v_keptOuter : Nat → Int32) (v_keptInner : Nat → Int32) (v_keptContent : Nat → Int32) (v_keptWhat : Nat → Int32) (v_keptCan : Nat → Int32) (v_h : Int64) (p1 : Int32) (fin : Int32) (hf : fX8_figure p1 v_pageLength v_page = some fin) : Ct l z (dC, dI) (tyL cI cB cE) yX8_figure wsX8_figure rmX8_figure [.ref (a 0), .int p1] (wX8 cI cB cE a v_boards v_kind v_rows v_outer v_inner v_content v_boxes v_rowOf v_columnOf v_seen v_seenWhat v_seenCan v_pageLength v_page v_isWhole v_newKind v_newRows v_newOuter v_newInner v_newContent v_now v_left v_box v_isCounted v_counted v_given v_isTermed v_terms v_term v_shape v_readBoxes v_readRow v_readColumn v_grid v_often v_seedNow v_isKept v_keptBoard v_keptKind v_keptRows v_keptSeen v_keptOuter v_keptInner v_keptContent v_keptWhat v_keptCan v_h) (some (.int fin)) (wX8 cI cB cE a v_boards v_kind v_rows v_outer v_inner v_content v_boxes v_rowOf v_columnOf v_seen v_seenWhat v_seenCan v_pageLength v_page v_isWhole v_newKind v_newRows v_newOuter v_newInner v_newContent v_now v_left v_box v_isCounted v_counted v_given v_isTermed v_terms v_term v_shape v_readBoxes v_readRow v_readColumn v_grid v_often v_seedNow v_isKept v_keptBoard v_keptKind v_keptRows v_keptSeen v_keptOuter v_keptInner v_keptContent v_keptWhat v_keptCan v_h) := by
  refine Met.ofC (cc := cX8_figure) (maxL := 2) (ret := (some .int)) (by decide) rfl (Nat.le_of_ble_eq_true rfl) ?_
  intro p e s m args below meth c A Q ls hx hb hr hml hts hown hlocks hA hK hP hD hZ hS hQ hl
  have hown : s.vm.findClass RX8 = some m.cls := hown
  have hl : lv_has ls 2 [(0, .ref (a 0)), (1, .int p1)] := hl
  unfold fX8_figure at hf
  refine lv_aload_n hx hb dX8_figure_0 rfl (lv_at hl 0 rfl) ?_
  refine lv_iload_n hx hb dX8_figure_1 rfl (lv_at hl 1 rfl) ?_
  obtain ⟨r_1, hr_1, hf⟩ := bd_some hf
  refine cx_runW (cx_V (As := [.int p1]) (rest := []) ⟨hx, hb, hml, hown, hts⟩ (ctX8_at l z dC dI cI cB cE a v_boards v_kind v_rows v_outer v_inner v_content v_boxes v_rowOf v_columnOf v_seen v_seenWhat v_seenCan v_pageLength v_page v_isWhole v_newKind v_newRows v_newOuter v_newInner v_newContent v_now v_left v_box v_isCounted v_counted v_given v_isTermed v_terms v_term v_shape v_readBoxes v_readRow v_readColumn v_grid v_often v_seedNow v_isKept v_keptBoard v_keptKind v_keptRows v_keptSeen v_keptOuter v_keptInner v_keptContent v_keptWhat v_keptCan v_h p1 r_1 hr_1) (cwV 1 hts gX8_figure_X8_at rfl rfl rfl (by decide +kernel) ⟨Nat.le_of_ble_eq_true rfl, Nat.le_of_ble_eq_true rfl⟩) hK hP hD hZ hS hA (ci := 8) (q0 := 0) rfl rfl rfl hl.1 rfl (Nat.le_of_ble_eq_true rfl) dX8_figure_2) hD hS hA [.int r_1] rfl (fun H locs hP hD hS => ?_)
  refine lv_bipush (v := 48) hx hb dX8_figure_5 (by decide) ?_
  refine lv_isub hx hb dX8_figure_7 ?_
  have hQ2 := hQ
  rw [← Option.some.inj hf] at hQ2
  exact cx_iret hQ2 hx hb hr hlocks hK hP hD hS dX8_figure_8

def fX8_readOuter_J79 (x2_79 : Int32) (v_newRows_79 : Int32) (v_newOuter_79 : Nat → Int32) : Option (Int32 × Int32 × (Nat → Int32)) :=
    some (x2_79, v_newRows_79, v_newOuter_79)
def fX8_readOuter_J43 (v_pageLength : Int32) (v_page : Nat → Int32) (x2_7 : Int32) (v_newRows_7 : Int32) (v_newOuter_7 : Nat → Int32) (r_2 : Int32) (k79 : Int32 → Int32 → (Nat → Int32) → Option (Int32 × Int32 × (Nat → Int32))) (k7 : Int32 → Int32 → (Nat → Int32) → Option (Int32 × Int32 × (Nat → Int32))) (y2_43 : Int32) : Option (Int32 × Int32 × (Nat → Int32)) :=
    bd (fX8_within r_2 1 y2_43) (fun r_3 => if r_3 = 0 then (k79 x2_7 v_newRows_7 v_newOuter_7) else (bd (fX8_figure x2_7 v_pageLength v_page) (fun r_5 => gd (inb v_newRows_7 4) (k7 (x2_7 + 1) (v_newRows_7 + 1) (upd v_newOuter_7 v_newRows_7.toNatClampNeg r_5)))))
def fX8_readOuter_L7 (v_pageLength : Int32) (v_page : Nat → Int32) (k79 : Int32 → Int32 → (Nat → Int32) → Option (Int32 × Int32 × (Nat → Int32))) : Nat → Int32 → Int32 → (Nat → Int32) → Option (Int32 × Int32 × (Nat → Int32))
  | 0, _, _, _ => none
  | n + 1, x2_7, v_newRows_7, v_newOuter_7 =>
    if 4 ≤ v_newRows_7 then (k79 x2_7 v_newRows_7 v_newOuter_7) else (bd (fX8_figure x2_7 v_pageLength v_page) (fun r_2 => if v_newRows_7 = 0 then (fX8_readOuter_J43 v_pageLength v_page x2_7 v_newRows_7 v_newOuter_7 r_2 k79 (fX8_readOuter_L7 v_pageLength v_page k79 n) 5) else (gd (inb (v_newRows_7 - 1) 4) (fX8_readOuter_J43 v_pageLength v_page x2_7 v_newRows_7 v_newOuter_7 r_2 k79 (fX8_readOuter_L7 v_pageLength v_page k79 n) (v_newOuter_7 (v_newRows_7 - 1).toNatClampNeg)))))
def fX8_readOuter (p1 : Int32) (v_pageLength : Int32) (v_page : Nat → Int32) (v_newOuter : Nat → Int32) : Option (Int32 × Int32 × (Nat → Int32)) :=
  fX8_readOuter_L7 v_pageLength v_page fX8_readOuter_J79 fu p1 0 v_newOuter
def rmX8_readOuter : Room := { frames := 2, cells := 0, slots := 0, locals := 42 }
set_option maxRecDepth 100000 in
set_option maxHeartbeats 4000000 in
theorem ctX8_readOuter (l : Launch) (z : Nat × Nat × Nat) (dC : Nat → ClassId) (dI : Nat → Nat → Nat) (cI cB cE : ClassId) (a : Nat → Nat) (v_boards : Int32) (v_kind : Int32) (v_rows : Int32) (v_outer : Nat → Int32) (v_inner : Nat → Int32) (v_content : Nat → Int32) (v_boxes : Int32) (v_rowOf : Nat → Int32) (v_columnOf : Nat → Int32) (v_seen : Int32) (v_seenWhat : Nat → Int32) (v_seenCan : Nat → Int32) (v_pageLength : Int32) (v_page : Nat → Int32) (v_isWhole : Int32) (v_newKind : Int32) (v_newRows : Int32) (v_newOuter : Nat → Int32) (v_newInner : Nat → Int32) (v_newContent : Nat → Int32) (v_now : Nat → Int32) (v_left : Nat → Int32) (v_box : Int32) (v_isCounted : Int32) (v_counted : Int32) (v_given : Nat → Int32) (v_isTermed : Int32) (v_terms : Int32) (v_term : Nat → Int32) (v_shape : Nat → Int32) (v_readBoxes : Int32) (v_readRow : Nat → Int32) (v_readColumn : Nat → Int32) (v_grid : Nat → Int32) (v_often : Nat → Int32) (v_seedNow : Int64) (v_isKept : Int32) (v_keptBoard : Int32) (v_keptKind : Int32) (v_keptRows : Int32) (v_keptSeen : Int32) (v_keptOuter : Nat → Int32) (v_keptInner : Nat → Int32) (v_keptContent : Nat → Int32) (v_keptWhat : Nat → Int32) (v_keptCan : Nat → Int32) (v_h : Int64) (p1 : Int32) (fin : Int32 × Int32 × (Nat → Int32)) (hf : fX8_readOuter p1 v_pageLength v_page v_newOuter = some fin) : Ct l z (dC, dI) (tyL cI cB cE) yX8_readOuter wsX8_readOuter rmX8_readOuter [.ref (a 0), .int p1] (wX8 cI cB cE a v_boards v_kind v_rows v_outer v_inner v_content v_boxes v_rowOf v_columnOf v_seen v_seenWhat v_seenCan v_pageLength v_page v_isWhole v_newKind v_newRows v_newOuter v_newInner v_newContent v_now v_left v_box v_isCounted v_counted v_given v_isTermed v_terms v_term v_shape v_readBoxes v_readRow v_readColumn v_grid v_often v_seedNow v_isKept v_keptBoard v_keptKind v_keptRows v_keptSeen v_keptOuter v_keptInner v_keptContent v_keptWhat v_keptCan v_h) (some (.int fin.1)) (wX8 cI cB cE a v_boards v_kind v_rows v_outer v_inner v_content v_boxes v_rowOf v_columnOf v_seen v_seenWhat v_seenCan v_pageLength v_page v_isWhole v_newKind fin.2.1 fin.2.2 v_newInner v_newContent v_now v_left v_box v_isCounted v_counted v_given v_isTermed v_terms v_term v_shape v_readBoxes v_readRow v_readColumn v_grid v_often v_seedNow v_isKept v_keptBoard v_keptKind v_keptRows v_keptSeen v_keptOuter v_keptInner v_keptContent v_keptWhat v_keptCan v_h) := by
  refine Met.ofC (cc := cX8_readOuter) (maxL := 3) (ret := (some .int)) (by decide) rfl (Nat.le_of_ble_eq_true rfl) ?_
  intro p e s m args below meth c A Q ls hx hb hr hml hts hown hlocks hA hK hP hD hZ hS hQ hl
  have hown : s.vm.findClass RX8 = some m.cls := hown
  have hl : lv_has ls 3 [(0, .ref (a 0)), (1, .int p1)] := hl
  unfold fX8_readOuter at hf
  refine lv_iload_n hx hb dX8_readOuter_0 rfl (lv_at hl 1 rfl) ?_
  refine lv_istore_n (lv' := [(2, .int p1), (0, .ref (a 0)), (1, .int p1)]) hx hb dX8_readOuter_1 rfl hl (by decide) rfl (fun ls hl => ?_)
  refine lv_aload_n hx hb dX8_readOuter_2 rfl (lv_at hl 1 rfl) ?_
  refine lv_iconst (v := 0) hx hb dX8_readOuter_3 (by decide) ?_
  refine va_put (D := (dC, dI)) (ci := 8) (v := .int 0) (ty := .int) (C := RX8) (T := TX8) (N := 47) hx hb hts (fun _ h => List.mem_cons_of_mem _ (List.mem_append_right _ h)) tyX8 tyX8_ok nmX8 hown hK hP hD hS 0 rfl rfl 16 (by decide) (hts (.fieldLink RX8 98 "SkewBoardModel" "newRows" "I") (List.mem_of_getElem? (i := 1) rfl)) (fun _ h9 => h9) rfl (by decide +kernel) rfl rfl (Nat.le_of_ble_eq_true rfl) dX8_readOuter_4 (fun H locs hP hD hS => ?_)
  have hP : va_P (dC, dI) vwCl (wX8 cI cB cE a v_boards v_kind v_rows v_outer v_inner v_content v_boxes v_rowOf v_columnOf v_seen v_seenWhat v_seenCan v_pageLength v_page v_isWhole v_newKind 0 v_newOuter v_newInner v_newContent v_now v_left v_box v_isCounted v_counted v_given v_isTermed v_terms v_term v_shape v_readBoxes v_readRow v_readColumn v_grid v_often v_seedNow v_isKept v_keptBoard v_keptKind v_keptRows v_keptSeen v_keptOuter v_keptInner v_keptContent v_keptWhat v_keptCan v_h) H := hP
  have hD : va_D A (wX8 cI cB cE a v_boards v_kind v_rows v_outer v_inner v_content v_boxes v_rowOf v_columnOf v_seen v_seenWhat v_seenCan v_pageLength v_page v_isWhole v_newKind 0 v_newOuter v_newInner v_newContent v_now v_left v_box v_isCounted v_counted v_given v_isTermed v_terms v_term v_shape v_readBoxes v_readRow v_readColumn v_grid v_often v_seedNow v_isKept v_keptBoard v_keptKind v_keptRows v_keptSeen v_keptOuter v_keptInner v_keptContent v_keptWhat v_keptCan v_h) := hD
  have J79 : ∀ (x2_79 : Int32) (v_newRows_79 : Int32) (v_newOuter_79 : Nat → Int32), fX8_readOuter_J79  x2_79 v_newRows_79 v_newOuter_79 = some fin → ∀ (H : Heap) (locs : List Loc), va_P (dC, dI) vwCl (wX8 cI cB cE a v_boards v_kind v_rows v_outer v_inner v_content v_boxes v_rowOf v_columnOf v_seen v_seenWhat v_seenCan v_pageLength v_page v_isWhole v_newKind v_newRows_79 v_newOuter_79 v_newInner v_newContent v_now v_left v_box v_isCounted v_counted v_given v_isTermed v_terms v_term v_shape v_readBoxes v_readRow v_readColumn v_grid v_often v_seedNow v_isKept v_keptBoard v_keptKind v_keptRows v_keptSeen v_keptOuter v_keptInner v_keptContent v_keptWhat v_keptCan v_h) H → va_D A (wX8 cI cB cE a v_boards v_kind v_rows v_outer v_inner v_content v_boxes v_rowOf v_columnOf v_seen v_seenWhat v_seenCan v_pageLength v_page v_isWhole v_newKind v_newRows_79 v_newOuter_79 v_newInner v_newContent v_now v_left v_box v_isCounted v_counted v_given v_isTermed v_terms v_term v_shape v_readBoxes v_readRow v_readColumn v_grid v_often v_seedNow v_isKept v_keptBoard v_keptKind v_keptRows v_keptSeen v_keptOuter v_keptInner v_keptContent v_keptWhat v_keptCan v_h) → va_S A s.heap H locs → ∀ (ls : Array Slot), lv_has ls 3 [(2, .int x2_79)] → W p l e rmX8_readOuter s m args below meth c H locs 0 0 Q (F0 m 79 ls []) := by
    intro x2_79 v_newRows_79 v_newOuter_79 hf H locs hP hD hS ls hl
    unfold fX8_readOuter_J79 at hf
    refine lv_iload_n hx hb dX8_readOuter_79 rfl (lv_at hl 0 rfl) ?_
    have hQ2 := hQ
    rw [← Option.some.inj hf] at hQ2
    exact cx_iret hQ2 hx hb hr hlocks hK hP hD hS dX8_readOuter_80
  have L7 : ∀ (n7 : Nat) (x2_7 : Int32) (v_newRows_7 : Int32) (v_newOuter_7 : Nat → Int32), fX8_readOuter_L7 v_pageLength v_page (fX8_readOuter_J79) n7 x2_7 v_newRows_7 v_newOuter_7 = some fin → ∀ (H : Heap) (locs : List Loc), va_P (dC, dI) vwCl (wX8 cI cB cE a v_boards v_kind v_rows v_outer v_inner v_content v_boxes v_rowOf v_columnOf v_seen v_seenWhat v_seenCan v_pageLength v_page v_isWhole v_newKind v_newRows_7 v_newOuter_7 v_newInner v_newContent v_now v_left v_box v_isCounted v_counted v_given v_isTermed v_terms v_term v_shape v_readBoxes v_readRow v_readColumn v_grid v_often v_seedNow v_isKept v_keptBoard v_keptKind v_keptRows v_keptSeen v_keptOuter v_keptInner v_keptContent v_keptWhat v_keptCan v_h) H → va_D A (wX8 cI cB cE a v_boards v_kind v_rows v_outer v_inner v_content v_boxes v_rowOf v_columnOf v_seen v_seenWhat v_seenCan v_pageLength v_page v_isWhole v_newKind v_newRows_7 v_newOuter_7 v_newInner v_newContent v_now v_left v_box v_isCounted v_counted v_given v_isTermed v_terms v_term v_shape v_readBoxes v_readRow v_readColumn v_grid v_often v_seedNow v_isKept v_keptBoard v_keptKind v_keptRows v_keptSeen v_keptOuter v_keptInner v_keptContent v_keptWhat v_keptCan v_h) → va_S A s.heap H locs → ∀ (ls : Array Slot), lv_has ls 3 [(0, .ref (a 0)), (2, .int x2_7)] → W p l e rmX8_readOuter s m args below meth c H locs 0 0 Q (F0 m 7 ls []) := by
    intro n7
    induction n7 with
    | zero =>
      intro x2_7 v_newRows_7 v_newOuter_7 hf
      rw [fX8_readOuter_L7] at hf
      cases hf
    | succ n7 ih7 =>
      intro x2_7 v_newRows_7 v_newOuter_7 hf H locs hP hD hS ls hl
      rw [fX8_readOuter_L7] at hf
      refine lv_aload_n hx hb dX8_readOuter_7 rfl (lv_at hl 0 rfl) ?_
      refine va_get (D := (dC, dI)) (ci := 8) (C := RX8) (T := TX8) (N := 47) hx hb hts (fun _ h => List.mem_cons_of_mem _ (List.mem_append_right _ h)) hown hK hP 0 rfl rfl 16 (by decide) (hts (.fieldLink RX8 98 "SkewBoardModel" "newRows" "I") (List.mem_of_getElem? (i := 1) rfl)) (fun _ h9 => h9) rfl dX8_readOuter_8 ?_
      refine lv_iconst (v := 4) hx hb dX8_readOuter_11 (by decide) ?_
      refine lv_icmp_ge (tgt := 79) hx hb dX8_readOuter_12 (by decide) (fun c_1 => ?_) (fun c_1 => ?_)
      · rw [if_pos c_1] at hf
        exact J79 x2_7 v_newRows_7 v_newOuter_7 hf _ _ hP hD hS ls (lv_sub hl [1] rfl)
      · rw [if_neg c_1] at hf
        refine lv_aload_n hx hb dX8_readOuter_15 rfl (lv_at hl 0 rfl) ?_
        refine lv_iload_n hx hb dX8_readOuter_16 rfl (lv_at hl 1 rfl) ?_
        obtain ⟨r_2, hr_2, hf⟩ := bd_some hf
        refine cx_runW (cx_V (As := [.int x2_7]) (rest := []) ⟨hx, hb, hml, hown, hts⟩ (ctX8_figure l z dC dI cI cB cE a v_boards v_kind v_rows v_outer v_inner v_content v_boxes v_rowOf v_columnOf v_seen v_seenWhat v_seenCan v_pageLength v_page v_isWhole v_newKind v_newRows_7 v_newOuter_7 v_newInner v_newContent v_now v_left v_box v_isCounted v_counted v_given v_isTermed v_terms v_term v_shape v_readBoxes v_readRow v_readColumn v_grid v_often v_seedNow v_isKept v_keptBoard v_keptKind v_keptRows v_keptSeen v_keptOuter v_keptInner v_keptContent v_keptWhat v_keptCan v_h x2_7 r_2 hr_2) (cwV 1 hts gX8_readOuter_X8_figure rfl rfl rfl (by decide +kernel) ⟨Nat.le_of_ble_eq_true rfl, Nat.le_of_ble_eq_true rfl⟩) hK hP hD hZ hS hA (ci := 8) (q0 := 0) rfl rfl rfl hl.1 rfl (Nat.le_of_ble_eq_true rfl) dX8_readOuter_17) hD hS hA [.int r_2] rfl (fun H locs hP hD hS => ?_)
        refine lv_iconst (v := 1) hx hb dX8_readOuter_20 (by decide) ?_
        refine lv_aload_n hx hb dX8_readOuter_21 rfl (lv_at hl 0 rfl) ?_
        refine va_get (D := (dC, dI)) (ci := 8) (C := RX8) (T := TX8) (N := 47) hx hb hts (fun _ h => List.mem_cons_of_mem _ (List.mem_append_right _ h)) hown hK hP 0 rfl rfl 16 (by decide) (hts (.fieldLink RX8 98 "SkewBoardModel" "newRows" "I") (List.mem_of_getElem? (i := 1) rfl)) (fun _ h9 => h9) rfl dX8_readOuter_22 ?_
        have J43 : ∀ (y2_43 : Int32), fX8_readOuter_J43 v_pageLength v_page x2_7 v_newRows_7 v_newOuter_7 r_2 (fX8_readOuter_J79) (fX8_readOuter_L7 v_pageLength v_page (fX8_readOuter_J79) n7) y2_43 = some fin → ∀ (H : Heap) (locs : List Loc), va_P (dC, dI) vwCl (wX8 cI cB cE a v_boards v_kind v_rows v_outer v_inner v_content v_boxes v_rowOf v_columnOf v_seen v_seenWhat v_seenCan v_pageLength v_page v_isWhole v_newKind v_newRows_7 v_newOuter_7 v_newInner v_newContent v_now v_left v_box v_isCounted v_counted v_given v_isTermed v_terms v_term v_shape v_readBoxes v_readRow v_readColumn v_grid v_often v_seedNow v_isKept v_keptBoard v_keptKind v_keptRows v_keptSeen v_keptOuter v_keptInner v_keptContent v_keptWhat v_keptCan v_h) H → va_D A (wX8 cI cB cE a v_boards v_kind v_rows v_outer v_inner v_content v_boxes v_rowOf v_columnOf v_seen v_seenWhat v_seenCan v_pageLength v_page v_isWhole v_newKind v_newRows_7 v_newOuter_7 v_newInner v_newContent v_now v_left v_box v_isCounted v_counted v_given v_isTermed v_terms v_term v_shape v_readBoxes v_readRow v_readColumn v_grid v_often v_seedNow v_isKept v_keptBoard v_keptKind v_keptRows v_keptSeen v_keptOuter v_keptInner v_keptContent v_keptWhat v_keptCan v_h) → va_S A s.heap H locs → ∀ (ls : Array Slot), lv_has ls 3 [(0, .ref (a 0)), (2, .int x2_7)] → W p l e rmX8_readOuter s m args below meth c H locs 0 0 Q (F0 m 43 ls [.int y2_43, .int 1, .int r_2]) := by
          intro y2_43 hf H locs hP hD hS ls hl
          unfold fX8_readOuter_J43 at hf
          obtain ⟨r_3, hr_3, hf⟩ := bd_some hf
          refine cx_run0 (cx_S (A := A) (As := [.int r_2, .int 1, .int y2_43]) (rest := []) ⟨hx, hb, hml, hown, hts⟩ (ctX8_within l z dC dI cI cB cE r_2 1 y2_43 r_3 hr_3) (va_cwS 3 hts gX8_readOuter_X8_within rfl rfl rfl (by decide +kernel) ⟨Nat.le_of_ble_eq_true rfl, Nat.le_of_ble_eq_true rfl⟩) hK vaP0 vaD0 hZ hS hA rfl hl.1 rfl (Nat.le_of_ble_eq_true rfl) dX8_readOuter_43) hP hS hA [.int r_3] rfl (fun H locs hP hS => ?_)
          refine lv_if_eq (tgt := 79) hx hb dX8_readOuter_46 (by decide) (fun c_4 => ?_) (fun c_4 => ?_)
          · rw [if_pos c_4] at hf
            exact J79 x2_7 v_newRows_7 v_newOuter_7 hf _ _ hP hD hS ls (lv_sub hl [1] rfl)
          · rw [if_neg c_4] at hf
            refine lv_aload_n hx hb dX8_readOuter_49 rfl (lv_at hl 0 rfl) ?_
            refine va_get (D := (dC, dI)) (ci := 8) (C := RX8) (T := TX8) (N := 47) hx hb hts (fun _ h => List.mem_cons_of_mem _ (List.mem_append_right _ h)) hown hK hP 0 rfl rfl 17 (by decide) (hts (.fieldLink RX8 35 "SkewBoardModel" "newOuter" "[I") (List.mem_of_getElem? (i := 2) rfl)) (fun _ h9 => h9) rfl dX8_readOuter_50 ?_
            refine lv_aload_n hx hb dX8_readOuter_53 rfl (lv_at hl 0 rfl) ?_
            refine va_get (D := (dC, dI)) (ci := 8) (C := RX8) (T := TX8) (N := 47) hx hb hts (fun _ h => List.mem_cons_of_mem _ (List.mem_append_right _ h)) hown hK hP 0 rfl rfl 16 (by decide) (hts (.fieldLink RX8 98 "SkewBoardModel" "newRows" "I") (List.mem_of_getElem? (i := 1) rfl)) (fun _ h9 => h9) rfl dX8_readOuter_54 ?_
            refine lv_aload_n hx hb dX8_readOuter_57 rfl (lv_at hl 0 rfl) ?_
            refine lv_iload_n hx hb dX8_readOuter_58 rfl (lv_at hl 1 rfl) ?_
            obtain ⟨r_5, hr_5, hf⟩ := bd_some hf
            refine cx_runW (cx_V (As := [.int x2_7]) (rest := [.int v_newRows_7, .ref (a 9)]) ⟨hx, hb, hml, hown, hts⟩ (ctX8_figure l z dC dI cI cB cE a v_boards v_kind v_rows v_outer v_inner v_content v_boxes v_rowOf v_columnOf v_seen v_seenWhat v_seenCan v_pageLength v_page v_isWhole v_newKind v_newRows_7 v_newOuter_7 v_newInner v_newContent v_now v_left v_box v_isCounted v_counted v_given v_isTermed v_terms v_term v_shape v_readBoxes v_readRow v_readColumn v_grid v_often v_seedNow v_isKept v_keptBoard v_keptKind v_keptRows v_keptSeen v_keptOuter v_keptInner v_keptContent v_keptWhat v_keptCan v_h x2_7 r_5 hr_5) (cwV 1 hts gX8_readOuter_X8_figure rfl rfl rfl (by decide +kernel) ⟨Nat.le_of_ble_eq_true rfl, Nat.le_of_ble_eq_true rfl⟩) hK hP hD hZ hS hA (ci := 8) (q0 := 0) rfl rfl rfl hl.1 rfl (Nat.le_of_ble_eq_true rfl) dX8_readOuter_59) hD hS hA [.int r_5, .int v_newRows_7, .ref (a 9)] rfl (fun H locs hP hD hS => ?_)
            obtain ⟨g_6, hf⟩ := gd_some hf
            refine va_iast hx hb hK hP hD hS 9 0 rfl rfl (inb_vp g_6) dX8_readOuter_62 (fun H locs hP hD hS => ?_)
            have hP : va_P (dC, dI) vwCl (wX8 cI cB cE a v_boards v_kind v_rows v_outer v_inner v_content v_boxes v_rowOf v_columnOf v_seen v_seenWhat v_seenCan v_pageLength v_page v_isWhole v_newKind v_newRows_7 (upd v_newOuter_7 v_newRows_7.toNatClampNeg r_5) v_newInner v_newContent v_now v_left v_box v_isCounted v_counted v_given v_isTermed v_terms v_term v_shape v_readBoxes v_readRow v_readColumn v_grid v_often v_seedNow v_isKept v_keptBoard v_keptKind v_keptRows v_keptSeen v_keptOuter v_keptInner v_keptContent v_keptWhat v_keptCan v_h) H := hP
            have hD : va_D A (wX8 cI cB cE a v_boards v_kind v_rows v_outer v_inner v_content v_boxes v_rowOf v_columnOf v_seen v_seenWhat v_seenCan v_pageLength v_page v_isWhole v_newKind v_newRows_7 (upd v_newOuter_7 v_newRows_7.toNatClampNeg r_5) v_newInner v_newContent v_now v_left v_box v_isCounted v_counted v_given v_isTermed v_terms v_term v_shape v_readBoxes v_readRow v_readColumn v_grid v_often v_seedNow v_isKept v_keptBoard v_keptKind v_keptRows v_keptSeen v_keptOuter v_keptInner v_keptContent v_keptWhat v_keptCan v_h) := hD
            refine lv_aload_n hx hb dX8_readOuter_63 rfl (lv_at hl 0 rfl) ?_
            refine lv_dup hx hb dX8_readOuter_64 rfl ?_
            refine va_get (D := (dC, dI)) (ci := 8) (C := RX8) (T := TX8) (N := 47) hx hb hts (fun _ h => List.mem_cons_of_mem _ (List.mem_append_right _ h)) hown hK hP 0 rfl rfl 16 (by decide) (hts (.fieldLink RX8 98 "SkewBoardModel" "newRows" "I") (List.mem_of_getElem? (i := 1) rfl)) (fun _ h9 => h9) rfl dX8_readOuter_65 ?_
            refine lv_iconst (v := 1) hx hb dX8_readOuter_68 (by decide) ?_
            refine lv_iadd hx hb dX8_readOuter_69 ?_
            refine va_put (D := (dC, dI)) (ci := 8) (v := .int (v_newRows_7 + 1)) (ty := .int) (C := RX8) (T := TX8) (N := 47) hx hb hts (fun _ h => List.mem_cons_of_mem _ (List.mem_append_right _ h)) tyX8 tyX8_ok nmX8 hown hK hP hD hS 0 rfl rfl 16 (by decide) (hts (.fieldLink RX8 98 "SkewBoardModel" "newRows" "I") (List.mem_of_getElem? (i := 1) rfl)) (fun _ h9 => h9) rfl (by decide +kernel) rfl rfl (Nat.le_of_ble_eq_true rfl) dX8_readOuter_70 (fun H locs hP hD hS => ?_)
            have hP : va_P (dC, dI) vwCl (wX8 cI cB cE a v_boards v_kind v_rows v_outer v_inner v_content v_boxes v_rowOf v_columnOf v_seen v_seenWhat v_seenCan v_pageLength v_page v_isWhole v_newKind (v_newRows_7 + 1) (upd v_newOuter_7 v_newRows_7.toNatClampNeg r_5) v_newInner v_newContent v_now v_left v_box v_isCounted v_counted v_given v_isTermed v_terms v_term v_shape v_readBoxes v_readRow v_readColumn v_grid v_often v_seedNow v_isKept v_keptBoard v_keptKind v_keptRows v_keptSeen v_keptOuter v_keptInner v_keptContent v_keptWhat v_keptCan v_h) H := hP
            have hD : va_D A (wX8 cI cB cE a v_boards v_kind v_rows v_outer v_inner v_content v_boxes v_rowOf v_columnOf v_seen v_seenWhat v_seenCan v_pageLength v_page v_isWhole v_newKind (v_newRows_7 + 1) (upd v_newOuter_7 v_newRows_7.toNatClampNeg r_5) v_newInner v_newContent v_now v_left v_box v_isCounted v_counted v_given v_isTermed v_terms v_term v_shape v_readBoxes v_readRow v_readColumn v_grid v_often v_seedNow v_isKept v_keptBoard v_keptKind v_keptRows v_keptSeen v_keptOuter v_keptInner v_keptContent v_keptWhat v_keptCan v_h) := hD
            refine lv_iinc (v := (x2_7 + 1)) (lv' := [(2, .int (x2_7 + 1)), (0, .ref (a 0))]) hx hb dX8_readOuter_73 hl (k := 1) rfl rfl (by decide) rfl (fun ls hl => ?_)
            refine lv_goto (tgt := 7) hx hb dX8_readOuter_76 (by decide) ?_
            exact ih7 (x2_7 + 1) (v_newRows_7 + 1) (upd v_newOuter_7 v_newRows_7.toNatClampNeg r_5) hf _ _ hP hD hS ls (lv_sub hl [1, 0] rfl)
        refine lv_if_ne (tgt := 32) hx hb dX8_readOuter_25 (by decide) (fun c_7 => ?_) (fun c_7 => ?_)
        · rw [if_neg c_7] at hf
          refine lv_aload_n hx hb dX8_readOuter_32 rfl (lv_at hl 0 rfl) ?_
          refine va_get (D := (dC, dI)) (ci := 8) (C := RX8) (T := TX8) (N := 47) hx hb hts (fun _ h => List.mem_cons_of_mem _ (List.mem_append_right _ h)) hown hK hP 0 rfl rfl 17 (by decide) (hts (.fieldLink RX8 35 "SkewBoardModel" "newOuter" "[I") (List.mem_of_getElem? (i := 2) rfl)) (fun _ h9 => h9) rfl dX8_readOuter_33 ?_
          refine lv_aload_n hx hb dX8_readOuter_36 rfl (lv_at hl 0 rfl) ?_
          refine va_get (D := (dC, dI)) (ci := 8) (C := RX8) (T := TX8) (N := 47) hx hb hts (fun _ h => List.mem_cons_of_mem _ (List.mem_append_right _ h)) hown hK hP 0 rfl rfl 16 (by decide) (hts (.fieldLink RX8 98 "SkewBoardModel" "newRows" "I") (List.mem_of_getElem? (i := 1) rfl)) (fun _ h9 => h9) rfl dX8_readOuter_37 ?_
          refine lv_iconst (v := 1) hx hb dX8_readOuter_40 (by decide) ?_
          refine lv_isub hx hb dX8_readOuter_41 ?_
          obtain ⟨g_8, hf⟩ := gd_some hf
          refine va_iald hx hb hK hP 9 0 rfl rfl (inb_vp g_8) dX8_readOuter_42 ?_
          exact J43 (v_newOuter_7 (v_newRows_7 - 1).toNatClampNeg) hf _ _ hP hD hS ls (lv_sub hl [0, 1] rfl)
        · rw [if_pos c_7] at hf
          refine lv_iconst (v := 5) hx hb dX8_readOuter_28 (by decide) ?_
          refine lv_goto (tgt := 43) hx hb dX8_readOuter_29 (by decide) ?_
          exact J43 5 hf _ _ hP hD hS ls (lv_sub hl [0, 1] rfl)
  exact L7 fu p1 0 v_newOuter hf _ _ hP hD hS ls (lv_sub hl [1, 0] rfl)

def fX8_readInner_L101 (x2_98 : Int32) : Nat → Int32 → (Nat → Int32) → Option (Int32 × (Nat → Int32))
  | 0, _, _ => none
  | n + 1, x5_101, v_newInner_101 =>
    if 4 ≤ x5_101 then (some (x2_98, v_newInner_101)) else (gd (inb x5_101 4) (fX8_readInner_L101 x2_98 n (x5_101 + 1) (upd v_newInner_101 x5_101.toNatClampNeg 0)))
def fX8_readInner_J98 (x2_98 : Int32) (x3_98 : Int32) (v_newInner_98 : Nat → Int32) : Option (Int32 × (Nat → Int32)) :=
    fX8_readInner_L101 x2_98 fu x3_98 v_newInner_98
def fX8_readInner_J95 (r_6 : Int32) (k7 : Int32 → Int32 → Int32 → (Nat → Int32) → Option (Int32 × (Nat → Int32))) (x2_95 : Int32) (x3_95 : Int32) (v_newInner_95 : Nat → Int32) : Option (Int32 × (Nat → Int32)) :=
    k7 x2_95 x3_95 r_6 v_newInner_95
def fX8_readInner_J58 (v_pageLength : Int32) (v_page : Nat → Int32) (x2_7 : Int32) (x3_7 : Int32) (v_newInner_7 : Nat → Int32) (k7 : Int32 → Int32 → Int32 → (Nat → Int32) → Option (Int32 × (Nat → Int32))) (y0_58 : Int32) : Option (Int32 × (Nat → Int32)) :=
    bd (fX8_figure x2_7 v_pageLength v_page) (fun r_5 => bd (fX8_within r_5 0 y0_58) (fun r_6 => if r_6 = 0 then (fX8_readInner_J95 r_6 k7 x2_7 x3_7 v_newInner_7) else (bd (fX8_figure x2_7 v_pageLength v_page) (fun r_8 => gd (inb x3_7 4) (fX8_readInner_J95 r_6 k7 (x2_7 + 1) (x3_7 + 1) (upd v_newInner_7 x3_7.toNatClampNeg r_8))))))
def fX8_readInner_J52 (v_newOuter : Nat → Int32) (x3_7 : Int32) (k58 : Int32 → Option (Int32 × (Nat → Int32))) (u_52 : Unit) : Option (Int32 × (Nat → Int32)) :=
    gd (inb x3_7 4) (k58 (v_newOuter x3_7.toNatClampNeg))
def fX8_readInner_L7 (v_pageLength : Int32) (v_page : Nat → Int32) (v_newRows : Int32) (v_newOuter : Nat → Int32) (k98 : Int32 → Int32 → (Nat → Int32) → Option (Int32 × (Nat → Int32))) : Nat → Int32 → Int32 → Int32 → (Nat → Int32) → Option (Int32 × (Nat → Int32))
  | 0, _, _, _, _ => none
  | n + 1, x2_7, x3_7, x4_7, v_newInner_7 =>
    if v_newRows ≤ x3_7 then (k98 x2_7 x3_7 v_newInner_7) else (if x4_7 = 0 then (k98 x2_7 x3_7 v_newInner_7) else (if x3_7 ≤ 0 then (fX8_readInner_J52 v_newOuter x3_7 (fX8_readInner_J58 v_pageLength v_page x2_7 x3_7 v_newInner_7 (fX8_readInner_L7 v_pageLength v_page v_newRows v_newOuter k98 n)) ()) else (gd (inb (x3_7 - 1) 4) (gd (inb x3_7 4) (if (v_newOuter x3_7.toNatClampNeg) ≤ (v_newInner_7 (x3_7 - 1).toNatClampNeg) then (fX8_readInner_J52 v_newOuter x3_7 (fX8_readInner_J58 v_pageLength v_page x2_7 x3_7 v_newInner_7 (fX8_readInner_L7 v_pageLength v_page v_newRows v_newOuter k98 n)) ()) else (fX8_readInner_J58 v_pageLength v_page x2_7 x3_7 v_newInner_7 (fX8_readInner_L7 v_pageLength v_page v_newRows v_newOuter k98 n) (v_newInner_7 (x3_7 - 1).toNatClampNeg)))))))
def fX8_readInner (p1 : Int32) (v_pageLength : Int32) (v_page : Nat → Int32) (v_newRows : Int32) (v_newOuter : Nat → Int32) (v_newInner : Nat → Int32) : Option (Int32 × (Nat → Int32)) :=
  fX8_readInner_L7 v_pageLength v_page v_newRows v_newOuter fX8_readInner_J98 fu p1 0 1 v_newInner
def rmX8_readInner : Room := { frames := 2, cells := 0, slots := 0, locals := 42 }
set_option maxRecDepth 100000 in
set_option maxHeartbeats 4000000 in
theorem ctX8_readInner (l : Launch) (z : Nat × Nat × Nat) (dC : Nat → ClassId) (dI : Nat → Nat → Nat) (cI cB cE : ClassId) (a : Nat → Nat) (v_boards : Int32) (v_kind : Int32) (v_rows : Int32) (v_outer : Nat → Int32) (v_inner : Nat → Int32) (v_content : Nat → Int32) (v_boxes : Int32) (v_rowOf : Nat → Int32) (v_columnOf : Nat → Int32) (v_seen : Int32) (v_seenWhat : Nat → Int32) (v_seenCan : Nat → Int32) (v_pageLength : Int32) (v_page : Nat → Int32) (v_isWhole : Int32) (v_newKind : Int32) (v_newRows : Int32) (v_newOuter : Nat → Int32) (v_newInner : Nat → Int32) (v_newContent : Nat → Int32) (v_now : Nat → Int32) (v_left : Nat → Int32) (v_box : Int32) (v_isCounted : Int32) (v_counted : Int32) (v_given : Nat → Int32) (v_isTermed : Int32) (v_terms : Int32) (v_term : Nat → Int32) (v_shape : Nat → Int32) (v_readBoxes : Int32) (v_readRow : Nat → Int32) (v_readColumn : Nat → Int32) (v_grid : Nat → Int32) (v_often : Nat → Int32) (v_seedNow : Int64) (v_isKept : Int32) (v_keptBoard : Int32) (v_keptKind : Int32) (v_keptRows : Int32) (v_keptSeen : Int32) (v_keptOuter : Nat → Int32) (v_keptInner : Nat → Int32) (v_keptContent : Nat → Int32) (v_keptWhat : Nat → Int32) (v_keptCan : Nat → Int32) (v_h : Int64) (p1 : Int32) (fin : Int32 × (Nat → Int32)) (hf : fX8_readInner p1 v_pageLength v_page v_newRows v_newOuter v_newInner = some fin) : Ct l z (dC, dI) (tyL cI cB cE) yX8_readInner wsX8_readInner rmX8_readInner [.ref (a 0), .int p1] (wX8 cI cB cE a v_boards v_kind v_rows v_outer v_inner v_content v_boxes v_rowOf v_columnOf v_seen v_seenWhat v_seenCan v_pageLength v_page v_isWhole v_newKind v_newRows v_newOuter v_newInner v_newContent v_now v_left v_box v_isCounted v_counted v_given v_isTermed v_terms v_term v_shape v_readBoxes v_readRow v_readColumn v_grid v_often v_seedNow v_isKept v_keptBoard v_keptKind v_keptRows v_keptSeen v_keptOuter v_keptInner v_keptContent v_keptWhat v_keptCan v_h) (some (.int fin.1)) (wX8 cI cB cE a v_boards v_kind v_rows v_outer v_inner v_content v_boxes v_rowOf v_columnOf v_seen v_seenWhat v_seenCan v_pageLength v_page v_isWhole v_newKind v_newRows v_newOuter fin.2 v_newContent v_now v_left v_box v_isCounted v_counted v_given v_isTermed v_terms v_term v_shape v_readBoxes v_readRow v_readColumn v_grid v_often v_seedNow v_isKept v_keptBoard v_keptKind v_keptRows v_keptSeen v_keptOuter v_keptInner v_keptContent v_keptWhat v_keptCan v_h) := by
  refine Met.ofC (cc := cX8_readInner) (maxL := 6) (ret := (some .int)) (by decide) rfl (Nat.le_of_ble_eq_true rfl) ?_
  intro p e s m args below meth c A Q ls hx hb hr hml hts hown hlocks hA hK hP hD hZ hS hQ hl
  have hown : s.vm.findClass RX8 = some m.cls := hown
  have hl : lv_has ls 6 [(0, .ref (a 0)), (1, .int p1)] := hl
  unfold fX8_readInner at hf
  refine lv_iload_n hx hb dX8_readInner_0 rfl (lv_at hl 1 rfl) ?_
  refine lv_istore_n (lv' := [(2, .int p1), (0, .ref (a 0)), (1, .int p1)]) hx hb dX8_readInner_1 rfl hl (by decide) rfl (fun ls hl => ?_)
  refine lv_iconst (v := 0) hx hb dX8_readInner_2 (by decide) ?_
  refine lv_istore_n (lv' := [(3, .int 0), (2, .int p1), (0, .ref (a 0)), (1, .int p1)]) hx hb dX8_readInner_3 rfl hl (by decide) rfl (fun ls hl => ?_)
  refine lv_iconst (v := 1) hx hb dX8_readInner_4 (by decide) ?_
  refine lv_istore (lv' := [(4, .int 1), (3, .int 0), (2, .int p1), (0, .ref (a 0)), (1, .int p1)]) hx hb dX8_readInner_5 hl (by decide) rfl (fun ls hl => ?_)
  have J98 : ∀ (x2_98 : Int32) (x3_98 : Int32) (v_newInner_98 : Nat → Int32), fX8_readInner_J98  x2_98 x3_98 v_newInner_98 = some fin → ∀ (H : Heap) (locs : List Loc), va_P (dC, dI) vwCl (wX8 cI cB cE a v_boards v_kind v_rows v_outer v_inner v_content v_boxes v_rowOf v_columnOf v_seen v_seenWhat v_seenCan v_pageLength v_page v_isWhole v_newKind v_newRows v_newOuter v_newInner_98 v_newContent v_now v_left v_box v_isCounted v_counted v_given v_isTermed v_terms v_term v_shape v_readBoxes v_readRow v_readColumn v_grid v_often v_seedNow v_isKept v_keptBoard v_keptKind v_keptRows v_keptSeen v_keptOuter v_keptInner v_keptContent v_keptWhat v_keptCan v_h) H → va_D A (wX8 cI cB cE a v_boards v_kind v_rows v_outer v_inner v_content v_boxes v_rowOf v_columnOf v_seen v_seenWhat v_seenCan v_pageLength v_page v_isWhole v_newKind v_newRows v_newOuter v_newInner_98 v_newContent v_now v_left v_box v_isCounted v_counted v_given v_isTermed v_terms v_term v_shape v_readBoxes v_readRow v_readColumn v_grid v_often v_seedNow v_isKept v_keptBoard v_keptKind v_keptRows v_keptSeen v_keptOuter v_keptInner v_keptContent v_keptWhat v_keptCan v_h) → va_S A s.heap H locs → ∀ (ls : Array Slot), lv_has ls 6 [(0, .ref (a 0)), (2, .int x2_98), (3, .int x3_98)] → W p l e rmX8_readInner s m args below meth c H locs 0 0 Q (F0 m 98 ls []) := by
    intro x2_98 x3_98 v_newInner_98 hf H locs hP hD hS ls hl
    unfold fX8_readInner_J98 at hf
    refine lv_iload_n hx hb dX8_readInner_98 rfl (lv_at hl 2 rfl) ?_
    refine lv_istore (lv' := [(5, .int x3_98), (0, .ref (a 0)), (2, .int x2_98), (3, .int x3_98)]) hx hb dX8_readInner_99 hl (by decide) rfl (fun ls hl => ?_)
    have L101 : ∀ (n101 : Nat) (x5_101 : Int32) (v_newInner_101 : Nat → Int32), fX8_readInner_L101 x2_98 n101 x5_101 v_newInner_101 = some fin → ∀ (H : Heap) (locs : List Loc), va_P (dC, dI) vwCl (wX8 cI cB cE a v_boards v_kind v_rows v_outer v_inner v_content v_boxes v_rowOf v_columnOf v_seen v_seenWhat v_seenCan v_pageLength v_page v_isWhole v_newKind v_newRows v_newOuter v_newInner_101 v_newContent v_now v_left v_box v_isCounted v_counted v_given v_isTermed v_terms v_term v_shape v_readBoxes v_readRow v_readColumn v_grid v_often v_seedNow v_isKept v_keptBoard v_keptKind v_keptRows v_keptSeen v_keptOuter v_keptInner v_keptContent v_keptWhat v_keptCan v_h) H → va_D A (wX8 cI cB cE a v_boards v_kind v_rows v_outer v_inner v_content v_boxes v_rowOf v_columnOf v_seen v_seenWhat v_seenCan v_pageLength v_page v_isWhole v_newKind v_newRows v_newOuter v_newInner_101 v_newContent v_now v_left v_box v_isCounted v_counted v_given v_isTermed v_terms v_term v_shape v_readBoxes v_readRow v_readColumn v_grid v_often v_seedNow v_isKept v_keptBoard v_keptKind v_keptRows v_keptSeen v_keptOuter v_keptInner v_keptContent v_keptWhat v_keptCan v_h) → va_S A s.heap H locs → ∀ (ls : Array Slot), lv_has ls 6 [(0, .ref (a 0)), (2, .int x2_98), (5, .int x5_101)] → W p l e rmX8_readInner s m args below meth c H locs 0 0 Q (F0 m 101 ls []) := by
      intro n101
      induction n101 with
      | zero =>
        intro x5_101 v_newInner_101 hf
        rw [fX8_readInner_L101] at hf
        cases hf
      | succ n101 ih101 =>
        intro x5_101 v_newInner_101 hf H locs hP hD hS ls hl
        rw [fX8_readInner_L101] at hf
        refine lv_iload hx hb dX8_readInner_101 (lv_at hl 2 rfl) ?_
        refine lv_iconst (v := 4) hx hb dX8_readInner_103 (by decide) ?_
        refine lv_icmp_ge (tgt := 121) hx hb dX8_readInner_104 (by decide) (fun c_1 => ?_) (fun c_1 => ?_)
        · rw [if_pos c_1] at hf
          refine lv_iload_n hx hb dX8_readInner_121 rfl (lv_at hl 1 rfl) ?_
          have hQ2 := hQ
          rw [← Option.some.inj hf] at hQ2
          exact cx_iret hQ2 hx hb hr hlocks hK hP hD hS dX8_readInner_122
        · rw [if_neg c_1] at hf
          refine lv_aload_n hx hb dX8_readInner_107 rfl (lv_at hl 0 rfl) ?_
          refine va_get (D := (dC, dI)) (ci := 8) (C := RX8) (T := TX8) (N := 47) hx hb hts (fun _ h => List.mem_cons_of_mem _ (List.mem_append_right _ h)) hown hK hP 0 rfl rfl 18 (by decide) (hts (.fieldLink RX8 38 "SkewBoardModel" "newInner" "[I") (List.mem_of_getElem? (i := 2) rfl)) (fun _ h9 => h9) rfl dX8_readInner_108 ?_
          refine lv_iload hx hb dX8_readInner_111 (lv_at hl 2 rfl) ?_
          refine lv_iconst (v := 0) hx hb dX8_readInner_113 (by decide) ?_
          obtain ⟨g_2, hf⟩ := gd_some hf
          refine va_iast hx hb hK hP hD hS 10 0 rfl rfl (inb_vp g_2) dX8_readInner_114 (fun H locs hP hD hS => ?_)
          have hP : va_P (dC, dI) vwCl (wX8 cI cB cE a v_boards v_kind v_rows v_outer v_inner v_content v_boxes v_rowOf v_columnOf v_seen v_seenWhat v_seenCan v_pageLength v_page v_isWhole v_newKind v_newRows v_newOuter (upd v_newInner_101 x5_101.toNatClampNeg 0) v_newContent v_now v_left v_box v_isCounted v_counted v_given v_isTermed v_terms v_term v_shape v_readBoxes v_readRow v_readColumn v_grid v_often v_seedNow v_isKept v_keptBoard v_keptKind v_keptRows v_keptSeen v_keptOuter v_keptInner v_keptContent v_keptWhat v_keptCan v_h) H := hP
          have hD : va_D A (wX8 cI cB cE a v_boards v_kind v_rows v_outer v_inner v_content v_boxes v_rowOf v_columnOf v_seen v_seenWhat v_seenCan v_pageLength v_page v_isWhole v_newKind v_newRows v_newOuter (upd v_newInner_101 x5_101.toNatClampNeg 0) v_newContent v_now v_left v_box v_isCounted v_counted v_given v_isTermed v_terms v_term v_shape v_readBoxes v_readRow v_readColumn v_grid v_often v_seedNow v_isKept v_keptBoard v_keptKind v_keptRows v_keptSeen v_keptOuter v_keptInner v_keptContent v_keptWhat v_keptCan v_h) := hD
          refine lv_iinc (v := (x5_101 + 1)) (lv' := [(5, .int (x5_101 + 1)), (0, .ref (a 0)), (2, .int x2_98)]) hx hb dX8_readInner_115 hl (k := 2) rfl rfl (by decide) rfl (fun ls hl => ?_)
          refine lv_goto (tgt := 101) hx hb dX8_readInner_118 (by decide) ?_
          exact ih101 (x5_101 + 1) (upd v_newInner_101 x5_101.toNatClampNeg 0) hf _ _ hP hD hS ls (lv_sub hl [1, 2, 0] rfl)
    exact L101 fu x3_98 v_newInner_98 hf _ _ hP hD hS ls (lv_sub hl [1, 2, 0] rfl)
  have L7 : ∀ (n7 : Nat) (x2_7 : Int32) (x3_7 : Int32) (x4_7 : Int32) (v_newInner_7 : Nat → Int32), fX8_readInner_L7 v_pageLength v_page v_newRows v_newOuter (fX8_readInner_J98) n7 x2_7 x3_7 x4_7 v_newInner_7 = some fin → ∀ (H : Heap) (locs : List Loc), va_P (dC, dI) vwCl (wX8 cI cB cE a v_boards v_kind v_rows v_outer v_inner v_content v_boxes v_rowOf v_columnOf v_seen v_seenWhat v_seenCan v_pageLength v_page v_isWhole v_newKind v_newRows v_newOuter v_newInner_7 v_newContent v_now v_left v_box v_isCounted v_counted v_given v_isTermed v_terms v_term v_shape v_readBoxes v_readRow v_readColumn v_grid v_often v_seedNow v_isKept v_keptBoard v_keptKind v_keptRows v_keptSeen v_keptOuter v_keptInner v_keptContent v_keptWhat v_keptCan v_h) H → va_D A (wX8 cI cB cE a v_boards v_kind v_rows v_outer v_inner v_content v_boxes v_rowOf v_columnOf v_seen v_seenWhat v_seenCan v_pageLength v_page v_isWhole v_newKind v_newRows v_newOuter v_newInner_7 v_newContent v_now v_left v_box v_isCounted v_counted v_given v_isTermed v_terms v_term v_shape v_readBoxes v_readRow v_readColumn v_grid v_often v_seedNow v_isKept v_keptBoard v_keptKind v_keptRows v_keptSeen v_keptOuter v_keptInner v_keptContent v_keptWhat v_keptCan v_h) → va_S A s.heap H locs → ∀ (ls : Array Slot), lv_has ls 6 [(0, .ref (a 0)), (2, .int x2_7), (3, .int x3_7), (4, .int x4_7)] → W p l e rmX8_readInner s m args below meth c H locs 0 0 Q (F0 m 7 ls []) := by
    intro n7
    induction n7 with
    | zero =>
      intro x2_7 x3_7 x4_7 v_newInner_7 hf
      rw [fX8_readInner_L7] at hf
      cases hf
    | succ n7 ih7 =>
      intro x2_7 x3_7 x4_7 v_newInner_7 hf H locs hP hD hS ls hl
      rw [fX8_readInner_L7] at hf
      refine lv_iload_n hx hb dX8_readInner_7 rfl (lv_at hl 2 rfl) ?_
      refine lv_aload_n hx hb dX8_readInner_8 rfl (lv_at hl 0 rfl) ?_
      refine va_get (D := (dC, dI)) (ci := 8) (C := RX8) (T := TX8) (N := 47) hx hb hts (fun _ h => List.mem_cons_of_mem _ (List.mem_append_right _ h)) hown hK hP 0 rfl rfl 16 (by decide) (hts (.fieldLink RX8 98 "SkewBoardModel" "newRows" "I") (List.mem_of_getElem? (i := 1) rfl)) (fun _ h9 => h9) rfl dX8_readInner_9 ?_
      refine lv_icmp_ge (tgt := 98) hx hb dX8_readInner_12 (by decide) (fun c_3 => ?_) (fun c_3 => ?_)
      · rw [if_pos c_3] at hf
        exact J98 x2_7 x3_7 v_newInner_7 hf _ _ hP hD hS ls (lv_sub hl [0, 1, 2] rfl)
      · rw [if_neg c_3] at hf
        refine lv_iload hx hb dX8_readInner_15 (lv_at hl 3 rfl) ?_
        refine lv_if_eq (tgt := 98) hx hb dX8_readInner_17 (by decide) (fun c_4 => ?_) (fun c_4 => ?_)
        · rw [if_pos c_4] at hf
          exact J98 x2_7 x3_7 v_newInner_7 hf _ _ hP hD hS ls (lv_sub hl [0, 1, 2] rfl)
        · rw [if_neg c_4] at hf
          refine lv_iload_n hx hb dX8_readInner_20 rfl (lv_at hl 2 rfl) ?_
          have J58 : ∀ (y0_58 : Int32), fX8_readInner_J58 v_pageLength v_page x2_7 x3_7 v_newInner_7 (fX8_readInner_L7 v_pageLength v_page v_newRows v_newOuter (fX8_readInner_J98) n7) y0_58 = some fin → ∀ (H : Heap) (locs : List Loc), va_P (dC, dI) vwCl (wX8 cI cB cE a v_boards v_kind v_rows v_outer v_inner v_content v_boxes v_rowOf v_columnOf v_seen v_seenWhat v_seenCan v_pageLength v_page v_isWhole v_newKind v_newRows v_newOuter v_newInner_7 v_newContent v_now v_left v_box v_isCounted v_counted v_given v_isTermed v_terms v_term v_shape v_readBoxes v_readRow v_readColumn v_grid v_often v_seedNow v_isKept v_keptBoard v_keptKind v_keptRows v_keptSeen v_keptOuter v_keptInner v_keptContent v_keptWhat v_keptCan v_h) H → va_D A (wX8 cI cB cE a v_boards v_kind v_rows v_outer v_inner v_content v_boxes v_rowOf v_columnOf v_seen v_seenWhat v_seenCan v_pageLength v_page v_isWhole v_newKind v_newRows v_newOuter v_newInner_7 v_newContent v_now v_left v_box v_isCounted v_counted v_given v_isTermed v_terms v_term v_shape v_readBoxes v_readRow v_readColumn v_grid v_often v_seedNow v_isKept v_keptBoard v_keptKind v_keptRows v_keptSeen v_keptOuter v_keptInner v_keptContent v_keptWhat v_keptCan v_h) → va_S A s.heap H locs → ∀ (ls : Array Slot), lv_has ls 6 [(0, .ref (a 0)), (2, .int x2_7), (3, .int x3_7)] → W p l e rmX8_readInner s m args below meth c H locs 0 0 Q (F0 m 58 ls [.int y0_58]) := by
            intro y0_58 hf H locs hP hD hS ls hl
            unfold fX8_readInner_J58 at hf
            refine lv_istore (lv' := [(5, .int y0_58), (0, .ref (a 0)), (2, .int x2_7), (3, .int x3_7)]) hx hb dX8_readInner_58 hl (by decide) rfl (fun ls hl => ?_)
            refine lv_aload_n hx hb dX8_readInner_60 rfl (lv_at hl 1 rfl) ?_
            refine lv_iload_n hx hb dX8_readInner_61 rfl (lv_at hl 2 rfl) ?_
            obtain ⟨r_5, hr_5, hf⟩ := bd_some hf
            refine cx_runW (cx_V (As := [.int x2_7]) (rest := []) ⟨hx, hb, hml, hown, hts⟩ (ctX8_figure l z dC dI cI cB cE a v_boards v_kind v_rows v_outer v_inner v_content v_boxes v_rowOf v_columnOf v_seen v_seenWhat v_seenCan v_pageLength v_page v_isWhole v_newKind v_newRows v_newOuter v_newInner_7 v_newContent v_now v_left v_box v_isCounted v_counted v_given v_isTermed v_terms v_term v_shape v_readBoxes v_readRow v_readColumn v_grid v_often v_seedNow v_isKept v_keptBoard v_keptKind v_keptRows v_keptSeen v_keptOuter v_keptInner v_keptContent v_keptWhat v_keptCan v_h x2_7 r_5 hr_5) (cwV 1 hts gX8_readInner_X8_figure rfl rfl rfl (by decide +kernel) ⟨Nat.le_of_ble_eq_true rfl, Nat.le_of_ble_eq_true rfl⟩) hK hP hD hZ hS hA (ci := 8) (q0 := 0) rfl rfl rfl hl.1 rfl (Nat.le_of_ble_eq_true rfl) dX8_readInner_62) hD hS hA [.int r_5] rfl (fun H locs hP hD hS => ?_)
            refine lv_iconst (v := 0) hx hb dX8_readInner_65 (by decide) ?_
            refine lv_iload hx hb dX8_readInner_66 (lv_at hl 0 rfl) ?_
            obtain ⟨r_6, hr_6, hf⟩ := bd_some hf
            refine cx_run0 (cx_S (A := A) (As := [.int r_5, .int 0, .int y0_58]) (rest := []) ⟨hx, hb, hml, hown, hts⟩ (ctX8_within l z dC dI cI cB cE r_5 0 y0_58 r_6 hr_6) (va_cwS 3 hts gX8_readInner_X8_within rfl rfl rfl (by decide +kernel) ⟨Nat.le_of_ble_eq_true rfl, Nat.le_of_ble_eq_true rfl⟩) hK vaP0 vaD0 hZ hS hA rfl hl.1 rfl (Nat.le_of_ble_eq_true rfl) dX8_readInner_68) hP hS hA [.int r_6] rfl (fun H locs hP hS => ?_)
            refine lv_istore (lv' := [(4, .int r_6), (5, .int y0_58), (0, .ref (a 0)), (2, .int x2_7), (3, .int x3_7)]) hx hb dX8_readInner_71 hl (by decide) rfl (fun ls hl => ?_)
            refine lv_iload hx hb dX8_readInner_73 (lv_at hl 0 rfl) ?_
            have J95 : ∀ (x2_95 : Int32) (x3_95 : Int32) (v_newInner_95 : Nat → Int32), fX8_readInner_J95 r_6 (fX8_readInner_L7 v_pageLength v_page v_newRows v_newOuter (fX8_readInner_J98) n7) x2_95 x3_95 v_newInner_95 = some fin → ∀ (H : Heap) (locs : List Loc), va_P (dC, dI) vwCl (wX8 cI cB cE a v_boards v_kind v_rows v_outer v_inner v_content v_boxes v_rowOf v_columnOf v_seen v_seenWhat v_seenCan v_pageLength v_page v_isWhole v_newKind v_newRows v_newOuter v_newInner_95 v_newContent v_now v_left v_box v_isCounted v_counted v_given v_isTermed v_terms v_term v_shape v_readBoxes v_readRow v_readColumn v_grid v_often v_seedNow v_isKept v_keptBoard v_keptKind v_keptRows v_keptSeen v_keptOuter v_keptInner v_keptContent v_keptWhat v_keptCan v_h) H → va_D A (wX8 cI cB cE a v_boards v_kind v_rows v_outer v_inner v_content v_boxes v_rowOf v_columnOf v_seen v_seenWhat v_seenCan v_pageLength v_page v_isWhole v_newKind v_newRows v_newOuter v_newInner_95 v_newContent v_now v_left v_box v_isCounted v_counted v_given v_isTermed v_terms v_term v_shape v_readBoxes v_readRow v_readColumn v_grid v_often v_seedNow v_isKept v_keptBoard v_keptKind v_keptRows v_keptSeen v_keptOuter v_keptInner v_keptContent v_keptWhat v_keptCan v_h) → va_S A s.heap H locs → ∀ (ls : Array Slot), lv_has ls 6 [(0, .ref (a 0)), (2, .int x2_95), (3, .int x3_95), (4, .int r_6)] → W p l e rmX8_readInner s m args below meth c H locs 0 0 Q (F0 m 95 ls []) := by
              intro x2_95 x3_95 v_newInner_95 hf H locs hP hD hS ls hl
              unfold fX8_readInner_J95 at hf
              refine lv_goto (tgt := 7) hx hb dX8_readInner_95 (by decide) ?_
              exact ih7 x2_95 x3_95 r_6 v_newInner_95 hf _ _ hP hD hS ls (lv_sub hl [0, 1, 2, 3] rfl)
            refine lv_if_eq (tgt := 95) hx hb dX8_readInner_75 (by decide) (fun c_7 => ?_) (fun c_7 => ?_)
            · rw [if_pos c_7] at hf
              exact J95 x2_7 x3_7 v_newInner_7 hf _ _ hP hD hS ls (lv_sub hl [2, 3, 4, 0] rfl)
            · rw [if_neg c_7] at hf
              refine lv_aload_n hx hb dX8_readInner_78 rfl (lv_at hl 2 rfl) ?_
              refine va_get (D := (dC, dI)) (ci := 8) (C := RX8) (T := TX8) (N := 47) hx hb hts (fun _ h => List.mem_cons_of_mem _ (List.mem_append_right _ h)) hown hK hP 0 rfl rfl 18 (by decide) (hts (.fieldLink RX8 38 "SkewBoardModel" "newInner" "[I") (List.mem_of_getElem? (i := 2) rfl)) (fun _ h9 => h9) rfl dX8_readInner_79 ?_
              refine lv_iload_n hx hb dX8_readInner_82 rfl (lv_at hl 4 rfl) ?_
              refine lv_aload_n hx hb dX8_readInner_83 rfl (lv_at hl 2 rfl) ?_
              refine lv_iload_n hx hb dX8_readInner_84 rfl (lv_at hl 3 rfl) ?_
              obtain ⟨r_8, hr_8, hf⟩ := bd_some hf
              refine cx_runW (cx_V (As := [.int x2_7]) (rest := [.int x3_7, .ref (a 10)]) ⟨hx, hb, hml, hown, hts⟩ (ctX8_figure l z dC dI cI cB cE a v_boards v_kind v_rows v_outer v_inner v_content v_boxes v_rowOf v_columnOf v_seen v_seenWhat v_seenCan v_pageLength v_page v_isWhole v_newKind v_newRows v_newOuter v_newInner_7 v_newContent v_now v_left v_box v_isCounted v_counted v_given v_isTermed v_terms v_term v_shape v_readBoxes v_readRow v_readColumn v_grid v_often v_seedNow v_isKept v_keptBoard v_keptKind v_keptRows v_keptSeen v_keptOuter v_keptInner v_keptContent v_keptWhat v_keptCan v_h x2_7 r_8 hr_8) (cwV 1 hts gX8_readInner_X8_figure rfl rfl rfl (by decide +kernel) ⟨Nat.le_of_ble_eq_true rfl, Nat.le_of_ble_eq_true rfl⟩) hK hP hD hZ hS hA (ci := 8) (q0 := 0) rfl rfl rfl hl.1 rfl (Nat.le_of_ble_eq_true rfl) dX8_readInner_85) hD hS hA [.int r_8, .int x3_7, .ref (a 10)] rfl (fun H locs hP hD hS => ?_)
              obtain ⟨g_9, hf⟩ := gd_some hf
              refine va_iast hx hb hK hP hD hS 10 0 rfl rfl (inb_vp g_9) dX8_readInner_88 (fun H locs hP hD hS => ?_)
              have hP : va_P (dC, dI) vwCl (wX8 cI cB cE a v_boards v_kind v_rows v_outer v_inner v_content v_boxes v_rowOf v_columnOf v_seen v_seenWhat v_seenCan v_pageLength v_page v_isWhole v_newKind v_newRows v_newOuter (upd v_newInner_7 x3_7.toNatClampNeg r_8) v_newContent v_now v_left v_box v_isCounted v_counted v_given v_isTermed v_terms v_term v_shape v_readBoxes v_readRow v_readColumn v_grid v_often v_seedNow v_isKept v_keptBoard v_keptKind v_keptRows v_keptSeen v_keptOuter v_keptInner v_keptContent v_keptWhat v_keptCan v_h) H := hP
              have hD : va_D A (wX8 cI cB cE a v_boards v_kind v_rows v_outer v_inner v_content v_boxes v_rowOf v_columnOf v_seen v_seenWhat v_seenCan v_pageLength v_page v_isWhole v_newKind v_newRows v_newOuter (upd v_newInner_7 x3_7.toNatClampNeg r_8) v_newContent v_now v_left v_box v_isCounted v_counted v_given v_isTermed v_terms v_term v_shape v_readBoxes v_readRow v_readColumn v_grid v_often v_seedNow v_isKept v_keptBoard v_keptKind v_keptRows v_keptSeen v_keptOuter v_keptInner v_keptContent v_keptWhat v_keptCan v_h) := hD
              refine lv_iinc (v := (x3_7 + 1)) (lv' := [(3, .int (x3_7 + 1)), (4, .int r_6), (5, .int y0_58), (0, .ref (a 0)), (2, .int x2_7)]) hx hb dX8_readInner_89 hl (k := 4) rfl rfl (by decide) rfl (fun ls hl => ?_)
              refine lv_iinc (v := (x2_7 + 1)) (lv' := [(2, .int (x2_7 + 1)), (3, .int (x3_7 + 1)), (4, .int r_6), (5, .int y0_58), (0, .ref (a 0))]) hx hb dX8_readInner_92 hl (k := 4) rfl rfl (by decide) rfl (fun ls hl => ?_)
              exact J95 (x2_7 + 1) (x3_7 + 1) (upd v_newInner_7 x3_7.toNatClampNeg r_8) hf _ _ hP hD hS ls (lv_sub hl [4, 0, 1, 2] rfl)
          have J52 : ∀ (u_52 : Unit), fX8_readInner_J52 v_newOuter x3_7 (fX8_readInner_J58 v_pageLength v_page x2_7 x3_7 v_newInner_7 (fX8_readInner_L7 v_pageLength v_page v_newRows v_newOuter (fX8_readInner_J98) n7)) u_52 = some fin → ∀ (H : Heap) (locs : List Loc), va_P (dC, dI) vwCl (wX8 cI cB cE a v_boards v_kind v_rows v_outer v_inner v_content v_boxes v_rowOf v_columnOf v_seen v_seenWhat v_seenCan v_pageLength v_page v_isWhole v_newKind v_newRows v_newOuter v_newInner_7 v_newContent v_now v_left v_box v_isCounted v_counted v_given v_isTermed v_terms v_term v_shape v_readBoxes v_readRow v_readColumn v_grid v_often v_seedNow v_isKept v_keptBoard v_keptKind v_keptRows v_keptSeen v_keptOuter v_keptInner v_keptContent v_keptWhat v_keptCan v_h) H → va_D A (wX8 cI cB cE a v_boards v_kind v_rows v_outer v_inner v_content v_boxes v_rowOf v_columnOf v_seen v_seenWhat v_seenCan v_pageLength v_page v_isWhole v_newKind v_newRows v_newOuter v_newInner_7 v_newContent v_now v_left v_box v_isCounted v_counted v_given v_isTermed v_terms v_term v_shape v_readBoxes v_readRow v_readColumn v_grid v_often v_seedNow v_isKept v_keptBoard v_keptKind v_keptRows v_keptSeen v_keptOuter v_keptInner v_keptContent v_keptWhat v_keptCan v_h) → va_S A s.heap H locs → ∀ (ls : Array Slot), lv_has ls 6 [(0, .ref (a 0)), (2, .int x2_7), (3, .int x3_7)] → W p l e rmX8_readInner s m args below meth c H locs 0 0 Q (F0 m 52 ls []) := by
            intro u_52 hf H locs hP hD hS ls hl
            unfold fX8_readInner_J52 at hf
            refine lv_aload_n hx hb dX8_readInner_52 rfl (lv_at hl 0 rfl) ?_
            refine va_get (D := (dC, dI)) (ci := 8) (C := RX8) (T := TX8) (N := 47) hx hb hts (fun _ h => List.mem_cons_of_mem _ (List.mem_append_right _ h)) hown hK hP 0 rfl rfl 17 (by decide) (hts (.fieldLink RX8 35 "SkewBoardModel" "newOuter" "[I") (List.mem_of_getElem? (i := 3) rfl)) (fun _ h9 => h9) rfl dX8_readInner_53 ?_
            refine lv_iload_n hx hb dX8_readInner_56 rfl (lv_at hl 2 rfl) ?_
            obtain ⟨g_10, hf⟩ := gd_some hf
            refine va_iald hx hb hK hP 9 0 rfl rfl (inb_vp g_10) dX8_readInner_57 ?_
            exact J58 (v_newOuter x3_7.toNatClampNeg) hf _ _ hP hD hS ls (lv_sub hl [0, 1, 2] rfl)
          refine lv_if_le (tgt := 52) hx hb dX8_readInner_21 (by decide) (fun c_11 => ?_) (fun c_11 => ?_)
          · rw [if_pos c_11] at hf
            exact J52 () hf _ _ hP hD hS ls (lv_sub hl [0, 1, 2] rfl)
          · rw [if_neg c_11] at hf
            refine lv_aload_n hx hb dX8_readInner_24 rfl (lv_at hl 0 rfl) ?_
            refine va_get (D := (dC, dI)) (ci := 8) (C := RX8) (T := TX8) (N := 47) hx hb hts (fun _ h => List.mem_cons_of_mem _ (List.mem_append_right _ h)) hown hK hP 0 rfl rfl 18 (by decide) (hts (.fieldLink RX8 38 "SkewBoardModel" "newInner" "[I") (List.mem_of_getElem? (i := 2) rfl)) (fun _ h9 => h9) rfl dX8_readInner_25 ?_
            refine lv_iload_n hx hb dX8_readInner_28 rfl (lv_at hl 2 rfl) ?_
            refine lv_iconst (v := 1) hx hb dX8_readInner_29 (by decide) ?_
            refine lv_isub hx hb dX8_readInner_30 ?_
            obtain ⟨g_12, hf⟩ := gd_some hf
            refine va_iald hx hb hK hP 10 0 rfl rfl (inb_vp g_12) dX8_readInner_31 ?_
            refine lv_aload_n hx hb dX8_readInner_32 rfl (lv_at hl 0 rfl) ?_
            refine va_get (D := (dC, dI)) (ci := 8) (C := RX8) (T := TX8) (N := 47) hx hb hts (fun _ h => List.mem_cons_of_mem _ (List.mem_append_right _ h)) hown hK hP 0 rfl rfl 17 (by decide) (hts (.fieldLink RX8 35 "SkewBoardModel" "newOuter" "[I") (List.mem_of_getElem? (i := 3) rfl)) (fun _ h9 => h9) rfl dX8_readInner_33 ?_
            refine lv_iload_n hx hb dX8_readInner_36 rfl (lv_at hl 2 rfl) ?_
            obtain ⟨g_13, hf⟩ := gd_some hf
            refine va_iald hx hb hK hP 9 0 rfl rfl (inb_vp g_13) dX8_readInner_37 ?_
            refine lv_icmp_ge (tgt := 52) hx hb dX8_readInner_38 (by decide) (fun c_14 => ?_) (fun c_14 => ?_)
            · rw [if_pos c_14] at hf
              exact J52 () hf _ _ hP hD hS ls (lv_sub hl [0, 1, 2] rfl)
            · rw [if_neg c_14] at hf
              refine lv_aload_n hx hb dX8_readInner_41 rfl (lv_at hl 0 rfl) ?_
              refine va_get (D := (dC, dI)) (ci := 8) (C := RX8) (T := TX8) (N := 47) hx hb hts (fun _ h => List.mem_cons_of_mem _ (List.mem_append_right _ h)) hown hK hP 0 rfl rfl 18 (by decide) (hts (.fieldLink RX8 38 "SkewBoardModel" "newInner" "[I") (List.mem_of_getElem? (i := 2) rfl)) (fun _ h9 => h9) rfl dX8_readInner_42 ?_
              refine lv_iload_n hx hb dX8_readInner_45 rfl (lv_at hl 2 rfl) ?_
              refine lv_iconst (v := 1) hx hb dX8_readInner_46 (by decide) ?_
              refine lv_isub hx hb dX8_readInner_47 ?_
              refine va_iald hx hb hK hP 10 0 rfl rfl (inb_vp g_12) dX8_readInner_48 ?_
              refine lv_goto (tgt := 58) hx hb dX8_readInner_49 (by decide) ?_
              exact J58 (v_newInner_7 (x3_7 - 1).toNatClampNeg) hf _ _ hP hD hS ls (lv_sub hl [0, 1, 2] rfl)
  exact L7 fu p1 0 1 v_newInner hf _ _ hP hD hS ls (lv_sub hl [3, 2, 1, 0] rfl)

def fX8_read_J50 (v_newInner : Nat → Int32) (v_newContent : Nat → Int32) (r_2 : Int32) (r_4 : Int32 × Int32 × (Nat → Int32)) (u_50 : Unit) : Option (Int32 × Int32 × Int32 × Int32 × (Nat → Int32) × (Nat → Int32) × (Nat → Int32)) :=
    some (r_4.1, 0, r_2, r_4.2.1, r_4.2.2, v_newInner, v_newContent)
def fX8_read_J154 (r_2 : Int32) (r_4 : Int32 × Int32 × (Nat → Int32)) (r_8 : Int32 × (Nat → Int32)) (x1_136 : Int32) (v_newContent_136 : Nat → Int32) (y1_154 : Int32) : Option (Int32 × Int32 × Int32 × Int32 × (Nat → Int32) × (Nat → Int32) × (Nat → Int32)) :=
    gd (isb y1_154) (some (x1_136, y1_154, r_2, r_4.2.1, r_4.2.2, r_8.2, v_newContent_136))
def fX8_read_J153 (k154 : Int32 → Option (Int32 × Int32 × Int32 × Int32 × (Nat → Int32) × (Nat → Int32) × (Nat → Int32))) (u_153 : Unit) : Option (Int32 × Int32 × Int32 × Int32 × (Nat → Int32) × (Nat → Int32) × (Nat → Int32)) :=
    k154 0
def fX8_read_J136 (v_pageLength : Int32) (r_2 : Int32) (r_4 : Int32 × Int32 × (Nat → Int32)) (r_8 : Int32 × (Nat → Int32)) (x1_136 : Int32) (x2_136 : Int32) (v_newContent_136 : Nat → Int32) : Option (Int32 × Int32 × Int32 × Int32 × (Nat → Int32) × (Nat → Int32) × (Nat → Int32)) :=
    if x2_136 ≤ 0 then (fX8_read_J153 (fX8_read_J154 r_2 r_4 r_8 x1_136 v_newContent_136) ()) else (if x1_136 = v_pageLength then (fX8_read_J154 r_2 r_4 r_8 x1_136 v_newContent_136 1) else (fX8_read_J153 (fX8_read_J154 r_2 r_4 r_8 x1_136 v_newContent_136) ()))
def fX8_read_L97 (v_pageLength : Int32) (v_page : Nat → Int32) (k136 : Int32 → Int32 → (Nat → Int32) → Option (Int32 × Int32 × Int32 × Int32 × (Nat → Int32) × (Nat → Int32) × (Nat → Int32))) : Nat → Int32 → Int32 → (Nat → Int32) → Option (Int32 × Int32 × Int32 × Int32 × (Nat → Int32) × (Nat → Int32) × (Nat → Int32))
  | 0, _, _, _ => none
  | n + 1, x1_97, x2_97, v_newContent_97 =>
    if 4 ≤ x2_97 then (k136 x1_97 x2_97 v_newContent_97) else (bd (fX8_figure x1_97 v_pageLength v_page) (fun r_15 => bd (fX8_within r_15 0 9) (fun r_16 => if r_16 = 0 then (k136 x1_97 x2_97 v_newContent_97) else (bd (fX8_figure x1_97 v_pageLength v_page) (fun r_18 => gd (inb x2_97 4) (fX8_read_L97 v_pageLength v_page k136 n (x1_97 + 1) (x2_97 + 1) (upd v_newContent_97 x2_97.toNatClampNeg r_18)))))))
def fX8_read_L79 (r_8 : Int32 × (Nat → Int32)) (k97 : Int32 → Int32 → (Nat → Int32) → Option (Int32 × Int32 × Int32 × Int32 × (Nat → Int32) × (Nat → Int32) × (Nat → Int32))) : Nat → Int32 → (Nat → Int32) → Option (Int32 × Int32 × Int32 × Int32 × (Nat → Int32) × (Nat → Int32) × (Nat → Int32))
  | 0, _, _ => none
  | n + 1, x3_79, v_newContent_79 =>
    if 4 ≤ x3_79 then (k97 (r_8.1 + 1) 0 v_newContent_79) else (gd (inb x3_79 4) (fX8_read_L79 r_8 k97 n (x3_79 + 1) (upd v_newContent_79 x3_79.toNatClampNeg 0)))
def fX8_read (v_pageLength : Int32) (v_page : Nat → Int32) (v_newRows : Int32) (v_newOuter : Nat → Int32) (v_newInner : Nat → Int32) (v_newContent : Nat → Int32) : Option (Int32 × Int32 × Int32 × Int32 × (Nat → Int32) × (Nat → Int32) × (Nat → Int32)) :=
  bd (fX8_at 0 v_pageLength v_page) (fun r_1 => bd (fX8_kindBy r_1) (fun r_2 => if r_2 = (-1) then (some (0, 0, r_2, v_newRows, v_newOuter, v_newInner, v_newContent)) else (bd (fX8_readOuter 1 v_pageLength v_page v_newOuter) (fun r_4 => if r_4.2.1 = 0 then (fX8_read_J50 v_newInner v_newContent r_2 r_4 ()) else (bd (fX8_at r_4.1 v_pageLength v_page) (fun r_6 => if r_6 = 47 then (bd (fX8_readInner (r_4.1 + 1) v_pageLength v_page r_4.2.1 r_4.2.2 v_newInner) (fun r_8 => bd (fX8_at r_8.1 v_pageLength v_page) (fun r_9 => if r_9 = 58 then (fX8_read_L79 r_8 (fX8_read_L97 v_pageLength v_page (fX8_read_J136 v_pageLength r_2 r_4 r_8) fu) fu 0 v_newContent) else (some (r_8.1, 0, r_2, r_4.2.1, r_4.2.2, r_8.2, v_newContent))))) else (fX8_read_J50 v_newInner v_newContent r_2 r_4 ())))))))
def rmX8_read : Room := { frames := 3, cells := 0, slots := 0, locals := 67 }
set_option maxRecDepth 100000 in
set_option maxHeartbeats 4000000 in
theorem ctX8_read (l : Launch) (z : Nat × Nat × Nat) (dC : Nat → ClassId) (dI : Nat → Nat → Nat) (cI cB cE : ClassId) (a : Nat → Nat) (v_boards : Int32) (v_kind : Int32) (v_rows : Int32) (v_outer : Nat → Int32) (v_inner : Nat → Int32) (v_content : Nat → Int32) (v_boxes : Int32) (v_rowOf : Nat → Int32) (v_columnOf : Nat → Int32) (v_seen : Int32) (v_seenWhat : Nat → Int32) (v_seenCan : Nat → Int32) (v_pageLength : Int32) (v_page : Nat → Int32) (v_isWhole : Int32) (v_newKind : Int32) (v_newRows : Int32) (v_newOuter : Nat → Int32) (v_newInner : Nat → Int32) (v_newContent : Nat → Int32) (v_now : Nat → Int32) (v_left : Nat → Int32) (v_box : Int32) (v_isCounted : Int32) (v_counted : Int32) (v_given : Nat → Int32) (v_isTermed : Int32) (v_terms : Int32) (v_term : Nat → Int32) (v_shape : Nat → Int32) (v_readBoxes : Int32) (v_readRow : Nat → Int32) (v_readColumn : Nat → Int32) (v_grid : Nat → Int32) (v_often : Nat → Int32) (v_seedNow : Int64) (v_isKept : Int32) (v_keptBoard : Int32) (v_keptKind : Int32) (v_keptRows : Int32) (v_keptSeen : Int32) (v_keptOuter : Nat → Int32) (v_keptInner : Nat → Int32) (v_keptContent : Nat → Int32) (v_keptWhat : Nat → Int32) (v_keptCan : Nat → Int32) (v_h : Int64) (fin : Int32 × Int32 × Int32 × Int32 × (Nat → Int32) × (Nat → Int32) × (Nat → Int32)) (hf : fX8_read v_pageLength v_page v_newRows v_newOuter v_newInner v_newContent = some fin) : Ct l z (dC, dI) (tyL cI cB cE) yX8_read wsX8_read rmX8_read [.ref (a 0)] (wX8 cI cB cE a v_boards v_kind v_rows v_outer v_inner v_content v_boxes v_rowOf v_columnOf v_seen v_seenWhat v_seenCan v_pageLength v_page v_isWhole v_newKind v_newRows v_newOuter v_newInner v_newContent v_now v_left v_box v_isCounted v_counted v_given v_isTermed v_terms v_term v_shape v_readBoxes v_readRow v_readColumn v_grid v_often v_seedNow v_isKept v_keptBoard v_keptKind v_keptRows v_keptSeen v_keptOuter v_keptInner v_keptContent v_keptWhat v_keptCan v_h) (some (.int fin.1)) (wX8 cI cB cE a v_boards v_kind v_rows v_outer v_inner v_content v_boxes v_rowOf v_columnOf v_seen v_seenWhat v_seenCan v_pageLength v_page fin.2.1 fin.2.2.1 fin.2.2.2.1 fin.2.2.2.2.1 fin.2.2.2.2.2.1 fin.2.2.2.2.2.2 v_now v_left v_box v_isCounted v_counted v_given v_isTermed v_terms v_term v_shape v_readBoxes v_readRow v_readColumn v_grid v_often v_seedNow v_isKept v_keptBoard v_keptKind v_keptRows v_keptSeen v_keptOuter v_keptInner v_keptContent v_keptWhat v_keptCan v_h) := by
  refine Met.ofC (cc := cX8_read) (maxL := 4) (ret := (some .int)) (by decide) rfl (Nat.le_of_ble_eq_true rfl) ?_
  intro p e s m args below meth c A Q ls hx hb hr hml hts hown hlocks hA hK hP hD hZ hS hQ hl
  have hown : s.vm.findClass RX8 = some m.cls := hown
  have hl : lv_has ls 4 [(0, .ref (a 0))] := hl
  unfold fX8_read at hf
  refine lv_aload_n hx hb dX8_read_0 rfl (lv_at hl 0 rfl) ?_
  refine lv_iconst (v := 0) hx hb dX8_read_1 (by decide) ?_
  refine va_put (D := (dC, dI)) (ci := 8) (v := .int 0) (ty := .boolean) (C := RX8) (T := TX8) (N := 47) hx hb hts (fun _ h => List.mem_cons_of_mem _ (List.mem_append_right _ h)) tyX8 tyX8_ok nmX8 hown hK hP hD hS 0 rfl rfl 14 (by decide) (hts (.fieldLink RX8 104 "SkewBoardModel" "isWhole" "Z") (List.mem_of_getElem? (i := 1) rfl)) (fun _ h9 => h9) rfl (by decide +kernel) rfl rfl (Nat.le_of_ble_eq_true rfl) dX8_read_2 (fun H locs hP hD hS => ?_)
  have hP : va_P (dC, dI) vwCl (wX8 cI cB cE a v_boards v_kind v_rows v_outer v_inner v_content v_boxes v_rowOf v_columnOf v_seen v_seenWhat v_seenCan v_pageLength v_page 0 v_newKind v_newRows v_newOuter v_newInner v_newContent v_now v_left v_box v_isCounted v_counted v_given v_isTermed v_terms v_term v_shape v_readBoxes v_readRow v_readColumn v_grid v_often v_seedNow v_isKept v_keptBoard v_keptKind v_keptRows v_keptSeen v_keptOuter v_keptInner v_keptContent v_keptWhat v_keptCan v_h) H := hP
  have hD : va_D A (wX8 cI cB cE a v_boards v_kind v_rows v_outer v_inner v_content v_boxes v_rowOf v_columnOf v_seen v_seenWhat v_seenCan v_pageLength v_page 0 v_newKind v_newRows v_newOuter v_newInner v_newContent v_now v_left v_box v_isCounted v_counted v_given v_isTermed v_terms v_term v_shape v_readBoxes v_readRow v_readColumn v_grid v_often v_seedNow v_isKept v_keptBoard v_keptKind v_keptRows v_keptSeen v_keptOuter v_keptInner v_keptContent v_keptWhat v_keptCan v_h) := hD
  refine lv_aload_n hx hb dX8_read_5 rfl (lv_at hl 0 rfl) ?_
  refine lv_aload_n hx hb dX8_read_6 rfl (lv_at hl 0 rfl) ?_
  refine lv_iconst (v := 0) hx hb dX8_read_7 (by decide) ?_
  obtain ⟨r_1, hr_1, hf⟩ := bd_some hf
  refine cx_runW (cx_V (As := [.int 0]) (rest := [.ref (a 0)]) ⟨hx, hb, hml, hown, hts⟩ (ctX8_at l z dC dI cI cB cE a v_boards v_kind v_rows v_outer v_inner v_content v_boxes v_rowOf v_columnOf v_seen v_seenWhat v_seenCan v_pageLength v_page 0 v_newKind v_newRows v_newOuter v_newInner v_newContent v_now v_left v_box v_isCounted v_counted v_given v_isTermed v_terms v_term v_shape v_readBoxes v_readRow v_readColumn v_grid v_often v_seedNow v_isKept v_keptBoard v_keptKind v_keptRows v_keptSeen v_keptOuter v_keptInner v_keptContent v_keptWhat v_keptCan v_h 0 r_1 hr_1) (cwV 1 hts gX8_read_X8_at rfl rfl rfl (by decide +kernel) ⟨Nat.le_of_ble_eq_true rfl, Nat.le_of_ble_eq_true rfl⟩) hK hP hD hZ hS hA (ci := 8) (q0 := 0) rfl rfl rfl hl.1 rfl (Nat.le_of_ble_eq_true rfl) dX8_read_8) hD hS hA [.int r_1, .ref (a 0)] rfl (fun H locs hP hD hS => ?_)
  obtain ⟨r_2, hr_2, hf⟩ := bd_some hf
  refine cx_run0 (cx_S (A := A) (As := [.int r_1]) (rest := [.ref (a 0)]) ⟨hx, hb, hml, hown, hts⟩ (ctX8_kindBy l z dC dI cI cB cE r_1 r_2 hr_2) (va_cwS 1 hts gX8_read_X8_kindBy rfl rfl rfl (by decide +kernel) ⟨Nat.le_of_ble_eq_true rfl, Nat.le_of_ble_eq_true rfl⟩) hK vaP0 vaD0 hZ hS hA rfl hl.1 rfl (Nat.le_of_ble_eq_true rfl) dX8_read_11) hP hS hA [.int r_2, .ref (a 0)] rfl (fun H locs hP hS => ?_)
  refine va_put (D := (dC, dI)) (ci := 8) (v := .int r_2) (ty := .int) (C := RX8) (T := TX8) (N := 47) hx hb hts (fun _ h => List.mem_cons_of_mem _ (List.mem_append_right _ h)) tyX8 tyX8_ok nmX8 hown hK hP hD hS 0 rfl rfl 15 (by decide) (hts (.fieldLink RX8 111 "SkewBoardModel" "newKind" "I") (List.mem_of_getElem? (i := 2) rfl)) (fun _ h9 => h9) rfl (by decide +kernel) rfl rfl (Nat.le_of_ble_eq_true rfl) dX8_read_14 (fun H locs hP hD hS => ?_)
  have hP : va_P (dC, dI) vwCl (wX8 cI cB cE a v_boards v_kind v_rows v_outer v_inner v_content v_boxes v_rowOf v_columnOf v_seen v_seenWhat v_seenCan v_pageLength v_page 0 r_2 v_newRows v_newOuter v_newInner v_newContent v_now v_left v_box v_isCounted v_counted v_given v_isTermed v_terms v_term v_shape v_readBoxes v_readRow v_readColumn v_grid v_often v_seedNow v_isKept v_keptBoard v_keptKind v_keptRows v_keptSeen v_keptOuter v_keptInner v_keptContent v_keptWhat v_keptCan v_h) H := hP
  have hD : va_D A (wX8 cI cB cE a v_boards v_kind v_rows v_outer v_inner v_content v_boxes v_rowOf v_columnOf v_seen v_seenWhat v_seenCan v_pageLength v_page 0 r_2 v_newRows v_newOuter v_newInner v_newContent v_now v_left v_box v_isCounted v_counted v_given v_isTermed v_terms v_term v_shape v_readBoxes v_readRow v_readColumn v_grid v_often v_seedNow v_isKept v_keptBoard v_keptKind v_keptRows v_keptSeen v_keptOuter v_keptInner v_keptContent v_keptWhat v_keptCan v_h) := hD
  refine lv_aload_n hx hb dX8_read_17 rfl (lv_at hl 0 rfl) ?_
  refine va_get (D := (dC, dI)) (ci := 8) (C := RX8) (T := TX8) (N := 47) hx hb hts (fun _ h => List.mem_cons_of_mem _ (List.mem_append_right _ h)) hown hK hP 0 rfl rfl 15 (by decide) (hts (.fieldLink RX8 111 "SkewBoardModel" "newKind" "I") (List.mem_of_getElem? (i := 2) rfl)) (fun _ h9 => h9) rfl dX8_read_18 ?_
  refine lv_iconst (v := (-1)) hx hb dX8_read_21 (by decide) ?_
  refine lv_icmp_ne (tgt := 27) hx hb dX8_read_22 (by decide) (fun c_3 => ?_) (fun c_3 => ?_)
  · rw [if_neg c_3] at hf
    refine lv_aload_n hx hb dX8_read_27 rfl (lv_at hl 0 rfl) ?_
    refine lv_iconst (v := 1) hx hb dX8_read_28 (by decide) ?_
    obtain ⟨r_4, hr_4, hf⟩ := bd_some hf
    refine cx_runW (cx_V (As := [.int 1]) (rest := []) ⟨hx, hb, hml, hown, hts⟩ (ctX8_readOuter l z dC dI cI cB cE a v_boards v_kind v_rows v_outer v_inner v_content v_boxes v_rowOf v_columnOf v_seen v_seenWhat v_seenCan v_pageLength v_page 0 r_2 v_newRows v_newOuter v_newInner v_newContent v_now v_left v_box v_isCounted v_counted v_given v_isTermed v_terms v_term v_shape v_readBoxes v_readRow v_readColumn v_grid v_often v_seedNow v_isKept v_keptBoard v_keptKind v_keptRows v_keptSeen v_keptOuter v_keptInner v_keptContent v_keptWhat v_keptCan v_h 1 r_4 hr_4) (cwV 1 hts gX8_read_X8_readOuter rfl rfl rfl (by decide +kernel) ⟨Nat.le_of_ble_eq_true rfl, Nat.le_of_ble_eq_true rfl⟩) hK hP hD hZ hS hA (ci := 8) (q0 := 0) rfl rfl rfl hl.1 rfl (Nat.le_of_ble_eq_true rfl) dX8_read_29) hD hS hA [.int r_4.1] rfl (fun H locs hP hD hS => ?_)
    refine lv_istore_n (lv' := [(1, .int r_4.1), (0, .ref (a 0))]) hx hb dX8_read_32 rfl hl (by decide) rfl (fun ls hl => ?_)
    refine lv_aload_n hx hb dX8_read_33 rfl (lv_at hl 1 rfl) ?_
    refine va_get (D := (dC, dI)) (ci := 8) (C := RX8) (T := TX8) (N := 47) hx hb hts (fun _ h => List.mem_cons_of_mem _ (List.mem_append_right _ h)) hown hK hP 0 rfl rfl 16 (by decide) (hts (.fieldLink RX8 98 "SkewBoardModel" "newRows" "I") (List.mem_of_getElem? (i := 3) rfl)) (fun _ h9 => h9) rfl dX8_read_34 ?_
    have J50 : ∀ (u_50 : Unit), fX8_read_J50 v_newInner v_newContent r_2 r_4 u_50 = some fin → ∀ (H : Heap) (locs : List Loc), va_P (dC, dI) vwCl (wX8 cI cB cE a v_boards v_kind v_rows v_outer v_inner v_content v_boxes v_rowOf v_columnOf v_seen v_seenWhat v_seenCan v_pageLength v_page 0 r_2 r_4.2.1 r_4.2.2 v_newInner v_newContent v_now v_left v_box v_isCounted v_counted v_given v_isTermed v_terms v_term v_shape v_readBoxes v_readRow v_readColumn v_grid v_often v_seedNow v_isKept v_keptBoard v_keptKind v_keptRows v_keptSeen v_keptOuter v_keptInner v_keptContent v_keptWhat v_keptCan v_h) H → va_D A (wX8 cI cB cE a v_boards v_kind v_rows v_outer v_inner v_content v_boxes v_rowOf v_columnOf v_seen v_seenWhat v_seenCan v_pageLength v_page 0 r_2 r_4.2.1 r_4.2.2 v_newInner v_newContent v_now v_left v_box v_isCounted v_counted v_given v_isTermed v_terms v_term v_shape v_readBoxes v_readRow v_readColumn v_grid v_often v_seedNow v_isKept v_keptBoard v_keptKind v_keptRows v_keptSeen v_keptOuter v_keptInner v_keptContent v_keptWhat v_keptCan v_h) → va_S A s.heap H locs → ∀ (ls : Array Slot), lv_has ls 4 [(1, .int r_4.1)] → W p l e rmX8_read s m args below meth c H locs 0 0 Q (F0 m 50 ls []) := by
      intro u_50 hf H locs hP hD hS ls hl
      unfold fX8_read_J50 at hf
      refine lv_iload_n hx hb dX8_read_50 rfl (lv_at hl 0 rfl) ?_
      have hQ2 := hQ
      rw [← Option.some.inj hf] at hQ2
      exact cx_iret hQ2 hx hb hr hlocks hK hP hD hS dX8_read_51
    refine lv_if_eq (tgt := 50) hx hb dX8_read_37 (by decide) (fun c_5 => ?_) (fun c_5 => ?_)
    · rw [if_pos c_5] at hf
      exact J50 () hf _ _ hP hD hS ls (lv_sub hl [0] rfl)
    · rw [if_neg c_5] at hf
      refine lv_aload_n hx hb dX8_read_40 rfl (lv_at hl 1 rfl) ?_
      refine lv_iload_n hx hb dX8_read_41 rfl (lv_at hl 0 rfl) ?_
      obtain ⟨r_6, hr_6, hf⟩ := bd_some hf
      refine cx_runW (cx_V (As := [.int r_4.1]) (rest := []) ⟨hx, hb, hml, hown, hts⟩ (ctX8_at l z dC dI cI cB cE a v_boards v_kind v_rows v_outer v_inner v_content v_boxes v_rowOf v_columnOf v_seen v_seenWhat v_seenCan v_pageLength v_page 0 r_2 r_4.2.1 r_4.2.2 v_newInner v_newContent v_now v_left v_box v_isCounted v_counted v_given v_isTermed v_terms v_term v_shape v_readBoxes v_readRow v_readColumn v_grid v_often v_seedNow v_isKept v_keptBoard v_keptKind v_keptRows v_keptSeen v_keptOuter v_keptInner v_keptContent v_keptWhat v_keptCan v_h r_4.1 r_6 hr_6) (cwV 1 hts gX8_read_X8_at rfl rfl rfl (by decide +kernel) ⟨Nat.le_of_ble_eq_true rfl, Nat.le_of_ble_eq_true rfl⟩) hK hP hD hZ hS hA (ci := 8) (q0 := 0) rfl rfl rfl hl.1 rfl (Nat.le_of_ble_eq_true rfl) dX8_read_42) hD hS hA [.int r_6] rfl (fun H locs hP hD hS => ?_)
      refine lv_bipush (v := 47) hx hb dX8_read_45 (by decide) ?_
      refine lv_icmp_eq (tgt := 52) hx hb dX8_read_47 (by decide) (fun c_7 => ?_) (fun c_7 => ?_)
      · rw [if_pos c_7] at hf
        refine lv_aload_n hx hb dX8_read_52 rfl (lv_at hl 1 rfl) ?_
        refine lv_iload_n hx hb dX8_read_53 rfl (lv_at hl 0 rfl) ?_
        refine lv_iconst (v := 1) hx hb dX8_read_54 (by decide) ?_
        refine lv_iadd hx hb dX8_read_55 ?_
        obtain ⟨r_8, hr_8, hf⟩ := bd_some hf
        refine cx_runW (cx_V (As := [.int (r_4.1 + 1)]) (rest := []) ⟨hx, hb, hml, hown, hts⟩ (ctX8_readInner l z dC dI cI cB cE a v_boards v_kind v_rows v_outer v_inner v_content v_boxes v_rowOf v_columnOf v_seen v_seenWhat v_seenCan v_pageLength v_page 0 r_2 r_4.2.1 r_4.2.2 v_newInner v_newContent v_now v_left v_box v_isCounted v_counted v_given v_isTermed v_terms v_term v_shape v_readBoxes v_readRow v_readColumn v_grid v_often v_seedNow v_isKept v_keptBoard v_keptKind v_keptRows v_keptSeen v_keptOuter v_keptInner v_keptContent v_keptWhat v_keptCan v_h (r_4.1 + 1) r_8 hr_8) (cwV 1 hts gX8_read_X8_readInner rfl rfl rfl (by decide +kernel) ⟨Nat.le_of_ble_eq_true rfl, Nat.le_of_ble_eq_true rfl⟩) hK hP hD hZ hS hA (ci := 8) (q0 := 0) rfl rfl rfl hl.1 rfl (Nat.le_of_ble_eq_true rfl) dX8_read_56) hD hS hA [.int r_8.1] rfl (fun H locs hP hD hS => ?_)
        refine lv_istore_n (lv' := [(1, .int r_8.1), (0, .ref (a 0))]) hx hb dX8_read_59 rfl hl (by decide) rfl (fun ls hl => ?_)
        refine lv_aload_n hx hb dX8_read_60 rfl (lv_at hl 1 rfl) ?_
        refine lv_iload_n hx hb dX8_read_61 rfl (lv_at hl 0 rfl) ?_
        obtain ⟨r_9, hr_9, hf⟩ := bd_some hf
        refine cx_runW (cx_V (As := [.int r_8.1]) (rest := []) ⟨hx, hb, hml, hown, hts⟩ (ctX8_at l z dC dI cI cB cE a v_boards v_kind v_rows v_outer v_inner v_content v_boxes v_rowOf v_columnOf v_seen v_seenWhat v_seenCan v_pageLength v_page 0 r_2 r_4.2.1 r_4.2.2 r_8.2 v_newContent v_now v_left v_box v_isCounted v_counted v_given v_isTermed v_terms v_term v_shape v_readBoxes v_readRow v_readColumn v_grid v_often v_seedNow v_isKept v_keptBoard v_keptKind v_keptRows v_keptSeen v_keptOuter v_keptInner v_keptContent v_keptWhat v_keptCan v_h r_8.1 r_9 hr_9) (cwV 1 hts gX8_read_X8_at rfl rfl rfl (by decide +kernel) ⟨Nat.le_of_ble_eq_true rfl, Nat.le_of_ble_eq_true rfl⟩) hK hP hD hZ hS hA (ci := 8) (q0 := 0) rfl rfl rfl hl.1 rfl (Nat.le_of_ble_eq_true rfl) dX8_read_62) hD hS hA [.int r_9] rfl (fun H locs hP hD hS => ?_)
        refine lv_bipush (v := 58) hx hb dX8_read_65 (by decide) ?_
        refine lv_icmp_eq (tgt := 72) hx hb dX8_read_67 (by decide) (fun c_10 => ?_) (fun c_10 => ?_)
        · rw [if_pos c_10] at hf
          refine lv_iinc (v := (r_8.1 + 1)) (lv' := [(1, .int (r_8.1 + 1)), (0, .ref (a 0))]) hx hb dX8_read_72 hl (k := 0) rfl rfl (by decide) rfl (fun ls hl => ?_)
          refine lv_iconst (v := 0) hx hb dX8_read_75 (by decide) ?_
          refine lv_istore_n (lv' := [(2, .int 0), (1, .int (r_8.1 + 1)), (0, .ref (a 0))]) hx hb dX8_read_76 rfl hl (by decide) rfl (fun ls hl => ?_)
          refine lv_iconst (v := 0) hx hb dX8_read_77 (by decide) ?_
          refine lv_istore_n (lv' := [(3, .int 0), (2, .int 0), (1, .int (r_8.1 + 1)), (0, .ref (a 0))]) hx hb dX8_read_78 rfl hl (by decide) rfl (fun ls hl => ?_)
          have J136 : ∀ (x1_136 : Int32) (x2_136 : Int32) (v_newContent_136 : Nat → Int32), fX8_read_J136 v_pageLength r_2 r_4 r_8 x1_136 x2_136 v_newContent_136 = some fin → ∀ (H : Heap) (locs : List Loc), va_P (dC, dI) vwCl (wX8 cI cB cE a v_boards v_kind v_rows v_outer v_inner v_content v_boxes v_rowOf v_columnOf v_seen v_seenWhat v_seenCan v_pageLength v_page 0 r_2 r_4.2.1 r_4.2.2 r_8.2 v_newContent_136 v_now v_left v_box v_isCounted v_counted v_given v_isTermed v_terms v_term v_shape v_readBoxes v_readRow v_readColumn v_grid v_often v_seedNow v_isKept v_keptBoard v_keptKind v_keptRows v_keptSeen v_keptOuter v_keptInner v_keptContent v_keptWhat v_keptCan v_h) H → va_D A (wX8 cI cB cE a v_boards v_kind v_rows v_outer v_inner v_content v_boxes v_rowOf v_columnOf v_seen v_seenWhat v_seenCan v_pageLength v_page 0 r_2 r_4.2.1 r_4.2.2 r_8.2 v_newContent_136 v_now v_left v_box v_isCounted v_counted v_given v_isTermed v_terms v_term v_shape v_readBoxes v_readRow v_readColumn v_grid v_often v_seedNow v_isKept v_keptBoard v_keptKind v_keptRows v_keptSeen v_keptOuter v_keptInner v_keptContent v_keptWhat v_keptCan v_h) → va_S A s.heap H locs → ∀ (ls : Array Slot), lv_has ls 4 [(0, .ref (a 0)), (1, .int x1_136), (2, .int x2_136)] → W p l e rmX8_read s m args below meth c H locs 0 0 Q (F0 m 136 ls []) := by
            intro x1_136 x2_136 v_newContent_136 hf H locs hP hD hS ls hl
            unfold fX8_read_J136 at hf
            refine lv_aload_n hx hb dX8_read_136 rfl (lv_at hl 0 rfl) ?_
            refine lv_iload_n hx hb dX8_read_137 rfl (lv_at hl 2 rfl) ?_
            have J154 : ∀ (y1_154 : Int32), fX8_read_J154 r_2 r_4 r_8 x1_136 v_newContent_136 y1_154 = some fin → ∀ (H : Heap) (locs : List Loc), va_P (dC, dI) vwCl (wX8 cI cB cE a v_boards v_kind v_rows v_outer v_inner v_content v_boxes v_rowOf v_columnOf v_seen v_seenWhat v_seenCan v_pageLength v_page 0 r_2 r_4.2.1 r_4.2.2 r_8.2 v_newContent_136 v_now v_left v_box v_isCounted v_counted v_given v_isTermed v_terms v_term v_shape v_readBoxes v_readRow v_readColumn v_grid v_often v_seedNow v_isKept v_keptBoard v_keptKind v_keptRows v_keptSeen v_keptOuter v_keptInner v_keptContent v_keptWhat v_keptCan v_h) H → va_D A (wX8 cI cB cE a v_boards v_kind v_rows v_outer v_inner v_content v_boxes v_rowOf v_columnOf v_seen v_seenWhat v_seenCan v_pageLength v_page 0 r_2 r_4.2.1 r_4.2.2 r_8.2 v_newContent_136 v_now v_left v_box v_isCounted v_counted v_given v_isTermed v_terms v_term v_shape v_readBoxes v_readRow v_readColumn v_grid v_often v_seedNow v_isKept v_keptBoard v_keptKind v_keptRows v_keptSeen v_keptOuter v_keptInner v_keptContent v_keptWhat v_keptCan v_h) → va_S A s.heap H locs → ∀ (ls : Array Slot), lv_has ls 4 [(1, .int x1_136)] → W p l e rmX8_read s m args below meth c H locs 0 0 Q (F0 m 154 ls [.int y1_154, .ref (a 0)]) := by
              intro y1_154 hf H locs hP hD hS ls hl
              unfold fX8_read_J154 at hf
              obtain ⟨g_11, hf⟩ := gd_some hf
              refine va_put (D := (dC, dI)) (ci := 8) (v := .int y1_154) (ty := .boolean) (C := RX8) (T := TX8) (N := 47) hx hb hts (fun _ h => List.mem_cons_of_mem _ (List.mem_append_right _ h)) tyX8 tyX8_ok nmX8 hown hK hP hD hS 0 rfl rfl 14 (by decide) (hts (.fieldLink RX8 104 "SkewBoardModel" "isWhole" "Z") (List.mem_of_getElem? (i := 1) rfl)) (fun _ h9 => h9) rfl (by decide +kernel) (isb_nar g_11) (isb_fit g_11) (Nat.le_of_ble_eq_true rfl) dX8_read_154 (fun H locs hP hD hS => ?_)
              have hP : va_P (dC, dI) vwCl (wX8 cI cB cE a v_boards v_kind v_rows v_outer v_inner v_content v_boxes v_rowOf v_columnOf v_seen v_seenWhat v_seenCan v_pageLength v_page y1_154 r_2 r_4.2.1 r_4.2.2 r_8.2 v_newContent_136 v_now v_left v_box v_isCounted v_counted v_given v_isTermed v_terms v_term v_shape v_readBoxes v_readRow v_readColumn v_grid v_often v_seedNow v_isKept v_keptBoard v_keptKind v_keptRows v_keptSeen v_keptOuter v_keptInner v_keptContent v_keptWhat v_keptCan v_h) H := hP
              have hD : va_D A (wX8 cI cB cE a v_boards v_kind v_rows v_outer v_inner v_content v_boxes v_rowOf v_columnOf v_seen v_seenWhat v_seenCan v_pageLength v_page y1_154 r_2 r_4.2.1 r_4.2.2 r_8.2 v_newContent_136 v_now v_left v_box v_isCounted v_counted v_given v_isTermed v_terms v_term v_shape v_readBoxes v_readRow v_readColumn v_grid v_often v_seedNow v_isKept v_keptBoard v_keptKind v_keptRows v_keptSeen v_keptOuter v_keptInner v_keptContent v_keptWhat v_keptCan v_h) := hD
              refine lv_iload_n hx hb dX8_read_157 rfl (lv_at hl 0 rfl) ?_
              have hQ2 := hQ
              rw [← Option.some.inj hf] at hQ2
              exact cx_iret hQ2 hx hb hr hlocks hK hP hD hS dX8_read_158
            have J153 : ∀ (u_153 : Unit), fX8_read_J153 (fX8_read_J154 r_2 r_4 r_8 x1_136 v_newContent_136) u_153 = some fin → ∀ (H : Heap) (locs : List Loc), va_P (dC, dI) vwCl (wX8 cI cB cE a v_boards v_kind v_rows v_outer v_inner v_content v_boxes v_rowOf v_columnOf v_seen v_seenWhat v_seenCan v_pageLength v_page 0 r_2 r_4.2.1 r_4.2.2 r_8.2 v_newContent_136 v_now v_left v_box v_isCounted v_counted v_given v_isTermed v_terms v_term v_shape v_readBoxes v_readRow v_readColumn v_grid v_often v_seedNow v_isKept v_keptBoard v_keptKind v_keptRows v_keptSeen v_keptOuter v_keptInner v_keptContent v_keptWhat v_keptCan v_h) H → va_D A (wX8 cI cB cE a v_boards v_kind v_rows v_outer v_inner v_content v_boxes v_rowOf v_columnOf v_seen v_seenWhat v_seenCan v_pageLength v_page 0 r_2 r_4.2.1 r_4.2.2 r_8.2 v_newContent_136 v_now v_left v_box v_isCounted v_counted v_given v_isTermed v_terms v_term v_shape v_readBoxes v_readRow v_readColumn v_grid v_often v_seedNow v_isKept v_keptBoard v_keptKind v_keptRows v_keptSeen v_keptOuter v_keptInner v_keptContent v_keptWhat v_keptCan v_h) → va_S A s.heap H locs → ∀ (ls : Array Slot), lv_has ls 4 [(1, .int x1_136)] → W p l e rmX8_read s m args below meth c H locs 0 0 Q (F0 m 153 ls [.ref (a 0)]) := by
              intro u_153 hf H locs hP hD hS ls hl
              unfold fX8_read_J153 at hf
              refine lv_iconst (v := 0) hx hb dX8_read_153 (by decide) ?_
              exact J154 0 hf _ _ hP hD hS ls (lv_sub hl [0] rfl)
            refine lv_if_le (tgt := 153) hx hb dX8_read_138 (by decide) (fun c_12 => ?_) (fun c_12 => ?_)
            · rw [if_pos c_12] at hf
              exact J153 () hf _ _ hP hD hS ls (lv_sub hl [1] rfl)
            · rw [if_neg c_12] at hf
              refine lv_iload_n hx hb dX8_read_141 rfl (lv_at hl 1 rfl) ?_
              refine lv_aload_n hx hb dX8_read_142 rfl (lv_at hl 0 rfl) ?_
              refine va_get (D := (dC, dI)) (ci := 8) (C := RX8) (T := TX8) (N := 47) hx hb hts (fun _ h => List.mem_cons_of_mem _ (List.mem_append_right _ h)) hown hK hP 0 rfl rfl 12 (by decide) (hts (.fieldLink RX8 90 "SkewBoardModel" "pageLength" "I") (List.mem_of_getElem? (i := 5) rfl)) (fun _ h9 => h9) rfl dX8_read_143 ?_
              refine lv_icmp_ne (tgt := 153) hx hb dX8_read_146 (by decide) (fun c_13 => ?_) (fun c_13 => ?_)
              · rw [if_neg c_13] at hf
                exact J153 () hf _ _ hP hD hS ls (lv_sub hl [1] rfl)
              · rw [if_pos c_13] at hf
                refine lv_iconst (v := 1) hx hb dX8_read_149 (by decide) ?_
                refine lv_goto (tgt := 154) hx hb dX8_read_150 (by decide) ?_
                exact J154 1 hf _ _ hP hD hS ls (lv_sub hl [1] rfl)
          have L97 : ∀ (n97 : Nat) (x1_97 : Int32) (x2_97 : Int32) (v_newContent_97 : Nat → Int32), fX8_read_L97 v_pageLength v_page (fX8_read_J136 v_pageLength r_2 r_4 r_8) n97 x1_97 x2_97 v_newContent_97 = some fin → ∀ (H : Heap) (locs : List Loc), va_P (dC, dI) vwCl (wX8 cI cB cE a v_boards v_kind v_rows v_outer v_inner v_content v_boxes v_rowOf v_columnOf v_seen v_seenWhat v_seenCan v_pageLength v_page 0 r_2 r_4.2.1 r_4.2.2 r_8.2 v_newContent_97 v_now v_left v_box v_isCounted v_counted v_given v_isTermed v_terms v_term v_shape v_readBoxes v_readRow v_readColumn v_grid v_often v_seedNow v_isKept v_keptBoard v_keptKind v_keptRows v_keptSeen v_keptOuter v_keptInner v_keptContent v_keptWhat v_keptCan v_h) H → va_D A (wX8 cI cB cE a v_boards v_kind v_rows v_outer v_inner v_content v_boxes v_rowOf v_columnOf v_seen v_seenWhat v_seenCan v_pageLength v_page 0 r_2 r_4.2.1 r_4.2.2 r_8.2 v_newContent_97 v_now v_left v_box v_isCounted v_counted v_given v_isTermed v_terms v_term v_shape v_readBoxes v_readRow v_readColumn v_grid v_often v_seedNow v_isKept v_keptBoard v_keptKind v_keptRows v_keptSeen v_keptOuter v_keptInner v_keptContent v_keptWhat v_keptCan v_h) → va_S A s.heap H locs → ∀ (ls : Array Slot), lv_has ls 4 [(0, .ref (a 0)), (1, .int x1_97), (2, .int x2_97)] → W p l e rmX8_read s m args below meth c H locs 0 0 Q (F0 m 97 ls []) := by
            intro n97
            induction n97 with
            | zero =>
              intro x1_97 x2_97 v_newContent_97 hf
              rw [fX8_read_L97] at hf
              cases hf
            | succ n97 ih97 =>
              intro x1_97 x2_97 v_newContent_97 hf H locs hP hD hS ls hl
              rw [fX8_read_L97] at hf
              refine lv_iload_n hx hb dX8_read_97 rfl (lv_at hl 2 rfl) ?_
              refine lv_iconst (v := 4) hx hb dX8_read_98 (by decide) ?_
              refine lv_icmp_ge (tgt := 136) hx hb dX8_read_99 (by decide) (fun c_14 => ?_) (fun c_14 => ?_)
              · rw [if_pos c_14] at hf
                exact J136 x1_97 x2_97 v_newContent_97 hf _ _ hP hD hS ls (lv_sub hl [0, 1, 2] rfl)
              · rw [if_neg c_14] at hf
                refine lv_aload_n hx hb dX8_read_102 rfl (lv_at hl 0 rfl) ?_
                refine lv_iload_n hx hb dX8_read_103 rfl (lv_at hl 1 rfl) ?_
                obtain ⟨r_15, hr_15, hf⟩ := bd_some hf
                refine cx_runW (cx_V (As := [.int x1_97]) (rest := []) ⟨hx, hb, hml, hown, hts⟩ (ctX8_figure l z dC dI cI cB cE a v_boards v_kind v_rows v_outer v_inner v_content v_boxes v_rowOf v_columnOf v_seen v_seenWhat v_seenCan v_pageLength v_page 0 r_2 r_4.2.1 r_4.2.2 r_8.2 v_newContent_97 v_now v_left v_box v_isCounted v_counted v_given v_isTermed v_terms v_term v_shape v_readBoxes v_readRow v_readColumn v_grid v_often v_seedNow v_isKept v_keptBoard v_keptKind v_keptRows v_keptSeen v_keptOuter v_keptInner v_keptContent v_keptWhat v_keptCan v_h x1_97 r_15 hr_15) (cwV 1 hts gX8_read_X8_figure rfl rfl rfl (by decide +kernel) ⟨Nat.le_of_ble_eq_true rfl, Nat.le_of_ble_eq_true rfl⟩) hK hP hD hZ hS hA (ci := 8) (q0 := 0) rfl rfl rfl hl.1 rfl (Nat.le_of_ble_eq_true rfl) dX8_read_104) hD hS hA [.int r_15] rfl (fun H locs hP hD hS => ?_)
                refine lv_iconst (v := 0) hx hb dX8_read_107 (by decide) ?_
                refine lv_bipush (v := 9) hx hb dX8_read_108 (by decide) ?_
                obtain ⟨r_16, hr_16, hf⟩ := bd_some hf
                refine cx_run0 (cx_S (A := A) (As := [.int r_15, .int 0, .int 9]) (rest := []) ⟨hx, hb, hml, hown, hts⟩ (ctX8_within l z dC dI cI cB cE r_15 0 9 r_16 hr_16) (va_cwS 3 hts gX8_read_X8_within rfl rfl rfl (by decide +kernel) ⟨Nat.le_of_ble_eq_true rfl, Nat.le_of_ble_eq_true rfl⟩) hK vaP0 vaD0 hZ hS hA rfl hl.1 rfl (Nat.le_of_ble_eq_true rfl) dX8_read_110) hP hS hA [.int r_16] rfl (fun H locs hP hS => ?_)
                refine lv_if_eq (tgt := 136) hx hb dX8_read_113 (by decide) (fun c_17 => ?_) (fun c_17 => ?_)
                · rw [if_pos c_17] at hf
                  exact J136 x1_97 x2_97 v_newContent_97 hf _ _ hP hD hS ls (lv_sub hl [0, 1, 2] rfl)
                · rw [if_neg c_17] at hf
                  refine lv_aload_n hx hb dX8_read_116 rfl (lv_at hl 0 rfl) ?_
                  refine va_get (D := (dC, dI)) (ci := 8) (C := RX8) (T := TX8) (N := 47) hx hb hts (fun _ h => List.mem_cons_of_mem _ (List.mem_append_right _ h)) hown hK hP 0 rfl rfl 19 (by decide) (hts (.fieldLink RX8 41 "SkewBoardModel" "newContent" "[I") (List.mem_of_getElem? (i := 4) rfl)) (fun _ h9 => h9) rfl dX8_read_117 ?_
                  refine lv_iload_n hx hb dX8_read_120 rfl (lv_at hl 2 rfl) ?_
                  refine lv_aload_n hx hb dX8_read_121 rfl (lv_at hl 0 rfl) ?_
                  refine lv_iload_n hx hb dX8_read_122 rfl (lv_at hl 1 rfl) ?_
                  obtain ⟨r_18, hr_18, hf⟩ := bd_some hf
                  refine cx_runW (cx_V (As := [.int x1_97]) (rest := [.int x2_97, .ref (a 11)]) ⟨hx, hb, hml, hown, hts⟩ (ctX8_figure l z dC dI cI cB cE a v_boards v_kind v_rows v_outer v_inner v_content v_boxes v_rowOf v_columnOf v_seen v_seenWhat v_seenCan v_pageLength v_page 0 r_2 r_4.2.1 r_4.2.2 r_8.2 v_newContent_97 v_now v_left v_box v_isCounted v_counted v_given v_isTermed v_terms v_term v_shape v_readBoxes v_readRow v_readColumn v_grid v_often v_seedNow v_isKept v_keptBoard v_keptKind v_keptRows v_keptSeen v_keptOuter v_keptInner v_keptContent v_keptWhat v_keptCan v_h x1_97 r_18 hr_18) (cwV 1 hts gX8_read_X8_figure rfl rfl rfl (by decide +kernel) ⟨Nat.le_of_ble_eq_true rfl, Nat.le_of_ble_eq_true rfl⟩) hK hP hD hZ hS hA (ci := 8) (q0 := 0) rfl rfl rfl hl.1 rfl (Nat.le_of_ble_eq_true rfl) dX8_read_123) hD hS hA [.int r_18, .int x2_97, .ref (a 11)] rfl (fun H locs hP hD hS => ?_)
                  obtain ⟨g_19, hf⟩ := gd_some hf
                  refine va_iast hx hb hK hP hD hS 11 0 rfl rfl (inb_vp g_19) dX8_read_126 (fun H locs hP hD hS => ?_)
                  have hP : va_P (dC, dI) vwCl (wX8 cI cB cE a v_boards v_kind v_rows v_outer v_inner v_content v_boxes v_rowOf v_columnOf v_seen v_seenWhat v_seenCan v_pageLength v_page 0 r_2 r_4.2.1 r_4.2.2 r_8.2 (upd v_newContent_97 x2_97.toNatClampNeg r_18) v_now v_left v_box v_isCounted v_counted v_given v_isTermed v_terms v_term v_shape v_readBoxes v_readRow v_readColumn v_grid v_often v_seedNow v_isKept v_keptBoard v_keptKind v_keptRows v_keptSeen v_keptOuter v_keptInner v_keptContent v_keptWhat v_keptCan v_h) H := hP
                  have hD : va_D A (wX8 cI cB cE a v_boards v_kind v_rows v_outer v_inner v_content v_boxes v_rowOf v_columnOf v_seen v_seenWhat v_seenCan v_pageLength v_page 0 r_2 r_4.2.1 r_4.2.2 r_8.2 (upd v_newContent_97 x2_97.toNatClampNeg r_18) v_now v_left v_box v_isCounted v_counted v_given v_isTermed v_terms v_term v_shape v_readBoxes v_readRow v_readColumn v_grid v_often v_seedNow v_isKept v_keptBoard v_keptKind v_keptRows v_keptSeen v_keptOuter v_keptInner v_keptContent v_keptWhat v_keptCan v_h) := hD
                  refine lv_iinc (v := (x2_97 + 1)) (lv' := [(2, .int (x2_97 + 1)), (0, .ref (a 0)), (1, .int x1_97)]) hx hb dX8_read_127 hl (k := 2) rfl rfl (by decide) rfl (fun ls hl => ?_)
                  refine lv_iinc (v := (x1_97 + 1)) (lv' := [(1, .int (x1_97 + 1)), (2, .int (x2_97 + 1)), (0, .ref (a 0))]) hx hb dX8_read_130 hl (k := 2) rfl rfl (by decide) rfl (fun ls hl => ?_)
                  refine lv_goto (tgt := 97) hx hb dX8_read_133 (by decide) ?_
                  exact ih97 (x1_97 + 1) (x2_97 + 1) (upd v_newContent_97 x2_97.toNatClampNeg r_18) hf _ _ hP hD hS ls (lv_sub hl [2, 0, 1] rfl)
          have L79 : ∀ (n79 : Nat) (x3_79 : Int32) (v_newContent_79 : Nat → Int32), fX8_read_L79 r_8 (fX8_read_L97 v_pageLength v_page (fX8_read_J136 v_pageLength r_2 r_4 r_8) fu) n79 x3_79 v_newContent_79 = some fin → ∀ (H : Heap) (locs : List Loc), va_P (dC, dI) vwCl (wX8 cI cB cE a v_boards v_kind v_rows v_outer v_inner v_content v_boxes v_rowOf v_columnOf v_seen v_seenWhat v_seenCan v_pageLength v_page 0 r_2 r_4.2.1 r_4.2.2 r_8.2 v_newContent_79 v_now v_left v_box v_isCounted v_counted v_given v_isTermed v_terms v_term v_shape v_readBoxes v_readRow v_readColumn v_grid v_often v_seedNow v_isKept v_keptBoard v_keptKind v_keptRows v_keptSeen v_keptOuter v_keptInner v_keptContent v_keptWhat v_keptCan v_h) H → va_D A (wX8 cI cB cE a v_boards v_kind v_rows v_outer v_inner v_content v_boxes v_rowOf v_columnOf v_seen v_seenWhat v_seenCan v_pageLength v_page 0 r_2 r_4.2.1 r_4.2.2 r_8.2 v_newContent_79 v_now v_left v_box v_isCounted v_counted v_given v_isTermed v_terms v_term v_shape v_readBoxes v_readRow v_readColumn v_grid v_often v_seedNow v_isKept v_keptBoard v_keptKind v_keptRows v_keptSeen v_keptOuter v_keptInner v_keptContent v_keptWhat v_keptCan v_h) → va_S A s.heap H locs → ∀ (ls : Array Slot), lv_has ls 4 [(0, .ref (a 0)), (1, .int (r_8.1 + 1)), (2, .int 0), (3, .int x3_79)] → W p l e rmX8_read s m args below meth c H locs 0 0 Q (F0 m 79 ls []) := by
            intro n79
            induction n79 with
            | zero =>
              intro x3_79 v_newContent_79 hf
              rw [fX8_read_L79] at hf
              cases hf
            | succ n79 ih79 =>
              intro x3_79 v_newContent_79 hf H locs hP hD hS ls hl
              rw [fX8_read_L79] at hf
              refine lv_iload_n hx hb dX8_read_79 rfl (lv_at hl 3 rfl) ?_
              refine lv_iconst (v := 4) hx hb dX8_read_80 (by decide) ?_
              refine lv_icmp_ge (tgt := 97) hx hb dX8_read_81 (by decide) (fun c_20 => ?_) (fun c_20 => ?_)
              · rw [if_pos c_20] at hf
                exact L97 fu (r_8.1 + 1) 0 v_newContent_79 hf _ _ hP hD hS ls (lv_sub hl [0, 1, 2] rfl)
              · rw [if_neg c_20] at hf
                refine lv_aload_n hx hb dX8_read_84 rfl (lv_at hl 0 rfl) ?_
                refine va_get (D := (dC, dI)) (ci := 8) (C := RX8) (T := TX8) (N := 47) hx hb hts (fun _ h => List.mem_cons_of_mem _ (List.mem_append_right _ h)) hown hK hP 0 rfl rfl 19 (by decide) (hts (.fieldLink RX8 41 "SkewBoardModel" "newContent" "[I") (List.mem_of_getElem? (i := 4) rfl)) (fun _ h9 => h9) rfl dX8_read_85 ?_
                refine lv_iload_n hx hb dX8_read_88 rfl (lv_at hl 3 rfl) ?_
                refine lv_iconst (v := 0) hx hb dX8_read_89 (by decide) ?_
                obtain ⟨g_21, hf⟩ := gd_some hf
                refine va_iast hx hb hK hP hD hS 11 0 rfl rfl (inb_vp g_21) dX8_read_90 (fun H locs hP hD hS => ?_)
                have hP : va_P (dC, dI) vwCl (wX8 cI cB cE a v_boards v_kind v_rows v_outer v_inner v_content v_boxes v_rowOf v_columnOf v_seen v_seenWhat v_seenCan v_pageLength v_page 0 r_2 r_4.2.1 r_4.2.2 r_8.2 (upd v_newContent_79 x3_79.toNatClampNeg 0) v_now v_left v_box v_isCounted v_counted v_given v_isTermed v_terms v_term v_shape v_readBoxes v_readRow v_readColumn v_grid v_often v_seedNow v_isKept v_keptBoard v_keptKind v_keptRows v_keptSeen v_keptOuter v_keptInner v_keptContent v_keptWhat v_keptCan v_h) H := hP
                have hD : va_D A (wX8 cI cB cE a v_boards v_kind v_rows v_outer v_inner v_content v_boxes v_rowOf v_columnOf v_seen v_seenWhat v_seenCan v_pageLength v_page 0 r_2 r_4.2.1 r_4.2.2 r_8.2 (upd v_newContent_79 x3_79.toNatClampNeg 0) v_now v_left v_box v_isCounted v_counted v_given v_isTermed v_terms v_term v_shape v_readBoxes v_readRow v_readColumn v_grid v_often v_seedNow v_isKept v_keptBoard v_keptKind v_keptRows v_keptSeen v_keptOuter v_keptInner v_keptContent v_keptWhat v_keptCan v_h) := hD
                refine lv_iinc (v := (x3_79 + 1)) (lv' := [(3, .int (x3_79 + 1)), (0, .ref (a 0)), (1, .int (r_8.1 + 1)), (2, .int 0)]) hx hb dX8_read_91 hl (k := 3) rfl rfl (by decide) rfl (fun ls hl => ?_)
                refine lv_goto (tgt := 79) hx hb dX8_read_94 (by decide) ?_
                exact ih79 (x3_79 + 1) (upd v_newContent_79 x3_79.toNatClampNeg 0) hf _ _ hP hD hS ls (lv_sub hl [1, 2, 3, 0] rfl)
          exact L79 fu 0 v_newContent hf _ _ hP hD hS ls (lv_sub hl [3, 2, 1, 0] rfl)
        · rw [if_neg c_10] at hf
          refine lv_iload_n hx hb dX8_read_70 rfl (lv_at hl 0 rfl) ?_
          have hQ2 := hQ
          rw [← Option.some.inj hf] at hQ2
          exact cx_iret hQ2 hx hb hr hlocks hK hP hD hS dX8_read_71
      · rw [if_neg c_7] at hf
        exact J50 () hf _ _ hP hD hS ls (lv_sub hl [0] rfl)
  · rw [if_pos c_3] at hf
    refine lv_iconst (v := 0) hx hb dX8_read_25 (by decide) ?_
    have hQ2 := hQ
    rw [← Option.some.inj hf] at hQ2
    exact cx_iret hQ2 hx hb hr hlocks hK hP hD hS dX8_read_26

def fX8_fault (v_pageLength : Int32) (v_page : Nat → Int32) (v_newRows : Int32) (v_newOuter : Nat → Int32) (v_newInner : Nat → Int32) (v_newContent : Nat → Int32) : Option (Int32 × Int32 × Int32 × Int32 × (Nat → Int32) × (Nat → Int32) × (Nat → Int32)) :=
  bd (fX8_read v_pageLength v_page v_newRows v_newOuter v_newInner v_newContent) (fun r_1 => some (r_1.1, r_1.2.1, r_1.2.2.1, r_1.2.2.2.1, r_1.2.2.2.2.1, r_1.2.2.2.2.2.1, r_1.2.2.2.2.2.2))
def rmX8_fault : Room := { frames := 4, cells := 0, slots := 0, locals := 90 }
set_option maxRecDepth 100000 in
set_option maxHeartbeats 4000000 in
theorem ctX8_fault (l : Launch) (z : Nat × Nat × Nat) (dC : Nat → ClassId) (dI : Nat → Nat → Nat) (cI cB cE : ClassId) (a : Nat → Nat) (v_boards : Int32) (v_kind : Int32) (v_rows : Int32) (v_outer : Nat → Int32) (v_inner : Nat → Int32) (v_content : Nat → Int32) (v_boxes : Int32) (v_rowOf : Nat → Int32) (v_columnOf : Nat → Int32) (v_seen : Int32) (v_seenWhat : Nat → Int32) (v_seenCan : Nat → Int32) (v_pageLength : Int32) (v_page : Nat → Int32) (v_isWhole : Int32) (v_newKind : Int32) (v_newRows : Int32) (v_newOuter : Nat → Int32) (v_newInner : Nat → Int32) (v_newContent : Nat → Int32) (v_now : Nat → Int32) (v_left : Nat → Int32) (v_box : Int32) (v_isCounted : Int32) (v_counted : Int32) (v_given : Nat → Int32) (v_isTermed : Int32) (v_terms : Int32) (v_term : Nat → Int32) (v_shape : Nat → Int32) (v_readBoxes : Int32) (v_readRow : Nat → Int32) (v_readColumn : Nat → Int32) (v_grid : Nat → Int32) (v_often : Nat → Int32) (v_seedNow : Int64) (v_isKept : Int32) (v_keptBoard : Int32) (v_keptKind : Int32) (v_keptRows : Int32) (v_keptSeen : Int32) (v_keptOuter : Nat → Int32) (v_keptInner : Nat → Int32) (v_keptContent : Nat → Int32) (v_keptWhat : Nat → Int32) (v_keptCan : Nat → Int32) (v_h : Int64) (fin : Int32 × Int32 × Int32 × Int32 × (Nat → Int32) × (Nat → Int32) × (Nat → Int32)) (hf : fX8_fault v_pageLength v_page v_newRows v_newOuter v_newInner v_newContent = some fin) : Ct l z (dC, dI) (tyL cI cB cE) yX8_fault wsX8_fault rmX8_fault [.ref (a 0)] (wX8 cI cB cE a v_boards v_kind v_rows v_outer v_inner v_content v_boxes v_rowOf v_columnOf v_seen v_seenWhat v_seenCan v_pageLength v_page v_isWhole v_newKind v_newRows v_newOuter v_newInner v_newContent v_now v_left v_box v_isCounted v_counted v_given v_isTermed v_terms v_term v_shape v_readBoxes v_readRow v_readColumn v_grid v_often v_seedNow v_isKept v_keptBoard v_keptKind v_keptRows v_keptSeen v_keptOuter v_keptInner v_keptContent v_keptWhat v_keptCan v_h) (some (.int fin.1)) (wX8 cI cB cE a v_boards v_kind v_rows v_outer v_inner v_content v_boxes v_rowOf v_columnOf v_seen v_seenWhat v_seenCan v_pageLength v_page fin.2.1 fin.2.2.1 fin.2.2.2.1 fin.2.2.2.2.1 fin.2.2.2.2.2.1 fin.2.2.2.2.2.2 v_now v_left v_box v_isCounted v_counted v_given v_isTermed v_terms v_term v_shape v_readBoxes v_readRow v_readColumn v_grid v_often v_seedNow v_isKept v_keptBoard v_keptKind v_keptRows v_keptSeen v_keptOuter v_keptInner v_keptContent v_keptWhat v_keptCan v_h) := by
  refine Met.ofC (cc := cX8_fault) (maxL := 1) (ret := (some .int)) (by decide) rfl (Nat.le_of_ble_eq_true rfl) ?_
  intro p e s m args below meth c A Q ls hx hb hr hml hts hown hlocks hA hK hP hD hZ hS hQ hl
  have hown : s.vm.findClass RX8 = some m.cls := hown
  have hl : lv_has ls 1 [(0, .ref (a 0))] := hl
  unfold fX8_fault at hf
  refine lv_aload_n hx hb dX8_fault_0 rfl (lv_at hl 0 rfl) ?_
  obtain ⟨r_1, hr_1, hf⟩ := bd_some hf
  refine cx_runW (cx_V (As := []) (rest := []) ⟨hx, hb, hml, hown, hts⟩ (ctX8_read l z dC dI cI cB cE a v_boards v_kind v_rows v_outer v_inner v_content v_boxes v_rowOf v_columnOf v_seen v_seenWhat v_seenCan v_pageLength v_page v_isWhole v_newKind v_newRows v_newOuter v_newInner v_newContent v_now v_left v_box v_isCounted v_counted v_given v_isTermed v_terms v_term v_shape v_readBoxes v_readRow v_readColumn v_grid v_often v_seedNow v_isKept v_keptBoard v_keptKind v_keptRows v_keptSeen v_keptOuter v_keptInner v_keptContent v_keptWhat v_keptCan v_h r_1 hr_1) (cwV 0 hts gX8_fault_X8_read rfl rfl rfl (by decide +kernel) ⟨Nat.le_of_ble_eq_true rfl, Nat.le_of_ble_eq_true rfl⟩) hK hP hD hZ hS hA (ci := 8) (q0 := 0) rfl rfl rfl hl.1 rfl (Nat.le_of_ble_eq_true rfl) dX8_fault_1) hD hS hA [.int r_1.1] rfl (fun H locs hP hD hS => ?_)
  have hQ2 := hQ
  rw [← Option.some.inj hf] at hQ2
  exact cx_iret hQ2 hx hb hr hlocks hK hP hD hS dX8_fault_4

def fX8_newBoxes_L4 (v_newRows : Int32) (v_newOuter : Nat → Int32) (v_newInner : Nat → Int32) : Nat → Int32 → Int32 → Option (Int32)
  | 0, _, _ => none
  | n + 1, x1_4, x2_4 =>
    if v_newRows ≤ x2_4 then (some x1_4) else (gd (inb x2_4 4) (fX8_newBoxes_L4 v_newRows v_newOuter v_newInner n (x1_4 + ((v_newOuter x2_4.toNatClampNeg) - (v_newInner x2_4.toNatClampNeg))) (x2_4 + 1)))
def fX8_newBoxes (v_newRows : Int32) (v_newOuter : Nat → Int32) (v_newInner : Nat → Int32) : Option (Int32) :=
  fX8_newBoxes_L4 v_newRows v_newOuter v_newInner fu 0 0
def rmX8_newBoxes : Room := { frames := 0, cells := 0, slots := 0, locals := 0 }
set_option maxRecDepth 100000 in
set_option maxHeartbeats 4000000 in
theorem ctX8_newBoxes (l : Launch) (z : Nat × Nat × Nat) (dC : Nat → ClassId) (dI : Nat → Nat → Nat) (cI cB cE : ClassId) (a : Nat → Nat) (v_boards : Int32) (v_kind : Int32) (v_rows : Int32) (v_outer : Nat → Int32) (v_inner : Nat → Int32) (v_content : Nat → Int32) (v_boxes : Int32) (v_rowOf : Nat → Int32) (v_columnOf : Nat → Int32) (v_seen : Int32) (v_seenWhat : Nat → Int32) (v_seenCan : Nat → Int32) (v_pageLength : Int32) (v_page : Nat → Int32) (v_isWhole : Int32) (v_newKind : Int32) (v_newRows : Int32) (v_newOuter : Nat → Int32) (v_newInner : Nat → Int32) (v_newContent : Nat → Int32) (v_now : Nat → Int32) (v_left : Nat → Int32) (v_box : Int32) (v_isCounted : Int32) (v_counted : Int32) (v_given : Nat → Int32) (v_isTermed : Int32) (v_terms : Int32) (v_term : Nat → Int32) (v_shape : Nat → Int32) (v_readBoxes : Int32) (v_readRow : Nat → Int32) (v_readColumn : Nat → Int32) (v_grid : Nat → Int32) (v_often : Nat → Int32) (v_seedNow : Int64) (v_isKept : Int32) (v_keptBoard : Int32) (v_keptKind : Int32) (v_keptRows : Int32) (v_keptSeen : Int32) (v_keptOuter : Nat → Int32) (v_keptInner : Nat → Int32) (v_keptContent : Nat → Int32) (v_keptWhat : Nat → Int32) (v_keptCan : Nat → Int32) (v_h : Int64) (fin : Int32) (hf : fX8_newBoxes v_newRows v_newOuter v_newInner = some fin) : Ct l z (dC, dI) (tyL cI cB cE) yX8_newBoxes wsX8_newBoxes rmX8_newBoxes [.ref (a 0)] (wX8 cI cB cE a v_boards v_kind v_rows v_outer v_inner v_content v_boxes v_rowOf v_columnOf v_seen v_seenWhat v_seenCan v_pageLength v_page v_isWhole v_newKind v_newRows v_newOuter v_newInner v_newContent v_now v_left v_box v_isCounted v_counted v_given v_isTermed v_terms v_term v_shape v_readBoxes v_readRow v_readColumn v_grid v_often v_seedNow v_isKept v_keptBoard v_keptKind v_keptRows v_keptSeen v_keptOuter v_keptInner v_keptContent v_keptWhat v_keptCan v_h) (some (.int fin)) (wX8 cI cB cE a v_boards v_kind v_rows v_outer v_inner v_content v_boxes v_rowOf v_columnOf v_seen v_seenWhat v_seenCan v_pageLength v_page v_isWhole v_newKind v_newRows v_newOuter v_newInner v_newContent v_now v_left v_box v_isCounted v_counted v_given v_isTermed v_terms v_term v_shape v_readBoxes v_readRow v_readColumn v_grid v_often v_seedNow v_isKept v_keptBoard v_keptKind v_keptRows v_keptSeen v_keptOuter v_keptInner v_keptContent v_keptWhat v_keptCan v_h) := by
  refine Met.ofC (cc := cX8_newBoxes) (maxL := 3) (ret := (some .int)) (by decide) rfl (Nat.le_of_ble_eq_true rfl) ?_
  intro p e s m args below meth c A Q ls hx hb hr hml hts hown hlocks hA hK hP hD hZ hS hQ hl
  have hown : s.vm.findClass RX8 = some m.cls := hown
  have hl : lv_has ls 3 [(0, .ref (a 0))] := hl
  unfold fX8_newBoxes at hf
  refine lv_iconst (v := 0) hx hb dX8_newBoxes_0 (by decide) ?_
  refine lv_istore_n (lv' := [(1, .int 0), (0, .ref (a 0))]) hx hb dX8_newBoxes_1 rfl hl (by decide) rfl (fun ls hl => ?_)
  refine lv_iconst (v := 0) hx hb dX8_newBoxes_2 (by decide) ?_
  refine lv_istore_n (lv' := [(2, .int 0), (1, .int 0), (0, .ref (a 0))]) hx hb dX8_newBoxes_3 rfl hl (by decide) rfl (fun ls hl => ?_)
  have L4 : ∀ (n4 : Nat) (x1_4 : Int32) (x2_4 : Int32), fX8_newBoxes_L4 v_newRows v_newOuter v_newInner n4 x1_4 x2_4 = some fin → ∀ (H : Heap) (locs : List Loc), va_P (dC, dI) vwCl (wX8 cI cB cE a v_boards v_kind v_rows v_outer v_inner v_content v_boxes v_rowOf v_columnOf v_seen v_seenWhat v_seenCan v_pageLength v_page v_isWhole v_newKind v_newRows v_newOuter v_newInner v_newContent v_now v_left v_box v_isCounted v_counted v_given v_isTermed v_terms v_term v_shape v_readBoxes v_readRow v_readColumn v_grid v_often v_seedNow v_isKept v_keptBoard v_keptKind v_keptRows v_keptSeen v_keptOuter v_keptInner v_keptContent v_keptWhat v_keptCan v_h) H → va_D A (wX8 cI cB cE a v_boards v_kind v_rows v_outer v_inner v_content v_boxes v_rowOf v_columnOf v_seen v_seenWhat v_seenCan v_pageLength v_page v_isWhole v_newKind v_newRows v_newOuter v_newInner v_newContent v_now v_left v_box v_isCounted v_counted v_given v_isTermed v_terms v_term v_shape v_readBoxes v_readRow v_readColumn v_grid v_often v_seedNow v_isKept v_keptBoard v_keptKind v_keptRows v_keptSeen v_keptOuter v_keptInner v_keptContent v_keptWhat v_keptCan v_h) → va_S A s.heap H locs → ∀ (ls : Array Slot), lv_has ls 3 [(0, .ref (a 0)), (1, .int x1_4), (2, .int x2_4)] → W p l e rmX8_newBoxes s m args below meth c H locs 0 0 Q (F0 m 4 ls []) := by
    intro n4
    induction n4 with
    | zero =>
      intro x1_4 x2_4 hf
      rw [fX8_newBoxes_L4] at hf
      cases hf
    | succ n4 ih4 =>
      intro x1_4 x2_4 hf H locs hP hD hS ls hl
      rw [fX8_newBoxes_L4] at hf
      refine lv_iload_n hx hb dX8_newBoxes_4 rfl (lv_at hl 2 rfl) ?_
      refine lv_aload_n hx hb dX8_newBoxes_5 rfl (lv_at hl 0 rfl) ?_
      refine va_get (D := (dC, dI)) (ci := 8) (C := RX8) (T := TX8) (N := 47) hx hb hts (fun _ h => List.mem_cons_of_mem _ (List.mem_append_right _ h)) hown hK hP 0 rfl rfl 16 (by decide) (hts (.fieldLink RX8 98 "SkewBoardModel" "newRows" "I") (List.mem_of_getElem? (i := 1) rfl)) (fun _ h9 => h9) rfl dX8_newBoxes_6 ?_
      refine lv_icmp_ge (tgt := 34) hx hb dX8_newBoxes_9 (by decide) (fun c_1 => ?_) (fun c_1 => ?_)
      · rw [if_pos c_1] at hf
        refine lv_iload_n hx hb dX8_newBoxes_34 rfl (lv_at hl 1 rfl) ?_
        have hQ2 := hQ
        rw [← Option.some.inj hf] at hQ2
        exact cx_iret hQ2 hx hb hr hlocks hK hP hD hS dX8_newBoxes_35
      · rw [if_neg c_1] at hf
        refine lv_iload_n hx hb dX8_newBoxes_12 rfl (lv_at hl 1 rfl) ?_
        refine lv_aload_n hx hb dX8_newBoxes_13 rfl (lv_at hl 0 rfl) ?_
        refine va_get (D := (dC, dI)) (ci := 8) (C := RX8) (T := TX8) (N := 47) hx hb hts (fun _ h => List.mem_cons_of_mem _ (List.mem_append_right _ h)) hown hK hP 0 rfl rfl 17 (by decide) (hts (.fieldLink RX8 35 "SkewBoardModel" "newOuter" "[I") (List.mem_of_getElem? (i := 2) rfl)) (fun _ h9 => h9) rfl dX8_newBoxes_14 ?_
        refine lv_iload_n hx hb dX8_newBoxes_17 rfl (lv_at hl 2 rfl) ?_
        obtain ⟨g_2, hf⟩ := gd_some hf
        refine va_iald hx hb hK hP 9 0 rfl rfl (inb_vp g_2) dX8_newBoxes_18 ?_
        refine lv_aload_n hx hb dX8_newBoxes_19 rfl (lv_at hl 0 rfl) ?_
        refine va_get (D := (dC, dI)) (ci := 8) (C := RX8) (T := TX8) (N := 47) hx hb hts (fun _ h => List.mem_cons_of_mem _ (List.mem_append_right _ h)) hown hK hP 0 rfl rfl 18 (by decide) (hts (.fieldLink RX8 38 "SkewBoardModel" "newInner" "[I") (List.mem_of_getElem? (i := 3) rfl)) (fun _ h9 => h9) rfl dX8_newBoxes_20 ?_
        refine lv_iload_n hx hb dX8_newBoxes_23 rfl (lv_at hl 2 rfl) ?_
        refine va_iald hx hb hK hP 10 0 rfl rfl (inb_vp g_2) dX8_newBoxes_24 ?_
        refine lv_isub hx hb dX8_newBoxes_25 ?_
        refine lv_iadd hx hb dX8_newBoxes_26 ?_
        refine lv_istore_n (lv' := [(1, .int (x1_4 + ((v_newOuter x2_4.toNatClampNeg) - (v_newInner x2_4.toNatClampNeg)))), (0, .ref (a 0)), (2, .int x2_4)]) hx hb dX8_newBoxes_27 rfl hl (by decide) rfl (fun ls hl => ?_)
        refine lv_iinc (v := (x2_4 + 1)) (lv' := [(2, .int (x2_4 + 1)), (1, .int (x1_4 + ((v_newOuter x2_4.toNatClampNeg) - (v_newInner x2_4.toNatClampNeg)))), (0, .ref (a 0))]) hx hb dX8_newBoxes_28 hl (k := 2) rfl rfl (by decide) rfl (fun ls hl => ?_)
        refine lv_goto (tgt := 4) hx hb dX8_newBoxes_31 (by decide) ?_
        exact ih4 (x1_4 + ((v_newOuter x2_4.toNatClampNeg) - (v_newInner x2_4.toNatClampNeg))) (x2_4 + 1) hf _ _ hP hD hS ls (lv_sub hl [2, 1, 0] rfl)
  exact L4 fu 0 0 hf _ _ hP hD hS ls (lv_sub hl [2, 1, 0] rfl)

def fX8_lay_L22 (v_outer : Nat → Int32) (x1_7 : Int32) (k7 : Int32 → Int32 → (Nat → Int32) → (Nat → Int32) → Option (Int32 × (Nat → Int32) × (Nat → Int32) × Int32 × Int32)) : Nat → Int32 → Int32 → (Nat → Int32) → (Nat → Int32) → Option (Int32 × (Nat → Int32) × (Nat → Int32) × Int32 × Int32)
  | 0, _, _, _, _ => none
  | n + 1, x2_22, v_boxes_22, v_rowOf_22, v_columnOf_22 =>
    if (v_outer x1_7.toNatClampNeg) ≤ x2_22 then (k7 (x1_7 + 1) v_boxes_22 v_rowOf_22 v_columnOf_22) else (gd (inb v_boxes_22 9) (fX8_lay_L22 v_outer x1_7 k7 n (x2_22 + 1) (v_boxes_22 + 1) (upd v_rowOf_22 v_boxes_22.toNatClampNeg x1_7) (upd v_columnOf_22 v_boxes_22.toNatClampNeg x2_22)))
def fX8_lay_L7 (v_rows : Int32) (v_outer : Nat → Int32) (v_inner : Nat → Int32) : Nat → Int32 → Int32 → (Nat → Int32) → (Nat → Int32) → Option (Int32 × (Nat → Int32) × (Nat → Int32) × Int32 × Int32)
  | 0, _, _, _, _ => none
  | n + 1, x1_7, v_boxes_7, v_rowOf_7, v_columnOf_7 =>
    if v_rows ≤ x1_7 then (some (v_boxes_7, v_rowOf_7, v_columnOf_7, 0, 0)) else (gd (inb x1_7 4) (fX8_lay_L22 v_outer x1_7 (fX8_lay_L7 v_rows v_outer v_inner n) fu (v_inner x1_7.toNatClampNeg) v_boxes_7 v_rowOf_7 v_columnOf_7))
def fX8_lay (v_rows : Int32) (v_outer : Nat → Int32) (v_inner : Nat → Int32) (v_rowOf : Nat → Int32) (v_columnOf : Nat → Int32) : Option (Int32 × (Nat → Int32) × (Nat → Int32) × Int32 × Int32) :=
  fX8_lay_L7 v_rows v_outer v_inner fu 0 0 v_rowOf v_columnOf
def rmX8_lay : Room := { frames := 0, cells := 0, slots := 0, locals := 0 }
set_option maxRecDepth 100000 in
set_option maxHeartbeats 4000000 in
theorem ctX8_lay (l : Launch) (z : Nat × Nat × Nat) (dC : Nat → ClassId) (dI : Nat → Nat → Nat) (cI cB cE : ClassId) (a : Nat → Nat) (v_boards : Int32) (v_kind : Int32) (v_rows : Int32) (v_outer : Nat → Int32) (v_inner : Nat → Int32) (v_content : Nat → Int32) (v_boxes : Int32) (v_rowOf : Nat → Int32) (v_columnOf : Nat → Int32) (v_seen : Int32) (v_seenWhat : Nat → Int32) (v_seenCan : Nat → Int32) (v_pageLength : Int32) (v_page : Nat → Int32) (v_isWhole : Int32) (v_newKind : Int32) (v_newRows : Int32) (v_newOuter : Nat → Int32) (v_newInner : Nat → Int32) (v_newContent : Nat → Int32) (v_now : Nat → Int32) (v_left : Nat → Int32) (v_box : Int32) (v_isCounted : Int32) (v_counted : Int32) (v_given : Nat → Int32) (v_isTermed : Int32) (v_terms : Int32) (v_term : Nat → Int32) (v_shape : Nat → Int32) (v_readBoxes : Int32) (v_readRow : Nat → Int32) (v_readColumn : Nat → Int32) (v_grid : Nat → Int32) (v_often : Nat → Int32) (v_seedNow : Int64) (v_isKept : Int32) (v_keptBoard : Int32) (v_keptKind : Int32) (v_keptRows : Int32) (v_keptSeen : Int32) (v_keptOuter : Nat → Int32) (v_keptInner : Nat → Int32) (v_keptContent : Nat → Int32) (v_keptWhat : Nat → Int32) (v_keptCan : Nat → Int32) (v_h : Int64) (fin : Int32 × (Nat → Int32) × (Nat → Int32) × Int32 × Int32) (hf : fX8_lay v_rows v_outer v_inner v_rowOf v_columnOf = some fin) : Ct l z (dC, dI) (tyL cI cB cE) yX8_lay wsX8_lay rmX8_lay [.ref (a 0)] (wX8 cI cB cE a v_boards v_kind v_rows v_outer v_inner v_content v_boxes v_rowOf v_columnOf v_seen v_seenWhat v_seenCan v_pageLength v_page v_isWhole v_newKind v_newRows v_newOuter v_newInner v_newContent v_now v_left v_box v_isCounted v_counted v_given v_isTermed v_terms v_term v_shape v_readBoxes v_readRow v_readColumn v_grid v_often v_seedNow v_isKept v_keptBoard v_keptKind v_keptRows v_keptSeen v_keptOuter v_keptInner v_keptContent v_keptWhat v_keptCan v_h) none (wX8 cI cB cE a v_boards v_kind v_rows v_outer v_inner v_content fin.1 fin.2.1 fin.2.2.1 v_seen v_seenWhat v_seenCan v_pageLength v_page v_isWhole v_newKind v_newRows v_newOuter v_newInner v_newContent v_now v_left v_box fin.2.2.2.1 v_counted v_given fin.2.2.2.2 v_terms v_term v_shape v_readBoxes v_readRow v_readColumn v_grid v_often v_seedNow v_isKept v_keptBoard v_keptKind v_keptRows v_keptSeen v_keptOuter v_keptInner v_keptContent v_keptWhat v_keptCan v_h) := by
  refine Met.ofC (cc := cX8_lay) (maxL := 3) (ret := none) (by decide) rfl (Nat.le_of_ble_eq_true rfl) ?_
  intro p e s m args below meth c A Q ls hx hb hr hml hts hown hlocks hA hK hP hD hZ hS hQ hl
  have hown : s.vm.findClass RX8 = some m.cls := hown
  have hl : lv_has ls 3 [(0, .ref (a 0))] := hl
  unfold fX8_lay at hf
  refine lv_aload_n hx hb dX8_lay_0 rfl (lv_at hl 0 rfl) ?_
  refine lv_iconst (v := 0) hx hb dX8_lay_1 (by decide) ?_
  refine va_put (D := (dC, dI)) (ci := 8) (v := .int 0) (ty := .int) (C := RX8) (T := TX8) (N := 47) hx hb hts (fun _ h => List.mem_cons_of_mem _ (List.mem_append_right _ h)) tyX8 tyX8_ok nmX8 hown hK hP hD hS 0 rfl rfl 6 (by decide) (hts (.fieldLink RX8 124 "SkewBoardModel" "boxes" "I") (List.mem_of_getElem? (i := 1) rfl)) (fun _ h9 => h9) rfl (by decide +kernel) rfl rfl (Nat.le_of_ble_eq_true rfl) dX8_lay_2 (fun H locs hP hD hS => ?_)
  have hP : va_P (dC, dI) vwCl (wX8 cI cB cE a v_boards v_kind v_rows v_outer v_inner v_content 0 v_rowOf v_columnOf v_seen v_seenWhat v_seenCan v_pageLength v_page v_isWhole v_newKind v_newRows v_newOuter v_newInner v_newContent v_now v_left v_box v_isCounted v_counted v_given v_isTermed v_terms v_term v_shape v_readBoxes v_readRow v_readColumn v_grid v_often v_seedNow v_isKept v_keptBoard v_keptKind v_keptRows v_keptSeen v_keptOuter v_keptInner v_keptContent v_keptWhat v_keptCan v_h) H := hP
  have hD : va_D A (wX8 cI cB cE a v_boards v_kind v_rows v_outer v_inner v_content 0 v_rowOf v_columnOf v_seen v_seenWhat v_seenCan v_pageLength v_page v_isWhole v_newKind v_newRows v_newOuter v_newInner v_newContent v_now v_left v_box v_isCounted v_counted v_given v_isTermed v_terms v_term v_shape v_readBoxes v_readRow v_readColumn v_grid v_often v_seedNow v_isKept v_keptBoard v_keptKind v_keptRows v_keptSeen v_keptOuter v_keptInner v_keptContent v_keptWhat v_keptCan v_h) := hD
  refine lv_iconst (v := 0) hx hb dX8_lay_5 (by decide) ?_
  refine lv_istore_n (lv' := [(1, .int 0), (0, .ref (a 0))]) hx hb dX8_lay_6 rfl hl (by decide) rfl (fun ls hl => ?_)
  have L7 : ∀ (n7 : Nat) (x1_7 : Int32) (v_boxes_7 : Int32) (v_rowOf_7 : Nat → Int32) (v_columnOf_7 : Nat → Int32), fX8_lay_L7 v_rows v_outer v_inner n7 x1_7 v_boxes_7 v_rowOf_7 v_columnOf_7 = some fin → ∀ (H : Heap) (locs : List Loc), va_P (dC, dI) vwCl (wX8 cI cB cE a v_boards v_kind v_rows v_outer v_inner v_content v_boxes_7 v_rowOf_7 v_columnOf_7 v_seen v_seenWhat v_seenCan v_pageLength v_page v_isWhole v_newKind v_newRows v_newOuter v_newInner v_newContent v_now v_left v_box v_isCounted v_counted v_given v_isTermed v_terms v_term v_shape v_readBoxes v_readRow v_readColumn v_grid v_often v_seedNow v_isKept v_keptBoard v_keptKind v_keptRows v_keptSeen v_keptOuter v_keptInner v_keptContent v_keptWhat v_keptCan v_h) H → va_D A (wX8 cI cB cE a v_boards v_kind v_rows v_outer v_inner v_content v_boxes_7 v_rowOf_7 v_columnOf_7 v_seen v_seenWhat v_seenCan v_pageLength v_page v_isWhole v_newKind v_newRows v_newOuter v_newInner v_newContent v_now v_left v_box v_isCounted v_counted v_given v_isTermed v_terms v_term v_shape v_readBoxes v_readRow v_readColumn v_grid v_often v_seedNow v_isKept v_keptBoard v_keptKind v_keptRows v_keptSeen v_keptOuter v_keptInner v_keptContent v_keptWhat v_keptCan v_h) → va_S A s.heap H locs → ∀ (ls : Array Slot), lv_has ls 3 [(0, .ref (a 0)), (1, .int x1_7)] → W p l e rmX8_lay s m args below meth c H locs 0 0 Q (F0 m 7 ls []) := by
    intro n7
    induction n7 with
    | zero =>
      intro x1_7 v_boxes_7 v_rowOf_7 v_columnOf_7 hf
      rw [fX8_lay_L7] at hf
      cases hf
    | succ n7 ih7 =>
      intro x1_7 v_boxes_7 v_rowOf_7 v_columnOf_7 hf H locs hP hD hS ls hl
      rw [fX8_lay_L7] at hf
      refine lv_iload_n hx hb dX8_lay_7 rfl (lv_at hl 1 rfl) ?_
      refine lv_aload_n hx hb dX8_lay_8 rfl (lv_at hl 0 rfl) ?_
      refine va_get (D := (dC, dI)) (ci := 8) (C := RX8) (T := TX8) (N := 47) hx hb hts (fun _ h => List.mem_cons_of_mem _ (List.mem_append_right _ h)) hown hK hP 0 rfl rfl 2 (by decide) (hts (.fieldLink RX8 127 "SkewBoardModel" "rows" "I") (List.mem_of_getElem? (i := 2) rfl)) (fun _ h9 => h9) rfl dX8_lay_9 ?_
      refine lv_icmp_ge (tgt := 74) hx hb dX8_lay_12 (by decide) (fun c_1 => ?_) (fun c_1 => ?_)
      · rw [if_pos c_1] at hf
        refine lv_aload_n hx hb dX8_lay_74 rfl (lv_at hl 0 rfl) ?_
        refine lv_iconst (v := 0) hx hb dX8_lay_75 (by decide) ?_
        refine va_put (D := (dC, dI)) (ci := 8) (v := .int 0) (ty := .boolean) (C := RX8) (T := TX8) (N := 47) hx hb hts (fun _ h => List.mem_cons_of_mem _ (List.mem_append_right _ h)) tyX8 tyX8_ok nmX8 hown hK hP hD hS 0 rfl rfl 23 (by decide) (hts (.fieldLink RX8 130 "SkewBoardModel" "isCounted" "Z") (List.mem_of_getElem? (i := 7) rfl)) (fun _ h9 => h9) rfl (by decide +kernel) rfl rfl (Nat.le_of_ble_eq_true rfl) dX8_lay_76 (fun H locs hP hD hS => ?_)
        have hP : va_P (dC, dI) vwCl (wX8 cI cB cE a v_boards v_kind v_rows v_outer v_inner v_content v_boxes_7 v_rowOf_7 v_columnOf_7 v_seen v_seenWhat v_seenCan v_pageLength v_page v_isWhole v_newKind v_newRows v_newOuter v_newInner v_newContent v_now v_left v_box 0 v_counted v_given v_isTermed v_terms v_term v_shape v_readBoxes v_readRow v_readColumn v_grid v_often v_seedNow v_isKept v_keptBoard v_keptKind v_keptRows v_keptSeen v_keptOuter v_keptInner v_keptContent v_keptWhat v_keptCan v_h) H := hP
        have hD : va_D A (wX8 cI cB cE a v_boards v_kind v_rows v_outer v_inner v_content v_boxes_7 v_rowOf_7 v_columnOf_7 v_seen v_seenWhat v_seenCan v_pageLength v_page v_isWhole v_newKind v_newRows v_newOuter v_newInner v_newContent v_now v_left v_box 0 v_counted v_given v_isTermed v_terms v_term v_shape v_readBoxes v_readRow v_readColumn v_grid v_often v_seedNow v_isKept v_keptBoard v_keptKind v_keptRows v_keptSeen v_keptOuter v_keptInner v_keptContent v_keptWhat v_keptCan v_h) := hD
        refine lv_aload_n hx hb dX8_lay_79 rfl (lv_at hl 0 rfl) ?_
        refine lv_iconst (v := 0) hx hb dX8_lay_80 (by decide) ?_
        refine va_put (D := (dC, dI)) (ci := 8) (v := .int 0) (ty := .boolean) (C := RX8) (T := TX8) (N := 47) hx hb hts (fun _ h => List.mem_cons_of_mem _ (List.mem_append_right _ h)) tyX8 tyX8_ok nmX8 hown hK hP hD hS 0 rfl rfl 26 (by decide) (hts (.fieldLink RX8 133 "SkewBoardModel" "isTermed" "Z") (List.mem_of_getElem? (i := 8) rfl)) (fun _ h9 => h9) rfl (by decide +kernel) rfl rfl (Nat.le_of_ble_eq_true rfl) dX8_lay_81 (fun H locs hP hD hS => ?_)
        have hP : va_P (dC, dI) vwCl (wX8 cI cB cE a v_boards v_kind v_rows v_outer v_inner v_content v_boxes_7 v_rowOf_7 v_columnOf_7 v_seen v_seenWhat v_seenCan v_pageLength v_page v_isWhole v_newKind v_newRows v_newOuter v_newInner v_newContent v_now v_left v_box 0 v_counted v_given 0 v_terms v_term v_shape v_readBoxes v_readRow v_readColumn v_grid v_often v_seedNow v_isKept v_keptBoard v_keptKind v_keptRows v_keptSeen v_keptOuter v_keptInner v_keptContent v_keptWhat v_keptCan v_h) H := hP
        have hD : va_D A (wX8 cI cB cE a v_boards v_kind v_rows v_outer v_inner v_content v_boxes_7 v_rowOf_7 v_columnOf_7 v_seen v_seenWhat v_seenCan v_pageLength v_page v_isWhole v_newKind v_newRows v_newOuter v_newInner v_newContent v_now v_left v_box 0 v_counted v_given 0 v_terms v_term v_shape v_readBoxes v_readRow v_readColumn v_grid v_often v_seedNow v_isKept v_keptBoard v_keptKind v_keptRows v_keptSeen v_keptOuter v_keptInner v_keptContent v_keptWhat v_keptCan v_h) := hD
        have hQ2 := hQ
        rw [← Option.some.inj hf] at hQ2
        exact cx_vret hQ2 hx hb hr hlocks hK hP hD hS dX8_lay_84
      · rw [if_neg c_1] at hf
        refine lv_aload_n hx hb dX8_lay_15 rfl (lv_at hl 0 rfl) ?_
        refine va_get (D := (dC, dI)) (ci := 8) (C := RX8) (T := TX8) (N := 47) hx hb hts (fun _ h => List.mem_cons_of_mem _ (List.mem_append_right _ h)) hown hK hP 0 rfl rfl 4 (by decide) (hts (.fieldLink RX8 13 "SkewBoardModel" "inner" "[I") (List.mem_of_getElem? (i := 3) rfl)) (fun _ h9 => h9) rfl dX8_lay_16 ?_
        refine lv_iload_n hx hb dX8_lay_19 rfl (lv_at hl 1 rfl) ?_
        obtain ⟨g_2, hf⟩ := gd_some hf
        refine va_iald hx hb hK hP 2 0 rfl rfl (inb_vp g_2) dX8_lay_20 ?_
        refine lv_istore_n (lv' := [(2, .int (v_inner x1_7.toNatClampNeg)), (0, .ref (a 0)), (1, .int x1_7)]) hx hb dX8_lay_21 rfl hl (by decide) rfl (fun ls hl => ?_)
        have L22 : ∀ (n22 : Nat) (x2_22 : Int32) (v_boxes_22 : Int32) (v_rowOf_22 : Nat → Int32) (v_columnOf_22 : Nat → Int32), fX8_lay_L22 v_outer x1_7 (fX8_lay_L7 v_rows v_outer v_inner n7) n22 x2_22 v_boxes_22 v_rowOf_22 v_columnOf_22 = some fin → ∀ (H : Heap) (locs : List Loc), va_P (dC, dI) vwCl (wX8 cI cB cE a v_boards v_kind v_rows v_outer v_inner v_content v_boxes_22 v_rowOf_22 v_columnOf_22 v_seen v_seenWhat v_seenCan v_pageLength v_page v_isWhole v_newKind v_newRows v_newOuter v_newInner v_newContent v_now v_left v_box v_isCounted v_counted v_given v_isTermed v_terms v_term v_shape v_readBoxes v_readRow v_readColumn v_grid v_often v_seedNow v_isKept v_keptBoard v_keptKind v_keptRows v_keptSeen v_keptOuter v_keptInner v_keptContent v_keptWhat v_keptCan v_h) H → va_D A (wX8 cI cB cE a v_boards v_kind v_rows v_outer v_inner v_content v_boxes_22 v_rowOf_22 v_columnOf_22 v_seen v_seenWhat v_seenCan v_pageLength v_page v_isWhole v_newKind v_newRows v_newOuter v_newInner v_newContent v_now v_left v_box v_isCounted v_counted v_given v_isTermed v_terms v_term v_shape v_readBoxes v_readRow v_readColumn v_grid v_often v_seedNow v_isKept v_keptBoard v_keptKind v_keptRows v_keptSeen v_keptOuter v_keptInner v_keptContent v_keptWhat v_keptCan v_h) → va_S A s.heap H locs → ∀ (ls : Array Slot), lv_has ls 3 [(0, .ref (a 0)), (1, .int x1_7), (2, .int x2_22)] → W p l e rmX8_lay s m args below meth c H locs 0 0 Q (F0 m 22 ls []) := by
          intro n22
          induction n22 with
          | zero =>
            intro x2_22 v_boxes_22 v_rowOf_22 v_columnOf_22 hf
            rw [fX8_lay_L22] at hf
            cases hf
          | succ n22 ih22 =>
            intro x2_22 v_boxes_22 v_rowOf_22 v_columnOf_22 hf H locs hP hD hS ls hl
            rw [fX8_lay_L22] at hf
            refine lv_iload_n hx hb dX8_lay_22 rfl (lv_at hl 2 rfl) ?_
            refine lv_aload_n hx hb dX8_lay_23 rfl (lv_at hl 0 rfl) ?_
            refine va_get (D := (dC, dI)) (ci := 8) (C := RX8) (T := TX8) (N := 47) hx hb hts (fun _ h => List.mem_cons_of_mem _ (List.mem_append_right _ h)) hown hK hP 0 rfl rfl 3 (by decide) (hts (.fieldLink RX8 7 "SkewBoardModel" "outer" "[I") (List.mem_of_getElem? (i := 4) rfl)) (fun _ h9 => h9) rfl dX8_lay_24 ?_
            refine lv_iload_n hx hb dX8_lay_27 rfl (lv_at hl 1 rfl) ?_
            refine va_iald hx hb hK hP 1 0 rfl rfl (inb_vp g_2) dX8_lay_28 ?_
            refine lv_icmp_ge (tgt := 68) hx hb dX8_lay_29 (by decide) (fun c_3 => ?_) (fun c_3 => ?_)
            · rw [if_pos c_3] at hf
              refine lv_iinc (v := (x1_7 + 1)) (lv' := [(1, .int (x1_7 + 1)), (0, .ref (a 0)), (2, .int x2_22)]) hx hb dX8_lay_68 hl (k := 1) rfl rfl (by decide) rfl (fun ls hl => ?_)
              refine lv_goto (tgt := 7) hx hb dX8_lay_71 (by decide) ?_
              exact ih7 (x1_7 + 1) v_boxes_22 v_rowOf_22 v_columnOf_22 hf _ _ hP hD hS ls (lv_sub hl [1, 0] rfl)
            · rw [if_neg c_3] at hf
              refine lv_aload_n hx hb dX8_lay_32 rfl (lv_at hl 0 rfl) ?_
              refine va_get (D := (dC, dI)) (ci := 8) (C := RX8) (T := TX8) (N := 47) hx hb hts (fun _ h => List.mem_cons_of_mem _ (List.mem_append_right _ h)) hown hK hP 0 rfl rfl 7 (by decide) (hts (.fieldLink RX8 19 "SkewBoardModel" "rowOf" "[I") (List.mem_of_getElem? (i := 5) rfl)) (fun _ h9 => h9) rfl dX8_lay_33 ?_
              refine lv_aload_n hx hb dX8_lay_36 rfl (lv_at hl 0 rfl) ?_
              refine va_get (D := (dC, dI)) (ci := 8) (C := RX8) (T := TX8) (N := 47) hx hb hts (fun _ h => List.mem_cons_of_mem _ (List.mem_append_right _ h)) hown hK hP 0 rfl rfl 6 (by decide) (hts (.fieldLink RX8 124 "SkewBoardModel" "boxes" "I") (List.mem_of_getElem? (i := 1) rfl)) (fun _ h9 => h9) rfl dX8_lay_37 ?_
              refine lv_iload_n hx hb dX8_lay_40 rfl (lv_at hl 1 rfl) ?_
              obtain ⟨g_4, hf⟩ := gd_some hf
              refine va_iast hx hb hK hP hD hS 4 0 rfl rfl (inb_vp g_4) dX8_lay_41 (fun H locs hP hD hS => ?_)
              have hP : va_P (dC, dI) vwCl (wX8 cI cB cE a v_boards v_kind v_rows v_outer v_inner v_content v_boxes_22 (upd v_rowOf_22 v_boxes_22.toNatClampNeg x1_7) v_columnOf_22 v_seen v_seenWhat v_seenCan v_pageLength v_page v_isWhole v_newKind v_newRows v_newOuter v_newInner v_newContent v_now v_left v_box v_isCounted v_counted v_given v_isTermed v_terms v_term v_shape v_readBoxes v_readRow v_readColumn v_grid v_often v_seedNow v_isKept v_keptBoard v_keptKind v_keptRows v_keptSeen v_keptOuter v_keptInner v_keptContent v_keptWhat v_keptCan v_h) H := hP
              have hD : va_D A (wX8 cI cB cE a v_boards v_kind v_rows v_outer v_inner v_content v_boxes_22 (upd v_rowOf_22 v_boxes_22.toNatClampNeg x1_7) v_columnOf_22 v_seen v_seenWhat v_seenCan v_pageLength v_page v_isWhole v_newKind v_newRows v_newOuter v_newInner v_newContent v_now v_left v_box v_isCounted v_counted v_given v_isTermed v_terms v_term v_shape v_readBoxes v_readRow v_readColumn v_grid v_often v_seedNow v_isKept v_keptBoard v_keptKind v_keptRows v_keptSeen v_keptOuter v_keptInner v_keptContent v_keptWhat v_keptCan v_h) := hD
              refine lv_aload_n hx hb dX8_lay_42 rfl (lv_at hl 0 rfl) ?_
              refine va_get (D := (dC, dI)) (ci := 8) (C := RX8) (T := TX8) (N := 47) hx hb hts (fun _ h => List.mem_cons_of_mem _ (List.mem_append_right _ h)) hown hK hP 0 rfl rfl 8 (by decide) (hts (.fieldLink RX8 22 "SkewBoardModel" "columnOf" "[I") (List.mem_of_getElem? (i := 6) rfl)) (fun _ h9 => h9) rfl dX8_lay_43 ?_
              refine lv_aload_n hx hb dX8_lay_46 rfl (lv_at hl 0 rfl) ?_
              refine va_get (D := (dC, dI)) (ci := 8) (C := RX8) (T := TX8) (N := 47) hx hb hts (fun _ h => List.mem_cons_of_mem _ (List.mem_append_right _ h)) hown hK hP 0 rfl rfl 6 (by decide) (hts (.fieldLink RX8 124 "SkewBoardModel" "boxes" "I") (List.mem_of_getElem? (i := 1) rfl)) (fun _ h9 => h9) rfl dX8_lay_47 ?_
              refine lv_iload_n hx hb dX8_lay_50 rfl (lv_at hl 2 rfl) ?_
              refine va_iast hx hb hK hP hD hS 5 0 rfl rfl (inb_vp g_4) dX8_lay_51 (fun H locs hP hD hS => ?_)
              have hP : va_P (dC, dI) vwCl (wX8 cI cB cE a v_boards v_kind v_rows v_outer v_inner v_content v_boxes_22 (upd v_rowOf_22 v_boxes_22.toNatClampNeg x1_7) (upd v_columnOf_22 v_boxes_22.toNatClampNeg x2_22) v_seen v_seenWhat v_seenCan v_pageLength v_page v_isWhole v_newKind v_newRows v_newOuter v_newInner v_newContent v_now v_left v_box v_isCounted v_counted v_given v_isTermed v_terms v_term v_shape v_readBoxes v_readRow v_readColumn v_grid v_often v_seedNow v_isKept v_keptBoard v_keptKind v_keptRows v_keptSeen v_keptOuter v_keptInner v_keptContent v_keptWhat v_keptCan v_h) H := hP
              have hD : va_D A (wX8 cI cB cE a v_boards v_kind v_rows v_outer v_inner v_content v_boxes_22 (upd v_rowOf_22 v_boxes_22.toNatClampNeg x1_7) (upd v_columnOf_22 v_boxes_22.toNatClampNeg x2_22) v_seen v_seenWhat v_seenCan v_pageLength v_page v_isWhole v_newKind v_newRows v_newOuter v_newInner v_newContent v_now v_left v_box v_isCounted v_counted v_given v_isTermed v_terms v_term v_shape v_readBoxes v_readRow v_readColumn v_grid v_often v_seedNow v_isKept v_keptBoard v_keptKind v_keptRows v_keptSeen v_keptOuter v_keptInner v_keptContent v_keptWhat v_keptCan v_h) := hD
              refine lv_aload_n hx hb dX8_lay_52 rfl (lv_at hl 0 rfl) ?_
              refine lv_dup hx hb dX8_lay_53 rfl ?_
              refine va_get (D := (dC, dI)) (ci := 8) (C := RX8) (T := TX8) (N := 47) hx hb hts (fun _ h => List.mem_cons_of_mem _ (List.mem_append_right _ h)) hown hK hP 0 rfl rfl 6 (by decide) (hts (.fieldLink RX8 124 "SkewBoardModel" "boxes" "I") (List.mem_of_getElem? (i := 1) rfl)) (fun _ h9 => h9) rfl dX8_lay_54 ?_
              refine lv_iconst (v := 1) hx hb dX8_lay_57 (by decide) ?_
              refine lv_iadd hx hb dX8_lay_58 ?_
              refine va_put (D := (dC, dI)) (ci := 8) (v := .int (v_boxes_22 + 1)) (ty := .int) (C := RX8) (T := TX8) (N := 47) hx hb hts (fun _ h => List.mem_cons_of_mem _ (List.mem_append_right _ h)) tyX8 tyX8_ok nmX8 hown hK hP hD hS 0 rfl rfl 6 (by decide) (hts (.fieldLink RX8 124 "SkewBoardModel" "boxes" "I") (List.mem_of_getElem? (i := 1) rfl)) (fun _ h9 => h9) rfl (by decide +kernel) rfl rfl (Nat.le_of_ble_eq_true rfl) dX8_lay_59 (fun H locs hP hD hS => ?_)
              have hP : va_P (dC, dI) vwCl (wX8 cI cB cE a v_boards v_kind v_rows v_outer v_inner v_content (v_boxes_22 + 1) (upd v_rowOf_22 v_boxes_22.toNatClampNeg x1_7) (upd v_columnOf_22 v_boxes_22.toNatClampNeg x2_22) v_seen v_seenWhat v_seenCan v_pageLength v_page v_isWhole v_newKind v_newRows v_newOuter v_newInner v_newContent v_now v_left v_box v_isCounted v_counted v_given v_isTermed v_terms v_term v_shape v_readBoxes v_readRow v_readColumn v_grid v_often v_seedNow v_isKept v_keptBoard v_keptKind v_keptRows v_keptSeen v_keptOuter v_keptInner v_keptContent v_keptWhat v_keptCan v_h) H := hP
              have hD : va_D A (wX8 cI cB cE a v_boards v_kind v_rows v_outer v_inner v_content (v_boxes_22 + 1) (upd v_rowOf_22 v_boxes_22.toNatClampNeg x1_7) (upd v_columnOf_22 v_boxes_22.toNatClampNeg x2_22) v_seen v_seenWhat v_seenCan v_pageLength v_page v_isWhole v_newKind v_newRows v_newOuter v_newInner v_newContent v_now v_left v_box v_isCounted v_counted v_given v_isTermed v_terms v_term v_shape v_readBoxes v_readRow v_readColumn v_grid v_often v_seedNow v_isKept v_keptBoard v_keptKind v_keptRows v_keptSeen v_keptOuter v_keptInner v_keptContent v_keptWhat v_keptCan v_h) := hD
              refine lv_iinc (v := (x2_22 + 1)) (lv' := [(2, .int (x2_22 + 1)), (0, .ref (a 0)), (1, .int x1_7)]) hx hb dX8_lay_62 hl (k := 2) rfl rfl (by decide) rfl (fun ls hl => ?_)
              refine lv_goto (tgt := 22) hx hb dX8_lay_65 (by decide) ?_
              exact ih22 (x2_22 + 1) (v_boxes_22 + 1) (upd v_rowOf_22 v_boxes_22.toNatClampNeg x1_7) (upd v_columnOf_22 v_boxes_22.toNatClampNeg x2_22) hf _ _ hP hD hS ls (lv_sub hl [1, 2, 0] rfl)
        exact L22 fu (v_inner x1_7.toNatClampNeg) v_boxes_7 v_rowOf_7 v_columnOf_7 hf _ _ hP hD hS ls (lv_sub hl [1, 2, 0] rfl)
  exact L7 fu 0 0 v_rowOf v_columnOf hf _ _ hP hD hS ls (lv_sub hl [1, 0] rfl)

def fX8_board_J21 (v_boards : Int32) (v_kind : Int32) (v_rows : Int32) (v_outer : Nat → Int32) (v_inner : Nat → Int32) (v_content : Nat → Int32) (v_boxes : Int32) (v_rowOf : Nat → Int32) (v_columnOf : Nat → Int32) (v_seen : Int32) (v_pageLength : Int32) (v_isCounted : Int32) (v_isTermed : Int32) (r_1 : Int32 × Int32 × Int32 × Int32 × (Nat → Int32) × (Nat → Int32) × (Nat → Int32)) (u_21 : Unit) : Option (Int32 × Int32 × Int32 × Int32 × (Nat → Int32) × (Nat → Int32) × (Nat → Int32) × Int32 × (Nat → Int32) × (Nat → Int32) × Int32 × Int32 × Int32 × Int32 × Int32 × (Nat → Int32) × (Nat → Int32) × (Nat → Int32) × Int32 × Int32) :=
    some ((-103), v_boards, v_kind, v_rows, v_outer, v_inner, v_content, v_boxes, v_rowOf, v_columnOf, v_seen, v_pageLength, r_1.2.1, r_1.2.2.1, r_1.2.2.2.1, r_1.2.2.2.2.1, r_1.2.2.2.2.2.1, r_1.2.2.2.2.2.2, v_isCounted, v_isTermed)
def fX8_board_J70 (r_1 : Int32 × Int32 × Int32 × Int32 × (Nat → Int32) × (Nat → Int32) × (Nat → Int32)) (x1_42 : Int32) (v_outer_42 : Nat → Int32) (v_inner_42 : Nat → Int32) (v_content_42 : Nat → Int32) (k42 : Int32 → (Nat → Int32) → (Nat → Int32) → (Nat → Int32) → Option (Int32 × Int32 × Int32 × Int32 × (Nat → Int32) × (Nat → Int32) × (Nat → Int32) × Int32 × (Nat → Int32) × (Nat → Int32) × Int32 × Int32 × Int32 × Int32 × Int32 × (Nat → Int32) × (Nat → Int32) × (Nat → Int32) × Int32 × Int32)) (y2_70 : Int32) : Option (Int32 × Int32 × Int32 × Int32 × (Nat → Int32) × (Nat → Int32) × (Nat → Int32) × Int32 × (Nat → Int32) × (Nat → Int32) × Int32 × Int32 × Int32 × Int32 × Int32 × (Nat → Int32) × (Nat → Int32) × (Nat → Int32) × Int32 × Int32) :=
    gd (inb x1_42 4) (k42 (x1_42 + 1) (upd v_outer_42 x1_42.toNatClampNeg y2_70) (upd v_inner_42 x1_42.toNatClampNeg (r_1.2.2.2.2.2.1 x1_42.toNatClampNeg)) (upd v_content_42 x1_42.toNatClampNeg (r_1.2.2.2.2.2.2 x1_42.toNatClampNeg)))
def fX8_board_L42 (v_boards : Int32) (v_rowOf : Nat → Int32) (v_columnOf : Nat → Int32) (r_1 : Int32 × Int32 × Int32 × Int32 × (Nat → Int32) × (Nat → Int32) × (Nat → Int32)) : Nat → Int32 → (Nat → Int32) → (Nat → Int32) → (Nat → Int32) → Option (Int32 × Int32 × Int32 × Int32 × (Nat → Int32) × (Nat → Int32) × (Nat → Int32) × Int32 × (Nat → Int32) × (Nat → Int32) × Int32 × Int32 × Int32 × Int32 × Int32 × (Nat → Int32) × (Nat → Int32) × (Nat → Int32) × Int32 × Int32)
  | 0, _, _, _, _ => none
  | n + 1, x1_42, v_outer_42, v_inner_42, v_content_42 =>
    if 4 ≤ x1_42 then (bd (fX8_lay r_1.2.2.2.1 v_outer_42 v_inner_42 v_rowOf v_columnOf) (fun r_6 => some (r_6.1, (v_boards + 1), r_1.2.2.1, r_1.2.2.2.1, v_outer_42, v_inner_42, v_content_42, r_6.1, r_6.2.1, r_6.2.2.1, 0, 0, r_1.2.1, r_1.2.2.1, r_1.2.2.2.1, r_1.2.2.2.2.1, r_1.2.2.2.2.2.1, r_1.2.2.2.2.2.2, r_6.2.2.2.1, r_6.2.2.2.2))) else (if r_1.2.2.2.1 ≤ x1_42 then (fX8_board_J70 r_1 x1_42 v_outer_42 v_inner_42 v_content_42 (fX8_board_L42 v_boards v_rowOf v_columnOf r_1 n) 0) else (gd (inb x1_42 4) (fX8_board_J70 r_1 x1_42 v_outer_42 v_inner_42 v_content_42 (fX8_board_L42 v_boards v_rowOf v_columnOf r_1 n) (r_1.2.2.2.2.1 x1_42.toNatClampNeg))))
def fX8_board (v_boards : Int32) (v_kind : Int32) (v_rows : Int32) (v_outer : Nat → Int32) (v_inner : Nat → Int32) (v_content : Nat → Int32) (v_boxes : Int32) (v_rowOf : Nat → Int32) (v_columnOf : Nat → Int32) (v_seen : Int32) (v_pageLength : Int32) (v_page : Nat → Int32) (v_newRows : Int32) (v_newOuter : Nat → Int32) (v_newInner : Nat → Int32) (v_newContent : Nat → Int32) (v_isCounted : Int32) (v_isTermed : Int32) : Option (Int32 × Int32 × Int32 × Int32 × (Nat → Int32) × (Nat → Int32) × (Nat → Int32) × Int32 × (Nat → Int32) × (Nat → Int32) × Int32 × Int32 × Int32 × Int32 × Int32 × (Nat → Int32) × (Nat → Int32) × (Nat → Int32) × Int32 × Int32) :=
  bd (fX8_read v_pageLength v_page v_newRows v_newOuter v_newInner v_newContent) (fun r_1 => if r_1.2.1 = 0 then (fX8_board_J21 v_boards v_kind v_rows v_outer v_inner v_content v_boxes v_rowOf v_columnOf v_seen v_pageLength v_isCounted v_isTermed r_1 ()) else (bd (fX8_newBoxes r_1.2.2.2.1 r_1.2.2.2.2.1 r_1.2.2.2.2.2.1) (fun r_3 => if r_3 ≤ 9 then (fX8_board_L42 v_boards v_rowOf v_columnOf r_1 fu 0 v_outer v_inner v_content) else (fX8_board_J21 v_boards v_kind v_rows v_outer v_inner v_content v_boxes v_rowOf v_columnOf v_seen v_pageLength v_isCounted v_isTermed r_1 ()))))
def rmX8_board : Room := { frames := 4, cells := 0, slots := 0, locals := 90 }
set_option maxRecDepth 100000 in
set_option maxHeartbeats 4000000 in
theorem ctX8_board (l : Launch) (z : Nat × Nat × Nat) (dC : Nat → ClassId) (dI : Nat → Nat → Nat) (cI cB cE : ClassId) (a : Nat → Nat) (v_boards : Int32) (v_kind : Int32) (v_rows : Int32) (v_outer : Nat → Int32) (v_inner : Nat → Int32) (v_content : Nat → Int32) (v_boxes : Int32) (v_rowOf : Nat → Int32) (v_columnOf : Nat → Int32) (v_seen : Int32) (v_seenWhat : Nat → Int32) (v_seenCan : Nat → Int32) (v_pageLength : Int32) (v_page : Nat → Int32) (v_isWhole : Int32) (v_newKind : Int32) (v_newRows : Int32) (v_newOuter : Nat → Int32) (v_newInner : Nat → Int32) (v_newContent : Nat → Int32) (v_now : Nat → Int32) (v_left : Nat → Int32) (v_box : Int32) (v_isCounted : Int32) (v_counted : Int32) (v_given : Nat → Int32) (v_isTermed : Int32) (v_terms : Int32) (v_term : Nat → Int32) (v_shape : Nat → Int32) (v_readBoxes : Int32) (v_readRow : Nat → Int32) (v_readColumn : Nat → Int32) (v_grid : Nat → Int32) (v_often : Nat → Int32) (v_seedNow : Int64) (v_isKept : Int32) (v_keptBoard : Int32) (v_keptKind : Int32) (v_keptRows : Int32) (v_keptSeen : Int32) (v_keptOuter : Nat → Int32) (v_keptInner : Nat → Int32) (v_keptContent : Nat → Int32) (v_keptWhat : Nat → Int32) (v_keptCan : Nat → Int32) (v_h : Int64) (fin : Int32 × Int32 × Int32 × Int32 × (Nat → Int32) × (Nat → Int32) × (Nat → Int32) × Int32 × (Nat → Int32) × (Nat → Int32) × Int32 × Int32 × Int32 × Int32 × Int32 × (Nat → Int32) × (Nat → Int32) × (Nat → Int32) × Int32 × Int32) (hf : fX8_board v_boards v_kind v_rows v_outer v_inner v_content v_boxes v_rowOf v_columnOf v_seen v_pageLength v_page v_newRows v_newOuter v_newInner v_newContent v_isCounted v_isTermed = some fin) : Ct l z (dC, dI) (tyL cI cB cE) yX8_board wsX8_board rmX8_board [.ref (a 0)] (wX8 cI cB cE a v_boards v_kind v_rows v_outer v_inner v_content v_boxes v_rowOf v_columnOf v_seen v_seenWhat v_seenCan v_pageLength v_page v_isWhole v_newKind v_newRows v_newOuter v_newInner v_newContent v_now v_left v_box v_isCounted v_counted v_given v_isTermed v_terms v_term v_shape v_readBoxes v_readRow v_readColumn v_grid v_often v_seedNow v_isKept v_keptBoard v_keptKind v_keptRows v_keptSeen v_keptOuter v_keptInner v_keptContent v_keptWhat v_keptCan v_h) (some (.int fin.1)) (wX8 cI cB cE a fin.2.1 fin.2.2.1 fin.2.2.2.1 fin.2.2.2.2.1 fin.2.2.2.2.2.1 fin.2.2.2.2.2.2.1 fin.2.2.2.2.2.2.2.1 fin.2.2.2.2.2.2.2.2.1 fin.2.2.2.2.2.2.2.2.2.1 fin.2.2.2.2.2.2.2.2.2.2.1 v_seenWhat v_seenCan fin.2.2.2.2.2.2.2.2.2.2.2.1 v_page fin.2.2.2.2.2.2.2.2.2.2.2.2.1 fin.2.2.2.2.2.2.2.2.2.2.2.2.2.1 fin.2.2.2.2.2.2.2.2.2.2.2.2.2.2.1 fin.2.2.2.2.2.2.2.2.2.2.2.2.2.2.2.1 fin.2.2.2.2.2.2.2.2.2.2.2.2.2.2.2.2.1 fin.2.2.2.2.2.2.2.2.2.2.2.2.2.2.2.2.2.1 v_now v_left v_box fin.2.2.2.2.2.2.2.2.2.2.2.2.2.2.2.2.2.2.1 v_counted v_given fin.2.2.2.2.2.2.2.2.2.2.2.2.2.2.2.2.2.2.2 v_terms v_term v_shape v_readBoxes v_readRow v_readColumn v_grid v_often v_seedNow v_isKept v_keptBoard v_keptKind v_keptRows v_keptSeen v_keptOuter v_keptInner v_keptContent v_keptWhat v_keptCan v_h) := by
  refine Met.ofC (cc := cX8_board) (maxL := 2) (ret := (some .int)) (by decide) rfl (Nat.le_of_ble_eq_true rfl) ?_
  intro p e s m args below meth c A Q ls hx hb hr hml hts hown hlocks hA hK hP hD hZ hS hQ hl
  have hown : s.vm.findClass RX8 = some m.cls := hown
  have hl : lv_has ls 2 [(0, .ref (a 0))] := hl
  unfold fX8_board at hf
  refine lv_aload_n hx hb dX8_board_0 rfl (lv_at hl 0 rfl) ?_
  obtain ⟨r_1, hr_1, hf⟩ := bd_some hf
  refine cx_runW (cx_V (As := []) (rest := []) ⟨hx, hb, hml, hown, hts⟩ (ctX8_read l z dC dI cI cB cE a v_boards v_kind v_rows v_outer v_inner v_content v_boxes v_rowOf v_columnOf v_seen v_seenWhat v_seenCan v_pageLength v_page v_isWhole v_newKind v_newRows v_newOuter v_newInner v_newContent v_now v_left v_box v_isCounted v_counted v_given v_isTermed v_terms v_term v_shape v_readBoxes v_readRow v_readColumn v_grid v_often v_seedNow v_isKept v_keptBoard v_keptKind v_keptRows v_keptSeen v_keptOuter v_keptInner v_keptContent v_keptWhat v_keptCan v_h r_1 hr_1) (cwV 0 hts gX8_board_X8_read rfl rfl rfl (by decide +kernel) ⟨Nat.le_of_ble_eq_true rfl, Nat.le_of_ble_eq_true rfl⟩) hK hP hD hZ hS hA (ci := 8) (q0 := 0) rfl rfl rfl hl.1 rfl (Nat.le_of_ble_eq_true rfl) dX8_board_1) hD hS hA [.int r_1.1] rfl (fun H locs hP hD hS => ?_)
  refine lv_pop hx hb dX8_board_4 rfl ?_
  refine lv_aload_n hx hb dX8_board_5 rfl (lv_at hl 0 rfl) ?_
  refine va_get (D := (dC, dI)) (ci := 8) (C := RX8) (T := TX8) (N := 47) hx hb hts (fun _ h => List.mem_cons_of_mem _ (List.mem_append_right _ h)) hown hK hP 0 rfl rfl 14 (by decide) (hts (.fieldLink RX8 104 "SkewBoardModel" "isWhole" "Z") (List.mem_of_getElem? (i := 1) rfl)) (fun _ h9 => h9) rfl dX8_board_6 ?_
  have J21 : ∀ (u_21 : Unit), fX8_board_J21 v_boards v_kind v_rows v_outer v_inner v_content v_boxes v_rowOf v_columnOf v_seen v_pageLength v_isCounted v_isTermed r_1 u_21 = some fin → ∀ (H : Heap) (locs : List Loc), va_P (dC, dI) vwCl (wX8 cI cB cE a v_boards v_kind v_rows v_outer v_inner v_content v_boxes v_rowOf v_columnOf v_seen v_seenWhat v_seenCan v_pageLength v_page r_1.2.1 r_1.2.2.1 r_1.2.2.2.1 r_1.2.2.2.2.1 r_1.2.2.2.2.2.1 r_1.2.2.2.2.2.2 v_now v_left v_box v_isCounted v_counted v_given v_isTermed v_terms v_term v_shape v_readBoxes v_readRow v_readColumn v_grid v_often v_seedNow v_isKept v_keptBoard v_keptKind v_keptRows v_keptSeen v_keptOuter v_keptInner v_keptContent v_keptWhat v_keptCan v_h) H → va_D A (wX8 cI cB cE a v_boards v_kind v_rows v_outer v_inner v_content v_boxes v_rowOf v_columnOf v_seen v_seenWhat v_seenCan v_pageLength v_page r_1.2.1 r_1.2.2.1 r_1.2.2.2.1 r_1.2.2.2.2.1 r_1.2.2.2.2.2.1 r_1.2.2.2.2.2.2 v_now v_left v_box v_isCounted v_counted v_given v_isTermed v_terms v_term v_shape v_readBoxes v_readRow v_readColumn v_grid v_often v_seedNow v_isKept v_keptBoard v_keptKind v_keptRows v_keptSeen v_keptOuter v_keptInner v_keptContent v_keptWhat v_keptCan v_h) → va_S A s.heap H locs → ∀ (ls : Array Slot), lv_has ls 2 [] → W p l e rmX8_board s m args below meth c H locs 0 0 Q (F0 m 21 ls []) := by
    intro u_21 hf H locs hP hD hS ls hl
    unfold fX8_board_J21 at hf
    refine lv_bipush (v := (-103)) hx hb dX8_board_21 (by decide) ?_
    have hQ2 := hQ
    rw [← Option.some.inj hf] at hQ2
    exact cx_iret hQ2 hx hb hr hlocks hK hP hD hS dX8_board_23
  refine lv_if_eq (tgt := 21) hx hb dX8_board_9 (by decide) (fun c_2 => ?_) (fun c_2 => ?_)
  · rw [if_pos c_2] at hf
    exact J21 () hf _ _ hP hD hS ls (lv_sub hl [] rfl)
  · rw [if_neg c_2] at hf
    refine lv_aload_n hx hb dX8_board_12 rfl (lv_at hl 0 rfl) ?_
    obtain ⟨r_3, hr_3, hf⟩ := bd_some hf
    refine cx_runW (cx_V (As := []) (rest := []) ⟨hx, hb, hml, hown, hts⟩ (ctX8_newBoxes l z dC dI cI cB cE a v_boards v_kind v_rows v_outer v_inner v_content v_boxes v_rowOf v_columnOf v_seen v_seenWhat v_seenCan v_pageLength v_page r_1.2.1 r_1.2.2.1 r_1.2.2.2.1 r_1.2.2.2.2.1 r_1.2.2.2.2.2.1 r_1.2.2.2.2.2.2 v_now v_left v_box v_isCounted v_counted v_given v_isTermed v_terms v_term v_shape v_readBoxes v_readRow v_readColumn v_grid v_often v_seedNow v_isKept v_keptBoard v_keptKind v_keptRows v_keptSeen v_keptOuter v_keptInner v_keptContent v_keptWhat v_keptCan v_h r_3 hr_3) (cwV 0 hts gX8_board_X8_newBoxes rfl rfl rfl (by decide +kernel) ⟨Nat.le_of_ble_eq_true rfl, Nat.le_of_ble_eq_true rfl⟩) hK hP hD hZ hS hA (ci := 8) (q0 := 0) rfl rfl rfl hl.1 rfl (Nat.le_of_ble_eq_true rfl) dX8_board_13) hD hS hA [.int r_3] rfl (fun H locs hP hD hS => ?_)
    refine lv_bipush (v := 9) hx hb dX8_board_16 (by decide) ?_
    refine lv_icmp_le (tgt := 24) hx hb dX8_board_18 (by decide) (fun c_4 => ?_) (fun c_4 => ?_)
    · rw [if_pos c_4] at hf
      refine lv_aload_n hx hb dX8_board_24 rfl (lv_at hl 0 rfl) ?_
      refine lv_aload_n hx hb dX8_board_25 rfl (lv_at hl 0 rfl) ?_
      refine va_get (D := (dC, dI)) (ci := 8) (C := RX8) (T := TX8) (N := 47) hx hb hts (fun _ h => List.mem_cons_of_mem _ (List.mem_append_right _ h)) hown hK hP 0 rfl rfl 15 (by decide) (hts (.fieldLink RX8 111 "SkewBoardModel" "newKind" "I") (List.mem_of_getElem? (i := 2) rfl)) (fun _ h9 => h9) rfl dX8_board_26 ?_
      refine va_put (D := (dC, dI)) (ci := 8) (v := .int r_1.2.2.1) (ty := .int) (C := RX8) (T := TX8) (N := 47) hx hb hts (fun _ h => List.mem_cons_of_mem _ (List.mem_append_right _ h)) tyX8 tyX8_ok nmX8 hown hK hP hD hS 0 rfl rfl 1 (by decide) (hts (.fieldLink RX8 139 "SkewBoardModel" "kind" "I") (List.mem_of_getElem? (i := 3) rfl)) (fun _ h9 => h9) rfl (by decide +kernel) rfl rfl (Nat.le_of_ble_eq_true rfl) dX8_board_29 (fun H locs hP hD hS => ?_)
      have hP : va_P (dC, dI) vwCl (wX8 cI cB cE a v_boards r_1.2.2.1 v_rows v_outer v_inner v_content v_boxes v_rowOf v_columnOf v_seen v_seenWhat v_seenCan v_pageLength v_page r_1.2.1 r_1.2.2.1 r_1.2.2.2.1 r_1.2.2.2.2.1 r_1.2.2.2.2.2.1 r_1.2.2.2.2.2.2 v_now v_left v_box v_isCounted v_counted v_given v_isTermed v_terms v_term v_shape v_readBoxes v_readRow v_readColumn v_grid v_often v_seedNow v_isKept v_keptBoard v_keptKind v_keptRows v_keptSeen v_keptOuter v_keptInner v_keptContent v_keptWhat v_keptCan v_h) H := hP
      have hD : va_D A (wX8 cI cB cE a v_boards r_1.2.2.1 v_rows v_outer v_inner v_content v_boxes v_rowOf v_columnOf v_seen v_seenWhat v_seenCan v_pageLength v_page r_1.2.1 r_1.2.2.1 r_1.2.2.2.1 r_1.2.2.2.2.1 r_1.2.2.2.2.2.1 r_1.2.2.2.2.2.2 v_now v_left v_box v_isCounted v_counted v_given v_isTermed v_terms v_term v_shape v_readBoxes v_readRow v_readColumn v_grid v_often v_seedNow v_isKept v_keptBoard v_keptKind v_keptRows v_keptSeen v_keptOuter v_keptInner v_keptContent v_keptWhat v_keptCan v_h) := hD
      refine lv_aload_n hx hb dX8_board_32 rfl (lv_at hl 0 rfl) ?_
      refine lv_aload_n hx hb dX8_board_33 rfl (lv_at hl 0 rfl) ?_
      refine va_get (D := (dC, dI)) (ci := 8) (C := RX8) (T := TX8) (N := 47) hx hb hts (fun _ h => List.mem_cons_of_mem _ (List.mem_append_right _ h)) hown hK hP 0 rfl rfl 16 (by decide) (hts (.fieldLink RX8 98 "SkewBoardModel" "newRows" "I") (List.mem_of_getElem? (i := 4) rfl)) (fun _ h9 => h9) rfl dX8_board_34 ?_
      refine va_put (D := (dC, dI)) (ci := 8) (v := .int r_1.2.2.2.1) (ty := .int) (C := RX8) (T := TX8) (N := 47) hx hb hts (fun _ h => List.mem_cons_of_mem _ (List.mem_append_right _ h)) tyX8 tyX8_ok nmX8 hown hK hP hD hS 0 rfl rfl 2 (by decide) (hts (.fieldLink RX8 127 "SkewBoardModel" "rows" "I") (List.mem_of_getElem? (i := 5) rfl)) (fun _ h9 => h9) rfl (by decide +kernel) rfl rfl (Nat.le_of_ble_eq_true rfl) dX8_board_37 (fun H locs hP hD hS => ?_)
      have hP : va_P (dC, dI) vwCl (wX8 cI cB cE a v_boards r_1.2.2.1 r_1.2.2.2.1 v_outer v_inner v_content v_boxes v_rowOf v_columnOf v_seen v_seenWhat v_seenCan v_pageLength v_page r_1.2.1 r_1.2.2.1 r_1.2.2.2.1 r_1.2.2.2.2.1 r_1.2.2.2.2.2.1 r_1.2.2.2.2.2.2 v_now v_left v_box v_isCounted v_counted v_given v_isTermed v_terms v_term v_shape v_readBoxes v_readRow v_readColumn v_grid v_often v_seedNow v_isKept v_keptBoard v_keptKind v_keptRows v_keptSeen v_keptOuter v_keptInner v_keptContent v_keptWhat v_keptCan v_h) H := hP
      have hD : va_D A (wX8 cI cB cE a v_boards r_1.2.2.1 r_1.2.2.2.1 v_outer v_inner v_content v_boxes v_rowOf v_columnOf v_seen v_seenWhat v_seenCan v_pageLength v_page r_1.2.1 r_1.2.2.1 r_1.2.2.2.1 r_1.2.2.2.2.1 r_1.2.2.2.2.2.1 r_1.2.2.2.2.2.2 v_now v_left v_box v_isCounted v_counted v_given v_isTermed v_terms v_term v_shape v_readBoxes v_readRow v_readColumn v_grid v_often v_seedNow v_isKept v_keptBoard v_keptKind v_keptRows v_keptSeen v_keptOuter v_keptInner v_keptContent v_keptWhat v_keptCan v_h) := hD
      refine lv_iconst (v := 0) hx hb dX8_board_40 (by decide) ?_
      refine lv_istore_n (lv' := [(1, .int 0), (0, .ref (a 0))]) hx hb dX8_board_41 rfl hl (by decide) rfl (fun ls hl => ?_)
      have L42 : ∀ (n42 : Nat) (x1_42 : Int32) (v_outer_42 : Nat → Int32) (v_inner_42 : Nat → Int32) (v_content_42 : Nat → Int32), fX8_board_L42 v_boards v_rowOf v_columnOf r_1 n42 x1_42 v_outer_42 v_inner_42 v_content_42 = some fin → ∀ (H : Heap) (locs : List Loc), va_P (dC, dI) vwCl (wX8 cI cB cE a v_boards r_1.2.2.1 r_1.2.2.2.1 v_outer_42 v_inner_42 v_content_42 v_boxes v_rowOf v_columnOf v_seen v_seenWhat v_seenCan v_pageLength v_page r_1.2.1 r_1.2.2.1 r_1.2.2.2.1 r_1.2.2.2.2.1 r_1.2.2.2.2.2.1 r_1.2.2.2.2.2.2 v_now v_left v_box v_isCounted v_counted v_given v_isTermed v_terms v_term v_shape v_readBoxes v_readRow v_readColumn v_grid v_often v_seedNow v_isKept v_keptBoard v_keptKind v_keptRows v_keptSeen v_keptOuter v_keptInner v_keptContent v_keptWhat v_keptCan v_h) H → va_D A (wX8 cI cB cE a v_boards r_1.2.2.1 r_1.2.2.2.1 v_outer_42 v_inner_42 v_content_42 v_boxes v_rowOf v_columnOf v_seen v_seenWhat v_seenCan v_pageLength v_page r_1.2.1 r_1.2.2.1 r_1.2.2.2.1 r_1.2.2.2.2.1 r_1.2.2.2.2.2.1 r_1.2.2.2.2.2.2 v_now v_left v_box v_isCounted v_counted v_given v_isTermed v_terms v_term v_shape v_readBoxes v_readRow v_readColumn v_grid v_often v_seedNow v_isKept v_keptBoard v_keptKind v_keptRows v_keptSeen v_keptOuter v_keptInner v_keptContent v_keptWhat v_keptCan v_h) → va_S A s.heap H locs → ∀ (ls : Array Slot), lv_has ls 2 [(0, .ref (a 0)), (1, .int x1_42)] → W p l e rmX8_board s m args below meth c H locs 0 0 Q (F0 m 42 ls []) := by
        intro n42
        induction n42 with
        | zero =>
          intro x1_42 v_outer_42 v_inner_42 v_content_42 hf
          rw [fX8_board_L42] at hf
          cases hf
        | succ n42 ih42 =>
          intro x1_42 v_outer_42 v_inner_42 v_content_42 hf H locs hP hD hS ls hl
          rw [fX8_board_L42] at hf
          refine lv_iload_n hx hb dX8_board_42 rfl (lv_at hl 1 rfl) ?_
          refine lv_iconst (v := 4) hx hb dX8_board_43 (by decide) ?_
          refine lv_icmp_ge (tgt := 101) hx hb dX8_board_44 (by decide) (fun c_5 => ?_) (fun c_5 => ?_)
          · rw [if_pos c_5] at hf
            refine lv_aload_n hx hb dX8_board_101 rfl (lv_at hl 0 rfl) ?_
            obtain ⟨r_6, hr_6, hf⟩ := bd_some hf
            refine cx_runW (cx_V (As := []) (rest := []) ⟨hx, hb, hml, hown, hts⟩ (ctX8_lay l z dC dI cI cB cE a v_boards r_1.2.2.1 r_1.2.2.2.1 v_outer_42 v_inner_42 v_content_42 v_boxes v_rowOf v_columnOf v_seen v_seenWhat v_seenCan v_pageLength v_page r_1.2.1 r_1.2.2.1 r_1.2.2.2.1 r_1.2.2.2.2.1 r_1.2.2.2.2.2.1 r_1.2.2.2.2.2.2 v_now v_left v_box v_isCounted v_counted v_given v_isTermed v_terms v_term v_shape v_readBoxes v_readRow v_readColumn v_grid v_often v_seedNow v_isKept v_keptBoard v_keptKind v_keptRows v_keptSeen v_keptOuter v_keptInner v_keptContent v_keptWhat v_keptCan v_h r_6 hr_6) (cwV 0 hts gX8_board_X8_lay rfl rfl rfl (by decide +kernel) ⟨Nat.le_of_ble_eq_true rfl, Nat.le_of_ble_eq_true rfl⟩) hK hP hD hZ hS hA (ci := 8) (q0 := 0) rfl rfl rfl hl.1 rfl (Nat.le_of_ble_eq_true rfl) dX8_board_102) hD hS hA [] rfl (fun H locs hP hD hS => ?_)
            refine lv_aload_n hx hb dX8_board_105 rfl (lv_at hl 0 rfl) ?_
            refine lv_dup hx hb dX8_board_106 rfl ?_
            refine va_get (D := (dC, dI)) (ci := 8) (C := RX8) (T := TX8) (N := 47) hx hb hts (fun _ h => List.mem_cons_of_mem _ (List.mem_append_right _ h)) hown hK hP 0 rfl rfl 0 (by decide) (hts (.fieldLink RX8 145 "SkewBoardModel" "boards" "I") (List.mem_of_getElem? (i := 12) rfl)) (fun _ h9 => h9) rfl dX8_board_107 ?_
            refine lv_iconst (v := 1) hx hb dX8_board_110 (by decide) ?_
            refine lv_iadd hx hb dX8_board_111 ?_
            refine va_put (D := (dC, dI)) (ci := 8) (v := .int (v_boards + 1)) (ty := .int) (C := RX8) (T := TX8) (N := 47) hx hb hts (fun _ h => List.mem_cons_of_mem _ (List.mem_append_right _ h)) tyX8 tyX8_ok nmX8 hown hK hP hD hS 0 rfl rfl 0 (by decide) (hts (.fieldLink RX8 145 "SkewBoardModel" "boards" "I") (List.mem_of_getElem? (i := 12) rfl)) (fun _ h9 => h9) rfl (by decide +kernel) rfl rfl (Nat.le_of_ble_eq_true rfl) dX8_board_112 (fun H locs hP hD hS => ?_)
            have hP : va_P (dC, dI) vwCl (wX8 cI cB cE a (v_boards + 1) r_1.2.2.1 r_1.2.2.2.1 v_outer_42 v_inner_42 v_content_42 r_6.1 r_6.2.1 r_6.2.2.1 v_seen v_seenWhat v_seenCan v_pageLength v_page r_1.2.1 r_1.2.2.1 r_1.2.2.2.1 r_1.2.2.2.2.1 r_1.2.2.2.2.2.1 r_1.2.2.2.2.2.2 v_now v_left v_box r_6.2.2.2.1 v_counted v_given r_6.2.2.2.2 v_terms v_term v_shape v_readBoxes v_readRow v_readColumn v_grid v_often v_seedNow v_isKept v_keptBoard v_keptKind v_keptRows v_keptSeen v_keptOuter v_keptInner v_keptContent v_keptWhat v_keptCan v_h) H := hP
            have hD : va_D A (wX8 cI cB cE a (v_boards + 1) r_1.2.2.1 r_1.2.2.2.1 v_outer_42 v_inner_42 v_content_42 r_6.1 r_6.2.1 r_6.2.2.1 v_seen v_seenWhat v_seenCan v_pageLength v_page r_1.2.1 r_1.2.2.1 r_1.2.2.2.1 r_1.2.2.2.2.1 r_1.2.2.2.2.2.1 r_1.2.2.2.2.2.2 v_now v_left v_box r_6.2.2.2.1 v_counted v_given r_6.2.2.2.2 v_terms v_term v_shape v_readBoxes v_readRow v_readColumn v_grid v_often v_seedNow v_isKept v_keptBoard v_keptKind v_keptRows v_keptSeen v_keptOuter v_keptInner v_keptContent v_keptWhat v_keptCan v_h) := hD
            refine lv_aload_n hx hb dX8_board_115 rfl (lv_at hl 0 rfl) ?_
            refine lv_iconst (v := 0) hx hb dX8_board_116 (by decide) ?_
            refine va_put (D := (dC, dI)) (ci := 8) (v := .int 0) (ty := .int) (C := RX8) (T := TX8) (N := 47) hx hb hts (fun _ h => List.mem_cons_of_mem _ (List.mem_append_right _ h)) tyX8 tyX8_ok nmX8 hown hK hP hD hS 0 rfl rfl 9 (by decide) (hts (.fieldLink RX8 148 "SkewBoardModel" "seen" "I") (List.mem_of_getElem? (i := 13) rfl)) (fun _ h9 => h9) rfl (by decide +kernel) rfl rfl (Nat.le_of_ble_eq_true rfl) dX8_board_117 (fun H locs hP hD hS => ?_)
            have hP : va_P (dC, dI) vwCl (wX8 cI cB cE a (v_boards + 1) r_1.2.2.1 r_1.2.2.2.1 v_outer_42 v_inner_42 v_content_42 r_6.1 r_6.2.1 r_6.2.2.1 0 v_seenWhat v_seenCan v_pageLength v_page r_1.2.1 r_1.2.2.1 r_1.2.2.2.1 r_1.2.2.2.2.1 r_1.2.2.2.2.2.1 r_1.2.2.2.2.2.2 v_now v_left v_box r_6.2.2.2.1 v_counted v_given r_6.2.2.2.2 v_terms v_term v_shape v_readBoxes v_readRow v_readColumn v_grid v_often v_seedNow v_isKept v_keptBoard v_keptKind v_keptRows v_keptSeen v_keptOuter v_keptInner v_keptContent v_keptWhat v_keptCan v_h) H := hP
            have hD : va_D A (wX8 cI cB cE a (v_boards + 1) r_1.2.2.1 r_1.2.2.2.1 v_outer_42 v_inner_42 v_content_42 r_6.1 r_6.2.1 r_6.2.2.1 0 v_seenWhat v_seenCan v_pageLength v_page r_1.2.1 r_1.2.2.1 r_1.2.2.2.1 r_1.2.2.2.2.1 r_1.2.2.2.2.2.1 r_1.2.2.2.2.2.2 v_now v_left v_box r_6.2.2.2.1 v_counted v_given r_6.2.2.2.2 v_terms v_term v_shape v_readBoxes v_readRow v_readColumn v_grid v_often v_seedNow v_isKept v_keptBoard v_keptKind v_keptRows v_keptSeen v_keptOuter v_keptInner v_keptContent v_keptWhat v_keptCan v_h) := hD
            refine lv_aload_n hx hb dX8_board_120 rfl (lv_at hl 0 rfl) ?_
            refine lv_iconst (v := 0) hx hb dX8_board_121 (by decide) ?_
            refine va_put (D := (dC, dI)) (ci := 8) (v := .int 0) (ty := .int) (C := RX8) (T := TX8) (N := 47) hx hb hts (fun _ h => List.mem_cons_of_mem _ (List.mem_append_right _ h)) tyX8 tyX8_ok nmX8 hown hK hP hD hS 0 rfl rfl 12 (by decide) (hts (.fieldLink RX8 90 "SkewBoardModel" "pageLength" "I") (List.mem_of_getElem? (i := 14) rfl)) (fun _ h9 => h9) rfl (by decide +kernel) rfl rfl (Nat.le_of_ble_eq_true rfl) dX8_board_122 (fun H locs hP hD hS => ?_)
            have hP : va_P (dC, dI) vwCl (wX8 cI cB cE a (v_boards + 1) r_1.2.2.1 r_1.2.2.2.1 v_outer_42 v_inner_42 v_content_42 r_6.1 r_6.2.1 r_6.2.2.1 0 v_seenWhat v_seenCan 0 v_page r_1.2.1 r_1.2.2.1 r_1.2.2.2.1 r_1.2.2.2.2.1 r_1.2.2.2.2.2.1 r_1.2.2.2.2.2.2 v_now v_left v_box r_6.2.2.2.1 v_counted v_given r_6.2.2.2.2 v_terms v_term v_shape v_readBoxes v_readRow v_readColumn v_grid v_often v_seedNow v_isKept v_keptBoard v_keptKind v_keptRows v_keptSeen v_keptOuter v_keptInner v_keptContent v_keptWhat v_keptCan v_h) H := hP
            have hD : va_D A (wX8 cI cB cE a (v_boards + 1) r_1.2.2.1 r_1.2.2.2.1 v_outer_42 v_inner_42 v_content_42 r_6.1 r_6.2.1 r_6.2.2.1 0 v_seenWhat v_seenCan 0 v_page r_1.2.1 r_1.2.2.1 r_1.2.2.2.1 r_1.2.2.2.2.1 r_1.2.2.2.2.2.1 r_1.2.2.2.2.2.2 v_now v_left v_box r_6.2.2.2.1 v_counted v_given r_6.2.2.2.2 v_terms v_term v_shape v_readBoxes v_readRow v_readColumn v_grid v_often v_seedNow v_isKept v_keptBoard v_keptKind v_keptRows v_keptSeen v_keptOuter v_keptInner v_keptContent v_keptWhat v_keptCan v_h) := hD
            refine lv_aload_n hx hb dX8_board_125 rfl (lv_at hl 0 rfl) ?_
            refine va_get (D := (dC, dI)) (ci := 8) (C := RX8) (T := TX8) (N := 47) hx hb hts (fun _ h => List.mem_cons_of_mem _ (List.mem_append_right _ h)) hown hK hP 0 rfl rfl 6 (by decide) (hts (.fieldLink RX8 124 "SkewBoardModel" "boxes" "I") (List.mem_of_getElem? (i := 15) rfl)) (fun _ h9 => h9) rfl dX8_board_126 ?_
            have hQ2 := hQ
            rw [← Option.some.inj hf] at hQ2
            exact cx_iret hQ2 hx hb hr hlocks hK hP hD hS dX8_board_129
          · rw [if_neg c_5] at hf
            refine lv_aload_n hx hb dX8_board_47 rfl (lv_at hl 0 rfl) ?_
            refine va_get (D := (dC, dI)) (ci := 8) (C := RX8) (T := TX8) (N := 47) hx hb hts (fun _ h => List.mem_cons_of_mem _ (List.mem_append_right _ h)) hown hK hP 0 rfl rfl 3 (by decide) (hts (.fieldLink RX8 7 "SkewBoardModel" "outer" "[I") (List.mem_of_getElem? (i := 6) rfl)) (fun _ h9 => h9) rfl dX8_board_48 ?_
            refine lv_iload_n hx hb dX8_board_51 rfl (lv_at hl 1 rfl) ?_
            refine lv_iload_n hx hb dX8_board_52 rfl (lv_at hl 1 rfl) ?_
            refine lv_aload_n hx hb dX8_board_53 rfl (lv_at hl 0 rfl) ?_
            refine va_get (D := (dC, dI)) (ci := 8) (C := RX8) (T := TX8) (N := 47) hx hb hts (fun _ h => List.mem_cons_of_mem _ (List.mem_append_right _ h)) hown hK hP 0 rfl rfl 2 (by decide) (hts (.fieldLink RX8 127 "SkewBoardModel" "rows" "I") (List.mem_of_getElem? (i := 5) rfl)) (fun _ h9 => h9) rfl dX8_board_54 ?_
            have J70 : ∀ (y2_70 : Int32), fX8_board_J70 r_1 x1_42 v_outer_42 v_inner_42 v_content_42 (fX8_board_L42 v_boards v_rowOf v_columnOf r_1 n42) y2_70 = some fin → ∀ (H : Heap) (locs : List Loc), va_P (dC, dI) vwCl (wX8 cI cB cE a v_boards r_1.2.2.1 r_1.2.2.2.1 v_outer_42 v_inner_42 v_content_42 v_boxes v_rowOf v_columnOf v_seen v_seenWhat v_seenCan v_pageLength v_page r_1.2.1 r_1.2.2.1 r_1.2.2.2.1 r_1.2.2.2.2.1 r_1.2.2.2.2.2.1 r_1.2.2.2.2.2.2 v_now v_left v_box v_isCounted v_counted v_given v_isTermed v_terms v_term v_shape v_readBoxes v_readRow v_readColumn v_grid v_often v_seedNow v_isKept v_keptBoard v_keptKind v_keptRows v_keptSeen v_keptOuter v_keptInner v_keptContent v_keptWhat v_keptCan v_h) H → va_D A (wX8 cI cB cE a v_boards r_1.2.2.1 r_1.2.2.2.1 v_outer_42 v_inner_42 v_content_42 v_boxes v_rowOf v_columnOf v_seen v_seenWhat v_seenCan v_pageLength v_page r_1.2.1 r_1.2.2.1 r_1.2.2.2.1 r_1.2.2.2.2.1 r_1.2.2.2.2.2.1 r_1.2.2.2.2.2.2 v_now v_left v_box v_isCounted v_counted v_given v_isTermed v_terms v_term v_shape v_readBoxes v_readRow v_readColumn v_grid v_often v_seedNow v_isKept v_keptBoard v_keptKind v_keptRows v_keptSeen v_keptOuter v_keptInner v_keptContent v_keptWhat v_keptCan v_h) → va_S A s.heap H locs → ∀ (ls : Array Slot), lv_has ls 2 [(0, .ref (a 0)), (1, .int x1_42)] → W p l e rmX8_board s m args below meth c H locs 0 0 Q (F0 m 70 ls [.int y2_70, .int x1_42, .ref (a 1)]) := by
              intro y2_70 hf H locs hP hD hS ls hl
              unfold fX8_board_J70 at hf
              obtain ⟨g_7, hf⟩ := gd_some hf
              refine va_iast hx hb hK hP hD hS 1 0 rfl rfl (inb_vp g_7) dX8_board_70 (fun H locs hP hD hS => ?_)
              have hP : va_P (dC, dI) vwCl (wX8 cI cB cE a v_boards r_1.2.2.1 r_1.2.2.2.1 (upd v_outer_42 x1_42.toNatClampNeg y2_70) v_inner_42 v_content_42 v_boxes v_rowOf v_columnOf v_seen v_seenWhat v_seenCan v_pageLength v_page r_1.2.1 r_1.2.2.1 r_1.2.2.2.1 r_1.2.2.2.2.1 r_1.2.2.2.2.2.1 r_1.2.2.2.2.2.2 v_now v_left v_box v_isCounted v_counted v_given v_isTermed v_terms v_term v_shape v_readBoxes v_readRow v_readColumn v_grid v_often v_seedNow v_isKept v_keptBoard v_keptKind v_keptRows v_keptSeen v_keptOuter v_keptInner v_keptContent v_keptWhat v_keptCan v_h) H := hP
              have hD : va_D A (wX8 cI cB cE a v_boards r_1.2.2.1 r_1.2.2.2.1 (upd v_outer_42 x1_42.toNatClampNeg y2_70) v_inner_42 v_content_42 v_boxes v_rowOf v_columnOf v_seen v_seenWhat v_seenCan v_pageLength v_page r_1.2.1 r_1.2.2.1 r_1.2.2.2.1 r_1.2.2.2.2.1 r_1.2.2.2.2.2.1 r_1.2.2.2.2.2.2 v_now v_left v_box v_isCounted v_counted v_given v_isTermed v_terms v_term v_shape v_readBoxes v_readRow v_readColumn v_grid v_often v_seedNow v_isKept v_keptBoard v_keptKind v_keptRows v_keptSeen v_keptOuter v_keptInner v_keptContent v_keptWhat v_keptCan v_h) := hD
              refine lv_aload_n hx hb dX8_board_71 rfl (lv_at hl 0 rfl) ?_
              refine va_get (D := (dC, dI)) (ci := 8) (C := RX8) (T := TX8) (N := 47) hx hb hts (fun _ h => List.mem_cons_of_mem _ (List.mem_append_right _ h)) hown hK hP 0 rfl rfl 4 (by decide) (hts (.fieldLink RX8 13 "SkewBoardModel" "inner" "[I") (List.mem_of_getElem? (i := 8) rfl)) (fun _ h9 => h9) rfl dX8_board_72 ?_
              refine lv_iload_n hx hb dX8_board_75 rfl (lv_at hl 1 rfl) ?_
              refine lv_aload_n hx hb dX8_board_76 rfl (lv_at hl 0 rfl) ?_
              refine va_get (D := (dC, dI)) (ci := 8) (C := RX8) (T := TX8) (N := 47) hx hb hts (fun _ h => List.mem_cons_of_mem _ (List.mem_append_right _ h)) hown hK hP 0 rfl rfl 18 (by decide) (hts (.fieldLink RX8 38 "SkewBoardModel" "newInner" "[I") (List.mem_of_getElem? (i := 9) rfl)) (fun _ h9 => h9) rfl dX8_board_77 ?_
              refine lv_iload_n hx hb dX8_board_80 rfl (lv_at hl 1 rfl) ?_
              refine va_iald hx hb hK hP 10 0 rfl rfl (inb_vp g_7) dX8_board_81 ?_
              refine va_iast hx hb hK hP hD hS 2 0 rfl rfl (inb_vp g_7) dX8_board_82 (fun H locs hP hD hS => ?_)
              have hP : va_P (dC, dI) vwCl (wX8 cI cB cE a v_boards r_1.2.2.1 r_1.2.2.2.1 (upd v_outer_42 x1_42.toNatClampNeg y2_70) (upd v_inner_42 x1_42.toNatClampNeg (r_1.2.2.2.2.2.1 x1_42.toNatClampNeg)) v_content_42 v_boxes v_rowOf v_columnOf v_seen v_seenWhat v_seenCan v_pageLength v_page r_1.2.1 r_1.2.2.1 r_1.2.2.2.1 r_1.2.2.2.2.1 r_1.2.2.2.2.2.1 r_1.2.2.2.2.2.2 v_now v_left v_box v_isCounted v_counted v_given v_isTermed v_terms v_term v_shape v_readBoxes v_readRow v_readColumn v_grid v_often v_seedNow v_isKept v_keptBoard v_keptKind v_keptRows v_keptSeen v_keptOuter v_keptInner v_keptContent v_keptWhat v_keptCan v_h) H := hP
              have hD : va_D A (wX8 cI cB cE a v_boards r_1.2.2.1 r_1.2.2.2.1 (upd v_outer_42 x1_42.toNatClampNeg y2_70) (upd v_inner_42 x1_42.toNatClampNeg (r_1.2.2.2.2.2.1 x1_42.toNatClampNeg)) v_content_42 v_boxes v_rowOf v_columnOf v_seen v_seenWhat v_seenCan v_pageLength v_page r_1.2.1 r_1.2.2.1 r_1.2.2.2.1 r_1.2.2.2.2.1 r_1.2.2.2.2.2.1 r_1.2.2.2.2.2.2 v_now v_left v_box v_isCounted v_counted v_given v_isTermed v_terms v_term v_shape v_readBoxes v_readRow v_readColumn v_grid v_often v_seedNow v_isKept v_keptBoard v_keptKind v_keptRows v_keptSeen v_keptOuter v_keptInner v_keptContent v_keptWhat v_keptCan v_h) := hD
              refine lv_aload_n hx hb dX8_board_83 rfl (lv_at hl 0 rfl) ?_
              refine va_get (D := (dC, dI)) (ci := 8) (C := RX8) (T := TX8) (N := 47) hx hb hts (fun _ h => List.mem_cons_of_mem _ (List.mem_append_right _ h)) hown hK hP 0 rfl rfl 5 (by decide) (hts (.fieldLink RX8 16 "SkewBoardModel" "content" "[I") (List.mem_of_getElem? (i := 10) rfl)) (fun _ h9 => h9) rfl dX8_board_84 ?_
              refine lv_iload_n hx hb dX8_board_87 rfl (lv_at hl 1 rfl) ?_
              refine lv_aload_n hx hb dX8_board_88 rfl (lv_at hl 0 rfl) ?_
              refine va_get (D := (dC, dI)) (ci := 8) (C := RX8) (T := TX8) (N := 47) hx hb hts (fun _ h => List.mem_cons_of_mem _ (List.mem_append_right _ h)) hown hK hP 0 rfl rfl 19 (by decide) (hts (.fieldLink RX8 41 "SkewBoardModel" "newContent" "[I") (List.mem_of_getElem? (i := 11) rfl)) (fun _ h9 => h9) rfl dX8_board_89 ?_
              refine lv_iload_n hx hb dX8_board_92 rfl (lv_at hl 1 rfl) ?_
              refine va_iald hx hb hK hP 11 0 rfl rfl (inb_vp g_7) dX8_board_93 ?_
              refine va_iast hx hb hK hP hD hS 3 0 rfl rfl (inb_vp g_7) dX8_board_94 (fun H locs hP hD hS => ?_)
              have hP : va_P (dC, dI) vwCl (wX8 cI cB cE a v_boards r_1.2.2.1 r_1.2.2.2.1 (upd v_outer_42 x1_42.toNatClampNeg y2_70) (upd v_inner_42 x1_42.toNatClampNeg (r_1.2.2.2.2.2.1 x1_42.toNatClampNeg)) (upd v_content_42 x1_42.toNatClampNeg (r_1.2.2.2.2.2.2 x1_42.toNatClampNeg)) v_boxes v_rowOf v_columnOf v_seen v_seenWhat v_seenCan v_pageLength v_page r_1.2.1 r_1.2.2.1 r_1.2.2.2.1 r_1.2.2.2.2.1 r_1.2.2.2.2.2.1 r_1.2.2.2.2.2.2 v_now v_left v_box v_isCounted v_counted v_given v_isTermed v_terms v_term v_shape v_readBoxes v_readRow v_readColumn v_grid v_often v_seedNow v_isKept v_keptBoard v_keptKind v_keptRows v_keptSeen v_keptOuter v_keptInner v_keptContent v_keptWhat v_keptCan v_h) H := hP
              have hD : va_D A (wX8 cI cB cE a v_boards r_1.2.2.1 r_1.2.2.2.1 (upd v_outer_42 x1_42.toNatClampNeg y2_70) (upd v_inner_42 x1_42.toNatClampNeg (r_1.2.2.2.2.2.1 x1_42.toNatClampNeg)) (upd v_content_42 x1_42.toNatClampNeg (r_1.2.2.2.2.2.2 x1_42.toNatClampNeg)) v_boxes v_rowOf v_columnOf v_seen v_seenWhat v_seenCan v_pageLength v_page r_1.2.1 r_1.2.2.1 r_1.2.2.2.1 r_1.2.2.2.2.1 r_1.2.2.2.2.2.1 r_1.2.2.2.2.2.2 v_now v_left v_box v_isCounted v_counted v_given v_isTermed v_terms v_term v_shape v_readBoxes v_readRow v_readColumn v_grid v_often v_seedNow v_isKept v_keptBoard v_keptKind v_keptRows v_keptSeen v_keptOuter v_keptInner v_keptContent v_keptWhat v_keptCan v_h) := hD
              refine lv_iinc (v := (x1_42 + 1)) (lv' := [(1, .int (x1_42 + 1)), (0, .ref (a 0))]) hx hb dX8_board_95 hl (k := 1) rfl rfl (by decide) rfl (fun ls hl => ?_)
              refine lv_goto (tgt := 42) hx hb dX8_board_98 (by decide) ?_
              exact ih42 (x1_42 + 1) (upd v_outer_42 x1_42.toNatClampNeg y2_70) (upd v_inner_42 x1_42.toNatClampNeg (r_1.2.2.2.2.2.1 x1_42.toNatClampNeg)) (upd v_content_42 x1_42.toNatClampNeg (r_1.2.2.2.2.2.2 x1_42.toNatClampNeg)) hf _ _ hP hD hS ls (lv_sub hl [1, 0] rfl)
            refine lv_icmp_ge (tgt := 69) hx hb dX8_board_57 (by decide) (fun c_8 => ?_) (fun c_8 => ?_)
            · rw [if_pos c_8] at hf
              refine lv_iconst (v := 0) hx hb dX8_board_69 (by decide) ?_
              exact J70 0 hf _ _ hP hD hS ls (lv_sub hl [0, 1] rfl)
            · rw [if_neg c_8] at hf
              refine lv_aload_n hx hb dX8_board_60 rfl (lv_at hl 0 rfl) ?_
              refine va_get (D := (dC, dI)) (ci := 8) (C := RX8) (T := TX8) (N := 47) hx hb hts (fun _ h => List.mem_cons_of_mem _ (List.mem_append_right _ h)) hown hK hP 0 rfl rfl 17 (by decide) (hts (.fieldLink RX8 35 "SkewBoardModel" "newOuter" "[I") (List.mem_of_getElem? (i := 7) rfl)) (fun _ h9 => h9) rfl dX8_board_61 ?_
              refine lv_iload_n hx hb dX8_board_64 rfl (lv_at hl 1 rfl) ?_
              obtain ⟨g_9, hf⟩ := gd_some hf
              refine va_iald hx hb hK hP 9 0 rfl rfl (inb_vp g_9) dX8_board_65 ?_
              refine lv_goto (tgt := 70) hx hb dX8_board_66 (by decide) ?_
              exact J70 (r_1.2.2.2.2.1 x1_42.toNatClampNeg) hf _ _ hP hD hS ls (lv_sub hl [0, 1] rfl)
      exact L42 fu 0 v_outer v_inner v_content hf _ _ hP hD hS ls (lv_sub hl [1, 0] rfl)
    · rw [if_neg c_4] at hf
      exact J21 () hf _ _ hP hD hS ls (lv_sub hl [] rfl)

def fX8_isBoard_J12 (y0_12 : Int32) : Option (Int32) :=
    gd (isb y0_12) (some y0_12)
def fX8_isBoard (v_rows : Int32) : Option (Int32) :=
  fX8_isBoard_J12 (if v_rows ≤ 0 then 0 else 1)
def rmX8_isBoard : Room := { frames := 0, cells := 0, slots := 0, locals := 0 }
set_option maxRecDepth 100000 in
set_option maxHeartbeats 4000000 in
theorem ctX8_isBoard (l : Launch) (z : Nat × Nat × Nat) (dC : Nat → ClassId) (dI : Nat → Nat → Nat) (cI cB cE : ClassId) (a : Nat → Nat) (v_boards : Int32) (v_kind : Int32) (v_rows : Int32) (v_outer : Nat → Int32) (v_inner : Nat → Int32) (v_content : Nat → Int32) (v_boxes : Int32) (v_rowOf : Nat → Int32) (v_columnOf : Nat → Int32) (v_seen : Int32) (v_seenWhat : Nat → Int32) (v_seenCan : Nat → Int32) (v_pageLength : Int32) (v_page : Nat → Int32) (v_isWhole : Int32) (v_newKind : Int32) (v_newRows : Int32) (v_newOuter : Nat → Int32) (v_newInner : Nat → Int32) (v_newContent : Nat → Int32) (v_now : Nat → Int32) (v_left : Nat → Int32) (v_box : Int32) (v_isCounted : Int32) (v_counted : Int32) (v_given : Nat → Int32) (v_isTermed : Int32) (v_terms : Int32) (v_term : Nat → Int32) (v_shape : Nat → Int32) (v_readBoxes : Int32) (v_readRow : Nat → Int32) (v_readColumn : Nat → Int32) (v_grid : Nat → Int32) (v_often : Nat → Int32) (v_seedNow : Int64) (v_isKept : Int32) (v_keptBoard : Int32) (v_keptKind : Int32) (v_keptRows : Int32) (v_keptSeen : Int32) (v_keptOuter : Nat → Int32) (v_keptInner : Nat → Int32) (v_keptContent : Nat → Int32) (v_keptWhat : Nat → Int32) (v_keptCan : Nat → Int32) (v_h : Int64) (fin : Int32) (hf : fX8_isBoard v_rows = some fin) : Ct l z (dC, dI) (tyL cI cB cE) yX8_isBoard wsX8_isBoard rmX8_isBoard [.ref (a 0)] (wX8 cI cB cE a v_boards v_kind v_rows v_outer v_inner v_content v_boxes v_rowOf v_columnOf v_seen v_seenWhat v_seenCan v_pageLength v_page v_isWhole v_newKind v_newRows v_newOuter v_newInner v_newContent v_now v_left v_box v_isCounted v_counted v_given v_isTermed v_terms v_term v_shape v_readBoxes v_readRow v_readColumn v_grid v_often v_seedNow v_isKept v_keptBoard v_keptKind v_keptRows v_keptSeen v_keptOuter v_keptInner v_keptContent v_keptWhat v_keptCan v_h) (some (.int fin)) (wX8 cI cB cE a v_boards v_kind v_rows v_outer v_inner v_content v_boxes v_rowOf v_columnOf v_seen v_seenWhat v_seenCan v_pageLength v_page v_isWhole v_newKind v_newRows v_newOuter v_newInner v_newContent v_now v_left v_box v_isCounted v_counted v_given v_isTermed v_terms v_term v_shape v_readBoxes v_readRow v_readColumn v_grid v_often v_seedNow v_isKept v_keptBoard v_keptKind v_keptRows v_keptSeen v_keptOuter v_keptInner v_keptContent v_keptWhat v_keptCan v_h) := by
  refine Met.ofC (cc := cX8_isBoard) (maxL := 1) (ret := (some .boolean)) (by decide) rfl (Nat.le_of_ble_eq_true rfl) ?_
  intro p e s m args below meth c A Q ls hx hb hr hml hts hown hlocks hA hK hP hD hZ hS hQ hl
  have hown : s.vm.findClass RX8 = some m.cls := hown
  have hl : lv_has ls 1 [(0, .ref (a 0))] := hl
  unfold fX8_isBoard at hf
  refine lv_aload_n hx hb dX8_isBoard_0 rfl (lv_at hl 0 rfl) ?_
  refine va_get (D := (dC, dI)) (ci := 8) (C := RX8) (T := TX8) (N := 47) hx hb hts (fun _ h => List.mem_cons_of_mem _ (List.mem_append_right _ h)) hown hK hP 0 rfl rfl 2 (by decide) (hts (.fieldLink RX8 127 "SkewBoardModel" "rows" "I") (List.mem_of_getElem? (i := 1) rfl)) (fun _ h9 => h9) rfl dX8_isBoard_1 ?_
  have J12 : ∀ (y0_12 : Int32), fX8_isBoard_J12  y0_12 = some fin → ∀ (H : Heap) (locs : List Loc), va_P (dC, dI) vwCl (wX8 cI cB cE a v_boards v_kind v_rows v_outer v_inner v_content v_boxes v_rowOf v_columnOf v_seen v_seenWhat v_seenCan v_pageLength v_page v_isWhole v_newKind v_newRows v_newOuter v_newInner v_newContent v_now v_left v_box v_isCounted v_counted v_given v_isTermed v_terms v_term v_shape v_readBoxes v_readRow v_readColumn v_grid v_often v_seedNow v_isKept v_keptBoard v_keptKind v_keptRows v_keptSeen v_keptOuter v_keptInner v_keptContent v_keptWhat v_keptCan v_h) H → va_D A (wX8 cI cB cE a v_boards v_kind v_rows v_outer v_inner v_content v_boxes v_rowOf v_columnOf v_seen v_seenWhat v_seenCan v_pageLength v_page v_isWhole v_newKind v_newRows v_newOuter v_newInner v_newContent v_now v_left v_box v_isCounted v_counted v_given v_isTermed v_terms v_term v_shape v_readBoxes v_readRow v_readColumn v_grid v_often v_seedNow v_isKept v_keptBoard v_keptKind v_keptRows v_keptSeen v_keptOuter v_keptInner v_keptContent v_keptWhat v_keptCan v_h) → va_S A s.heap H locs → ∀ (ls : Array Slot), lv_has ls 1 [] → W p l e rmX8_isBoard s m args below meth c H locs 0 0 Q (F0 m 12 ls [.int y0_12]) := by
    intro y0_12 hf H locs hP hD hS ls hl
    unfold fX8_isBoard_J12 at hf
    obtain ⟨g_1, hf⟩ := gd_some hf
    have hQ2 := hQ
    rw [← Option.some.inj hf] at hQ2
    exact cx_zret (isb_nar g_1) hQ2 hx hb hr hlocks hK hP hD hS dX8_isBoard_12
  refine lv_if_le (tgt := 11) hx hb dX8_isBoard_4 (by decide) (fun c_2 => ?_) (fun c_2 => ?_)
  · rw [if_pos c_2] at hf
    refine lv_iconst (v := 0) hx hb dX8_isBoard_11 (by decide) ?_
    exact J12 0 hf _ _ hP hD hS ls (lv_sub hl [] rfl)
  · rw [if_neg c_2] at hf
    refine lv_iconst (v := 1) hx hb dX8_isBoard_7 (by decide) ?_
    refine lv_goto (tgt := 12) hx hb dX8_isBoard_8 (by decide) ?_
    exact J12 1 hf _ _ hP hD hS ls (lv_sub hl [] rfl)

def fX8_letters_J20 (y0_20 : Int32) : Option (Int32) :=
    some y0_20
def fX8_letters (v_rows : Int32) : Option (Int32) :=
  bd (fX8_isBoard v_rows) (fun r_1 => fX8_letters_J20 (if r_1 = 0 then 0 else ((2 * v_rows) + 7)))
def rmX8_letters : Room := { frames := 1, cells := 0, slots := 0, locals := 20 }
set_option maxRecDepth 100000 in
set_option maxHeartbeats 4000000 in
theorem ctX8_letters (l : Launch) (z : Nat × Nat × Nat) (dC : Nat → ClassId) (dI : Nat → Nat → Nat) (cI cB cE : ClassId) (a : Nat → Nat) (v_boards : Int32) (v_kind : Int32) (v_rows : Int32) (v_outer : Nat → Int32) (v_inner : Nat → Int32) (v_content : Nat → Int32) (v_boxes : Int32) (v_rowOf : Nat → Int32) (v_columnOf : Nat → Int32) (v_seen : Int32) (v_seenWhat : Nat → Int32) (v_seenCan : Nat → Int32) (v_pageLength : Int32) (v_page : Nat → Int32) (v_isWhole : Int32) (v_newKind : Int32) (v_newRows : Int32) (v_newOuter : Nat → Int32) (v_newInner : Nat → Int32) (v_newContent : Nat → Int32) (v_now : Nat → Int32) (v_left : Nat → Int32) (v_box : Int32) (v_isCounted : Int32) (v_counted : Int32) (v_given : Nat → Int32) (v_isTermed : Int32) (v_terms : Int32) (v_term : Nat → Int32) (v_shape : Nat → Int32) (v_readBoxes : Int32) (v_readRow : Nat → Int32) (v_readColumn : Nat → Int32) (v_grid : Nat → Int32) (v_often : Nat → Int32) (v_seedNow : Int64) (v_isKept : Int32) (v_keptBoard : Int32) (v_keptKind : Int32) (v_keptRows : Int32) (v_keptSeen : Int32) (v_keptOuter : Nat → Int32) (v_keptInner : Nat → Int32) (v_keptContent : Nat → Int32) (v_keptWhat : Nat → Int32) (v_keptCan : Nat → Int32) (v_h : Int64) (fin : Int32) (hf : fX8_letters v_rows = some fin) : Ct l z (dC, dI) (tyL cI cB cE) yX8_letters wsX8_letters rmX8_letters [.ref (a 0)] (wX8 cI cB cE a v_boards v_kind v_rows v_outer v_inner v_content v_boxes v_rowOf v_columnOf v_seen v_seenWhat v_seenCan v_pageLength v_page v_isWhole v_newKind v_newRows v_newOuter v_newInner v_newContent v_now v_left v_box v_isCounted v_counted v_given v_isTermed v_terms v_term v_shape v_readBoxes v_readRow v_readColumn v_grid v_often v_seedNow v_isKept v_keptBoard v_keptKind v_keptRows v_keptSeen v_keptOuter v_keptInner v_keptContent v_keptWhat v_keptCan v_h) (some (.int fin)) (wX8 cI cB cE a v_boards v_kind v_rows v_outer v_inner v_content v_boxes v_rowOf v_columnOf v_seen v_seenWhat v_seenCan v_pageLength v_page v_isWhole v_newKind v_newRows v_newOuter v_newInner v_newContent v_now v_left v_box v_isCounted v_counted v_given v_isTermed v_terms v_term v_shape v_readBoxes v_readRow v_readColumn v_grid v_often v_seedNow v_isKept v_keptBoard v_keptKind v_keptRows v_keptSeen v_keptOuter v_keptInner v_keptContent v_keptWhat v_keptCan v_h) := by
  refine Met.ofC (cc := cX8_letters) (maxL := 1) (ret := (some .int)) (by decide) rfl (Nat.le_of_ble_eq_true rfl) ?_
  intro p e s m args below meth c A Q ls hx hb hr hml hts hown hlocks hA hK hP hD hZ hS hQ hl
  have hown : s.vm.findClass RX8 = some m.cls := hown
  have hl : lv_has ls 1 [(0, .ref (a 0))] := hl
  unfold fX8_letters at hf
  refine lv_aload_n hx hb dX8_letters_0 rfl (lv_at hl 0 rfl) ?_
  obtain ⟨r_1, hr_1, hf⟩ := bd_some hf
  refine cx_runW (cx_V (As := []) (rest := []) ⟨hx, hb, hml, hown, hts⟩ (ctX8_isBoard l z dC dI cI cB cE a v_boards v_kind v_rows v_outer v_inner v_content v_boxes v_rowOf v_columnOf v_seen v_seenWhat v_seenCan v_pageLength v_page v_isWhole v_newKind v_newRows v_newOuter v_newInner v_newContent v_now v_left v_box v_isCounted v_counted v_given v_isTermed v_terms v_term v_shape v_readBoxes v_readRow v_readColumn v_grid v_often v_seedNow v_isKept v_keptBoard v_keptKind v_keptRows v_keptSeen v_keptOuter v_keptInner v_keptContent v_keptWhat v_keptCan v_h r_1 hr_1) (cwV 0 hts gX8_letters_X8_isBoard rfl rfl rfl (by decide +kernel) ⟨Nat.le_of_ble_eq_true rfl, Nat.le_of_ble_eq_true rfl⟩) hK hP hD hZ hS hA (ci := 8) (q0 := 0) rfl rfl rfl hl.1 rfl (Nat.le_of_ble_eq_true rfl) dX8_letters_1) hD hS hA [.int r_1] rfl (fun H locs hP hD hS => ?_)
  have J20 : ∀ (y0_20 : Int32), fX8_letters_J20  y0_20 = some fin → ∀ (H : Heap) (locs : List Loc), va_P (dC, dI) vwCl (wX8 cI cB cE a v_boards v_kind v_rows v_outer v_inner v_content v_boxes v_rowOf v_columnOf v_seen v_seenWhat v_seenCan v_pageLength v_page v_isWhole v_newKind v_newRows v_newOuter v_newInner v_newContent v_now v_left v_box v_isCounted v_counted v_given v_isTermed v_terms v_term v_shape v_readBoxes v_readRow v_readColumn v_grid v_often v_seedNow v_isKept v_keptBoard v_keptKind v_keptRows v_keptSeen v_keptOuter v_keptInner v_keptContent v_keptWhat v_keptCan v_h) H → va_D A (wX8 cI cB cE a v_boards v_kind v_rows v_outer v_inner v_content v_boxes v_rowOf v_columnOf v_seen v_seenWhat v_seenCan v_pageLength v_page v_isWhole v_newKind v_newRows v_newOuter v_newInner v_newContent v_now v_left v_box v_isCounted v_counted v_given v_isTermed v_terms v_term v_shape v_readBoxes v_readRow v_readColumn v_grid v_often v_seedNow v_isKept v_keptBoard v_keptKind v_keptRows v_keptSeen v_keptOuter v_keptInner v_keptContent v_keptWhat v_keptCan v_h) → va_S A s.heap H locs → ∀ (ls : Array Slot), lv_has ls 1 [] → W p l e rmX8_letters s m args below meth c H locs 0 0 Q (F0 m 20 ls [.int y0_20]) := by
    intro y0_20 hf H locs hP hD hS ls hl
    unfold fX8_letters_J20 at hf
    have hQ2 := hQ
    rw [← Option.some.inj hf] at hQ2
    exact cx_iret hQ2 hx hb hr hlocks hK hP hD hS dX8_letters_20
  refine lv_if_eq (tgt := 19) hx hb dX8_letters_4 (by decide) (fun c_2 => ?_) (fun c_2 => ?_)
  · rw [if_pos c_2] at hf
    refine lv_iconst (v := 0) hx hb dX8_letters_19 (by decide) ?_
    exact J20 0 hf _ _ hP hD hS ls (lv_sub hl [] rfl)
  · rw [if_neg c_2] at hf
    refine lv_iconst (v := 2) hx hb dX8_letters_7 (by decide) ?_
    refine lv_aload_n hx hb dX8_letters_8 rfl (lv_at hl 0 rfl) ?_
    refine va_get (D := (dC, dI)) (ci := 8) (C := RX8) (T := TX8) (N := 47) hx hb hts (fun _ h => List.mem_cons_of_mem _ (List.mem_append_right _ h)) hown hK hP 0 rfl rfl 2 (by decide) (hts (.fieldLink RX8 127 "SkewBoardModel" "rows" "I") (List.mem_of_getElem? (i := 1) rfl)) (fun _ h9 => h9) rfl dX8_letters_9 ?_
    refine lv_imul hx hb dX8_letters_12 ?_
    refine lv_bipush (v := 7) hx hb dX8_letters_13 (by decide) ?_
    refine lv_iadd hx hb dX8_letters_15 ?_
    refine lv_goto (tgt := 20) hx hb dX8_letters_16 (by decide) ?_
    exact J20 ((2 * v_rows) + 7) hf _ _ hP hD hS ls (lv_sub hl [] rfl)

def fX8_letterAt_J109 (y0_109 : Int32) : Option (Int32) :=
    some y0_109
def fX8_letterAt (p1 : Int32) (v_kind : Int32) (v_rows : Int32) (v_outer : Nat → Int32) (v_inner : Nat → Int32) (v_content : Nat → Int32) : Option (Int32) :=
  if p1 = 0 then (bd (fX8_letterOf v_kind) (fun r_9 => some r_9)) else (if v_rows < p1 then (if p1 = (v_rows + 1) then (some 47) else (if ((2 * v_rows) + 2) ≤ p1 then (if p1 = ((2 * v_rows) + 2) then (fX8_letterAt_J109 58) else (gd (inb ((p1 - (2 * v_rows)) - 3) 4) (fX8_letterAt_J109 (48 + (v_content ((p1 - (2 * v_rows)) - 3).toNatClampNeg))))) else (gd (inb ((p1 - v_rows) - 2) 4) (some (48 + (v_inner ((p1 - v_rows) - 2).toNatClampNeg)))))) else (gd (inb (p1 - 1) 4) (some (48 + (v_outer (p1 - 1).toNatClampNeg)))))
def rmX8_letterAt : Room := { frames := 1, cells := 0, slots := 0, locals := 20 }
set_option maxRecDepth 100000 in
set_option maxHeartbeats 4000000 in
theorem ctX8_letterAt (l : Launch) (z : Nat × Nat × Nat) (dC : Nat → ClassId) (dI : Nat → Nat → Nat) (cI cB cE : ClassId) (a : Nat → Nat) (v_boards : Int32) (v_kind : Int32) (v_rows : Int32) (v_outer : Nat → Int32) (v_inner : Nat → Int32) (v_content : Nat → Int32) (v_boxes : Int32) (v_rowOf : Nat → Int32) (v_columnOf : Nat → Int32) (v_seen : Int32) (v_seenWhat : Nat → Int32) (v_seenCan : Nat → Int32) (v_pageLength : Int32) (v_page : Nat → Int32) (v_isWhole : Int32) (v_newKind : Int32) (v_newRows : Int32) (v_newOuter : Nat → Int32) (v_newInner : Nat → Int32) (v_newContent : Nat → Int32) (v_now : Nat → Int32) (v_left : Nat → Int32) (v_box : Int32) (v_isCounted : Int32) (v_counted : Int32) (v_given : Nat → Int32) (v_isTermed : Int32) (v_terms : Int32) (v_term : Nat → Int32) (v_shape : Nat → Int32) (v_readBoxes : Int32) (v_readRow : Nat → Int32) (v_readColumn : Nat → Int32) (v_grid : Nat → Int32) (v_often : Nat → Int32) (v_seedNow : Int64) (v_isKept : Int32) (v_keptBoard : Int32) (v_keptKind : Int32) (v_keptRows : Int32) (v_keptSeen : Int32) (v_keptOuter : Nat → Int32) (v_keptInner : Nat → Int32) (v_keptContent : Nat → Int32) (v_keptWhat : Nat → Int32) (v_keptCan : Nat → Int32) (v_h : Int64) (p1 : Int32) (fin : Int32) (hf : fX8_letterAt p1 v_kind v_rows v_outer v_inner v_content = some fin) : Ct l z (dC, dI) (tyL cI cB cE) yX8_letterAt wsX8_letterAt rmX8_letterAt [.ref (a 0), .int p1] (wX8 cI cB cE a v_boards v_kind v_rows v_outer v_inner v_content v_boxes v_rowOf v_columnOf v_seen v_seenWhat v_seenCan v_pageLength v_page v_isWhole v_newKind v_newRows v_newOuter v_newInner v_newContent v_now v_left v_box v_isCounted v_counted v_given v_isTermed v_terms v_term v_shape v_readBoxes v_readRow v_readColumn v_grid v_often v_seedNow v_isKept v_keptBoard v_keptKind v_keptRows v_keptSeen v_keptOuter v_keptInner v_keptContent v_keptWhat v_keptCan v_h) (some (.int fin)) (wX8 cI cB cE a v_boards v_kind v_rows v_outer v_inner v_content v_boxes v_rowOf v_columnOf v_seen v_seenWhat v_seenCan v_pageLength v_page v_isWhole v_newKind v_newRows v_newOuter v_newInner v_newContent v_now v_left v_box v_isCounted v_counted v_given v_isTermed v_terms v_term v_shape v_readBoxes v_readRow v_readColumn v_grid v_often v_seedNow v_isKept v_keptBoard v_keptKind v_keptRows v_keptSeen v_keptOuter v_keptInner v_keptContent v_keptWhat v_keptCan v_h) := by
  refine Met.ofC (cc := cX8_letterAt) (maxL := 2) (ret := (some .int)) (by decide) rfl (Nat.le_of_ble_eq_true rfl) ?_
  intro p e s m args below meth c A Q ls hx hb hr hml hts hown hlocks hA hK hP hD hZ hS hQ hl
  have hown : s.vm.findClass RX8 = some m.cls := hown
  have hl : lv_has ls 2 [(0, .ref (a 0)), (1, .int p1)] := hl
  unfold fX8_letterAt at hf
  refine lv_iload_n hx hb dX8_letterAt_0 rfl (lv_at hl 1 rfl) ?_
  refine lv_if_ne (tgt := 12) hx hb dX8_letterAt_1 (by decide) (fun c_1 => ?_) (fun c_1 => ?_)
  · rw [if_neg c_1] at hf
    refine lv_iload_n hx hb dX8_letterAt_12 rfl (lv_at hl 1 rfl) ?_
    refine lv_aload_n hx hb dX8_letterAt_13 rfl (lv_at hl 0 rfl) ?_
    refine va_get (D := (dC, dI)) (ci := 8) (C := RX8) (T := TX8) (N := 47) hx hb hts (fun _ h => List.mem_cons_of_mem _ (List.mem_append_right _ h)) hown hK hP 0 rfl rfl 2 (by decide) (hts (.fieldLink RX8 127 "SkewBoardModel" "rows" "I") (List.mem_of_getElem? (i := 2) rfl)) (fun _ h9 => h9) rfl dX8_letterAt_14 ?_
    refine lv_icmp_gt (tgt := 32) hx hb dX8_letterAt_17 (by decide) (fun c_2 => ?_) (fun c_2 => ?_)
    · rw [if_pos c_2] at hf
      refine lv_iload_n hx hb dX8_letterAt_32 rfl (lv_at hl 1 rfl) ?_
      refine lv_aload_n hx hb dX8_letterAt_33 rfl (lv_at hl 0 rfl) ?_
      refine va_get (D := (dC, dI)) (ci := 8) (C := RX8) (T := TX8) (N := 47) hx hb hts (fun _ h => List.mem_cons_of_mem _ (List.mem_append_right _ h)) hown hK hP 0 rfl rfl 2 (by decide) (hts (.fieldLink RX8 127 "SkewBoardModel" "rows" "I") (List.mem_of_getElem? (i := 2) rfl)) (fun _ h9 => h9) rfl dX8_letterAt_34 ?_
      refine lv_iconst (v := 1) hx hb dX8_letterAt_37 (by decide) ?_
      refine lv_iadd hx hb dX8_letterAt_38 ?_
      refine lv_icmp_ne (tgt := 45) hx hb dX8_letterAt_39 (by decide) (fun c_3 => ?_) (fun c_3 => ?_)
      · rw [if_neg c_3] at hf
        refine lv_iload_n hx hb dX8_letterAt_45 rfl (lv_at hl 1 rfl) ?_
        refine lv_iconst (v := 2) hx hb dX8_letterAt_46 (by decide) ?_
        refine lv_aload_n hx hb dX8_letterAt_47 rfl (lv_at hl 0 rfl) ?_
        refine va_get (D := (dC, dI)) (ci := 8) (C := RX8) (T := TX8) (N := 47) hx hb hts (fun _ h => List.mem_cons_of_mem _ (List.mem_append_right _ h)) hown hK hP 0 rfl rfl 2 (by decide) (hts (.fieldLink RX8 127 "SkewBoardModel" "rows" "I") (List.mem_of_getElem? (i := 2) rfl)) (fun _ h9 => h9) rfl dX8_letterAt_48 ?_
        refine lv_imul hx hb dX8_letterAt_51 ?_
        refine lv_iconst (v := 2) hx hb dX8_letterAt_52 (by decide) ?_
        refine lv_iadd hx hb dX8_letterAt_53 ?_
        refine lv_icmp_ge (tgt := 74) hx hb dX8_letterAt_54 (by decide) (fun c_4 => ?_) (fun c_4 => ?_)
        · rw [if_pos c_4] at hf
          refine lv_iload_n hx hb dX8_letterAt_74 rfl (lv_at hl 1 rfl) ?_
          refine lv_iconst (v := 2) hx hb dX8_letterAt_75 (by decide) ?_
          refine lv_aload_n hx hb dX8_letterAt_76 rfl (lv_at hl 0 rfl) ?_
          refine va_get (D := (dC, dI)) (ci := 8) (C := RX8) (T := TX8) (N := 47) hx hb hts (fun _ h => List.mem_cons_of_mem _ (List.mem_append_right _ h)) hown hK hP 0 rfl rfl 2 (by decide) (hts (.fieldLink RX8 127 "SkewBoardModel" "rows" "I") (List.mem_of_getElem? (i := 2) rfl)) (fun _ h9 => h9) rfl dX8_letterAt_77 ?_
          refine lv_imul hx hb dX8_letterAt_80 ?_
          refine lv_iconst (v := 2) hx hb dX8_letterAt_81 (by decide) ?_
          refine lv_iadd hx hb dX8_letterAt_82 ?_
          have J109 : ∀ (y0_109 : Int32), fX8_letterAt_J109  y0_109 = some fin → ∀ (H : Heap) (locs : List Loc), va_P (dC, dI) vwCl (wX8 cI cB cE a v_boards v_kind v_rows v_outer v_inner v_content v_boxes v_rowOf v_columnOf v_seen v_seenWhat v_seenCan v_pageLength v_page v_isWhole v_newKind v_newRows v_newOuter v_newInner v_newContent v_now v_left v_box v_isCounted v_counted v_given v_isTermed v_terms v_term v_shape v_readBoxes v_readRow v_readColumn v_grid v_often v_seedNow v_isKept v_keptBoard v_keptKind v_keptRows v_keptSeen v_keptOuter v_keptInner v_keptContent v_keptWhat v_keptCan v_h) H → va_D A (wX8 cI cB cE a v_boards v_kind v_rows v_outer v_inner v_content v_boxes v_rowOf v_columnOf v_seen v_seenWhat v_seenCan v_pageLength v_page v_isWhole v_newKind v_newRows v_newOuter v_newInner v_newContent v_now v_left v_box v_isCounted v_counted v_given v_isTermed v_terms v_term v_shape v_readBoxes v_readRow v_readColumn v_grid v_often v_seedNow v_isKept v_keptBoard v_keptKind v_keptRows v_keptSeen v_keptOuter v_keptInner v_keptContent v_keptWhat v_keptCan v_h) → va_S A s.heap H locs → ∀ (ls : Array Slot), lv_has ls 2 [] → W p l e rmX8_letterAt s m args below meth c H locs 0 0 Q (F0 m 109 ls [.int y0_109]) := by
            intro y0_109 hf H locs hP hD hS ls hl
            unfold fX8_letterAt_J109 at hf
            have hQ2 := hQ
            rw [← Option.some.inj hf] at hQ2
            exact cx_iret hQ2 hx hb hr hlocks hK hP hD hS dX8_letterAt_109
          refine lv_icmp_ne (tgt := 91) hx hb dX8_letterAt_83 (by decide) (fun c_5 => ?_) (fun c_5 => ?_)
          · rw [if_neg c_5] at hf
            refine lv_bipush (v := 48) hx hb dX8_letterAt_91 (by decide) ?_
            refine lv_aload_n hx hb dX8_letterAt_93 rfl (lv_at hl 0 rfl) ?_
            refine va_get (D := (dC, dI)) (ci := 8) (C := RX8) (T := TX8) (N := 47) hx hb hts (fun _ h => List.mem_cons_of_mem _ (List.mem_append_right _ h)) hown hK hP 0 rfl rfl 5 (by decide) (hts (.fieldLink RX8 16 "SkewBoardModel" "content" "[I") (List.mem_of_getElem? (i := 5) rfl)) (fun _ h9 => h9) rfl dX8_letterAt_94 ?_
            refine lv_iload_n hx hb dX8_letterAt_97 rfl (lv_at hl 1 rfl) ?_
            refine lv_iconst (v := 2) hx hb dX8_letterAt_98 (by decide) ?_
            refine lv_aload_n hx hb dX8_letterAt_99 rfl (lv_at hl 0 rfl) ?_
            refine va_get (D := (dC, dI)) (ci := 8) (C := RX8) (T := TX8) (N := 47) hx hb hts (fun _ h => List.mem_cons_of_mem _ (List.mem_append_right _ h)) hown hK hP 0 rfl rfl 2 (by decide) (hts (.fieldLink RX8 127 "SkewBoardModel" "rows" "I") (List.mem_of_getElem? (i := 2) rfl)) (fun _ h9 => h9) rfl dX8_letterAt_100 ?_
            refine lv_imul hx hb dX8_letterAt_103 ?_
            refine lv_isub hx hb dX8_letterAt_104 ?_
            refine lv_iconst (v := 3) hx hb dX8_letterAt_105 (by decide) ?_
            refine lv_isub hx hb dX8_letterAt_106 ?_
            obtain ⟨g_6, hf⟩ := gd_some hf
            refine va_iald hx hb hK hP 3 0 rfl rfl (inb_vp g_6) dX8_letterAt_107 ?_
            refine lv_iadd hx hb dX8_letterAt_108 ?_
            exact J109 (48 + (v_content ((p1 - (2 * v_rows)) - 3).toNatClampNeg)) hf _ _ hP hD hS ls (lv_sub hl [] rfl)
          · rw [if_pos c_5] at hf
            refine lv_bipush (v := 58) hx hb dX8_letterAt_86 (by decide) ?_
            refine lv_goto (tgt := 109) hx hb dX8_letterAt_88 (by decide) ?_
            exact J109 58 hf _ _ hP hD hS ls (lv_sub hl [] rfl)
        · rw [if_neg c_4] at hf
          refine lv_bipush (v := 48) hx hb dX8_letterAt_57 (by decide) ?_
          refine lv_aload_n hx hb dX8_letterAt_59 rfl (lv_at hl 0 rfl) ?_
          refine va_get (D := (dC, dI)) (ci := 8) (C := RX8) (T := TX8) (N := 47) hx hb hts (fun _ h => List.mem_cons_of_mem _ (List.mem_append_right _ h)) hown hK hP 0 rfl rfl 4 (by decide) (hts (.fieldLink RX8 13 "SkewBoardModel" "inner" "[I") (List.mem_of_getElem? (i := 4) rfl)) (fun _ h9 => h9) rfl dX8_letterAt_60 ?_
          refine lv_iload_n hx hb dX8_letterAt_63 rfl (lv_at hl 1 rfl) ?_
          refine lv_aload_n hx hb dX8_letterAt_64 rfl (lv_at hl 0 rfl) ?_
          refine va_get (D := (dC, dI)) (ci := 8) (C := RX8) (T := TX8) (N := 47) hx hb hts (fun _ h => List.mem_cons_of_mem _ (List.mem_append_right _ h)) hown hK hP 0 rfl rfl 2 (by decide) (hts (.fieldLink RX8 127 "SkewBoardModel" "rows" "I") (List.mem_of_getElem? (i := 2) rfl)) (fun _ h9 => h9) rfl dX8_letterAt_65 ?_
          refine lv_isub hx hb dX8_letterAt_68 ?_
          refine lv_iconst (v := 2) hx hb dX8_letterAt_69 (by decide) ?_
          refine lv_isub hx hb dX8_letterAt_70 ?_
          obtain ⟨g_7, hf⟩ := gd_some hf
          refine va_iald hx hb hK hP 2 0 rfl rfl (inb_vp g_7) dX8_letterAt_71 ?_
          refine lv_iadd hx hb dX8_letterAt_72 ?_
          have hQ2 := hQ
          rw [← Option.some.inj hf] at hQ2
          exact cx_iret hQ2 hx hb hr hlocks hK hP hD hS dX8_letterAt_73
      · rw [if_pos c_3] at hf
        refine lv_bipush (v := 47) hx hb dX8_letterAt_42 (by decide) ?_
        have hQ2 := hQ
        rw [← Option.some.inj hf] at hQ2
        exact cx_iret hQ2 hx hb hr hlocks hK hP hD hS dX8_letterAt_44
    · rw [if_neg c_2] at hf
      refine lv_bipush (v := 48) hx hb dX8_letterAt_20 (by decide) ?_
      refine lv_aload_n hx hb dX8_letterAt_22 rfl (lv_at hl 0 rfl) ?_
      refine va_get (D := (dC, dI)) (ci := 8) (C := RX8) (T := TX8) (N := 47) hx hb hts (fun _ h => List.mem_cons_of_mem _ (List.mem_append_right _ h)) hown hK hP 0 rfl rfl 3 (by decide) (hts (.fieldLink RX8 7 "SkewBoardModel" "outer" "[I") (List.mem_of_getElem? (i := 3) rfl)) (fun _ h9 => h9) rfl dX8_letterAt_23 ?_
      refine lv_iload_n hx hb dX8_letterAt_26 rfl (lv_at hl 1 rfl) ?_
      refine lv_iconst (v := 1) hx hb dX8_letterAt_27 (by decide) ?_
      refine lv_isub hx hb dX8_letterAt_28 ?_
      obtain ⟨g_8, hf⟩ := gd_some hf
      refine va_iald hx hb hK hP 1 0 rfl rfl (inb_vp g_8) dX8_letterAt_29 ?_
      refine lv_iadd hx hb dX8_letterAt_30 ?_
      have hQ2 := hQ
      rw [← Option.some.inj hf] at hQ2
      exact cx_iret hQ2 hx hb hr hlocks hK hP hD hS dX8_letterAt_31
  · rw [if_pos c_1] at hf
    refine lv_aload_n hx hb dX8_letterAt_4 rfl (lv_at hl 0 rfl) ?_
    refine va_get (D := (dC, dI)) (ci := 8) (C := RX8) (T := TX8) (N := 47) hx hb hts (fun _ h => List.mem_cons_of_mem _ (List.mem_append_right _ h)) hown hK hP 0 rfl rfl 1 (by decide) (hts (.fieldLink RX8 139 "SkewBoardModel" "kind" "I") (List.mem_of_getElem? (i := 1) rfl)) (fun _ h9 => h9) rfl dX8_letterAt_5 ?_
    obtain ⟨r_9, hr_9, hf⟩ := bd_some hf
    refine cx_run0 (cx_S (A := A) (As := [.int v_kind]) (rest := []) ⟨hx, hb, hml, hown, hts⟩ (ctX8_letterOf l z dC dI cI cB cE v_kind r_9 hr_9) (va_cwS 1 hts gX8_letterAt_X8_letterOf rfl rfl rfl (by decide +kernel) ⟨Nat.le_of_ble_eq_true rfl, Nat.le_of_ble_eq_true rfl⟩) hK vaP0 vaD0 hZ hS hA rfl hl.1 rfl (Nat.le_of_ble_eq_true rfl) dX8_letterAt_8) hP hS hA [.int r_9] rfl (fun H locs hP hS => ?_)
    have hQ2 := hQ
    rw [← Option.some.inj hf] at hQ2
    exact cx_iret hQ2 hx hb hr hlocks hK hP hD hS dX8_letterAt_11

