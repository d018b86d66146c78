set_option maxHeartbeats 4000000 in
set_option maxRecDepth 100000 in
theorem c_X7_in (l : Launch) (D : va_G) (cI cB cZ cP : ClassId) (x lo hi : Int32) : Met l yX7_in wsX7_in ({ frames := 0, cells := 0, slots := 0, locals := 0 } : Room) (va_Pc [.int x, .int lo, .int hi] (fun U => va_P D vwCl [] U.heap ∧ KW D cI cB cZ cP U ∧ E0 U.heap)) (vp_Si (fun r => r = zb (lo.toInt ≤ x.toInt ∧ x.toInt ≤ hi.toInt))) 0 0 (fun _ => False) := by
  refine Met.ofW (cc := cX7_in) (maxL := 3) (ret := (some .boolean)) (by decide) rfl ?_
  intro p e s m args below meth c s₁ B hml hv
  obtain ⟨rfl, hP, hW0, hE⟩ := hv
  have hx := B.exec
  have hb := B.bytes
  have hr := B.returns
  have hts := atoms_spec (ws := wsX7_in) B.pre
  have hown : s.vm.findClass RX7 = some m.cls := findClass_of_methodNamed B.named
  have hlocks := B.notSynchronized
  have hK := hW0.1
  have hl := lv_entry ([.int x, .int lo, .int hi]) (n := 3) (Nat.le_of_ble_eq_true rfl)
  rw [lg_entry_eq]
  generalize (lg_sl ([.int x, .int lo, .int hi]) ++ List.replicate (3 - (lg_sl ([.int x, .int lo, .int hi])).length) Slot.unset).toArray = ls at hl ⊢
  have hl : lv_has ls 3 [(0, .int x), (1, .int lo), (2, .int hi)] := hl
  show W p l e ({ frames := 0, cells := 0, slots := 0, locals := 0 } : Room) s m ([.int x, .int lo, .int hi] : List Value).toArray below meth c s.heap [] 0 0 _ (F0 m 0 ls [])
  refine u_genQ (fun Q hQ => ?_)
  refine lv_iload_n hx hb dX7_in_0 rfl (lv_at hl 0 rfl) ?_
  refine lv_iload_n hx hb dX7_in_1 rfl (lv_at hl 1 rfl) ?_
  refine lv_icmp_lt (tgt := 14) hx hb dX7_in_2 (by decide) (fun c_1 => ?_) (fun c_1 => ?_)
  · skip
    refine lv_iconst (v := 0) hx hb dX7_in_14 (by decide) ?_
    rw [← hQ]
    exact W.zret (v := 0) hx hb hr (by decide) (fun t ht hW => ⟨_, rfl, (zb_f (by simp only [Int32.lt_iff_toInt_lt, Int32.le_iff_toInt_le, ← Int32.toInt_inj, li_0, li_1, li_2, li_3, li_4, li_5, li_6, li_7, li_8, li_9, li_10, li_12, li_20, li_31, li_32, li_33, li_47, li_48, li_49, li_57, li_59, li_60, li_101, li_108, li_109, li_110, li_115, li_119, li_126, li_999, li_1000, li_1023, li_1024, li_2000, li_m1, li_m6] at c_1 ⊢; omega)), ht⟩) (fun q h => absurd h List.not_mem_nil) dX7_in_15
  · skip
    refine lv_iload_n hx hb dX7_in_5 rfl (lv_at hl 0 rfl) ?_
    refine lv_iload_n hx hb dX7_in_6 rfl (lv_at hl 2 rfl) ?_
    refine lv_icmp_gt (tgt := 14) hx hb dX7_in_7 (by decide) (fun c_2 => ?_) (fun c_2 => ?_)
    · skip
      refine lv_iconst (v := 0) hx hb dX7_in_14 (by decide) ?_
      rw [← hQ]
      exact W.zret (v := 0) hx hb hr (by decide) (fun t ht hW => ⟨_, rfl, (zb_f (by simp only [Int32.lt_iff_toInt_lt, Int32.le_iff_toInt_le, ← Int32.toInt_inj, li_0, li_1, li_2, li_3, li_4, li_5, li_6, li_7, li_8, li_9, li_10, li_12, li_20, li_31, li_32, li_33, li_47, li_48, li_49, li_57, li_59, li_60, li_101, li_108, li_109, li_110, li_115, li_119, li_126, li_999, li_1000, li_1023, li_1024, li_2000, li_m1, li_m6] at c_1 c_2 ⊢; omega)), ht⟩) (fun q h => absurd h List.not_mem_nil) dX7_in_15
    · skip
      refine lv_iconst (v := 1) hx hb dX7_in_10 (by decide) ?_
      refine lv_goto (tgt := 15) hx hb dX7_in_11 (by decide) ?_
      rw [← hQ]
      exact W.zret (v := 1) hx hb hr (by decide) (fun t ht hW => ⟨_, rfl, (zb_t (by simp only [Int32.lt_iff_toInt_lt, Int32.le_iff_toInt_le, ← Int32.toInt_inj, li_0, li_1, li_2, li_3, li_4, li_5, li_6, li_7, li_8, li_9, li_10, li_12, li_20, li_31, li_32, li_33, li_47, li_48, li_49, li_57, li_59, li_60, li_101, li_108, li_109, li_110, li_115, li_119, li_126, li_999, li_1000, li_1023, li_1024, li_2000, li_m1, li_m6] at c_1 c_2 ⊢; omega)), ht⟩) (fun q h => absurd h List.not_mem_nil) dX7_in_15

set_option maxHeartbeats 4000000 in
set_option maxRecDepth 100000 in
theorem c_X7_isPost (l : Launch) (D : va_G) (cI cB cZ cP : ClassId) (x y : Int32) : Met l yX7_isPost wsX7_isPost ({ frames := 1, cells := 0, slots := 0, locals := 22 } : Room) (va_Pc [.int x, .int y] (fun U => va_P D vwCl [] U.heap ∧ KW D cI cB cZ cP U ∧ E0 U.heap)) (vp_Si (fun r => r = zb (isP x y))) 0 0 (fun _ => False) := by
  refine Met.ofW (cc := cX7_isPost) (maxL := 2) (ret := (some .boolean)) (by decide) rfl ?_
  intro p e s m args below meth c s₁ B hml hv
  obtain ⟨rfl, hP, hW0, hE⟩ := hv
  have hx := B.exec
  have hb := B.bytes
  have hr := B.returns
  have hts := atoms_spec (ws := wsX7_isPost) B.pre
  have hown : s.vm.findClass RX7 = some m.cls := findClass_of_methodNamed B.named
  have hlocks := B.notSynchronized
  have hK := hW0.1
  have hl := lv_entry ([.int x, .int y]) (n := 2) (Nat.le_of_ble_eq_true rfl)
  rw [lg_entry_eq]
  generalize (lg_sl ([.int x, .int y]) ++ List.replicate (2 - (lg_sl ([.int x, .int y])).length) Slot.unset).toArray = ls at hl ⊢
  have hl : lv_has ls 2 [(0, .int x), (1, .int y)] := hl
  show W p l e ({ frames := 1, cells := 0, slots := 0, locals := 22 } : Room) s m ([.int x, .int y] : List Value).toArray below meth c s.heap [] 0 0 _ (F0 m 0 ls [])
  refine u_genQ (fun Q hQ => ?_)
  refine lv_iload_n hx hb dX7_isPost_0 rfl (lv_at hl 0 rfl) ?_
  refine lv_iconst (v := 0) hx hb dX7_isPost_1 (by decide) ?_
  refine lv_bipush (v := 31) hx hb dX7_isPost_2 (by decide) ?_
  have hPc := hP.sub (ws' := []) [] rfl
  refine u_callSi (W.runS (As := [.int x, .int 0, .int 31]) (rest := []) ⟨hx, hb, hml, hown, hts⟩ (c_X7_in l D cI cB cZ cP x 0 31 ) (cwS 3 hts gX7_isPost_X7_in rfl rfl rfl (by decide +kernel) ⟨Nat.le_of_ble_eq_true rfl, Nat.le_of_ble_eq_true rfl⟩) (pS hPc hW0 trivial) rfl rfl hl.1 rfl (lv_room (Nat.le_of_ble_eq_true rfl)) dX7_isPost_4 ⟨Nat.le_of_ble_eq_true rfl, Nat.le_of_ble_eq_true rfl⟩) ?_
  refine lv_if_eq (tgt := 24) hx hb dX7_isPost_7 (by decide) (fun c_1 => ?_) (fun c_1 => ?_)
  · skip
    have nc_1 := zb_eq0.mp c_1
    refine lv_iconst (v := 0) hx hb dX7_isPost_24 (by decide) ?_
    rw [← hQ]
    exact W.zret (v := 0) hx hb hr (by decide) (fun t ht hW => ⟨_, rfl, (zb_f (by unfold isP; simp only [li_0, li_31] at *; omega)), ht⟩) (fun q h => absurd h List.not_mem_nil) dX7_isPost_25
  · skip
    have nc_1 := zb_ne0.mp c_1
    refine lv_iload_n hx hb dX7_isPost_10 rfl (lv_at hl 1 rfl) ?_
    refine lv_iconst (v := 0) hx hb dX7_isPost_11 (by decide) ?_
    refine lv_bipush (v := 31) hx hb dX7_isPost_12 (by decide) ?_
    have hPc := hP.sub (ws' := []) [] rfl
    refine u_callSi (W.runS (As := [.int y, .int 0, .int 31]) (rest := []) ⟨hx, hb, hml, hown, hts⟩ (c_X7_in l D cI cB cZ cP y 0 31 ) (cwS 3 hts gX7_isPost_X7_in rfl rfl rfl (by decide +kernel) ⟨Nat.le_of_ble_eq_true rfl, Nat.le_of_ble_eq_true rfl⟩) (pS hPc hW0 trivial) rfl rfl hl.1 rfl (lv_room (Nat.le_of_ble_eq_true rfl)) dX7_isPost_14 ⟨Nat.le_of_ble_eq_true rfl, Nat.le_of_ble_eq_true rfl⟩) ?_
    refine lv_if_eq (tgt := 24) hx hb dX7_isPost_17 (by decide) (fun c_2 => ?_) (fun c_2 => ?_)
    · skip
      have nc_2 := zb_eq0.mp c_2
      refine lv_iconst (v := 0) hx hb dX7_isPost_24 (by decide) ?_
      rw [← hQ]
      exact W.zret (v := 0) hx hb hr (by decide) (fun t ht hW => ⟨_, rfl, (zb_f (by unfold isP; simp only [li_0, li_31] at *; omega)), ht⟩) (fun q h => absurd h List.not_mem_nil) dX7_isPost_25
    · skip
      have nc_2 := zb_ne0.mp c_2
      refine lv_iconst (v := 1) hx hb dX7_isPost_20 (by decide) ?_
      refine lv_goto (tgt := 25) hx hb dX7_isPost_21 (by decide) ?_
      rw [← hQ]
      exact W.zret (v := 1) hx hb hr (by decide) (fun t ht hW => ⟨_, rfl, (zb_t (by unfold isP; simp only [li_0, li_31] at *; omega)), ht⟩) (fun q h => absurd h List.not_mem_nil) dX7_isPost_25

set_option maxHeartbeats 4000000 in
set_option maxRecDepth 100000 in
theorem c_X7_isFigure (l : Launch) (D : va_G) (cI cB cZ cP : ClassId) (x : Int32) : Met l yX7_isFigure wsX7_isFigure ({ frames := 1, cells := 0, slots := 0, locals := 22 } : Room) (va_Pc [.int x] (fun U => va_P D vwCl [] U.heap ∧ KW D cI cB cZ cP U ∧ E0 U.heap)) (vp_Si (fun r => r = zb (48 ≤ x.toInt ∧ x.toInt ≤ 57))) 0 0 (fun _ => False) := by
  refine Met.ofW (cc := cX7_isFigure) (maxL := 1) (ret := (some .boolean)) (by decide) rfl ?_
  intro p e s m args below meth c s₁ B hml hv
  obtain ⟨rfl, hP, hW0, hE⟩ := hv
  have hx := B.exec
  have hb := B.bytes
  have hr := B.returns
  have hts := atoms_spec (ws := wsX7_isFigure) B.pre
  have hown : s.vm.findClass RX7 = some m.cls := findClass_of_methodNamed B.named
  have hlocks := B.notSynchronized
  have hK := hW0.1
  have hl := lv_entry ([.int x]) (n := 1) (Nat.le_of_ble_eq_true rfl)
  rw [lg_entry_eq]
  generalize (lg_sl ([.int x]) ++ List.replicate (1 - (lg_sl ([.int x])).length) Slot.unset).toArray = ls at hl ⊢
  have hl : lv_has ls 1 [(0, .int x)] := hl
  show W p l e ({ frames := 1, cells := 0, slots := 0, locals := 22 } : Room) s m ([.int x] : List Value).toArray below meth c s.heap [] 0 0 _ (F0 m 0 ls [])
  refine u_genQ (fun Q hQ => ?_)
  refine lv_iload_n hx hb dX7_isFigure_0 rfl (lv_at hl 0 rfl) ?_
  refine lv_bipush (v := 48) hx hb dX7_isFigure_1 (by decide) ?_
  refine lv_bipush (v := 57) hx hb dX7_isFigure_3 (by decide) ?_
  have hPc := hP.sub (ws' := []) [] rfl
  refine u_callSi (W.runS (As := [.int x, .int 48, .int 57]) (rest := []) ⟨hx, hb, hml, hown, hts⟩ (c_X7_in l D cI cB cZ cP x 48 57 ) (cwS 3 hts gX7_isFigure_X7_in rfl rfl rfl (by decide +kernel) ⟨Nat.le_of_ble_eq_true rfl, Nat.le_of_ble_eq_true rfl⟩) (pS hPc hW0 trivial) rfl rfl hl.1 rfl (lv_room (Nat.le_of_ble_eq_true rfl)) dX7_isFigure_5 ⟨Nat.le_of_ble_eq_true rfl, Nat.le_of_ble_eq_true rfl⟩) ?_
  rw [← hQ]
  exact W.zret (v := zb ((48 : Int32).toInt ≤ x.toInt ∧ x.toInt ≤ (57 : Int32).toInt)) hx hb hr (nar_zb _) (fun t ht hW => ⟨_, rfl, (zb_iff (by simp only [li_48, li_57])), ht⟩) (fun q h => absurd h List.not_mem_nil) dX7_isFigure_8

set_option maxHeartbeats 4000000 in
set_option maxRecDepth 100000 in
theorem c_X7_size (l : Launch) (D : va_G) (cI cB cZ cP : ClassId) (x : Int32) : Met l yX7_size wsX7_size ({ frames := 0, cells := 0, slots := 0, locals := 0 } : Room) (va_Pc [.int x] (fun U => va_P D vwCl [] U.heap ∧ KW D cI cB cZ cP U ∧ E0 U.heap)) (vp_Si (fun r => r = ab x)) 0 0 (fun _ => False) := by
  refine Met.ofW (cc := cX7_size) (maxL := 1) (ret := (some .int)) (by decide) rfl ?_
  intro p e s m args below meth c s₁ B hml hv
  obtain ⟨rfl, hP, hW0, hE⟩ := hv
  have hx := B.exec
  have hb := B.bytes
  have hr := B.returns
  have hts := atoms_spec (ws := wsX7_size) B.pre
  have hown : s.vm.findClass RX7 = some m.cls := findClass_of_methodNamed B.named
  have hlocks := B.notSynchronized
  have hK := hW0.1
  have hl := lv_entry ([.int x]) (n := 1) (Nat.le_of_ble_eq_true rfl)
  rw [lg_entry_eq]
  generalize (lg_sl ([.int x]) ++ List.replicate (1 - (lg_sl ([.int x])).length) Slot.unset).toArray = ls at hl ⊢
  have hl : lv_has ls 1 [(0, .int x)] := hl
  show W p l e ({ frames := 0, cells := 0, slots := 0, locals := 0 } : Room) s m ([.int x] : List Value).toArray below meth c s.heap [] 0 0 _ (F0 m 0 ls [])
  refine u_genQ (fun Q hQ => ?_)
  refine lv_iload_n hx hb dX7_size_0 rfl (lv_at hl 0 rfl) ?_
  refine lv_if_ge (tgt := 9) hx hb dX7_size_1 (by decide) (fun c_1 => ?_) (fun c_1 => ?_)
  · skip
    refine lv_iload_n hx hb dX7_size_9 rfl (lv_at hl 0 rfl) ?_
    rw [← hQ]
    exact W.iret (v := x) hx hb hr (fun t ht hW => ⟨_, rfl, (by unfold ab; rw [if_pos c_1]), ht⟩) (fun q h => absurd h List.not_mem_nil) dX7_size_10
  · skip
    refine lv_iload_n hx hb dX7_size_4 rfl (lv_at hl 0 rfl) ?_
    refine lv_ineg hx hb dX7_size_5 ?_
    refine lv_goto (tgt := 10) hx hb dX7_size_6 (by decide) ?_
    rw [← hQ]
    exact W.iret (v := -x) hx hb hr (fun t ht hW => ⟨_, rfl, (by unfold ab; rw [if_neg c_1]; exact (Int32.zero_sub _).symm), ht⟩) (fun q h => absurd h List.not_mem_nil) dX7_size_10

set_option maxHeartbeats 4000000 in
set_option maxRecDepth 100000 in
theorem c_X7_turn (l : Launch) (D : va_G) (cI cB cZ cP : ClassId) (ax ay bx bey x y : Int32) : Met l yX7_turn wsX7_turn ({ frames := 0, cells := 0, slots := 0, locals := 0 } : Room) (va_Pc [.int ax, .int ay, .int bx, .int bey, .int x, .int y] (fun U => va_P D vwCl [] U.heap ∧ KW D cI cB cZ cP U ∧ E0 U.heap)) (vp_Si (fun r => r = sgn (tn ax ay bx bey x y))) 0 0 (fun _ => False) := by
  refine Met.ofW (cc := cX7_turn) (maxL := 7) (ret := (some .int)) (by decide) rfl ?_
  intro p e s m args below meth c s₁ B hml hv
  obtain ⟨rfl, hP, hW0, hE⟩ := hv
  have hx := B.exec
  have hb := B.bytes
  have hr := B.returns
  have hts := atoms_spec (ws := wsX7_turn) B.pre
  have hown : s.vm.findClass RX7 = some m.cls := findClass_of_methodNamed B.named
  have hlocks := B.notSynchronized
  have hK := hW0.1
  have hl := lv_entry ([.int ax, .int ay, .int bx, .int bey, .int x, .int y]) (n := 7) (Nat.le_of_ble_eq_true rfl)
  rw [lg_entry_eq]
  generalize (lg_sl ([.int ax, .int ay, .int bx, .int bey, .int x, .int y]) ++ List.replicate (7 - (lg_sl ([.int ax, .int ay, .int bx, .int bey, .int x, .int y])).length) Slot.unset).toArray = ls at hl ⊢
  have hl : lv_has ls 7 [(0, .int ax), (1, .int ay), (2, .int bx), (3, .int bey), (4, .int x), (5, .int y)] := hl
  show W p l e ({ frames := 0, cells := 0, slots := 0, locals := 0 } : Room) s m ([.int ax, .int ay, .int bx, .int bey, .int x, .int y] : List Value).toArray below meth c s.heap [] 0 0 _ (F0 m 0 ls [])
  refine u_genQ (fun Q hQ => ?_)
  refine lv_iload_n hx hb dX7_turn_0 rfl (lv_at hl 2 rfl) ?_
  refine lv_iload_n hx hb dX7_turn_1 rfl (lv_at hl 0 rfl) ?_
  refine lv_isub hx hb dX7_turn_2 ?_
  refine lv_iload hx hb dX7_turn_3 (lv_at hl 5 rfl) ?_
  refine lv_iload_n hx hb dX7_turn_5 rfl (lv_at hl 1 rfl) ?_
  refine lv_isub hx hb dX7_turn_6 ?_
  refine lv_imul hx hb dX7_turn_7 ?_
  refine lv_iload_n hx hb dX7_turn_8 rfl (lv_at hl 3 rfl) ?_
  refine lv_iload_n hx hb dX7_turn_9 rfl (lv_at hl 1 rfl) ?_
  refine lv_isub hx hb dX7_turn_10 ?_
  refine lv_iload hx hb dX7_turn_11 (lv_at hl 4 rfl) ?_
  refine lv_iload_n hx hb dX7_turn_13 rfl (lv_at hl 0 rfl) ?_
  refine lv_isub hx hb dX7_turn_14 ?_
  refine lv_imul hx hb dX7_turn_15 ?_
  refine lv_isub hx hb dX7_turn_16 ?_
  refine lv_istore (lv' := [(6, .int (((bx - ax) * (y - ay)) - ((bey - ay) * (x - ax)))), (0, .int ax), (1, .int ay), (2, .int bx), (3, .int bey), (4, .int x), (5, .int y)]) hx hb dX7_turn_17 hl (by decide) rfl (fun ls hl => ?_)
  refine lv_iload hx hb dX7_turn_19 (lv_at hl 0 rfl) ?_
  refine lv_if_le (tgt := 28) hx hb dX7_turn_21 (by decide) (fun c_1 => ?_) (fun c_1 => ?_)
  · skip
    refine lv_iload hx hb dX7_turn_28 (lv_at hl 0 rfl) ?_
    refine lv_if_ge (tgt := 37) hx hb dX7_turn_30 (by decide) (fun c_2 => ?_) (fun c_2 => ?_)
    · skip
      refine lv_iconst (v := 0) hx hb dX7_turn_37 (by decide) ?_
      rw [← hQ]
      exact W.iret (v := 0) hx hb hr (fun t ht hW => ⟨_, rfl, (by unfold sgn; exact ((if_pos c_1).trans (if_pos c_2)).symm), ht⟩) (fun q h => absurd h List.not_mem_nil) dX7_turn_38
    · skip
      refine lv_iconst (v := (-1)) hx hb dX7_turn_33 (by decide) ?_
      refine lv_goto (tgt := 38) hx hb dX7_turn_34 (by decide) ?_
      rw [← hQ]
      exact W.iret (v := (-1)) hx hb hr (fun t ht hW => ⟨_, rfl, (by unfold sgn; exact ((if_pos c_1).trans (if_neg c_2)).symm), ht⟩) (fun q h => absurd h List.not_mem_nil) dX7_turn_38
  · skip
    refine lv_iconst (v := 1) hx hb dX7_turn_24 (by decide) ?_
    refine lv_goto (tgt := 38) hx hb dX7_turn_25 (by decide) ?_
    rw [← hQ]
    exact W.iret (v := 1) hx hb hr (fun t ht hW => ⟨_, rfl, (by unfold sgn; exact (if_neg c_1).symm), ht⟩) (fun q h => absurd h List.not_mem_nil) dX7_turn_38

set_option maxHeartbeats 4000000 in
set_option maxRecDepth 100000 in
theorem c_X7_isBetween (l : Launch) (D : va_G) (cI cB cZ cP : ClassId) (x xa xb : Int32) : Met l yX7_isBetween wsX7_isBetween ({ frames := 1, cells := 0, slots := 0, locals := 22 } : Room) (va_Pc [.int x, .int xa, .int xb] (fun U => va_P D vwCl [] U.heap ∧ KW D cI cB cZ cP U ∧ E0 U.heap)) (vp_Si (fun r => r = zb (¬ x < mn xa xb ∧ ¬ mx xa xb < x))) 0 0 (fun _ => False) := by
  refine Met.ofW (cc := cX7_isBetween) (maxL := 3) (ret := (some .boolean)) (by decide) rfl ?_
  intro p e s m args below meth c s₁ B hml hv
  obtain ⟨rfl, hP, hW0, hE⟩ := hv
  have hx := B.exec
  have hb := B.bytes
  have hr := B.returns
  have hts := atoms_spec (ws := wsX7_isBetween) B.pre
  have hown : s.vm.findClass RX7 = some m.cls := findClass_of_methodNamed B.named
  have hlocks := B.notSynchronized
  have hK := hW0.1
  have hl := lv_entry ([.int x, .int xa, .int xb]) (n := 3) (Nat.le_of_ble_eq_true rfl)
  rw [lg_entry_eq]
  generalize (lg_sl ([.int x, .int xa, .int xb]) ++ List.replicate (3 - (lg_sl ([.int x, .int xa, .int xb])).length) Slot.unset).toArray = ls at hl ⊢
  have hl : lv_has ls 3 [(0, .int x), (1, .int xa), (2, .int xb)] := hl
  show W p l e ({ frames := 1, cells := 0, slots := 0, locals := 22 } : Room) s m ([.int x, .int xa, .int xb] : List Value).toArray below meth c s.heap [] 0 0 _ (F0 m 0 ls [])
  refine u_genQ (fun Q hQ => ?_)
  refine lv_iload_n hx hb dX7_isBetween_0 rfl (lv_at hl 1 rfl) ?_
  refine lv_iload_n hx hb dX7_isBetween_1 rfl (lv_at hl 2 rfl) ?_
  refine lv_icmp_ge (tgt := 14) hx hb dX7_isBetween_2 (by decide) (fun c_1 => ?_) (fun c_1 => ?_)
  · skip
    refine lv_iload_n hx hb dX7_isBetween_14 rfl (lv_at hl 0 rfl) ?_
    refine lv_iload_n hx hb dX7_isBetween_15 rfl (lv_at hl 2 rfl) ?_
    refine lv_iload_n hx hb dX7_isBetween_16 rfl (lv_at hl 1 rfl) ?_
    have hPc := hP.sub (ws' := []) [] rfl
    refine u_callSi (W.runS (As := [.int x, .int xb, .int xa]) (rest := []) ⟨hx, hb, hml, hown, hts⟩ (c_X7_in l D cI cB cZ cP x xb xa ) (cwS 3 hts gX7_isBetween_X7_in rfl rfl rfl (by decide +kernel) ⟨Nat.le_of_ble_eq_true rfl, Nat.le_of_ble_eq_true rfl⟩) (pS hPc hW0 trivial) rfl rfl hl.1 rfl (lv_room (Nat.le_of_ble_eq_true rfl)) dX7_isBetween_17 ⟨Nat.le_of_ble_eq_true rfl, Nat.le_of_ble_eq_true rfl⟩) ?_
    rw [← hQ]
    exact W.zret (v := zb (xb.toInt ≤ x.toInt ∧ x.toInt ≤ xa.toInt)) hx hb hr (nar_zb _) (fun t ht hW => ⟨_, rfl, (zb_iff (by simp only [Int32.lt_iff_toInt_lt, Int32.le_iff_toInt_le, mn_t, mx_t] at c_1 ⊢; omega)), ht⟩) (fun q h => absurd h List.not_mem_nil) dX7_isBetween_20
  · skip
    refine lv_iload_n hx hb dX7_isBetween_5 rfl (lv_at hl 0 rfl) ?_
    refine lv_iload_n hx hb dX7_isBetween_6 rfl (lv_at hl 1 rfl) ?_
    refine lv_iload_n hx hb dX7_isBetween_7 rfl (lv_at hl 2 rfl) ?_
    have hPc := hP.sub (ws' := []) [] rfl
    refine u_callSi (W.runS (As := [.int x, .int xa, .int xb]) (rest := []) ⟨hx, hb, hml, hown, hts⟩ (c_X7_in l D cI cB cZ cP x xa xb ) (cwS 3 hts gX7_isBetween_X7_in rfl rfl rfl (by decide +kernel) ⟨Nat.le_of_ble_eq_true rfl, Nat.le_of_ble_eq_true rfl⟩) (pS hPc hW0 trivial) rfl rfl hl.1 rfl (lv_room (Nat.le_of_ble_eq_true rfl)) dX7_isBetween_8 ⟨Nat.le_of_ble_eq_true rfl, Nat.le_of_ble_eq_true rfl⟩) ?_
    refine lv_goto (tgt := 20) hx hb dX7_isBetween_11 (by decide) ?_
    rw [← hQ]
    exact W.zret (v := zb (xa.toInt ≤ x.toInt ∧ x.toInt ≤ xb.toInt)) hx hb hr (nar_zb _) (fun t ht hW => ⟨_, rfl, (zb_iff (by simp only [Int32.lt_iff_toInt_lt, Int32.le_iff_toInt_le, mn_t, mx_t] at c_1 ⊢; omega)), ht⟩) (fun q h => absurd h List.not_mem_nil) dX7_isBetween_20

set_option maxHeartbeats 4000000 in
set_option maxRecDepth 100000 in
theorem c_X7_isOn (l : Launch) (D : va_G) (cI cB cZ cP : ClassId) (ax ay bx bey x y : Int32) : Met l yX7_isOn wsX7_isOn ({ frames := 2, cells := 0, slots := 0, locals := 44 } : Room) (va_Pc [.int ax, .int ay, .int bx, .int bey, .int x, .int y] (fun U => va_P D vwCl [] U.heap ∧ KW D cI cB cZ cP U ∧ E0 U.heap)) (vp_Si (fun r => r = zb (onS ax ay bx bey x y))) 0 0 (fun _ => False) := by
  refine Met.ofW (cc := cX7_isOn) (maxL := 6) (ret := (some .boolean)) (by decide) rfl ?_
  intro p e s m args below meth c s₁ B hml hv
  obtain ⟨rfl, hP, hW0, hE⟩ := hv
  have hx := B.exec
  have hb := B.bytes
  have hr := B.returns
  have hts := atoms_spec (ws := wsX7_isOn) B.pre
  have hown : s.vm.findClass RX7 = some m.cls := findClass_of_methodNamed B.named
  have hlocks := B.notSynchronized
  have hK := hW0.1
  have hl := lv_entry ([.int ax, .int ay, .int bx, .int bey, .int x, .int y]) (n := 6) (Nat.le_of_ble_eq_true rfl)
  rw [lg_entry_eq]
  generalize (lg_sl ([.int ax, .int ay, .int bx, .int bey, .int x, .int y]) ++ List.replicate (6 - (lg_sl ([.int ax, .int ay, .int bx, .int bey, .int x, .int y])).length) Slot.unset).toArray = ls at hl ⊢
  have hl : lv_has ls 6 [(0, .int ax), (1, .int ay), (2, .int bx), (3, .int bey), (4, .int x), (5, .int y)] := hl
  show W p l e ({ frames := 2, cells := 0, slots := 0, locals := 44 } : Room) s m ([.int ax, .int ay, .int bx, .int bey, .int x, .int y] : List Value).toArray below meth c s.heap [] 0 0 _ (F0 m 0 ls [])
  refine u_genQ (fun Q hQ => ?_)
  refine lv_iload_n hx hb dX7_isOn_0 rfl (lv_at hl 0 rfl) ?_
  refine lv_iload_n hx hb dX7_isOn_1 rfl (lv_at hl 1 rfl) ?_
  refine lv_iload_n hx hb dX7_isOn_2 rfl (lv_at hl 2 rfl) ?_
  refine lv_iload_n hx hb dX7_isOn_3 rfl (lv_at hl 3 rfl) ?_
  refine lv_iload hx hb dX7_isOn_4 (lv_at hl 4 rfl) ?_
  refine lv_iload hx hb dX7_isOn_6 (lv_at hl 5 rfl) ?_
  have hPc := hP.sub (ws' := []) [] rfl
  refine u_callSi (W.runS (As := [.int ax, .int ay, .int bx, .int bey, .int x, .int y]) (rest := []) ⟨hx, hb, hml, hown, hts⟩ (c_X7_turn l D cI cB cZ cP ax ay bx bey x y ) (cwS 6 hts gX7_isOn_X7_turn rfl rfl rfl (by decide +kernel) ⟨Nat.le_of_ble_eq_true rfl, Nat.le_of_ble_eq_true rfl⟩) (pS hPc hW0 trivial) rfl rfl hl.1 rfl (lv_room (Nat.le_of_ble_eq_true rfl)) dX7_isOn_8 ⟨Nat.le_of_ble_eq_true rfl, Nat.le_of_ble_eq_true rfl⟩) ?_
  refine lv_if_ne (tgt := 38) hx hb dX7_isOn_11 (by decide) (fun c_1 => ?_) (fun c_1 => ?_)
  · skip
    refine lv_iconst (v := 0) hx hb dX7_isOn_38 (by decide) ?_
    rw [← hQ]
    exact W.zret (v := 0) hx hb hr (by decide) (fun t ht hW => ⟨_, rfl, (zb_f (by rintro ⟨h1, h2, h3, h4, h5⟩; first | exact c_1 (sgn_0.mpr h1) | exact nc_1 ⟨h2, h3⟩ | exact nc_1 ⟨h4, h5⟩)), ht⟩) (fun q h => absurd h List.not_mem_nil) dX7_isOn_39
  · skip
    refine lv_iload hx hb dX7_isOn_14 (lv_at hl 4 rfl) ?_
    refine lv_iload_n hx hb dX7_isOn_16 rfl (lv_at hl 0 rfl) ?_
    refine lv_iload_n hx hb dX7_isOn_17 rfl (lv_at hl 2 rfl) ?_
    have hPc := hP.sub (ws' := []) [] rfl
    refine u_callSi (W.runS (As := [.int x, .int ax, .int bx]) (rest := []) ⟨hx, hb, hml, hown, hts⟩ (c_X7_isBetween l D cI cB cZ cP x ax bx ) (cwS 3 hts gX7_isOn_X7_isBetween rfl rfl rfl (by decide +kernel) ⟨Nat.le_of_ble_eq_true rfl, Nat.le_of_ble_eq_true rfl⟩) (pS hPc hW0 trivial) rfl rfl hl.1 rfl (lv_room (Nat.le_of_ble_eq_true rfl)) dX7_isOn_18 ⟨Nat.le_of_ble_eq_true rfl, Nat.le_of_ble_eq_true rfl⟩) ?_
    refine lv_if_eq (tgt := 38) hx hb dX7_isOn_21 (by decide) (fun c_2 => ?_) (fun c_2 => ?_)
    · skip
      have nc_2 := zb_eq0.mp c_2
      refine lv_iconst (v := 0) hx hb dX7_isOn_38 (by decide) ?_
      rw [← hQ]
      exact W.zret (v := 0) hx hb hr (by decide) (fun t ht hW => ⟨_, rfl, (zb_f (by rintro ⟨h1, h2, h3, h4, h5⟩; first | exact c_1 (sgn_0.mpr h1) | exact nc_2 ⟨h2, h3⟩ | exact nc_2 ⟨h4, h5⟩)), ht⟩) (fun q h => absurd h List.not_mem_nil) dX7_isOn_39
    · skip
      have nc_2 := zb_ne0.mp c_2
      refine lv_iload hx hb dX7_isOn_24 (lv_at hl 5 rfl) ?_
      refine lv_iload_n hx hb dX7_isOn_26 rfl (lv_at hl 1 rfl) ?_
      refine lv_iload_n hx hb dX7_isOn_27 rfl (lv_at hl 3 rfl) ?_
      have hPc := hP.sub (ws' := []) [] rfl
      refine u_callSi (W.runS (As := [.int y, .int ay, .int bey]) (rest := []) ⟨hx, hb, hml, hown, hts⟩ (c_X7_isBetween l D cI cB cZ cP y ay bey ) (cwS 3 hts gX7_isOn_X7_isBetween rfl rfl rfl (by decide +kernel) ⟨Nat.le_of_ble_eq_true rfl, Nat.le_of_ble_eq_true rfl⟩) (pS hPc hW0 trivial) rfl rfl hl.1 rfl (lv_room (Nat.le_of_ble_eq_true rfl)) dX7_isOn_28 ⟨Nat.le_of_ble_eq_true rfl, Nat.le_of_ble_eq_true rfl⟩) ?_
      refine lv_if_eq (tgt := 38) hx hb dX7_isOn_31 (by decide) (fun c_3 => ?_) (fun c_3 => ?_)
      · skip
        have nc_3 := zb_eq0.mp c_3
        refine lv_iconst (v := 0) hx hb dX7_isOn_38 (by decide) ?_
        rw [← hQ]
        exact W.zret (v := 0) hx hb hr (by decide) (fun t ht hW => ⟨_, rfl, (zb_f (by rintro ⟨h1, h2, h3, h4, h5⟩; first | exact c_1 (sgn_0.mpr h1) | exact nc_3 ⟨h2, h3⟩ | exact nc_3 ⟨h4, h5⟩)), ht⟩) (fun q h => absurd h List.not_mem_nil) dX7_isOn_39
      · skip
        have nc_3 := zb_ne0.mp c_3
        refine lv_iconst (v := 1) hx hb dX7_isOn_34 (by decide) ?_
        refine lv_goto (tgt := 39) hx hb dX7_isOn_35 (by decide) ?_
        rw [← hQ]
        exact W.zret (v := 1) hx hb hr (by decide) (fun t ht hW => ⟨_, rfl, (zb_t ⟨sgn_0.mp c_1, nc_2.1, nc_2.2, nc_3.1, nc_3.2⟩), ht⟩) (fun q h => absurd h List.not_mem_nil) dX7_isOn_39

set_option maxHeartbeats 4000000 in
set_option maxRecDepth 100000 in
theorem c_X7_isPlot (l : Launch) (D : va_G) (cI cB cZ cP : ClassId) (a : Nat → Nat) (v : Nat → Int32) (su sl : Int64) (F : Nat → Nat → Int32) (x : Int32) (k : Nat) (hk : k ≤ 6) (e1 : F 1 108 = nI k) : Met l yX7_isPlot wsX7_isPlot ({ frames := 1, cells := 0, slots := 0, locals := 22 } : Room) (va_Pc [.ref (a 0), .int x] (fun U => va_P D vwCl (MW cI cZ a v su sl F) U.heap ∧ KW D cI cB cZ cP U ∧ E0 U.heap)) (vp_Si (fun r => r = zb (0 ≤ x.toInt ∧ x.toInt < k))) 0 0 (fun _ => False) := by
  refine Met.ofW (cc := cX7_isPlot) (maxL := 2) (ret := (some .boolean)) (by decide) rfl ?_
  intro p e s m args below meth c s₁ B hml hv
  obtain ⟨rfl, hP, hW0, hE⟩ := hv
  have hx := B.exec
  have hb := B.bytes
  have hr := B.returns
  have hts := atoms_spec (ws := wsX7_isPlot) B.pre
  have hown : s.vm.findClass RX7 = some m.cls := findClass_of_methodNamed B.named
  have hlocks := B.notSynchronized
  have hK := hW0.1
  have hl := lv_entry ([.ref (a 0), .int x]) (n := 2) (Nat.le_of_ble_eq_true rfl)
  rw [lg_entry_eq]
  generalize (lg_sl ([.ref (a 0), .int x]) ++ List.replicate (2 - (lg_sl ([.ref (a 0), .int x])).length) Slot.unset).toArray = ls at hl ⊢
  have hl : lv_has ls 2 [(0, .ref (a 0)), (1, .int x)] := hl
  show W p l e ({ frames := 1, cells := 0, slots := 0, locals := 22 } : Room) s m ([.ref (a 0), .int x] : List Value).toArray below meth c s.heap [] 0 0 _ (F0 m 0 ls [])
  refine u_genQ (fun Q hQ => ?_)
  refine lv_iload_n hx hb dX7_isPlot_0 rfl (lv_at hl 1 rfl) ?_
  refine lv_iconst (v := 0) hx hb dX7_isPlot_1 (by decide) ?_
  refine lv_aload_n hx hb dX7_isPlot_2 rfl (lv_at hl 0 rfl) ?_
  refine va_get (D := D) (ci := 9) (v := .ref (a 1)) (C := RX7) (T := TX7) (N := 24) hx hb hts (by decide +kernel) hown hK hP 0 rfl rfl 0 (by decide) (hts (.fieldLink RX7 7 "LandDeedsModel" "state" "[I") (by decide +kernel)) (fun _ h9 => h9) rfl dX7_isPlot_3 ?_
  refine lv_bipush (v := 108) hx hb dX7_isPlot_6 (by decide) ?_
  refine u_iald hx hb hK hP 1 0 rfl rfl rfl ⟨by decide, by decide⟩ dX7_isPlot_8 ?_
  refine u_eqi (show (F 1) 108 = nI k from e1) ?_
  refine lv_iconst (v := 1) hx hb dX7_isPlot_9 (by decide) ?_
  refine lv_isub hx hb dX7_isPlot_10 ?_
  have hPc := hP.sub (ws' := []) [] rfl
  refine u_callSi (W.runS (As := [.int x, .int 0, .int ((nI k) - 1)]) (rest := []) ⟨hx, hb, hml, hown, hts⟩ (c_X7_in l D cI cB cZ cP x 0 ((nI k) - 1) ) (cwS 3 hts gX7_isPlot_X7_in rfl rfl rfl (by decide +kernel) ⟨Nat.le_of_ble_eq_true rfl, Nat.le_of_ble_eq_true rfl⟩) (pS hPc hW0 trivial) rfl rfl hl.1 rfl (lv_room (Nat.le_of_ble_eq_true rfl)) dX7_isPlot_11 ⟨Nat.le_of_ble_eq_true rfl, Nat.le_of_ble_eq_true rfl⟩) ?_
  rw [← hQ]
  exact W.zret (v := zb ((0 : Int32).toInt ≤ x.toInt ∧ x.toInt ≤ ((nI k) - 1).toInt)) hx hb hr (nar_zb _) (fun t ht hW => ⟨_, rfl, (zb_iff (by rw [tI_sub (by rw [nI_toInt (by omega), li_1]; omega) (by rw [nI_toInt (by omega), li_1]; omega), nI_toInt (by omega), li_1, li_0]; omega)), ht⟩) (fun q h => absurd h List.not_mem_nil) dX7_isPlot_14

set_option maxHeartbeats 4000000 in
set_option maxRecDepth 100000 in
theorem c_X7_next (l : Launch) (D : va_G) (cI cB cZ cP : ClassId) (a : Nat → Nat) (v : Nat → Int32) (su sl : Int64) (F : Nat → Nat → Int32) (nn : Nat) (X Y : Nat → Int32) (k : Nat) (hn8 : nn ≤ 8) (hk : k < nn) : Met l yX7_next wsX7_next ({ frames := 0, cells := 0, slots := 0, locals := 0 } : Room) (va_Pc [.ref (a 0), .int (nI k)] (fun U => va_P D vwCl (MW cI cZ a (upd v 7 (nI nn)) su sl (updF (updF F 7 X) 8 Y)) U.heap ∧ KW D cI cB cZ cP U ∧ E0 U.heap)) (vp_Si (fun r => r = nI (nxt nn k))) 0 0 (fun _ => False) := by
  refine Met.ofW (cc := cX7_next) (maxL := 2) (ret := (some .int)) (by decide) rfl ?_
  intro p e s m args below meth c s₁ B hml hv
  obtain ⟨rfl, hP, hW0, hE⟩ := hv
  have hx := B.exec
  have hb := B.bytes
  have hr := B.returns
  have hts := atoms_spec (ws := wsX7_next) B.pre
  have hown : s.vm.findClass RX7 = some m.cls := findClass_of_methodNamed B.named
  have hlocks := B.notSynchronized
  have hK := hW0.1
  have hl := lv_entry ([.ref (a 0), .int (nI k)]) (n := 2) (Nat.le_of_ble_eq_true rfl)
  rw [lg_entry_eq]
  generalize (lg_sl ([.ref (a 0), .int (nI k)]) ++ List.replicate (2 - (lg_sl ([.ref (a 0), .int (nI k)])).length) Slot.unset).toArray = ls at hl ⊢
  have hl : lv_has ls 2 [(0, .ref (a 0)), (1, .int (nI k))] := hl
  show W p l e ({ frames := 0, cells := 0, slots := 0, locals := 0 } : Room) s m ([.ref (a 0), .int (nI k)] : List Value).toArray below meth c s.heap [] 0 0 _ (F0 m 0 ls [])
  refine u_genQ (fun Q hQ => ?_)
  refine lv_iload_n hx hb dX7_next_0 rfl (lv_at hl 1 rfl) ?_
  refine lv_iconst (v := 1) hx hb dX7_next_1 (by decide) ?_
  refine lv_iadd hx hb dX7_next_2 ?_
  refine u_eqi (show (nI k) + 1 = nI (k + 1) from nI_1 k) ?_
  refine lv_aload_n hx hb dX7_next_3 rfl (lv_at hl 0 rfl) ?_
  refine va_get (D := D) (ci := 9) (v := .int (nI nn)) (C := RX7) (T := TX7) (N := 24) hx hb hts (by decide +kernel) hown hK hP 0 rfl rfl 7 (by decide) (hts (.fieldLink RX7 58 "LandDeedsModel" "calls" "I") (by decide +kernel)) (fun _ h9 => h9) rfl dX7_next_4 ?_
  refine lv_icmp_ne (tgt := 14) hx hb dX7_next_7 (by decide) (fun c_1 => ?_) (fun c_1 => ?_)
  · skip
    have nc_1 : ¬ (k + 1 = nn) := fun h => c_1 ((nI_eq (a := (k + 1)) (b := nn) (by omega) (by omega)).mpr h)
    refine lv_iload_n hx hb dX7_next_14 rfl (lv_at hl 1 rfl) ?_
    refine lv_iconst (v := 1) hx hb dX7_next_15 (by decide) ?_
    refine lv_iadd hx hb dX7_next_16 ?_
    refine u_eqi (show (nI k) + 1 = nI (k + 1) from nI_1 k) ?_
    rw [← hQ]
    exact W.iret (v := nI (k + 1)) hx hb hr (fun t ht hW => ⟨_, rfl, (by unfold nxt; rw [if_pos (by omega)]), ht⟩) (fun q h => absurd h List.not_mem_nil) dX7_next_17
  · skip
    have nc_1 : k + 1 = nn := (nI_eq (a := (k + 1)) (b := nn) (by omega) (by omega)).mp c_1
    refine lv_iconst (v := 0) hx hb dX7_next_10 (by decide) ?_
    refine lv_goto (tgt := 17) hx hb dX7_next_11 (by decide) ?_
    rw [← hQ]
    exact W.iret (v := 0) hx hb hr (fun t ht hW => ⟨_, rfl, (by unfold nxt; rw [if_neg (by omega)]; rfl), ht⟩) (fun q h => absurd h List.not_mem_nil) dX7_next_17

set_option maxHeartbeats 4000000 in
set_option maxRecDepth 100000 in
theorem c_X7_isOnSide (l : Launch) (D : va_G) (cI cB cZ cP : ClassId) (a : Nat → Nat) (v : Nat → Int32) (su sl : Int64) (F : Nat → Nat → Int32) (nn : Nat) (X Y : Nat → Int32) (k : Nat) (x y : Int32) (hn8 : nn ≤ 8) (hk : k < nn) : Met l yX7_isOnSide wsX7_isOnSide ({ frames := 3, cells := 0, slots := 0, locals := 69 } : Room) (va_Pc [.ref (a 0), .int (nI k), .int x, .int y] (fun U => va_P D vwCl (MW cI cZ a (upd v 7 (nI nn)) su sl (updF (updF F 7 X) 8 Y)) U.heap ∧ KW D cI cB cZ cP U ∧ E0 U.heap)) (vp_Si (fun r => r = zb (sdO nn X Y k x y))) 0 0 (fun _ => False) := by
  refine Met.ofW (cc := cX7_isOnSide) (maxL := 4) (ret := (some .boolean)) (by decide) rfl ?_
  intro p e s m args below meth c s₁ B hml hv
  obtain ⟨rfl, hP, hW0, hE⟩ := hv
  have hx := B.exec
  have hb := B.bytes
  have hr := B.returns
  have hts := atoms_spec (ws := wsX7_isOnSide) B.pre
  have hown : s.vm.findClass RX7 = some m.cls := findClass_of_methodNamed B.named
  have hlocks := B.notSynchronized
  have hK := hW0.1
  have hl := lv_entry ([.ref (a 0), .int (nI k), .int x, .int y]) (n := 4) (Nat.le_of_ble_eq_true rfl)
  rw [lg_entry_eq]
  generalize (lg_sl ([.ref (a 0), .int (nI k), .int x, .int y]) ++ List.replicate (4 - (lg_sl ([.ref (a 0), .int (nI k), .int x, .int y])).length) Slot.unset).toArray = ls at hl ⊢
  have hl : lv_has ls 4 [(0, .ref (a 0)), (1, .int (nI k)), (2, .int x), (3, .int y)] := hl
  show W p l e ({ frames := 3, cells := 0, slots := 0, locals := 69 } : Room) s m ([.ref (a 0), .int (nI k), .int x, .int y] : List Value).toArray below meth c s.heap [] 0 0 _ (F0 m 0 ls [])
  refine u_genQ (fun Q hQ => ?_)
  have hnx := nxt_lt hk
  refine lv_aload_n hx hb dX7_isOnSide_0 rfl (lv_at hl 0 rfl) ?_
  refine va_get (D := D) (ci := 9) (v := .ref (a 7)) (C := RX7) (T := TX7) (N := 24) hx hb hts (by decide +kernel) hown hK hP 0 rfl rfl 11 (by decide) (hts (.fieldLink RX7 29 "LandDeedsModel" "cx" "[I") (by decide +kernel)) (fun _ h9 => h9) rfl dX7_isOnSide_1 ?_
  refine lv_iload_n hx hb dX7_isOnSide_4 rfl (lv_at hl 1 rfl) ?_
  refine u_iald hx hb hK hP 7 0 rfl rfl rfl ⟨by omega, by omega⟩ dX7_isOnSide_5 ?_
  refine lv_aload_n hx hb dX7_isOnSide_6 rfl (lv_at hl 0 rfl) ?_
  refine va_get (D := D) (ci := 9) (v := .ref (a 8)) (C := RX7) (T := TX7) (N := 24) hx hb hts (by decide +kernel) hown hK hP 0 rfl rfl 12 (by decide) (hts (.fieldLink RX7 32 "LandDeedsModel" "cy" "[I") (by decide +kernel)) (fun _ h9 => h9) rfl dX7_isOnSide_7 ?_
  refine lv_iload_n hx hb dX7_isOnSide_10 rfl (lv_at hl 1 rfl) ?_
  refine u_iald hx hb hK hP 8 0 rfl rfl rfl ⟨by omega, by omega⟩ dX7_isOnSide_11 ?_
  refine lv_aload_n hx hb dX7_isOnSide_12 rfl (lv_at hl 0 rfl) ?_
  refine va_get (D := D) (ci := 9) (v := .ref (a 7)) (C := RX7) (T := TX7) (N := 24) hx hb hts (by decide +kernel) hown hK hP 0 rfl rfl 11 (by decide) (hts (.fieldLink RX7 29 "LandDeedsModel" "cx" "[I") (by decide +kernel)) (fun _ h9 => h9) rfl dX7_isOnSide_13 ?_
  refine lv_aload_n hx hb dX7_isOnSide_16 rfl (lv_at hl 0 rfl) ?_
  refine lv_iload_n hx hb dX7_isOnSide_17 rfl (lv_at hl 1 rfl) ?_
  have hPc := hP
  refine u_callSi (W.runV (As := [.int (nI k)]) (rest := [.ref (a 7), .int (Y k), .int (X k)]) ⟨hx, hb, hml, hown, hts⟩ (c_X7_next l D cI cB cZ cP a v su sl F nn X Y k (by first | assumption | omega) (by first | assumption | omega)) (cwV 1 hts gX7_isOnSide_X7_next rfl rfl rfl (by decide +kernel) ⟨Nat.le_of_ble_eq_true rfl, Nat.le_of_ble_eq_true rfl⟩) (pV (q0 := 0) hPc hW0 trivial rfl rfl) rfl rfl hl.1 rfl (lv_room (Nat.le_of_ble_eq_true rfl)) dX7_isOnSide_18 ⟨Nat.le_of_ble_eq_true rfl, Nat.le_of_ble_eq_true rfl⟩) ?_
  refine u_iald hx hb hK hP 7 0 rfl rfl rfl ⟨by omega, by omega⟩ dX7_isOnSide_21 ?_
  refine lv_aload_n hx hb dX7_isOnSide_22 rfl (lv_at hl 0 rfl) ?_
  refine va_get (D := D) (ci := 9) (v := .ref (a 8)) (C := RX7) (T := TX7) (N := 24) hx hb hts (by decide +kernel) hown hK hP 0 rfl rfl 12 (by decide) (hts (.fieldLink RX7 32 "LandDeedsModel" "cy" "[I") (by decide +kernel)) (fun _ h9 => h9) rfl dX7_isOnSide_23 ?_
  refine lv_aload_n hx hb dX7_isOnSide_26 rfl (lv_at hl 0 rfl) ?_
  refine lv_iload_n hx hb dX7_isOnSide_27 rfl (lv_at hl 1 rfl) ?_
  have hPc := hP
  refine u_callSi (W.runV (As := [.int (nI k)]) (rest := [.ref (a 8), .int (X (nxt nn k)), .int (Y k), .int (X k)]) ⟨hx, hb, hml, hown, hts⟩ (c_X7_next l D cI cB cZ cP a v su sl F nn X Y k (by first | assumption | omega) (by first | assumption | omega)) (cwV 1 hts gX7_isOnSide_X7_next rfl rfl rfl (by decide +kernel) ⟨Nat.le_of_ble_eq_true rfl, Nat.le_of_ble_eq_true rfl⟩) (pV (q0 := 0) hPc hW0 trivial rfl rfl) rfl rfl hl.1 rfl (lv_room (Nat.le_of_ble_eq_true rfl)) dX7_isOnSide_28 ⟨Nat.le_of_ble_eq_true rfl, Nat.le_of_ble_eq_true rfl⟩) ?_
  refine u_iald hx hb hK hP 8 0 rfl rfl rfl ⟨by omega, by omega⟩ dX7_isOnSide_31 ?_
  refine lv_iload_n hx hb dX7_isOnSide_32 rfl (lv_at hl 2 rfl) ?_
  refine lv_iload_n hx hb dX7_isOnSide_33 rfl (lv_at hl 3 rfl) ?_
  have hPc := hP.sub (ws' := []) [] rfl
  refine u_callSi (W.runS (As := [.int (X k), .int (Y k), .int (X (nxt nn k)), .int (Y (nxt nn k)), .int x, .int y]) (rest := []) ⟨hx, hb, hml, hown, hts⟩ (c_X7_isOn l D cI cB cZ cP (X k) (Y k) (X (nxt nn k)) (Y (nxt nn k)) x y ) (cwS 6 hts gX7_isOnSide_X7_isOn rfl rfl rfl (by decide +kernel) ⟨Nat.le_of_ble_eq_true rfl, Nat.le_of_ble_eq_true rfl⟩) (pS hPc hW0 trivial) rfl rfl hl.1 rfl (lv_room (Nat.le_of_ble_eq_true rfl)) dX7_isOnSide_34 ⟨Nat.le_of_ble_eq_true rfl, Nat.le_of_ble_eq_true rfl⟩) ?_
  rw [← hQ]
  exact W.zret (v := zb (onS (X k) (Y k) (X (nxt nn k)) (Y (nxt nn k)) x y)) hx hb hr (nar_zb _) (fun t ht hW => ⟨_, rfl, rfl, ht⟩) (fun q h => absurd h List.not_mem_nil) dX7_isOnSide_37

set_option maxHeartbeats 4000000 in
set_option maxRecDepth 100000 in
theorem c_X7_turnOf (l : Launch) (D : va_G) (cI cB cZ cP : ClassId) (a : Nat → Nat) (v : Nat → Int32) (su sl : Int64) (F : Nat → Nat → Int32) (nn : Nat) (X Y : Nat → Int32) (k : Nat) (x y : Int32) (hn8 : nn ≤ 8) (hk : k < nn) : Met l yX7_turnOf wsX7_turnOf ({ frames := 1, cells := 0, slots := 0, locals := 26 } : Room) (va_Pc [.ref (a 0), .int (nI k), .int x, .int y] (fun U => va_P D vwCl (MW cI cZ a (upd v 7 (nI nn)) su sl (updF (updF F 7 X) 8 Y)) U.heap ∧ KW D cI cB cZ cP U ∧ E0 U.heap)) (vp_Si (fun r => r = sgn (sdT nn X Y k x y))) 0 0 (fun _ => False) := by
  refine Met.ofW (cc := cX7_turnOf) (maxL := 4) (ret := (some .int)) (by decide) rfl ?_
  intro p e s m args below meth c s₁ B hml hv
  obtain ⟨rfl, hP, hW0, hE⟩ := hv
  have hx := B.exec
  have hb := B.bytes
  have hr := B.returns
  have hts := atoms_spec (ws := wsX7_turnOf) B.pre
  have hown : s.vm.findClass RX7 = some m.cls := findClass_of_methodNamed B.named
  have hlocks := B.notSynchronized
  have hK := hW0.1
  have hl := lv_entry ([.ref (a 0), .int (nI k), .int x, .int y]) (n := 4) (Nat.le_of_ble_eq_true rfl)
  rw [lg_entry_eq]
  generalize (lg_sl ([.ref (a 0), .int (nI k), .int x, .int y]) ++ List.replicate (4 - (lg_sl ([.ref (a 0), .int (nI k), .int x, .int y])).length) Slot.unset).toArray = ls at hl ⊢
  have hl : lv_has ls 4 [(0, .ref (a 0)), (1, .int (nI k)), (2, .int x), (3, .int y)] := hl
  show W p l e ({ frames := 1, cells := 0, slots := 0, locals := 26 } : Room) s m ([.ref (a 0), .int (nI k), .int x, .int y] : List Value).toArray below meth c s.heap [] 0 0 _ (F0 m 0 ls [])
  refine u_genQ (fun Q hQ => ?_)
  have hnx := nxt_lt hk
  refine lv_aload_n hx hb dX7_turnOf_0 rfl (lv_at hl 0 rfl) ?_
  refine va_get (D := D) (ci := 9) (v := .ref (a 7)) (C := RX7) (T := TX7) (N := 24) hx hb hts (by decide +kernel) hown hK hP 0 rfl rfl 11 (by decide) (hts (.fieldLink RX7 29 "LandDeedsModel" "cx" "[I") (by decide +kernel)) (fun _ h9 => h9) rfl dX7_turnOf_1 ?_
  refine lv_iload_n hx hb dX7_turnOf_4 rfl (lv_at hl 1 rfl) ?_
  refine u_iald hx hb hK hP 7 0 rfl rfl rfl ⟨by omega, by omega⟩ dX7_turnOf_5 ?_
  refine lv_aload_n hx hb dX7_turnOf_6 rfl (lv_at hl 0 rfl) ?_
  refine va_get (D := D) (ci := 9) (v := .ref (a 8)) (C := RX7) (T := TX7) (N := 24) hx hb hts (by decide +kernel) hown hK hP 0 rfl rfl 12 (by decide) (hts (.fieldLink RX7 32 "LandDeedsModel" "cy" "[I") (by decide +kernel)) (fun _ h9 => h9) rfl dX7_turnOf_7 ?_
  refine lv_iload_n hx hb dX7_turnOf_10 rfl (lv_at hl 1 rfl) ?_
  refine u_iald hx hb hK hP 8 0 rfl rfl rfl ⟨by omega, by omega⟩ dX7_turnOf_11 ?_
  refine lv_aload_n hx hb dX7_turnOf_12 rfl (lv_at hl 0 rfl) ?_
  refine va_get (D := D) (ci := 9) (v := .ref (a 7)) (C := RX7) (T := TX7) (N := 24) hx hb hts (by decide +kernel) hown hK hP 0 rfl rfl 11 (by decide) (hts (.fieldLink RX7 29 "LandDeedsModel" "cx" "[I") (by decide +kernel)) (fun _ h9 => h9) rfl dX7_turnOf_13 ?_
  refine lv_aload_n hx hb dX7_turnOf_16 rfl (lv_at hl 0 rfl) ?_
  refine lv_iload_n hx hb dX7_turnOf_17 rfl (lv_at hl 1 rfl) ?_
  have hPc := hP
  refine u_callSi (W.runV (As := [.int (nI k)]) (rest := [.ref (a 7), .int (Y k), .int (X k)]) ⟨hx, hb, hml, hown, hts⟩ (c_X7_next l D cI cB cZ cP a v su sl F nn X Y k (by first | assumption | omega) (by first | assumption | omega)) (cwV 1 hts gX7_turnOf_X7_next rfl rfl rfl (by decide +kernel) ⟨Nat.le_of_ble_eq_true rfl, Nat.le_of_ble_eq_true rfl⟩) (pV (q0 := 0) hPc hW0 trivial rfl rfl) rfl rfl hl.1 rfl (lv_room (Nat.le_of_ble_eq_true rfl)) dX7_turnOf_18 ⟨Nat.le_of_ble_eq_true rfl, Nat.le_of_ble_eq_true rfl⟩) ?_
  refine u_iald hx hb hK hP 7 0 rfl rfl rfl ⟨by omega, by omega⟩ dX7_turnOf_21 ?_
  refine lv_aload_n hx hb dX7_turnOf_22 rfl (lv_at hl 0 rfl) ?_
  refine va_get (D := D) (ci := 9) (v := .ref (a 8)) (C := RX7) (T := TX7) (N := 24) hx hb hts (by decide +kernel) hown hK hP 0 rfl rfl 12 (by decide) (hts (.fieldLink RX7 32 "LandDeedsModel" "cy" "[I") (by decide +kernel)) (fun _ h9 => h9) rfl dX7_turnOf_23 ?_
  refine lv_aload_n hx hb dX7_turnOf_26 rfl (lv_at hl 0 rfl) ?_
  refine lv_iload_n hx hb dX7_turnOf_27 rfl (lv_at hl 1 rfl) ?_
  have hPc := hP
  refine u_callSi (W.runV (As := [.int (nI k)]) (rest := [.ref (a 8), .int (X (nxt nn k)), .int (Y k), .int (X k)]) ⟨hx, hb, hml, hown, hts⟩ (c_X7_next l D cI cB cZ cP a v su sl F nn X Y k (by first | assumption | omega) (by first | assumption | omega)) (cwV 1 hts gX7_turnOf_X7_next rfl rfl rfl (by decide +kernel) ⟨Nat.le_of_ble_eq_true rfl, Nat.le_of_ble_eq_true rfl⟩) (pV (q0 := 0) hPc hW0 trivial rfl rfl) rfl rfl hl.1 rfl (lv_room (Nat.le_of_ble_eq_true rfl)) dX7_turnOf_28 ⟨Nat.le_of_ble_eq_true rfl, Nat.le_of_ble_eq_true rfl⟩) ?_
  refine u_iald hx hb hK hP 8 0 rfl rfl rfl ⟨by omega, by omega⟩ dX7_turnOf_31 ?_
  refine lv_iload_n hx hb dX7_turnOf_32 rfl (lv_at hl 2 rfl) ?_
  refine lv_iload_n hx hb dX7_turnOf_33 rfl (lv_at hl 3 rfl) ?_
  have hPc := hP.sub (ws' := []) [] rfl
  refine u_callSi (W.runS (As := [.int (X k), .int (Y k), .int (X (nxt nn k)), .int (Y (nxt nn k)), .int x, .int y]) (rest := []) ⟨hx, hb, hml, hown, hts⟩ (c_X7_turn l D cI cB cZ cP (X k) (Y k) (X (nxt nn k)) (Y (nxt nn k)) x y ) (cwS 6 hts gX7_turnOf_X7_turn rfl rfl rfl (by decide +kernel) ⟨Nat.le_of_ble_eq_true rfl, Nat.le_of_ble_eq_true rfl⟩) (pS hPc hW0 trivial) rfl rfl hl.1 rfl (lv_room (Nat.le_of_ble_eq_true rfl)) dX7_turnOf_34 ⟨Nat.le_of_ble_eq_true rfl, Nat.le_of_ble_eq_true rfl⟩) ?_
  rw [← hQ]
  exact W.iret (v := sgn (tn (X k) (Y k) (X (nxt nn k)) (Y (nxt nn k)) x y)) hx hb hr (fun t ht hW => ⟨_, rfl, rfl, ht⟩) (fun q h => absurd h List.not_mem_nil) dX7_turnOf_37

set_option maxHeartbeats 4000000 in
set_option maxRecDepth 100000 in
theorem c_X7_meet (l : Launch) (D : va_G) (cI cB cZ cP : ClassId) (a : Nat → Nat) (v : Nat → Int32) (su sl : Int64) (F : Nat → Nat → Int32) (nn : Nat) (X Y : Nat → Int32) (k j : Nat) (hn8 : nn ≤ 8) (hk : k < nn) (hj : j < nn) (hp : ∀ z, z < nn → isP (X z) (Y z)) : Met l yX7_meet wsX7_meet ({ frames := 4, cells := 0, slots := 0, locals := 92 } : Room) (va_Pc [.ref (a 0), .int (nI k), .int (nI j)] (fun U => va_P D vwCl (MW cI cZ a (upd v 7 (nI nn)) su sl (updF (updF F 7 X) 8 Y)) U.heap ∧ KW D cI cB cZ cP U ∧ E0 U.heap)) (vp_Si (fun r => r = zb (tch nn X Y k j))) 0 0 (fun _ => False) := by
  refine Met.ofW (cc := cX7_meet) (maxL := 3) (ret := (some .boolean)) (by decide) rfl ?_
  intro p e s m args below meth c s₁ B hml hv
  obtain ⟨rfl, hP, hW0, hE⟩ := hv
  have hx := B.exec
  have hb := B.bytes
  have hr := B.returns
  have hts := atoms_spec (ws := wsX7_meet) B.pre
  have hown : s.vm.findClass RX7 = some m.cls := findClass_of_methodNamed B.named
  have hlocks := B.notSynchronized
  have hK := hW0.1
  have hl := lv_entry ([.ref (a 0), .int (nI k), .int (nI j)]) (n := 3) (Nat.le_of_ble_eq_true rfl)
  rw [lg_entry_eq]
  generalize (lg_sl ([.ref (a 0), .int (nI k), .int (nI j)]) ++ List.replicate (3 - (lg_sl ([.ref (a 0), .int (nI k), .int (nI j)])).length) Slot.unset).toArray = ls at hl ⊢
  have hl : lv_has ls 3 [(0, .ref (a 0)), (1, .int (nI k)), (2, .int (nI j))] := hl
  show W p l e ({ frames := 4, cells := 0, slots := 0, locals := 92 } : Room) s m ([.ref (a 0), .int (nI k), .int (nI j)] : List Value).toArray below meth c s.heap [] 0 0 _ (F0 m 0 ls [])
  refine u_genQ (fun Q hQ => ?_)
  have hnx := nxt_lt hk
  have hnj := nxt_lt hj
  refine lv_aload_n hx hb dX7_meet_0 rfl (lv_at hl 0 rfl) ?_
  refine lv_iload_n hx hb dX7_meet_1 rfl (lv_at hl 1 rfl) ?_
  refine lv_aload_n hx hb dX7_meet_2 rfl (lv_at hl 0 rfl) ?_
  refine va_get (D := D) (ci := 9) (v := .ref (a 7)) (C := RX7) (T := TX7) (N := 24) hx hb hts (by decide +kernel) hown hK hP 0 rfl rfl 11 (by decide) (hts (.fieldLink RX7 29 "LandDeedsModel" "cx" "[I") (by decide +kernel)) (fun _ h9 => h9) rfl dX7_meet_3 ?_
  refine lv_iload_n hx hb dX7_meet_6 rfl (lv_at hl 2 rfl) ?_
  refine u_iald hx hb hK hP 7 0 rfl rfl rfl ⟨by omega, by omega⟩ dX7_meet_7 ?_
  refine lv_aload_n hx hb dX7_meet_8 rfl (lv_at hl 0 rfl) ?_
  refine va_get (D := D) (ci := 9) (v := .ref (a 8)) (C := RX7) (T := TX7) (N := 24) hx hb hts (by decide +kernel) hown hK hP 0 rfl rfl 12 (by decide) (hts (.fieldLink RX7 32 "LandDeedsModel" "cy" "[I") (by decide +kernel)) (fun _ h9 => h9) rfl dX7_meet_9 ?_
  refine lv_iload_n hx hb dX7_meet_12 rfl (lv_at hl 2 rfl) ?_
  refine u_iald hx hb hK hP 8 0 rfl rfl rfl ⟨by omega, by omega⟩ dX7_meet_13 ?_
  have hPc := hP
  refine u_callSi (W.runV (As := [.int (nI k), .int (X j), .int (Y j)]) (rest := []) ⟨hx, hb, hml, hown, hts⟩ (c_X7_isOnSide l D cI cB cZ cP a v su sl F nn X Y k (X j) (Y j) (by first | assumption | omega) (by first | assumption | omega)) (cwV 3 hts gX7_meet_X7_isOnSide rfl rfl rfl (by decide +kernel) ⟨Nat.le_of_ble_eq_true rfl, Nat.le_of_ble_eq_true rfl⟩) (pV (q0 := 0) hPc hW0 trivial rfl rfl) rfl rfl hl.1 rfl (lv_room (Nat.le_of_ble_eq_true rfl)) dX7_meet_14 ⟨Nat.le_of_ble_eq_true rfl, Nat.le_of_ble_eq_true rfl⟩) ?_
  refine lv_if_ne (tgt := 96) hx hb dX7_meet_17 (by decide) (fun c_1 => ?_) (fun c_1 => ?_)
  · skip
    have nc_1 := zb_ne0.mp c_1
    refine lv_iconst (v := 1) hx hb dX7_meet_96 (by decide) ?_
    rw [← hQ]
    exact W.zret (v := 1) hx hb hr (by decide) (fun t ht hW => ⟨_, rfl, (zb_t (by unfold tch; simp only [*, true_or, or_true, not_false_eq_true, and_self])), ht⟩) (fun q h => absurd h List.not_mem_nil) dX7_meet_97
  · skip
    have nc_1 := zb_eq0.mp c_1
    refine lv_aload_n hx hb dX7_meet_20 rfl (lv_at hl 0 rfl) ?_
    refine lv_iload_n hx hb dX7_meet_21 rfl (lv_at hl 1 rfl) ?_
    refine lv_aload_n hx hb dX7_meet_22 rfl (lv_at hl 0 rfl) ?_
    refine va_get (D := D) (ci := 9) (v := .ref (a 7)) (C := RX7) (T := TX7) (N := 24) hx hb hts (by decide +kernel) hown hK hP 0 rfl rfl 11 (by decide) (hts (.fieldLink RX7 29 "LandDeedsModel" "cx" "[I") (by decide +kernel)) (fun _ h9 => h9) rfl dX7_meet_23 ?_
    refine lv_aload_n hx hb dX7_meet_26 rfl (lv_at hl 0 rfl) ?_
    refine lv_iload_n hx hb dX7_meet_27 rfl (lv_at hl 2 rfl) ?_
    have hPc := hP
    refine u_callSi (W.runV (As := [.int (nI j)]) (rest := [.ref (a 7), .int (nI k), .ref (a 0)]) ⟨hx, hb, hml, hown, hts⟩ (c_X7_next l D cI cB cZ cP a v su sl F nn X Y j (by first | assumption | omega) (by first | assumption | omega)) (cwV 1 hts gX7_meet_X7_next rfl rfl rfl (by decide +kernel) ⟨Nat.le_of_ble_eq_true rfl, Nat.le_of_ble_eq_true rfl⟩) (pV (q0 := 0) hPc hW0 trivial rfl rfl) rfl rfl hl.1 rfl (lv_room (Nat.le_of_ble_eq_true rfl)) dX7_meet_28 ⟨Nat.le_of_ble_eq_true rfl, Nat.le_of_ble_eq_true rfl⟩) ?_
    refine u_iald hx hb hK hP 7 0 rfl rfl rfl ⟨by omega, by omega⟩ dX7_meet_31 ?_
    refine lv_aload_n hx hb dX7_meet_32 rfl (lv_at hl 0 rfl) ?_
    refine va_get (D := D) (ci := 9) (v := .ref (a 8)) (C := RX7) (T := TX7) (N := 24) hx hb hts (by decide +kernel) hown hK hP 0 rfl rfl 12 (by decide) (hts (.fieldLink RX7 32 "LandDeedsModel" "cy" "[I") (by decide +kernel)) (fun _ h9 => h9) rfl dX7_meet_33 ?_
    refine lv_aload_n hx hb dX7_meet_36 rfl (lv_at hl 0 rfl) ?_
    refine lv_iload_n hx hb dX7_meet_37 rfl (lv_at hl 2 rfl) ?_
    have hPc := hP
    refine u_callSi (W.runV (As := [.int (nI j)]) (rest := [.ref (a 8), .int (X (nxt nn j)), .int (nI k), .ref (a 0)]) ⟨hx, hb, hml, hown, hts⟩ (c_X7_next l D cI cB cZ cP a v su sl F nn X Y j (by first | assumption | omega) (by first | assumption | omega)) (cwV 1 hts gX7_meet_X7_next rfl rfl rfl (by decide +kernel) ⟨Nat.le_of_ble_eq_true rfl, Nat.le_of_ble_eq_true rfl⟩) (pV (q0 := 0) hPc hW0 trivial rfl rfl) rfl rfl hl.1 rfl (lv_room (Nat.le_of_ble_eq_true rfl)) dX7_meet_38 ⟨Nat.le_of_ble_eq_true rfl, Nat.le_of_ble_eq_true rfl⟩) ?_
    refine u_iald hx hb hK hP 8 0 rfl rfl rfl ⟨by omega, by omega⟩ dX7_meet_41 ?_
    have hPc := hP
    refine u_callSi (W.runV (As := [.int (nI k), .int (X (nxt nn j)), .int (Y (nxt nn j))]) (rest := []) ⟨hx, hb, hml, hown, hts⟩ (c_X7_isOnSide l D cI cB cZ cP a v su sl F nn X Y k (X (nxt nn j)) (Y (nxt nn j)) (by first | assumption | omega) (by first | assumption | omega)) (cwV 3 hts gX7_meet_X7_isOnSide rfl rfl rfl (by decide +kernel) ⟨Nat.le_of_ble_eq_true rfl, Nat.le_of_ble_eq_true rfl⟩) (pV (q0 := 0) hPc hW0 trivial rfl rfl) rfl rfl hl.1 rfl (lv_room (Nat.le_of_ble_eq_true rfl)) dX7_meet_42 ⟨Nat.le_of_ble_eq_true rfl, Nat.le_of_ble_eq_true rfl⟩) ?_
    refine lv_if_ne (tgt := 96) hx hb dX7_meet_45 (by decide) (fun c_2 => ?_) (fun c_2 => ?_)
    · skip
      have nc_2 := zb_ne0.mp c_2
      refine lv_iconst (v := 1) hx hb dX7_meet_96 (by decide) ?_
      rw [← hQ]
      exact W.zret (v := 1) hx hb hr (by decide) (fun t ht hW => ⟨_, rfl, (zb_t (by unfold tch; simp only [*, true_or, or_true, not_false_eq_true, and_self])), ht⟩) (fun q h => absurd h List.not_mem_nil) dX7_meet_97
    · skip
      have nc_2 := zb_eq0.mp c_2
      refine lv_aload_n hx hb dX7_meet_48 rfl (lv_at hl 0 rfl) ?_
      refine lv_iload_n hx hb dX7_meet_49 rfl (lv_at hl 2 rfl) ?_
      refine lv_aload_n hx hb dX7_meet_50 rfl (lv_at hl 0 rfl) ?_
      refine va_get (D := D) (ci := 9) (v := .ref (a 7)) (C := RX7) (T := TX7) (N := 24) hx hb hts (by decide +kernel) hown hK hP 0 rfl rfl 11 (by decide) (hts (.fieldLink RX7 29 "LandDeedsModel" "cx" "[I") (by decide +kernel)) (fun _ h9 => h9) rfl dX7_meet_51 ?_
      refine lv_iload_n hx hb dX7_meet_54 rfl (lv_at hl 1 rfl) ?_
      refine u_iald hx hb hK hP 7 0 rfl rfl rfl ⟨by omega, by omega⟩ dX7_meet_55 ?_
      refine lv_aload_n hx hb dX7_meet_56 rfl (lv_at hl 0 rfl) ?_
      refine va_get (D := D) (ci := 9) (v := .ref (a 8)) (C := RX7) (T := TX7) (N := 24) hx hb hts (by decide +kernel) hown hK hP 0 rfl rfl 12 (by decide) (hts (.fieldLink RX7 32 "LandDeedsModel" "cy" "[I") (by decide +kernel)) (fun _ h9 => h9) rfl dX7_meet_57 ?_
      refine lv_iload_n hx hb dX7_meet_60 rfl (lv_at hl 1 rfl) ?_
      refine u_iald hx hb hK hP 8 0 rfl rfl rfl ⟨by omega, by omega⟩ dX7_meet_61 ?_
      have hPc := hP
      refine u_callSi (W.runV (As := [.int (nI j), .int (X k), .int (Y k)]) (rest := []) ⟨hx, hb, hml, hown, hts⟩ (c_X7_isOnSide l D cI cB cZ cP a v su sl F nn X Y j (X k) (Y k) (by first | assumption | omega) (by first | assumption | omega)) (cwV 3 hts gX7_meet_X7_isOnSide rfl rfl rfl (by decide +kernel) ⟨Nat.le_of_ble_eq_true rfl, Nat.le_of_ble_eq_true rfl⟩) (pV (q0 := 0) hPc hW0 trivial rfl rfl) rfl rfl hl.1 rfl (lv_room (Nat.le_of_ble_eq_true rfl)) dX7_meet_62 ⟨Nat.le_of_ble_eq_true rfl, Nat.le_of_ble_eq_true rfl⟩) ?_
      refine lv_if_ne (tgt := 96) hx hb dX7_meet_65 (by decide) (fun c_3 => ?_) (fun c_3 => ?_)
      · skip
        have nc_3 := zb_ne0.mp c_3
        refine lv_iconst (v := 1) hx hb dX7_meet_96 (by decide) ?_
        rw [← hQ]
        exact W.zret (v := 1) hx hb hr (by decide) (fun t ht hW => ⟨_, rfl, (zb_t (by unfold tch; simp only [*, true_or, or_true, not_false_eq_true, and_self])), ht⟩) (fun q h => absurd h List.not_mem_nil) dX7_meet_97
      · skip
        have nc_3 := zb_eq0.mp c_3
        refine lv_aload_n hx hb dX7_meet_68 rfl (lv_at hl 0 rfl) ?_
        refine lv_iload_n hx hb dX7_meet_69 rfl (lv_at hl 2 rfl) ?_
        refine lv_aload_n hx hb dX7_meet_70 rfl (lv_at hl 0 rfl) ?_
        refine va_get (D := D) (ci := 9) (v := .ref (a 7)) (C := RX7) (T := TX7) (N := 24) hx hb hts (by decide +kernel) hown hK hP 0 rfl rfl 11 (by decide) (hts (.fieldLink RX7 29 "LandDeedsModel" "cx" "[I") (by decide +kernel)) (fun _ h9 => h9) rfl dX7_meet_71 ?_
        refine lv_aload_n hx hb dX7_meet_74 rfl (lv_at hl 0 rfl) ?_
        refine lv_iload_n hx hb dX7_meet_75 rfl (lv_at hl 1 rfl) ?_
        have hPc := hP
        refine u_callSi (W.runV (As := [.int (nI k)]) (rest := [.ref (a 7), .int (nI j), .ref (a 0)]) ⟨hx, hb, hml, hown, hts⟩ (c_X7_next l D cI cB cZ cP a v su sl F nn X Y k (by first | assumption | omega) (by first | assumption | omega)) (cwV 1 hts gX7_meet_X7_next rfl rfl rfl (by decide +kernel) ⟨Nat.le_of_ble_eq_true rfl, Nat.le_of_ble_eq_true rfl⟩) (pV (q0 := 0) hPc hW0 trivial rfl rfl) rfl rfl hl.1 rfl (lv_room (Nat.le_of_ble_eq_true rfl)) dX7_meet_76 ⟨Nat.le_of_ble_eq_true rfl, Nat.le_of_ble_eq_true rfl⟩) ?_
        refine u_iald hx hb hK hP 7 0 rfl rfl rfl ⟨by omega, by omega⟩ dX7_meet_79 ?_
        refine lv_aload_n hx hb dX7_meet_80 rfl (lv_at hl 0 rfl) ?_
        refine va_get (D := D) (ci := 9) (v := .ref (a 8)) (C := RX7) (T := TX7) (N := 24) hx hb hts (by decide +kernel) hown hK hP 0 rfl rfl 12 (by decide) (hts (.fieldLink RX7 32 "LandDeedsModel" "cy" "[I") (by decide +kernel)) (fun _ h9 => h9) rfl dX7_meet_81 ?_
        refine lv_aload_n hx hb dX7_meet_84 rfl (lv_at hl 0 rfl) ?_
        refine lv_iload_n hx hb dX7_meet_85 rfl (lv_at hl 1 rfl) ?_
        have hPc := hP
        refine u_callSi (W.runV (As := [.int (nI k)]) (rest := [.ref (a 8), .int (X (nxt nn k)), .int (nI j), .ref (a 0)]) ⟨hx, hb, hml, hown, hts⟩ (c_X7_next l D cI cB cZ cP a v su sl F nn X Y k (by first | assumption | omega) (by first | assumption | omega)) (cwV 1 hts gX7_meet_X7_next rfl rfl rfl (by decide +kernel) ⟨Nat.le_of_ble_eq_true rfl, Nat.le_of_ble_eq_true rfl⟩) (pV (q0 := 0) hPc hW0 trivial rfl rfl) rfl rfl hl.1 rfl (lv_room (Nat.le_of_ble_eq_true rfl)) dX7_meet_86 ⟨Nat.le_of_ble_eq_true rfl, Nat.le_of_ble_eq_true rfl⟩) ?_
        refine u_iald hx hb hK hP 8 0 rfl rfl rfl ⟨by omega, by omega⟩ dX7_meet_89 ?_
        have hPc := hP
        refine u_callSi (W.runV (As := [.int (nI j), .int (X (nxt nn k)), .int (Y (nxt nn k))]) (rest := []) ⟨hx, hb, hml, hown, hts⟩ (c_X7_isOnSide l D cI cB cZ cP a v su sl F nn X Y j (X (nxt nn k)) (Y (nxt nn k)) (by first | assumption | omega) (by first | assumption | omega)) (cwV 3 hts gX7_meet_X7_isOnSide rfl rfl rfl (by decide +kernel) ⟨Nat.le_of_ble_eq_true rfl, Nat.le_of_ble_eq_true rfl⟩) (pV (q0 := 0) hPc hW0 trivial rfl rfl) rfl rfl hl.1 rfl (lv_room (Nat.le_of_ble_eq_true rfl)) dX7_meet_90 ⟨Nat.le_of_ble_eq_true rfl, Nat.le_of_ble_eq_true rfl⟩) ?_
        refine lv_if_eq (tgt := 98) hx hb dX7_meet_93 (by decide) (fun c_4 => ?_) (fun c_4 => ?_)
        · skip
          have nc_4 := zb_eq0.mp c_4
          refine lv_aload_n hx hb dX7_meet_98 rfl (lv_at hl 0 rfl) ?_
          refine lv_iload_n hx hb dX7_meet_99 rfl (lv_at hl 1 rfl) ?_
          refine lv_aload_n hx hb dX7_meet_100 rfl (lv_at hl 0 rfl) ?_
          refine va_get (D := D) (ci := 9) (v := .ref (a 7)) (C := RX7) (T := TX7) (N := 24) hx hb hts (by decide +kernel) hown hK hP 0 rfl rfl 11 (by decide) (hts (.fieldLink RX7 29 "LandDeedsModel" "cx" "[I") (by decide +kernel)) (fun _ h9 => h9) rfl dX7_meet_101 ?_
          refine lv_iload_n hx hb dX7_meet_104 rfl (lv_at hl 2 rfl) ?_
          refine u_iald hx hb hK hP 7 0 rfl rfl rfl ⟨by omega, by omega⟩ dX7_meet_105 ?_
          refine lv_aload_n hx hb dX7_meet_106 rfl (lv_at hl 0 rfl) ?_
          refine va_get (D := D) (ci := 9) (v := .ref (a 8)) (C := RX7) (T := TX7) (N := 24) hx hb hts (by decide +kernel) hown hK hP 0 rfl rfl 12 (by decide) (hts (.fieldLink RX7 32 "LandDeedsModel" "cy" "[I") (by decide +kernel)) (fun _ h9 => h9) rfl dX7_meet_107 ?_
          refine lv_iload_n hx hb dX7_meet_110 rfl (lv_at hl 2 rfl) ?_
          refine u_iald hx hb hK hP 8 0 rfl rfl rfl ⟨by omega, by omega⟩ dX7_meet_111 ?_
          have hPc := hP
          refine u_callSi (W.runV (As := [.int (nI k), .int (X j), .int (Y j)]) (rest := []) ⟨hx, hb, hml, hown, hts⟩ (c_X7_turnOf l D cI cB cZ cP a v su sl F nn X Y k (X j) (Y j) (by first | assumption | omega) (by first | assumption | omega)) (cwV 3 hts gX7_meet_X7_turnOf rfl rfl rfl (by decide +kernel) ⟨Nat.le_of_ble_eq_true rfl, Nat.le_of_ble_eq_true rfl⟩) (pV (q0 := 0) hPc hW0 trivial rfl rfl) rfl rfl hl.1 rfl (lv_room (Nat.le_of_ble_eq_true rfl)) dX7_meet_112 ⟨Nat.le_of_ble_eq_true rfl, Nat.le_of_ble_eq_true rfl⟩) ?_
          refine lv_aload_n hx hb dX7_meet_115 rfl (lv_at hl 0 rfl) ?_
          refine lv_iload_n hx hb dX7_meet_116 rfl (lv_at hl 1 rfl) ?_
          refine lv_aload_n hx hb dX7_meet_117 rfl (lv_at hl 0 rfl) ?_
          refine va_get (D := D) (ci := 9) (v := .ref (a 7)) (C := RX7) (T := TX7) (N := 24) hx hb hts (by decide +kernel) hown hK hP 0 rfl rfl 11 (by decide) (hts (.fieldLink RX7 29 "LandDeedsModel" "cx" "[I") (by decide +kernel)) (fun _ h9 => h9) rfl dX7_meet_118 ?_
          refine lv_aload_n hx hb dX7_meet_121 rfl (lv_at hl 0 rfl) ?_
          refine lv_iload_n hx hb dX7_meet_122 rfl (lv_at hl 2 rfl) ?_
          have hPc := hP
          refine u_callSi (W.runV (As := [.int (nI j)]) (rest := [.ref (a 7), .int (nI k), .ref (a 0), .int (sgn (sdT nn X Y k (X j) (Y j)))]) ⟨hx, hb, hml, hown, hts⟩ (c_X7_next l D cI cB cZ cP a v su sl F nn X Y j (by first | assumption | omega) (by first | assumption | omega)) (cwV 1 hts gX7_meet_X7_next rfl rfl rfl (by decide +kernel) ⟨Nat.le_of_ble_eq_true rfl, Nat.le_of_ble_eq_true rfl⟩) (pV (q0 := 0) hPc hW0 trivial rfl rfl) rfl rfl hl.1 rfl (lv_room (Nat.le_of_ble_eq_true rfl)) dX7_meet_123 ⟨Nat.le_of_ble_eq_true rfl, Nat.le_of_ble_eq_true rfl⟩) ?_
          refine u_iald hx hb hK hP 7 0 rfl rfl rfl ⟨by omega, by omega⟩ dX7_meet_126 ?_
          refine lv_aload_n hx hb dX7_meet_127 rfl (lv_at hl 0 rfl) ?_
          refine va_get (D := D) (ci := 9) (v := .ref (a 8)) (C := RX7) (T := TX7) (N := 24) hx hb hts (by decide +kernel) hown hK hP 0 rfl rfl 12 (by decide) (hts (.fieldLink RX7 32 "LandDeedsModel" "cy" "[I") (by decide +kernel)) (fun _ h9 => h9) rfl dX7_meet_128 ?_
          refine lv_aload_n hx hb dX7_meet_131 rfl (lv_at hl 0 rfl) ?_
          refine lv_iload_n hx hb dX7_meet_132 rfl (lv_at hl 2 rfl) ?_
          have hPc := hP
          refine u_callSi (W.runV (As := [.int (nI j)]) (rest := [.ref (a 8), .int (X (nxt nn j)), .int (nI k), .ref (a 0), .int (sgn (sdT nn X Y k (X j) (Y j)))]) ⟨hx, hb, hml, hown, hts⟩ (c_X7_next l D cI cB cZ cP a v su sl F nn X Y j (by first | assumption | omega) (by first | assumption | omega)) (cwV 1 hts gX7_meet_X7_next rfl rfl rfl (by decide +kernel) ⟨Nat.le_of_ble_eq_true rfl, Nat.le_of_ble_eq_true rfl⟩) (pV (q0 := 0) hPc hW0 trivial rfl rfl) rfl rfl hl.1 rfl (lv_room (Nat.le_of_ble_eq_true rfl)) dX7_meet_133 ⟨Nat.le_of_ble_eq_true rfl, Nat.le_of_ble_eq_true rfl⟩) ?_
          refine u_iald hx hb hK hP 8 0 rfl rfl rfl ⟨by omega, by omega⟩ dX7_meet_136 ?_
          have hPc := hP
          refine u_callSi (W.runV (As := [.int (nI k), .int (X (nxt nn j)), .int (Y (nxt nn j))]) (rest := [.int (sgn (sdT nn X Y k (X j) (Y j)))]) ⟨hx, hb, hml, hown, hts⟩ (c_X7_turnOf l D cI cB cZ cP a v su sl F nn X Y k (X (nxt nn j)) (Y (nxt nn j)) (by first | assumption | omega) (by first | assumption | omega)) (cwV 3 hts gX7_meet_X7_turnOf rfl rfl rfl (by decide +kernel) ⟨Nat.le_of_ble_eq_true rfl, Nat.le_of_ble_eq_true rfl⟩) (pV (q0 := 0) hPc hW0 trivial rfl rfl) rfl rfl hl.1 rfl (lv_room (Nat.le_of_ble_eq_true rfl)) dX7_meet_137 ⟨Nat.le_of_ble_eq_true rfl, Nat.le_of_ble_eq_true rfl⟩) ?_
          refine lv_imul hx hb dX7_meet_140 ?_
          refine lv_if_ge (tgt := 194) hx hb dX7_meet_141 (by decide) (fun c_5 => ?_) (fun c_5 => ?_)
          · skip
            refine lv_iconst (v := 0) hx hb dX7_meet_194 (by decide) ?_
            rw [← hQ]
            exact W.zret (v := 0) hx hb hr (by decide) (fun t ht hW => ⟨_, rfl, (zb_f (by unfold tch; rintro (h | h | h | h | ⟨h, h2⟩) <;> first | contradiction | exact absurd c_5 (Int32.not_le.mpr ((sgn_mul (hp _ hk) (hp _ hnx) (hp _ hj) (hp _ hnj)).mpr h)))), ht⟩) (fun q h => absurd h List.not_mem_nil) dX7_meet_195
          · skip
            refine lv_aload_n hx hb dX7_meet_144 rfl (lv_at hl 0 rfl) ?_
            refine lv_iload_n hx hb dX7_meet_145 rfl (lv_at hl 2 rfl) ?_
            refine lv_aload_n hx hb dX7_meet_146 rfl (lv_at hl 0 rfl) ?_
            refine va_get (D := D) (ci := 9) (v := .ref (a 7)) (C := RX7) (T := TX7) (N := 24) hx hb hts (by decide +kernel) hown hK hP 0 rfl rfl 11 (by decide) (hts (.fieldLink RX7 29 "LandDeedsModel" "cx" "[I") (by decide +kernel)) (fun _ h9 => h9) rfl dX7_meet_147 ?_
            refine lv_iload_n hx hb dX7_meet_150 rfl (lv_at hl 1 rfl) ?_
            refine u_iald hx hb hK hP 7 0 rfl rfl rfl ⟨by omega, by omega⟩ dX7_meet_151 ?_
            refine lv_aload_n hx hb dX7_meet_152 rfl (lv_at hl 0 rfl) ?_
            refine va_get (D := D) (ci := 9) (v := .ref (a 8)) (C := RX7) (T := TX7) (N := 24) hx hb hts (by decide +kernel) hown hK hP 0 rfl rfl 12 (by decide) (hts (.fieldLink RX7 32 "LandDeedsModel" "cy" "[I") (by decide +kernel)) (fun _ h9 => h9) rfl dX7_meet_153 ?_
            refine lv_iload_n hx hb dX7_meet_156 rfl (lv_at hl 1 rfl) ?_
            refine u_iald hx hb hK hP 8 0 rfl rfl rfl ⟨by omega, by omega⟩ dX7_meet_157 ?_
            have hPc := hP
            refine u_callSi (W.runV (As := [.int (nI j), .int (X k), .int (Y k)]) (rest := []) ⟨hx, hb, hml, hown, hts⟩ (c_X7_turnOf l D cI cB cZ cP a v su sl F nn X Y j (X k) (Y k) (by first | assumption | omega) (by first | assumption | omega)) (cwV 3 hts gX7_meet_X7_turnOf rfl rfl rfl (by decide +kernel) ⟨Nat.le_of_ble_eq_true rfl, Nat.le_of_ble_eq_true rfl⟩) (pV (q0 := 0) hPc hW0 trivial rfl rfl) rfl rfl hl.1 rfl (lv_room (Nat.le_of_ble_eq_true rfl)) dX7_meet_158 ⟨Nat.le_of_ble_eq_true rfl, Nat.le_of_ble_eq_true rfl⟩) ?_
            refine lv_aload_n hx hb dX7_meet_161 rfl (lv_at hl 0 rfl) ?_
            refine lv_iload_n hx hb dX7_meet_162 rfl (lv_at hl 2 rfl) ?_
            refine lv_aload_n hx hb dX7_meet_163 rfl (lv_at hl 0 rfl) ?_
            refine va_get (D := D) (ci := 9) (v := .ref (a 7)) (C := RX7) (T := TX7) (N := 24) hx hb hts (by decide +kernel) hown hK hP 0 rfl rfl 11 (by decide) (hts (.fieldLink RX7 29 "LandDeedsModel" "cx" "[I") (by decide +kernel)) (fun _ h9 => h9) rfl dX7_meet_164 ?_
            refine lv_aload_n hx hb dX7_meet_167 rfl (lv_at hl 0 rfl) ?_
            refine lv_iload_n hx hb dX7_meet_168 rfl (lv_at hl 1 rfl) ?_
            have hPc := hP
            refine u_callSi (W.runV (As := [.int (nI k)]) (rest := [.ref (a 7), .int (nI j), .ref (a 0), .int (sgn (sdT nn X Y j (X k) (Y k)))]) ⟨hx, hb, hml, hown, hts⟩ (c_X7_next l D cI cB cZ cP a v su sl F nn X Y k (by first | assumption | omega) (by first | assumption | omega)) (cwV 1 hts gX7_meet_X7_next rfl rfl rfl (by decide +kernel) ⟨Nat.le_of_ble_eq_true rfl, Nat.le_of_ble_eq_true rfl⟩) (pV (q0 := 0) hPc hW0 trivial rfl rfl) rfl rfl hl.1 rfl (lv_room (Nat.le_of_ble_eq_true rfl)) dX7_meet_169 ⟨Nat.le_of_ble_eq_true rfl, Nat.le_of_ble_eq_true rfl⟩) ?_
            refine u_iald hx hb hK hP 7 0 rfl rfl rfl ⟨by omega, by omega⟩ dX7_meet_172 ?_
            refine lv_aload_n hx hb dX7_meet_173 rfl (lv_at hl 0 rfl) ?_
            refine va_get (D := D) (ci := 9) (v := .ref (a 8)) (C := RX7) (T := TX7) (N := 24) hx hb hts (by decide +kernel) hown hK hP 0 rfl rfl 12 (by decide) (hts (.fieldLink RX7 32 "LandDeedsModel" "cy" "[I") (by decide +kernel)) (fun _ h9 => h9) rfl dX7_meet_174 ?_
            refine lv_aload_n hx hb dX7_meet_177 rfl (lv_at hl 0 rfl) ?_
            refine lv_iload_n hx hb dX7_meet_178 rfl (lv_at hl 1 rfl) ?_
            have hPc := hP
            refine u_callSi (W.runV (As := [.int (nI k)]) (rest := [.ref (a 8), .int (X (nxt nn k)), .int (nI j), .ref (a 0), .int (sgn (sdT nn X Y j (X k) (Y k)))]) ⟨hx, hb, hml, hown, hts⟩ (c_X7_next l D cI cB cZ cP a v su sl F nn X Y k (by first | assumption | omega) (by first | assumption | omega)) (cwV 1 hts gX7_meet_X7_next rfl rfl rfl (by decide +kernel) ⟨Nat.le_of_ble_eq_true rfl, Nat.le_of_ble_eq_true rfl⟩) (pV (q0 := 0) hPc hW0 trivial rfl rfl) rfl rfl hl.1 rfl (lv_room (Nat.le_of_ble_eq_true rfl)) dX7_meet_179 ⟨Nat.le_of_ble_eq_true rfl, Nat.le_of_ble_eq_true rfl⟩) ?_
            refine u_iald hx hb hK hP 8 0 rfl rfl rfl ⟨by omega, by omega⟩ dX7_meet_182 ?_
            have hPc := hP
            refine u_callSi (W.runV (As := [.int (nI j), .int (X (nxt nn k)), .int (Y (nxt nn k))]) (rest := [.int (sgn (sdT nn X Y j (X k) (Y k)))]) ⟨hx, hb, hml, hown, hts⟩ (c_X7_turnOf l D cI cB cZ cP a v su sl F nn X Y j (X (nxt nn k)) (Y (nxt nn k)) (by first | assumption | omega) (by first | assumption | omega)) (cwV 3 hts gX7_meet_X7_turnOf rfl rfl rfl (by decide +kernel) ⟨Nat.le_of_ble_eq_true rfl, Nat.le_of_ble_eq_true rfl⟩) (pV (q0 := 0) hPc hW0 trivial rfl rfl) rfl rfl hl.1 rfl (lv_room (Nat.le_of_ble_eq_true rfl)) dX7_meet_183 ⟨Nat.le_of_ble_eq_true rfl, Nat.le_of_ble_eq_true rfl⟩) ?_
            refine lv_imul hx hb dX7_meet_186 ?_
            refine lv_if_ge (tgt := 194) hx hb dX7_meet_187 (by decide) (fun c_6 => ?_) (fun c_6 => ?_)
            · skip
              refine lv_iconst (v := 0) hx hb dX7_meet_194 (by decide) ?_
              rw [← hQ]
              exact W.zret (v := 0) hx hb hr (by decide) (fun t ht hW => ⟨_, rfl, (zb_f (by unfold tch; rintro (h | h | h | h | ⟨h, h2⟩) <;> first | contradiction | exact absurd c_6 (Int32.not_le.mpr ((sgn_mul (hp _ hj) (hp _ hnj) (hp _ hk) (hp _ hnx)).mpr h2)))), ht⟩) (fun q h => absurd h List.not_mem_nil) dX7_meet_195
            · skip
              refine lv_iconst (v := 1) hx hb dX7_meet_190 (by decide) ?_
              refine lv_goto (tgt := 195) hx hb dX7_meet_191 (by decide) ?_
              rw [← hQ]
              exact W.zret (v := 1) hx hb hr (by decide) (fun t ht hW => ⟨_, rfl, (zb_t (by unfold tch; exact Or.inr (Or.inr (Or.inr (Or.inr ⟨(sgn_mul (hp _ hk) (hp _ hnx) (hp _ hj) (hp _ hnj)).mp (Int32.not_le.mp c_5), (sgn_mul (hp _ hj) (hp _ hnj) (hp _ hk) (hp _ hnx)).mp (Int32.not_le.mp c_6)⟩))))), ht⟩) (fun q h => absurd h List.not_mem_nil) dX7_meet_195
        · skip
          have nc_4 := zb_ne0.mp c_4
          refine lv_iconst (v := 1) hx hb dX7_meet_96 (by decide) ?_
          rw [← hQ]
          exact W.zret (v := 1) hx hb hr (by decide) (fun t ht hW => ⟨_, rfl, (zb_t (by unfold tch; simp only [*, true_or, or_true, not_false_eq_true, and_self])), ht⟩) (fun q h => absurd h List.not_mem_nil) dX7_meet_97

set_option maxHeartbeats 4000000 in
set_option maxRecDepth 100000 in
theorem c_X7_foldsBack (l : Launch) (D : va_G) (cI cB cZ cP : ClassId) (a : Nat → Nat) (v : Nat → Int32) (su sl : Int64) (F : Nat → Nat → Int32) (nn : Nat) (X Y : Nat → Int32) (k : Nat) (hn8 : nn ≤ 8) (hk : k < nn) (hp : ∀ z, z < nn → isP (X z) (Y z)) (hm : ∀ z, z < nn → ¬ mere nn X Y z) : Met l yX7_foldsBack wsX7_foldsBack ({ frames := 4, cells := 0, slots := 0, locals := 92 } : Room) (va_Pc [.ref (a 0), .int (nI k)] (fun U => va_P D vwCl (MW cI cZ a (upd v 7 (nI nn)) su sl (updF (updF F 7 X) 8 Y)) U.heap ∧ KW D cI cB cZ cP U ∧ E0 U.heap)) (vp_Si (fun r => r = zb (fld nn X Y k (nxt nn k)))) 0 0 (fun _ => False) := by
  refine Met.ofW (cc := cX7_foldsBack) (maxL := 3) (ret := (some .boolean)) (by decide) rfl ?_
  intro p e s m args below meth c s₁ B hml hv
  obtain ⟨rfl, hP, hW0, hE⟩ := hv
  have hx := B.exec
  have hb := B.bytes
  have hr := B.returns
  have hts := atoms_spec (ws := wsX7_foldsBack) B.pre
  have hown : s.vm.findClass RX7 = some m.cls := findClass_of_methodNamed B.named
  have hlocks := B.notSynchronized
  have hK := hW0.1
  have hl := lv_entry ([.ref (a 0), .int (nI k)]) (n := 3) (Nat.le_of_ble_eq_true rfl)
  rw [lg_entry_eq]
  generalize (lg_sl ([.ref (a 0), .int (nI k)]) ++ List.replicate (3 - (lg_sl ([.ref (a 0), .int (nI k)])).length) Slot.unset).toArray = ls at hl ⊢
  have hl : lv_has ls 3 [(0, .ref (a 0)), (1, .int (nI k))] := hl
  show W p l e ({ frames := 4, cells := 0, slots := 0, locals := 92 } : Room) s m ([.ref (a 0), .int (nI k)] : List Value).toArray below meth c s.heap [] 0 0 _ (F0 m 0 ls [])
  refine u_genQ (fun Q hQ => ?_)
  have hnx := nxt_lt hk
  have hnj := nxt_lt hnx
  refine lv_aload_n hx hb dX7_foldsBack_0 rfl (lv_at hl 0 rfl) ?_
  refine lv_iload_n hx hb dX7_foldsBack_1 rfl (lv_at hl 1 rfl) ?_
  have hPc := hP
  refine u_callSi (W.runV (As := [.int (nI k)]) (rest := []) ⟨hx, hb, hml, hown, hts⟩ (c_X7_next l D cI cB cZ cP a v su sl F nn X Y k (by first | assumption | omega) (by first | assumption | omega)) (cwV 1 hts gX7_foldsBack_X7_next rfl rfl rfl (by decide +kernel) ⟨Nat.le_of_ble_eq_true rfl, Nat.le_of_ble_eq_true rfl⟩) (pV (q0 := 0) hPc hW0 trivial rfl rfl) rfl rfl hl.1 rfl (lv_room (Nat.le_of_ble_eq_true rfl)) dX7_foldsBack_2 ⟨Nat.le_of_ble_eq_true rfl, Nat.le_of_ble_eq_true rfl⟩) ?_
  refine lv_istore_n (lv' := [(2, .int (nI (nxt nn k))), (0, .ref (a 0)), (1, .int (nI k))]) hx hb dX7_foldsBack_5 rfl hl (by decide) rfl (fun ls hl => ?_)
  refine lv_aload_n hx hb dX7_foldsBack_6 rfl (lv_at hl 1 rfl) ?_
  refine lv_iload_n hx hb dX7_foldsBack_7 rfl (lv_at hl 2 rfl) ?_
  refine lv_aload_n hx hb dX7_foldsBack_8 rfl (lv_at hl 1 rfl) ?_
  refine va_get (D := D) (ci := 9) (v := .ref (a 7)) (C := RX7) (T := TX7) (N := 24) hx hb hts (by decide +kernel) hown hK hP 0 rfl rfl 11 (by decide) (hts (.fieldLink RX7 29 "LandDeedsModel" "cx" "[I") (by decide +kernel)) (fun _ h9 => h9) rfl dX7_foldsBack_9 ?_
  refine lv_aload_n hx hb dX7_foldsBack_12 rfl (lv_at hl 1 rfl) ?_
  refine lv_iload_n hx hb dX7_foldsBack_13 rfl (lv_at hl 0 rfl) ?_
  have hPc := hP
  refine u_callSi (W.runV (As := [.int (nI (nxt nn k))]) (rest := [.ref (a 7), .int (nI k), .ref (a 0)]) ⟨hx, hb, hml, hown, hts⟩ (c_X7_next l D cI cB cZ cP a v su sl F nn X Y (nxt nn k) (by first | assumption | omega) (by first | assumption | omega)) (cwV 1 hts gX7_foldsBack_X7_next rfl rfl rfl (by decide +kernel) ⟨Nat.le_of_ble_eq_true rfl, Nat.le_of_ble_eq_true rfl⟩) (pV (q0 := 0) hPc hW0 trivial rfl rfl) rfl rfl hl.1 rfl (lv_room (Nat.le_of_ble_eq_true rfl)) dX7_foldsBack_14 ⟨Nat.le_of_ble_eq_true rfl, Nat.le_of_ble_eq_true rfl⟩) ?_
  refine u_iald hx hb hK hP 7 0 rfl rfl rfl ⟨by omega, by omega⟩ dX7_foldsBack_17 ?_
  refine lv_aload_n hx hb dX7_foldsBack_18 rfl (lv_at hl 1 rfl) ?_
  refine va_get (D := D) (ci := 9) (v := .ref (a 8)) (C := RX7) (T := TX7) (N := 24) hx hb hts (by decide +kernel) hown hK hP 0 rfl rfl 12 (by decide) (hts (.fieldLink RX7 32 "LandDeedsModel" "cy" "[I") (by decide +kernel)) (fun _ h9 => h9) rfl dX7_foldsBack_19 ?_
  refine lv_aload_n hx hb dX7_foldsBack_22 rfl (lv_at hl 1 rfl) ?_
  refine lv_iload_n hx hb dX7_foldsBack_23 rfl (lv_at hl 0 rfl) ?_
  have hPc := hP
  refine u_callSi (W.runV (As := [.int (nI (nxt nn k))]) (rest := [.ref (a 8), .int (X (nxt nn (nxt nn k))), .int (nI k), .ref (a 0)]) ⟨hx, hb, hml, hown, hts⟩ (c_X7_next l D cI cB cZ cP a v su sl F nn X Y (nxt nn k) (by first | assumption | omega) (by first | assumption | omega)) (cwV 1 hts gX7_foldsBack_X7_next rfl rfl rfl (by decide +kernel) ⟨Nat.le_of_ble_eq_true rfl, Nat.le_of_ble_eq_true rfl⟩) (pV (q0 := 0) hPc hW0 trivial rfl rfl) rfl rfl hl.1 rfl (lv_room (Nat.le_of_ble_eq_true rfl)) dX7_foldsBack_24 ⟨Nat.le_of_ble_eq_true rfl, Nat.le_of_ble_eq_true rfl⟩) ?_
  refine u_iald hx hb hK hP 8 0 rfl rfl rfl ⟨by omega, by omega⟩ dX7_foldsBack_27 ?_
  have hPc := hP
  refine u_callSi (W.runV (As := [.int (nI k), .int (X (nxt nn (nxt nn k))), .int (Y (nxt nn (nxt nn k)))]) (rest := []) ⟨hx, hb, hml, hown, hts⟩ (c_X7_isOnSide l D cI cB cZ cP a v su sl F nn X Y k (X (nxt nn (nxt nn k))) (Y (nxt nn (nxt nn k))) (by first | assumption | omega) (by first | assumption | omega)) (cwV 3 hts gX7_foldsBack_X7_isOnSide rfl rfl rfl (by decide +kernel) ⟨Nat.le_of_ble_eq_true rfl, Nat.le_of_ble_eq_true rfl⟩) (pV (q0 := 0) hPc hW0 trivial rfl rfl) rfl rfl hl.1 rfl (lv_room (Nat.le_of_ble_eq_true rfl)) dX7_foldsBack_28 ⟨Nat.le_of_ble_eq_true rfl, Nat.le_of_ble_eq_true rfl⟩) ?_
  refine lv_if_ne (tgt := 54) hx hb dX7_foldsBack_31 (by decide) (fun c_1 => ?_) (fun c_1 => ?_)
  · skip
    have nc_1 := zb_ne0.mp c_1
    refine lv_iconst (v := 1) hx hb dX7_foldsBack_54 (by decide) ?_
    refine lv_goto (tgt := 59) hx hb dX7_foldsBack_55 (by decide) ?_
    rw [← hQ]
    exact W.zret (v := 1) hx hb hr (by decide) (fun t ht hW => ⟨_, rfl, (zb_t ((fld_iff hk hnx hp hm).mpr (Or.inl nc_1))), ht⟩) (fun q h => absurd h List.not_mem_nil) dX7_foldsBack_59
  · skip
    have nc_1 := zb_eq0.mp c_1
    refine lv_aload_n hx hb dX7_foldsBack_34 rfl (lv_at hl 1 rfl) ?_
    refine lv_iload_n hx hb dX7_foldsBack_35 rfl (lv_at hl 0 rfl) ?_
    refine lv_aload_n hx hb dX7_foldsBack_36 rfl (lv_at hl 1 rfl) ?_
    refine va_get (D := D) (ci := 9) (v := .ref (a 7)) (C := RX7) (T := TX7) (N := 24) hx hb hts (by decide +kernel) hown hK hP 0 rfl rfl 11 (by decide) (hts (.fieldLink RX7 29 "LandDeedsModel" "cx" "[I") (by decide +kernel)) (fun _ h9 => h9) rfl dX7_foldsBack_37 ?_
    refine lv_iload_n hx hb dX7_foldsBack_40 rfl (lv_at hl 2 rfl) ?_
    refine u_iald hx hb hK hP 7 0 rfl rfl rfl ⟨by omega, by omega⟩ dX7_foldsBack_41 ?_
    refine lv_aload_n hx hb dX7_foldsBack_42 rfl (lv_at hl 1 rfl) ?_
    refine va_get (D := D) (ci := 9) (v := .ref (a 8)) (C := RX7) (T := TX7) (N := 24) hx hb hts (by decide +kernel) hown hK hP 0 rfl rfl 12 (by decide) (hts (.fieldLink RX7 32 "LandDeedsModel" "cy" "[I") (by decide +kernel)) (fun _ h9 => h9) rfl dX7_foldsBack_43 ?_
    refine lv_iload_n hx hb dX7_foldsBack_46 rfl (lv_at hl 2 rfl) ?_
    refine u_iald hx hb hK hP 8 0 rfl rfl rfl ⟨by omega, by omega⟩ dX7_foldsBack_47 ?_
    have hPc := hP
    refine u_callSi (W.runV (As := [.int (nI (nxt nn k)), .int (X k), .int (Y k)]) (rest := []) ⟨hx, hb, hml, hown, hts⟩ (c_X7_isOnSide l D cI cB cZ cP a v su sl F nn X Y (nxt nn k) (X k) (Y k) (by first | assumption | omega) (by first | assumption | omega)) (cwV 3 hts gX7_foldsBack_X7_isOnSide rfl rfl rfl (by decide +kernel) ⟨Nat.le_of_ble_eq_true rfl, Nat.le_of_ble_eq_true rfl⟩) (pV (q0 := 0) hPc hW0 trivial rfl rfl) rfl rfl hl.1 rfl (lv_room (Nat.le_of_ble_eq_true rfl)) dX7_foldsBack_48 ⟨Nat.le_of_ble_eq_true rfl, Nat.le_of_ble_eq_true rfl⟩) ?_
    refine lv_if_eq (tgt := 58) hx hb dX7_foldsBack_51 (by decide) (fun c_2 => ?_) (fun c_2 => ?_)
    · skip
      have nc_2 := zb_eq0.mp c_2
      refine lv_iconst (v := 0) hx hb dX7_foldsBack_58 (by decide) ?_
      rw [← hQ]
      exact W.zret (v := 0) hx hb hr (by decide) (fun t ht hW => ⟨_, rfl, (zb_f (fun h => ((fld_iff hk hnx hp hm).mp h).elim nc_1 nc_2)), ht⟩) (fun q h => absurd h List.not_mem_nil) dX7_foldsBack_59
    · skip
      have nc_2 := zb_ne0.mp c_2
      refine lv_iconst (v := 1) hx hb dX7_foldsBack_54 (by decide) ?_
      refine lv_goto (tgt := 59) hx hb dX7_foldsBack_55 (by decide) ?_
      rw [← hQ]
      exact W.zret (v := 1) hx hb hr (by decide) (fun t ht hW => ⟨_, rfl, (zb_t ((fld_iff hk hnx hp hm).mpr (Or.inr nc_2))), ht⟩) (fun q h => absurd h List.not_mem_nil) dX7_foldsBack_59

set_option maxHeartbeats 4000000 in
set_option maxRecDepth 100000 in
theorem c_X7_stands (l : Launch) (D : va_G) (cI cB cZ cP : ClassId) (a : Nat → Nat) (v : Nat → Int32) (su sl : Int64) (F : Nat → Nat → Int32) (nn : Nat) (X Y : Nat → Int32) (hn8 : nn ≤ 8) (hn3 : 3 ≤ nn) : Met l yX7_stands wsX7_stands ({ frames := 5, cells := 0, slots := 0, locals := 114 } : Room) (va_Pc [.ref (a 0)] (fun U => va_P D vwCl (MW cI cZ a (upd v 7 (nI nn)) su sl (updF (updF F 7 X) 8 Y)) U.heap ∧ KW D cI cB cZ cP U ∧ E0 U.heap)) (vp_Si (fun r => r = zb (stn nn X Y))) 0 0 (fun _ => False) := by
  refine Met.ofW (cc := cX7_stands) (maxL := 3) (ret := (some .boolean)) (by decide) rfl ?_
  intro p e s m args below meth c s₁ B hml hv
  obtain ⟨rfl, hP, hW0, hE⟩ := hv
  have hx := B.exec
  have hb := B.bytes
  have hr := B.returns
  have hts := atoms_spec (ws := wsX7_stands) B.pre
  have hown : s.vm.findClass RX7 = some m.cls := findClass_of_methodNamed B.named
  have hlocks := B.notSynchronized
  have hK := hW0.1
  have hl := lv_entry ([.ref (a 0)]) (n := 3) (Nat.le_of_ble_eq_true rfl)
  rw [lg_entry_eq]
  generalize (lg_sl ([.ref (a 0)]) ++ List.replicate (3 - (lg_sl ([.ref (a 0)])).length) Slot.unset).toArray = ls at hl ⊢
  have hl : lv_has ls 3 [(0, .ref (a 0))] := hl
  show W p l e ({ frames := 5, cells := 0, slots := 0, locals := 114 } : Room) s m ([.ref (a 0)] : List Value).toArray below meth c s.heap [] 0 0 _ (F0 m 0 ls [])
  refine u_genQ (fun Q hQ => ?_)
  refine lv_iconst (v := 0) hx hb dX7_stands_0 (by decide) ?_
  refine lv_istore_n (lv' := [(1, .int 0), (0, .ref (a 0))]) hx hb dX7_stands_1 rfl hl (by decide) rfl (fun ls hl => ?_)
  have LOOP_2 : ∀ (fu : Nat) (k : Nat) (hk0 : k ≤ nn) (hA1 : ∀ z, z < k → isP (X z) (Y z) ∧ ¬ mere nn X Y z) (hn : nn - k < fu) (ls : Array Slot) (hl : lv_has ls 3 [(0, .ref (a 0)), (1, .int (nI k))]), W p l e ({ frames := 5, cells := 0, slots := 0, locals := 114 } : Room) s m ([.ref (a 0)] : List Value).toArray below meth c s.heap [] 0 0 Q (F0 m 2 ls []) := by
    intro fu
    induction fu with
    | zero => intro k hk0 hA1 hn ls hl; exact absurd hn (Nat.not_lt_zero _)
    | succ fu ih_2 =>
      intro k hk0 hA1 hn ls hl
      refine lv_iload_n hx hb dX7_stands_2 rfl (lv_at hl 1 rfl) ?_
      refine lv_aload_n hx hb dX7_stands_3 rfl (lv_at hl 0 rfl) ?_
      refine va_get (D := D) (ci := 9) (v := .int (nI nn)) (C := RX7) (T := TX7) (N := 24) hx hb hts (by decide +kernel) hown hK hP 0 rfl rfl 7 (by decide) (hts (.fieldLink RX7 58 "LandDeedsModel" "calls" "I") (by decide +kernel)) (fun _ h9 => h9) rfl dX7_stands_4 ?_
      refine lv_icmp_ge (tgt := 74) hx hb dX7_stands_7 (by decide) (fun c_1 => ?_) (fun c_1 => ?_)
      · skip
        have nc_1 : nn ≤ k := (nI_leI (a := nn) (b := k) (by omega) (by omega)).mp c_1
        have hk9 : k = nn := by omega
        have hp : ∀ z, z < nn → isP (X z) (Y z) := fun z hz => (hA1 z (by omega)).1
        have hm : ∀ z, z < nn → ¬ mere nn X Y z := fun z hz => (hA1 z (by omega)).2
        refine lv_iconst (v := 0) hx hb dX7_stands_74 (by decide) ?_
        refine lv_istore_n (lv' := [(1, .int 0), (0, .ref (a 0))]) hx hb dX7_stands_75 rfl hl (by decide) rfl (fun ls hl => ?_)
        have LOOP_76 : ∀ (fu : Nat) (i : Nat) (hi : i ≤ nn) (hB1 : ∀ z, z < i → ¬ fld nn X Y z (nxt nn z)) (hB2 : ∀ z, z < i → ∀ w, w < nn → ¬ w = z → ¬ w = nxt nn z → ¬ z = nxt nn w → ¬ tch nn X Y z w) (hn : nn - i < fu) (ls : Array Slot) (hl : lv_has ls 3 [(0, .ref (a 0)), (1, .int (nI i))]), W p l e ({ frames := 5, cells := 0, slots := 0, locals := 114 } : Room) s m ([.ref (a 0)] : List Value).toArray below meth c s.heap [] 0 0 Q (F0 m 76 ls []) := by
          intro fu
          induction fu with
          | zero => intro i hi hB1 hB2 hn ls hl; exact absurd hn (Nat.not_lt_zero _)
          | succ fu ih_76 =>
            intro i hi hB1 hB2 hn ls hl
            refine lv_iload_n hx hb dX7_stands_76 rfl (lv_at hl 1 rfl) ?_
            refine lv_aload_n hx hb dX7_stands_77 rfl (lv_at hl 0 rfl) ?_
            refine va_get (D := D) (ci := 9) (v := .int (nI nn)) (C := RX7) (T := TX7) (N := 24) hx hb hts (by decide +kernel) hown hK hP 0 rfl rfl 7 (by decide) (hts (.fieldLink RX7 58 "LandDeedsModel" "calls" "I") (by decide +kernel)) (fun _ h9 => h9) rfl dX7_stands_78 ?_
            refine lv_icmp_ge (tgt := 150) hx hb dX7_stands_81 (by decide) (fun c_2 => ?_) (fun c_2 => ?_)
            · skip
              have nc_2 : nn ≤ i := (nI_leI (a := nn) (b := i) (by omega) (by omega)).mp c_2
              refine lv_iconst (v := 1) hx hb dX7_stands_150 (by decide) ?_
              rw [← hQ]
              exact W.zret (v := 1) hx hb hr (by decide) (fun t ht hW => ⟨_, rfl, (zb_t ((stn_iff hn3).mpr ⟨fun z hz => hA1 z (by omega), fun z hz => hB1 z (by omega), fun z hz => hB2 z (by omega)⟩)), ht⟩) (fun q h => absurd h List.not_mem_nil) dX7_stands_151
            · skip
              have nc_2 : ¬ (nn ≤ i) := fun h => c_2 ((nI_leI (a := nn) (b := i) (by omega) (by omega)).mpr h)
              have hk : i < nn := by omega
              have hnx := nxt_lt hk
              refine lv_aload_n hx hb dX7_stands_84 rfl (lv_at hl 0 rfl) ?_
              refine lv_iload_n hx hb dX7_stands_85 rfl (lv_at hl 1 rfl) ?_
              have hPc := hP
              refine u_callSi (W.runV (As := [.int (nI i)]) (rest := []) ⟨hx, hb, hml, hown, hts⟩ (c_X7_foldsBack l D cI cB cZ cP a v su sl F nn X Y i (by first | assumption | omega) (by first | assumption | omega) (by first | assumption | omega) (by first | assumption | omega)) (cwV 1 hts gX7_stands_X7_foldsBack rfl rfl rfl (by decide +kernel) ⟨Nat.le_of_ble_eq_true rfl, Nat.le_of_ble_eq_true rfl⟩) (pV (q0 := 0) hPc hW0 trivial rfl rfl) rfl rfl hl.1 rfl (lv_room (Nat.le_of_ble_eq_true rfl)) dX7_stands_86 ⟨Nat.le_of_ble_eq_true rfl, Nat.le_of_ble_eq_true rfl⟩) ?_
              refine lv_if_eq (tgt := 94) hx hb dX7_stands_89 (by decide) (fun c_3 => ?_) (fun c_3 => ?_)
              · skip
                have nc_3 := zb_eq0.mp c_3
                have hF1 := nc_3
                refine lv_iconst (v := 0) hx hb dX7_stands_94 (by decide) ?_
                refine lv_istore_n (lv' := [(2, .int 0), (0, .ref (a 0)), (1, .int (nI i))]) hx hb dX7_stands_95 rfl hl (by decide) rfl (fun ls hl => ?_)
                have LOOP_96 : ∀ (fu : Nat) (j : Nat) (hj0 : j ≤ nn) (hC1 : ∀ w, w < j → ¬ w = i → ¬ w = nxt nn i → ¬ i = nxt nn w → ¬ tch nn X Y i w) (hn : nn - j < fu) (ls : Array Slot) (hl : lv_has ls 3 [(0, .ref (a 0)), (1, .int (nI i)), (2, .int (nI j))]), W p l e ({ frames := 5, cells := 0, slots := 0, locals := 114 } : Room) s m ([.ref (a 0)] : List Value).toArray below meth c s.heap [] 0 0 Q (F0 m 96 ls []) := by
                  intro fu
                  induction fu with
                  | zero => intro j hj0 hC1 hn ls hl; exact absurd hn (Nat.not_lt_zero _)
                  | succ fu ih_96 =>
                    intro j hj0 hC1 hn ls hl
                    refine lv_iload_n hx hb dX7_stands_96 rfl (lv_at hl 2 rfl) ?_
                    refine lv_aload_n hx hb dX7_stands_97 rfl (lv_at hl 0 rfl) ?_
                    refine va_get (D := D) (ci := 9) (v := .int (nI nn)) (C := RX7) (T := TX7) (N := 24) hx hb hts (by decide +kernel) hown hK hP 0 rfl rfl 7 (by decide) (hts (.fieldLink RX7 58 "LandDeedsModel" "calls" "I") (by decide +kernel)) (fun _ h9 => h9) rfl dX7_stands_98 ?_
                    refine lv_icmp_ge (tgt := 144) hx hb dX7_stands_101 (by decide) (fun c_4 => ?_) (fun c_4 => ?_)
                    · skip
                      have nc_4 : nn ≤ j := (nI_leI (a := nn) (b := j) (by omega) (by omega)).mp c_4
                      refine lv_iinc (v := nI (i + 1)) (lv' := [(1, .int (nI (i + 1))), (0, .ref (a 0)), (2, .int (nI j))]) hx hb dX7_stands_144 hl (k := 1) rfl (nI_1 _) (by decide) rfl (fun ls hl => ?_)
                      refine lv_goto (tgt := 76) hx hb dX7_stands_147 (by decide) ?_
                      exact ih_76 (i + 1) (by omega) (fun z hz => by rcases Nat.lt_succ_iff_lt_or_eq.mp hz with h | h; exact hB1 z h; exact h ▸ hF1) (fun z hz => by rcases Nat.lt_succ_iff_lt_or_eq.mp hz with h | h; exact hB2 z h; exact h ▸ fun w h1 => hC1 w (by omega)) (by omega) ls (lv_sub hl [1, 0] rfl)
                    · skip
                      have nc_4 : ¬ (nn ≤ j) := fun h => c_4 ((nI_leI (a := nn) (b := j) (by omega) (by omega)).mpr h)
                      have hj : j < nn := by omega
                      have hnj := nxt_lt hj
                      refine lv_iload_n hx hb dX7_stands_104 rfl (lv_at hl 2 rfl) ?_
                      refine lv_iload_n hx hb dX7_stands_105 rfl (lv_at hl 1 rfl) ?_
                      refine lv_icmp_eq (tgt := 138) hx hb dX7_stands_106 (by decide) (fun c_5 => ?_) (fun c_5 => ?_)
                      · skip
                        have nc_5 : j = i := (nI_eq (a := j) (b := i) (by omega) (by omega)).mp c_5
                        refine lv_iinc (v := nI (j + 1)) (lv' := [(2, .int (nI (j + 1))), (0, .ref (a 0)), (1, .int (nI i))]) hx hb dX7_stands_138 hl (k := 2) rfl (nI_1 _) (by decide) rfl (fun ls hl => ?_)
                        refine lv_goto (tgt := 96) hx hb dX7_stands_141 (by decide) ?_
                        exact ih_96 (j + 1) (by omega) (fun w hw => by rcases Nat.lt_succ_iff_lt_or_eq.mp hw with h | h; exact hC1 w h; exact h ▸ (fun q1 q2 q3 => absurd nc_5 q1)) (by omega) ls (lv_sub hl [1, 2, 0] rfl)
                      · skip
                        have nc_5 : ¬ (j = i) := fun h => c_5 ((nI_eq (a := j) (b := i) (by omega) (by omega)).mpr h)
                        refine lv_iload_n hx hb dX7_stands_109 rfl (lv_at hl 2 rfl) ?_
                        refine lv_aload_n hx hb dX7_stands_110 rfl (lv_at hl 0 rfl) ?_
                        refine lv_iload_n hx hb dX7_stands_111 rfl (lv_at hl 1 rfl) ?_
                        have hPc := hP
                        refine u_callSi (W.runV (As := [.int (nI i)]) (rest := [.int (nI j)]) ⟨hx, hb, hml, hown, hts⟩ (c_X7_next l D cI cB cZ cP a v su sl F nn X Y i (by first | assumption | omega) (by first | assumption | omega)) (cwV 1 hts gX7_stands_X7_next rfl rfl rfl (by decide +kernel) ⟨Nat.le_of_ble_eq_true rfl, Nat.le_of_ble_eq_true rfl⟩) (pV (q0 := 0) hPc hW0 trivial rfl rfl) rfl rfl hl.1 rfl (lv_room (Nat.le_of_ble_eq_true rfl)) dX7_stands_112 ⟨Nat.le_of_ble_eq_true rfl, Nat.le_of_ble_eq_true rfl⟩) ?_
                        refine lv_icmp_eq (tgt := 138) hx hb dX7_stands_115 (by decide) (fun c_6 => ?_) (fun c_6 => ?_)
                        · skip
                          have nc_6 : j = nxt nn i := (nI_eq (a := j) (b := (nxt nn i)) (by omega) (by omega)).mp c_6
                          refine lv_iinc (v := nI (j + 1)) (lv' := [(2, .int (nI (j + 1))), (0, .ref (a 0)), (1, .int (nI i))]) hx hb dX7_stands_138 hl (k := 2) rfl (nI_1 _) (by decide) rfl (fun ls hl => ?_)
                          refine lv_goto (tgt := 96) hx hb dX7_stands_141 (by decide) ?_
                          exact ih_96 (j + 1) (by omega) (fun w hw => by rcases Nat.lt_succ_iff_lt_or_eq.mp hw with h | h; exact hC1 w h; exact h ▸ (fun q1 q2 q3 => absurd nc_6 q2)) (by omega) ls (lv_sub hl [1, 2, 0] rfl)
                        · skip
                          have nc_6 : ¬ (j = nxt nn i) := fun h => c_6 ((nI_eq (a := j) (b := (nxt nn i)) (by omega) (by omega)).mpr h)
                          refine lv_iload_n hx hb dX7_stands_118 rfl (lv_at hl 1 rfl) ?_
                          refine lv_aload_n hx hb dX7_stands_119 rfl (lv_at hl 0 rfl) ?_
                          refine lv_iload_n hx hb dX7_stands_120 rfl (lv_at hl 2 rfl) ?_
                          have hPc := hP
                          refine u_callSi (W.runV (As := [.int (nI j)]) (rest := [.int (nI i)]) ⟨hx, hb, hml, hown, hts⟩ (c_X7_next l D cI cB cZ cP a v su sl F nn X Y j (by first | assumption | omega) (by first | assumption | omega)) (cwV 1 hts gX7_stands_X7_next rfl rfl rfl (by decide +kernel) ⟨Nat.le_of_ble_eq_true rfl, Nat.le_of_ble_eq_true rfl⟩) (pV (q0 := 0) hPc hW0 trivial rfl rfl) rfl rfl hl.1 rfl (lv_room (Nat.le_of_ble_eq_true rfl)) dX7_stands_121 ⟨Nat.le_of_ble_eq_true rfl, Nat.le_of_ble_eq_true rfl⟩) ?_
                          refine lv_icmp_eq (tgt := 138) hx hb dX7_stands_124 (by decide) (fun c_7 => ?_) (fun c_7 => ?_)
                          · skip
                            have nc_7 : i = nxt nn j := (nI_eq (a := i) (b := (nxt nn j)) (by omega) (by omega)).mp c_7
                            refine lv_iinc (v := nI (j + 1)) (lv' := [(2, .int (nI (j + 1))), (0, .ref (a 0)), (1, .int (nI i))]) hx hb dX7_stands_138 hl (k := 2) rfl (nI_1 _) (by decide) rfl (fun ls hl => ?_)
                            refine lv_goto (tgt := 96) hx hb dX7_stands_141 (by decide) ?_
                            exact ih_96 (j + 1) (by omega) (fun w hw => by rcases Nat.lt_succ_iff_lt_or_eq.mp hw with h | h; exact hC1 w h; exact h ▸ (fun q1 q2 q3 => absurd nc_7 q3)) (by omega) ls (lv_sub hl [1, 2, 0] rfl)
                          · skip
                            have nc_7 : ¬ (i = nxt nn j) := fun h => c_7 ((nI_eq (a := i) (b := (nxt nn j)) (by omega) (by omega)).mpr h)
                            refine lv_aload_n hx hb dX7_stands_127 rfl (lv_at hl 0 rfl) ?_
                            refine lv_iload_n hx hb dX7_stands_128 rfl (lv_at hl 1 rfl) ?_
                            refine lv_iload_n hx hb dX7_stands_129 rfl (lv_at hl 2 rfl) ?_
                            have hPc := hP
                            refine u_callSi (W.runV (As := [.int (nI i), .int (nI j)]) (rest := []) ⟨hx, hb, hml, hown, hts⟩ (c_X7_meet l D cI cB cZ cP a v su sl F nn X Y i j (by first | assumption | omega) (by first | assumption | omega) (by first | assumption | omega) (by first | assumption | omega)) (cwV 2 hts gX7_stands_X7_meet rfl rfl rfl (by decide +kernel) ⟨Nat.le_of_ble_eq_true rfl, Nat.le_of_ble_eq_true rfl⟩) (pV (q0 := 0) hPc hW0 trivial rfl rfl) rfl rfl hl.1 rfl (lv_room (Nat.le_of_ble_eq_true rfl)) dX7_stands_130 ⟨Nat.le_of_ble_eq_true rfl, Nat.le_of_ble_eq_true rfl⟩) ?_
                            refine lv_if_eq (tgt := 138) hx hb dX7_stands_133 (by decide) (fun c_8 => ?_) (fun c_8 => ?_)
                            · skip
                              have nc_8 := zb_eq0.mp c_8
                              refine lv_iinc (v := nI (j + 1)) (lv' := [(2, .int (nI (j + 1))), (0, .ref (a 0)), (1, .int (nI i))]) hx hb dX7_stands_138 hl (k := 2) rfl (nI_1 _) (by decide) rfl (fun ls hl => ?_)
                              refine lv_goto (tgt := 96) hx hb dX7_stands_141 (by decide) ?_
                              exact ih_96 (j + 1) (by omega) (fun w hw => by rcases Nat.lt_succ_iff_lt_or_eq.mp hw with h | h; exact hC1 w h; exact h ▸ (fun q1 q2 q3 => nc_8)) (by omega) ls (lv_sub hl [1, 2, 0] rfl)
                            · skip
                              have nc_8 := zb_ne0.mp c_8
                              refine lv_iconst (v := 0) hx hb dX7_stands_136 (by decide) ?_
                              rw [← hQ]
                              exact W.zret (v := 0) hx hb hr (by decide) (fun t ht hW => ⟨_, rfl, (zb_f (fun h => ((stn_iff hn3).mp h).2.2 i (by omega) j (by omega) nc_5 nc_6 nc_7 nc_8)), ht⟩) (fun q h => absurd h List.not_mem_nil) dX7_stands_137
                exact LOOP_96 (nn - 0 + 1) 0 (Nat.zero_le _) (fun w h => absurd h (Nat.not_lt_zero _)) (Nat.lt_succ_self _) ls (lv_sub hl [1, 2, 0] rfl)
              · skip
                have nc_3 := zb_ne0.mp c_3
                refine lv_iconst (v := 0) hx hb dX7_stands_92 (by decide) ?_
                rw [← hQ]
                exact W.zret (v := 0) hx hb hr (by decide) (fun t ht hW => ⟨_, rfl, (zb_f (fun h => ((stn_iff hn3).mp h).2.1 i (by omega) nc_3)), ht⟩) (fun q h => absurd h List.not_mem_nil) dX7_stands_93
        exact LOOP_76 (nn - 0 + 1) 0 (Nat.zero_le _) (fun z h => absurd h (Nat.not_lt_zero _)) (fun z h => absurd h (Nat.not_lt_zero _)) (Nat.lt_succ_self _) ls (lv_sub hl [1, 0] rfl)
      · skip
        have nc_1 : ¬ (nn ≤ k) := fun h => c_1 ((nI_leI (a := nn) (b := k) (by omega) (by omega)).mpr h)
        have hk : k < nn := by omega
        have hnx := nxt_lt hk
        refine lv_aload_n hx hb dX7_stands_10 rfl (lv_at hl 0 rfl) ?_
        refine va_get (D := D) (ci := 9) (v := .ref (a 7)) (C := RX7) (T := TX7) (N := 24) hx hb hts (by decide +kernel) hown hK hP 0 rfl rfl 11 (by decide) (hts (.fieldLink RX7 29 "LandDeedsModel" "cx" "[I") (by decide +kernel)) (fun _ h9 => h9) rfl dX7_stands_11 ?_
        refine lv_iload_n hx hb dX7_stands_14 rfl (lv_at hl 1 rfl) ?_
        refine u_iald hx hb hK hP 7 0 rfl rfl rfl ⟨by omega, by omega⟩ dX7_stands_15 ?_
        refine lv_aload_n hx hb dX7_stands_16 rfl (lv_at hl 0 rfl) ?_
        refine va_get (D := D) (ci := 9) (v := .ref (a 8)) (C := RX7) (T := TX7) (N := 24) hx hb hts (by decide +kernel) hown hK hP 0 rfl rfl 12 (by decide) (hts (.fieldLink RX7 32 "LandDeedsModel" "cy" "[I") (by decide +kernel)) (fun _ h9 => h9) rfl dX7_stands_17 ?_
        refine lv_iload_n hx hb dX7_stands_20 rfl (lv_at hl 1 rfl) ?_
        refine u_iald hx hb hK hP 8 0 rfl rfl rfl ⟨by omega, by omega⟩ dX7_stands_21 ?_
        have hPc := hP.sub (ws' := []) [] rfl
        refine u_callSi (W.runS (As := [.int (X k), .int (Y k)]) (rest := []) ⟨hx, hb, hml, hown, hts⟩ (c_X7_isPost l D cI cB cZ cP (X k) (Y k) ) (cwS 2 hts gX7_stands_X7_isPost rfl rfl rfl (by decide +kernel) ⟨Nat.le_of_ble_eq_true rfl, Nat.le_of_ble_eq_true rfl⟩) (pS hPc hW0 trivial) rfl rfl hl.1 rfl (lv_room (Nat.le_of_ble_eq_true rfl)) dX7_stands_22 ⟨Nat.le_of_ble_eq_true rfl, Nat.le_of_ble_eq_true rfl⟩) ?_
        refine lv_if_eq (tgt := 66) hx hb dX7_stands_25 (by decide) (fun c_9 => ?_) (fun c_9 => ?_)
        · skip
          have nc_9 := zb_eq0.mp c_9
          refine lv_iconst (v := 0) hx hb dX7_stands_66 (by decide) ?_
          rw [← hQ]
          exact W.zret (v := 0) hx hb hr (by decide) (fun t ht hW => ⟨_, rfl, (zb_f (fun h => nc_9 (h.1 k (by omega)).1)), ht⟩) (fun q h => absurd h List.not_mem_nil) dX7_stands_67
        · skip
          have nc_9 := zb_ne0.mp c_9
          refine lv_aload_n hx hb dX7_stands_28 rfl (lv_at hl 0 rfl) ?_
          refine va_get (D := D) (ci := 9) (v := .ref (a 7)) (C := RX7) (T := TX7) (N := 24) hx hb hts (by decide +kernel) hown hK hP 0 rfl rfl 11 (by decide) (hts (.fieldLink RX7 29 "LandDeedsModel" "cx" "[I") (by decide +kernel)) (fun _ h9 => h9) rfl dX7_stands_29 ?_
          refine lv_iload_n hx hb dX7_stands_32 rfl (lv_at hl 1 rfl) ?_
          refine u_iald hx hb hK hP 7 0 rfl rfl rfl ⟨by omega, by omega⟩ dX7_stands_33 ?_
          refine lv_aload_n hx hb dX7_stands_34 rfl (lv_at hl 0 rfl) ?_
          refine va_get (D := D) (ci := 9) (v := .ref (a 7)) (C := RX7) (T := TX7) (N := 24) hx hb hts (by decide +kernel) hown hK hP 0 rfl rfl 11 (by decide) (hts (.fieldLink RX7 29 "LandDeedsModel" "cx" "[I") (by decide +kernel)) (fun _ h9 => h9) rfl dX7_stands_35 ?_
          refine lv_aload_n hx hb dX7_stands_38 rfl (lv_at hl 0 rfl) ?_
          refine lv_iload_n hx hb dX7_stands_39 rfl (lv_at hl 1 rfl) ?_
          have hPc := hP
          refine u_callSi (W.runV (As := [.int (nI k)]) (rest := [.ref (a 7), .int (X k)]) ⟨hx, hb, hml, hown, hts⟩ (c_X7_next l D cI cB cZ cP a v su sl F nn X Y k (by first | assumption | omega) (by first | assumption | omega)) (cwV 1 hts gX7_stands_X7_next rfl rfl rfl (by decide +kernel) ⟨Nat.le_of_ble_eq_true rfl, Nat.le_of_ble_eq_true rfl⟩) (pV (q0 := 0) hPc hW0 trivial rfl rfl) rfl rfl hl.1 rfl (lv_room (Nat.le_of_ble_eq_true rfl)) dX7_stands_40 ⟨Nat.le_of_ble_eq_true rfl, Nat.le_of_ble_eq_true rfl⟩) ?_
          refine u_iald hx hb hK hP 7 0 rfl rfl rfl ⟨by omega, by omega⟩ dX7_stands_43 ?_
          refine lv_icmp_ne (tgt := 68) hx hb dX7_stands_44 (by decide) (fun c_10 => ?_) (fun c_10 => ?_)
          · skip
            refine lv_iinc (v := nI (k + 1)) (lv' := [(1, .int (nI (k + 1))), (0, .ref (a 0))]) hx hb dX7_stands_68 hl (k := 1) rfl (nI_1 _) (by decide) rfl (fun ls hl => ?_)
            refine lv_goto (tgt := 2) hx hb dX7_stands_71 (by decide) ?_
            exact ih_2 (k + 1) (by omega) (fun z hz => by rcases Nat.lt_succ_iff_lt_or_eq.mp hz with h | h; exact hA1 z h; exact h ▸ ⟨nc_9, fun q => c_10 q.1⟩) (by omega) ls (lv_sub hl [1, 0] rfl)
          · skip
            refine lv_aload_n hx hb dX7_stands_47 rfl (lv_at hl 0 rfl) ?_
            refine va_get (D := D) (ci := 9) (v := .ref (a 8)) (C := RX7) (T := TX7) (N := 24) hx hb hts (by decide +kernel) hown hK hP 0 rfl rfl 12 (by decide) (hts (.fieldLink RX7 32 "LandDeedsModel" "cy" "[I") (by decide +kernel)) (fun _ h9 => h9) rfl dX7_stands_48 ?_
            refine lv_iload_n hx hb dX7_stands_51 rfl (lv_at hl 1 rfl) ?_
            refine u_iald hx hb hK hP 8 0 rfl rfl rfl ⟨by omega, by omega⟩ dX7_stands_52 ?_
            refine lv_aload_n hx hb dX7_stands_53 rfl (lv_at hl 0 rfl) ?_
            refine va_get (D := D) (ci := 9) (v := .ref (a 8)) (C := RX7) (T := TX7) (N := 24) hx hb hts (by decide +kernel) hown hK hP 0 rfl rfl 12 (by decide) (hts (.fieldLink RX7 32 "LandDeedsModel" "cy" "[I") (by decide +kernel)) (fun _ h9 => h9) rfl dX7_stands_54 ?_
            refine lv_aload_n hx hb dX7_stands_57 rfl (lv_at hl 0 rfl) ?_
            refine lv_iload_n hx hb dX7_stands_58 rfl (lv_at hl 1 rfl) ?_
            have hPc := hP
            refine u_callSi (W.runV (As := [.int (nI k)]) (rest := [.ref (a 8), .int (Y k)]) ⟨hx, hb, hml, hown, hts⟩ (c_X7_next l D cI cB cZ cP a v su sl F nn X Y k (by first | assumption | omega) (by first | assumption | omega)) (cwV 1 hts gX7_stands_X7_next rfl rfl rfl (by decide +kernel) ⟨Nat.le_of_ble_eq_true rfl, Nat.le_of_ble_eq_true rfl⟩) (pV (q0 := 0) hPc hW0 trivial rfl rfl) rfl rfl hl.1 rfl (lv_room (Nat.le_of_ble_eq_true rfl)) dX7_stands_59 ⟨Nat.le_of_ble_eq_true rfl, Nat.le_of_ble_eq_true rfl⟩) ?_
            refine u_iald hx hb hK hP 8 0 rfl rfl rfl ⟨by omega, by omega⟩ dX7_stands_62 ?_
            refine lv_icmp_ne (tgt := 68) hx hb dX7_stands_63 (by decide) (fun c_11 => ?_) (fun c_11 => ?_)
            · skip
              refine lv_iinc (v := nI (k + 1)) (lv' := [(1, .int (nI (k + 1))), (0, .ref (a 0))]) hx hb dX7_stands_68 hl (k := 1) rfl (nI_1 _) (by decide) rfl (fun ls hl => ?_)
              refine lv_goto (tgt := 2) hx hb dX7_stands_71 (by decide) ?_
              exact ih_2 (k + 1) (by omega) (fun z hz => by rcases Nat.lt_succ_iff_lt_or_eq.mp hz with h | h; exact hA1 z h; exact h ▸ ⟨nc_9, fun q => c_11 q.2⟩) (by omega) ls (lv_sub hl [1, 0] rfl)
            · skip
              refine lv_iconst (v := 0) hx hb dX7_stands_66 (by decide) ?_
              rw [← hQ]
              exact W.zret (v := 0) hx hb hr (by decide) (fun t ht hW => ⟨_, rfl, (zb_f (fun h => (h.1 k (by omega)).2 ⟨c_10, c_11⟩)), ht⟩) (fun q h => absurd h List.not_mem_nil) dX7_stands_67
  exact LOOP_2 (nn - 0 + 1) 0 (Nat.zero_le _) (fun z h => absurd h (Nat.not_lt_zero _)) (Nat.lt_succ_self _) ls (lv_sub hl [1, 0] rfl)

set_option maxHeartbeats 4000000 in
set_option maxRecDepth 100000 in
theorem c_X7_isOlder (l : Launch) (D : va_G) (cI cB cZ cP : ClassId) (a : Nat → Nat) (v : Nat → Int32) (su sl : Int64) (F : Nat → Nat → Int32) (j o : Nat) (hj : j < 6) (ho : o < 6) : Met l yX7_isOlder wsX7_isOlder ({ frames := 0, cells := 0, slots := 0, locals := 0 } : Room) (va_Pc [.ref (a 0), .int (nI j), .int (nI o)] (fun U => va_P D vwCl (MW cI cZ a v su sl F) U.heap ∧ KW D cI cB cZ cP U ∧ E0 U.heap)) (vp_Si (fun r => r = zb (old (F 1) j o))) 0 0 (fun _ => False) := by
  refine Met.ofW (cc := cX7_isOlder) (maxL := 3) (ret := (some .boolean)) (by decide) rfl ?_
  intro p e s m args below meth c s₁ B hml hv
  obtain ⟨rfl, hP, hW0, hE⟩ := hv
  have hx := B.exec
  have hb := B.bytes
  have hr := B.returns
  have hts := atoms_spec (ws := wsX7_isOlder) B.pre
  have hown : s.vm.findClass RX7 = some m.cls := findClass_of_methodNamed B.named
  have hlocks := B.notSynchronized
  have hK := hW0.1
  have hl := lv_entry ([.ref (a 0), .int (nI j), .int (nI o)]) (n := 3) (Nat.le_of_ble_eq_true rfl)
  rw [lg_entry_eq]
  generalize (lg_sl ([.ref (a 0), .int (nI j), .int (nI o)]) ++ List.replicate (3 - (lg_sl ([.ref (a 0), .int (nI j), .int (nI o)])).length) Slot.unset).toArray = ls at hl ⊢
  have hl : lv_has ls 3 [(0, .ref (a 0)), (1, .int (nI j)), (2, .int (nI o))] := hl
  show W p l e ({ frames := 0, cells := 0, slots := 0, locals := 0 } : Room) s m ([.ref (a 0), .int (nI j), .int (nI o)] : List Value).toArray below meth c s.heap [] 0 0 _ (F0 m 0 ls [])
  refine u_genQ (fun Q hQ => ?_)
  refine lv_aload_n hx hb dX7_isOlder_0 rfl (lv_at hl 0 rfl) ?_
  refine va_get (D := D) (ci := 9) (v := .ref (a 1)) (C := RX7) (T := TX7) (N := 24) hx hb hts (by decide +kernel) hown hK hP 0 rfl rfl 0 (by decide) (hts (.fieldLink RX7 7 "LandDeedsModel" "state" "[I") (by decide +kernel)) (fun _ h9 => h9) rfl dX7_isOlder_1 ?_
  refine lv_iconst (v := 0) hx hb dX7_isOlder_4 (by decide) ?_
  refine lv_iload_n hx hb dX7_isOlder_5 rfl (lv_at hl 1 rfl) ?_
  refine lv_iadd hx hb dX7_isOlder_6 ?_
  refine u_eqi (show 0 + (nI j) = nI j from Int32.zero_add _) ?_
  refine u_iald hx hb hK hP 1 0 rfl rfl rfl ⟨by omega, by omega⟩ dX7_isOlder_7 ?_
  refine lv_aload_n hx hb dX7_isOlder_8 rfl (lv_at hl 0 rfl) ?_
  refine va_get (D := D) (ci := 9) (v := .ref (a 1)) (C := RX7) (T := TX7) (N := 24) hx hb hts (by decide +kernel) hown hK hP 0 rfl rfl 0 (by decide) (hts (.fieldLink RX7 7 "LandDeedsModel" "state" "[I") (by decide +kernel)) (fun _ h9 => h9) rfl dX7_isOlder_9 ?_
  refine lv_iconst (v := 0) hx hb dX7_isOlder_12 (by decide) ?_
  refine lv_iload_n hx hb dX7_isOlder_13 rfl (lv_at hl 2 rfl) ?_
  refine lv_iadd hx hb dX7_isOlder_14 ?_
  refine u_eqi (show 0 + (nI o) = nI o from Int32.zero_add _) ?_
  refine u_iald hx hb hK hP 1 0 rfl rfl rfl ⟨by omega, by omega⟩ dX7_isOlder_15 ?_
  refine lv_icmp_lt (tgt := 43) hx hb dX7_isOlder_16 (by decide) (fun c_1 => ?_) (fun c_1 => ?_)
  · skip
    refine lv_iconst (v := 1) hx hb dX7_isOlder_43 (by decide) ?_
    refine lv_goto (tgt := 48) hx hb dX7_isOlder_44 (by decide) ?_
    rw [← hQ]
    exact W.zret (v := 1) hx hb hr (by decide) (fun t ht hW => ⟨_, rfl, (zb_t (by unfold old; simp only [Int32.lt_iff_toInt_lt, ← Int32.toInt_inj] at c_1; omega)), ht⟩) (fun q h => absurd h List.not_mem_nil) dX7_isOlder_48
  · skip
    refine lv_aload_n hx hb dX7_isOlder_19 rfl (lv_at hl 0 rfl) ?_
    refine va_get (D := D) (ci := 9) (v := .ref (a 1)) (C := RX7) (T := TX7) (N := 24) hx hb hts (by decide +kernel) hown hK hP 0 rfl rfl 0 (by decide) (hts (.fieldLink RX7 7 "LandDeedsModel" "state" "[I") (by decide +kernel)) (fun _ h9 => h9) rfl dX7_isOlder_20 ?_
    refine lv_iconst (v := 0) hx hb dX7_isOlder_23 (by decide) ?_
    refine lv_iload_n hx hb dX7_isOlder_24 rfl (lv_at hl 1 rfl) ?_
    refine lv_iadd hx hb dX7_isOlder_25 ?_
    refine u_eqi (show 0 + (nI j) = nI j from Int32.zero_add _) ?_
    refine u_iald hx hb hK hP 1 0 rfl rfl rfl ⟨by omega, by omega⟩ dX7_isOlder_26 ?_
    refine lv_aload_n hx hb dX7_isOlder_27 rfl (lv_at hl 0 rfl) ?_
    refine va_get (D := D) (ci := 9) (v := .ref (a 1)) (C := RX7) (T := TX7) (N := 24) hx hb hts (by decide +kernel) hown hK hP 0 rfl rfl 0 (by decide) (hts (.fieldLink RX7 7 "LandDeedsModel" "state" "[I") (by decide +kernel)) (fun _ h9 => h9) rfl dX7_isOlder_28 ?_
    refine lv_iconst (v := 0) hx hb dX7_isOlder_31 (by decide) ?_
    refine lv_iload_n hx hb dX7_isOlder_32 rfl (lv_at hl 2 rfl) ?_
    refine lv_iadd hx hb dX7_isOlder_33 ?_
    refine u_eqi (show 0 + (nI o) = nI o from Int32.zero_add _) ?_
    refine u_iald hx hb hK hP 1 0 rfl rfl rfl ⟨by omega, by omega⟩ dX7_isOlder_34 ?_
    refine lv_icmp_ne (tgt := 47) hx hb dX7_isOlder_35 (by decide) (fun c_2 => ?_) (fun c_2 => ?_)
    · skip
      refine lv_iconst (v := 0) hx hb dX7_isOlder_47 (by decide) ?_
      rw [← hQ]
      exact W.zret (v := 0) hx hb hr (by decide) (fun t ht hW => ⟨_, rfl, (zb_f (by unfold old; simp only [Int32.lt_iff_toInt_lt, ← Int32.toInt_inj] at c_1 c_2; omega)), ht⟩) (fun q h => absurd h List.not_mem_nil) dX7_isOlder_48
    · skip
      refine lv_iload_n hx hb dX7_isOlder_38 rfl (lv_at hl 1 rfl) ?_
      refine lv_iload_n hx hb dX7_isOlder_39 rfl (lv_at hl 2 rfl) ?_
      refine lv_icmp_ge (tgt := 47) hx hb dX7_isOlder_40 (by decide) (fun c_3 => ?_) (fun c_3 => ?_)
      · skip
        have nc_3 : o ≤ j := (nI_leI (a := o) (b := j) (by omega) (by omega)).mp c_3
        refine lv_iconst (v := 0) hx hb dX7_isOlder_47 (by decide) ?_
        rw [← hQ]
        exact W.zret (v := 0) hx hb hr (by decide) (fun t ht hW => ⟨_, rfl, (zb_f (by unfold old; simp only [Int32.lt_iff_toInt_lt, ← Int32.toInt_inj] at c_1 c_2; omega)), ht⟩) (fun q h => absurd h List.not_mem_nil) dX7_isOlder_48
      · skip
        have nc_3 : ¬ (o ≤ j) := fun h => c_3 ((nI_leI (a := o) (b := j) (by omega) (by omega)).mpr h)
        refine lv_iconst (v := 1) hx hb dX7_isOlder_43 (by decide) ?_
        refine lv_goto (tgt := 48) hx hb dX7_isOlder_44 (by decide) ?_
        rw [← hQ]
        exact W.zret (v := 1) hx hb hr (by decide) (fun t ht hW => ⟨_, rfl, (zb_t (by unfold old; simp only [Int32.lt_iff_toInt_lt, ← Int32.toInt_inj] at c_1 c_2; omega)), ht⟩) (fun q h => absurd h List.not_mem_nil) dX7_isOlder_48

set_option maxHeartbeats 4000000 in
set_option maxRecDepth 100000 in
theorem c_X7_liesNow (l : Launch) (D : va_G) (cI cB cZ cP : ClassId) (a : Nat → Nat) (v : Nat → Int32) (su sl : Int64) (F : Nat → Nat → Int32) (nn : Nat) (X Y : Nat → Int32) (x y : Int32) (hn8 : nn ≤ 8) : Met l yX7_liesNow wsX7_liesNow ({ frames := 4, cells := 0, slots := 0, locals := 92 } : Room) (va_Pc [.ref (a 0), .int x, .int y] (fun U => va_P D vwCl (MW cI cZ a (upd v 7 (nI nn)) su sl (updF (updF F 7 X) 8 Y)) U.heap ∧ KW D cI cB cZ cP U ∧ E0 U.heap)) (vp_Si (fun r => r = nI (lies nn X Y x y))) 0 0 (fun _ => False) := by
  refine Met.ofW (cc := cX7_liesNow) (maxL := 7) (ret := (some .int)) (by decide) rfl ?_
  intro p e s m args below meth c s₁ B hml hv
  obtain ⟨rfl, hP, hW0, hE⟩ := hv
  have hx := B.exec
  have hb := B.bytes
  have hr := B.returns
  have hts := atoms_spec (ws := wsX7_liesNow) B.pre
  have hown : s.vm.findClass RX7 = some m.cls := findClass_of_methodNamed B.named
  have hlocks := B.notSynchronized
  have hK := hW0.1
  have hl := lv_entry ([.ref (a 0), .int x, .int y]) (n := 7) (Nat.le_of_ble_eq_true rfl)
  rw [lg_entry_eq]
  generalize (lg_sl ([.ref (a 0), .int x, .int y]) ++ List.replicate (7 - (lg_sl ([.ref (a 0), .int x, .int y])).length) Slot.unset).toArray = ls at hl ⊢
  have hl : lv_has ls 7 [(0, .ref (a 0)), (1, .int x), (2, .int y)] := hl
  show W p l e ({ frames := 4, cells := 0, slots := 0, locals := 92 } : Room) s m ([.ref (a 0), .int x, .int y] : List Value).toArray below meth c s.heap [] 0 0 _ (F0 m 0 ls [])
  refine u_genQ (fun Q hQ => ?_)
  refine lv_iconst (v := 0) hx hb dX7_liesNow_0 (by decide) ?_
  refine lv_istore_n (lv' := [(3, .int 0), (0, .ref (a 0)), (1, .int x), (2, .int y)]) hx hb dX7_liesNow_1 rfl hl (by decide) rfl (fun ls hl => ?_)
  refine lv_iconst (v := 0) hx hb dX7_liesNow_2 (by decide) ?_
  refine lv_istore (lv' := [(4, .int 0), (3, .int 0), (0, .ref (a 0)), (1, .int x), (2, .int y)]) hx hb dX7_liesNow_3 hl (by decide) rfl (fun ls hl => ?_)
  have LOOP_5 : ∀ (fu : Nat) (k : Nat) (hk0 : k ≤ nn) (hA1 : ∀ z, z < k → ¬ sdO nn X Y z x y) (hn : nn - k < fu) (ls : Array Slot) (hl : lv_has ls 7 [(0, .ref (a 0)), (1, .int x), (2, .int y), (3, .int (nI (cnt (crs nn X Y x y) k % 2))), (4, .int (nI k))]), W p l e ({ frames := 4, cells := 0, slots := 0, locals := 92 } : Room) s m ([.ref (a 0), .int x, .int y] : List Value).toArray below meth c s.heap [] 0 0 Q (F0 m 5 ls []) := by
    intro fu
    induction fu with
    | zero => intro k hk0 hA1 hn ls hl; exact absurd hn (Nat.not_lt_zero _)
    | succ fu ih_5 =>
      intro k hk0 hA1 hn ls hl
      refine lv_iload hx hb dX7_liesNow_5 (lv_at hl 4 rfl) ?_
      refine lv_aload_n hx hb dX7_liesNow_7 rfl (lv_at hl 0 rfl) ?_
      refine va_get (D := D) (ci := 9) (v := .int (nI nn)) (C := RX7) (T := TX7) (N := 24) hx hb hts (by decide +kernel) hown hK hP 0 rfl rfl 7 (by decide) (hts (.fieldLink RX7 58 "LandDeedsModel" "calls" "I") (by decide +kernel)) (fun _ h9 => h9) rfl dX7_liesNow_8 ?_
      refine lv_icmp_ge (tgt := 111) hx hb dX7_liesNow_11 (by decide) (fun c_1 => ?_) (fun c_1 => ?_)
      · skip
        have nc_1 : nn ≤ k := (nI_leI (a := nn) (b := k) (by omega) (by omega)).mp c_1
        have hk9 : k = nn := by omega
        refine lv_iload_n hx hb dX7_liesNow_111 rfl (lv_at hl 3 rfl) ?_
        refine lv_if_eq (tgt := 119) hx hb dX7_liesNow_112 (by decide) (fun c_2 => ?_) (fun c_2 => ?_)
        · skip
          have nc_2 : cnt (crs nn X Y x y) k % 2 = 0 := (nI_eq (a := (cnt (crs nn X Y x y) k % 2)) (b := 0) (by omega) (by omega)).mp c_2
          refine lv_iconst (v := 0) hx hb dX7_liesNow_119 (by decide) ?_
          rw [← hQ]
          exact W.iret (v := 0) hx hb hr (fun t ht hW => ⟨_, rfl, (lies_0 (fun q => by obtain ⟨z, h1, h2⟩ := q; exact hA1 z (by omega) h2) (by have h9 := congrArg (cnt (crs nn X Y x y)) hk9; omega)), ht⟩) (fun q h => absurd h List.not_mem_nil) dX7_liesNow_120
        · skip
          have nc_2 : ¬ (cnt (crs nn X Y x y) k % 2 = 0) := fun h => c_2 ((nI_eq (a := (cnt (crs nn X Y x y) k % 2)) (b := 0) (by omega) (by omega)).mpr h)
          refine lv_iconst (v := 2) hx hb dX7_liesNow_115 (by decide) ?_
          refine lv_goto (tgt := 120) hx hb dX7_liesNow_116 (by decide) ?_
          rw [← hQ]
          exact W.iret (v := 2) hx hb hr (fun t ht hW => ⟨_, rfl, (lies_2 (fun q => by obtain ⟨z, h1, h2⟩ := q; exact hA1 z (by omega) h2) (by have h9 := congrArg (cnt (crs nn X Y x y)) hk9; omega)), ht⟩) (fun q h => absurd h List.not_mem_nil) dX7_liesNow_120
      · skip
        have nc_1 : ¬ (nn ≤ k) := fun h => c_1 ((nI_leI (a := nn) (b := k) (by omega) (by omega)).mpr h)
        have hk : k < nn := by omega
        have hnx := nxt_lt hk
        refine lv_aload_n hx hb dX7_liesNow_14 rfl (lv_at hl 0 rfl) ?_
        refine lv_iload hx hb dX7_liesNow_15 (lv_at hl 4 rfl) ?_
        refine lv_iload_n hx hb dX7_liesNow_17 rfl (lv_at hl 1 rfl) ?_
        refine lv_iload_n hx hb dX7_liesNow_18 rfl (lv_at hl 2 rfl) ?_
        have hPc := hP
        refine u_callSi (W.runV (As := [.int (nI k), .int x, .int y]) (rest := []) ⟨hx, hb, hml, hown, hts⟩ (c_X7_isOnSide l D cI cB cZ cP a v su sl F nn X Y k x y (by first | assumption | omega) (by first | assumption | omega)) (cwV 3 hts gX7_liesNow_X7_isOnSide rfl rfl rfl (by decide +kernel) ⟨Nat.le_of_ble_eq_true rfl, Nat.le_of_ble_eq_true rfl⟩) (pV (q0 := 0) hPc hW0 trivial rfl rfl) rfl rfl hl.1 rfl (lv_room (Nat.le_of_ble_eq_true rfl)) dX7_liesNow_19 ⟨Nat.le_of_ble_eq_true rfl, Nat.le_of_ble_eq_true rfl⟩) ?_
        refine lv_if_eq (tgt := 27) hx hb dX7_liesNow_22 (by decide) (fun c_3 => ?_) (fun c_3 => ?_)
        · skip
          have nc_3 := zb_eq0.mp c_3
          refine lv_aload_n hx hb dX7_liesNow_27 rfl (lv_at hl 0 rfl) ?_
          refine va_get (D := D) (ci := 9) (v := .ref (a 8)) (C := RX7) (T := TX7) (N := 24) hx hb hts (by decide +kernel) hown hK hP 0 rfl rfl 12 (by decide) (hts (.fieldLink RX7 32 "LandDeedsModel" "cy" "[I") (by decide +kernel)) (fun _ h9 => h9) rfl dX7_liesNow_28 ?_
          refine lv_iload hx hb dX7_liesNow_31 (lv_at hl 4 rfl) ?_
          refine u_iald hx hb hK hP 8 0 rfl rfl rfl ⟨by omega, by omega⟩ dX7_liesNow_33 ?_
          refine lv_istore (lv' := [(5, .int (Y k)), (0, .ref (a 0)), (1, .int x), (2, .int y), (3, .int (nI (cnt (crs nn X Y x y) k % 2))), (4, .int (nI k))]) hx hb dX7_liesNow_34 hl (by decide) rfl (fun ls hl => ?_)
          refine lv_aload_n hx hb dX7_liesNow_36 rfl (lv_at hl 1 rfl) ?_
          refine va_get (D := D) (ci := 9) (v := .ref (a 8)) (C := RX7) (T := TX7) (N := 24) hx hb hts (by decide +kernel) hown hK hP 0 rfl rfl 12 (by decide) (hts (.fieldLink RX7 32 "LandDeedsModel" "cy" "[I") (by decide +kernel)) (fun _ h9 => h9) rfl dX7_liesNow_37 ?_
          refine lv_aload_n hx hb dX7_liesNow_40 rfl (lv_at hl 1 rfl) ?_
          refine lv_iload hx hb dX7_liesNow_41 (lv_at hl 5 rfl) ?_
          have hPc := hP
          refine u_callSi (W.runV (As := [.int (nI k)]) (rest := [.ref (a 8)]) ⟨hx, hb, hml, hown, hts⟩ (c_X7_next l D cI cB cZ cP a v su sl F nn X Y k (by first | assumption | omega) (by first | assumption | omega)) (cwV 1 hts gX7_liesNow_X7_next rfl rfl rfl (by decide +kernel) ⟨Nat.le_of_ble_eq_true rfl, Nat.le_of_ble_eq_true rfl⟩) (pV (q0 := 0) hPc hW0 trivial rfl rfl) rfl rfl hl.1 rfl (lv_room (Nat.le_of_ble_eq_true rfl)) dX7_liesNow_43 ⟨Nat.le_of_ble_eq_true rfl, Nat.le_of_ble_eq_true rfl⟩) ?_
          refine u_iald hx hb hK hP 8 0 rfl rfl rfl ⟨by omega, by omega⟩ dX7_liesNow_46 ?_
          refine lv_istore (lv' := [(6, .int (Y (nxt nn k))), (5, .int (Y k)), (0, .ref (a 0)), (1, .int x), (2, .int y), (3, .int (nI (cnt (crs nn X Y x y) k % 2))), (4, .int (nI k))]) hx hb dX7_liesNow_47 hl (by decide) rfl (fun ls hl => ?_)
          refine lv_iload hx hb dX7_liesNow_49 (lv_at hl 1 rfl) ?_
          refine lv_iload_n hx hb dX7_liesNow_51 rfl (lv_at hl 4 rfl) ?_
          refine lv_icmp_gt (tgt := 72) hx hb dX7_liesNow_52 (by decide) (fun c_4 => ?_) (fun c_4 => ?_)
          · skip
            refine lv_iload hx hb dX7_liesNow_72 (lv_at hl 0 rfl) ?_
            refine lv_iload_n hx hb dX7_liesNow_74 rfl (lv_at hl 4 rfl) ?_
            refine lv_icmp_gt (tgt := 105) hx hb dX7_liesNow_75 (by decide) (fun c_5 => ?_) (fun c_5 => ?_)
            · skip
              have hcr : ¬ crs nn X Y x y k := by unfold crs; simp only [Int32.lt_iff_toInt_lt, Int32.le_iff_toInt_le, sgI_pos, sgI_neg, sgI_le, sgI_ge, li_0] at c_4 c_5 ⊢; omega
              refine lv_iinc (v := nI (k + 1)) (lv' := [(4, .int (nI (k + 1))), (6, .int (Y (nxt nn k))), (5, .int (Y k)), (0, .ref (a 0)), (1, .int x), (2, .int y), (3, .int (nI (cnt (crs nn X Y x y) k % 2)))]) hx hb dX7_liesNow_105 hl (k := 6) rfl (nI_1 _) (by decide) rfl (fun ls hl => ?_)
              refine lv_goto (tgt := 5) hx hb dX7_liesNow_108 (by decide) ?_
              exact ih_5 (k + 1) (by omega) (fun z hz => by rcases Nat.lt_succ_iff_lt_or_eq.mp hz with h | h; exact hA1 z h; exact h ▸ nc_3) (by omega) ls (by rw [cnt_f hcr]; exact (lv_sub hl [3, 4, 5, 6, 0] rfl))
            · skip
              refine lv_iload hx hb dX7_liesNow_78 (lv_at hl 1 rfl) ?_
              refine lv_iload_n hx hb dX7_liesNow_80 rfl (lv_at hl 4 rfl) ?_
              refine lv_icmp_le (tgt := 105) hx hb dX7_liesNow_81 (by decide) (fun c_6 => ?_) (fun c_6 => ?_)
              · skip
                have hcr : ¬ crs nn X Y x y k := by unfold crs; simp only [Int32.lt_iff_toInt_lt, Int32.le_iff_toInt_le, sgI_pos, sgI_neg, sgI_le, sgI_ge, li_0] at c_4 c_5 c_6 ⊢; omega
                refine lv_iinc (v := nI (k + 1)) (lv' := [(4, .int (nI (k + 1))), (6, .int (Y (nxt nn k))), (5, .int (Y k)), (0, .ref (a 0)), (1, .int x), (2, .int y), (3, .int (nI (cnt (crs nn X Y x y) k % 2)))]) hx hb dX7_liesNow_105 hl (k := 6) rfl (nI_1 _) (by decide) rfl (fun ls hl => ?_)
                refine lv_goto (tgt := 5) hx hb dX7_liesNow_108 (by decide) ?_
                exact ih_5 (k + 1) (by omega) (fun z hz => by rcases Nat.lt_succ_iff_lt_or_eq.mp hz with h | h; exact hA1 z h; exact h ▸ nc_3) (by omega) ls (by rw [cnt_f hcr]; exact (lv_sub hl [3, 4, 5, 6, 0] rfl))
              · skip
                refine lv_aload_n hx hb dX7_liesNow_84 rfl (lv_at hl 2 rfl) ?_
                refine lv_iload hx hb dX7_liesNow_85 (lv_at hl 6 rfl) ?_
                refine lv_iload_n hx hb dX7_liesNow_87 rfl (lv_at hl 3 rfl) ?_
                refine lv_iload_n hx hb dX7_liesNow_88 rfl (lv_at hl 4 rfl) ?_
                have hPc := hP
                refine u_callSi (W.runV (As := [.int (nI k), .int x, .int y]) (rest := []) ⟨hx, hb, hml, hown, hts⟩ (c_X7_turnOf l D cI cB cZ cP a v su sl F nn X Y k x y (by first | assumption | omega) (by first | assumption | omega)) (cwV 3 hts gX7_liesNow_X7_turnOf rfl rfl rfl (by decide +kernel) ⟨Nat.le_of_ble_eq_true rfl, Nat.le_of_ble_eq_true rfl⟩) (pV (q0 := 0) hPc hW0 trivial rfl rfl) rfl rfl hl.1 rfl (lv_room (Nat.le_of_ble_eq_true rfl)) dX7_liesNow_89 ⟨Nat.le_of_ble_eq_true rfl, Nat.le_of_ble_eq_true rfl⟩) ?_
                refine lv_if_ge (tgt := 105) hx hb dX7_liesNow_92 (by decide) (fun c_7 => ?_) (fun c_7 => ?_)
                · skip
                  have hcr : ¬ crs nn X Y x y k := by unfold crs; simp only [Int32.lt_iff_toInt_lt, Int32.le_iff_toInt_le, sgI_pos, sgI_neg, sgI_le, sgI_ge, li_0] at c_4 c_5 c_6 c_7 ⊢; omega
                  refine lv_iinc (v := nI (k + 1)) (lv' := [(4, .int (nI (k + 1))), (6, .int (Y (nxt nn k))), (5, .int (Y k)), (0, .ref (a 0)), (1, .int x), (2, .int y), (3, .int (nI (cnt (crs nn X Y x y) k % 2)))]) hx hb dX7_liesNow_105 hl (k := 6) rfl (nI_1 _) (by decide) rfl (fun ls hl => ?_)
                  refine lv_goto (tgt := 5) hx hb dX7_liesNow_108 (by decide) ?_
                  exact ih_5 (k + 1) (by omega) (fun z hz => by rcases Nat.lt_succ_iff_lt_or_eq.mp hz with h | h; exact hA1 z h; exact h ▸ nc_3) (by omega) ls (by rw [cnt_f hcr]; exact (lv_sub hl [3, 4, 5, 6, 0] rfl))
                · skip
                  have hcr : crs nn X Y x y k := by unfold crs; simp only [Int32.lt_iff_toInt_lt, Int32.le_iff_toInt_le, sgI_pos, sgI_neg, sgI_le, sgI_ge, li_0] at c_4 c_5 c_6 c_7 ⊢; omega
                  refine lv_iload_n hx hb dX7_liesNow_95 rfl (lv_at hl 5 rfl) ?_
                  refine lv_if_ne (tgt := 103) hx hb dX7_liesNow_96 (by decide) (fun c_8 => ?_) (fun c_8 => ?_)
                  · skip
                    have nc_8 : ¬ (cnt (crs nn X Y x y) k % 2 = 0) := fun h => c_8 ((nI_eq (a := (cnt (crs nn X Y x y) k % 2)) (b := 0) (by omega) (by omega)).mpr h)
                    refine lv_iconst (v := 0) hx hb dX7_liesNow_103 (by decide) ?_
                    refine lv_istore_n (lv' := [(3, .int 0), (6, .int (Y (nxt nn k))), (5, .int (Y k)), (0, .ref (a 0)), (1, .int x), (2, .int y), (4, .int (nI k))]) hx hb dX7_liesNow_104 rfl hl (by decide) rfl (fun ls hl => ?_)
                    refine lv_iinc (v := nI (k + 1)) (lv' := [(4, .int (nI (k + 1))), (3, .int 0), (6, .int (Y (nxt nn k))), (5, .int (Y k)), (0, .ref (a 0)), (1, .int x), (2, .int y)]) hx hb dX7_liesNow_105 hl (k := 6) rfl (nI_1 _) (by decide) rfl (fun ls hl => ?_)
                    refine lv_goto (tgt := 5) hx hb dX7_liesNow_108 (by decide) ?_
                    exact ih_5 (k + 1) (by omega) (fun z hz => by rcases Nat.lt_succ_iff_lt_or_eq.mp hz with h | h; exact hA1 z h; exact h ▸ nc_3) (by omega) ls (by rw [cnt_t hcr, show (cnt (crs nn X Y x y) k + 1) % 2 = 0 by omega]; exact (lv_sub hl [4, 5, 6, 1, 0] rfl))
                  · skip
                    have nc_8 : cnt (crs nn X Y x y) k % 2 = 0 := (nI_eq (a := (cnt (crs nn X Y x y) k % 2)) (b := 0) (by omega) (by omega)).mp c_8
                    refine lv_iconst (v := 1) hx hb dX7_liesNow_99 (by decide) ?_
                    refine lv_goto (tgt := 104) hx hb dX7_liesNow_100 (by decide) ?_
                    refine lv_istore_n (lv' := [(3, .int 1), (6, .int (Y (nxt nn k))), (5, .int (Y k)), (0, .ref (a 0)), (1, .int x), (2, .int y), (4, .int (nI k))]) hx hb dX7_liesNow_104 rfl hl (by decide) rfl (fun ls hl => ?_)
                    refine lv_iinc (v := nI (k + 1)) (lv' := [(4, .int (nI (k + 1))), (3, .int 1), (6, .int (Y (nxt nn k))), (5, .int (Y k)), (0, .ref (a 0)), (1, .int x), (2, .int y)]) hx hb dX7_liesNow_105 hl (k := 6) rfl (nI_1 _) (by decide) rfl (fun ls hl => ?_)
                    refine lv_goto (tgt := 5) hx hb dX7_liesNow_108 (by decide) ?_
                    exact ih_5 (k + 1) (by omega) (fun z hz => by rcases Nat.lt_succ_iff_lt_or_eq.mp hz with h | h; exact hA1 z h; exact h ▸ nc_3) (by omega) ls (by rw [cnt_t hcr, show (cnt (crs nn X Y x y) k + 1) % 2 = 1 by omega]; exact (lv_sub hl [4, 5, 6, 1, 0] rfl))
          · skip
            refine lv_iload hx hb dX7_liesNow_55 (lv_at hl 0 rfl) ?_
            refine lv_iload_n hx hb dX7_liesNow_57 rfl (lv_at hl 4 rfl) ?_
            refine lv_icmp_le (tgt := 72) hx hb dX7_liesNow_58 (by decide) (fun c_9 => ?_) (fun c_9 => ?_)
            · skip
              refine lv_iload hx hb dX7_liesNow_72 (lv_at hl 0 rfl) ?_
              refine lv_iload_n hx hb dX7_liesNow_74 rfl (lv_at hl 4 rfl) ?_
              refine lv_icmp_gt (tgt := 105) hx hb dX7_liesNow_75 (by decide) (fun c_10 => ?_) (fun c_10 => ?_)
              · skip
                have hcr : ¬ crs nn X Y x y k := by unfold crs; simp only [Int32.lt_iff_toInt_lt, Int32.le_iff_toInt_le, sgI_pos, sgI_neg, sgI_le, sgI_ge, li_0] at c_4 c_9 c_10 ⊢; omega
                refine lv_iinc (v := nI (k + 1)) (lv' := [(4, .int (nI (k + 1))), (6, .int (Y (nxt nn k))), (5, .int (Y k)), (0, .ref (a 0)), (1, .int x), (2, .int y), (3, .int (nI (cnt (crs nn X Y x y) k % 2)))]) hx hb dX7_liesNow_105 hl (k := 6) rfl (nI_1 _) (by decide) rfl (fun ls hl => ?_)
                refine lv_goto (tgt := 5) hx hb dX7_liesNow_108 (by decide) ?_
                exact ih_5 (k + 1) (by omega) (fun z hz => by rcases Nat.lt_succ_iff_lt_or_eq.mp hz with h | h; exact hA1 z h; exact h ▸ nc_3) (by omega) ls (by rw [cnt_f hcr]; exact (lv_sub hl [3, 4, 5, 6, 0] rfl))
              · skip
                refine lv_iload hx hb dX7_liesNow_78 (lv_at hl 1 rfl) ?_
                refine lv_iload_n hx hb dX7_liesNow_80 rfl (lv_at hl 4 rfl) ?_
                refine lv_icmp_le (tgt := 105) hx hb dX7_liesNow_81 (by decide) (fun c_11 => ?_) (fun c_11 => ?_)
                · skip
                  have hcr : ¬ crs nn X Y x y k := by unfold crs; simp only [Int32.lt_iff_toInt_lt, Int32.le_iff_toInt_le, sgI_pos, sgI_neg, sgI_le, sgI_ge, li_0] at c_4 c_9 c_10 c_11 ⊢; omega
                  refine lv_iinc (v := nI (k + 1)) (lv' := [(4, .int (nI (k + 1))), (6, .int (Y (nxt nn k))), (5, .int (Y k)), (0, .ref (a 0)), (1, .int x), (2, .int y), (3, .int (nI (cnt (crs nn X Y x y) k % 2)))]) hx hb dX7_liesNow_105 hl (k := 6) rfl (nI_1 _) (by decide) rfl (fun ls hl => ?_)
                  refine lv_goto (tgt := 5) hx hb dX7_liesNow_108 (by decide) ?_
                  exact ih_5 (k + 1) (by omega) (fun z hz => by rcases Nat.lt_succ_iff_lt_or_eq.mp hz with h | h; exact hA1 z h; exact h ▸ nc_3) (by omega) ls (by rw [cnt_f hcr]; exact (lv_sub hl [3, 4, 5, 6, 0] rfl))
                · skip
                  refine lv_aload_n hx hb dX7_liesNow_84 rfl (lv_at hl 2 rfl) ?_
                  refine lv_iload hx hb dX7_liesNow_85 (lv_at hl 6 rfl) ?_
                  refine lv_iload_n hx hb dX7_liesNow_87 rfl (lv_at hl 3 rfl) ?_
                  refine lv_iload_n hx hb dX7_liesNow_88 rfl (lv_at hl 4 rfl) ?_
                  have hPc := hP
                  refine u_callSi (W.runV (As := [.int (nI k), .int x, .int y]) (rest := []) ⟨hx, hb, hml, hown, hts⟩ (c_X7_turnOf l D cI cB cZ cP a v su sl F nn X Y k x y (by first | assumption | omega) (by first | assumption | omega)) (cwV 3 hts gX7_liesNow_X7_turnOf rfl rfl rfl (by decide +kernel) ⟨Nat.le_of_ble_eq_true rfl, Nat.le_of_ble_eq_true rfl⟩) (pV (q0 := 0) hPc hW0 trivial rfl rfl) rfl rfl hl.1 rfl (lv_room (Nat.le_of_ble_eq_true rfl)) dX7_liesNow_89 ⟨Nat.le_of_ble_eq_true rfl, Nat.le_of_ble_eq_true rfl⟩) ?_
                  refine lv_if_ge (tgt := 105) hx hb dX7_liesNow_92 (by decide) (fun c_12 => ?_) (fun c_12 => ?_)
                  · skip
                    have hcr : ¬ crs nn X Y x y k := by unfold crs; simp only [Int32.lt_iff_toInt_lt, Int32.le_iff_toInt_le, sgI_pos, sgI_neg, sgI_le, sgI_ge, li_0] at c_4 c_9 c_10 c_11 c_12 ⊢; omega
                    refine lv_iinc (v := nI (k + 1)) (lv' := [(4, .int (nI (k + 1))), (6, .int (Y (nxt nn k))), (5, .int (Y k)), (0, .ref (a 0)), (1, .int x), (2, .int y), (3, .int (nI (cnt (crs nn X Y x y) k % 2)))]) hx hb dX7_liesNow_105 hl (k := 6) rfl (nI_1 _) (by decide) rfl (fun ls hl => ?_)
                    refine lv_goto (tgt := 5) hx hb dX7_liesNow_108 (by decide) ?_
                    exact ih_5 (k + 1) (by omega) (fun z hz => by rcases Nat.lt_succ_iff_lt_or_eq.mp hz with h | h; exact hA1 z h; exact h ▸ nc_3) (by omega) ls (by rw [cnt_f hcr]; exact (lv_sub hl [3, 4, 5, 6, 0] rfl))
                  · skip
                    have hcr : crs nn X Y x y k := by unfold crs; simp only [Int32.lt_iff_toInt_lt, Int32.le_iff_toInt_le, sgI_pos, sgI_neg, sgI_le, sgI_ge, li_0] at c_4 c_9 c_10 c_11 c_12 ⊢; omega
                    refine lv_iload_n hx hb dX7_liesNow_95 rfl (lv_at hl 5 rfl) ?_
                    refine lv_if_ne (tgt := 103) hx hb dX7_liesNow_96 (by decide) (fun c_13 => ?_) (fun c_13 => ?_)
                    · skip
                      have nc_13 : ¬ (cnt (crs nn X Y x y) k % 2 = 0) := fun h => c_13 ((nI_eq (a := (cnt (crs nn X Y x y) k % 2)) (b := 0) (by omega) (by omega)).mpr h)
                      refine lv_iconst (v := 0) hx hb dX7_liesNow_103 (by decide) ?_
                      refine lv_istore_n (lv' := [(3, .int 0), (6, .int (Y (nxt nn k))), (5, .int (Y k)), (0, .ref (a 0)), (1, .int x), (2, .int y), (4, .int (nI k))]) hx hb dX7_liesNow_104 rfl hl (by decide) rfl (fun ls hl => ?_)
                      refine lv_iinc (v := nI (k + 1)) (lv' := [(4, .int (nI (k + 1))), (3, .int 0), (6, .int (Y (nxt nn k))), (5, .int (Y k)), (0, .ref (a 0)), (1, .int x), (2, .int y)]) hx hb dX7_liesNow_105 hl (k := 6) rfl (nI_1 _) (by decide) rfl (fun ls hl => ?_)
                      refine lv_goto (tgt := 5) hx hb dX7_liesNow_108 (by decide) ?_
                      exact ih_5 (k + 1) (by omega) (fun z hz => by rcases Nat.lt_succ_iff_lt_or_eq.mp hz with h | h; exact hA1 z h; exact h ▸ nc_3) (by omega) ls (by rw [cnt_t hcr, show (cnt (crs nn X Y x y) k + 1) % 2 = 0 by omega]; exact (lv_sub hl [4, 5, 6, 1, 0] rfl))
                    · skip
                      have nc_13 : cnt (crs nn X Y x y) k % 2 = 0 := (nI_eq (a := (cnt (crs nn X Y x y) k % 2)) (b := 0) (by omega) (by omega)).mp c_13
                      refine lv_iconst (v := 1) hx hb dX7_liesNow_99 (by decide) ?_
                      refine lv_goto (tgt := 104) hx hb dX7_liesNow_100 (by decide) ?_
                      refine lv_istore_n (lv' := [(3, .int 1), (6, .int (Y (nxt nn k))), (5, .int (Y k)), (0, .ref (a 0)), (1, .int x), (2, .int y), (4, .int (nI k))]) hx hb dX7_liesNow_104 rfl hl (by decide) rfl (fun ls hl => ?_)
                      refine lv_iinc (v := nI (k + 1)) (lv' := [(4, .int (nI (k + 1))), (3, .int 1), (6, .int (Y (nxt nn k))), (5, .int (Y k)), (0, .ref (a 0)), (1, .int x), (2, .int y)]) hx hb dX7_liesNow_105 hl (k := 6) rfl (nI_1 _) (by decide) rfl (fun ls hl => ?_)
                      refine lv_goto (tgt := 5) hx hb dX7_liesNow_108 (by decide) ?_
                      exact ih_5 (k + 1) (by omega) (fun z hz => by rcases Nat.lt_succ_iff_lt_or_eq.mp hz with h | h; exact hA1 z h; exact h ▸ nc_3) (by omega) ls (by rw [cnt_t hcr, show (cnt (crs nn X Y x y) k + 1) % 2 = 1 by omega]; exact (lv_sub hl [4, 5, 6, 1, 0] rfl))
            · skip
              refine lv_aload_n hx hb dX7_liesNow_61 rfl (lv_at hl 2 rfl) ?_
              refine lv_iload hx hb dX7_liesNow_62 (lv_at hl 6 rfl) ?_
              refine lv_iload_n hx hb dX7_liesNow_64 rfl (lv_at hl 3 rfl) ?_
              refine lv_iload_n hx hb dX7_liesNow_65 rfl (lv_at hl 4 rfl) ?_
              have hPc := hP
              refine u_callSi (W.runV (As := [.int (nI k), .int x, .int y]) (rest := []) ⟨hx, hb, hml, hown, hts⟩ (c_X7_turnOf l D cI cB cZ cP a v su sl F nn X Y k x y (by first | assumption | omega) (by first | assumption | omega)) (cwV 3 hts gX7_liesNow_X7_turnOf rfl rfl rfl (by decide +kernel) ⟨Nat.le_of_ble_eq_true rfl, Nat.le_of_ble_eq_true rfl⟩) (pV (q0 := 0) hPc hW0 trivial rfl rfl) rfl rfl hl.1 rfl (lv_room (Nat.le_of_ble_eq_true rfl)) dX7_liesNow_66 ⟨Nat.le_of_ble_eq_true rfl, Nat.le_of_ble_eq_true rfl⟩) ?_
              refine lv_if_gt (tgt := 95) hx hb dX7_liesNow_69 (by decide) (fun c_14 => ?_) (fun c_14 => ?_)
              · skip
                have hcr : crs nn X Y x y k := by unfold crs; simp only [Int32.lt_iff_toInt_lt, Int32.le_iff_toInt_le, sgI_pos, sgI_neg, sgI_le, sgI_ge, li_0] at c_4 c_9 c_14 ⊢; omega
                refine lv_iload_n hx hb dX7_liesNow_95 rfl (lv_at hl 5 rfl) ?_
                refine lv_if_ne (tgt := 103) hx hb dX7_liesNow_96 (by decide) (fun c_15 => ?_) (fun c_15 => ?_)
                · skip
                  have nc_15 : ¬ (cnt (crs nn X Y x y) k % 2 = 0) := fun h => c_15 ((nI_eq (a := (cnt (crs nn X Y x y) k % 2)) (b := 0) (by omega) (by omega)).mpr h)
                  refine lv_iconst (v := 0) hx hb dX7_liesNow_103 (by decide) ?_
                  refine lv_istore_n (lv' := [(3, .int 0), (6, .int (Y (nxt nn k))), (5, .int (Y k)), (0, .ref (a 0)), (1, .int x), (2, .int y), (4, .int (nI k))]) hx hb dX7_liesNow_104 rfl hl (by decide) rfl (fun ls hl => ?_)
                  refine lv_iinc (v := nI (k + 1)) (lv' := [(4, .int (nI (k + 1))), (3, .int 0), (6, .int (Y (nxt nn k))), (5, .int (Y k)), (0, .ref (a 0)), (1, .int x), (2, .int y)]) hx hb dX7_liesNow_105 hl (k := 6) rfl (nI_1 _) (by decide) rfl (fun ls hl => ?_)
                  refine lv_goto (tgt := 5) hx hb dX7_liesNow_108 (by decide) ?_
                  exact ih_5 (k + 1) (by omega) (fun z hz => by rcases Nat.lt_succ_iff_lt_or_eq.mp hz with h | h; exact hA1 z h; exact h ▸ nc_3) (by omega) ls (by rw [cnt_t hcr, show (cnt (crs nn X Y x y) k + 1) % 2 = 0 by omega]; exact (lv_sub hl [4, 5, 6, 1, 0] rfl))
                · skip
                  have nc_15 : cnt (crs nn X Y x y) k % 2 = 0 := (nI_eq (a := (cnt (crs nn X Y x y) k % 2)) (b := 0) (by omega) (by omega)).mp c_15
                  refine lv_iconst (v := 1) hx hb dX7_liesNow_99 (by decide) ?_
                  refine lv_goto (tgt := 104) hx hb dX7_liesNow_100 (by decide) ?_
                  refine lv_istore_n (lv' := [(3, .int 1), (6, .int (Y (nxt nn k))), (5, .int (Y k)), (0, .ref (a 0)), (1, .int x), (2, .int y), (4, .int (nI k))]) hx hb dX7_liesNow_104 rfl hl (by decide) rfl (fun ls hl => ?_)
                  refine lv_iinc (v := nI (k + 1)) (lv' := [(4, .int (nI (k + 1))), (3, .int 1), (6, .int (Y (nxt nn k))), (5, .int (Y k)), (0, .ref (a 0)), (1, .int x), (2, .int y)]) hx hb dX7_liesNow_105 hl (k := 6) rfl (nI_1 _) (by decide) rfl (fun ls hl => ?_)
                  refine lv_goto (tgt := 5) hx hb dX7_liesNow_108 (by decide) ?_
                  exact ih_5 (k + 1) (by omega) (fun z hz => by rcases Nat.lt_succ_iff_lt_or_eq.mp hz with h | h; exact hA1 z h; exact h ▸ nc_3) (by omega) ls (by rw [cnt_t hcr, show (cnt (crs nn X Y x y) k + 1) % 2 = 1 by omega]; exact (lv_sub hl [4, 5, 6, 1, 0] rfl))
              · skip
                refine lv_iload hx hb dX7_liesNow_72 (lv_at hl 0 rfl) ?_
                refine lv_iload_n hx hb dX7_liesNow_74 rfl (lv_at hl 4 rfl) ?_
                refine lv_icmp_gt (tgt := 105) hx hb dX7_liesNow_75 (by decide) (fun c_16 => ?_) (fun c_16 => ?_)
                · skip
                  have hcr : ¬ crs nn X Y x y k := by unfold crs; simp only [Int32.lt_iff_toInt_lt, Int32.le_iff_toInt_le, sgI_pos, sgI_neg, sgI_le, sgI_ge, li_0] at c_4 c_9 c_14 c_16 ⊢; omega
                  refine lv_iinc (v := nI (k + 1)) (lv' := [(4, .int (nI (k + 1))), (6, .int (Y (nxt nn k))), (5, .int (Y k)), (0, .ref (a 0)), (1, .int x), (2, .int y), (3, .int (nI (cnt (crs nn X Y x y) k % 2)))]) hx hb dX7_liesNow_105 hl (k := 6) rfl (nI_1 _) (by decide) rfl (fun ls hl => ?_)
                  refine lv_goto (tgt := 5) hx hb dX7_liesNow_108 (by decide) ?_
                  exact ih_5 (k + 1) (by omega) (fun z hz => by rcases Nat.lt_succ_iff_lt_or_eq.mp hz with h | h; exact hA1 z h; exact h ▸ nc_3) (by omega) ls (by rw [cnt_f hcr]; exact (lv_sub hl [3, 4, 5, 6, 0] rfl))
                · skip
                  refine lv_iload hx hb dX7_liesNow_78 (lv_at hl 1 rfl) ?_
                  refine lv_iload_n hx hb dX7_liesNow_80 rfl (lv_at hl 4 rfl) ?_
                  refine lv_icmp_le (tgt := 105) hx hb dX7_liesNow_81 (by decide) (fun c_17 => ?_) (fun c_17 => ?_)
                  · skip
                    have hcr : ¬ crs nn X Y x y k := by unfold crs; simp only [Int32.lt_iff_toInt_lt, Int32.le_iff_toInt_le, sgI_pos, sgI_neg, sgI_le, sgI_ge, li_0] at c_4 c_9 c_14 c_16 c_17 ⊢; omega
                    refine lv_iinc (v := nI (k + 1)) (lv' := [(4, .int (nI (k + 1))), (6, .int (Y (nxt nn k))), (5, .int (Y k)), (0, .ref (a 0)), (1, .int x), (2, .int y), (3, .int (nI (cnt (crs nn X Y x y) k % 2)))]) hx hb dX7_liesNow_105 hl (k := 6) rfl (nI_1 _) (by decide) rfl (fun ls hl => ?_)
                    refine lv_goto (tgt := 5) hx hb dX7_liesNow_108 (by decide) ?_
                    exact ih_5 (k + 1) (by omega) (fun z hz => by rcases Nat.lt_succ_iff_lt_or_eq.mp hz with h | h; exact hA1 z h; exact h ▸ nc_3) (by omega) ls (by rw [cnt_f hcr]; exact (lv_sub hl [3, 4, 5, 6, 0] rfl))
                  · skip
                    refine lv_aload_n hx hb dX7_liesNow_84 rfl (lv_at hl 2 rfl) ?_
                    refine lv_iload hx hb dX7_liesNow_85 (lv_at hl 6 rfl) ?_
                    refine lv_iload_n hx hb dX7_liesNow_87 rfl (lv_at hl 3 rfl) ?_
                    refine lv_iload_n hx hb dX7_liesNow_88 rfl (lv_at hl 4 rfl) ?_
                    have hPc := hP
                    refine u_callSi (W.runV (As := [.int (nI k), .int x, .int y]) (rest := []) ⟨hx, hb, hml, hown, hts⟩ (c_X7_turnOf l D cI cB cZ cP a v su sl F nn X Y k x y (by first | assumption | omega) (by first | assumption | omega)) (cwV 3 hts gX7_liesNow_X7_turnOf rfl rfl rfl (by decide +kernel) ⟨Nat.le_of_ble_eq_true rfl, Nat.le_of_ble_eq_true rfl⟩) (pV (q0 := 0) hPc hW0 trivial rfl rfl) rfl rfl hl.1 rfl (lv_room (Nat.le_of_ble_eq_true rfl)) dX7_liesNow_89 ⟨Nat.le_of_ble_eq_true rfl, Nat.le_of_ble_eq_true rfl⟩) ?_
                    refine lv_if_ge (tgt := 105) hx hb dX7_liesNow_92 (by decide) (fun c_18 => ?_) (fun c_18 => ?_)
                    · skip
                      have hcr : ¬ crs nn X Y x y k := by unfold crs; simp only [Int32.lt_iff_toInt_lt, Int32.le_iff_toInt_le, sgI_pos, sgI_neg, sgI_le, sgI_ge, li_0] at c_4 c_9 c_14 c_16 c_17 c_18 ⊢; omega
                      refine lv_iinc (v := nI (k + 1)) (lv' := [(4, .int (nI (k + 1))), (6, .int (Y (nxt nn k))), (5, .int (Y k)), (0, .ref (a 0)), (1, .int x), (2, .int y), (3, .int (nI (cnt (crs nn X Y x y) k % 2)))]) hx hb dX7_liesNow_105 hl (k := 6) rfl (nI_1 _) (by decide) rfl (fun ls hl => ?_)
                      refine lv_goto (tgt := 5) hx hb dX7_liesNow_108 (by decide) ?_
                      exact ih_5 (k + 1) (by omega) (fun z hz => by rcases Nat.lt_succ_iff_lt_or_eq.mp hz with h | h; exact hA1 z h; exact h ▸ nc_3) (by omega) ls (by rw [cnt_f hcr]; exact (lv_sub hl [3, 4, 5, 6, 0] rfl))
                    · skip
                      have hcr : crs nn X Y x y k := by unfold crs; simp only [Int32.lt_iff_toInt_lt, Int32.le_iff_toInt_le, sgI_pos, sgI_neg, sgI_le, sgI_ge, li_0] at c_4 c_9 c_14 c_16 c_17 c_18 ⊢; omega
                      refine lv_iload_n hx hb dX7_liesNow_95 rfl (lv_at hl 5 rfl) ?_
                      refine lv_if_ne (tgt := 103) hx hb dX7_liesNow_96 (by decide) (fun c_19 => ?_) (fun c_19 => ?_)
                      · skip
                        have nc_19 : ¬ (cnt (crs nn X Y x y) k % 2 = 0) := fun h => c_19 ((nI_eq (a := (cnt (crs nn X Y x y) k % 2)) (b := 0) (by omega) (by omega)).mpr h)
                        refine lv_iconst (v := 0) hx hb dX7_liesNow_103 (by decide) ?_
                        refine lv_istore_n (lv' := [(3, .int 0), (6, .int (Y (nxt nn k))), (5, .int (Y k)), (0, .ref (a 0)), (1, .int x), (2, .int y), (4, .int (nI k))]) hx hb dX7_liesNow_104 rfl hl (by decide) rfl (fun ls hl => ?_)
                        refine lv_iinc (v := nI (k + 1)) (lv' := [(4, .int (nI (k + 1))), (3, .int 0), (6, .int (Y (nxt nn k))), (5, .int (Y k)), (0, .ref (a 0)), (1, .int x), (2, .int y)]) hx hb dX7_liesNow_105 hl (k := 6) rfl (nI_1 _) (by decide) rfl (fun ls hl => ?_)
                        refine lv_goto (tgt := 5) hx hb dX7_liesNow_108 (by decide) ?_
                        exact ih_5 (k + 1) (by omega) (fun z hz => by rcases Nat.lt_succ_iff_lt_or_eq.mp hz with h | h; exact hA1 z h; exact h ▸ nc_3) (by omega) ls (by rw [cnt_t hcr, show (cnt (crs nn X Y x y) k + 1) % 2 = 0 by omega]; exact (lv_sub hl [4, 5, 6, 1, 0] rfl))
                      · skip
                        have nc_19 : cnt (crs nn X Y x y) k % 2 = 0 := (nI_eq (a := (cnt (crs nn X Y x y) k % 2)) (b := 0) (by omega) (by omega)).mp c_19
                        refine lv_iconst (v := 1) hx hb dX7_liesNow_99 (by decide) ?_
                        refine lv_goto (tgt := 104) hx hb dX7_liesNow_100 (by decide) ?_
                        refine lv_istore_n (lv' := [(3, .int 1), (6, .int (Y (nxt nn k))), (5, .int (Y k)), (0, .ref (a 0)), (1, .int x), (2, .int y), (4, .int (nI k))]) hx hb dX7_liesNow_104 rfl hl (by decide) rfl (fun ls hl => ?_)
                        refine lv_iinc (v := nI (k + 1)) (lv' := [(4, .int (nI (k + 1))), (3, .int 1), (6, .int (Y (nxt nn k))), (5, .int (Y k)), (0, .ref (a 0)), (1, .int x), (2, .int y)]) hx hb dX7_liesNow_105 hl (k := 6) rfl (nI_1 _) (by decide) rfl (fun ls hl => ?_)
                        refine lv_goto (tgt := 5) hx hb dX7_liesNow_108 (by decide) ?_
                        exact ih_5 (k + 1) (by omega) (fun z hz => by rcases Nat.lt_succ_iff_lt_or_eq.mp hz with h | h; exact hA1 z h; exact h ▸ nc_3) (by omega) ls (by rw [cnt_t hcr, show (cnt (crs nn X Y x y) k + 1) % 2 = 1 by omega]; exact (lv_sub hl [4, 5, 6, 1, 0] rfl))
        · skip
          have nc_3 := zb_ne0.mp c_3
          refine lv_iconst (v := 1) hx hb dX7_liesNow_25 (by decide) ?_
          rw [← hQ]
          exact W.iret (v := 1) hx hb hr (fun t ht hW => ⟨_, rfl, (lies_1 ⟨k, by omega, nc_3⟩), ht⟩) (fun q h => absurd h List.not_mem_nil) dX7_liesNow_26
  exact LOOP_5 (nn - 0 + 1) 0 (Nat.zero_le _) (fun z h => absurd h (Nat.not_lt_zero _)) (Nat.lt_succ_self _) ls (lv_sub hl [2, 3, 4, 1, 0] rfl)

set_option maxHeartbeats 4000000 in
set_option maxRecDepth 100000 in
theorem c_X7_twice (l : Launch) (D : va_G) (cI cB cZ cP : ClassId) (a : Nat → Nat) (v : Nat → Int32) (su sl : Int64) (F : Nat → Nat → Int32) (nn : Nat) (X Y : Nat → Int32) (hn8 : nn ≤ 8) : Met l yX7_twice wsX7_twice ({ frames := 1, cells := 0, slots := 0, locals := 21 } : Room) (va_Pc [.ref (a 0)] (fun U => va_P D vwCl (MW cI cZ a (upd v 7 (nI nn)) su sl (updF (updF F 7 X) 8 Y)) U.heap ∧ KW D cI cB cZ cP U ∧ E0 U.heap)) (vp_Si (fun r => r = isum (twt nn X Y) nn)) 0 0 (fun _ => False) := by
  refine Met.ofW (cc := cX7_twice) (maxL := 3) (ret := (some .int)) (by decide) rfl ?_
  intro p e s m args below meth c s₁ B hml hv
  obtain ⟨rfl, hP, hW0, hE⟩ := hv
  have hx := B.exec
  have hb := B.bytes
  have hr := B.returns
  have hts := atoms_spec (ws := wsX7_twice) B.pre
  have hown : s.vm.findClass RX7 = some m.cls := findClass_of_methodNamed B.named
  have hlocks := B.notSynchronized
  have hK := hW0.1
  have hl := lv_entry ([.ref (a 0)]) (n := 3) (Nat.le_of_ble_eq_true rfl)
  rw [lg_entry_eq]
  generalize (lg_sl ([.ref (a 0)]) ++ List.replicate (3 - (lg_sl ([.ref (a 0)])).length) Slot.unset).toArray = ls at hl ⊢
  have hl : lv_has ls 3 [(0, .ref (a 0))] := hl
  show W p l e ({ frames := 1, cells := 0, slots := 0, locals := 21 } : Room) s m ([.ref (a 0)] : List Value).toArray below meth c s.heap [] 0 0 _ (F0 m 0 ls [])
  refine u_genQ (fun Q hQ => ?_)
  refine lv_iconst (v := 0) hx hb dX7_twice_0 (by decide) ?_
  refine lv_istore_n (lv' := [(1, .int 0), (0, .ref (a 0))]) hx hb dX7_twice_1 rfl hl (by decide) rfl (fun ls hl => ?_)
  refine lv_iconst (v := 0) hx hb dX7_twice_2 (by decide) ?_
  refine lv_istore_n (lv' := [(2, .int 0), (1, .int 0), (0, .ref (a 0))]) hx hb dX7_twice_3 rfl hl (by decide) rfl (fun ls hl => ?_)
  have LOOP_4 : ∀ (fu : Nat) (k : Nat) (hk0 : k ≤ nn) (hn : nn - k < fu) (ls : Array Slot) (hl : lv_has ls 3 [(0, .ref (a 0)), (1, .int (isum (twt nn X Y) k)), (2, .int (nI k))]), W p l e ({ frames := 1, cells := 0, slots := 0, locals := 21 } : Room) s m ([.ref (a 0)] : List Value).toArray below meth c s.heap [] 0 0 Q (F0 m 4 ls []) := by
    intro fu
    induction fu with
    | zero => intro k hk0 hn ls hl; exact absurd hn (Nat.not_lt_zero _)
    | succ fu ih_4 =>
      intro k hk0 hn ls hl
      refine lv_iload_n hx hb dX7_twice_4 rfl (lv_at hl 2 rfl) ?_
      refine lv_aload_n hx hb dX7_twice_5 rfl (lv_at hl 0 rfl) ?_
      refine va_get (D := D) (ci := 9) (v := .int (nI nn)) (C := RX7) (T := TX7) (N := 24) hx hb hts (by decide +kernel) hown hK hP 0 rfl rfl 7 (by decide) (hts (.fieldLink RX7 58 "LandDeedsModel" "calls" "I") (by decide +kernel)) (fun _ h9 => h9) rfl dX7_twice_6 ?_
      refine lv_icmp_ge (tgt := 56) hx hb dX7_twice_9 (by decide) (fun c_1 => ?_) (fun c_1 => ?_)
      · skip
        have nc_1 : nn ≤ k := (nI_leI (a := nn) (b := k) (by omega) (by omega)).mp c_1
        refine lv_iload_n hx hb dX7_twice_56 rfl (lv_at hl 1 rfl) ?_
        rw [← hQ]
        exact W.iret (v := isum (twt nn X Y) k) hx hb hr (fun t ht hW => ⟨_, rfl, (by rw [show k = nn by omega]), ht⟩) (fun q h => absurd h List.not_mem_nil) dX7_twice_57
      · skip
        have nc_1 : ¬ (nn ≤ k) := fun h => c_1 ((nI_leI (a := nn) (b := k) (by omega) (by omega)).mpr h)
        have hk : k < nn := by omega
        have hnx := nxt_lt hk
        refine lv_iload_n hx hb dX7_twice_12 rfl (lv_at hl 1 rfl) ?_
        refine lv_aload_n hx hb dX7_twice_13 rfl (lv_at hl 0 rfl) ?_
        refine va_get (D := D) (ci := 9) (v := .ref (a 7)) (C := RX7) (T := TX7) (N := 24) hx hb hts (by decide +kernel) hown hK hP 0 rfl rfl 11 (by decide) (hts (.fieldLink RX7 29 "LandDeedsModel" "cx" "[I") (by decide +kernel)) (fun _ h9 => h9) rfl dX7_twice_14 ?_
        refine lv_iload_n hx hb dX7_twice_17 rfl (lv_at hl 2 rfl) ?_
        refine u_iald hx hb hK hP 7 0 rfl rfl rfl ⟨by omega, by omega⟩ dX7_twice_18 ?_
        refine lv_aload_n hx hb dX7_twice_19 rfl (lv_at hl 0 rfl) ?_
        refine va_get (D := D) (ci := 9) (v := .ref (a 8)) (C := RX7) (T := TX7) (N := 24) hx hb hts (by decide +kernel) hown hK hP 0 rfl rfl 12 (by decide) (hts (.fieldLink RX7 32 "LandDeedsModel" "cy" "[I") (by decide +kernel)) (fun _ h9 => h9) rfl dX7_twice_20 ?_
        refine lv_aload_n hx hb dX7_twice_23 rfl (lv_at hl 0 rfl) ?_
        refine lv_iload_n hx hb dX7_twice_24 rfl (lv_at hl 2 rfl) ?_
        have hPc := hP
        refine u_callSi (W.runV (As := [.int (nI k)]) (rest := [.ref (a 8), .int (X k), .int (isum (twt nn X Y) k)]) ⟨hx, hb, hml, hown, hts⟩ (c_X7_next l D cI cB cZ cP a v su sl F nn X Y k (by first | assumption | omega) (by first | assumption | omega)) (cwV 1 hts gX7_twice_X7_next rfl rfl rfl (by decide +kernel) ⟨Nat.le_of_ble_eq_true rfl, Nat.le_of_ble_eq_true rfl⟩) (pV (q0 := 0) hPc hW0 trivial rfl rfl) rfl rfl hl.1 rfl (lv_room (Nat.le_of_ble_eq_true rfl)) dX7_twice_25 ⟨Nat.le_of_ble_eq_true rfl, Nat.le_of_ble_eq_true rfl⟩) ?_
        refine u_iald hx hb hK hP 8 0 rfl rfl rfl ⟨by omega, by omega⟩ dX7_twice_28 ?_
        refine lv_imul hx hb dX7_twice_29 ?_
        refine lv_aload_n hx hb dX7_twice_30 rfl (lv_at hl 0 rfl) ?_
        refine va_get (D := D) (ci := 9) (v := .ref (a 7)) (C := RX7) (T := TX7) (N := 24) hx hb hts (by decide +kernel) hown hK hP 0 rfl rfl 11 (by decide) (hts (.fieldLink RX7 29 "LandDeedsModel" "cx" "[I") (by decide +kernel)) (fun _ h9 => h9) rfl dX7_twice_31 ?_
        refine lv_aload_n hx hb dX7_twice_34 rfl (lv_at hl 0 rfl) ?_
        refine lv_iload_n hx hb dX7_twice_35 rfl (lv_at hl 2 rfl) ?_
        have hPc := hP
        refine u_callSi (W.runV (As := [.int (nI k)]) (rest := [.ref (a 7), .int ((X k) * (Y (nxt nn k))), .int (isum (twt nn X Y) k)]) ⟨hx, hb, hml, hown, hts⟩ (c_X7_next l D cI cB cZ cP a v su sl F nn X Y k (by first | assumption | omega) (by first | assumption | omega)) (cwV 1 hts gX7_twice_X7_next rfl rfl rfl (by decide +kernel) ⟨Nat.le_of_ble_eq_true rfl, Nat.le_of_ble_eq_true rfl⟩) (pV (q0 := 0) hPc hW0 trivial rfl rfl) rfl rfl hl.1 rfl (lv_room (Nat.le_of_ble_eq_true rfl)) dX7_twice_36 ⟨Nat.le_of_ble_eq_true rfl, Nat.le_of_ble_eq_true rfl⟩) ?_
        refine u_iald hx hb hK hP 7 0 rfl rfl rfl ⟨by omega, by omega⟩ dX7_twice_39 ?_
        refine lv_aload_n hx hb dX7_twice_40 rfl (lv_at hl 0 rfl) ?_
        refine va_get (D := D) (ci := 9) (v := .ref (a 8)) (C := RX7) (T := TX7) (N := 24) hx hb hts (by decide +kernel) hown hK hP 0 rfl rfl 12 (by decide) (hts (.fieldLink RX7 32 "LandDeedsModel" "cy" "[I") (by decide +kernel)) (fun _ h9 => h9) rfl dX7_twice_41 ?_
        refine lv_iload_n hx hb dX7_twice_44 rfl (lv_at hl 2 rfl) ?_
        refine u_iald hx hb hK hP 8 0 rfl rfl rfl ⟨by omega, by omega⟩ dX7_twice_45 ?_
        refine lv_imul hx hb dX7_twice_46 ?_
        refine lv_isub hx hb dX7_twice_47 ?_
        refine lv_iadd hx hb dX7_twice_48 ?_
        refine u_eqi (show (isum (twt nn X Y) k) + (((X k) * (Y (nxt nn k))) - ((X (nxt nn k)) * (Y k))) = isum (twt nn X Y) (k + 1) from rfl) ?_
        refine lv_istore_n (lv' := [(1, .int (isum (twt nn X Y) (k + 1))), (0, .ref (a 0)), (2, .int (nI k))]) hx hb dX7_twice_49 rfl hl (by decide) rfl (fun ls hl => ?_)
        refine lv_iinc (v := nI (k + 1)) (lv' := [(2, .int (nI (k + 1))), (1, .int (isum (twt nn X Y) (k + 1))), (0, .ref (a 0))]) hx hb dX7_twice_50 hl (k := 2) rfl (nI_1 _) (by decide) rfl (fun ls hl => ?_)
        refine lv_goto (tgt := 4) hx hb dX7_twice_53 (by decide) ?_
        exact ih_4 (k + 1) (by omega) (by omega) ls (lv_sub hl [2, 1, 0] rfl)
  exact LOOP_4 (nn - 0 + 1) 0 (Nat.zero_le _) (Nat.lt_succ_self _) ls (lv_sub hl [2, 1, 0] rfl)

