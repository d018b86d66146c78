set_option maxHeartbeats 4000000 in
set_option maxRecDepth 100000 in
theorem c_X6_isPlace (l : Launch) (D : va_G) (cI cB cZ cP : ClassId) (x : Int32) : Met l yX6_isPlace wsX6_isPlace ({ frames := 0, cells := 0, slots := 0, locals := 0 } : Room) (va_Pc [.int x] (fun U => va_P D vwCl [] U.heap ∧ KW D cI cB cZ cP U ∧ E0 U.heap)) (vp_Si (fun r => r = zb (0 ≤ x.toInt ∧ x.toInt ≤ 31))) 0 0 (fun _ => False) := by
  refine Met.ofW (cc := cX6_isPlace) (maxL := 1) (ret := (some .boolean)) (by decide) rfl ?_
  intro p e s m args below meth c s₁ B hml hv
  obtain ⟨rfl, hP, hW0, hE⟩ := hv
  have hx := B.exec
  have hb := B.bytes
  have hr := B.returns
  have hts := atoms_spec (ws := wsX6_isPlace) B.pre
  have hown : s.vm.findClass RX6 = some m.cls := findClass_of_methodNamed B.named
  have hlocks := B.notSynchronized
  have hK := hW0.1
  have hl := lv_entry ([.int x]) (n := 1) (Nat.le_of_ble_eq_true rfl)
  rw [lg_entry_eq]
  generalize (lg_sl ([.int x]) ++ List.replicate (1 - (lg_sl ([.int x])).length) Slot.unset).toArray = ls at hl ⊢
  have hl : lv_has ls 1 [(0, .int x)] := hl
  show W p l e ({ frames := 0, cells := 0, slots := 0, locals := 0 } : Room) s m ([.int x] : List Value).toArray below meth c s.heap [] 0 0 _ (F0 m 0 ls [])
  refine u_genQ (fun Q hQ => ?_)
  refine lv_iload_n hx hb dX6_isPlace_0 rfl (lv_at hl 0 rfl) ?_
  refine lv_if_lt (tgt := 14) hx hb dX6_isPlace_1 (by decide) (fun c_1 => ?_) (fun c_1 => ?_)
  · skip
    refine lv_iconst (v := 0) hx hb dX6_isPlace_14 (by decide) ?_
    rw [← hQ]
    exact W.zret (v := 0) hx hb hr (by decide) (fun t ht hW => ⟨_, rfl, (zb_f (by simp only [Int32.lt_iff_toInt_lt, Int32.le_iff_toInt_le, ← Int32.toInt_inj, li_0, li_1, li_2, li_3, li_4, li_5, li_6, li_7, li_8, li_9, li_10, li_12, li_20, li_31, li_32, li_33, li_47, li_48, li_49, li_57, li_59, li_60, li_101, li_108, li_109, li_110, li_115, li_119, li_126, li_999, li_1000, li_1023, li_1024, li_2000, li_m1, li_m6] at c_1 ⊢; omega)), ht⟩) (fun q h => absurd h List.not_mem_nil) dX6_isPlace_15
  · skip
    refine lv_iload_n hx hb dX6_isPlace_4 rfl (lv_at hl 0 rfl) ?_
    refine lv_bipush (v := 32) hx hb dX6_isPlace_5 (by decide) ?_
    refine lv_icmp_ge (tgt := 14) hx hb dX6_isPlace_7 (by decide) (fun c_2 => ?_) (fun c_2 => ?_)
    · skip
      refine lv_iconst (v := 0) hx hb dX6_isPlace_14 (by decide) ?_
      rw [← hQ]
      exact W.zret (v := 0) hx hb hr (by decide) (fun t ht hW => ⟨_, rfl, (zb_f (by simp only [Int32.lt_iff_toInt_lt, Int32.le_iff_toInt_le, ← Int32.toInt_inj, li_0, li_1, li_2, li_3, li_4, li_5, li_6, li_7, li_8, li_9, li_10, li_12, li_20, li_31, li_32, li_33, li_47, li_48, li_49, li_57, li_59, li_60, li_101, li_108, li_109, li_110, li_115, li_119, li_126, li_999, li_1000, li_1023, li_1024, li_2000, li_m1, li_m6] at c_1 c_2 ⊢; omega)), ht⟩) (fun q h => absurd h List.not_mem_nil) dX6_isPlace_15
    · skip
      refine lv_iconst (v := 1) hx hb dX6_isPlace_10 (by decide) ?_
      refine lv_goto (tgt := 15) hx hb dX6_isPlace_11 (by decide) ?_
      rw [← hQ]
      exact W.zret (v := 1) hx hb hr (by decide) (fun t ht hW => ⟨_, rfl, (zb_t (by simp only [Int32.lt_iff_toInt_lt, Int32.le_iff_toInt_le, ← Int32.toInt_inj, li_0, li_1, li_2, li_3, li_4, li_5, li_6, li_7, li_8, li_9, li_10, li_12, li_20, li_31, li_32, li_33, li_47, li_48, li_49, li_57, li_59, li_60, li_101, li_108, li_109, li_110, li_115, li_119, li_126, li_999, li_1000, li_1023, li_1024, li_2000, li_m1, li_m6] at c_1 c_2 ⊢; omega)), ht⟩) (fun q h => absurd h List.not_mem_nil) dX6_isPlace_15

set_option maxHeartbeats 4000000 in
set_option maxRecDepth 100000 in
theorem c_X6_isPost (l : Launch) (D : va_G) (cI cB cZ cP : ClassId) (x y : Int32) : Met l yX6_isPost wsX6_isPost ({ frames := 1, cells := 0, slots := 0, locals := 20 } : Room) (va_Pc [.int x, .int y] (fun U => va_P D vwCl [] U.heap ∧ KW D cI cB cZ cP U ∧ E0 U.heap)) (vp_Si (fun r => r = zb (isP x y))) 0 0 (fun _ => False) := by
  refine Met.ofW (cc := cX6_isPost) (maxL := 2) (ret := (some .boolean)) (by decide) rfl ?_
  intro p e s m args below meth c s₁ B hml hv
  obtain ⟨rfl, hP, hW0, hE⟩ := hv
  have hx := B.exec
  have hb := B.bytes
  have hr := B.returns
  have hts := atoms_spec (ws := wsX6_isPost) B.pre
  have hown : s.vm.findClass RX6 = some m.cls := findClass_of_methodNamed B.named
  have hlocks := B.notSynchronized
  have hK := hW0.1
  have hl := lv_entry ([.int x, .int y]) (n := 2) (Nat.le_of_ble_eq_true rfl)
  rw [lg_entry_eq]
  generalize (lg_sl ([.int x, .int y]) ++ List.replicate (2 - (lg_sl ([.int x, .int y])).length) Slot.unset).toArray = ls at hl ⊢
  have hl : lv_has ls 2 [(0, .int x), (1, .int y)] := hl
  show W p l e ({ frames := 1, cells := 0, slots := 0, locals := 20 } : Room) s m ([.int x, .int y] : List Value).toArray below meth c s.heap [] 0 0 _ (F0 m 0 ls [])
  refine u_genQ (fun Q hQ => ?_)
  refine lv_iload_n hx hb dX6_isPost_0 rfl (lv_at hl 0 rfl) ?_
  have hPc := hP.sub (ws' := []) [] rfl
  refine u_callSi (W.runS (As := [.int x]) (rest := []) ⟨hx, hb, hml, hown, hts⟩ (c_X6_isPlace l D cI cB cZ cP x ) (cwS 1 hts gX6_isPost_X6_isPlace rfl rfl rfl (by decide +kernel) ⟨Nat.le_of_ble_eq_true rfl, Nat.le_of_ble_eq_true rfl⟩) (pS hPc hW0 trivial) rfl rfl hl.1 rfl (lv_room (Nat.le_of_ble_eq_true rfl)) dX6_isPost_1 ⟨Nat.le_of_ble_eq_true rfl, Nat.le_of_ble_eq_true rfl⟩) ?_
  refine lv_if_eq (tgt := 18) hx hb dX6_isPost_4 (by decide) (fun c_1 => ?_) (fun c_1 => ?_)
  · skip
    have nc_1 := zb_eq0.mp c_1
    refine lv_iconst (v := 0) hx hb dX6_isPost_18 (by decide) ?_
    rw [← hQ]
    exact W.zret (v := 0) hx hb hr (by decide) (fun t ht hW => ⟨_, rfl, (zb_f (by unfold isP; omega)), ht⟩) (fun q h => absurd h List.not_mem_nil) dX6_isPost_19
  · skip
    have nc_1 := zb_ne0.mp c_1
    refine lv_iload_n hx hb dX6_isPost_7 rfl (lv_at hl 1 rfl) ?_
    have hPc := hP.sub (ws' := []) [] rfl
    refine u_callSi (W.runS (As := [.int y]) (rest := []) ⟨hx, hb, hml, hown, hts⟩ (c_X6_isPlace l D cI cB cZ cP y ) (cwS 1 hts gX6_isPost_X6_isPlace rfl rfl rfl (by decide +kernel) ⟨Nat.le_of_ble_eq_true rfl, Nat.le_of_ble_eq_true rfl⟩) (pS hPc hW0 trivial) rfl rfl hl.1 rfl (lv_room (Nat.le_of_ble_eq_true rfl)) dX6_isPost_8 ⟨Nat.le_of_ble_eq_true rfl, Nat.le_of_ble_eq_true rfl⟩) ?_
    refine lv_if_eq (tgt := 18) hx hb dX6_isPost_11 (by decide) (fun c_2 => ?_) (fun c_2 => ?_)
    · skip
      have nc_2 := zb_eq0.mp c_2
      refine lv_iconst (v := 0) hx hb dX6_isPost_18 (by decide) ?_
      rw [← hQ]
      exact W.zret (v := 0) hx hb hr (by decide) (fun t ht hW => ⟨_, rfl, (zb_f (by unfold isP; omega)), ht⟩) (fun q h => absurd h List.not_mem_nil) dX6_isPost_19
    · skip
      have nc_2 := zb_ne0.mp c_2
      refine lv_iconst (v := 1) hx hb dX6_isPost_14 (by decide) ?_
      refine lv_goto (tgt := 19) hx hb dX6_isPost_15 (by decide) ?_
      rw [← hQ]
      exact W.zret (v := 1) hx hb hr (by decide) (fun t ht hW => ⟨_, rfl, (zb_t (by unfold isP; omega)), ht⟩) (fun q h => absurd h List.not_mem_nil) dX6_isPost_19

set_option maxHeartbeats 4000000 in
set_option maxRecDepth 100000 in
theorem c_X6_isYear (l : Launch) (D : va_G) (cI cB cZ cP : ClassId) (x : Int32) : Met l yX6_isYear wsX6_isYear ({ frames := 0, cells := 0, slots := 0, locals := 0 } : Room) (va_Pc [.int x] (fun U => va_P D vwCl [] U.heap ∧ KW D cI cB cZ cP U ∧ E0 U.heap)) (vp_Si (fun r => r = zb (1 ≤ x.toInt ∧ x.toInt ≤ 999))) 0 0 (fun _ => False) := by
  refine Met.ofW (cc := cX6_isYear) (maxL := 1) (ret := (some .boolean)) (by decide) rfl ?_
  intro p e s m args below meth c s₁ B hml hv
  obtain ⟨rfl, hP, hW0, hE⟩ := hv
  have hx := B.exec
  have hb := B.bytes
  have hr := B.returns
  have hts := atoms_spec (ws := wsX6_isYear) B.pre
  have hown : s.vm.findClass RX6 = some m.cls := findClass_of_methodNamed B.named
  have hlocks := B.notSynchronized
  have hK := hW0.1
  have hl := lv_entry ([.int x]) (n := 1) (Nat.le_of_ble_eq_true rfl)
  rw [lg_entry_eq]
  generalize (lg_sl ([.int x]) ++ List.replicate (1 - (lg_sl ([.int x])).length) Slot.unset).toArray = ls at hl ⊢
  have hl : lv_has ls 1 [(0, .int x)] := hl
  show W p l e ({ frames := 0, cells := 0, slots := 0, locals := 0 } : Room) s m ([.int x] : List Value).toArray below meth c s.heap [] 0 0 _ (F0 m 0 ls [])
  refine u_genQ (fun Q hQ => ?_)
  refine lv_iload_n hx hb dX6_isYear_0 rfl (lv_at hl 0 rfl) ?_
  refine lv_iconst (v := 1) hx hb dX6_isYear_1 (by decide) ?_
  refine lv_icmp_lt (tgt := 16) hx hb dX6_isYear_2 (by decide) (fun c_1 => ?_) (fun c_1 => ?_)
  · skip
    refine lv_iconst (v := 0) hx hb dX6_isYear_16 (by decide) ?_
    rw [← hQ]
    exact W.zret (v := 0) hx hb hr (by decide) (fun t ht hW => ⟨_, rfl, (zb_f (by simp only [Int32.lt_iff_toInt_lt, Int32.le_iff_toInt_le, ← Int32.toInt_inj, li_0, li_1, li_2, li_3, li_4, li_5, li_6, li_7, li_8, li_9, li_10, li_12, li_20, li_31, li_32, li_33, li_47, li_48, li_49, li_57, li_59, li_60, li_101, li_108, li_109, li_110, li_115, li_119, li_126, li_999, li_1000, li_1023, li_1024, li_2000, li_m1, li_m6] at c_1 ⊢; omega)), ht⟩) (fun q h => absurd h List.not_mem_nil) dX6_isYear_17
  · skip
    refine lv_iload_n hx hb dX6_isYear_5 rfl (lv_at hl 0 rfl) ?_
    refine lv_sipush (v := 999) hx hb dX6_isYear_6 (by decide) ?_
    refine lv_icmp_gt (tgt := 16) hx hb dX6_isYear_9 (by decide) (fun c_2 => ?_) (fun c_2 => ?_)
    · skip
      refine lv_iconst (v := 0) hx hb dX6_isYear_16 (by decide) ?_
      rw [← hQ]
      exact W.zret (v := 0) hx hb hr (by decide) (fun t ht hW => ⟨_, rfl, (zb_f (by simp only [Int32.lt_iff_toInt_lt, Int32.le_iff_toInt_le, ← Int32.toInt_inj, li_0, li_1, li_2, li_3, li_4, li_5, li_6, li_7, li_8, li_9, li_10, li_12, li_20, li_31, li_32, li_33, li_47, li_48, li_49, li_57, li_59, li_60, li_101, li_108, li_109, li_110, li_115, li_119, li_126, li_999, li_1000, li_1023, li_1024, li_2000, li_m1, li_m6] at c_1 c_2 ⊢; omega)), ht⟩) (fun q h => absurd h List.not_mem_nil) dX6_isYear_17
    · skip
      refine lv_iconst (v := 1) hx hb dX6_isYear_12 (by decide) ?_
      refine lv_goto (tgt := 17) hx hb dX6_isYear_13 (by decide) ?_
      rw [← hQ]
      exact W.zret (v := 1) hx hb hr (by decide) (fun t ht hW => ⟨_, rfl, (zb_t (by simp only [Int32.lt_iff_toInt_lt, Int32.le_iff_toInt_le, ← Int32.toInt_inj, li_0, li_1, li_2, li_3, li_4, li_5, li_6, li_7, li_8, li_9, li_10, li_12, li_20, li_31, li_32, li_33, li_47, li_48, li_49, li_57, li_59, li_60, li_101, li_108, li_109, li_110, li_115, li_119, li_126, li_999, li_1000, li_1023, li_1024, li_2000, li_m1, li_m6] at c_1 c_2 ⊢; omega)), ht⟩) (fun q h => absurd h List.not_mem_nil) dX6_isYear_17

set_option maxHeartbeats 4000000 in
set_option maxRecDepth 100000 in
theorem c_X4_isEastOrWest (l : Launch) (D : va_G) (cI cB cZ cP : ClassId) (x : Int32) : Met l yX4_isEastOrWest wsX4_isEastOrWest ({ frames := 0, cells := 0, slots := 0, locals := 0 } : Room) (va_Pc [.int x] (fun U => va_P D vwCl [] U.heap ∧ KW D cI cB cZ cP U ∧ E0 U.heap)) (vp_Si (fun r => r = zb (x = 101 ∨ x = 119))) 0 0 (fun _ => False) := by
  refine Met.ofW (cc := cX4_isEastOrWest) (maxL := 1) (ret := (some .boolean)) (by decide) rfl ?_
  intro p e s m args below meth c s₁ B hml hv
  obtain ⟨rfl, hP, hW0, hE⟩ := hv
  have hx := B.exec
  have hb := B.bytes
  have hr := B.returns
  have hts := atoms_spec (ws := wsX4_isEastOrWest) B.pre
  have hown : s.vm.findClass RX4 = some m.cls := findClass_of_methodNamed B.named
  have hlocks := B.notSynchronized
  have hK := hW0.1
  have hl := lv_entry ([.int x]) (n := 1) (Nat.le_of_ble_eq_true rfl)
  rw [lg_entry_eq]
  generalize (lg_sl ([.int x]) ++ List.replicate (1 - (lg_sl ([.int x])).length) Slot.unset).toArray = ls at hl ⊢
  have hl : lv_has ls 1 [(0, .int x)] := hl
  show W p l e ({ frames := 0, cells := 0, slots := 0, locals := 0 } : Room) s m ([.int x] : List Value).toArray below meth c s.heap [] 0 0 _ (F0 m 0 ls [])
  refine u_genQ (fun Q hQ => ?_)
  refine lv_iload_n hx hb dX4_isEastOrWest_0 rfl (lv_at hl 0 rfl) ?_
  refine lv_bipush (v := 101) hx hb dX4_isEastOrWest_1 (by decide) ?_
  refine lv_icmp_eq (tgt := 12) hx hb dX4_isEastOrWest_3 (by decide) (fun c_1 => ?_) (fun c_1 => ?_)
  · skip
    refine lv_iconst (v := 1) hx hb dX4_isEastOrWest_12 (by decide) ?_
    refine lv_goto (tgt := 17) hx hb dX4_isEastOrWest_13 (by decide) ?_
    rw [← hQ]
    exact W.zret (v := 1) hx hb hr (by decide) (fun t ht hW => ⟨_, rfl, (zb_t (by simp [*])), ht⟩) (fun q h => absurd h List.not_mem_nil) dX4_isEastOrWest_17
  · skip
    refine lv_iload_n hx hb dX4_isEastOrWest_6 rfl (lv_at hl 0 rfl) ?_
    refine lv_bipush (v := 119) hx hb dX4_isEastOrWest_7 (by decide) ?_
    refine lv_icmp_ne (tgt := 16) hx hb dX4_isEastOrWest_9 (by decide) (fun c_2 => ?_) (fun c_2 => ?_)
    · skip
      refine lv_iconst (v := 0) hx hb dX4_isEastOrWest_16 (by decide) ?_
      rw [← hQ]
      exact W.zret (v := 0) hx hb hr (by decide) (fun t ht hW => ⟨_, rfl, (zb_f (by simp [*])), ht⟩) (fun q h => absurd h List.not_mem_nil) dX4_isEastOrWest_17
    · skip
      refine lv_iconst (v := 1) hx hb dX4_isEastOrWest_12 (by decide) ?_
      refine lv_goto (tgt := 17) hx hb dX4_isEastOrWest_13 (by decide) ?_
      rw [← hQ]
      exact W.zret (v := 1) hx hb hr (by decide) (fun t ht hW => ⟨_, rfl, (zb_t (by simp [*])), ht⟩) (fun q h => absurd h List.not_mem_nil) dX4_isEastOrWest_17

set_option maxHeartbeats 4000000 in
set_option maxRecDepth 100000 in
theorem c_X6_isIn (l : Launch) (D : va_G) (cI cB cZ cP : ClassId) (x y : Int32) : Met l yX6_isIn wsX6_isIn ({ frames := 0, cells := 0, slots := 0, locals := 0 } : Room) (va_Pc [.int x, .int y] (fun U => va_P D vwCl [] U.heap ∧ KW D cI cB cZ cP U ∧ E0 U.heap)) (vp_Si (fun r => r = zb ((x.toUInt32 >>> (y.toUInt32 &&& Int32.toUInt32 31)).toInt32 &&& 1 = 1))) 0 0 (fun _ => False) := by
  refine Met.ofW (cc := cX6_isIn) (maxL := 2) (ret := (some .boolean)) (by decide) rfl ?_
  intro p e s m args below meth c s₁ B hml hv
  obtain ⟨rfl, hP, hW0, hE⟩ := hv
  have hx := B.exec
  have hb := B.bytes
  have hr := B.returns
  have hts := atoms_spec (ws := wsX6_isIn) B.pre
  have hown : s.vm.findClass RX6 = some m.cls := findClass_of_methodNamed B.named
  have hlocks := B.notSynchronized
  have hK := hW0.1
  have hl := lv_entry ([.int x, .int y]) (n := 2) (Nat.le_of_ble_eq_true rfl)
  rw [lg_entry_eq]
  generalize (lg_sl ([.int x, .int y]) ++ List.replicate (2 - (lg_sl ([.int x, .int y])).length) Slot.unset).toArray = ls at hl ⊢
  have hl : lv_has ls 2 [(0, .int x), (1, .int y)] := hl
  show W p l e ({ frames := 0, cells := 0, slots := 0, locals := 0 } : Room) s m ([.int x, .int y] : List Value).toArray below meth c s.heap [] 0 0 _ (F0 m 0 ls [])
  refine u_genQ (fun Q hQ => ?_)
  refine lv_iload_n hx hb dX6_isIn_0 rfl (lv_at hl 0 rfl) ?_
  refine lv_iload_n hx hb dX6_isIn_1 rfl (lv_at hl 1 rfl) ?_
  refine lv_iushr hx hb dX6_isIn_2 rfl ?_
  refine lv_iconst (v := 1) hx hb dX6_isIn_3 (by decide) ?_
  refine lv_iand hx hb dX6_isIn_4 ?_
  refine lv_iconst (v := 1) hx hb dX6_isIn_5 (by decide) ?_
  refine lv_icmp_ne (tgt := 13) hx hb dX6_isIn_6 (by decide) (fun c_1 => ?_) (fun c_1 => ?_)
  · skip
    refine lv_iconst (v := 0) hx hb dX6_isIn_13 (by decide) ?_
    rw [← hQ]
    exact W.zret (v := 0) hx hb hr (by decide) (fun t ht hW => ⟨_, rfl, (zb_f (by assumption)), ht⟩) (fun q h => absurd h List.not_mem_nil) dX6_isIn_14
  · skip
    refine lv_iconst (v := 1) hx hb dX6_isIn_9 (by decide) ?_
    refine lv_goto (tgt := 14) hx hb dX6_isIn_10 (by decide) ?_
    rw [← hQ]
    exact W.zret (v := 1) hx hb hr (by decide) (fun t ht hW => ⟨_, rfl, (zb_t (by assumption)), ht⟩) (fun q h => absurd h List.not_mem_nil) dX6_isIn_14

set_option maxHeartbeats 4000000 in
set_option maxRecDepth 100000 in
theorem c_X0_has (l : Launch) (D : va_G) (cI cB cZ cP : ClassId) (h0 ap ay : Nat) (k : Nat) (lo x : Int32) (hk : k ≤ 6) : Met l yX0_has wsX0_has ({ frames := 0, cells := 0, slots := 0, locals := 0 } : Room) (va_Pc [.ref h0, .int x] (fun U => va_P D vwCl [(h0, .inr (2, [.ref ap, .ref ay, .int (nI k), .int lo]))] U.heap ∧ KW D cI cB cZ cP U ∧ E0 U.heap)) (vp_Si (fun r => r = zb (0 ≤ x.toInt ∧ x.toInt < k))) 0 0 (fun _ => False) := by
  refine Met.ofW (cc := cX0_has) (maxL := 2) (ret := (some .boolean)) (by decide) rfl ?_
  intro p e s m args below meth c s₁ B hml hv
  obtain ⟨rfl, hP, hW0, hE⟩ := hv
  have hx := B.exec
  have hb := B.bytes
  have hr := B.returns
  have hts := atoms_spec (ws := wsX0_has) B.pre
  have hown : s.vm.findClass RX0 = some m.cls := findClass_of_methodNamed B.named
  have hlocks := B.notSynchronized
  have hK := hW0.1
  have hl := lv_entry ([.ref h0, .int x]) (n := 2) (Nat.le_of_ble_eq_true rfl)
  rw [lg_entry_eq]
  generalize (lg_sl ([.ref h0, .int x]) ++ List.replicate (2 - (lg_sl ([.ref h0, .int x])).length) Slot.unset).toArray = ls at hl ⊢
  have hl : lv_has ls 2 [(0, .ref h0), (1, .int x)] := hl
  show W p l e ({ frames := 0, cells := 0, slots := 0, locals := 0 } : Room) s m ([.ref h0, .int x] : List Value).toArray below meth c s.heap [] 0 0 _ (F0 m 0 ls [])
  refine u_genQ (fun Q hQ => ?_)
  have hkk := nI_toInt (n := k) (by omega)
  refine lv_iload_n hx hb dX0_has_0 rfl (lv_at hl 1 rfl) ?_
  refine lv_if_lt (tgt := 22) hx hb dX0_has_1 (by decide) (fun c_1 => ?_) (fun c_1 => ?_)
  · skip
    refine lv_iconst (v := 0) hx hb dX0_has_22 (by decide) ?_
    rw [← hQ]
    exact W.zret (v := 0) hx hb hr (by decide) (fun t ht hW => ⟨_, rfl, (zb_f (by simp only [hkk, Int32.lt_iff_toInt_lt, Int32.le_iff_toInt_le, ← Int32.toInt_inj, li_0, li_1, li_2, li_3, li_4, li_5, li_6, li_7, li_8, li_9, li_10, li_12, li_20, li_31, li_32, li_33, li_47, li_48, li_49, li_57, li_59, li_60, li_101, li_108, li_109, li_110, li_115, li_119, li_126, li_999, li_1000, li_1023, li_1024, li_2000, li_m1, li_m6] at c_1 ⊢; omega)), ht⟩) (fun q h => absurd h List.not_mem_nil) dX0_has_23
  · skip
    refine lv_iload_n hx hb dX0_has_4 rfl (lv_at hl 1 rfl) ?_
    refine lv_aload_n hx hb dX0_has_5 rfl (lv_at hl 0 rfl) ?_
    refine va_get (D := D) (ci := 2) (v := .int (nI k)) (C := RX0) (T := TX0) (N := 4) hx hb hts (by decide +kernel) hown hK hP 0 rfl rfl 2 (by decide) (hts (.fieldLink RX0 21 "LandDeeds$Estate" "size" "I") (by decide +kernel)) (fun _ h9 => h9) rfl dX0_has_6 ?_
    refine lv_icmp_ge (tgt := 22) hx hb dX0_has_9 (by decide) (fun c_2 => ?_) (fun c_2 => ?_)
    · skip
      refine lv_iconst (v := 0) hx hb dX0_has_22 (by decide) ?_
      rw [← hQ]
      exact W.zret (v := 0) hx hb hr (by decide) (fun t ht hW => ⟨_, rfl, (zb_f (by simp only [hkk, Int32.lt_iff_toInt_lt, Int32.le_iff_toInt_le, ← Int32.toInt_inj, li_0, li_1, li_2, li_3, li_4, li_5, li_6, li_7, li_8, li_9, li_10, li_12, li_20, li_31, li_32, li_33, li_47, li_48, li_49, li_57, li_59, li_60, li_101, li_108, li_109, li_110, li_115, li_119, li_126, li_999, li_1000, li_1023, li_1024, li_2000, li_m1, li_m6] at c_1 c_2 ⊢; omega)), ht⟩) (fun q h => absurd h List.not_mem_nil) dX0_has_23
    · skip
      refine lv_iload_n hx hb dX0_has_12 rfl (lv_at hl 1 rfl) ?_
      refine lv_bipush (v := 6) hx hb dX0_has_13 (by decide) ?_
      refine lv_icmp_ge (tgt := 22) hx hb dX0_has_15 (by decide) (fun c_3 => ?_) (fun c_3 => ?_)
      · skip
        refine lv_iconst (v := 0) hx hb dX0_has_22 (by decide) ?_
        rw [← hQ]
        exact W.zret (v := 0) hx hb hr (by decide) (fun t ht hW => ⟨_, rfl, (zb_f (by simp only [hkk, Int32.lt_iff_toInt_lt, Int32.le_iff_toInt_le, ← Int32.toInt_inj, li_0, li_1, li_2, li_3, li_4, li_5, li_6, li_7, li_8, li_9, li_10, li_12, li_20, li_31, li_32, li_33, li_47, li_48, li_49, li_57, li_59, li_60, li_101, li_108, li_109, li_110, li_115, li_119, li_126, li_999, li_1000, li_1023, li_1024, li_2000, li_m1, li_m6] at c_1 c_2 c_3 ⊢; omega)), ht⟩) (fun q h => absurd h List.not_mem_nil) dX0_has_23
      · skip
        refine lv_iconst (v := 1) hx hb dX0_has_18 (by decide) ?_
        refine lv_goto (tgt := 23) hx hb dX0_has_19 (by decide) ?_
        rw [← hQ]
        exact W.zret (v := 1) hx hb hr (by decide) (fun t ht hW => ⟨_, rfl, (zb_t (by simp only [hkk, Int32.lt_iff_toInt_lt, Int32.le_iff_toInt_le, ← Int32.toInt_inj, li_0, li_1, li_2, li_3, li_4, li_5, li_6, li_7, li_8, li_9, li_10, li_12, li_20, li_31, li_32, li_33, li_47, li_48, li_49, li_57, li_59, li_60, li_101, li_108, li_109, li_110, li_115, li_119, li_126, li_999, li_1000, li_1023, li_1024, li_2000, li_m1, li_m6] at c_1 c_2 c_3 ⊢; omega)), ht⟩) (fun q h => absurd h List.not_mem_nil) dX0_has_23

set_option maxHeartbeats 4000000 in
set_option maxRecDepth 100000 in
theorem c_X0_yearOf (l : Launch) (D : va_G) (cI cB cZ cP : ClassId) (h0 ap ay : Nat) (k j : Nat) (lo : Int32) (yr : Nat → Int32) (hk : k ≤ 6) (hj : j < k) : Met l yX0_yearOf wsX0_yearOf ({ frames := 1, cells := 0, slots := 0, locals := 21 } : Room) (va_Pc [.ref h0, .int (nI j)] (fun U => va_P D vwCl [(h0, .inr (2, [.ref ap, .ref ay, .int (nI k), .int lo])), (ay, .inl (cI, 6, .inl yr))] U.heap ∧ KW D cI cB cZ cP U ∧ E0 U.heap)) (vp_Si (fun r => r = yr j)) 0 0 (fun _ => False) := by
  refine Met.ofW (cc := cX0_yearOf) (maxL := 2) (ret := (some .int)) (by decide) rfl ?_
  intro p e s m args below meth c s₁ B hml hv
  obtain ⟨rfl, hP, hW0, hE⟩ := hv
  have hx := B.exec
  have hb := B.bytes
  have hr := B.returns
  have hts := atoms_spec (ws := wsX0_yearOf) B.pre
  have hown : s.vm.findClass RX0 = some m.cls := findClass_of_methodNamed B.named
  have hlocks := B.notSynchronized
  have hK := hW0.1
  have hl := lv_entry ([.ref h0, .int (nI j)]) (n := 2) (Nat.le_of_ble_eq_true rfl)
  rw [lg_entry_eq]
  generalize (lg_sl ([.ref h0, .int (nI j)]) ++ List.replicate (2 - (lg_sl ([.ref h0, .int (nI j)])).length) Slot.unset).toArray = ls at hl ⊢
  have hl : lv_has ls 2 [(0, .ref h0), (1, .int (nI j))] := hl
  show W p l e ({ frames := 1, cells := 0, slots := 0, locals := 21 } : Room) s m ([.ref h0, .int (nI j)] : List Value).toArray below meth c s.heap [] 0 0 _ (F0 m 0 ls [])
  refine u_genQ (fun Q hQ => ?_)
  refine lv_aload_n hx hb dX0_yearOf_0 rfl (lv_at hl 0 rfl) ?_
  refine lv_iload_n hx hb dX0_yearOf_1 rfl (lv_at hl 1 rfl) ?_
  have hPc := hP.sub (ws' := [(h0, .inr (2, [.ref ap, .ref ay, .int (nI k), .int lo]))]) [0] rfl
  refine u_callSi (W.runV (As := [.int (nI j)]) (rest := []) ⟨hx, hb, hml, hown, hts⟩ (c_X0_has l D cI cB cZ cP h0 ap ay k lo (nI j) (by first | assumption | omega)) (cwV 1 hts gX0_yearOf_X0_has rfl rfl rfl (by decide +kernel) ⟨Nat.le_of_ble_eq_true rfl, Nat.le_of_ble_eq_true rfl⟩) (pV (q0 := 0) hPc hW0 trivial rfl rfl) rfl rfl hl.1 rfl (lv_room (Nat.le_of_ble_eq_true rfl)) dX0_yearOf_2 ⟨Nat.le_of_ble_eq_true rfl, Nat.le_of_ble_eq_true rfl⟩) ?_
  refine lv_if_eq (tgt := 17) hx hb dX0_yearOf_5 (by decide) (fun c_1 => ?_) (fun c_1 => ?_)
  · skip
    have nc_1 := zb_eq0.mp c_1
    exact absurd nc_1 (not_not_intro (by rw [nI_toInt (by omega)]; omega))
  · skip
    have nc_1 := zb_ne0.mp c_1
    refine lv_aload_n hx hb dX0_yearOf_8 rfl (lv_at hl 0 rfl) ?_
    refine va_get (D := D) (ci := 2) (v := .ref ay) (C := RX0) (T := TX0) (N := 4) hx hb hts (by decide +kernel) hown hK hP 0 rfl rfl 1 (by decide) (hts (.fieldLink RX0 17 "LandDeeds$Estate" "years" "[I") (by decide +kernel)) (fun _ h9 => h9) rfl dX0_yearOf_9 ?_
    refine lv_iload_n hx hb dX0_yearOf_12 rfl (lv_at hl 1 rfl) ?_
    refine u_iald hx hb hK hP 1 0 rfl rfl rfl ⟨by omega, by omega⟩ dX0_yearOf_13 ?_
    refine lv_goto (tgt := 18) hx hb dX0_yearOf_14 (by decide) ?_
    rw [← hQ]
    exact W.iret (v := yr j) hx hb hr (fun t ht hW => ⟨_, rfl, rfl, ht⟩) (fun q h => absurd h List.not_mem_nil) dX0_yearOf_18

set_option maxHeartbeats 4000000 in
set_option maxRecDepth 100000 in
theorem c_X0_isOlder (l : Launch) (D : va_G) (cI cB cZ cP : ClassId) (h0 ap ay : Nat) (k j o : Nat) (lo : Int32) (yr : Nat → Int32) (hk : k ≤ 6) (hj : j < k) (ho : o < k) (hy : ∀ z, z < k → 1 ≤ (yr z).toInt ∧ (yr z).toInt ≤ 999) : Met l yX0_isOlder wsX0_isOlder ({ frames := 2, cells := 0, slots := 0, locals := 42 } : Room) (va_Pc [.ref h0, .int (nI j), .int (nI o)] (fun U => va_P D vwCl [(h0, .inr (2, [.ref ap, .ref ay, .int (nI k), .int lo])), (ay, .inl (cI, 6, .inl yr))] U.heap ∧ KW D cI cB cZ cP U ∧ E0 U.heap)) (vp_Si (fun r => r = zb (old yr j o))) 0 0 (fun _ => False) := by
  refine Met.ofW (cc := cX0_isOlder) (maxL := 4) (ret := (some .boolean)) (by decide) rfl ?_
  intro p e s m args below meth c s₁ B hml hv
  obtain ⟨rfl, hP, hW0, hE⟩ := hv
  have hx := B.exec
  have hb := B.bytes
  have hr := B.returns
  have hts := atoms_spec (ws := wsX0_isOlder) B.pre
  have hown : s.vm.findClass RX0 = some m.cls := findClass_of_methodNamed B.named
  have hlocks := B.notSynchronized
  have hK := hW0.1
  have hl := lv_entry ([.ref h0, .int (nI j), .int (nI o)]) (n := 4) (Nat.le_of_ble_eq_true rfl)
  rw [lg_entry_eq]
  generalize (lg_sl ([.ref h0, .int (nI j), .int (nI o)]) ++ List.replicate (4 - (lg_sl ([.ref h0, .int (nI j), .int (nI o)])).length) Slot.unset).toArray = ls at hl ⊢
  have hl : lv_has ls 4 [(0, .ref h0), (1, .int (nI j)), (2, .int (nI o))] := hl
  show W p l e ({ frames := 2, cells := 0, slots := 0, locals := 42 } : Room) s m ([.ref h0, .int (nI j), .int (nI o)] : List Value).toArray below meth c s.heap [] 0 0 _ (F0 m 0 ls [])
  refine u_genQ (fun Q hQ => ?_)
  have hyj := hy j hj
  have hyo := hy o ho
  have hsb := tI_sub (a := yr j) (b := yr o) (by omega) (by omega)
  refine lv_aload_n hx hb dX0_isOlder_0 rfl (lv_at hl 0 rfl) ?_
  refine lv_iload_n hx hb dX0_isOlder_1 rfl (lv_at hl 1 rfl) ?_
  have hPc := hP.sub (ws' := [(h0, .inr (2, [.ref ap, .ref ay, .int (nI k), .int lo])), (ay, .inl (cI, 6, .inl yr))]) [0, 1] rfl
  refine u_callSi (W.runV (As := [.int (nI j)]) (rest := []) ⟨hx, hb, hml, hown, hts⟩ (c_X0_yearOf l D cI cB cZ cP h0 ap ay k j lo yr (by first | assumption | omega) (by first | assumption | omega)) (cwV 1 hts gX0_isOlder_X0_yearOf rfl rfl rfl (by decide +kernel) ⟨Nat.le_of_ble_eq_true rfl, Nat.le_of_ble_eq_true rfl⟩) (pV (q0 := 0) hPc hW0 trivial rfl rfl) rfl rfl hl.1 rfl (lv_room (Nat.le_of_ble_eq_true rfl)) dX0_isOlder_2 ⟨Nat.le_of_ble_eq_true rfl, Nat.le_of_ble_eq_true rfl⟩) ?_
  refine lv_aload_n hx hb dX0_isOlder_5 rfl (lv_at hl 0 rfl) ?_
  refine lv_iload_n hx hb dX0_isOlder_6 rfl (lv_at hl 2 rfl) ?_
  have hPc := hP.sub (ws' := [(h0, .inr (2, [.ref ap, .ref ay, .int (nI k), .int lo])), (ay, .inl (cI, 6, .inl yr))]) [0, 1] rfl
  refine u_callSi (W.runV (As := [.int (nI o)]) (rest := [.int (yr j)]) ⟨hx, hb, hml, hown, hts⟩ (c_X0_yearOf l D cI cB cZ cP h0 ap ay k o lo yr (by first | assumption | omega) (by first | assumption | omega)) (cwV 1 hts gX0_isOlder_X0_yearOf rfl rfl rfl (by decide +kernel) ⟨Nat.le_of_ble_eq_true rfl, Nat.le_of_ble_eq_true rfl⟩) (pV (q0 := 0) hPc hW0 trivial rfl rfl) rfl rfl hl.1 rfl (lv_room (Nat.le_of_ble_eq_true rfl)) dX0_isOlder_7 ⟨Nat.le_of_ble_eq_true rfl, Nat.le_of_ble_eq_true rfl⟩) ?_
  refine lv_isub hx hb dX0_isOlder_10 ?_
  refine lv_istore_n (lv' := [(3, .int ((yr j) - (yr o))), (0, .ref h0), (1, .int (nI j)), (2, .int (nI o))]) hx hb dX0_isOlder_11 rfl hl (by decide) rfl (fun ls hl => ?_)
  refine lv_iload_n hx hb dX0_isOlder_12 rfl (lv_at hl 0 rfl) ?_
  refine lv_if_lt (tgt := 25) hx hb dX0_isOlder_13 (by decide) (fun c_1 => ?_) (fun c_1 => ?_)
  · skip
    refine lv_iconst (v := 1) hx hb dX0_isOlder_25 (by decide) ?_
    refine lv_goto (tgt := 30) hx hb dX0_isOlder_26 (by decide) ?_
    rw [← hQ]
    exact W.zret (v := 1) hx hb hr (by decide) (fun t ht hW => ⟨_, rfl, (zb_t (by unfold old; simp only [Int32.lt_iff_toInt_lt, ← Int32.toInt_inj, li_0, hsb] at c_1; omega)), ht⟩) (fun q h => absurd h List.not_mem_nil) dX0_isOlder_30
  · skip
    refine lv_iload_n hx hb dX0_isOlder_16 rfl (lv_at hl 0 rfl) ?_
    refine lv_if_ne (tgt := 29) hx hb dX0_isOlder_17 (by decide) (fun c_2 => ?_) (fun c_2 => ?_)
    · skip
      refine lv_iconst (v := 0) hx hb dX0_isOlder_29 (by decide) ?_
      rw [← hQ]
      exact W.zret (v := 0) hx hb hr (by decide) (fun t ht hW => ⟨_, rfl, (zb_f (by unfold old; simp only [Int32.lt_iff_toInt_lt, ← Int32.toInt_inj, li_0, hsb] at c_1 c_2; omega)), ht⟩) (fun q h => absurd h List.not_mem_nil) dX0_isOlder_30
    · skip
      refine lv_iload_n hx hb dX0_isOlder_20 rfl (lv_at hl 2 rfl) ?_
      refine lv_iload_n hx hb dX0_isOlder_21 rfl (lv_at hl 3 rfl) ?_
      refine lv_icmp_ge (tgt := 29) hx hb dX0_isOlder_22 (by decide) (fun c_3 => ?_) (fun c_3 => ?_)
      · skip
        have nc_3 : o ≤ j := (nI_leI (a := o) (b := j) (by omega) (by omega)).mp c_3
        refine lv_iconst (v := 0) hx hb dX0_isOlder_29 (by decide) ?_
        rw [← hQ]
        exact W.zret (v := 0) hx hb hr (by decide) (fun t ht hW => ⟨_, rfl, (zb_f (by unfold old; simp only [Int32.lt_iff_toInt_lt, ← Int32.toInt_inj, li_0, hsb] at c_1 c_2; omega)), ht⟩) (fun q h => absurd h List.not_mem_nil) dX0_isOlder_30
      · skip
        have nc_3 : ¬ (o ≤ j) := fun h => c_3 ((nI_leI (a := o) (b := j) (by omega) (by omega)).mpr h)
        refine lv_iconst (v := 1) hx hb dX0_isOlder_25 (by decide) ?_
        refine lv_goto (tgt := 30) hx hb dX0_isOlder_26 (by decide) ?_
        rw [← hQ]
        exact W.zret (v := 1) hx hb hr (by decide) (fun t ht hW => ⟨_, rfl, (zb_t (by unfold old; simp only [Int32.lt_iff_toInt_lt, ← Int32.toInt_inj, li_0, hsb] at c_1 c_2; omega)), ht⟩) (fun q h => absurd h List.not_mem_nil) dX0_isOlder_30

set_option maxHeartbeats 4000000 in
set_option maxRecDepth 100000 in
theorem c_X0_howManyOlder (l : Launch) (D : va_G) (cI cB cZ cP : ClassId) (h0 ap ay : Nat) (k o : Nat) (lo : Int32) (yr : Nat → Int32) (hk : k ≤ 6) (ho : o < k) (hy : ∀ z, z < k → 1 ≤ (yr z).toInt ∧ (yr z).toInt ≤ 999) : Met l yX0_howManyOlder wsX0_howManyOlder ({ frames := 3, cells := 0, slots := 0, locals := 65 } : Room) (va_Pc [.ref h0, .int (nI o)] (fun U => va_P D vwCl [(h0, .inr (2, [.ref ap, .ref ay, .int (nI k), .int lo])), (ay, .inl (cI, 6, .inl yr))] U.heap ∧ KW D cI cB cZ cP U ∧ E0 U.heap)) (vp_Si (fun r => r = nI (cnt (fun z => old yr z o) k))) 0 0 (fun _ => False) := by
  refine Met.ofW (cc := cX0_howManyOlder) (maxL := 4) (ret := (some .int)) (by decide) rfl ?_
  intro p e s m args below meth c s₁ B hml hv
  obtain ⟨rfl, hP, hW0, hE⟩ := hv
  have hx := B.exec
  have hb := B.bytes
  have hr := B.returns
  have hts := atoms_spec (ws := wsX0_howManyOlder) B.pre
  have hown : s.vm.findClass RX0 = some m.cls := findClass_of_methodNamed B.named
  have hlocks := B.notSynchronized
  have hK := hW0.1
  have hl := lv_entry ([.ref h0, .int (nI o)]) (n := 4) (Nat.le_of_ble_eq_true rfl)
  rw [lg_entry_eq]
  generalize (lg_sl ([.ref h0, .int (nI o)]) ++ List.replicate (4 - (lg_sl ([.ref h0, .int (nI o)])).length) Slot.unset).toArray = ls at hl ⊢
  have hl : lv_has ls 4 [(0, .ref h0), (1, .int (nI o))] := hl
  show W p l e ({ frames := 3, cells := 0, slots := 0, locals := 65 } : Room) s m ([.ref h0, .int (nI o)] : List Value).toArray below meth c s.heap [] 0 0 _ (F0 m 0 ls [])
  refine u_genQ (fun Q hQ => ?_)
  refine lv_iconst (v := 0) hx hb dX0_howManyOlder_0 (by decide) ?_
  refine lv_istore_n (lv' := [(2, .int 0), (0, .ref h0), (1, .int (nI o))]) hx hb dX0_howManyOlder_1 rfl hl (by decide) rfl (fun ls hl => ?_)
  refine lv_iconst (v := 0) hx hb dX0_howManyOlder_2 (by decide) ?_
  refine lv_istore_n (lv' := [(3, .int 0), (2, .int 0), (0, .ref h0), (1, .int (nI o))]) hx hb dX0_howManyOlder_3 rfl hl (by decide) rfl (fun ls hl => ?_)
  have LOOP_4 : ∀ (fu : Nat) (j : Nat) (hj : j ≤ k) (hn : k - j < fu) (ls : Array Slot) (hl : lv_has ls 4 [(0, .ref h0), (1, .int (nI o)), (2, .int (nI (cnt (fun z => old yr z o) j))), (3, .int (nI j))]), W p l e ({ frames := 3, cells := 0, slots := 0, locals := 65 } : Room) s m ([.ref h0, .int (nI o)] : List Value).toArray below meth c s.heap [] 0 0 Q (F0 m 4 ls []) := by
    intro fu
    induction fu with
    | zero => intro j hj hn ls hl; exact absurd hn (Nat.not_lt_zero _)
    | succ fu ih_4 =>
      intro j hj hn ls hl
      refine lv_iload_n hx hb dX0_howManyOlder_4 rfl (lv_at hl 3 rfl) ?_
      refine lv_aload_n hx hb dX0_howManyOlder_5 rfl (lv_at hl 0 rfl) ?_
      refine va_get (D := D) (ci := 2) (v := .int (nI k)) (C := RX0) (T := TX0) (N := 4) hx hb hts (by decide +kernel) hown hK hP 0 rfl rfl 2 (by decide) (hts (.fieldLink RX0 21 "LandDeeds$Estate" "size" "I") (by decide +kernel)) (fun _ h9 => h9) rfl dX0_howManyOlder_6 ?_
      refine lv_icmp_ge (tgt := 30) hx hb dX0_howManyOlder_9 (by decide) (fun c_1 => ?_) (fun c_1 => ?_)
      · skip
        have nc_1 : k ≤ j := (nI_leI (a := k) (b := j) (by omega) (by omega)).mp c_1
        refine lv_iload_n hx hb dX0_howManyOlder_30 rfl (lv_at hl 2 rfl) ?_
        rw [← hQ]
        exact W.iret (v := nI (cnt (fun z => old yr z o) j)) hx hb hr (fun t ht hW => ⟨_, rfl, (by rw [show j = k by omega]), ht⟩) (fun q h => absurd h List.not_mem_nil) dX0_howManyOlder_31
      · skip
        have nc_1 : ¬ (k ≤ j) := fun h => c_1 ((nI_leI (a := k) (b := j) (by omega) (by omega)).mpr h)
        refine lv_aload_n hx hb dX0_howManyOlder_12 rfl (lv_at hl 0 rfl) ?_
        refine lv_iload_n hx hb dX0_howManyOlder_13 rfl (lv_at hl 3 rfl) ?_
        refine lv_iload_n hx hb dX0_howManyOlder_14 rfl (lv_at hl 1 rfl) ?_
        have hPc := hP.sub (ws' := [(h0, .inr (2, [.ref ap, .ref ay, .int (nI k), .int lo])), (ay, .inl (cI, 6, .inl yr))]) [0, 1] rfl
        refine u_callSi (W.runV (As := [.int (nI j), .int (nI o)]) (rest := []) ⟨hx, hb, hml, hown, hts⟩ (c_X0_isOlder l D cI cB cZ cP h0 ap ay k j o lo yr (by first | assumption | omega) (by first | assumption | omega) (by first | assumption | omega) (by first | assumption | omega)) (cwV 2 hts gX0_howManyOlder_X0_isOlder rfl rfl rfl (by decide +kernel) ⟨Nat.le_of_ble_eq_true rfl, Nat.le_of_ble_eq_true rfl⟩) (pV (q0 := 0) hPc hW0 trivial rfl rfl) rfl rfl hl.1 rfl (lv_room (Nat.le_of_ble_eq_true rfl)) dX0_howManyOlder_15 ⟨Nat.le_of_ble_eq_true rfl, Nat.le_of_ble_eq_true rfl⟩) ?_
        refine lv_if_eq (tgt := 24) hx hb dX0_howManyOlder_18 (by decide) (fun c_2 => ?_) (fun c_2 => ?_)
        · skip
          have nc_2 := zb_eq0.mp c_2
          refine lv_iinc (v := nI (j + 1)) (lv' := [(3, .int (nI (j + 1))), (0, .ref h0), (1, .int (nI o)), (2, .int (nI (cnt (fun z => old yr z o) j)))]) hx hb dX0_howManyOlder_24 hl (k := 3) rfl (nI_1 _) (by decide) rfl (fun ls hl => ?_)
          refine lv_goto (tgt := 4) hx hb dX0_howManyOlder_27 (by decide) ?_
          exact ih_4 (j + 1) (by omega) (by omega) ls (by rw [cnt_f (P := fun z => old yr z o) nc_2]; exact (lv_sub hl [1, 2, 3, 0] rfl))
        · skip
          have nc_2 := zb_ne0.mp c_2
          refine lv_iinc (v := nI (cnt (fun z => old yr z o) j + 1)) (lv' := [(2, .int (nI (cnt (fun z => old yr z o) j + 1))), (0, .ref h0), (1, .int (nI o)), (3, .int (nI j))]) hx hb dX0_howManyOlder_21 hl (k := 2) rfl (nI_1 _) (by decide) rfl (fun ls hl => ?_)
          refine lv_iinc (v := nI (j + 1)) (lv' := [(3, .int (nI (j + 1))), (2, .int (nI (cnt (fun z => old yr z o) j + 1))), (0, .ref h0), (1, .int (nI o))]) hx hb dX0_howManyOlder_24 hl (k := 3) rfl (nI_1 _) (by decide) rfl (fun ls hl => ?_)
          refine lv_goto (tgt := 4) hx hb dX0_howManyOlder_27 (by decide) ?_
          exact ih_4 (j + 1) (by omega) (by omega) ls (by rw [cnt_t (P := fun z => old yr z o) nc_2]; exact (lv_sub hl [2, 3, 1, 0] rfl))
  exact LOOP_4 (k - 0 + 1) 0 (Nat.zero_le _) (Nat.lt_succ_self _) ls (lv_sub hl [2, 3, 1, 0] rfl)

set_option maxHeartbeats 4000000 in
set_option maxRecDepth 100000 in
theorem c_X4_missed (l : Launch) (D : va_G) (cI cB cZ cP : ClassId) (h0 as ae an : Nat) (nc : Nat) (ln pt tw nm : Int32) (a : Nat) (f : Nat → Int32) (hc : nc ≤ 8) : Met l yX4_missed wsX4_missed ({ frames := 0, cells := 0, slots := 0, locals := 0 } : Room) (va_Pc [.ref h0, .ref a] (fun U => va_P D vwCl [(h0, .inr (6, [.ref as, .ref ae, .ref an, .int ln, .int (nI nc), .int pt, .int tw, .int nm])), (a, .inl (cI, 8, .inl f))] U.heap ∧ KW D cI cB cZ cP U ∧ E0 U.heap)) (vp_Si (fun r => r = isum f nc)) 0 0 (fun _ => False) := by
  refine Met.ofW (cc := cX4_missed) (maxL := 4) (ret := (some .int)) (by decide) rfl ?_
  intro p e s m args below meth c s₁ B hml hv
  obtain ⟨rfl, hP, hW0, hE⟩ := hv
  have hx := B.exec
  have hb := B.bytes
  have hr := B.returns
  have hts := atoms_spec (ws := wsX4_missed) B.pre
  have hown : s.vm.findClass RX4 = some m.cls := findClass_of_methodNamed B.named
  have hlocks := B.notSynchronized
  have hK := hW0.1
  have hl := lv_entry ([.ref h0, .ref a]) (n := 4) (Nat.le_of_ble_eq_true rfl)
  rw [lg_entry_eq]
  generalize (lg_sl ([.ref h0, .ref a]) ++ List.replicate (4 - (lg_sl ([.ref h0, .ref a])).length) Slot.unset).toArray = ls at hl ⊢
  have hl : lv_has ls 4 [(0, .ref h0), (1, .ref a)] := hl
  show W p l e ({ frames := 0, cells := 0, slots := 0, locals := 0 } : Room) s m ([.ref h0, .ref a] : List Value).toArray below meth c s.heap [] 0 0 _ (F0 m 0 ls [])
  refine u_genQ (fun Q hQ => ?_)
  refine lv_iconst (v := 0) hx hb dX4_missed_0 (by decide) ?_
  refine lv_istore_n (lv' := [(2, .int 0), (0, .ref h0), (1, .ref a)]) hx hb dX4_missed_1 rfl hl (by decide) rfl (fun ls hl => ?_)
  refine lv_iconst (v := 0) hx hb dX4_missed_2 (by decide) ?_
  refine lv_istore_n (lv' := [(3, .int 0), (2, .int 0), (0, .ref h0), (1, .ref a)]) hx hb dX4_missed_3 rfl hl (by decide) rfl (fun ls hl => ?_)
  have LOOP_4 : ∀ (fu : Nat) (k : Nat) (hk : k ≤ nc) (hn : nc - k < fu) (ls : Array Slot) (hl : lv_has ls 4 [(0, .ref h0), (1, .ref a), (2, .int (isum f k)), (3, .int (nI k))]), W p l e ({ frames := 0, cells := 0, slots := 0, locals := 0 } : Room) s m ([.ref h0, .ref a] : List Value).toArray below meth c s.heap [] 0 0 Q (F0 m 4 ls []) := by
    intro fu
    induction fu with
    | zero => intro k hk hn ls hl; exact absurd hn (Nat.not_lt_zero _)
    | succ fu ih_4 =>
      intro k hk hn ls hl
      refine lv_iload_n hx hb dX4_missed_4 rfl (lv_at hl 3 rfl) ?_
      refine lv_aload_n hx hb dX4_missed_5 rfl (lv_at hl 0 rfl) ?_
      refine va_get (D := D) (ci := 6) (v := .int (nI nc)) (C := RX4) (T := TX4) (N := 8) hx hb hts (by decide +kernel) hown hK hP 0 rfl rfl 4 (by decide) (hts (.fieldLink RX4 25 "LandDeeds$Text" "calls" "I") (by decide +kernel)) (fun _ h9 => h9) rfl dX4_missed_6 ?_
      refine lv_icmp_ge (tgt := 30) hx hb dX4_missed_9 (by decide) (fun c_1 => ?_) (fun c_1 => ?_)
      · skip
        have nc_1 : nc ≤ k := (nI_leI (a := nc) (b := k) (by omega) (by omega)).mp c_1
        refine lv_iload_n hx hb dX4_missed_30 rfl (lv_at hl 2 rfl) ?_
        rw [← hQ]
        exact W.iret (v := isum f k) hx hb hr (fun t ht hW => ⟨_, rfl, (by rw [show k = nc by omega]), ht⟩) (fun q h => absurd h List.not_mem_nil) dX4_missed_31
      · skip
        have nc_1 : ¬ (nc ≤ k) := fun h => c_1 ((nI_leI (a := nc) (b := k) (by omega) (by omega)).mpr h)
        refine lv_iload_n hx hb dX4_missed_12 rfl (lv_at hl 3 rfl) ?_
        refine lv_aload_n hx hb dX4_missed_13 rfl (lv_at hl 1 rfl) ?_
        refine va_alen (v := 8) hx hb hK hP 1 0 rfl rfl rfl dX4_missed_14 ?_
        refine lv_icmp_ge (tgt := 30) hx hb dX4_missed_15 (by decide) (fun c_2 => ?_) (fun c_2 => ?_)
        · skip
          have nc_2 : 8 ≤ k := (nI_leI (a := 8) (b := k) (by omega) (by omega)).mp c_2
          exact absurd nc_2 (by omega)
        · skip
          have nc_2 : ¬ (8 ≤ k) := fun h => c_2 ((nI_leI (a := 8) (b := k) (by omega) (by omega)).mpr h)
          refine lv_iload_n hx hb dX4_missed_18 rfl (lv_at hl 2 rfl) ?_
          refine lv_aload_n hx hb dX4_missed_19 rfl (lv_at hl 1 rfl) ?_
          refine lv_iload_n hx hb dX4_missed_20 rfl (lv_at hl 3 rfl) ?_
          refine u_iald hx hb hK hP 1 0 rfl rfl rfl ⟨by omega, by omega⟩ dX4_missed_21 ?_
          refine lv_iadd hx hb dX4_missed_22 ?_
          refine u_eqi (show (isum f k) + (f k) = isum f (k + 1) from rfl) ?_
          refine lv_istore_n (lv' := [(2, .int (isum f (k + 1))), (0, .ref h0), (1, .ref a), (3, .int (nI k))]) hx hb dX4_missed_23 rfl hl (by decide) rfl (fun ls hl => ?_)
          refine lv_iinc (v := nI (k + 1)) (lv' := [(3, .int (nI (k + 1))), (2, .int (isum f (k + 1))), (0, .ref h0), (1, .ref a)]) hx hb dX4_missed_24 hl (k := 3) rfl (nI_1 _) (by decide) rfl (fun ls hl => ?_)
          refine lv_goto (tgt := 4) hx hb dX4_missed_27 (by decide) ?_
          exact ih_4 (k + 1) (by omega) (by omega) ls (lv_sub hl [2, 3, 1, 0] rfl)
  exact LOOP_4 (nc - 0 + 1) 0 (Nat.zero_le _) (Nat.lt_succ_self _) ls (lv_sub hl [2, 3, 1, 0] rfl)

set_option maxHeartbeats 4000000 in
set_option maxRecDepth 100000 in
theorem c_X4_stepsOfCall (l : Launch) (D : va_G) (cI cB cZ cP : ClassId) (h0 as ae an : Nat) (nc : Nat) (ln pt tw nm : Int32) (k : Nat) (fe fn : Nat → Int32) (hk : k < 8) : Met l yX4_stepsOfCall wsX4_stepsOfCall ({ frames := 1, cells := 0, slots := 0, locals := 14 } : Room) (va_Pc [.ref h0, .int (nI k)] (fun U => va_P D vwCl [(h0, .inr (6, [.ref as, .ref ae, .ref an, .int ln, .int (nI nc), .int pt, .int tw, .int nm])), (ae, .inl (cI, 8, .inl fe)), (an, .inl (cI, 8, .inl fn))] U.heap ∧ KW D cI cB cZ cP U ∧ E0 U.heap)) (vp_Si (fun r => r = stp fe fn k)) 0 0 (fun _ => False) := by
  refine Met.ofW (cc := cX4_stepsOfCall) (maxL := 2) (ret := (some .int)) (by decide) rfl ?_
  intro p e s m args below meth c s₁ B hml hv
  obtain ⟨rfl, hP, hW0, hE⟩ := hv
  have hx := B.exec
  have hb := B.bytes
  have hr := B.returns
  have hts := atoms_spec (ws := wsX4_stepsOfCall) B.pre
  have hown : s.vm.findClass RX4 = some m.cls := findClass_of_methodNamed B.named
  have hlocks := B.notSynchronized
  have hK := hW0.1
  have hl := lv_entry ([.ref h0, .int (nI k)]) (n := 2) (Nat.le_of_ble_eq_true rfl)
  rw [lg_entry_eq]
  generalize (lg_sl ([.ref h0, .int (nI k)]) ++ List.replicate (2 - (lg_sl ([.ref h0, .int (nI k)])).length) Slot.unset).toArray = ls at hl ⊢
  have hl : lv_has ls 2 [(0, .ref h0), (1, .int (nI k))] := hl
  show W p l e ({ frames := 1, cells := 0, slots := 0, locals := 14 } : Room) s m ([.ref h0, .int (nI k)] : List Value).toArray below meth c s.heap [] 0 0 _ (F0 m 0 ls [])
  refine u_genQ (fun Q hQ => ?_)
  refine lv_iload_n hx hb dX4_stepsOfCall_0 rfl (lv_at hl 1 rfl) ?_
  refine lv_if_lt (tgt := 32) hx hb dX4_stepsOfCall_1 (by decide) (fun c_1 => ?_) (fun c_1 => ?_)
  · skip
    have nc_1 : k < 0 := (nI_ltI (a := k) (b := 0) (by omega) (by omega)).mp c_1
    exact absurd nc_1 (by omega)
  · skip
    have nc_1 : ¬ (k < 0) := fun h => c_1 ((nI_ltI (a := k) (b := 0) (by omega) (by omega)).mpr h)
    refine lv_iload_n hx hb dX4_stepsOfCall_4 rfl (lv_at hl 1 rfl) ?_
    refine lv_bipush (v := 8) hx hb dX4_stepsOfCall_5 (by decide) ?_
    refine lv_icmp_ge (tgt := 32) hx hb dX4_stepsOfCall_7 (by decide) (fun c_2 => ?_) (fun c_2 => ?_)
    · skip
      have nc_2 : 8 ≤ k := (nI_leI (a := 8) (b := k) (by omega) (by omega)).mp c_2
      exact absurd nc_2 (by omega)
    · skip
      have nc_2 : ¬ (8 ≤ k) := fun h => c_2 ((nI_leI (a := 8) (b := k) (by omega) (by omega)).mpr h)
      refine lv_aload_n hx hb dX4_stepsOfCall_10 rfl (lv_at hl 0 rfl) ?_
      refine va_get (D := D) (ci := 6) (v := .ref ae) (C := RX4) (T := TX4) (N := 8) hx hb hts (by decide +kernel) hown hK hP 0 rfl rfl 1 (by decide) (hts (.fieldLink RX4 15 "LandDeeds$Text" "east" "[I") (by decide +kernel)) (fun _ h9 => h9) rfl dX4_stepsOfCall_11 ?_
      refine lv_iload_n hx hb dX4_stepsOfCall_14 rfl (lv_at hl 1 rfl) ?_
      refine u_iald hx hb hK hP 1 0 rfl rfl rfl ⟨by omega, by omega⟩ dX4_stepsOfCall_15 ?_
      refine va_mabs hx hb (by rw [hml]; exact hl.1.symm) hown (hts (.methodLink RX4 58 Lib.Math.abs.name) (by decide +kernel)) (hts (.static Lib.Math.abs.name) (by decide +kernel)) (hts (.initialized "java/lang/Math") (by decide +kernel)) (hts (.code Lib.Math.abs.name Lib.Math.abs.code 1 (some .int)) (by decide +kernel)) (Nat.le_of_ble_eq_true rfl) (Nat.le_of_ble_eq_true rfl) (Nat.zero_le _) (Nat.zero_le _) dX4_stepsOfCall_16 ?_
      refine lv_aload_n hx hb dX4_stepsOfCall_19 rfl (lv_at hl 0 rfl) ?_
      refine va_get (D := D) (ci := 6) (v := .ref an) (C := RX4) (T := TX4) (N := 8) hx hb hts (by decide +kernel) hown hK hP 0 rfl rfl 2 (by decide) (hts (.fieldLink RX4 18 "LandDeeds$Text" "north" "[I") (by decide +kernel)) (fun _ h9 => h9) rfl dX4_stepsOfCall_20 ?_
      refine lv_iload_n hx hb dX4_stepsOfCall_23 rfl (lv_at hl 1 rfl) ?_
      refine u_iald hx hb hK hP 2 0 rfl rfl rfl ⟨by omega, by omega⟩ dX4_stepsOfCall_24 ?_
      refine va_mabs hx hb (by rw [hml]; exact hl.1.symm) hown (hts (.methodLink RX4 58 Lib.Math.abs.name) (by decide +kernel)) (hts (.static Lib.Math.abs.name) (by decide +kernel)) (hts (.initialized "java/lang/Math") (by decide +kernel)) (hts (.code Lib.Math.abs.name Lib.Math.abs.code 1 (some .int)) (by decide +kernel)) (Nat.le_of_ble_eq_true rfl) (Nat.le_of_ble_eq_true rfl) (Nat.zero_le _) (Nat.zero_le _) dX4_stepsOfCall_25 ?_
      refine lv_iadd hx hb dX4_stepsOfCall_28 ?_
      refine lv_goto (tgt := 33) hx hb dX4_stepsOfCall_29 (by decide) ?_
      rw [← hQ]
      exact W.iret (v := (ab (fe k)) + (ab (fn k))) hx hb hr (fun t ht hW => ⟨_, rfl, rfl, ht⟩) (fun q h => absurd h List.not_mem_nil) dX4_stepsOfCall_33

set_option maxHeartbeats 4000000 in
set_option maxRecDepth 100000 in
theorem c_X4_far (l : Launch) (D : va_G) (cI cB cZ cP : ClassId) (h0 as ae an : Nat) (nc : Nat) (ln pt tw nm : Int32) (fe fn : Nat → Int32) (hc : nc ≤ 8) : Met l yX4_far wsX4_far ({ frames := 2, cells := 0, slots := 0, locals := 35 } : Room) (va_Pc [.ref h0] (fun U => va_P D vwCl [(h0, .inr (6, [.ref as, .ref ae, .ref an, .int ln, .int (nI nc), .int pt, .int tw, .int nm])), (ae, .inl (cI, 8, .inl fe)), (an, .inl (cI, 8, .inl fn))] U.heap ∧ KW D cI cB cZ cP U ∧ E0 U.heap)) (vp_Si (fun r => r = isum (stp fe fn) nc)) 0 0 (fun _ => False) := by
  refine Met.ofW (cc := cX4_far) (maxL := 3) (ret := (some .int)) (by decide) rfl ?_
  intro p e s m args below meth c s₁ B hml hv
  obtain ⟨rfl, hP, hW0, hE⟩ := hv
  have hx := B.exec
  have hb := B.bytes
  have hr := B.returns
  have hts := atoms_spec (ws := wsX4_far) B.pre
  have hown : s.vm.findClass RX4 = some m.cls := findClass_of_methodNamed B.named
  have hlocks := B.notSynchronized
  have hK := hW0.1
  have hl := lv_entry ([.ref h0]) (n := 3) (Nat.le_of_ble_eq_true rfl)
  rw [lg_entry_eq]
  generalize (lg_sl ([.ref h0]) ++ List.replicate (3 - (lg_sl ([.ref h0])).length) Slot.unset).toArray = ls at hl ⊢
  have hl : lv_has ls 3 [(0, .ref h0)] := hl
  show W p l e ({ frames := 2, cells := 0, slots := 0, locals := 35 } : Room) s m ([.ref h0] : List Value).toArray below meth c s.heap [] 0 0 _ (F0 m 0 ls [])
  refine u_genQ (fun Q hQ => ?_)
  refine lv_iconst (v := 0) hx hb dX4_far_0 (by decide) ?_
  refine lv_istore_n (lv' := [(1, .int 0), (0, .ref h0)]) hx hb dX4_far_1 rfl hl (by decide) rfl (fun ls hl => ?_)
  refine lv_iconst (v := 0) hx hb dX4_far_2 (by decide) ?_
  refine lv_istore_n (lv' := [(2, .int 0), (1, .int 0), (0, .ref h0)]) hx hb dX4_far_3 rfl hl (by decide) rfl (fun ls hl => ?_)
  have LOOP_4 : ∀ (fu : Nat) (k : Nat) (hk : k ≤ nc) (hn : nc - k < fu) (ls : Array Slot) (hl : lv_has ls 3 [(0, .ref h0), (1, .int (isum (stp fe fn) k)), (2, .int (nI k))]), W p l e ({ frames := 2, cells := 0, slots := 0, locals := 35 } : Room) s m ([.ref h0] : List Value).toArray below meth c s.heap [] 0 0 Q (F0 m 4 ls []) := by
    intro fu
    induction fu with
    | zero => intro k hk hn ls hl; exact absurd hn (Nat.not_lt_zero _)
    | succ fu ih_4 =>
      intro k hk hn ls hl
      refine lv_iload_n hx hb dX4_far_4 rfl (lv_at hl 2 rfl) ?_
      refine lv_aload_n hx hb dX4_far_5 rfl (lv_at hl 0 rfl) ?_
      refine va_get (D := D) (ci := 6) (v := .int (nI nc)) (C := RX4) (T := TX4) (N := 8) hx hb hts (by decide +kernel) hown hK hP 0 rfl rfl 4 (by decide) (hts (.fieldLink RX4 25 "LandDeeds$Text" "calls" "I") (by decide +kernel)) (fun _ h9 => h9) rfl dX4_far_6 ?_
      refine lv_icmp_ge (tgt := 32) hx hb dX4_far_9 (by decide) (fun c_1 => ?_) (fun c_1 => ?_)
      · skip
        have nc_1 : nc ≤ k := (nI_leI (a := nc) (b := k) (by omega) (by omega)).mp c_1
        refine lv_iload_n hx hb dX4_far_32 rfl (lv_at hl 1 rfl) ?_
        rw [← hQ]
        exact W.iret (v := isum (stp fe fn) k) hx hb hr (fun t ht hW => ⟨_, rfl, (by rw [show k = nc by omega]), ht⟩) (fun q h => absurd h List.not_mem_nil) dX4_far_33
      · skip
        have nc_1 : ¬ (nc ≤ k) := fun h => c_1 ((nI_leI (a := nc) (b := k) (by omega) (by omega)).mpr h)
        refine lv_iload_n hx hb dX4_far_12 rfl (lv_at hl 2 rfl) ?_
        refine lv_bipush (v := 8) hx hb dX4_far_13 (by decide) ?_
        refine lv_icmp_ge (tgt := 32) hx hb dX4_far_15 (by decide) (fun c_2 => ?_) (fun c_2 => ?_)
        · skip
          have nc_2 : 8 ≤ k := (nI_leI (a := 8) (b := k) (by omega) (by omega)).mp c_2
          exact absurd nc_2 (by omega)
        · skip
          have nc_2 : ¬ (8 ≤ k) := fun h => c_2 ((nI_leI (a := 8) (b := k) (by omega) (by omega)).mpr h)
          refine lv_iload_n hx hb dX4_far_18 rfl (lv_at hl 1 rfl) ?_
          refine lv_aload_n hx hb dX4_far_19 rfl (lv_at hl 0 rfl) ?_
          refine lv_iload_n hx hb dX4_far_20 rfl (lv_at hl 2 rfl) ?_
          have hPc := hP.sub (ws' := [(h0, .inr (6, [.ref as, .ref ae, .ref an, .int ln, .int (nI nc), .int pt, .int tw, .int nm])), (ae, .inl (cI, 8, .inl fe)), (an, .inl (cI, 8, .inl fn))]) [0, 1, 2] rfl
          refine u_callSi (W.runV (As := [.int (nI k)]) (rest := [.int (isum (stp fe fn) k)]) ⟨hx, hb, hml, hown, hts⟩ (c_X4_stepsOfCall l D cI cB cZ cP h0 as ae an nc ln pt tw nm k fe fn (by first | assumption | omega)) (cwV 1 hts gX4_far_X4_stepsOfCall rfl rfl rfl (by decide +kernel) ⟨Nat.le_of_ble_eq_true rfl, Nat.le_of_ble_eq_true rfl⟩) (pV (q0 := 0) hPc hW0 trivial rfl rfl) rfl rfl hl.1 rfl (lv_room (Nat.le_of_ble_eq_true rfl)) dX4_far_21 ⟨Nat.le_of_ble_eq_true rfl, Nat.le_of_ble_eq_true rfl⟩) ?_
          refine lv_iadd hx hb dX4_far_24 ?_
          refine u_eqi (show (isum (stp fe fn) k) + (stp fe fn k) = isum (stp fe fn) (k + 1) from rfl) ?_
          refine lv_istore_n (lv' := [(1, .int (isum (stp fe fn) (k + 1))), (0, .ref h0), (2, .int (nI k))]) hx hb dX4_far_25 rfl hl (by decide) rfl (fun ls hl => ?_)
          refine lv_iinc (v := nI (k + 1)) (lv' := [(2, .int (nI (k + 1))), (1, .int (isum (stp fe fn) (k + 1))), (0, .ref h0)]) hx hb dX4_far_26 hl (k := 2) rfl (nI_1 _) (by decide) rfl (fun ls hl => ?_)
          refine lv_goto (tgt := 4) hx hb dX4_far_29 (by decide) ?_
          exact ih_4 (k + 1) (by omega) (by omega) ls (lv_sub hl [2, 1, 0] rfl)
  exact LOOP_4 (nc - 0 + 1) 0 (Nat.zero_le _) (Nat.lt_succ_self _) ls (lv_sub hl [2, 1, 0] rfl)

