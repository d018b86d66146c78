set_option maxHeartbeats 4000000 in
set_option maxRecDepth 100000 in
theorem c_X1_next (l : Launch) (D : va_G) (cI cB cZ cP : ClassId) (h0 ax ay nn k : Nat) (hn8 : nn ≤ 8) (hk : k < nn) : Met l yX1_next wsX1_next ({ frames := 0, cells := 0, slots := 0, locals := 0 } : Room) (va_Pc [.ref h0, .int (nI k)] (fun U => va_P D vwCl [(h0, .inr (3, [.ref ax, .ref ay, .int (nI nn)]))] U.heap ∧ KW D cI cB cZ cP U ∧ E0 U.heap)) (vp_Si (fun r => r = nI (nxt nn k))) 0 0 (fun _ => False) := by
  refine Met.ofW (cc := cX1_next) (maxL := 2) (ret := (some .int)) (by decide) rfl ?_
  intro p e s m args below meth c s₁ B hml hv
  obtain ⟨rfl, hP, hW0, hE⟩ := hv
  have hx := B.exec
  have hb := B.bytes
  have hr := B.returns
  have hts := atoms_spec (ws := wsX1_next) B.pre
  have hown : s.vm.findClass RX1 = some m.cls := findClass_of_methodNamed B.named
  have hlocks := B.notSynchronized
  have hK := hW0.1
  have hl := lv_entry ([.ref h0, .int (nI k)]) (n := 2) (Nat.le_of_ble_eq_true rfl)
  rw [lg_entry_eq]
  generalize (lg_sl ([.ref h0, .int (nI k)]) ++ List.replicate (2 - (lg_sl ([.ref h0, .int (nI k)])).length) Slot.unset).toArray = ls at hl ⊢
  have hl : lv_has ls 2 [(0, .ref h0), (1, .int (nI k))] := hl
  show W p l e ({ frames := 0, cells := 0, slots := 0, locals := 0 } : Room) s m ([.ref h0, .int (nI k)] : List Value).toArray below meth c s.heap [] 0 0 _ (F0 m 0 ls [])
  refine u_genQ (fun Q hQ => ?_)
  refine lv_iload_n hx hb dX1_next_0 rfl (lv_at hl 1 rfl) ?_
  refine lv_iconst (v := 1) hx hb dX1_next_1 (by decide) ?_
  refine lv_iadd hx hb dX1_next_2 ?_
  refine u_eqi (show (nI k) + 1 = nI (k + 1) from nI_1 k) ?_
  refine lv_aload_n hx hb dX1_next_3 rfl (lv_at hl 0 rfl) ?_
  refine va_get (D := D) (ci := 3) (v := .int (nI nn)) (C := RX1) (T := TX1) (N := 3) hx hb hts (by decide +kernel) hown hK hP 0 rfl rfl 2 (by decide) (hts (.fieldLink RX1 22 "LandDeeds$Outline" "corners" "I") (by decide +kernel)) (fun _ h9 => h9) rfl dX1_next_4 ?_
  refine lv_icmp_ge (tgt := 16) hx hb dX1_next_7 (by decide) (fun c_1 => ?_) (fun c_1 => ?_)
  · skip
    have nc_1 : nn ≤ k + 1 := (nI_leI (a := nn) (b := (k + 1)) (by omega) (by omega)).mp c_1
    refine lv_iconst (v := 0) hx hb dX1_next_16 (by decide) ?_
    rw [← hQ]
    exact W.iret (v := 0) hx hb hr (fun t ht hW => ⟨_, rfl, (by unfold nxt; rw [if_neg (by omega)]; rfl), ht⟩) (fun q h => absurd h List.not_mem_nil) dX1_next_17
  · skip
    have nc_1 : ¬ (nn ≤ k + 1) := fun h => c_1 ((nI_leI (a := nn) (b := (k + 1)) (by omega) (by omega)).mpr h)
    refine lv_iload_n hx hb dX1_next_10 rfl (lv_at hl 1 rfl) ?_
    refine lv_iconst (v := 1) hx hb dX1_next_11 (by decide) ?_
    refine lv_iadd hx hb dX1_next_12 ?_
    refine u_eqi (show (nI k) + 1 = nI (k + 1) from nI_1 k) ?_
    refine lv_goto (tgt := 17) hx hb dX1_next_13 (by decide) ?_
    rw [← hQ]
    exact W.iret (v := nI (k + 1)) hx hb hr (fun t ht hW => ⟨_, rfl, (by unfold nxt; rw [if_pos (by omega)]), ht⟩) (fun q h => absurd h List.not_mem_nil) dX1_next_17

set_option maxHeartbeats 4000000 in
set_option maxRecDepth 100000 in
theorem c_X1_isMerePoint (l : Launch) (D : va_G) (cI cB cZ cP : ClassId) (h0 ax ay nn : Nat) (X Y : Nat → Int32) (k : Nat) (hn8 : nn ≤ 8) (hk : k < nn) : Met l yX1_isMerePoint wsX1_isMerePoint ({ frames := 1, cells := 0, slots := 0, locals := 21 } : Room) (va_Pc [.ref h0, .int (nI k)] (fun U => va_P D vwCl [(h0, .inr (3, [.ref ax, .ref ay, .int (nI nn)])), (ax, .inl (cI, nn, .inl X)), (ay, .inl (cI, nn, .inl Y))] U.heap ∧ KW D cI cB cZ cP U ∧ E0 U.heap)) (vp_Si (fun r => r = zb (mere nn X Y k))) 0 0 (fun _ => False) := by
  refine Met.ofW (cc := cX1_isMerePoint) (maxL := 3) (ret := (some .boolean)) (by decide) rfl ?_
  intro p e s m args below meth c s₁ B hml hv
  obtain ⟨rfl, hP, hW0, hE⟩ := hv
  have hx := B.exec
  have hb := B.bytes
  have hr := B.returns
  have hts := atoms_spec (ws := wsX1_isMerePoint) B.pre
  have hown : s.vm.findClass RX1 = some m.cls := findClass_of_methodNamed B.named
  have hlocks := B.notSynchronized
  have hK := hW0.1
  have hl := lv_entry ([.ref h0, .int (nI k)]) (n := 3) (Nat.le_of_ble_eq_true rfl)
  rw [lg_entry_eq]
  generalize (lg_sl ([.ref h0, .int (nI k)]) ++ List.replicate (3 - (lg_sl ([.ref h0, .int (nI k)])).length) Slot.unset).toArray = ls at hl ⊢
  have hl : lv_has ls 3 [(0, .ref h0), (1, .int (nI k))] := hl
  show W p l e ({ frames := 1, cells := 0, slots := 0, locals := 21 } : Room) s m ([.ref h0, .int (nI k)] : List Value).toArray below meth c s.heap [] 0 0 _ (F0 m 0 ls [])
  refine u_genQ (fun Q hQ => ?_)
  have hnx := nxt_lt hk
  refine lv_aload_n hx hb dX1_isMerePoint_0 rfl (lv_at hl 0 rfl) ?_
  refine lv_iload_n hx hb dX1_isMerePoint_1 rfl (lv_at hl 1 rfl) ?_
  have hPc := hP.sub (ws' := [(h0, .inr (3, [.ref ax, .ref ay, .int (nI nn)]))]) [0] rfl
  refine u_callSi (W.runV (As := [.int (nI k)]) (rest := []) ⟨hx, hb, hml, hown, hts⟩ (c_X1_next l D cI cB cZ cP h0 ax ay nn k (by first | assumption | omega) (by first | assumption | omega)) (cwV 1 hts gX1_isMerePoint_X1_next rfl rfl rfl (by decide +kernel) ⟨Nat.le_of_ble_eq_true rfl, Nat.le_of_ble_eq_true rfl⟩) (pV (q0 := 0) hPc hW0 trivial rfl rfl) rfl rfl hl.1 rfl (lv_room (Nat.le_of_ble_eq_true rfl)) dX1_isMerePoint_2 ⟨Nat.le_of_ble_eq_true rfl, Nat.le_of_ble_eq_true rfl⟩) ?_
  refine lv_istore_n (lv' := [(2, .int (nI (nxt nn k))), (0, .ref h0), (1, .int (nI k))]) hx hb dX1_isMerePoint_5 rfl hl (by decide) rfl (fun ls hl => ?_)
  refine lv_aload_n hx hb dX1_isMerePoint_6 rfl (lv_at hl 1 rfl) ?_
  refine va_get (D := D) (ci := 3) (v := .ref ax) (C := RX1) (T := TX1) (N := 3) hx hb hts (by decide +kernel) hown hK hP 0 rfl rfl 0 (by decide) (hts (.fieldLink RX1 7 "LandDeeds$Outline" "xs" "[I") (by decide +kernel)) (fun _ h9 => h9) rfl dX1_isMerePoint_7 ?_
  refine lv_iload_n hx hb dX1_isMerePoint_10 rfl (lv_at hl 2 rfl) ?_
  refine u_iald hx hb hK hP 1 0 rfl rfl rfl ⟨by omega, by omega⟩ dX1_isMerePoint_11 ?_
  refine lv_aload_n hx hb dX1_isMerePoint_12 rfl (lv_at hl 1 rfl) ?_
  refine va_get (D := D) (ci := 3) (v := .ref ax) (C := RX1) (T := TX1) (N := 3) hx hb hts (by decide +kernel) hown hK hP 0 rfl rfl 0 (by decide) (hts (.fieldLink RX1 7 "LandDeeds$Outline" "xs" "[I") (by decide +kernel)) (fun _ h9 => h9) rfl dX1_isMerePoint_13 ?_
  refine lv_iload_n hx hb dX1_isMerePoint_16 rfl (lv_at hl 0 rfl) ?_
  refine u_iald hx hb hK hP 1 0 rfl rfl rfl ⟨by omega, by omega⟩ dX1_isMerePoint_17 ?_
  refine lv_icmp_ne (tgt := 40) hx hb dX1_isMerePoint_18 (by decide) (fun c_1 => ?_) (fun c_1 => ?_)
  · skip
    refine lv_iconst (v := 0) hx hb dX1_isMerePoint_40 (by decide) ?_
    rw [← hQ]
    exact W.zret (v := 0) hx hb hr (by decide) (fun t ht hW => ⟨_, rfl, (zb_f (by unfold mere; rintro ⟨h1, h2⟩; contradiction)), ht⟩) (fun q h => absurd h List.not_mem_nil) dX1_isMerePoint_41
  · skip
    refine lv_aload_n hx hb dX1_isMerePoint_21 rfl (lv_at hl 1 rfl) ?_
    refine va_get (D := D) (ci := 3) (v := .ref ay) (C := RX1) (T := TX1) (N := 3) hx hb hts (by decide +kernel) hown hK hP 0 rfl rfl 1 (by decide) (hts (.fieldLink RX1 13 "LandDeeds$Outline" "ys" "[I") (by decide +kernel)) (fun _ h9 => h9) rfl dX1_isMerePoint_22 ?_
    refine lv_iload_n hx hb dX1_isMerePoint_25 rfl (lv_at hl 2 rfl) ?_
    refine u_iald hx hb hK hP 2 0 rfl rfl rfl ⟨by omega, by omega⟩ dX1_isMerePoint_26 ?_
    refine lv_aload_n hx hb dX1_isMerePoint_27 rfl (lv_at hl 1 rfl) ?_
    refine va_get (D := D) (ci := 3) (v := .ref ay) (C := RX1) (T := TX1) (N := 3) hx hb hts (by decide +kernel) hown hK hP 0 rfl rfl 1 (by decide) (hts (.fieldLink RX1 13 "LandDeeds$Outline" "ys" "[I") (by decide +kernel)) (fun _ h9 => h9) rfl dX1_isMerePoint_28 ?_
    refine lv_iload_n hx hb dX1_isMerePoint_31 rfl (lv_at hl 0 rfl) ?_
    refine u_iald hx hb hK hP 2 0 rfl rfl rfl ⟨by omega, by omega⟩ dX1_isMerePoint_32 ?_
    refine lv_icmp_ne (tgt := 40) hx hb dX1_isMerePoint_33 (by decide) (fun c_2 => ?_) (fun c_2 => ?_)
    · skip
      refine lv_iconst (v := 0) hx hb dX1_isMerePoint_40 (by decide) ?_
      rw [← hQ]
      exact W.zret (v := 0) hx hb hr (by decide) (fun t ht hW => ⟨_, rfl, (zb_f (by unfold mere; rintro ⟨h1, h2⟩; contradiction)), ht⟩) (fun q h => absurd h List.not_mem_nil) dX1_isMerePoint_41
    · skip
      refine lv_iconst (v := 1) hx hb dX1_isMerePoint_36 (by decide) ?_
      refine lv_goto (tgt := 41) hx hb dX1_isMerePoint_37 (by decide) ?_
      rw [← hQ]
      exact W.zret (v := 1) hx hb hr (by decide) (fun t ht hW => ⟨_, rfl, (zb_t (by unfold mere; exact ⟨by assumption, by assumption⟩)), ht⟩) (fun q h => absurd h List.not_mem_nil) dX1_isMerePoint_41

set_option maxHeartbeats 4000000 in
set_option maxRecDepth 100000 in
theorem c_X1_turnAt (l : Launch) (D : va_G) (cI cB cZ cP : ClassId) (h0 ax ay nn : Nat) (X Y : Nat → Int32) (k : Nat) (x y : Int32) (hn8 : nn ≤ 8) (hk : k < nn) : Met l yX1_turnAt wsX1_turnAt ({ frames := 1, cells := 0, slots := 0, locals := 21 } : Room) (va_Pc [.ref h0, .int (nI k), .int x, .int y] (fun U => va_P D vwCl [(h0, .inr (3, [.ref ax, .ref ay, .int (nI nn)])), (ax, .inl (cI, nn, .inl X)), (ay, .inl (cI, nn, .inl Y))] U.heap ∧ KW D cI cB cZ cP U ∧ E0 U.heap)) (vp_Si (fun r => r = sdT nn X Y k x y)) 0 0 (fun _ => False) := by
  refine Met.ofW (cc := cX1_turnAt) (maxL := 5) (ret := (some .int)) (by decide) rfl ?_
  intro p e s m args below meth c s₁ B hml hv
  obtain ⟨rfl, hP, hW0, hE⟩ := hv
  have hx := B.exec
  have hb := B.bytes
  have hr := B.returns
  have hts := atoms_spec (ws := wsX1_turnAt) B.pre
  have hown : s.vm.findClass RX1 = some m.cls := findClass_of_methodNamed B.named
  have hlocks := B.notSynchronized
  have hK := hW0.1
  have hl := lv_entry ([.ref h0, .int (nI k), .int x, .int y]) (n := 5) (Nat.le_of_ble_eq_true rfl)
  rw [lg_entry_eq]
  generalize (lg_sl ([.ref h0, .int (nI k), .int x, .int y]) ++ List.replicate (5 - (lg_sl ([.ref h0, .int (nI k), .int x, .int y])).length) Slot.unset).toArray = ls at hl ⊢
  have hl : lv_has ls 5 [(0, .ref h0), (1, .int (nI k)), (2, .int x), (3, .int y)] := hl
  show W p l e ({ frames := 1, cells := 0, slots := 0, locals := 21 } : Room) s m ([.ref h0, .int (nI k), .int x, .int y] : List Value).toArray below meth c s.heap [] 0 0 _ (F0 m 0 ls [])
  refine u_genQ (fun Q hQ => ?_)
  have hnx := nxt_lt hk
  refine lv_aload_n hx hb dX1_turnAt_0 rfl (lv_at hl 0 rfl) ?_
  refine lv_iload_n hx hb dX1_turnAt_1 rfl (lv_at hl 1 rfl) ?_
  have hPc := hP.sub (ws' := [(h0, .inr (3, [.ref ax, .ref ay, .int (nI nn)]))]) [0] rfl
  refine u_callSi (W.runV (As := [.int (nI k)]) (rest := []) ⟨hx, hb, hml, hown, hts⟩ (c_X1_next l D cI cB cZ cP h0 ax ay nn k (by first | assumption | omega) (by first | assumption | omega)) (cwV 1 hts gX1_turnAt_X1_next rfl rfl rfl (by decide +kernel) ⟨Nat.le_of_ble_eq_true rfl, Nat.le_of_ble_eq_true rfl⟩) (pV (q0 := 0) hPc hW0 trivial rfl rfl) rfl rfl hl.1 rfl (lv_room (Nat.le_of_ble_eq_true rfl)) dX1_turnAt_2 ⟨Nat.le_of_ble_eq_true rfl, Nat.le_of_ble_eq_true rfl⟩) ?_
  refine lv_istore (lv' := [(4, .int (nI (nxt nn k))), (0, .ref h0), (1, .int (nI k)), (2, .int x), (3, .int y)]) hx hb dX1_turnAt_5 hl (by decide) rfl (fun ls hl => ?_)
  refine lv_aload_n hx hb dX1_turnAt_7 rfl (lv_at hl 1 rfl) ?_
  refine va_get (D := D) (ci := 3) (v := .ref ax) (C := RX1) (T := TX1) (N := 3) hx hb hts (by decide +kernel) hown hK hP 0 rfl rfl 0 (by decide) (hts (.fieldLink RX1 7 "LandDeeds$Outline" "xs" "[I") (by decide +kernel)) (fun _ h9 => h9) rfl dX1_turnAt_8 ?_
  refine lv_iload hx hb dX1_turnAt_11 (lv_at hl 0 rfl) ?_
  refine u_iald hx hb hK hP 1 0 rfl rfl rfl ⟨by omega, by omega⟩ dX1_turnAt_13 ?_
  refine lv_aload_n hx hb dX1_turnAt_14 rfl (lv_at hl 1 rfl) ?_
  refine va_get (D := D) (ci := 3) (v := .ref ax) (C := RX1) (T := TX1) (N := 3) hx hb hts (by decide +kernel) hown hK hP 0 rfl rfl 0 (by decide) (hts (.fieldLink RX1 7 "LandDeeds$Outline" "xs" "[I") (by decide +kernel)) (fun _ h9 => h9) rfl dX1_turnAt_15 ?_
  refine lv_iload_n hx hb dX1_turnAt_18 rfl (lv_at hl 2 rfl) ?_
  refine u_iald hx hb hK hP 1 0 rfl rfl rfl ⟨by omega, by omega⟩ dX1_turnAt_19 ?_
  refine lv_isub hx hb dX1_turnAt_20 ?_
  refine lv_iload_n hx hb dX1_turnAt_21 rfl (lv_at hl 4 rfl) ?_
  refine lv_aload_n hx hb dX1_turnAt_22 rfl (lv_at hl 1 rfl) ?_
  refine va_get (D := D) (ci := 3) (v := .ref ay) (C := RX1) (T := TX1) (N := 3) hx hb hts (by decide +kernel) hown hK hP 0 rfl rfl 1 (by decide) (hts (.fieldLink RX1 13 "LandDeeds$Outline" "ys" "[I") (by decide +kernel)) (fun _ h9 => h9) rfl dX1_turnAt_23 ?_
  refine lv_iload_n hx hb dX1_turnAt_26 rfl (lv_at hl 2 rfl) ?_
  refine u_iald hx hb hK hP 2 0 rfl rfl rfl ⟨by omega, by omega⟩ dX1_turnAt_27 ?_
  refine lv_isub hx hb dX1_turnAt_28 ?_
  refine lv_imul hx hb dX1_turnAt_29 ?_
  refine lv_aload_n hx hb dX1_turnAt_30 rfl (lv_at hl 1 rfl) ?_
  refine va_get (D := D) (ci := 3) (v := .ref ay) (C := RX1) (T := TX1) (N := 3) hx hb hts (by decide +kernel) hown hK hP 0 rfl rfl 1 (by decide) (hts (.fieldLink RX1 13 "LandDeeds$Outline" "ys" "[I") (by decide +kernel)) (fun _ h9 => h9) rfl dX1_turnAt_31 ?_
  refine lv_iload hx hb dX1_turnAt_34 (lv_at hl 0 rfl) ?_
  refine u_iald hx hb hK hP 2 0 rfl rfl rfl ⟨by omega, by omega⟩ dX1_turnAt_36 ?_
  refine lv_aload_n hx hb dX1_turnAt_37 rfl (lv_at hl 1 rfl) ?_
  refine va_get (D := D) (ci := 3) (v := .ref ay) (C := RX1) (T := TX1) (N := 3) hx hb hts (by decide +kernel) hown hK hP 0 rfl rfl 1 (by decide) (hts (.fieldLink RX1 13 "LandDeeds$Outline" "ys" "[I") (by decide +kernel)) (fun _ h9 => h9) rfl dX1_turnAt_38 ?_
  refine lv_iload_n hx hb dX1_turnAt_41 rfl (lv_at hl 2 rfl) ?_
  refine u_iald hx hb hK hP 2 0 rfl rfl rfl ⟨by omega, by omega⟩ dX1_turnAt_42 ?_
  refine lv_isub hx hb dX1_turnAt_43 ?_
  refine lv_iload_n hx hb dX1_turnAt_44 rfl (lv_at hl 3 rfl) ?_
  refine lv_aload_n hx hb dX1_turnAt_45 rfl (lv_at hl 1 rfl) ?_
  refine va_get (D := D) (ci := 3) (v := .ref ax) (C := RX1) (T := TX1) (N := 3) hx hb hts (by decide +kernel) hown hK hP 0 rfl rfl 0 (by decide) (hts (.fieldLink RX1 7 "LandDeeds$Outline" "xs" "[I") (by decide +kernel)) (fun _ h9 => h9) rfl dX1_turnAt_46 ?_
  refine lv_iload_n hx hb dX1_turnAt_49 rfl (lv_at hl 2 rfl) ?_
  refine u_iald hx hb hK hP 1 0 rfl rfl rfl ⟨by omega, by omega⟩ dX1_turnAt_50 ?_
  refine lv_isub hx hb dX1_turnAt_51 ?_
  refine lv_imul hx hb dX1_turnAt_52 ?_
  refine lv_isub hx hb dX1_turnAt_53 ?_
  rw [← hQ]
  exact W.iret (v := (((X (nxt nn k)) - (X k)) * (y - (Y k))) - (((Y (nxt nn k)) - (Y k)) * (x - (X k)))) hx hb hr (fun t ht hW => ⟨_, rfl, rfl, ht⟩) (fun q h => absurd h List.not_mem_nil) dX1_turnAt_54

set_option maxHeartbeats 4000000 in
set_option maxRecDepth 100000 in
theorem c_X1_isOn (l : Launch) (D : va_G) (cI cB cZ cP : ClassId) (h0 ax ay nn : Nat) (X Y : Nat → Int32) (k : Nat) (x y : Int32) (hn8 : nn ≤ 8) (hk : k < nn) : Met l yX1_isOn wsX1_isOn ({ frames := 2, cells := 0, slots := 0, locals := 45 } : Room) (va_Pc [.ref h0, .int (nI k), .int x, .int y] (fun U => va_P D vwCl [(h0, .inr (3, [.ref ax, .ref ay, .int (nI nn)])), (ax, .inl (cI, nn, .inl X)), (ay, .inl (cI, nn, .inl Y))] U.heap ∧ KW D cI cB cZ cP U ∧ E0 U.heap)) (vp_Si (fun r => r = zb (sdO nn X Y k x y))) 0 0 (fun _ => False) := by
  refine Met.ofW (cc := cX1_isOn) (maxL := 5) (ret := (some .boolean)) (by decide) rfl ?_
  intro p e s m args below meth c s₁ B hml hv
  obtain ⟨rfl, hP, hW0, hE⟩ := hv
  have hx := B.exec
  have hb := B.bytes
  have hr := B.returns
  have hts := atoms_spec (ws := wsX1_isOn) B.pre
  have hown : s.vm.findClass RX1 = some m.cls := findClass_of_methodNamed B.named
  have hlocks := B.notSynchronized
  have hK := hW0.1
  have hl := lv_entry ([.ref h0, .int (nI k), .int x, .int y]) (n := 5) (Nat.le_of_ble_eq_true rfl)
  rw [lg_entry_eq]
  generalize (lg_sl ([.ref h0, .int (nI k), .int x, .int y]) ++ List.replicate (5 - (lg_sl ([.ref h0, .int (nI k), .int x, .int y])).length) Slot.unset).toArray = ls at hl ⊢
  have hl : lv_has ls 5 [(0, .ref h0), (1, .int (nI k)), (2, .int x), (3, .int y)] := hl
  show W p l e ({ frames := 2, cells := 0, slots := 0, locals := 45 } : Room) s m ([.ref h0, .int (nI k), .int x, .int y] : List Value).toArray below meth c s.heap [] 0 0 _ (F0 m 0 ls [])
  refine u_genQ (fun Q hQ => ?_)
  have hnx := nxt_lt hk
  refine lv_aload_n hx hb dX1_isOn_0 rfl (lv_at hl 0 rfl) ?_
  refine lv_iload_n hx hb dX1_isOn_1 rfl (lv_at hl 1 rfl) ?_
  have hPc := hP.sub (ws' := [(h0, .inr (3, [.ref ax, .ref ay, .int (nI nn)]))]) [0] rfl
  refine u_callSi (W.runV (As := [.int (nI k)]) (rest := []) ⟨hx, hb, hml, hown, hts⟩ (c_X1_next l D cI cB cZ cP h0 ax ay nn k (by first | assumption | omega) (by first | assumption | omega)) (cwV 1 hts gX1_isOn_X1_next rfl rfl rfl (by decide +kernel) ⟨Nat.le_of_ble_eq_true rfl, Nat.le_of_ble_eq_true rfl⟩) (pV (q0 := 0) hPc hW0 trivial rfl rfl) rfl rfl hl.1 rfl (lv_room (Nat.le_of_ble_eq_true rfl)) dX1_isOn_2 ⟨Nat.le_of_ble_eq_true rfl, Nat.le_of_ble_eq_true rfl⟩) ?_
  refine lv_istore (lv' := [(4, .int (nI (nxt nn k))), (0, .ref h0), (1, .int (nI k)), (2, .int x), (3, .int y)]) hx hb dX1_isOn_5 hl (by decide) rfl (fun ls hl => ?_)
  refine lv_aload_n hx hb dX1_isOn_7 rfl (lv_at hl 1 rfl) ?_
  refine lv_iload_n hx hb dX1_isOn_8 rfl (lv_at hl 2 rfl) ?_
  refine lv_iload_n hx hb dX1_isOn_9 rfl (lv_at hl 3 rfl) ?_
  refine lv_iload_n hx hb dX1_isOn_10 rfl (lv_at hl 4 rfl) ?_
  have hPc := hP.sub (ws' := [(h0, .inr (3, [.ref ax, .ref ay, .int (nI nn)])), (ax, .inl (cI, nn, .inl X)), (ay, .inl (cI, nn, .inl Y))]) [0, 1, 2] rfl
  refine u_callSi (W.runV (As := [.int (nI k), .int x, .int y]) (rest := []) ⟨hx, hb, hml, hown, hts⟩ (c_X1_turnAt l D cI cB cZ cP h0 ax ay nn X Y k x y (by first | assumption | omega) (by first | assumption | omega)) (cwV 3 hts gX1_isOn_X1_turnAt rfl rfl rfl (by decide +kernel) ⟨Nat.le_of_ble_eq_true rfl, Nat.le_of_ble_eq_true rfl⟩) (pV (q0 := 0) hPc hW0 trivial rfl rfl) rfl rfl hl.1 rfl (lv_room (Nat.le_of_ble_eq_true rfl)) dX1_isOn_11 ⟨Nat.le_of_ble_eq_true rfl, Nat.le_of_ble_eq_true rfl⟩) ?_
  refine lv_if_ne (tgt := 101) hx hb dX1_isOn_14 (by decide) (fun c_1 => ?_) (fun c_1 => ?_)
  · skip
    refine lv_iconst (v := 0) hx hb dX1_isOn_101 (by decide) ?_
    rw [← hQ]
    exact W.zret (v := 0) hx hb hr (by decide) (fun t ht hW => ⟨_, rfl, (zb_f (by unfold sdO onS; rintro ⟨h1, h2, h3, h4, h5⟩; contradiction)), ht⟩) (fun q h => absurd h List.not_mem_nil) dX1_isOn_102
  · skip
    refine lv_iload_n hx hb dX1_isOn_17 rfl (lv_at hl 3 rfl) ?_
    refine lv_aload_n hx hb dX1_isOn_18 rfl (lv_at hl 1 rfl) ?_
    refine va_get (D := D) (ci := 3) (v := .ref ax) (C := RX1) (T := TX1) (N := 3) hx hb hts (by decide +kernel) hown hK hP 0 rfl rfl 0 (by decide) (hts (.fieldLink RX1 7 "LandDeeds$Outline" "xs" "[I") (by decide +kernel)) (fun _ h9 => h9) rfl dX1_isOn_19 ?_
    refine lv_iload_n hx hb dX1_isOn_22 rfl (lv_at hl 2 rfl) ?_
    refine u_iald hx hb hK hP 1 0 rfl rfl rfl ⟨by omega, by omega⟩ dX1_isOn_23 ?_
    refine lv_aload_n hx hb dX1_isOn_24 rfl (lv_at hl 1 rfl) ?_
    refine va_get (D := D) (ci := 3) (v := .ref ax) (C := RX1) (T := TX1) (N := 3) hx hb hts (by decide +kernel) hown hK hP 0 rfl rfl 0 (by decide) (hts (.fieldLink RX1 7 "LandDeeds$Outline" "xs" "[I") (by decide +kernel)) (fun _ h9 => h9) rfl dX1_isOn_25 ?_
    refine lv_iload hx hb dX1_isOn_28 (lv_at hl 0 rfl) ?_
    refine u_iald hx hb hK hP 1 0 rfl rfl rfl ⟨by omega, by omega⟩ dX1_isOn_30 ?_
    refine va_mmin hx hb (by rw [hml]; exact hl.1.symm) hown (hts (.methodLink RX1 16 Lib.Math.min.name) (by decide +kernel)) (hts (.static Lib.Math.min.name) (by decide +kernel)) (hts (.initialized "java/lang/Math") (by decide +kernel)) (hts (.code Lib.Math.min.name Lib.Math.min.code 2 (some .int)) (by decide +kernel)) (Nat.le_of_ble_eq_true rfl) (Nat.le_of_ble_eq_true rfl) (Nat.zero_le _) (Nat.zero_le _) dX1_isOn_31 ?_
    refine lv_icmp_lt (tgt := 101) hx hb dX1_isOn_34 (by decide) (fun c_2 => ?_) (fun c_2 => ?_)
    · skip
      refine lv_iconst (v := 0) hx hb dX1_isOn_101 (by decide) ?_
      rw [← hQ]
      exact W.zret (v := 0) hx hb hr (by decide) (fun t ht hW => ⟨_, rfl, (zb_f (by unfold sdO onS; rintro ⟨h1, h2, h3, h4, h5⟩; contradiction)), ht⟩) (fun q h => absurd h List.not_mem_nil) dX1_isOn_102
    · skip
      refine lv_iload_n hx hb dX1_isOn_37 rfl (lv_at hl 3 rfl) ?_
      refine lv_aload_n hx hb dX1_isOn_38 rfl (lv_at hl 1 rfl) ?_
      refine va_get (D := D) (ci := 3) (v := .ref ax) (C := RX1) (T := TX1) (N := 3) hx hb hts (by decide +kernel) hown hK hP 0 rfl rfl 0 (by decide) (hts (.fieldLink RX1 7 "LandDeeds$Outline" "xs" "[I") (by decide +kernel)) (fun _ h9 => h9) rfl dX1_isOn_39 ?_
      refine lv_iload_n hx hb dX1_isOn_42 rfl (lv_at hl 2 rfl) ?_
      refine u_iald hx hb hK hP 1 0 rfl rfl rfl ⟨by omega, by omega⟩ dX1_isOn_43 ?_
      refine lv_aload_n hx hb dX1_isOn_44 rfl (lv_at hl 1 rfl) ?_
      refine va_get (D := D) (ci := 3) (v := .ref ax) (C := RX1) (T := TX1) (N := 3) hx hb hts (by decide +kernel) hown hK hP 0 rfl rfl 0 (by decide) (hts (.fieldLink RX1 7 "LandDeeds$Outline" "xs" "[I") (by decide +kernel)) (fun _ h9 => h9) rfl dX1_isOn_45 ?_
      refine lv_iload hx hb dX1_isOn_48 (lv_at hl 0 rfl) ?_
      refine u_iald hx hb hK hP 1 0 rfl rfl rfl ⟨by omega, by omega⟩ dX1_isOn_50 ?_
      refine va_mmax hx hb (by rw [hml]; exact hl.1.symm) hown (hts (.methodLink RX1 57 Lib.Math.max.name) (by decide +kernel)) (hts (.static Lib.Math.max.name) (by decide +kernel)) (hts (.initialized "java/lang/Math") (by decide +kernel)) (hts (.code Lib.Math.max.name Lib.Math.max.code 2 (some .int)) (by decide +kernel)) (Nat.le_of_ble_eq_true rfl) (Nat.le_of_ble_eq_true rfl) (Nat.zero_le _) (Nat.zero_le _) dX1_isOn_51 ?_
      refine lv_icmp_gt (tgt := 101) hx hb dX1_isOn_54 (by decide) (fun c_3 => ?_) (fun c_3 => ?_)
      · skip
        refine lv_iconst (v := 0) hx hb dX1_isOn_101 (by decide) ?_
        rw [← hQ]
        exact W.zret (v := 0) hx hb hr (by decide) (fun t ht hW => ⟨_, rfl, (zb_f (by unfold sdO onS; rintro ⟨h1, h2, h3, h4, h5⟩; contradiction)), ht⟩) (fun q h => absurd h List.not_mem_nil) dX1_isOn_102
      · skip
        refine lv_iload_n hx hb dX1_isOn_57 rfl (lv_at hl 4 rfl) ?_
        refine lv_aload_n hx hb dX1_isOn_58 rfl (lv_at hl 1 rfl) ?_
        refine va_get (D := D) (ci := 3) (v := .ref ay) (C := RX1) (T := TX1) (N := 3) hx hb hts (by decide +kernel) hown hK hP 0 rfl rfl 1 (by decide) (hts (.fieldLink RX1 13 "LandDeeds$Outline" "ys" "[I") (by decide +kernel)) (fun _ h9 => h9) rfl dX1_isOn_59 ?_
        refine lv_iload_n hx hb dX1_isOn_62 rfl (lv_at hl 2 rfl) ?_
        refine u_iald hx hb hK hP 2 0 rfl rfl rfl ⟨by omega, by omega⟩ dX1_isOn_63 ?_
        refine lv_aload_n hx hb dX1_isOn_64 rfl (lv_at hl 1 rfl) ?_
        refine va_get (D := D) (ci := 3) (v := .ref ay) (C := RX1) (T := TX1) (N := 3) hx hb hts (by decide +kernel) hown hK hP 0 rfl rfl 1 (by decide) (hts (.fieldLink RX1 13 "LandDeeds$Outline" "ys" "[I") (by decide +kernel)) (fun _ h9 => h9) rfl dX1_isOn_65 ?_
        refine lv_iload hx hb dX1_isOn_68 (lv_at hl 0 rfl) ?_
        refine u_iald hx hb hK hP 2 0 rfl rfl rfl ⟨by omega, by omega⟩ dX1_isOn_70 ?_
        refine va_mmin hx hb (by rw [hml]; exact hl.1.symm) hown (hts (.methodLink RX1 16 Lib.Math.min.name) (by decide +kernel)) (hts (.static Lib.Math.min.name) (by decide +kernel)) (hts (.initialized "java/lang/Math") (by decide +kernel)) (hts (.code Lib.Math.min.name Lib.Math.min.code 2 (some .int)) (by decide +kernel)) (Nat.le_of_ble_eq_true rfl) (Nat.le_of_ble_eq_true rfl) (Nat.zero_le _) (Nat.zero_le _) dX1_isOn_71 ?_
        refine lv_icmp_lt (tgt := 101) hx hb dX1_isOn_74 (by decide) (fun c_4 => ?_) (fun c_4 => ?_)
        · skip
          refine lv_iconst (v := 0) hx hb dX1_isOn_101 (by decide) ?_
          rw [← hQ]
          exact W.zret (v := 0) hx hb hr (by decide) (fun t ht hW => ⟨_, rfl, (zb_f (by unfold sdO onS; rintro ⟨h1, h2, h3, h4, h5⟩; contradiction)), ht⟩) (fun q h => absurd h List.not_mem_nil) dX1_isOn_102
        · skip
          refine lv_iload_n hx hb dX1_isOn_77 rfl (lv_at hl 4 rfl) ?_
          refine lv_aload_n hx hb dX1_isOn_78 rfl (lv_at hl 1 rfl) ?_
          refine va_get (D := D) (ci := 3) (v := .ref ay) (C := RX1) (T := TX1) (N := 3) hx hb hts (by decide +kernel) hown hK hP 0 rfl rfl 1 (by decide) (hts (.fieldLink RX1 13 "LandDeeds$Outline" "ys" "[I") (by decide +kernel)) (fun _ h9 => h9) rfl dX1_isOn_79 ?_
          refine lv_iload_n hx hb dX1_isOn_82 rfl (lv_at hl 2 rfl) ?_
          refine u_iald hx hb hK hP 2 0 rfl rfl rfl ⟨by omega, by omega⟩ dX1_isOn_83 ?_
          refine lv_aload_n hx hb dX1_isOn_84 rfl (lv_at hl 1 rfl) ?_
          refine va_get (D := D) (ci := 3) (v := .ref ay) (C := RX1) (T := TX1) (N := 3) hx hb hts (by decide +kernel) hown hK hP 0 rfl rfl 1 (by decide) (hts (.fieldLink RX1 13 "LandDeeds$Outline" "ys" "[I") (by decide +kernel)) (fun _ h9 => h9) rfl dX1_isOn_85 ?_
          refine lv_iload hx hb dX1_isOn_88 (lv_at hl 0 rfl) ?_
          refine u_iald hx hb hK hP 2 0 rfl rfl rfl ⟨by omega, by omega⟩ dX1_isOn_90 ?_
          refine va_mmax hx hb (by rw [hml]; exact hl.1.symm) hown (hts (.methodLink RX1 57 Lib.Math.max.name) (by decide +kernel)) (hts (.static Lib.Math.max.name) (by decide +kernel)) (hts (.initialized "java/lang/Math") (by decide +kernel)) (hts (.code Lib.Math.max.name Lib.Math.max.code 2 (some .int)) (by decide +kernel)) (Nat.le_of_ble_eq_true rfl) (Nat.le_of_ble_eq_true rfl) (Nat.zero_le _) (Nat.zero_le _) dX1_isOn_91 ?_
          refine lv_icmp_gt (tgt := 101) hx hb dX1_isOn_94 (by decide) (fun c_5 => ?_) (fun c_5 => ?_)
          · skip
            refine lv_iconst (v := 0) hx hb dX1_isOn_101 (by decide) ?_
            rw [← hQ]
            exact W.zret (v := 0) hx hb hr (by decide) (fun t ht hW => ⟨_, rfl, (zb_f (by unfold sdO onS; rintro ⟨h1, h2, h3, h4, h5⟩; contradiction)), ht⟩) (fun q h => absurd h List.not_mem_nil) dX1_isOn_102
          · skip
            refine lv_iconst (v := 1) hx hb dX1_isOn_97 (by decide) ?_
            refine lv_goto (tgt := 102) hx hb dX1_isOn_98 (by decide) ?_
            rw [← hQ]
            exact W.zret (v := 1) hx hb hr (by decide) (fun t ht hW => ⟨_, rfl, (zb_t (by unfold sdO onS; exact ⟨by assumption, by assumption, by assumption, by assumption, by assumption⟩)), ht⟩) (fun q h => absurd h List.not_mem_nil) dX1_isOn_102

set_option maxHeartbeats 4000000 in
set_option maxRecDepth 100000 in
theorem c_X1_foldsBack (l : Launch) (D : va_G) (cI cB cZ cP : ClassId) (h0 ax ay nn : Nat) (X Y : Nat → Int32) (k j : Nat) (hn8 : nn ≤ 8) (hk : k < nn) (hj : j < nn) : Met l yX1_foldsBack wsX1_foldsBack ({ frames := 1, cells := 0, slots := 0, locals := 21 } : Room) (va_Pc [.ref h0, .int (nI k), .int (nI j)] (fun U => va_P D vwCl [(h0, .inr (3, [.ref ax, .ref ay, .int (nI nn)])), (ax, .inl (cI, nn, .inl X)), (ay, .inl (cI, nn, .inl Y))] U.heap ∧ KW D cI cB cZ cP U ∧ E0 U.heap)) (vp_Si (fun r => r = zb (fld nn X Y k j))) 0 0 (fun _ => False) := by
  refine Met.ofW (cc := cX1_foldsBack) (maxL := 8) (ret := (some .boolean)) (by decide) rfl ?_
  intro p e s m args below meth c s₁ B hml hv
  obtain ⟨rfl, hP, hW0, hE⟩ := hv
  have hx := B.exec
  have hb := B.bytes
  have hr := B.returns
  have hts := atoms_spec (ws := wsX1_foldsBack) B.pre
  have hown : s.vm.findClass RX1 = some m.cls := findClass_of_methodNamed B.named
  have hlocks := B.notSynchronized
  have hK := hW0.1
  have hl := lv_entry ([.ref h0, .int (nI k), .int (nI j)]) (n := 8) (Nat.le_of_ble_eq_true rfl)
  rw [lg_entry_eq]
  generalize (lg_sl ([.ref h0, .int (nI k), .int (nI j)]) ++ List.replicate (8 - (lg_sl ([.ref h0, .int (nI k), .int (nI j)])).length) Slot.unset).toArray = ls at hl ⊢
  have hl : lv_has ls 8 [(0, .ref h0), (1, .int (nI k)), (2, .int (nI j))] := hl
  show W p l e ({ frames := 1, cells := 0, slots := 0, locals := 21 } : Room) s m ([.ref h0, .int (nI k), .int (nI j)] : List Value).toArray below meth c s.heap [] 0 0 _ (F0 m 0 ls [])
  refine u_genQ (fun Q hQ => ?_)
  have hnx := nxt_lt hk
  have hnj := nxt_lt hj
  refine lv_aload_n hx hb dX1_foldsBack_0 rfl (lv_at hl 0 rfl) ?_
  refine lv_iload_n hx hb dX1_foldsBack_1 rfl (lv_at hl 2 rfl) ?_
  have hPc := hP.sub (ws' := [(h0, .inr (3, [.ref ax, .ref ay, .int (nI nn)]))]) [0] rfl
  refine u_callSi (W.runV (As := [.int (nI j)]) (rest := []) ⟨hx, hb, hml, hown, hts⟩ (c_X1_next l D cI cB cZ cP h0 ax ay nn j (by first | assumption | omega) (by first | assumption | omega)) (cwV 1 hts gX1_foldsBack_X1_next rfl rfl rfl (by decide +kernel) ⟨Nat.le_of_ble_eq_true rfl, Nat.le_of_ble_eq_true rfl⟩) (pV (q0 := 0) hPc hW0 trivial rfl rfl) rfl rfl hl.1 rfl (lv_room (Nat.le_of_ble_eq_true rfl)) dX1_foldsBack_2 ⟨Nat.le_of_ble_eq_true rfl, Nat.le_of_ble_eq_true rfl⟩) ?_
  refine lv_istore_n (lv' := [(3, .int (nI (nxt nn j))), (0, .ref h0), (1, .int (nI k)), (2, .int (nI j))]) hx hb dX1_foldsBack_5 rfl hl (by decide) rfl (fun ls hl => ?_)
  refine lv_aload_n hx hb dX1_foldsBack_6 rfl (lv_at hl 1 rfl) ?_
  refine va_get (D := D) (ci := 3) (v := .ref ax) (C := RX1) (T := TX1) (N := 3) hx hb hts (by decide +kernel) hown hK hP 0 rfl rfl 0 (by decide) (hts (.fieldLink RX1 7 "LandDeeds$Outline" "xs" "[I") (by decide +kernel)) (fun _ h9 => h9) rfl dX1_foldsBack_7 ?_
  refine lv_iload_n hx hb dX1_foldsBack_10 rfl (lv_at hl 2 rfl) ?_
  refine u_iald hx hb hK hP 1 0 rfl rfl rfl ⟨by omega, by omega⟩ dX1_foldsBack_11 ?_
  refine lv_aload_n hx hb dX1_foldsBack_12 rfl (lv_at hl 1 rfl) ?_
  refine va_get (D := D) (ci := 3) (v := .ref ax) (C := RX1) (T := TX1) (N := 3) hx hb hts (by decide +kernel) hown hK hP 0 rfl rfl 0 (by decide) (hts (.fieldLink RX1 7 "LandDeeds$Outline" "xs" "[I") (by decide +kernel)) (fun _ h9 => h9) rfl dX1_foldsBack_13 ?_
  refine lv_iload_n hx hb dX1_foldsBack_16 rfl (lv_at hl 3 rfl) ?_
  refine u_iald hx hb hK hP 1 0 rfl rfl rfl ⟨by omega, by omega⟩ dX1_foldsBack_17 ?_
  refine lv_isub hx hb dX1_foldsBack_18 ?_
  refine lv_istore (lv' := [(4, .int ((X k) - (X j))), (3, .int (nI (nxt nn j))), (0, .ref h0), (1, .int (nI k)), (2, .int (nI j))]) hx hb dX1_foldsBack_19 hl (by decide) rfl (fun ls hl => ?_)
  refine lv_aload_n hx hb dX1_foldsBack_21 rfl (lv_at hl 2 rfl) ?_
  refine va_get (D := D) (ci := 3) (v := .ref ay) (C := RX1) (T := TX1) (N := 3) hx hb hts (by decide +kernel) hown hK hP 0 rfl rfl 1 (by decide) (hts (.fieldLink RX1 13 "LandDeeds$Outline" "ys" "[I") (by decide +kernel)) (fun _ h9 => h9) rfl dX1_foldsBack_22 ?_
  refine lv_iload_n hx hb dX1_foldsBack_25 rfl (lv_at hl 3 rfl) ?_
  refine u_iald hx hb hK hP 2 0 rfl rfl rfl ⟨by omega, by omega⟩ dX1_foldsBack_26 ?_
  refine lv_aload_n hx hb dX1_foldsBack_27 rfl (lv_at hl 2 rfl) ?_
  refine va_get (D := D) (ci := 3) (v := .ref ay) (C := RX1) (T := TX1) (N := 3) hx hb hts (by decide +kernel) hown hK hP 0 rfl rfl 1 (by decide) (hts (.fieldLink RX1 13 "LandDeeds$Outline" "ys" "[I") (by decide +kernel)) (fun _ h9 => h9) rfl dX1_foldsBack_28 ?_
  refine lv_iload_n hx hb dX1_foldsBack_31 rfl (lv_at hl 4 rfl) ?_
  refine u_iald hx hb hK hP 2 0 rfl rfl rfl ⟨by omega, by omega⟩ dX1_foldsBack_32 ?_
  refine lv_isub hx hb dX1_foldsBack_33 ?_
  refine lv_istore (lv' := [(5, .int ((Y k) - (Y j))), (4, .int ((X k) - (X j))), (3, .int (nI (nxt nn j))), (0, .ref h0), (1, .int (nI k)), (2, .int (nI j))]) hx hb dX1_foldsBack_34 hl (by decide) rfl (fun ls hl => ?_)
  refine lv_aload_n hx hb dX1_foldsBack_36 rfl (lv_at hl 3 rfl) ?_
  refine va_get (D := D) (ci := 3) (v := .ref ax) (C := RX1) (T := TX1) (N := 3) hx hb hts (by decide +kernel) hown hK hP 0 rfl rfl 0 (by decide) (hts (.fieldLink RX1 7 "LandDeeds$Outline" "xs" "[I") (by decide +kernel)) (fun _ h9 => h9) rfl dX1_foldsBack_37 ?_
  refine lv_iload_n hx hb dX1_foldsBack_40 rfl (lv_at hl 2 rfl) ?_
  refine u_iald hx hb hK hP 1 0 rfl rfl rfl ⟨by omega, by omega⟩ dX1_foldsBack_41 ?_
  refine lv_aload_n hx hb dX1_foldsBack_42 rfl (lv_at hl 3 rfl) ?_
  refine va_get (D := D) (ci := 3) (v := .ref ax) (C := RX1) (T := TX1) (N := 3) hx hb hts (by decide +kernel) hown hK hP 0 rfl rfl 0 (by decide) (hts (.fieldLink RX1 7 "LandDeeds$Outline" "xs" "[I") (by decide +kernel)) (fun _ h9 => h9) rfl dX1_foldsBack_43 ?_
  refine lv_iload_n hx hb dX1_foldsBack_46 rfl (lv_at hl 5 rfl) ?_
  refine u_iald hx hb hK hP 1 0 rfl rfl rfl ⟨by omega, by omega⟩ dX1_foldsBack_47 ?_
  refine lv_isub hx hb dX1_foldsBack_48 ?_
  refine lv_istore (lv' := [(6, .int ((X (nxt nn j)) - (X j))), (5, .int ((Y k) - (Y j))), (4, .int ((X k) - (X j))), (3, .int (nI (nxt nn j))), (0, .ref h0), (1, .int (nI k)), (2, .int (nI j))]) hx hb dX1_foldsBack_49 hl (by decide) rfl (fun ls hl => ?_)
  refine lv_aload_n hx hb dX1_foldsBack_51 rfl (lv_at hl 4 rfl) ?_
  refine va_get (D := D) (ci := 3) (v := .ref ay) (C := RX1) (T := TX1) (N := 3) hx hb hts (by decide +kernel) hown hK hP 0 rfl rfl 1 (by decide) (hts (.fieldLink RX1 13 "LandDeeds$Outline" "ys" "[I") (by decide +kernel)) (fun _ h9 => h9) rfl dX1_foldsBack_52 ?_
  refine lv_iload_n hx hb dX1_foldsBack_55 rfl (lv_at hl 3 rfl) ?_
  refine u_iald hx hb hK hP 2 0 rfl rfl rfl ⟨by omega, by omega⟩ dX1_foldsBack_56 ?_
  refine lv_aload_n hx hb dX1_foldsBack_57 rfl (lv_at hl 4 rfl) ?_
  refine va_get (D := D) (ci := 3) (v := .ref ay) (C := RX1) (T := TX1) (N := 3) hx hb hts (by decide +kernel) hown hK hP 0 rfl rfl 1 (by decide) (hts (.fieldLink RX1 13 "LandDeeds$Outline" "ys" "[I") (by decide +kernel)) (fun _ h9 => h9) rfl dX1_foldsBack_58 ?_
  refine lv_iload_n hx hb dX1_foldsBack_61 rfl (lv_at hl 6 rfl) ?_
  refine u_iald hx hb hK hP 2 0 rfl rfl rfl ⟨by omega, by omega⟩ dX1_foldsBack_62 ?_
  refine lv_isub hx hb dX1_foldsBack_63 ?_
  refine lv_istore (lv' := [(7, .int ((Y (nxt nn j)) - (Y j))), (6, .int ((X (nxt nn j)) - (X j))), (5, .int ((Y k) - (Y j))), (4, .int ((X k) - (X j))), (3, .int (nI (nxt nn j))), (0, .ref h0), (1, .int (nI k)), (2, .int (nI j))]) hx hb dX1_foldsBack_64 hl (by decide) rfl (fun ls hl => ?_)
  refine lv_iload hx hb dX1_foldsBack_66 (lv_at hl 3 rfl) ?_
  refine lv_iload hx hb dX1_foldsBack_68 (lv_at hl 0 rfl) ?_
  refine lv_imul hx hb dX1_foldsBack_70 ?_
  refine lv_iload hx hb dX1_foldsBack_71 (lv_at hl 2 rfl) ?_
  refine lv_iload hx hb dX1_foldsBack_73 (lv_at hl 1 rfl) ?_
  refine lv_imul hx hb dX1_foldsBack_75 ?_
  refine lv_icmp_ne (tgt := 97) hx hb dX1_foldsBack_76 (by decide) (fun c_1 => ?_) (fun c_1 => ?_)
  · skip
    refine lv_iconst (v := 0) hx hb dX1_foldsBack_97 (by decide) ?_
    rw [← hQ]
    exact W.zret (v := 0) hx hb hr (by decide) (fun t ht hW => ⟨_, rfl, (zb_f (by unfold fld; rintro ⟨h1, h2⟩; contradiction)), ht⟩) (fun q h => absurd h List.not_mem_nil) dX1_foldsBack_98
  · skip
    refine lv_iload hx hb dX1_foldsBack_79 (lv_at hl 3 rfl) ?_
    refine lv_iload hx hb dX1_foldsBack_81 (lv_at hl 1 rfl) ?_
    refine lv_imul hx hb dX1_foldsBack_83 ?_
    refine lv_iload hx hb dX1_foldsBack_84 (lv_at hl 2 rfl) ?_
    refine lv_iload hx hb dX1_foldsBack_86 (lv_at hl 0 rfl) ?_
    refine lv_imul hx hb dX1_foldsBack_88 ?_
    refine lv_iadd hx hb dX1_foldsBack_89 ?_
    refine lv_if_le (tgt := 97) hx hb dX1_foldsBack_90 (by decide) (fun c_2 => ?_) (fun c_2 => ?_)
    · skip
      refine lv_iconst (v := 0) hx hb dX1_foldsBack_97 (by decide) ?_
      rw [← hQ]
      exact W.zret (v := 0) hx hb hr (by decide) (fun t ht hW => ⟨_, rfl, (zb_f (by unfold fld; rintro ⟨h1, h2⟩; contradiction)), ht⟩) (fun q h => absurd h List.not_mem_nil) dX1_foldsBack_98
    · skip
      refine lv_iconst (v := 1) hx hb dX1_foldsBack_93 (by decide) ?_
      refine lv_goto (tgt := 98) hx hb dX1_foldsBack_94 (by decide) ?_
      rw [← hQ]
      exact W.zret (v := 1) hx hb hr (by decide) (fun t ht hW => ⟨_, rfl, (zb_t (by unfold fld; exact ⟨by assumption, by assumption⟩)), ht⟩) (fun q h => absurd h List.not_mem_nil) dX1_foldsBack_98

set_option maxHeartbeats 4000000 in
set_option maxRecDepth 100000 in
theorem c_X1_touch (l : Launch) (D : va_G) (cI cB cZ cP : ClassId) (h0 ax ay nn : Nat) (X Y : Nat → Int32) (k j : Nat) (hn8 : nn ≤ 8) (hk : k < nn) (hj : j < nn) : Met l yX1_touch wsX1_touch ({ frames := 3, cells := 0, slots := 0, locals := 69 } : Room) (va_Pc [.ref h0, .int (nI k), .int (nI j)] (fun U => va_P D vwCl [(h0, .inr (3, [.ref ax, .ref ay, .int (nI nn)])), (ax, .inl (cI, nn, .inl X)), (ay, .inl (cI, nn, .inl Y))] U.heap ∧ KW D cI cB cZ cP U ∧ E0 U.heap)) (vp_Si (fun r => r = zb (tch nn X Y k j))) 0 0 (fun _ => False) := by
  refine Met.ofW (cc := cX1_touch) (maxL := 9) (ret := (some .boolean)) (by decide) rfl ?_
  intro p e s m args below meth c s₁ B hml hv
  obtain ⟨rfl, hP, hW0, hE⟩ := hv
  have hx := B.exec
  have hb := B.bytes
  have hr := B.returns
  have hts := atoms_spec (ws := wsX1_touch) B.pre
  have hown : s.vm.findClass RX1 = some m.cls := findClass_of_methodNamed B.named
  have hlocks := B.notSynchronized
  have hK := hW0.1
  have hl := lv_entry ([.ref h0, .int (nI k), .int (nI j)]) (n := 9) (Nat.le_of_ble_eq_true rfl)
  rw [lg_entry_eq]
  generalize (lg_sl ([.ref h0, .int (nI k), .int (nI j)]) ++ List.replicate (9 - (lg_sl ([.ref h0, .int (nI k), .int (nI j)])).length) Slot.unset).toArray = ls at hl ⊢
  have hl : lv_has ls 9 [(0, .ref h0), (1, .int (nI k)), (2, .int (nI j))] := hl
  show W p l e ({ frames := 3, cells := 0, slots := 0, locals := 69 } : Room) s m ([.ref h0, .int (nI k), .int (nI j)] : List Value).toArray below meth c s.heap [] 0 0 _ (F0 m 0 ls [])
  refine u_genQ (fun Q hQ => ?_)
  have hnx := nxt_lt hk
  have hnj := nxt_lt hj
  refine lv_aload_n hx hb dX1_touch_0 rfl (lv_at hl 0 rfl) ?_
  refine lv_iload_n hx hb dX1_touch_1 rfl (lv_at hl 1 rfl) ?_
  have hPc := hP.sub (ws' := [(h0, .inr (3, [.ref ax, .ref ay, .int (nI nn)]))]) [0] rfl
  refine u_callSi (W.runV (As := [.int (nI k)]) (rest := []) ⟨hx, hb, hml, hown, hts⟩ (c_X1_next l D cI cB cZ cP h0 ax ay nn k (by first | assumption | omega) (by first | assumption | omega)) (cwV 1 hts gX1_touch_X1_next rfl rfl rfl (by decide +kernel) ⟨Nat.le_of_ble_eq_true rfl, Nat.le_of_ble_eq_true rfl⟩) (pV (q0 := 0) hPc hW0 trivial rfl rfl) rfl rfl hl.1 rfl (lv_room (Nat.le_of_ble_eq_true rfl)) dX1_touch_2 ⟨Nat.le_of_ble_eq_true rfl, Nat.le_of_ble_eq_true rfl⟩) ?_
  refine lv_istore_n (lv' := [(3, .int (nI (nxt nn k))), (0, .ref h0), (1, .int (nI k)), (2, .int (nI j))]) hx hb dX1_touch_5 rfl hl (by decide) rfl (fun ls hl => ?_)
  refine lv_aload_n hx hb dX1_touch_6 rfl (lv_at hl 1 rfl) ?_
  refine lv_iload_n hx hb dX1_touch_7 rfl (lv_at hl 3 rfl) ?_
  have hPc := hP.sub (ws' := [(h0, .inr (3, [.ref ax, .ref ay, .int (nI nn)]))]) [0] rfl
  refine u_callSi (W.runV (As := [.int (nI j)]) (rest := []) ⟨hx, hb, hml, hown, hts⟩ (c_X1_next l D cI cB cZ cP h0 ax ay nn j (by first | assumption | omega) (by first | assumption | omega)) (cwV 1 hts gX1_touch_X1_next rfl rfl rfl (by decide +kernel) ⟨Nat.le_of_ble_eq_true rfl, Nat.le_of_ble_eq_true rfl⟩) (pV (q0 := 0) hPc hW0 trivial rfl rfl) rfl rfl hl.1 rfl (lv_room (Nat.le_of_ble_eq_true rfl)) dX1_touch_8 ⟨Nat.le_of_ble_eq_true rfl, Nat.le_of_ble_eq_true rfl⟩) ?_
  refine lv_istore (lv' := [(4, .int (nI (nxt nn j))), (3, .int (nI (nxt nn k))), (0, .ref h0), (1, .int (nI k)), (2, .int (nI j))]) hx hb dX1_touch_11 hl (by decide) rfl (fun ls hl => ?_)
  refine lv_aload_n hx hb dX1_touch_13 rfl (lv_at hl 2 rfl) ?_
  refine lv_iload_n hx hb dX1_touch_14 rfl (lv_at hl 3 rfl) ?_
  refine lv_aload_n hx hb dX1_touch_15 rfl (lv_at hl 2 rfl) ?_
  refine va_get (D := D) (ci := 3) (v := .ref ax) (C := RX1) (T := TX1) (N := 3) hx hb hts (by decide +kernel) hown hK hP 0 rfl rfl 0 (by decide) (hts (.fieldLink RX1 7 "LandDeeds$Outline" "xs" "[I") (by decide +kernel)) (fun _ h9 => h9) rfl dX1_touch_16 ?_
  refine lv_iload_n hx hb dX1_touch_19 rfl (lv_at hl 4 rfl) ?_
  refine u_iald hx hb hK hP 1 0 rfl rfl rfl ⟨by omega, by omega⟩ dX1_touch_20 ?_
  refine lv_aload_n hx hb dX1_touch_21 rfl (lv_at hl 2 rfl) ?_
  refine va_get (D := D) (ci := 3) (v := .ref ay) (C := RX1) (T := TX1) (N := 3) hx hb hts (by decide +kernel) hown hK hP 0 rfl rfl 1 (by decide) (hts (.fieldLink RX1 13 "LandDeeds$Outline" "ys" "[I") (by decide +kernel)) (fun _ h9 => h9) rfl dX1_touch_22 ?_
  refine lv_iload_n hx hb dX1_touch_25 rfl (lv_at hl 4 rfl) ?_
  refine u_iald hx hb hK hP 2 0 rfl rfl rfl ⟨by omega, by omega⟩ dX1_touch_26 ?_
  have hPc := hP.sub (ws' := [(h0, .inr (3, [.ref ax, .ref ay, .int (nI nn)])), (ax, .inl (cI, nn, .inl X)), (ay, .inl (cI, nn, .inl Y))]) [0, 1, 2] rfl
  refine u_callSi (W.runV (As := [.int (nI k), .int (X j), .int (Y j)]) (rest := []) ⟨hx, hb, hml, hown, hts⟩ (c_X1_isOn l D cI cB cZ cP h0 ax ay nn X Y k (X j) (Y j) (by first | assumption | omega) (by first | assumption | omega)) (cwV 3 hts gX1_touch_X1_isOn rfl rfl rfl (by decide +kernel) ⟨Nat.le_of_ble_eq_true rfl, Nat.le_of_ble_eq_true rfl⟩) (pV (q0 := 0) hPc hW0 trivial rfl rfl) rfl rfl hl.1 rfl (lv_room (Nat.le_of_ble_eq_true rfl)) dX1_touch_27 ⟨Nat.le_of_ble_eq_true rfl, Nat.le_of_ble_eq_true rfl⟩) ?_
  refine lv_if_ne (tgt := 95) hx hb dX1_touch_30 (by decide) (fun c_1 => ?_) (fun c_1 => ?_)
  · skip
    have nc_1 := zb_ne0.mp c_1
    refine lv_iconst (v := 1) hx hb dX1_touch_95 (by decide) ?_
    rw [← hQ]
    exact W.zret (v := 1) hx hb hr (by decide) (fun t ht hW => ⟨_, rfl, (zb_t (by unfold tch; simp only [*, true_or, or_true, not_false_eq_true, and_self])), ht⟩) (fun q h => absurd h List.not_mem_nil) dX1_touch_96
  · skip
    have nc_1 := zb_eq0.mp c_1
    refine lv_aload_n hx hb dX1_touch_33 rfl (lv_at hl 2 rfl) ?_
    refine lv_iload_n hx hb dX1_touch_34 rfl (lv_at hl 3 rfl) ?_
    refine lv_aload_n hx hb dX1_touch_35 rfl (lv_at hl 2 rfl) ?_
    refine va_get (D := D) (ci := 3) (v := .ref ax) (C := RX1) (T := TX1) (N := 3) hx hb hts (by decide +kernel) hown hK hP 0 rfl rfl 0 (by decide) (hts (.fieldLink RX1 7 "LandDeeds$Outline" "xs" "[I") (by decide +kernel)) (fun _ h9 => h9) rfl dX1_touch_36 ?_
    refine lv_iload hx hb dX1_touch_39 (lv_at hl 0 rfl) ?_
    refine u_iald hx hb hK hP 1 0 rfl rfl rfl ⟨by omega, by omega⟩ dX1_touch_41 ?_
    refine lv_aload_n hx hb dX1_touch_42 rfl (lv_at hl 2 rfl) ?_
    refine va_get (D := D) (ci := 3) (v := .ref ay) (C := RX1) (T := TX1) (N := 3) hx hb hts (by decide +kernel) hown hK hP 0 rfl rfl 1 (by decide) (hts (.fieldLink RX1 13 "LandDeeds$Outline" "ys" "[I") (by decide +kernel)) (fun _ h9 => h9) rfl dX1_touch_43 ?_
    refine lv_iload hx hb dX1_touch_46 (lv_at hl 0 rfl) ?_
    refine u_iald hx hb hK hP 2 0 rfl rfl rfl ⟨by omega, by omega⟩ dX1_touch_48 ?_
    have hPc := hP.sub (ws' := [(h0, .inr (3, [.ref ax, .ref ay, .int (nI nn)])), (ax, .inl (cI, nn, .inl X)), (ay, .inl (cI, nn, .inl Y))]) [0, 1, 2] rfl
    refine u_callSi (W.runV (As := [.int (nI k), .int (X (nxt nn j)), .int (Y (nxt nn j))]) (rest := []) ⟨hx, hb, hml, hown, hts⟩ (c_X1_isOn l D cI cB cZ cP h0 ax ay nn X Y k (X (nxt nn j)) (Y (nxt nn j)) (by first | assumption | omega) (by first | assumption | omega)) (cwV 3 hts gX1_touch_X1_isOn rfl rfl rfl (by decide +kernel) ⟨Nat.le_of_ble_eq_true rfl, Nat.le_of_ble_eq_true rfl⟩) (pV (q0 := 0) hPc hW0 trivial rfl rfl) rfl rfl hl.1 rfl (lv_room (Nat.le_of_ble_eq_true rfl)) dX1_touch_49 ⟨Nat.le_of_ble_eq_true rfl, Nat.le_of_ble_eq_true rfl⟩) ?_
    refine lv_if_ne (tgt := 95) hx hb dX1_touch_52 (by decide) (fun c_2 => ?_) (fun c_2 => ?_)
    · skip
      have nc_2 := zb_ne0.mp c_2
      refine lv_iconst (v := 1) hx hb dX1_touch_95 (by decide) ?_
      rw [← hQ]
      exact W.zret (v := 1) hx hb hr (by decide) (fun t ht hW => ⟨_, rfl, (zb_t (by unfold tch; simp only [*, true_or, or_true, not_false_eq_true, and_self])), ht⟩) (fun q h => absurd h List.not_mem_nil) dX1_touch_96
    · skip
      have nc_2 := zb_eq0.mp c_2
      refine lv_aload_n hx hb dX1_touch_55 rfl (lv_at hl 2 rfl) ?_
      refine lv_iload_n hx hb dX1_touch_56 rfl (lv_at hl 4 rfl) ?_
      refine lv_aload_n hx hb dX1_touch_57 rfl (lv_at hl 2 rfl) ?_
      refine va_get (D := D) (ci := 3) (v := .ref ax) (C := RX1) (T := TX1) (N := 3) hx hb hts (by decide +kernel) hown hK hP 0 rfl rfl 0 (by decide) (hts (.fieldLink RX1 7 "LandDeeds$Outline" "xs" "[I") (by decide +kernel)) (fun _ h9 => h9) rfl dX1_touch_58 ?_
      refine lv_iload_n hx hb dX1_touch_61 rfl (lv_at hl 3 rfl) ?_
      refine u_iald hx hb hK hP 1 0 rfl rfl rfl ⟨by omega, by omega⟩ dX1_touch_62 ?_
      refine lv_aload_n hx hb dX1_touch_63 rfl (lv_at hl 2 rfl) ?_
      refine va_get (D := D) (ci := 3) (v := .ref ay) (C := RX1) (T := TX1) (N := 3) hx hb hts (by decide +kernel) hown hK hP 0 rfl rfl 1 (by decide) (hts (.fieldLink RX1 13 "LandDeeds$Outline" "ys" "[I") (by decide +kernel)) (fun _ h9 => h9) rfl dX1_touch_64 ?_
      refine lv_iload_n hx hb dX1_touch_67 rfl (lv_at hl 3 rfl) ?_
      refine u_iald hx hb hK hP 2 0 rfl rfl rfl ⟨by omega, by omega⟩ dX1_touch_68 ?_
      have hPc := hP.sub (ws' := [(h0, .inr (3, [.ref ax, .ref ay, .int (nI nn)])), (ax, .inl (cI, nn, .inl X)), (ay, .inl (cI, nn, .inl Y))]) [0, 1, 2] rfl
      refine u_callSi (W.runV (As := [.int (nI j), .int (X k), .int (Y k)]) (rest := []) ⟨hx, hb, hml, hown, hts⟩ (c_X1_isOn l D cI cB cZ cP h0 ax ay nn X Y j (X k) (Y k) (by first | assumption | omega) (by first | assumption | omega)) (cwV 3 hts gX1_touch_X1_isOn rfl rfl rfl (by decide +kernel) ⟨Nat.le_of_ble_eq_true rfl, Nat.le_of_ble_eq_true rfl⟩) (pV (q0 := 0) hPc hW0 trivial rfl rfl) rfl rfl hl.1 rfl (lv_room (Nat.le_of_ble_eq_true rfl)) dX1_touch_69 ⟨Nat.le_of_ble_eq_true rfl, Nat.le_of_ble_eq_true rfl⟩) ?_
      refine lv_if_ne (tgt := 95) hx hb dX1_touch_72 (by decide) (fun c_3 => ?_) (fun c_3 => ?_)
      · skip
        have nc_3 := zb_ne0.mp c_3
        refine lv_iconst (v := 1) hx hb dX1_touch_95 (by decide) ?_
        rw [← hQ]
        exact W.zret (v := 1) hx hb hr (by decide) (fun t ht hW => ⟨_, rfl, (zb_t (by unfold tch; simp only [*, true_or, or_true, not_false_eq_true, and_self])), ht⟩) (fun q h => absurd h List.not_mem_nil) dX1_touch_96
      · skip
        have nc_3 := zb_eq0.mp c_3
        refine lv_aload_n hx hb dX1_touch_75 rfl (lv_at hl 2 rfl) ?_
        refine lv_iload_n hx hb dX1_touch_76 rfl (lv_at hl 4 rfl) ?_
        refine lv_aload_n hx hb dX1_touch_77 rfl (lv_at hl 2 rfl) ?_
        refine va_get (D := D) (ci := 3) (v := .ref ax) (C := RX1) (T := TX1) (N := 3) hx hb hts (by decide +kernel) hown hK hP 0 rfl rfl 0 (by decide) (hts (.fieldLink RX1 7 "LandDeeds$Outline" "xs" "[I") (by decide +kernel)) (fun _ h9 => h9) rfl dX1_touch_78 ?_
        refine lv_iload_n hx hb dX1_touch_81 rfl (lv_at hl 1 rfl) ?_
        refine u_iald hx hb hK hP 1 0 rfl rfl rfl ⟨by omega, by omega⟩ dX1_touch_82 ?_
        refine lv_aload_n hx hb dX1_touch_83 rfl (lv_at hl 2 rfl) ?_
        refine va_get (D := D) (ci := 3) (v := .ref ay) (C := RX1) (T := TX1) (N := 3) hx hb hts (by decide +kernel) hown hK hP 0 rfl rfl 1 (by decide) (hts (.fieldLink RX1 13 "LandDeeds$Outline" "ys" "[I") (by decide +kernel)) (fun _ h9 => h9) rfl dX1_touch_84 ?_
        refine lv_iload_n hx hb dX1_touch_87 rfl (lv_at hl 1 rfl) ?_
        refine u_iald hx hb hK hP 2 0 rfl rfl rfl ⟨by omega, by omega⟩ dX1_touch_88 ?_
        have hPc := hP.sub (ws' := [(h0, .inr (3, [.ref ax, .ref ay, .int (nI nn)])), (ax, .inl (cI, nn, .inl X)), (ay, .inl (cI, nn, .inl Y))]) [0, 1, 2] rfl
        refine u_callSi (W.runV (As := [.int (nI j), .int (X (nxt nn k)), .int (Y (nxt nn k))]) (rest := []) ⟨hx, hb, hml, hown, hts⟩ (c_X1_isOn l D cI cB cZ cP h0 ax ay nn X Y j (X (nxt nn k)) (Y (nxt nn k)) (by first | assumption | omega) (by first | assumption | omega)) (cwV 3 hts gX1_touch_X1_isOn rfl rfl rfl (by decide +kernel) ⟨Nat.le_of_ble_eq_true rfl, Nat.le_of_ble_eq_true rfl⟩) (pV (q0 := 0) hPc hW0 trivial rfl rfl) rfl rfl hl.1 rfl (lv_room (Nat.le_of_ble_eq_true rfl)) dX1_touch_89 ⟨Nat.le_of_ble_eq_true rfl, Nat.le_of_ble_eq_true rfl⟩) ?_
        refine lv_if_eq (tgt := 97) hx hb dX1_touch_92 (by decide) (fun c_4 => ?_) (fun c_4 => ?_)
        · skip
          have nc_4 := zb_eq0.mp c_4
          refine lv_aload_n hx hb dX1_touch_97 rfl (lv_at hl 2 rfl) ?_
          refine lv_iload_n hx hb dX1_touch_98 rfl (lv_at hl 3 rfl) ?_
          refine lv_aload_n hx hb dX1_touch_99 rfl (lv_at hl 2 rfl) ?_
          refine va_get (D := D) (ci := 3) (v := .ref ax) (C := RX1) (T := TX1) (N := 3) hx hb hts (by decide +kernel) hown hK hP 0 rfl rfl 0 (by decide) (hts (.fieldLink RX1 7 "LandDeeds$Outline" "xs" "[I") (by decide +kernel)) (fun _ h9 => h9) rfl dX1_touch_100 ?_
          refine lv_iload_n hx hb dX1_touch_103 rfl (lv_at hl 4 rfl) ?_
          refine u_iald hx hb hK hP 1 0 rfl rfl rfl ⟨by omega, by omega⟩ dX1_touch_104 ?_
          refine lv_aload_n hx hb dX1_touch_105 rfl (lv_at hl 2 rfl) ?_
          refine va_get (D := D) (ci := 3) (v := .ref ay) (C := RX1) (T := TX1) (N := 3) hx hb hts (by decide +kernel) hown hK hP 0 rfl rfl 1 (by decide) (hts (.fieldLink RX1 13 "LandDeeds$Outline" "ys" "[I") (by decide +kernel)) (fun _ h9 => h9) rfl dX1_touch_106 ?_
          refine lv_iload_n hx hb dX1_touch_109 rfl (lv_at hl 4 rfl) ?_
          refine u_iald hx hb hK hP 2 0 rfl rfl rfl ⟨by omega, by omega⟩ dX1_touch_110 ?_
          have hPc := hP.sub (ws' := [(h0, .inr (3, [.ref ax, .ref ay, .int (nI nn)])), (ax, .inl (cI, nn, .inl X)), (ay, .inl (cI, nn, .inl Y))]) [0, 1, 2] rfl
          refine u_callSi (W.runV (As := [.int (nI k), .int (X j), .int (Y j)]) (rest := []) ⟨hx, hb, hml, hown, hts⟩ (c_X1_turnAt l D cI cB cZ cP h0 ax ay nn X Y k (X j) (Y j) (by first | assumption | omega) (by first | assumption | omega)) (cwV 3 hts gX1_touch_X1_turnAt rfl rfl rfl (by decide +kernel) ⟨Nat.le_of_ble_eq_true rfl, Nat.le_of_ble_eq_true rfl⟩) (pV (q0 := 0) hPc hW0 trivial rfl rfl) rfl rfl hl.1 rfl (lv_room (Nat.le_of_ble_eq_true rfl)) dX1_touch_111 ⟨Nat.le_of_ble_eq_true rfl, Nat.le_of_ble_eq_true rfl⟩) ?_
          refine lv_istore (lv' := [(5, .int (sdT nn X Y k (X j) (Y j))), (4, .int (nI (nxt nn j))), (3, .int (nI (nxt nn k))), (0, .ref h0), (1, .int (nI k)), (2, .int (nI j))]) hx hb dX1_touch_114 hl (by decide) rfl (fun ls hl => ?_)
          refine lv_aload_n hx hb dX1_touch_116 rfl (lv_at hl 3 rfl) ?_
          refine lv_iload_n hx hb dX1_touch_117 rfl (lv_at hl 4 rfl) ?_
          refine lv_aload_n hx hb dX1_touch_118 rfl (lv_at hl 3 rfl) ?_
          refine va_get (D := D) (ci := 3) (v := .ref ax) (C := RX1) (T := TX1) (N := 3) hx hb hts (by decide +kernel) hown hK hP 0 rfl rfl 0 (by decide) (hts (.fieldLink RX1 7 "LandDeeds$Outline" "xs" "[I") (by decide +kernel)) (fun _ h9 => h9) rfl dX1_touch_119 ?_
          refine lv_iload hx hb dX1_touch_122 (lv_at hl 1 rfl) ?_
          refine u_iald hx hb hK hP 1 0 rfl rfl rfl ⟨by omega, by omega⟩ dX1_touch_124 ?_
          refine lv_aload_n hx hb dX1_touch_125 rfl (lv_at hl 3 rfl) ?_
          refine va_get (D := D) (ci := 3) (v := .ref ay) (C := RX1) (T := TX1) (N := 3) hx hb hts (by decide +kernel) hown hK hP 0 rfl rfl 1 (by decide) (hts (.fieldLink RX1 13 "LandDeeds$Outline" "ys" "[I") (by decide +kernel)) (fun _ h9 => h9) rfl dX1_touch_126 ?_
          refine lv_iload hx hb dX1_touch_129 (lv_at hl 1 rfl) ?_
          refine u_iald hx hb hK hP 2 0 rfl rfl rfl ⟨by omega, by omega⟩ dX1_touch_131 ?_
          have hPc := hP.sub (ws' := [(h0, .inr (3, [.ref ax, .ref ay, .int (nI nn)])), (ax, .inl (cI, nn, .inl X)), (ay, .inl (cI, nn, .inl Y))]) [0, 1, 2] rfl
          refine u_callSi (W.runV (As := [.int (nI k), .int (X (nxt nn j)), .int (Y (nxt nn j))]) (rest := []) ⟨hx, hb, hml, hown, hts⟩ (c_X1_turnAt l D cI cB cZ cP h0 ax ay nn X Y k (X (nxt nn j)) (Y (nxt nn j)) (by first | assumption | omega) (by first | assumption | omega)) (cwV 3 hts gX1_touch_X1_turnAt rfl rfl rfl (by decide +kernel) ⟨Nat.le_of_ble_eq_true rfl, Nat.le_of_ble_eq_true rfl⟩) (pV (q0 := 0) hPc hW0 trivial rfl rfl) rfl rfl hl.1 rfl (lv_room (Nat.le_of_ble_eq_true rfl)) dX1_touch_132 ⟨Nat.le_of_ble_eq_true rfl, Nat.le_of_ble_eq_true rfl⟩) ?_
          refine lv_istore (lv' := [(6, .int (sdT nn X Y k (X (nxt nn j)) (Y (nxt nn j)))), (5, .int (sdT nn X Y k (X j) (Y j))), (4, .int (nI (nxt nn j))), (3, .int (nI (nxt nn k))), (0, .ref h0), (1, .int (nI k)), (2, .int (nI j))]) hx hb dX1_touch_135 hl (by decide) rfl (fun ls hl => ?_)
          refine lv_aload_n hx hb dX1_touch_137 rfl (lv_at hl 4 rfl) ?_
          refine lv_iload_n hx hb dX1_touch_138 rfl (lv_at hl 6 rfl) ?_
          refine lv_aload_n hx hb dX1_touch_139 rfl (lv_at hl 4 rfl) ?_
          refine va_get (D := D) (ci := 3) (v := .ref ax) (C := RX1) (T := TX1) (N := 3) hx hb hts (by decide +kernel) hown hK hP 0 rfl rfl 0 (by decide) (hts (.fieldLink RX1 7 "LandDeeds$Outline" "xs" "[I") (by decide +kernel)) (fun _ h9 => h9) rfl dX1_touch_140 ?_
          refine lv_iload_n hx hb dX1_touch_143 rfl (lv_at hl 5 rfl) ?_
          refine u_iald hx hb hK hP 1 0 rfl rfl rfl ⟨by omega, by omega⟩ dX1_touch_144 ?_
          refine lv_aload_n hx hb dX1_touch_145 rfl (lv_at hl 4 rfl) ?_
          refine va_get (D := D) (ci := 3) (v := .ref ay) (C := RX1) (T := TX1) (N := 3) hx hb hts (by decide +kernel) hown hK hP 0 rfl rfl 1 (by decide) (hts (.fieldLink RX1 13 "LandDeeds$Outline" "ys" "[I") (by decide +kernel)) (fun _ h9 => h9) rfl dX1_touch_146 ?_
          refine lv_iload_n hx hb dX1_touch_149 rfl (lv_at hl 5 rfl) ?_
          refine u_iald hx hb hK hP 2 0 rfl rfl rfl ⟨by omega, by omega⟩ dX1_touch_150 ?_
          have hPc := hP.sub (ws' := [(h0, .inr (3, [.ref ax, .ref ay, .int (nI nn)])), (ax, .inl (cI, nn, .inl X)), (ay, .inl (cI, nn, .inl Y))]) [0, 1, 2] rfl
          refine u_callSi (W.runV (As := [.int (nI j), .int (X k), .int (Y k)]) (rest := []) ⟨hx, hb, hml, hown, hts⟩ (c_X1_turnAt l D cI cB cZ cP h0 ax ay nn X Y j (X k) (Y k) (by first | assumption | omega) (by first | assumption | omega)) (cwV 3 hts gX1_touch_X1_turnAt rfl rfl rfl (by decide +kernel) ⟨Nat.le_of_ble_eq_true rfl, Nat.le_of_ble_eq_true rfl⟩) (pV (q0 := 0) hPc hW0 trivial rfl rfl) rfl rfl hl.1 rfl (lv_room (Nat.le_of_ble_eq_true rfl)) dX1_touch_151 ⟨Nat.le_of_ble_eq_true rfl, Nat.le_of_ble_eq_true rfl⟩) ?_
          refine lv_istore (lv' := [(7, .int (sdT nn X Y j (X k) (Y k))), (6, .int (sdT nn X Y k (X (nxt nn j)) (Y (nxt nn j)))), (5, .int (sdT nn X Y k (X j) (Y j))), (4, .int (nI (nxt nn j))), (3, .int (nI (nxt nn k))), (0, .ref h0), (1, .int (nI k)), (2, .int (nI j))]) hx hb dX1_touch_154 hl (by decide) rfl (fun ls hl => ?_)
          refine lv_aload_n hx hb dX1_touch_156 rfl (lv_at hl 5 rfl) ?_
          refine lv_iload_n hx hb dX1_touch_157 rfl (lv_at hl 7 rfl) ?_
          refine lv_aload_n hx hb dX1_touch_158 rfl (lv_at hl 5 rfl) ?_
          refine va_get (D := D) (ci := 3) (v := .ref ax) (C := RX1) (T := TX1) (N := 3) hx hb hts (by decide +kernel) hown hK hP 0 rfl rfl 0 (by decide) (hts (.fieldLink RX1 7 "LandDeeds$Outline" "xs" "[I") (by decide +kernel)) (fun _ h9 => h9) rfl dX1_touch_159 ?_
          refine lv_iload_n hx hb dX1_touch_162 rfl (lv_at hl 4 rfl) ?_
          refine u_iald hx hb hK hP 1 0 rfl rfl rfl ⟨by omega, by omega⟩ dX1_touch_163 ?_
          refine lv_aload_n hx hb dX1_touch_164 rfl (lv_at hl 5 rfl) ?_
          refine va_get (D := D) (ci := 3) (v := .ref ay) (C := RX1) (T := TX1) (N := 3) hx hb hts (by decide +kernel) hown hK hP 0 rfl rfl 1 (by decide) (hts (.fieldLink RX1 13 "LandDeeds$Outline" "ys" "[I") (by decide +kernel)) (fun _ h9 => h9) rfl dX1_touch_165 ?_
          refine lv_iload_n hx hb dX1_touch_168 rfl (lv_at hl 4 rfl) ?_
          refine u_iald hx hb hK hP 2 0 rfl rfl rfl ⟨by omega, by omega⟩ dX1_touch_169 ?_
          have hPc := hP.sub (ws' := [(h0, .inr (3, [.ref ax, .ref ay, .int (nI nn)])), (ax, .inl (cI, nn, .inl X)), (ay, .inl (cI, nn, .inl Y))]) [0, 1, 2] rfl
          refine u_callSi (W.runV (As := [.int (nI j), .int (X (nxt nn k)), .int (Y (nxt nn k))]) (rest := []) ⟨hx, hb, hml, hown, hts⟩ (c_X1_turnAt l D cI cB cZ cP h0 ax ay nn X Y j (X (nxt nn k)) (Y (nxt nn k)) (by first | assumption | omega) (by first | assumption | omega)) (cwV 3 hts gX1_touch_X1_turnAt rfl rfl rfl (by decide +kernel) ⟨Nat.le_of_ble_eq_true rfl, Nat.le_of_ble_eq_true rfl⟩) (pV (q0 := 0) hPc hW0 trivial rfl rfl) rfl rfl hl.1 rfl (lv_room (Nat.le_of_ble_eq_true rfl)) dX1_touch_170 ⟨Nat.le_of_ble_eq_true rfl, Nat.le_of_ble_eq_true rfl⟩) ?_
          refine lv_istore (lv' := [(8, .int (sdT nn X Y j (X (nxt nn k)) (Y (nxt nn k)))), (7, .int (sdT nn X Y j (X k) (Y k))), (6, .int (sdT nn X Y k (X (nxt nn j)) (Y (nxt nn j)))), (5, .int (sdT nn X Y k (X j) (Y j))), (4, .int (nI (nxt nn j))), (3, .int (nI (nxt nn k))), (0, .ref h0), (1, .int (nI k)), (2, .int (nI j))]) hx hb dX1_touch_173 hl (by decide) rfl (fun ls hl => ?_)
          refine lv_iload hx hb dX1_touch_175 (lv_at hl 3 rfl) ?_
          refine lv_iload hx hb dX1_touch_177 (lv_at hl 2 rfl) ?_
          refine lv_imul hx hb dX1_touch_179 ?_
          refine lv_if_ge (tgt := 195) hx hb dX1_touch_180 (by decide) (fun c_5 => ?_) (fun c_5 => ?_)
          · skip
            refine lv_iconst (v := 0) hx hb dX1_touch_195 (by decide) ?_
            rw [← hQ]
            exact W.zret (v := 0) hx hb hr (by decide) (fun t ht hW => ⟨_, rfl, (zb_f (by unfold tch; rintro (h | h | h | h | ⟨h, h2⟩) <;> first | contradiction | exact absurd c_5 (Int32.not_le.mpr h))), ht⟩) (fun q h => absurd h List.not_mem_nil) dX1_touch_196
          · skip
            refine lv_iload hx hb dX1_touch_183 (lv_at hl 1 rfl) ?_
            refine lv_iload hx hb dX1_touch_185 (lv_at hl 0 rfl) ?_
            refine lv_imul hx hb dX1_touch_187 ?_
            refine lv_if_ge (tgt := 195) hx hb dX1_touch_188 (by decide) (fun c_6 => ?_) (fun c_6 => ?_)
            · skip
              refine lv_iconst (v := 0) hx hb dX1_touch_195 (by decide) ?_
              rw [← hQ]
              exact W.zret (v := 0) hx hb hr (by decide) (fun t ht hW => ⟨_, rfl, (zb_f (by unfold tch; rintro (h | h | h | h | ⟨h, h2⟩) <;> first | contradiction | exact absurd c_6 (Int32.not_le.mpr h2))), ht⟩) (fun q h => absurd h List.not_mem_nil) dX1_touch_196
            · skip
              refine lv_iconst (v := 1) hx hb dX1_touch_191 (by decide) ?_
              refine lv_goto (tgt := 196) hx hb dX1_touch_192 (by decide) ?_
              rw [← hQ]
              exact W.zret (v := 1) hx hb hr (by decide) (fun t ht hW => ⟨_, rfl, (zb_t (by unfold tch; exact Or.inr (Or.inr (Or.inr (Or.inr ⟨Int32.not_le.mp c_5, Int32.not_le.mp c_6⟩))))), ht⟩) (fun q h => absurd h List.not_mem_nil) dX1_touch_196
        · skip
          have nc_4 := zb_ne0.mp c_4
          refine lv_iconst (v := 1) hx hb dX1_touch_95 (by decide) ?_
          rw [← hQ]
          exact W.zret (v := 1) hx hb hr (by decide) (fun t ht hW => ⟨_, rfl, (zb_t (by unfold tch; simp only [*, true_or, or_true, not_false_eq_true, and_self])), ht⟩) (fun q h => absurd h List.not_mem_nil) dX1_touch_96

set_option maxHeartbeats 4000000 in
set_option maxRecDepth 100000 in
theorem c_X1_clash (l : Launch) (D : va_G) (cI cB cZ cP : ClassId) (h0 ax ay nn : Nat) (X Y : Nat → Int32) (k j : Nat) (hn8 : nn ≤ 8) (hk : k < nn) (hj : j < nn) : Met l yX1_clash wsX1_clash ({ frames := 4, cells := 0, slots := 0, locals := 97 } : Room) (va_Pc [.ref h0, .int (nI k), .int (nI j)] (fun U => va_P D vwCl [(h0, .inr (3, [.ref ax, .ref ay, .int (nI nn)])), (ax, .inl (cI, nn, .inl X)), (ay, .inl (cI, nn, .inl Y))] U.heap ∧ KW D cI cB cZ cP U ∧ E0 U.heap)) (vp_Si (fun r => r = zb (clsh nn X Y k j))) 0 0 (fun _ => False) := by
  refine Met.ofW (cc := cX1_clash) (maxL := 3) (ret := (some .boolean)) (by decide) rfl ?_
  intro p e s m args below meth c s₁ B hml hv
  obtain ⟨rfl, hP, hW0, hE⟩ := hv
  have hx := B.exec
  have hb := B.bytes
  have hr := B.returns
  have hts := atoms_spec (ws := wsX1_clash) B.pre
  have hown : s.vm.findClass RX1 = some m.cls := findClass_of_methodNamed B.named
  have hlocks := B.notSynchronized
  have hK := hW0.1
  have hl := lv_entry ([.ref h0, .int (nI k), .int (nI j)]) (n := 3) (Nat.le_of_ble_eq_true rfl)
  rw [lg_entry_eq]
  generalize (lg_sl ([.ref h0, .int (nI k), .int (nI j)]) ++ List.replicate (3 - (lg_sl ([.ref h0, .int (nI k), .int (nI j)])).length) Slot.unset).toArray = ls at hl ⊢
  have hl : lv_has ls 3 [(0, .ref h0), (1, .int (nI k)), (2, .int (nI j))] := hl
  show W p l e ({ frames := 4, cells := 0, slots := 0, locals := 97 } : Room) s m ([.ref h0, .int (nI k), .int (nI j)] : List Value).toArray below meth c s.heap [] 0 0 _ (F0 m 0 ls [])
  refine u_genQ (fun Q hQ => ?_)
  have hnx := nxt_lt hk
  have hnj := nxt_lt hj
  refine lv_aload_n hx hb dX1_clash_0 rfl (lv_at hl 0 rfl) ?_
  refine lv_iload_n hx hb dX1_clash_1 rfl (lv_at hl 1 rfl) ?_
  have hPc := hP.sub (ws' := [(h0, .inr (3, [.ref ax, .ref ay, .int (nI nn)]))]) [0] rfl
  refine u_callSi (W.runV (As := [.int (nI k)]) (rest := []) ⟨hx, hb, hml, hown, hts⟩ (c_X1_next l D cI cB cZ cP h0 ax ay nn k (by first | assumption | omega) (by first | assumption | omega)) (cwV 1 hts gX1_clash_X1_next rfl rfl rfl (by decide +kernel) ⟨Nat.le_of_ble_eq_true rfl, Nat.le_of_ble_eq_true rfl⟩) (pV (q0 := 0) hPc hW0 trivial rfl rfl) rfl rfl hl.1 rfl (lv_room (Nat.le_of_ble_eq_true rfl)) dX1_clash_2 ⟨Nat.le_of_ble_eq_true rfl, Nat.le_of_ble_eq_true rfl⟩) ?_
  refine lv_iload_n hx hb dX1_clash_5 rfl (lv_at hl 2 rfl) ?_
  refine lv_icmp_ne (tgt := 16) hx hb dX1_clash_6 (by decide) (fun c_1 => ?_) (fun c_1 => ?_)
  · skip
    have nc_1 : ¬ (nxt nn k = j) := fun h => c_1 ((nI_eq (a := (nxt nn k)) (b := j) (by omega) (by omega)).mpr h)
    refine lv_aload_n hx hb dX1_clash_16 rfl (lv_at hl 0 rfl) ?_
    refine lv_iload_n hx hb dX1_clash_17 rfl (lv_at hl 2 rfl) ?_
    have hPc := hP.sub (ws' := [(h0, .inr (3, [.ref ax, .ref ay, .int (nI nn)]))]) [0] rfl
    refine u_callSi (W.runV (As := [.int (nI j)]) (rest := []) ⟨hx, hb, hml, hown, hts⟩ (c_X1_next l D cI cB cZ cP h0 ax ay nn j (by first | assumption | omega) (by first | assumption | omega)) (cwV 1 hts gX1_clash_X1_next rfl rfl rfl (by decide +kernel) ⟨Nat.le_of_ble_eq_true rfl, Nat.le_of_ble_eq_true rfl⟩) (pV (q0 := 0) hPc hW0 trivial rfl rfl) rfl rfl hl.1 rfl (lv_room (Nat.le_of_ble_eq_true rfl)) dX1_clash_18 ⟨Nat.le_of_ble_eq_true rfl, Nat.le_of_ble_eq_true rfl⟩) ?_
    refine lv_iload_n hx hb dX1_clash_21 rfl (lv_at hl 1 rfl) ?_
    refine lv_icmp_ne (tgt := 32) hx hb dX1_clash_22 (by decide) (fun c_2 => ?_) (fun c_2 => ?_)
    · skip
      have nc_2 : ¬ (nxt nn j = k) := fun h => c_2 ((nI_eq (a := (nxt nn j)) (b := k) (by omega) (by omega)).mpr h)
      refine lv_aload_n hx hb dX1_clash_32 rfl (lv_at hl 0 rfl) ?_
      refine lv_iload_n hx hb dX1_clash_33 rfl (lv_at hl 1 rfl) ?_
      refine lv_iload_n hx hb dX1_clash_34 rfl (lv_at hl 2 rfl) ?_
      have hPc := hP.sub (ws' := [(h0, .inr (3, [.ref ax, .ref ay, .int (nI nn)])), (ax, .inl (cI, nn, .inl X)), (ay, .inl (cI, nn, .inl Y))]) [0, 1, 2] rfl
      refine u_callSi (W.runV (As := [.int (nI k), .int (nI j)]) (rest := []) ⟨hx, hb, hml, hown, hts⟩ (c_X1_touch l D cI cB cZ cP h0 ax ay nn X Y k j (by first | assumption | omega) (by first | assumption | omega) (by first | assumption | omega)) (cwV 2 hts gX1_clash_X1_touch rfl rfl rfl (by decide +kernel) ⟨Nat.le_of_ble_eq_true rfl, Nat.le_of_ble_eq_true rfl⟩) (pV (q0 := 0) hPc hW0 trivial rfl rfl) rfl rfl hl.1 rfl (lv_room (Nat.le_of_ble_eq_true rfl)) dX1_clash_35 ⟨Nat.le_of_ble_eq_true rfl, Nat.le_of_ble_eq_true rfl⟩) ?_
      rw [← hQ]
      exact W.zret (v := zb (tch nn X Y k j)) hx hb hr (nar_zb _) (fun t ht hW => ⟨_, rfl, (zb_iff ⟨fun h => Or.inr (Or.inr ⟨nc_1, nc_2, h⟩), fun h => by rcases h with h | h | h; exact absurd h.1 nc_1; exact absurd h.2.1 nc_2; exact h.2.2⟩), ht⟩) (fun q h => absurd h List.not_mem_nil) dX1_clash_38
    · skip
      have nc_2 : nxt nn j = k := (nI_eq (a := (nxt nn j)) (b := k) (by omega) (by omega)).mp c_2
      refine lv_aload_n hx hb dX1_clash_25 rfl (lv_at hl 0 rfl) ?_
      refine lv_iload_n hx hb dX1_clash_26 rfl (lv_at hl 2 rfl) ?_
      refine lv_iload_n hx hb dX1_clash_27 rfl (lv_at hl 1 rfl) ?_
      have hPc := hP.sub (ws' := [(h0, .inr (3, [.ref ax, .ref ay, .int (nI nn)])), (ax, .inl (cI, nn, .inl X)), (ay, .inl (cI, nn, .inl Y))]) [0, 1, 2] rfl
      refine u_callSi (W.runV (As := [.int (nI j), .int (nI k)]) (rest := []) ⟨hx, hb, hml, hown, hts⟩ (c_X1_foldsBack l D cI cB cZ cP h0 ax ay nn X Y j k (by first | assumption | omega) (by first | assumption | omega) (by first | assumption | omega)) (cwV 2 hts gX1_clash_X1_foldsBack rfl rfl rfl (by decide +kernel) ⟨Nat.le_of_ble_eq_true rfl, Nat.le_of_ble_eq_true rfl⟩) (pV (q0 := 0) hPc hW0 trivial rfl rfl) rfl rfl hl.1 rfl (lv_room (Nat.le_of_ble_eq_true rfl)) dX1_clash_28 ⟨Nat.le_of_ble_eq_true rfl, Nat.le_of_ble_eq_true rfl⟩) ?_
      rw [← hQ]
      exact W.zret (v := zb (fld nn X Y j k)) hx hb hr (nar_zb _) (fun t ht hW => ⟨_, rfl, (zb_iff ⟨fun h => Or.inr (Or.inl ⟨nc_1, nc_2, h⟩), fun h => by rcases h with h | h | h; exact absurd h.1 nc_1; exact h.2.2; exact absurd nc_2 h.2.1⟩), ht⟩) (fun q h => absurd h List.not_mem_nil) dX1_clash_31
  · skip
    have nc_1 : nxt nn k = j := (nI_eq (a := (nxt nn k)) (b := j) (by omega) (by omega)).mp c_1
    refine lv_aload_n hx hb dX1_clash_9 rfl (lv_at hl 0 rfl) ?_
    refine lv_iload_n hx hb dX1_clash_10 rfl (lv_at hl 1 rfl) ?_
    refine lv_iload_n hx hb dX1_clash_11 rfl (lv_at hl 2 rfl) ?_
    have hPc := hP.sub (ws' := [(h0, .inr (3, [.ref ax, .ref ay, .int (nI nn)])), (ax, .inl (cI, nn, .inl X)), (ay, .inl (cI, nn, .inl Y))]) [0, 1, 2] rfl
    refine u_callSi (W.runV (As := [.int (nI k), .int (nI j)]) (rest := []) ⟨hx, hb, hml, hown, hts⟩ (c_X1_foldsBack l D cI cB cZ cP h0 ax ay nn X Y k j (by first | assumption | omega) (by first | assumption | omega) (by first | assumption | omega)) (cwV 2 hts gX1_clash_X1_foldsBack rfl rfl rfl (by decide +kernel) ⟨Nat.le_of_ble_eq_true rfl, Nat.le_of_ble_eq_true rfl⟩) (pV (q0 := 0) hPc hW0 trivial rfl rfl) rfl rfl hl.1 rfl (lv_room (Nat.le_of_ble_eq_true rfl)) dX1_clash_12 ⟨Nat.le_of_ble_eq_true rfl, Nat.le_of_ble_eq_true rfl⟩) ?_
    rw [← hQ]
    exact W.zret (v := zb (fld nn X Y k j)) hx hb hr (nar_zb _) (fun t ht hW => ⟨_, rfl, (zb_iff ⟨fun h => Or.inl ⟨nc_1, h⟩, fun h => by rcases h with h | h | h; exact h.2; exact absurd nc_1 h.1; exact absurd nc_1 h.1⟩), ht⟩) (fun q h => absurd h List.not_mem_nil) dX1_clash_15

set_option maxHeartbeats 4000000 in
set_option maxRecDepth 100000 in
theorem c_X1_stands (l : Launch) (D : va_G) (cI cB cZ cP : ClassId) (h0 ax ay nn : Nat) (X Y : Nat → Int32) (hn8 : nn ≤ 8) : Met l yX1_stands wsX1_stands ({ frames := 5, cells := 0, slots := 0, locals := 119 } : Room) (va_Pc [.ref h0] (fun U => va_P D vwCl [(h0, .inr (3, [.ref ax, .ref ay, .int (nI nn)])), (ax, .inl (cI, nn, .inl X)), (ay, .inl (cI, nn, .inl Y))] U.heap ∧ KW D cI cB cZ cP U ∧ E0 U.heap)) (vp_Si (fun r => r = zb (stn nn X Y))) 0 0 (fun _ => False) := by
  refine Met.ofW (cc := cX1_stands) (maxL := 3) (ret := (some .boolean)) (by decide) rfl ?_
  intro p e s m args below meth c s₁ B hml hv
  obtain ⟨rfl, hP, hW0, hE⟩ := hv
  have hx := B.exec
  have hb := B.bytes
  have hr := B.returns
  have hts := atoms_spec (ws := wsX1_stands) B.pre
  have hown : s.vm.findClass RX1 = some m.cls := findClass_of_methodNamed B.named
  have hlocks := B.notSynchronized
  have hK := hW0.1
  have hl := lv_entry ([.ref h0]) (n := 3) (Nat.le_of_ble_eq_true rfl)
  rw [lg_entry_eq]
  generalize (lg_sl ([.ref h0]) ++ List.replicate (3 - (lg_sl ([.ref h0])).length) Slot.unset).toArray = ls at hl ⊢
  have hl : lv_has ls 3 [(0, .ref h0)] := hl
  show W p l e ({ frames := 5, cells := 0, slots := 0, locals := 119 } : Room) s m ([.ref h0] : List Value).toArray below meth c s.heap [] 0 0 _ (F0 m 0 ls [])
  refine u_genQ (fun Q hQ => ?_)
  refine lv_iconst (v := 0) hx hb dX1_stands_0 (by decide) ?_
  refine lv_istore_n (lv' := [(1, .int 0), (0, .ref h0)]) hx hb dX1_stands_1 rfl hl (by decide) rfl (fun ls hl => ?_)
  have LOOP_2 : ∀ (fu : Nat) (k : Nat) (hk : k ≤ nn) (hA1 : ∀ z, z < k → isP (X z) (Y z) ∧ ¬ mere nn X Y z) (hn : nn - k < fu) (ls : Array Slot) (hl : lv_has ls 3 [(0, .ref h0), (1, .int (nI k))]), W p l e ({ frames := 5, cells := 0, slots := 0, locals := 119 } : Room) s m ([.ref h0] : List Value).toArray below meth c s.heap [] 0 0 Q (F0 m 2 ls []) := by
    intro fu
    induction fu with
    | zero => intro k hk hA1 hn ls hl; exact absurd hn (Nat.not_lt_zero _)
    | succ fu ih_2 =>
      intro k hk hA1 hn ls hl
      refine lv_iload_n hx hb dX1_stands_2 rfl (lv_at hl 1 rfl) ?_
      refine lv_aload_n hx hb dX1_stands_3 rfl (lv_at hl 0 rfl) ?_
      refine va_get (D := D) (ci := 3) (v := .int (nI nn)) (C := RX1) (T := TX1) (N := 3) hx hb hts (by decide +kernel) hown hK hP 0 rfl rfl 2 (by decide) (hts (.fieldLink RX1 22 "LandDeeds$Outline" "corners" "I") (by decide +kernel)) (fun _ h9 => h9) rfl dX1_stands_4 ?_
      refine lv_icmp_ge (tgt := 44) hx hb dX1_stands_7 (by decide) (fun c_1 => ?_) (fun c_1 => ?_)
      · skip
        have nc_1 : nn ≤ k := (nI_leI (a := nn) (b := k) (by omega) (by omega)).mp c_1
        refine lv_iconst (v := 0) hx hb dX1_stands_44 (by decide) ?_
        refine lv_istore_n (lv' := [(1, .int 0), (0, .ref h0)]) hx hb dX1_stands_45 rfl hl (by decide) rfl (fun ls hl => ?_)
        have LOOP_46 : ∀ (fu : Nat) (i : Nat) (hi : i ≤ nn) (hB1 : ∀ z, z < i → ∀ w, z < w → w < nn → ¬ clsh nn X Y z w) (hn : nn - i < fu) (ls : Array Slot) (hl : lv_has ls 3 [(0, .ref h0), (1, .int (nI i))]), W p l e ({ frames := 5, cells := 0, slots := 0, locals := 119 } : Room) s m ([.ref h0] : List Value).toArray below meth c s.heap [] 0 0 Q (F0 m 46 ls []) := by
          intro fu
          induction fu with
          | zero => intro i hi hB1 hn ls hl; exact absurd hn (Nat.not_lt_zero _)
          | succ fu ih_46 =>
            intro i hi hB1 hn ls hl
            refine lv_iload_n hx hb dX1_stands_46 rfl (lv_at hl 1 rfl) ?_
            refine lv_aload_n hx hb dX1_stands_47 rfl (lv_at hl 0 rfl) ?_
            refine va_get (D := D) (ci := 3) (v := .int (nI nn)) (C := RX1) (T := TX1) (N := 3) hx hb hts (by decide +kernel) hown hK hP 0 rfl rfl 2 (by decide) (hts (.fieldLink RX1 22 "LandDeeds$Outline" "corners" "I") (by decide +kernel)) (fun _ h9 => h9) rfl dX1_stands_48 ?_
            refine lv_icmp_ge (tgt := 89) hx hb dX1_stands_51 (by decide) (fun c_2 => ?_) (fun c_2 => ?_)
            · skip
              have nc_2 : nn ≤ i := (nI_leI (a := nn) (b := i) (by omega) (by omega)).mp c_2
              refine lv_iconst (v := 1) hx hb dX1_stands_89 (by decide) ?_
              rw [← hQ]
              exact W.zret (v := 1) hx hb hr (by decide) (fun t ht hW => ⟨_, rfl, (zb_t ⟨fun z hz => hA1 z (by omega), fun z hz => hB1 z (by omega)⟩), ht⟩) (fun q h => absurd h List.not_mem_nil) dX1_stands_90
            · skip
              have nc_2 : ¬ (nn ≤ i) := fun h => c_2 ((nI_leI (a := nn) (b := i) (by omega) (by omega)).mpr h)
              refine lv_iload_n hx hb dX1_stands_54 rfl (lv_at hl 1 rfl) ?_
              refine lv_iconst (v := 1) hx hb dX1_stands_55 (by decide) ?_
              refine lv_iadd hx hb dX1_stands_56 ?_
              refine u_eqi (show (nI i) + 1 = nI (i + 1) from nI_1 i) ?_
              refine lv_istore_n (lv' := [(2, .int (nI (i + 1))), (0, .ref h0), (1, .int (nI i))]) hx hb dX1_stands_57 rfl hl (by decide) rfl (fun ls hl => ?_)
              have LOOP_58 : ∀ (fu : Nat) (j : Nat) (hj : j ≤ nn) (hij : i < j) (hC1 : ∀ w, i < w → w < j → ¬ clsh nn X Y i w) (hn : nn - j < fu) (ls : Array Slot) (hl : lv_has ls 3 [(0, .ref h0), (1, .int (nI i)), (2, .int (nI j))]), W p l e ({ frames := 5, cells := 0, slots := 0, locals := 119 } : Room) s m ([.ref h0] : List Value).toArray below meth c s.heap [] 0 0 Q (F0 m 58 ls []) := by
                intro fu
                induction fu with
                | zero => intro j hj hij hC1 hn ls hl; exact absurd hn (Nat.not_lt_zero _)
                | succ fu ih_58 =>
                  intro j hj hij hC1 hn ls hl
                  refine lv_iload_n hx hb dX1_stands_58 rfl (lv_at hl 2 rfl) ?_
                  refine lv_aload_n hx hb dX1_stands_59 rfl (lv_at hl 0 rfl) ?_
                  refine va_get (D := D) (ci := 3) (v := .int (nI nn)) (C := RX1) (T := TX1) (N := 3) hx hb hts (by decide +kernel) hown hK hP 0 rfl rfl 2 (by decide) (hts (.fieldLink RX1 22 "LandDeeds$Outline" "corners" "I") (by decide +kernel)) (fun _ h9 => h9) rfl dX1_stands_60 ?_
                  refine lv_icmp_ge (tgt := 83) hx hb dX1_stands_63 (by decide) (fun c_3 => ?_) (fun c_3 => ?_)
                  · skip
                    have nc_3 : nn ≤ j := (nI_leI (a := nn) (b := j) (by omega) (by omega)).mp c_3
                    refine lv_iinc (v := nI (i + 1)) (lv' := [(1, .int (nI (i + 1))), (0, .ref h0), (2, .int (nI j))]) hx hb dX1_stands_83 hl (k := 1) rfl (nI_1 _) (by decide) rfl (fun ls hl => ?_)
                    refine lv_goto (tgt := 46) hx hb dX1_stands_86 (by decide) ?_
                    exact ih_46 (i + 1) (by omega) (fun z hz => by rcases Nat.lt_succ_iff_lt_or_eq.mp hz with h | h; exact hB1 z h; exact h ▸ fun w h1 h2 => hC1 w h1 (by omega)) (by omega) ls (lv_sub hl [1, 0] rfl)
                  · skip
                    have nc_3 : ¬ (nn ≤ j) := fun h => c_3 ((nI_leI (a := nn) (b := j) (by omega) (by omega)).mpr h)
                    refine lv_aload_n hx hb dX1_stands_66 rfl (lv_at hl 0 rfl) ?_
                    refine lv_iload_n hx hb dX1_stands_67 rfl (lv_at hl 1 rfl) ?_
                    refine lv_iload_n hx hb dX1_stands_68 rfl (lv_at hl 2 rfl) ?_
                    have hPc := hP.sub (ws' := [(h0, .inr (3, [.ref ax, .ref ay, .int (nI nn)])), (ax, .inl (cI, nn, .inl X)), (ay, .inl (cI, nn, .inl Y))]) [0, 1, 2] rfl
                    refine u_callSi (W.runV (As := [.int (nI i), .int (nI j)]) (rest := []) ⟨hx, hb, hml, hown, hts⟩ (c_X1_clash l D cI cB cZ cP h0 ax ay nn X Y i j (by first | assumption | omega) (by first | assumption | omega) (by first | assumption | omega)) (cwV 2 hts gX1_stands_X1_clash rfl rfl rfl (by decide +kernel) ⟨Nat.le_of_ble_eq_true rfl, Nat.le_of_ble_eq_true rfl⟩) (pV (q0 := 0) hPc hW0 trivial rfl rfl) rfl rfl hl.1 rfl (lv_room (Nat.le_of_ble_eq_true rfl)) dX1_stands_69 ⟨Nat.le_of_ble_eq_true rfl, Nat.le_of_ble_eq_true rfl⟩) ?_
                    refine lv_if_eq (tgt := 77) hx hb dX1_stands_72 (by decide) (fun c_4 => ?_) (fun c_4 => ?_)
                    · skip
                      have nc_4 := zb_eq0.mp c_4
                      refine lv_iinc (v := nI (j + 1)) (lv' := [(2, .int (nI (j + 1))), (0, .ref h0), (1, .int (nI i))]) hx hb dX1_stands_77 hl (k := 2) rfl (nI_1 _) (by decide) rfl (fun ls hl => ?_)
                      refine lv_goto (tgt := 58) hx hb dX1_stands_80 (by decide) ?_
                      exact ih_58 (j + 1) (by omega) (by omega) (fun w h1 h2 => by rcases Nat.lt_succ_iff_lt_or_eq.mp h2 with h | h; exact hC1 w h1 h; exact h ▸ nc_4) (by omega) ls (lv_sub hl [1, 2, 0] rfl)
                    · skip
                      have nc_4 := zb_ne0.mp c_4
                      refine lv_iconst (v := 0) hx hb dX1_stands_75 (by decide) ?_
                      rw [← hQ]
                      exact W.zret (v := 0) hx hb hr (by decide) (fun t ht hW => ⟨_, rfl, (zb_f (fun h => h.2 i (by omega) j hij (by omega) nc_4)), ht⟩) (fun q h => absurd h List.not_mem_nil) dX1_stands_76
              exact LOOP_58 (nn - (i + 1) + 1) (i + 1) (by omega) (Nat.lt_succ_self _) (fun w h1 h2 => absurd h2 (by omega)) (Nat.lt_succ_self _) ls (lv_sub hl [1, 2, 0] rfl)
        exact LOOP_46 (nn - 0 + 1) 0 (Nat.zero_le _) (fun z h => absurd h (Nat.not_lt_zero _)) (Nat.lt_succ_self _) ls (lv_sub hl [1, 0] rfl)
      · skip
        have nc_1 : ¬ (nn ≤ k) := fun h => c_1 ((nI_leI (a := nn) (b := k) (by omega) (by omega)).mpr h)
        refine lv_aload_n hx hb dX1_stands_10 rfl (lv_at hl 0 rfl) ?_
        refine va_get (D := D) (ci := 3) (v := .ref ax) (C := RX1) (T := TX1) (N := 3) hx hb hts (by decide +kernel) hown hK hP 0 rfl rfl 0 (by decide) (hts (.fieldLink RX1 7 "LandDeeds$Outline" "xs" "[I") (by decide +kernel)) (fun _ h9 => h9) rfl dX1_stands_11 ?_
        refine lv_iload_n hx hb dX1_stands_14 rfl (lv_at hl 1 rfl) ?_
        refine u_iald hx hb hK hP 1 0 rfl rfl rfl ⟨by omega, by omega⟩ dX1_stands_15 ?_
        refine lv_aload_n hx hb dX1_stands_16 rfl (lv_at hl 0 rfl) ?_
        refine va_get (D := D) (ci := 3) (v := .ref ay) (C := RX1) (T := TX1) (N := 3) hx hb hts (by decide +kernel) hown hK hP 0 rfl rfl 1 (by decide) (hts (.fieldLink RX1 13 "LandDeeds$Outline" "ys" "[I") (by decide +kernel)) (fun _ h9 => h9) rfl dX1_stands_17 ?_
        refine lv_iload_n hx hb dX1_stands_20 rfl (lv_at hl 1 rfl) ?_
        refine u_iald hx hb hK hP 2 0 rfl rfl rfl ⟨by omega, by omega⟩ dX1_stands_21 ?_
        have hPc := hP.sub (ws' := []) [] rfl
        refine u_callSi (va_runSN (As := [.int (X k), .int (Y k)]) (rest := []) ⟨hx, hb, hml, hown, hts⟩ (c_X6_isPost l D cI cB cZ cP (X k) (Y k) ) ⟨va_cnB 2 hts gX1_stands_X6_isPost_n26 rfl rfl rfl (hW0.n_RX1_26) (hts (.initialized RX6) (by decide +kernel)) (by decide +kernel) ⟨Nat.le_of_ble_eq_true rfl, Nat.le_of_ble_eq_true rfl⟩, (hts (.static yX6_isPost) (by decide +kernel)), trivial⟩ (pS hPc hW0 trivial) rfl rfl hl.1 rfl (lv_room (Nat.le_of_ble_eq_true rfl)) dX1_stands_22 ⟨Nat.le_of_ble_eq_true rfl, Nat.le_of_ble_eq_true rfl⟩).run ?_
        refine lv_if_eq (tgt := 36) hx hb dX1_stands_25 (by decide) (fun c_5 => ?_) (fun c_5 => ?_)
        · skip
          have nc_5 := zb_eq0.mp c_5
          refine lv_iconst (v := 0) hx hb dX1_stands_36 (by decide) ?_
          rw [← hQ]
          exact W.zret (v := 0) hx hb hr (by decide) (fun t ht hW => ⟨_, rfl, (zb_f (fun h => nc_5 (h.1 k (by omega)).1)), ht⟩) (fun q h => absurd h List.not_mem_nil) dX1_stands_37
        · skip
          have nc_5 := zb_ne0.mp c_5
          refine lv_aload_n hx hb dX1_stands_28 rfl (lv_at hl 0 rfl) ?_
          refine lv_iload_n hx hb dX1_stands_29 rfl (lv_at hl 1 rfl) ?_
          have hPc := hP.sub (ws' := [(h0, .inr (3, [.ref ax, .ref ay, .int (nI nn)])), (ax, .inl (cI, nn, .inl X)), (ay, .inl (cI, nn, .inl Y))]) [0, 1, 2] rfl
          refine u_callSi (W.runV (As := [.int (nI k)]) (rest := []) ⟨hx, hb, hml, hown, hts⟩ (c_X1_isMerePoint l D cI cB cZ cP h0 ax ay nn X Y k (by first | assumption | omega) (by first | assumption | omega)) (cwV 1 hts gX1_stands_X1_isMerePoint rfl rfl rfl (by decide +kernel) ⟨Nat.le_of_ble_eq_true rfl, Nat.le_of_ble_eq_true rfl⟩) (pV (q0 := 0) hPc hW0 trivial rfl rfl) rfl rfl hl.1 rfl (lv_room (Nat.le_of_ble_eq_true rfl)) dX1_stands_30 ⟨Nat.le_of_ble_eq_true rfl, Nat.le_of_ble_eq_true rfl⟩) ?_
          refine lv_if_eq (tgt := 38) hx hb dX1_stands_33 (by decide) (fun c_6 => ?_) (fun c_6 => ?_)
          · skip
            have nc_6 := zb_eq0.mp c_6
            refine lv_iinc (v := nI (k + 1)) (lv' := [(1, .int (nI (k + 1))), (0, .ref h0)]) hx hb dX1_stands_38 hl (k := 1) rfl (nI_1 _) (by decide) rfl (fun ls hl => ?_)
            refine lv_goto (tgt := 2) hx hb dX1_stands_41 (by decide) ?_
            exact ih_2 (k + 1) (by omega) (fun z hz => by rcases Nat.lt_succ_iff_lt_or_eq.mp hz with h | h; exact hA1 z h; exact h ▸ ⟨nc_5, nc_6⟩) (by omega) ls (lv_sub hl [1, 0] rfl)
          · skip
            have nc_6 := zb_ne0.mp c_6
            refine lv_iconst (v := 0) hx hb dX1_stands_36 (by decide) ?_
            rw [← hQ]
            exact W.zret (v := 0) hx hb hr (by decide) (fun t ht hW => ⟨_, rfl, (zb_f (fun h => (h.1 k (by omega)).2 nc_6)), ht⟩) (fun q h => absurd h List.not_mem_nil) dX1_stands_37
  exact LOOP_2 (nn - 0 + 1) 0 (Nat.zero_le _) (fun z h => absurd h (Nat.not_lt_zero _)) (Nat.lt_succ_self _) ls (lv_sub hl [1, 0] rfl)

set_option maxHeartbeats 4000000 in
set_option maxRecDepth 100000 in
theorem c_X1_twiceSignedArea (l : Launch) (D : va_G) (cI cB cZ cP : ClassId) (h0 ax ay nn : Nat) (X Y : Nat → Int32) (hn8 : nn ≤ 8) : Met l yX1_twiceSignedArea wsX1_twiceSignedArea ({ frames := 1, cells := 0, slots := 0, locals := 21 } : Room) (va_Pc [.ref h0] (fun U => va_P D vwCl [(h0, .inr (3, [.ref ax, .ref ay, .int (nI nn)])), (ax, .inl (cI, nn, .inl X)), (ay, .inl (cI, nn, .inl Y))] U.heap ∧ KW D cI cB cZ cP U ∧ E0 U.heap)) (vp_Si (fun r => r = isum (twt nn X Y) nn)) 0 0 (fun _ => False) := by
  refine Met.ofW (cc := cX1_twiceSignedArea) (maxL := 4) (ret := (some .int)) (by decide) rfl ?_
  intro p e s m args below meth c s₁ B hml hv
  obtain ⟨rfl, hP, hW0, hE⟩ := hv
  have hx := B.exec
  have hb := B.bytes
  have hr := B.returns
  have hts := atoms_spec (ws := wsX1_twiceSignedArea) B.pre
  have hown : s.vm.findClass RX1 = some m.cls := findClass_of_methodNamed B.named
  have hlocks := B.notSynchronized
  have hK := hW0.1
  have hl := lv_entry ([.ref h0]) (n := 4) (Nat.le_of_ble_eq_true rfl)
  rw [lg_entry_eq]
  generalize (lg_sl ([.ref h0]) ++ List.replicate (4 - (lg_sl ([.ref h0])).length) Slot.unset).toArray = ls at hl ⊢
  have hl : lv_has ls 4 [(0, .ref h0)] := hl
  show W p l e ({ frames := 1, cells := 0, slots := 0, locals := 21 } : Room) s m ([.ref h0] : List Value).toArray below meth c s.heap [] 0 0 _ (F0 m 0 ls [])
  refine u_genQ (fun Q hQ => ?_)
  refine lv_iconst (v := 0) hx hb dX1_twiceSignedArea_0 (by decide) ?_
  refine lv_istore_n (lv' := [(1, .int 0), (0, .ref h0)]) hx hb dX1_twiceSignedArea_1 rfl hl (by decide) rfl (fun ls hl => ?_)
  refine lv_iconst (v := 0) hx hb dX1_twiceSignedArea_2 (by decide) ?_
  refine lv_istore_n (lv' := [(2, .int 0), (1, .int 0), (0, .ref h0)]) hx hb dX1_twiceSignedArea_3 rfl hl (by decide) rfl (fun ls hl => ?_)
  have LOOP_4 : ∀ (fu : Nat) (k : Nat) (hk0 : k ≤ nn) (hn : nn - k < fu) (ls : Array Slot) (hl : lv_has ls 4 [(0, .ref h0), (1, .int (isum (twt nn X Y) k)), (2, .int (nI k))]), W p l e ({ frames := 1, cells := 0, slots := 0, locals := 21 } : Room) s m ([.ref h0] : List Value).toArray below meth c s.heap [] 0 0 Q (F0 m 4 ls []) := by
    intro fu
    induction fu with
    | zero => intro k hk0 hn ls hl; exact absurd hn (Nat.not_lt_zero _)
    | succ fu ih_4 =>
      intro k hk0 hn ls hl
      refine lv_iload_n hx hb dX1_twiceSignedArea_4 rfl (lv_at hl 2 rfl) ?_
      refine lv_aload_n hx hb dX1_twiceSignedArea_5 rfl (lv_at hl 0 rfl) ?_
      refine va_get (D := D) (ci := 3) (v := .int (nI nn)) (C := RX1) (T := TX1) (N := 3) hx hb hts (by decide +kernel) hown hK hP 0 rfl rfl 2 (by decide) (hts (.fieldLink RX1 22 "LandDeeds$Outline" "corners" "I") (by decide +kernel)) (fun _ h9 => h9) rfl dX1_twiceSignedArea_6 ?_
      refine lv_icmp_ge (tgt := 54) hx hb dX1_twiceSignedArea_9 (by decide) (fun c_1 => ?_) (fun c_1 => ?_)
      · skip
        have nc_1 : nn ≤ k := (nI_leI (a := nn) (b := k) (by omega) (by omega)).mp c_1
        refine lv_iload_n hx hb dX1_twiceSignedArea_54 rfl (lv_at hl 1 rfl) ?_
        rw [← hQ]
        exact W.iret (v := isum (twt nn X Y) k) hx hb hr (fun t ht hW => ⟨_, rfl, (by rw [show k = nn by omega]), ht⟩) (fun q h => absurd h List.not_mem_nil) dX1_twiceSignedArea_55
      · skip
        have nc_1 : ¬ (nn ≤ k) := fun h => c_1 ((nI_leI (a := nn) (b := k) (by omega) (by omega)).mpr h)
        have hk : k < nn := by omega
        have hnx := nxt_lt hk
        refine lv_aload_n hx hb dX1_twiceSignedArea_12 rfl (lv_at hl 0 rfl) ?_
        refine lv_iload_n hx hb dX1_twiceSignedArea_13 rfl (lv_at hl 2 rfl) ?_
        have hPc := hP.sub (ws' := [(h0, .inr (3, [.ref ax, .ref ay, .int (nI nn)]))]) [0] rfl
        refine u_callSi (W.runV (As := [.int (nI k)]) (rest := []) ⟨hx, hb, hml, hown, hts⟩ (c_X1_next l D cI cB cZ cP h0 ax ay nn k (by first | assumption | omega) (by first | assumption | omega)) (cwV 1 hts gX1_twiceSignedArea_X1_next rfl rfl rfl (by decide +kernel) ⟨Nat.le_of_ble_eq_true rfl, Nat.le_of_ble_eq_true rfl⟩) (pV (q0 := 0) hPc hW0 trivial rfl rfl) rfl rfl hl.1 rfl (lv_room (Nat.le_of_ble_eq_true rfl)) dX1_twiceSignedArea_14 ⟨Nat.le_of_ble_eq_true rfl, Nat.le_of_ble_eq_true rfl⟩) ?_
        refine lv_istore_n (lv' := [(3, .int (nI (nxt nn k))), (0, .ref h0), (1, .int (isum (twt nn X Y) k)), (2, .int (nI k))]) hx hb dX1_twiceSignedArea_17 rfl hl (by decide) rfl (fun ls hl => ?_)
        refine lv_iload_n hx hb dX1_twiceSignedArea_18 rfl (lv_at hl 2 rfl) ?_
        refine lv_aload_n hx hb dX1_twiceSignedArea_19 rfl (lv_at hl 1 rfl) ?_
        refine va_get (D := D) (ci := 3) (v := .ref ax) (C := RX1) (T := TX1) (N := 3) hx hb hts (by decide +kernel) hown hK hP 0 rfl rfl 0 (by decide) (hts (.fieldLink RX1 7 "LandDeeds$Outline" "xs" "[I") (by decide +kernel)) (fun _ h9 => h9) rfl dX1_twiceSignedArea_20 ?_
        refine lv_iload_n hx hb dX1_twiceSignedArea_23 rfl (lv_at hl 3 rfl) ?_
        refine u_iald hx hb hK hP 1 0 rfl rfl rfl ⟨by omega, by omega⟩ dX1_twiceSignedArea_24 ?_
        refine lv_aload_n hx hb dX1_twiceSignedArea_25 rfl (lv_at hl 1 rfl) ?_
        refine va_get (D := D) (ci := 3) (v := .ref ay) (C := RX1) (T := TX1) (N := 3) hx hb hts (by decide +kernel) hown hK hP 0 rfl rfl 1 (by decide) (hts (.fieldLink RX1 13 "LandDeeds$Outline" "ys" "[I") (by decide +kernel)) (fun _ h9 => h9) rfl dX1_twiceSignedArea_26 ?_
        refine lv_iload_n hx hb dX1_twiceSignedArea_29 rfl (lv_at hl 0 rfl) ?_
        refine u_iald hx hb hK hP 2 0 rfl rfl rfl ⟨by omega, by omega⟩ dX1_twiceSignedArea_30 ?_
        refine lv_imul hx hb dX1_twiceSignedArea_31 ?_
        refine lv_aload_n hx hb dX1_twiceSignedArea_32 rfl (lv_at hl 1 rfl) ?_
        refine va_get (D := D) (ci := 3) (v := .ref ax) (C := RX1) (T := TX1) (N := 3) hx hb hts (by decide +kernel) hown hK hP 0 rfl rfl 0 (by decide) (hts (.fieldLink RX1 7 "LandDeeds$Outline" "xs" "[I") (by decide +kernel)) (fun _ h9 => h9) rfl dX1_twiceSignedArea_33 ?_
        refine lv_iload_n hx hb dX1_twiceSignedArea_36 rfl (lv_at hl 0 rfl) ?_
        refine u_iald hx hb hK hP 1 0 rfl rfl rfl ⟨by omega, by omega⟩ dX1_twiceSignedArea_37 ?_
        refine lv_aload_n hx hb dX1_twiceSignedArea_38 rfl (lv_at hl 1 rfl) ?_
        refine va_get (D := D) (ci := 3) (v := .ref ay) (C := RX1) (T := TX1) (N := 3) hx hb hts (by decide +kernel) hown hK hP 0 rfl rfl 1 (by decide) (hts (.fieldLink RX1 13 "LandDeeds$Outline" "ys" "[I") (by decide +kernel)) (fun _ h9 => h9) rfl dX1_twiceSignedArea_39 ?_
        refine lv_iload_n hx hb dX1_twiceSignedArea_42 rfl (lv_at hl 3 rfl) ?_
        refine u_iald hx hb hK hP 2 0 rfl rfl rfl ⟨by omega, by omega⟩ dX1_twiceSignedArea_43 ?_
        refine lv_imul hx hb dX1_twiceSignedArea_44 ?_
        refine lv_isub hx hb dX1_twiceSignedArea_45 ?_
        refine lv_iadd hx hb dX1_twiceSignedArea_46 ?_
        refine u_eqi (show (isum (twt nn X Y) k) + (((X k) * (Y (nxt nn k))) - ((X (nxt nn k)) * (Y k))) = isum (twt nn X Y) (k + 1) from rfl) ?_
        refine lv_istore_n (lv' := [(1, .int (isum (twt nn X Y) (k + 1))), (3, .int (nI (nxt nn k))), (0, .ref h0), (2, .int (nI k))]) hx hb dX1_twiceSignedArea_47 rfl hl (by decide) rfl (fun ls hl => ?_)
        refine lv_iinc (v := nI (k + 1)) (lv' := [(2, .int (nI (k + 1))), (1, .int (isum (twt nn X Y) (k + 1))), (3, .int (nI (nxt nn k))), (0, .ref h0)]) hx hb dX1_twiceSignedArea_48 hl (k := 3) rfl (nI_1 _) (by decide) rfl (fun ls hl => ?_)
        refine lv_goto (tgt := 4) hx hb dX1_twiceSignedArea_51 (by decide) ?_
        exact ih_4 (k + 1) (by omega) (by omega) ls (lv_sub hl [3, 1, 0] rfl)
  exact LOOP_4 (nn - 0 + 1) 0 (Nat.zero_le _) (Nat.lt_succ_self _) ls (lv_sub hl [2, 1, 0] rfl)

