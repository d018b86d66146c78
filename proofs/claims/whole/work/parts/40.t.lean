set_option maxHeartbeats 4000000 in
set_option maxRecDepth 100000 in
theorem c_X4_clear (l : Launch) (D : va_G) (cI cB cZ cP : ClassId) (sz : Nat) (h0 as ae an : Nat) (ln nc pt tw nm : Int32) : Met l yX4_clear wsX4_clear ({ frames := 0, cells := 0, slots := 0, locals := 0 } : Room) (va_Pc [.ref h0] (fun U => U.heap.size = sz ∧ va_P D vwCl [(h0, .inr (6, [.ref as, .ref ae, .ref an, .int ln, .int nc, .int pt, .int tw, .int nm]))] U.heap ∧ KW D cI cB cZ cP U ∧ va_D (fun _ => True) [(h0, .inr (6, [.ref as, .ref ae, .ref an, .int ln, .int nc, .int pt, .int tw, .int nm]))] ∧ EF [(h0, .inr (6, [.ref as, .ref ae, .ref an, .int ln, .int nc, .int pt, .int tw, .int nm]))] sz E0 U.heap)) (va_Qi (fun r (_ : Unit) => r = ln) (fun (_ : Unit) (t : State) => va_P D vwCl [(h0, .inr (6, [.ref as, .ref ae, .ref an, .int 0, .int nc, .int pt, .int tw, .int nm]))] t.heap ∧ va_D (va_A [(h0, .inr (6, [.ref as, .ref ae, .ref an, .int ln, .int nc, .int pt, .int tw, .int nm]))] sz) [(h0, .inr (6, [.ref as, .ref ae, .ref an, .int 0, .int nc, .int pt, .int tw, .int nm]))]) (va_A [(h0, .inr (6, [.ref as, .ref ae, .ref an, .int ln, .int nc, .int pt, .int tw, .int nm]))] sz)) 0 0 (va_A [(h0, .inr (6, [.ref as, .ref ae, .ref an, .int ln, .int nc, .int pt, .int tw, .int nm]))] sz) := by
  refine Met.ofW (cc := cX4_clear) (maxL := 2) (ret := (some .int)) (by decide) rfl ?_
  intro p e s m args below meth c s₁ B hml hv
  obtain ⟨rfl, hsz, hP, hW0, hD0, hE⟩ := hv
  have hx := B.exec
  have hb := B.bytes
  have hr := B.returns
  have hts := atoms_spec (ws := wsX4_clear) B.pre
  have hown : s.vm.findClass RX4 = some m.cls := findClass_of_methodNamed B.named
  have hlocks := B.notSynchronized
  have hK := hW0.1
  subst hsz
  have hD := hD0.self (sz := s.heap.size)
  unfold EF at hE
  generalize hAe : va_A [(h0, .inr (6, [.ref as, .ref ae, .ref an, .int ln, .int nc, .int pt, .int tw, .int nm]))] s.heap.size = A at hD hE ⊢
  have hA : ∀ q : Nat, s.heap.size ≤ q → A q := fun q h => by rw [← hAe]; exact Or.inr h
  have hS : va_S A s.heap s.heap [] := va_S.rf
  have hl := lv_entry ([.ref h0]) (n := 2) (Nat.le_of_ble_eq_true rfl)
  rw [lg_entry_eq]
  generalize (lg_sl ([.ref h0]) ++ List.replicate (2 - (lg_sl ([.ref h0])).length) Slot.unset).toArray = ls at hl ⊢
  have hl : lv_has ls 2 [(0, .ref h0)] := hl
  show W p l e ({ frames := 0, cells := 0, slots := 0, locals := 0 } : Room) s m ([.ref h0] : List Value).toArray below meth c s.heap [] 0 0 _ (F0 m 0 ls [])
  refine u_genQ (fun Q hQ => ?_)
  refine lv_aload_n hx hb dX4_clear_0 rfl (lv_at hl 0 rfl) ?_
  refine va_get (D := D) (ci := 6) (v := .int ln) (C := RX4) (T := TX4) (N := 8) hx hb hts (by decide +kernel) hown hK hP 0 rfl rfl 3 (by decide) (hts (.fieldLink RX4 21 "LandDeeds$Text" "length" "I") (by decide +kernel)) (fun _ h9 => h9) rfl dX4_clear_1 ?_
  refine lv_istore_n (lv' := [(1, .int ln), (0, .ref h0)]) hx hb dX4_clear_4 rfl hl (by decide) rfl (fun ls hl => ?_)
  refine lv_aload_n hx hb dX4_clear_5 rfl (lv_at hl 1 rfl) ?_
  refine lv_iconst (v := 0) hx hb dX4_clear_6 (by decide) ?_
  refine va_put (D := D) (ci := 6) (v := .int 0) (ty := .int) (C := RX4) (T := TX4) (N := 8) hx hb hts (by decide +kernel) tyX4 tyX4_ok nmX4 hown hK hP hD hS 0 rfl rfl 3 (by decide) (hts (.fieldLink RX4 21 "LandDeeds$Text" "length" "I") (by decide +kernel)) (fun _ h9 => h9) rfl (by decide +kernel) rfl rfl (Nat.le_of_ble_eq_true rfl) dX4_clear_7 (fun H locs hP hD hS => ?_)
  have hP : va_P D vwCl [(h0, .inr (6, [.ref as, .ref ae, .ref an, .int 0, .int nc, .int pt, .int tw, .int nm]))] H := hP
  have hD : va_D A [(h0, .inr (6, [.ref as, .ref ae, .ref an, .int 0, .int nc, .int pt, .int tw, .int nm]))] := hD
  refine lv_iload_n hx hb dX4_clear_10 rfl (lv_at hl 0 rfl) ?_
  rw [← hQ]
  have hP9 := hP
  have hD9 := hD
  exact W.iret (v := ln) hx hb hr (fun t ht hW => ⟨⟨_, (), rfl, rfl, by rw [ht]; exact hP9, hD9⟩, hS.F ht⟩) hS.2.2 dX4_clear_11

set_option maxHeartbeats 4000000 in
set_option maxRecDepth 100000 in
theorem c_X4_append (l : Launch) (D : va_G) (cI cB cZ cP : ClassId) (sz : Nat) (h0 as ae an n0 : Nat) (nc pt tw nm x : Int32) (fs : Nat → Int32) (hn0 : n0 ≤ 48) : Met l yX4_append wsX4_append ({ frames := 0, cells := 0, slots := 0, locals := 0 } : Room) (va_Pc [.ref h0, .int x] (fun U => U.heap.size = sz ∧ va_P D vwCl [(h0, .inr (6, [.ref as, .ref ae, .ref an, .int (nI n0), .int nc, .int pt, .int tw, .int nm])), (as, .inl (cI, 48, .inl fs))] U.heap ∧ KW D cI cB cZ cP U ∧ va_D (fun _ => True) [(h0, .inr (6, [.ref as, .ref ae, .ref an, .int (nI n0), .int nc, .int pt, .int tw, .int nm])), (as, .inl (cI, 48, .inl fs))] ∧ EF [(h0, .inr (6, [.ref as, .ref ae, .ref an, .int (nI n0), .int nc, .int pt, .int tw, .int nm])), (as, .inl (cI, 48, .inl fs))] sz E0 U.heap)) (va_Qi (fun r (u : Nat × (Nat → Int32)) => match u with | (n1, f1) => (n0 < 48 ∧ r = 1 ∧ n1 = n0 + 1 ∧ f1 = upd fs n0 x) ∨ (¬ n0 < 48 ∧ r = 0 ∧ n1 = n0 ∧ f1 = fs)) (fun (u : Nat × (Nat → Int32)) (t : State) => match u with | (n1, f1) => va_P D vwCl [(h0, .inr (6, [.ref as, .ref ae, .ref an, .int (nI n1), .int nc, .int pt, .int tw, .int nm])), (as, .inl (cI, 48, .inl f1))] t.heap ∧ va_D (va_A [(h0, .inr (6, [.ref as, .ref ae, .ref an, .int (nI n0), .int nc, .int pt, .int tw, .int nm])), (as, .inl (cI, 48, .inl fs))] sz) [(h0, .inr (6, [.ref as, .ref ae, .ref an, .int (nI n1), .int nc, .int pt, .int tw, .int nm])), (as, .inl (cI, 48, .inl f1))]) (va_A [(h0, .inr (6, [.ref as, .ref ae, .ref an, .int (nI n0), .int nc, .int pt, .int tw, .int nm])), (as, .inl (cI, 48, .inl fs))] sz)) 0 0 (va_A [(h0, .inr (6, [.ref as, .ref ae, .ref an, .int (nI n0), .int nc, .int pt, .int tw, .int nm])), (as, .inl (cI, 48, .inl fs))] sz) := by
  refine Met.ofW (cc := cX4_append) (maxL := 2) (ret := (some .boolean)) (by decide) rfl ?_
  intro p e s m args below meth c s₁ B hml hv
  obtain ⟨rfl, hsz, hP, hW0, hD0, hE⟩ := hv
  have hx := B.exec
  have hb := B.bytes
  have hr := B.returns
  have hts := atoms_spec (ws := wsX4_append) B.pre
  have hown : s.vm.findClass RX4 = some m.cls := findClass_of_methodNamed B.named
  have hlocks := B.notSynchronized
  have hK := hW0.1
  subst hsz
  have hD := hD0.self (sz := s.heap.size)
  unfold EF at hE
  generalize hAe : va_A [(h0, .inr (6, [.ref as, .ref ae, .ref an, .int (nI n0), .int nc, .int pt, .int tw, .int nm])), (as, .inl (cI, 48, .inl fs))] s.heap.size = A at hD hE ⊢
  have hA : ∀ q : Nat, s.heap.size ≤ q → A q := fun q h => by rw [← hAe]; exact Or.inr h
  have hS : va_S A s.heap s.heap [] := va_S.rf
  have hl := lv_entry ([.ref h0, .int x]) (n := 2) (Nat.le_of_ble_eq_true rfl)
  rw [lg_entry_eq]
  generalize (lg_sl ([.ref h0, .int x]) ++ List.replicate (2 - (lg_sl ([.ref h0, .int x])).length) Slot.unset).toArray = ls at hl ⊢
  have hl : lv_has ls 2 [(0, .ref h0), (1, .int x)] := hl
  show W p l e ({ frames := 0, cells := 0, slots := 0, locals := 0 } : Room) s m ([.ref h0, .int x] : List Value).toArray below meth c s.heap [] 0 0 _ (F0 m 0 ls [])
  refine u_genQ (fun Q hQ => ?_)
  refine lv_aload_n hx hb dX4_append_0 rfl (lv_at hl 0 rfl) ?_
  refine va_get (D := D) (ci := 6) (v := .int (nI n0)) (C := RX4) (T := TX4) (N := 8) hx hb hts (by decide +kernel) hown hK hP 0 rfl rfl 3 (by decide) (hts (.fieldLink RX4 21 "LandDeeds$Text" "length" "I") (by decide +kernel)) (fun _ h9 => h9) rfl dX4_append_1 ?_
  refine lv_if_lt (tgt := 19) hx hb dX4_append_4 (by decide) (fun c_1 => ?_) (fun c_1 => ?_)
  · skip
    have nc_1 : n0 < 0 := (nI_ltI (a := n0) (b := 0) (by omega) (by omega)).mp c_1
    exact absurd nc_1 (by omega)
  · skip
    have nc_1 : ¬ (n0 < 0) := fun h => c_1 ((nI_ltI (a := n0) (b := 0) (by omega) (by omega)).mpr h)
    refine lv_aload_n hx hb dX4_append_7 rfl (lv_at hl 0 rfl) ?_
    refine va_get (D := D) (ci := 6) (v := .int (nI n0)) (C := RX4) (T := TX4) (N := 8) hx hb hts (by decide +kernel) hown hK hP 0 rfl rfl 3 (by decide) (hts (.fieldLink RX4 21 "LandDeeds$Text" "length" "I") (by decide +kernel)) (fun _ h9 => h9) rfl dX4_append_8 ?_
    refine lv_aload_n hx hb dX4_append_11 rfl (lv_at hl 0 rfl) ?_
    refine va_get (D := D) (ci := 6) (v := .ref as) (C := RX4) (T := TX4) (N := 8) hx hb hts (by decide +kernel) hown hK hP 0 rfl rfl 0 (by decide) (hts (.fieldLink RX4 9 "LandDeeds$Text" "signs" "[I") (by decide +kernel)) (fun _ h9 => h9) rfl dX4_append_12 ?_
    refine va_alen (v := 48) hx hb hK hP 1 0 rfl rfl rfl dX4_append_15 ?_
    refine lv_icmp_lt (tgt := 21) hx hb dX4_append_16 (by decide) (fun c_2 => ?_) (fun c_2 => ?_)
    · skip
      have nc_2 : n0 < 48 := (nI_ltI (a := n0) (b := 48) (by omega) (by omega)).mp c_2
      refine lv_aload_n hx hb dX4_append_21 rfl (lv_at hl 0 rfl) ?_
      refine va_get (D := D) (ci := 6) (v := .ref as) (C := RX4) (T := TX4) (N := 8) hx hb hts (by decide +kernel) hown hK hP 0 rfl rfl 0 (by decide) (hts (.fieldLink RX4 9 "LandDeeds$Text" "signs" "[I") (by decide +kernel)) (fun _ h9 => h9) rfl dX4_append_22 ?_
      refine lv_aload_n hx hb dX4_append_25 rfl (lv_at hl 0 rfl) ?_
      refine va_get (D := D) (ci := 6) (v := .int (nI n0)) (C := RX4) (T := TX4) (N := 8) hx hb hts (by decide +kernel) hown hK hP 0 rfl rfl 3 (by decide) (hts (.fieldLink RX4 21 "LandDeeds$Text" "length" "I") (by decide +kernel)) (fun _ h9 => h9) rfl dX4_append_26 ?_
      refine lv_iload_n hx hb dX4_append_29 rfl (lv_at hl 1 rfl) ?_
      refine u_iast hx hb hK hP hD hS 1 0 rfl rfl rfl ⟨by omega, by omega⟩ dX4_append_30 (fun H locs hP hD hS => ?_)
      have hP : va_P D vwCl [(h0, .inr (6, [.ref as, .ref ae, .ref an, .int (nI n0), .int nc, .int pt, .int tw, .int nm])), (as, .inl (cI, 48, .inl (upd fs n0 x)))] H := hP
      have hD : va_D A [(h0, .inr (6, [.ref as, .ref ae, .ref an, .int (nI n0), .int nc, .int pt, .int tw, .int nm])), (as, .inl (cI, 48, .inl (upd fs n0 x)))] := hD
      refine lv_aload_n hx hb dX4_append_31 rfl (lv_at hl 0 rfl) ?_
      refine lv_dup hx hb dX4_append_32 rfl ?_
      refine va_get (D := D) (ci := 6) (v := .int (nI n0)) (C := RX4) (T := TX4) (N := 8) hx hb hts (by decide +kernel) hown hK hP 0 rfl rfl 3 (by decide) (hts (.fieldLink RX4 21 "LandDeeds$Text" "length" "I") (by decide +kernel)) (fun _ h9 => h9) rfl dX4_append_33 ?_
      refine lv_iconst (v := 1) hx hb dX4_append_36 (by decide) ?_
      refine lv_iadd hx hb dX4_append_37 ?_
      refine u_eqi (show (nI n0) + 1 = nI (n0 + 1) from nI_1 n0) ?_
      refine va_put (D := D) (ci := 6) (v := .int (nI (n0 + 1))) (ty := .int) (C := RX4) (T := TX4) (N := 8) hx hb hts (by decide +kernel) tyX4 tyX4_ok nmX4 hown hK hP hD hS 0 rfl rfl 3 (by decide) (hts (.fieldLink RX4 21 "LandDeeds$Text" "length" "I") (by decide +kernel)) (fun _ h9 => h9) rfl (by decide +kernel) rfl rfl (Nat.le_of_ble_eq_true rfl) dX4_append_38 (fun H locs hP hD hS => ?_)
      have hP : va_P D vwCl [(h0, .inr (6, [.ref as, .ref ae, .ref an, .int (nI (n0 + 1)), .int nc, .int pt, .int tw, .int nm])), (as, .inl (cI, 48, .inl (upd fs n0 x)))] H := hP
      have hD : va_D A [(h0, .inr (6, [.ref as, .ref ae, .ref an, .int (nI (n0 + 1)), .int nc, .int pt, .int tw, .int nm])), (as, .inl (cI, 48, .inl (upd fs n0 x)))] := hD
      refine lv_iconst (v := 1) hx hb dX4_append_41 (by decide) ?_
      rw [← hQ]
      have hP9 := hP
      have hD9 := hD
      exact W.zret (v := 1) hx hb hr (by decide) (fun t ht hW => ⟨⟨_, (n0 + 1, upd fs n0 x), rfl, Or.inl ⟨by omega, rfl, rfl, rfl⟩, by rw [ht]; exact hP9, hD9⟩, hS.F ht⟩) hS.2.2 dX4_append_42
    · skip
      have nc_2 : ¬ (n0 < 48) := fun h => c_2 ((nI_ltI (a := n0) (b := 48) (by omega) (by omega)).mpr h)
      refine lv_iconst (v := 0) hx hb dX4_append_19 (by decide) ?_
      rw [← hQ]
      have hP9 := hP
      have hD9 := hD
      exact W.zret (v := 0) hx hb hr (by decide) (fun t ht hW => ⟨⟨_, (n0, fs), rfl, Or.inr ⟨by omega, rfl, rfl, rfl⟩, by rw [ht]; exact hP9, hD9⟩, hS.F ht⟩) hS.2.2 dX4_append_20

set_option maxHeartbeats 4000000 in
set_option maxRecDepth 100000 in
theorem c_X4_openLeg (l : Launch) (D : va_G) (cI cB cZ cP : ClassId) (sz : Nat) (h0 as ae an : Nat) (ln nc pt tw nm : Int32) (lgx x : Int32) : Met l yX4_openLeg wsX4_openLeg ({ frames := 0, cells := 0, slots := 0, locals := 0 } : Room) (va_Pc [.ref h0, .int lgx, .int x] (fun U => U.heap.size = sz ∧ va_P D vwCl [(h0, .inr (6, [.ref as, .ref ae, .ref an, .int ln, .int nc, .int pt, .int tw, .int nm]))] U.heap ∧ KW D cI cB cZ cP U ∧ va_D (fun _ => True) [(h0, .inr (6, [.ref as, .ref ae, .ref an, .int ln, .int nc, .int pt, .int tw, .int nm]))] ∧ EF [(h0, .inr (6, [.ref as, .ref ae, .ref an, .int ln, .int nc, .int pt, .int tw, .int nm]))] sz E0 U.heap)) (va_Qv (fun (_ : Unit) => True) (fun (_ : Unit) (t : State) => va_P D vwCl [(h0, .inr (6, [.ref as, .ref ae, .ref an, .int ln, .int nc, .int lgx, .int (dirT x), .int 0]))] t.heap ∧ va_D (va_A [(h0, .inr (6, [.ref as, .ref ae, .ref an, .int ln, .int nc, .int pt, .int tw, .int nm]))] sz) [(h0, .inr (6, [.ref as, .ref ae, .ref an, .int ln, .int nc, .int lgx, .int (dirT x), .int 0]))]) (va_A [(h0, .inr (6, [.ref as, .ref ae, .ref an, .int ln, .int nc, .int pt, .int tw, .int nm]))] sz)) 0 0 (va_A [(h0, .inr (6, [.ref as, .ref ae, .ref an, .int ln, .int nc, .int pt, .int tw, .int nm]))] sz) := by
  refine Met.ofW (cc := cX4_openLeg) (maxL := 3) (ret := none) (by decide) rfl ?_
  intro p e s m args below meth c s₁ B hml hv
  obtain ⟨rfl, hsz, hP, hW0, hD0, hE⟩ := hv
  have hx := B.exec
  have hb := B.bytes
  have hr := B.returns
  have hts := atoms_spec (ws := wsX4_openLeg) B.pre
  have hown : s.vm.findClass RX4 = some m.cls := findClass_of_methodNamed B.named
  have hlocks := B.notSynchronized
  have hK := hW0.1
  subst hsz
  have hD := hD0.self (sz := s.heap.size)
  unfold EF at hE
  generalize hAe : va_A [(h0, .inr (6, [.ref as, .ref ae, .ref an, .int ln, .int nc, .int pt, .int tw, .int nm]))] s.heap.size = A at hD hE ⊢
  have hA : ∀ q : Nat, s.heap.size ≤ q → A q := fun q h => by rw [← hAe]; exact Or.inr h
  have hS : va_S A s.heap s.heap [] := va_S.rf
  have hl := lv_entry ([.ref h0, .int lgx, .int x]) (n := 3) (Nat.le_of_ble_eq_true rfl)
  rw [lg_entry_eq]
  generalize (lg_sl ([.ref h0, .int lgx, .int x]) ++ List.replicate (3 - (lg_sl ([.ref h0, .int lgx, .int x])).length) Slot.unset).toArray = ls at hl ⊢
  have hl : lv_has ls 3 [(0, .ref h0), (1, .int lgx), (2, .int x)] := hl
  show W p l e ({ frames := 0, cells := 0, slots := 0, locals := 0 } : Room) s m ([.ref h0, .int lgx, .int x] : List Value).toArray below meth c s.heap [] 0 0 _ (F0 m 0 ls [])
  refine u_genQ (fun Q hQ => ?_)
  refine lv_aload_n hx hb dX4_openLeg_0 rfl (lv_at hl 0 rfl) ?_
  refine lv_iload_n hx hb dX4_openLeg_1 rfl (lv_at hl 1 rfl) ?_
  refine va_put (D := D) (ci := 6) (v := .int lgx) (ty := .int) (C := RX4) (T := TX4) (N := 8) hx hb hts (by decide +kernel) tyX4 tyX4_ok nmX4 hown hK hP hD hS 0 rfl rfl 5 (by decide) (hts (.fieldLink RX4 28 "LandDeeds$Text" "part" "I") (by decide +kernel)) (fun _ h9 => h9) rfl (by decide +kernel) rfl rfl (Nat.le_of_ble_eq_true rfl) dX4_openLeg_2 (fun H locs hP hD hS => ?_)
  have hP : va_P D vwCl [(h0, .inr (6, [.ref as, .ref ae, .ref an, .int ln, .int nc, .int lgx, .int tw, .int nm]))] H := hP
  have hD : va_D A [(h0, .inr (6, [.ref as, .ref ae, .ref an, .int ln, .int nc, .int lgx, .int tw, .int nm]))] := hD
  refine lv_aload_n hx hb dX4_openLeg_5 rfl (lv_at hl 0 rfl) ?_
  refine lv_iload_n hx hb dX4_openLeg_6 rfl (lv_at hl 2 rfl) ?_
  refine lv_bipush (v := 110) hx hb dX4_openLeg_7 (by decide) ?_
  refine lv_icmp_eq (tgt := 18) hx hb dX4_openLeg_9 (by decide) (fun c_1 => ?_) (fun c_1 => ?_)
  · skip
    refine lv_iconst (v := 1) hx hb dX4_openLeg_18 (by decide) ?_
    refine lv_goto (tgt := 23) hx hb dX4_openLeg_19 (by decide) ?_
    refine u_eqi (show 1 = dirT x from by unfold dirT; rw [if_pos (by simp [*])]) ?_
    refine va_put (D := D) (ci := 6) (v := .int (dirT x)) (ty := .int) (C := RX4) (T := TX4) (N := 8) hx hb hts (by decide +kernel) tyX4 tyX4_ok nmX4 hown hK hP hD hS 0 rfl rfl 6 (by decide) (hts (.fieldLink RX4 51 "LandDeeds$Text" "toward" "I") (by decide +kernel)) (fun _ h9 => h9) rfl (by decide +kernel) rfl rfl (Nat.le_of_ble_eq_true rfl) dX4_openLeg_23 (fun H locs hP hD hS => ?_)
    have hP : va_P D vwCl [(h0, .inr (6, [.ref as, .ref ae, .ref an, .int ln, .int nc, .int lgx, .int (dirT x), .int nm]))] H := hP
    have hD : va_D A [(h0, .inr (6, [.ref as, .ref ae, .ref an, .int ln, .int nc, .int lgx, .int (dirT x), .int nm]))] := hD
    refine lv_aload_n hx hb dX4_openLeg_26 rfl (lv_at hl 0 rfl) ?_
    refine lv_iconst (v := 0) hx hb dX4_openLeg_27 (by decide) ?_
    refine va_put (D := D) (ci := 6) (v := .int 0) (ty := .int) (C := RX4) (T := TX4) (N := 8) hx hb hts (by decide +kernel) tyX4 tyX4_ok nmX4 hown hK hP hD hS 0 rfl rfl 7 (by decide) (hts (.fieldLink RX4 35 "LandDeeds$Text" "number" "I") (by decide +kernel)) (fun _ h9 => h9) rfl (by decide +kernel) rfl rfl (Nat.le_of_ble_eq_true rfl) dX4_openLeg_28 (fun H locs hP hD hS => ?_)
    have hP : va_P D vwCl [(h0, .inr (6, [.ref as, .ref ae, .ref an, .int ln, .int nc, .int lgx, .int (dirT x), .int 0]))] H := hP
    have hD : va_D A [(h0, .inr (6, [.ref as, .ref ae, .ref an, .int ln, .int nc, .int lgx, .int (dirT x), .int 0]))] := hD
    rw [← hQ]
    have hP9 := hP
    have hD9 := hD
    exact W.vret hx hb hr (fun t ht hW => ⟨⟨(), rfl, trivial, by rw [ht]; exact hP9, hD9⟩, hS.F ht⟩) hS.2.2 dX4_openLeg_31
  · skip
    refine lv_iload_n hx hb dX4_openLeg_12 rfl (lv_at hl 2 rfl) ?_
    refine lv_bipush (v := 101) hx hb dX4_openLeg_13 (by decide) ?_
    refine lv_icmp_ne (tgt := 22) hx hb dX4_openLeg_15 (by decide) (fun c_2 => ?_) (fun c_2 => ?_)
    · skip
      refine lv_iconst (v := (-1)) hx hb dX4_openLeg_22 (by decide) ?_
      refine u_eqi (show (-1) = dirT x from by unfold dirT; rw [if_neg (by simp [*])]) ?_
      refine va_put (D := D) (ci := 6) (v := .int (dirT x)) (ty := .int) (C := RX4) (T := TX4) (N := 8) hx hb hts (by decide +kernel) tyX4 tyX4_ok nmX4 hown hK hP hD hS 0 rfl rfl 6 (by decide) (hts (.fieldLink RX4 51 "LandDeeds$Text" "toward" "I") (by decide +kernel)) (fun _ h9 => h9) rfl (by decide +kernel) rfl rfl (Nat.le_of_ble_eq_true rfl) dX4_openLeg_23 (fun H locs hP hD hS => ?_)
      have hP : va_P D vwCl [(h0, .inr (6, [.ref as, .ref ae, .ref an, .int ln, .int nc, .int lgx, .int (dirT x), .int nm]))] H := hP
      have hD : va_D A [(h0, .inr (6, [.ref as, .ref ae, .ref an, .int ln, .int nc, .int lgx, .int (dirT x), .int nm]))] := hD
      refine lv_aload_n hx hb dX4_openLeg_26 rfl (lv_at hl 0 rfl) ?_
      refine lv_iconst (v := 0) hx hb dX4_openLeg_27 (by decide) ?_
      refine va_put (D := D) (ci := 6) (v := .int 0) (ty := .int) (C := RX4) (T := TX4) (N := 8) hx hb hts (by decide +kernel) tyX4 tyX4_ok nmX4 hown hK hP hD hS 0 rfl rfl 7 (by decide) (hts (.fieldLink RX4 35 "LandDeeds$Text" "number" "I") (by decide +kernel)) (fun _ h9 => h9) rfl (by decide +kernel) rfl rfl (Nat.le_of_ble_eq_true rfl) dX4_openLeg_28 (fun H locs hP hD hS => ?_)
      have hP : va_P D vwCl [(h0, .inr (6, [.ref as, .ref ae, .ref an, .int ln, .int nc, .int lgx, .int (dirT x), .int 0]))] H := hP
      have hD : va_D A [(h0, .inr (6, [.ref as, .ref ae, .ref an, .int ln, .int nc, .int lgx, .int (dirT x), .int 0]))] := hD
      rw [← hQ]
      have hP9 := hP
      have hD9 := hD
      exact W.vret hx hb hr (fun t ht hW => ⟨⟨(), rfl, trivial, by rw [ht]; exact hP9, hD9⟩, hS.F ht⟩) hS.2.2 dX4_openLeg_31
    · skip
      refine lv_iconst (v := 1) hx hb dX4_openLeg_18 (by decide) ?_
      refine lv_goto (tgt := 23) hx hb dX4_openLeg_19 (by decide) ?_
      refine u_eqi (show 1 = dirT x from by unfold dirT; rw [if_pos (by simp [*])]) ?_
      refine va_put (D := D) (ci := 6) (v := .int (dirT x)) (ty := .int) (C := RX4) (T := TX4) (N := 8) hx hb hts (by decide +kernel) tyX4 tyX4_ok nmX4 hown hK hP hD hS 0 rfl rfl 6 (by decide) (hts (.fieldLink RX4 51 "LandDeeds$Text" "toward" "I") (by decide +kernel)) (fun _ h9 => h9) rfl (by decide +kernel) rfl rfl (Nat.le_of_ble_eq_true rfl) dX4_openLeg_23 (fun H locs hP hD hS => ?_)
      have hP : va_P D vwCl [(h0, .inr (6, [.ref as, .ref ae, .ref an, .int ln, .int nc, .int lgx, .int (dirT x), .int nm]))] H := hP
      have hD : va_D A [(h0, .inr (6, [.ref as, .ref ae, .ref an, .int ln, .int nc, .int lgx, .int (dirT x), .int nm]))] := hD
      refine lv_aload_n hx hb dX4_openLeg_26 rfl (lv_at hl 0 rfl) ?_
      refine lv_iconst (v := 0) hx hb dX4_openLeg_27 (by decide) ?_
      refine va_put (D := D) (ci := 6) (v := .int 0) (ty := .int) (C := RX4) (T := TX4) (N := 8) hx hb hts (by decide +kernel) tyX4 tyX4_ok nmX4 hown hK hP hD hS 0 rfl rfl 7 (by decide) (hts (.fieldLink RX4 35 "LandDeeds$Text" "number" "I") (by decide +kernel)) (fun _ h9 => h9) rfl (by decide +kernel) rfl rfl (Nat.le_of_ble_eq_true rfl) dX4_openLeg_28 (fun H locs hP hD hS => ?_)
      have hP : va_P D vwCl [(h0, .inr (6, [.ref as, .ref ae, .ref an, .int ln, .int nc, .int lgx, .int (dirT x), .int 0]))] H := hP
      have hD : va_D A [(h0, .inr (6, [.ref as, .ref ae, .ref an, .int ln, .int nc, .int lgx, .int (dirT x), .int 0]))] := hD
      rw [← hQ]
      have hP9 := hP
      have hD9 := hD
      exact W.vret hx hb hr (fun t ht hW => ⟨⟨(), rfl, trivial, by rw [ht]; exact hP9, hD9⟩, hS.F ht⟩) hS.2.2 dX4_openLeg_31

set_option maxHeartbeats 4000000 in
set_option maxRecDepth 100000 in
theorem c_X4_opensCall (l : Launch) (D : va_G) (cI cB cZ cP : ClassId) (sz : Nat) (h0 as ae an : Nat) (ln tw : Int32) (nc pt nm : Nat) (fe fn : Nat → Int32) (x : Int32) (hnc : nc ≤ 8) (hp0 : pt = 0) : Met l yX4_opensCall wsX4_opensCall ({ frames := 1, cells := 0, slots := 0, locals := 22 } : Room) (va_Pc [.ref h0, .int x] (fun U => U.heap.size = sz ∧ va_P D vwCl [(h0, .inr (6, [.ref as, .ref ae, .ref an, .int ln, .int (nI nc), .int (nI pt), .int tw, .int (nI nm)])), (ae, .inl (cI, 8, .inl fe)), (an, .inl (cI, 8, .inl fn))] U.heap ∧ KW D cI cB cZ cP U ∧ va_D (fun _ => True) [(h0, .inr (6, [.ref as, .ref ae, .ref an, .int ln, .int (nI nc), .int (nI pt), .int tw, .int (nI nm)])), (ae, .inl (cI, 8, .inl fe)), (an, .inl (cI, 8, .inl fn))] ∧ EF [(h0, .inr (6, [.ref as, .ref ae, .ref an, .int ln, .int (nI nc), .int (nI pt), .int tw, .int (nI nm)])), (ae, .inl (cI, 8, .inl fe)), (an, .inl (cI, 8, .inl fn))] sz E0 U.heap)) (va_Qi (fun r (u : Nat × Nat × Nat × Int32 × (Nat → Int32) × (Nat → Int32)) => match u with | (nc1, pt1, nm1, tw1, fe1, fn1) => (r = 1 ∧ stepT x (nc, pt, nm, tw, fe, fn) = some (nc1, pt1, nm1, tw1, fe1, fn1)) ∨ (r = 0 ∧ stepT x (nc, pt, nm, tw, fe, fn) = none ∧ (nc1, pt1, nm1, tw1, fe1, fn1) = ((nc, pt, nm, tw, fe, fn) : TS))) (fun (u : Nat × Nat × Nat × Int32 × (Nat → Int32) × (Nat → Int32)) (t : State) => match u with | (nc1, pt1, nm1, tw1, fe1, fn1) => va_P D vwCl [(h0, .inr (6, [.ref as, .ref ae, .ref an, .int ln, .int (nI nc1), .int (nI pt1), .int tw1, .int (nI nm1)])), (ae, .inl (cI, 8, .inl fe1)), (an, .inl (cI, 8, .inl fn1))] t.heap ∧ va_D (va_A [(h0, .inr (6, [.ref as, .ref ae, .ref an, .int ln, .int (nI nc), .int (nI pt), .int tw, .int (nI nm)])), (ae, .inl (cI, 8, .inl fe)), (an, .inl (cI, 8, .inl fn))] sz) [(h0, .inr (6, [.ref as, .ref ae, .ref an, .int ln, .int (nI nc1), .int (nI pt1), .int tw1, .int (nI nm1)])), (ae, .inl (cI, 8, .inl fe1)), (an, .inl (cI, 8, .inl fn1))]) (va_A [(h0, .inr (6, [.ref as, .ref ae, .ref an, .int ln, .int (nI nc), .int (nI pt), .int tw, .int (nI nm)])), (ae, .inl (cI, 8, .inl fe)), (an, .inl (cI, 8, .inl fn))] sz)) 0 0 (va_A [(h0, .inr (6, [.ref as, .ref ae, .ref an, .int ln, .int (nI nc), .int (nI pt), .int tw, .int (nI nm)])), (ae, .inl (cI, 8, .inl fe)), (an, .inl (cI, 8, .inl fn))] sz) := by
  refine Met.ofW (cc := cX4_opensCall) (maxL := 3) (ret := (some .boolean)) (by decide) rfl ?_
  intro p e s m args below meth c s₁ B hml hv
  obtain ⟨rfl, hsz, hP, hW0, hD0, hE⟩ := hv
  have hx := B.exec
  have hb := B.bytes
  have hr := B.returns
  have hts := atoms_spec (ws := wsX4_opensCall) B.pre
  have hown : s.vm.findClass RX4 = some m.cls := findClass_of_methodNamed B.named
  have hlocks := B.notSynchronized
  have hK := hW0.1
  subst hsz
  have hD := hD0.self (sz := s.heap.size)
  unfold EF at hE
  generalize hAe : va_A [(h0, .inr (6, [.ref as, .ref ae, .ref an, .int ln, .int (nI nc), .int (nI pt), .int tw, .int (nI nm)])), (ae, .inl (cI, 8, .inl fe)), (an, .inl (cI, 8, .inl fn))] s.heap.size = A at hD hE ⊢
  have hA : ∀ q : Nat, s.heap.size ≤ q → A q := fun q h => by rw [← hAe]; exact Or.inr h
  have hS : va_S A s.heap s.heap [] := va_S.rf
  have hl := lv_entry ([.ref h0, .int x]) (n := 3) (Nat.le_of_ble_eq_true rfl)
  rw [lg_entry_eq]
  generalize (lg_sl ([.ref h0, .int x]) ++ List.replicate (3 - (lg_sl ([.ref h0, .int x])).length) Slot.unset).toArray = ls at hl ⊢
  have hl : lv_has ls 3 [(0, .ref h0), (1, .int x)] := hl
  show W p l e ({ frames := 1, cells := 0, slots := 0, locals := 22 } : Room) s m ([.ref h0, .int x] : List Value).toArray below meth c s.heap [] 0 0 _ (F0 m 0 ls [])
  refine u_genQ (fun Q hQ => ?_)
  refine lv_iload_n hx hb dX4_opensCall_0 rfl (lv_at hl 1 rfl) ?_
  refine lv_bipush (v := 110) hx hb dX4_opensCall_1 (by decide) ?_
  refine lv_icmp_eq (tgt := 12) hx hb dX4_opensCall_3 (by decide) (fun c_1 => ?_) (fun c_1 => ?_)
  · skip
    refine lv_iconst (v := 1) hx hb dX4_opensCall_12 (by decide) ?_
    refine lv_goto (tgt := 17) hx hb dX4_opensCall_13 (by decide) ?_
    refine lv_istore_n (lv' := [(2, .int 1), (0, .ref h0), (1, .int x)]) hx hb dX4_opensCall_17 rfl hl (by decide) rfl (fun ls hl => ?_)
    refine lv_iload_n hx hb dX4_opensCall_18 rfl (lv_at hl 0 rfl) ?_
    refine lv_if_ne (tgt := 29) hx hb dX4_opensCall_19 (by decide) (fun c_2 => ?_) (fun c_2 => ?_)
    · skip
      refine lv_aload_n hx hb dX4_opensCall_29 rfl (lv_at hl 1 rfl) ?_
      refine va_get (D := D) (ci := 6) (v := .int (nI nc)) (C := RX4) (T := TX4) (N := 8) hx hb hts (by decide +kernel) hown hK hP 0 rfl rfl 4 (by decide) (hts (.fieldLink RX4 25 "LandDeeds$Text" "calls" "I") (by decide +kernel)) (fun _ h9 => h9) rfl dX4_opensCall_30 ?_
      refine lv_if_lt (tgt := 45) hx hb dX4_opensCall_33 (by decide) (fun c_3 => ?_) (fun c_3 => ?_)
      · skip
        have nc_3 : nc < 0 := (nI_ltI (a := nc) (b := 0) (by omega) (by omega)).mp c_3
        exact absurd nc_3 (by omega)
      · skip
        have nc_3 : ¬ (nc < 0) := fun h => c_3 ((nI_ltI (a := nc) (b := 0) (by omega) (by omega)).mpr h)
        refine lv_aload_n hx hb dX4_opensCall_36 rfl (lv_at hl 1 rfl) ?_
        refine va_get (D := D) (ci := 6) (v := .int (nI nc)) (C := RX4) (T := TX4) (N := 8) hx hb hts (by decide +kernel) hown hK hP 0 rfl rfl 4 (by decide) (hts (.fieldLink RX4 25 "LandDeeds$Text" "calls" "I") (by decide +kernel)) (fun _ h9 => h9) rfl dX4_opensCall_37 ?_
        refine lv_bipush (v := 8) hx hb dX4_opensCall_40 (by decide) ?_
        refine lv_icmp_lt (tgt := 47) hx hb dX4_opensCall_42 (by decide) (fun c_4 => ?_) (fun c_4 => ?_)
        · skip
          have nc_4 : nc < 8 := (nI_ltI (a := nc) (b := 8) (by omega) (by omega)).mp c_4
          refine lv_aload_n hx hb dX4_opensCall_47 rfl (lv_at hl 1 rfl) ?_
          refine va_get (D := D) (ci := 6) (v := .ref an) (C := RX4) (T := TX4) (N := 8) hx hb hts (by decide +kernel) hown hK hP 0 rfl rfl 2 (by decide) (hts (.fieldLink RX4 18 "LandDeeds$Text" "north" "[I") (by decide +kernel)) (fun _ h9 => h9) rfl dX4_opensCall_48 ?_
          refine lv_aload_n hx hb dX4_opensCall_51 rfl (lv_at hl 1 rfl) ?_
          refine va_get (D := D) (ci := 6) (v := .int (nI nc)) (C := RX4) (T := TX4) (N := 8) hx hb hts (by decide +kernel) hown hK hP 0 rfl rfl 4 (by decide) (hts (.fieldLink RX4 25 "LandDeeds$Text" "calls" "I") (by decide +kernel)) (fun _ h9 => h9) rfl dX4_opensCall_52 ?_
          refine lv_iconst (v := 0) hx hb dX4_opensCall_55 (by decide) ?_
          refine u_iast hx hb hK hP hD hS 2 0 rfl rfl rfl ⟨by omega, by omega⟩ dX4_opensCall_56 (fun H locs hP hD hS => ?_)
          have hP : va_P D vwCl [(h0, .inr (6, [.ref as, .ref ae, .ref an, .int ln, .int (nI nc), .int (nI pt), .int tw, .int (nI nm)])), (ae, .inl (cI, 8, .inl fe)), (an, .inl (cI, 8, .inl (upd fn nc 0)))] H := hP
          have hD : va_D A [(h0, .inr (6, [.ref as, .ref ae, .ref an, .int ln, .int (nI nc), .int (nI pt), .int tw, .int (nI nm)])), (ae, .inl (cI, 8, .inl fe)), (an, .inl (cI, 8, .inl (upd fn nc 0)))] := hD
          refine lv_aload_n hx hb dX4_opensCall_57 rfl (lv_at hl 1 rfl) ?_
          refine va_get (D := D) (ci := 6) (v := .ref ae) (C := RX4) (T := TX4) (N := 8) hx hb hts (by decide +kernel) hown hK hP 0 rfl rfl 1 (by decide) (hts (.fieldLink RX4 15 "LandDeeds$Text" "east" "[I") (by decide +kernel)) (fun _ h9 => h9) rfl dX4_opensCall_58 ?_
          refine lv_aload_n hx hb dX4_opensCall_61 rfl (lv_at hl 1 rfl) ?_
          refine va_get (D := D) (ci := 6) (v := .int (nI nc)) (C := RX4) (T := TX4) (N := 8) hx hb hts (by decide +kernel) hown hK hP 0 rfl rfl 4 (by decide) (hts (.fieldLink RX4 25 "LandDeeds$Text" "calls" "I") (by decide +kernel)) (fun _ h9 => h9) rfl dX4_opensCall_62 ?_
          refine lv_iconst (v := 0) hx hb dX4_opensCall_65 (by decide) ?_
          refine u_iast hx hb hK hP hD hS 1 0 rfl rfl rfl ⟨by omega, by omega⟩ dX4_opensCall_66 (fun H locs hP hD hS => ?_)
          have hP : va_P D vwCl [(h0, .inr (6, [.ref as, .ref ae, .ref an, .int ln, .int (nI nc), .int (nI pt), .int tw, .int (nI nm)])), (ae, .inl (cI, 8, .inl (upd fe nc 0))), (an, .inl (cI, 8, .inl (upd fn nc 0)))] H := hP
          have hD : va_D A [(h0, .inr (6, [.ref as, .ref ae, .ref an, .int ln, .int (nI nc), .int (nI pt), .int tw, .int (nI nm)])), (ae, .inl (cI, 8, .inl (upd fe nc 0))), (an, .inl (cI, 8, .inl (upd fn nc 0)))] := hD
          refine lv_aload_n hx hb dX4_opensCall_67 rfl (lv_at hl 1 rfl) ?_
          refine lv_dup hx hb dX4_opensCall_68 rfl ?_
          refine va_get (D := D) (ci := 6) (v := .int (nI nc)) (C := RX4) (T := TX4) (N := 8) hx hb hts (by decide +kernel) hown hK hP 0 rfl rfl 4 (by decide) (hts (.fieldLink RX4 25 "LandDeeds$Text" "calls" "I") (by decide +kernel)) (fun _ h9 => h9) rfl dX4_opensCall_69 ?_
          refine lv_iconst (v := 1) hx hb dX4_opensCall_72 (by decide) ?_
          refine lv_iadd hx hb dX4_opensCall_73 ?_
          refine u_eqi (show (nI nc) + 1 = nI (nc + 1) from nI_1 nc) ?_
          refine va_put (D := D) (ci := 6) (v := .int (nI (nc + 1))) (ty := .int) (C := RX4) (T := TX4) (N := 8) hx hb hts (by decide +kernel) tyX4 tyX4_ok nmX4 hown hK hP hD hS 0 rfl rfl 4 (by decide) (hts (.fieldLink RX4 25 "LandDeeds$Text" "calls" "I") (by decide +kernel)) (fun _ h9 => h9) rfl (by decide +kernel) rfl rfl (Nat.le_of_ble_eq_true rfl) dX4_opensCall_74 (fun H locs hP hD hS => ?_)
          have hP : va_P D vwCl [(h0, .inr (6, [.ref as, .ref ae, .ref an, .int ln, .int (nI (nc + 1)), .int (nI pt), .int tw, .int (nI nm)])), (ae, .inl (cI, 8, .inl (upd fe nc 0))), (an, .inl (cI, 8, .inl (upd fn nc 0)))] H := hP
          have hD : va_D A [(h0, .inr (6, [.ref as, .ref ae, .ref an, .int ln, .int (nI (nc + 1)), .int (nI pt), .int tw, .int (nI nm)])), (ae, .inl (cI, 8, .inl (upd fe nc 0))), (an, .inl (cI, 8, .inl (upd fn nc 0)))] := hD
          refine lv_aload_n hx hb dX4_opensCall_77 rfl (lv_at hl 1 rfl) ?_
          refine lv_iload_n hx hb dX4_opensCall_78 rfl (lv_at hl 0 rfl) ?_
          refine lv_if_eq (tgt := 86) hx hb dX4_opensCall_79 (by decide) (fun c_5 => ?_) (fun c_5 => ?_)
          · skip
            exact absurd c_5 (by decide)
          · skip
            refine lv_iconst (v := 1) hx hb dX4_opensCall_82 (by decide) ?_
            refine lv_goto (tgt := 87) hx hb dX4_opensCall_83 (by decide) ?_
            refine lv_iload_n hx hb dX4_opensCall_87 rfl (lv_at hl 2 rfl) ?_
            have hPc := hP.sub (ws' := [(h0, .inr (6, [.ref as, .ref ae, .ref an, .int ln, .int ((nI (nc + 1))), .int ((nI pt)), .int tw, .int ((nI nm))]))]) [0] rfl
            have hDc := hD.sub (ws' := [(h0, .inr (6, [.ref as, .ref ae, .ref an, .int ln, .int ((nI (nc + 1))), .int ((nI pt)), .int tw, .int ((nI nm))]))]) [0] (by decide) rfl
            have hFc := va_free (wc := [(h0, .inr (6, [.ref as, .ref ae, .ref an, .int ln, .int ((nI (nc + 1))), .int ((nI pt)), .int tw, .int ((nI nm))]))]) hD hS hA [0] rfl
            refine va_callv (va_runV (As := [.int 1, .int x]) (rest := []) ⟨hx, hb, hml, hown, hts⟩ (c_X4_openLeg l D cI cB cZ cP H.size h0 as ae an ln (nI (nc + 1)) (nI pt) tw (nI nm) 1 x ) (cwV 2 hts gX4_opensCall_X4_openLeg rfl rfl rfl (by decide +kernel) ⟨Nat.le_of_ble_eq_true rfl, Nat.le_of_ble_eq_true rfl⟩) (pVQ (q0 := 0) hPc hDc hW0 EF.t rfl rfl) rfl rfl hl.1 rfl (lv_room (Nat.le_of_ble_eq_true rfl)) dX4_opensCall_88 ⟨Nat.le_of_ble_eq_true rfl, Nat.le_of_ble_eq_true rfl⟩) hS (fun q _ h => hFc q h) hFc (fun u t H1 locs ht hvm hw hB hz1 hk1 hS => ?_)
            obtain ⟨hP1, hD1⟩ := hB
            rw [ht] at hP1
            have hw_6 : True := hw
            obtain ⟨hP, hD⟩ := va_join (wr := [(ae, .inl (cI, 8, .inl (upd fe nc 0))), (an, .inl (cI, 8, .inl (upd fn nc 0)))]) (w1 := [(h0, .inr (6, [.ref as, .ref ae, .ref an, .int ln, .int ((nI (nc + 1))), .int 1, .int (dirT x), .int 0]))]) hP hD [0] [1, 2] rfl rfl (by decide) (by decide) hk1 hFc hP1 hD1
            generalize H1 = H at hP hS ⊢
            have hP := hP.sub (ws' := [(h0, .inr (6, [.ref as, .ref ae, .ref an, .int ln, .int ((nI (nc + 1))), .int 1, .int (dirT x), .int 0])), (ae, .inl (cI, 8, .inl (upd fe nc 0))), (an, .inl (cI, 8, .inl (upd fn nc 0)))]) [2, 0, 1] rfl
            have hD := hD.sub (ws' := [(h0, .inr (6, [.ref as, .ref ae, .ref an, .int ln, .int ((nI (nc + 1))), .int 1, .int (dirT x), .int 0])), (ae, .inl (cI, 8, .inl (upd fe nc 0))), (an, .inl (cI, 8, .inl (upd fn nc 0)))]) [2, 0, 1] (by decide) rfl
            refine lv_iconst (v := 1) hx hb dX4_opensCall_91 (by decide) ?_
            rw [← hQ]
            have hP9 := hP
            have hD9 := hD
            exact W.zret (v := 1) hx hb hr (by decide) (fun t ht hW => ⟨⟨_, (nc + 1, 1, 0, dirT x, upd fe nc 0, upd fn nc 0), rfl, Or.inl ⟨rfl, stepT_ocn hp0 (by omega) (by first | assumption | simp [*])⟩, by rw [ht]; exact hP9, hD9⟩, hS.F ht⟩) hS.2.2 dX4_opensCall_92
        · skip
          have nc_4 : ¬ (nc < 8) := fun h => c_4 ((nI_ltI (a := nc) (b := 8) (by omega) (by omega)).mpr h)
          refine lv_iconst (v := 0) hx hb dX4_opensCall_45 (by decide) ?_
          rw [← hQ]
          have hP9 := hP
          have hD9 := hD
          exact W.zret (v := 0) hx hb hr (by decide) (fun t ht hW => ⟨⟨_, (nc, pt, nm, tw, fe, fn), rfl, Or.inr ⟨rfl, stepT_oc0 hp0 (fun q => by first | omega | (rcases q.1 with q | q | q | q <;> simp_all)), rfl⟩, by rw [ht]; exact hP9, hD9⟩, hS.F ht⟩) hS.2.2 dX4_opensCall_46
    · skip
      exact absurd c_2 (by decide)
  · skip
    refine lv_iload_n hx hb dX4_opensCall_6 rfl (lv_at hl 1 rfl) ?_
    refine lv_bipush (v := 115) hx hb dX4_opensCall_7 (by decide) ?_
    refine lv_icmp_ne (tgt := 16) hx hb dX4_opensCall_9 (by decide) (fun c_7 => ?_) (fun c_7 => ?_)
    · skip
      refine lv_iconst (v := 0) hx hb dX4_opensCall_16 (by decide) ?_
      refine lv_istore_n (lv' := [(2, .int 0), (0, .ref h0), (1, .int x)]) hx hb dX4_opensCall_17 rfl hl (by decide) rfl (fun ls hl => ?_)
      refine lv_iload_n hx hb dX4_opensCall_18 rfl (lv_at hl 0 rfl) ?_
      refine lv_if_ne (tgt := 29) hx hb dX4_opensCall_19 (by decide) (fun c_8 => ?_) (fun c_8 => ?_)
      · skip
        exact absurd rfl c_8
      · skip
        refine lv_iload_n hx hb dX4_opensCall_22 rfl (lv_at hl 2 rfl) ?_
        have hPc := hP.sub (ws' := []) [] rfl
        refine u_callSi (W.runS (As := [.int x]) (rest := []) ⟨hx, hb, hml, hown, hts⟩ (c_X4_isEastOrWest l D cI cB cZ cP x ) (cwS 1 hts gX4_opensCall_X4_isEastOrWest rfl rfl rfl (by decide +kernel) ⟨Nat.le_of_ble_eq_true rfl, Nat.le_of_ble_eq_true rfl⟩) (pS hPc hW0 trivial) rfl rfl hl.1 rfl (lv_room (Nat.le_of_ble_eq_true rfl)) dX4_opensCall_23 ⟨Nat.le_of_ble_eq_true rfl, Nat.le_of_ble_eq_true rfl⟩) ?_
        refine lv_if_eq (tgt := 45) hx hb dX4_opensCall_26 (by decide) (fun c_9 => ?_) (fun c_9 => ?_)
        · skip
          have nc_9 := zb_eq0.mp c_9
          refine lv_iconst (v := 0) hx hb dX4_opensCall_45 (by decide) ?_
          rw [← hQ]
          have hP9 := hP
          have hD9 := hD
          exact W.zret (v := 0) hx hb hr (by decide) (fun t ht hW => ⟨⟨_, (nc, pt, nm, tw, fe, fn), rfl, Or.inr ⟨rfl, stepT_oc0 hp0 (fun q => by first | omega | (rcases q.1 with q | q | q | q <;> simp_all)), rfl⟩, by rw [ht]; exact hP9, hD9⟩, hS.F ht⟩) hS.2.2 dX4_opensCall_46
        · skip
          have nc_9 := zb_ne0.mp c_9
          refine lv_aload_n hx hb dX4_opensCall_29 rfl (lv_at hl 1 rfl) ?_
          refine va_get (D := D) (ci := 6) (v := .int (nI nc)) (C := RX4) (T := TX4) (N := 8) hx hb hts (by decide +kernel) hown hK hP 0 rfl rfl 4 (by decide) (hts (.fieldLink RX4 25 "LandDeeds$Text" "calls" "I") (by decide +kernel)) (fun _ h9 => h9) rfl dX4_opensCall_30 ?_
          refine lv_if_lt (tgt := 45) hx hb dX4_opensCall_33 (by decide) (fun c_10 => ?_) (fun c_10 => ?_)
          · skip
            have nc_10 : nc < 0 := (nI_ltI (a := nc) (b := 0) (by omega) (by omega)).mp c_10
            exact absurd nc_10 (by omega)
          · skip
            have nc_10 : ¬ (nc < 0) := fun h => c_10 ((nI_ltI (a := nc) (b := 0) (by omega) (by omega)).mpr h)
            refine lv_aload_n hx hb dX4_opensCall_36 rfl (lv_at hl 1 rfl) ?_
            refine va_get (D := D) (ci := 6) (v := .int (nI nc)) (C := RX4) (T := TX4) (N := 8) hx hb hts (by decide +kernel) hown hK hP 0 rfl rfl 4 (by decide) (hts (.fieldLink RX4 25 "LandDeeds$Text" "calls" "I") (by decide +kernel)) (fun _ h9 => h9) rfl dX4_opensCall_37 ?_
            refine lv_bipush (v := 8) hx hb dX4_opensCall_40 (by decide) ?_
            refine lv_icmp_lt (tgt := 47) hx hb dX4_opensCall_42 (by decide) (fun c_11 => ?_) (fun c_11 => ?_)
            · skip
              have nc_11 : nc < 8 := (nI_ltI (a := nc) (b := 8) (by omega) (by omega)).mp c_11
              refine lv_aload_n hx hb dX4_opensCall_47 rfl (lv_at hl 1 rfl) ?_
              refine va_get (D := D) (ci := 6) (v := .ref an) (C := RX4) (T := TX4) (N := 8) hx hb hts (by decide +kernel) hown hK hP 0 rfl rfl 2 (by decide) (hts (.fieldLink RX4 18 "LandDeeds$Text" "north" "[I") (by decide +kernel)) (fun _ h9 => h9) rfl dX4_opensCall_48 ?_
              refine lv_aload_n hx hb dX4_opensCall_51 rfl (lv_at hl 1 rfl) ?_
              refine va_get (D := D) (ci := 6) (v := .int (nI nc)) (C := RX4) (T := TX4) (N := 8) hx hb hts (by decide +kernel) hown hK hP 0 rfl rfl 4 (by decide) (hts (.fieldLink RX4 25 "LandDeeds$Text" "calls" "I") (by decide +kernel)) (fun _ h9 => h9) rfl dX4_opensCall_52 ?_
              refine lv_iconst (v := 0) hx hb dX4_opensCall_55 (by decide) ?_
              refine u_iast hx hb hK hP hD hS 2 0 rfl rfl rfl ⟨by omega, by omega⟩ dX4_opensCall_56 (fun H locs hP hD hS => ?_)
              have hP : va_P D vwCl [(h0, .inr (6, [.ref as, .ref ae, .ref an, .int ln, .int (nI nc), .int (nI pt), .int tw, .int (nI nm)])), (ae, .inl (cI, 8, .inl fe)), (an, .inl (cI, 8, .inl (upd fn nc 0)))] H := hP
              have hD : va_D A [(h0, .inr (6, [.ref as, .ref ae, .ref an, .int ln, .int (nI nc), .int (nI pt), .int tw, .int (nI nm)])), (ae, .inl (cI, 8, .inl fe)), (an, .inl (cI, 8, .inl (upd fn nc 0)))] := hD
              refine lv_aload_n hx hb dX4_opensCall_57 rfl (lv_at hl 1 rfl) ?_
              refine va_get (D := D) (ci := 6) (v := .ref ae) (C := RX4) (T := TX4) (N := 8) hx hb hts (by decide +kernel) hown hK hP 0 rfl rfl 1 (by decide) (hts (.fieldLink RX4 15 "LandDeeds$Text" "east" "[I") (by decide +kernel)) (fun _ h9 => h9) rfl dX4_opensCall_58 ?_
              refine lv_aload_n hx hb dX4_opensCall_61 rfl (lv_at hl 1 rfl) ?_
              refine va_get (D := D) (ci := 6) (v := .int (nI nc)) (C := RX4) (T := TX4) (N := 8) hx hb hts (by decide +kernel) hown hK hP 0 rfl rfl 4 (by decide) (hts (.fieldLink RX4 25 "LandDeeds$Text" "calls" "I") (by decide +kernel)) (fun _ h9 => h9) rfl dX4_opensCall_62 ?_
              refine lv_iconst (v := 0) hx hb dX4_opensCall_65 (by decide) ?_
              refine u_iast hx hb hK hP hD hS 1 0 rfl rfl rfl ⟨by omega, by omega⟩ dX4_opensCall_66 (fun H locs hP hD hS => ?_)
              have hP : va_P D vwCl [(h0, .inr (6, [.ref as, .ref ae, .ref an, .int ln, .int (nI nc), .int (nI pt), .int tw, .int (nI nm)])), (ae, .inl (cI, 8, .inl (upd fe nc 0))), (an, .inl (cI, 8, .inl (upd fn nc 0)))] H := hP
              have hD : va_D A [(h0, .inr (6, [.ref as, .ref ae, .ref an, .int ln, .int (nI nc), .int (nI pt), .int tw, .int (nI nm)])), (ae, .inl (cI, 8, .inl (upd fe nc 0))), (an, .inl (cI, 8, .inl (upd fn nc 0)))] := hD
              refine lv_aload_n hx hb dX4_opensCall_67 rfl (lv_at hl 1 rfl) ?_
              refine lv_dup hx hb dX4_opensCall_68 rfl ?_
              refine va_get (D := D) (ci := 6) (v := .int (nI nc)) (C := RX4) (T := TX4) (N := 8) hx hb hts (by decide +kernel) hown hK hP 0 rfl rfl 4 (by decide) (hts (.fieldLink RX4 25 "LandDeeds$Text" "calls" "I") (by decide +kernel)) (fun _ h9 => h9) rfl dX4_opensCall_69 ?_
              refine lv_iconst (v := 1) hx hb dX4_opensCall_72 (by decide) ?_
              refine lv_iadd hx hb dX4_opensCall_73 ?_
              refine u_eqi (show (nI nc) + 1 = nI (nc + 1) from nI_1 nc) ?_
              refine va_put (D := D) (ci := 6) (v := .int (nI (nc + 1))) (ty := .int) (C := RX4) (T := TX4) (N := 8) hx hb hts (by decide +kernel) tyX4 tyX4_ok nmX4 hown hK hP hD hS 0 rfl rfl 4 (by decide) (hts (.fieldLink RX4 25 "LandDeeds$Text" "calls" "I") (by decide +kernel)) (fun _ h9 => h9) rfl (by decide +kernel) rfl rfl (Nat.le_of_ble_eq_true rfl) dX4_opensCall_74 (fun H locs hP hD hS => ?_)
              have hP : va_P D vwCl [(h0, .inr (6, [.ref as, .ref ae, .ref an, .int ln, .int (nI (nc + 1)), .int (nI pt), .int tw, .int (nI nm)])), (ae, .inl (cI, 8, .inl (upd fe nc 0))), (an, .inl (cI, 8, .inl (upd fn nc 0)))] H := hP
              have hD : va_D A [(h0, .inr (6, [.ref as, .ref ae, .ref an, .int ln, .int (nI (nc + 1)), .int (nI pt), .int tw, .int (nI nm)])), (ae, .inl (cI, 8, .inl (upd fe nc 0))), (an, .inl (cI, 8, .inl (upd fn nc 0)))] := hD
              refine lv_aload_n hx hb dX4_opensCall_77 rfl (lv_at hl 1 rfl) ?_
              refine lv_iload_n hx hb dX4_opensCall_78 rfl (lv_at hl 0 rfl) ?_
              refine lv_if_eq (tgt := 86) hx hb dX4_opensCall_79 (by decide) (fun c_12 => ?_) (fun c_12 => ?_)
              · skip
                refine lv_iconst (v := 2) hx hb dX4_opensCall_86 (by decide) ?_
                refine lv_iload_n hx hb dX4_opensCall_87 rfl (lv_at hl 2 rfl) ?_
                have hPc := hP.sub (ws' := [(h0, .inr (6, [.ref as, .ref ae, .ref an, .int ln, .int ((nI (nc + 1))), .int ((nI pt)), .int tw, .int ((nI nm))]))]) [0] rfl
                have hDc := hD.sub (ws' := [(h0, .inr (6, [.ref as, .ref ae, .ref an, .int ln, .int ((nI (nc + 1))), .int ((nI pt)), .int tw, .int ((nI nm))]))]) [0] (by decide) rfl
                have hFc := va_free (wc := [(h0, .inr (6, [.ref as, .ref ae, .ref an, .int ln, .int ((nI (nc + 1))), .int ((nI pt)), .int tw, .int ((nI nm))]))]) hD hS hA [0] rfl
                refine va_callv (va_runV (As := [.int 2, .int x]) (rest := []) ⟨hx, hb, hml, hown, hts⟩ (c_X4_openLeg l D cI cB cZ cP H.size h0 as ae an ln (nI (nc + 1)) (nI pt) tw (nI nm) 2 x ) (cwV 2 hts gX4_opensCall_X4_openLeg rfl rfl rfl (by decide +kernel) ⟨Nat.le_of_ble_eq_true rfl, Nat.le_of_ble_eq_true rfl⟩) (pVQ (q0 := 0) hPc hDc hW0 EF.t rfl rfl) rfl rfl hl.1 rfl (lv_room (Nat.le_of_ble_eq_true rfl)) dX4_opensCall_88 ⟨Nat.le_of_ble_eq_true rfl, Nat.le_of_ble_eq_true rfl⟩) hS (fun q _ h => hFc q h) hFc (fun u t H1 locs ht hvm hw hB hz1 hk1 hS => ?_)
                obtain ⟨hP1, hD1⟩ := hB
                rw [ht] at hP1
                have hw_13 : True := hw
                obtain ⟨hP, hD⟩ := va_join (wr := [(ae, .inl (cI, 8, .inl (upd fe nc 0))), (an, .inl (cI, 8, .inl (upd fn nc 0)))]) (w1 := [(h0, .inr (6, [.ref as, .ref ae, .ref an, .int ln, .int ((nI (nc + 1))), .int 2, .int (dirT x), .int 0]))]) hP hD [0] [1, 2] rfl rfl (by decide) (by decide) hk1 hFc hP1 hD1
                generalize H1 = H at hP hS ⊢
                have hP := hP.sub (ws' := [(h0, .inr (6, [.ref as, .ref ae, .ref an, .int ln, .int ((nI (nc + 1))), .int 2, .int (dirT x), .int 0])), (ae, .inl (cI, 8, .inl (upd fe nc 0))), (an, .inl (cI, 8, .inl (upd fn nc 0)))]) [2, 0, 1] rfl
                have hD := hD.sub (ws' := [(h0, .inr (6, [.ref as, .ref ae, .ref an, .int ln, .int ((nI (nc + 1))), .int 2, .int (dirT x), .int 0])), (ae, .inl (cI, 8, .inl (upd fe nc 0))), (an, .inl (cI, 8, .inl (upd fn nc 0)))]) [2, 0, 1] (by decide) rfl
                refine lv_iconst (v := 1) hx hb dX4_opensCall_91 (by decide) ?_
                rw [← hQ]
                have hP9 := hP
                have hD9 := hD
                exact W.zret (v := 1) hx hb hr (by decide) (fun t ht hW => ⟨⟨_, (nc + 1, 2, 0, dirT x, upd fe nc 0, upd fn nc 0), rfl, Or.inl ⟨rfl, stepT_oce hp0 (by omega) (by first | assumption | simp [*]) (by simp [*])⟩, by rw [ht]; exact hP9, hD9⟩, hS.F ht⟩) hS.2.2 dX4_opensCall_92
              · skip
                exact absurd rfl c_12
            · skip
              have nc_11 : ¬ (nc < 8) := fun h => c_11 ((nI_ltI (a := nc) (b := 8) (by omega) (by omega)).mpr h)
              refine lv_iconst (v := 0) hx hb dX4_opensCall_45 (by decide) ?_
              rw [← hQ]
              have hP9 := hP
              have hD9 := hD
              exact W.zret (v := 0) hx hb hr (by decide) (fun t ht hW => ⟨⟨_, (nc, pt, nm, tw, fe, fn), rfl, Or.inr ⟨rfl, stepT_oc0 hp0 (fun q => by first | omega | (rcases q.1 with q | q | q | q <;> simp_all)), rfl⟩, by rw [ht]; exact hP9, hD9⟩, hS.F ht⟩) hS.2.2 dX4_opensCall_46
    · skip
      refine lv_iconst (v := 1) hx hb dX4_opensCall_12 (by decide) ?_
      refine lv_goto (tgt := 17) hx hb dX4_opensCall_13 (by decide) ?_
      refine lv_istore_n (lv' := [(2, .int 1), (0, .ref h0), (1, .int x)]) hx hb dX4_opensCall_17 rfl hl (by decide) rfl (fun ls hl => ?_)
      refine lv_iload_n hx hb dX4_opensCall_18 rfl (lv_at hl 0 rfl) ?_
      refine lv_if_ne (tgt := 29) hx hb dX4_opensCall_19 (by decide) (fun c_14 => ?_) (fun c_14 => ?_)
      · skip
        refine lv_aload_n hx hb dX4_opensCall_29 rfl (lv_at hl 1 rfl) ?_
        refine va_get (D := D) (ci := 6) (v := .int (nI nc)) (C := RX4) (T := TX4) (N := 8) hx hb hts (by decide +kernel) hown hK hP 0 rfl rfl 4 (by decide) (hts (.fieldLink RX4 25 "LandDeeds$Text" "calls" "I") (by decide +kernel)) (fun _ h9 => h9) rfl dX4_opensCall_30 ?_
        refine lv_if_lt (tgt := 45) hx hb dX4_opensCall_33 (by decide) (fun c_15 => ?_) (fun c_15 => ?_)
        · skip
          have nc_15 : nc < 0 := (nI_ltI (a := nc) (b := 0) (by omega) (by omega)).mp c_15
          exact absurd nc_15 (by omega)
        · skip
          have nc_15 : ¬ (nc < 0) := fun h => c_15 ((nI_ltI (a := nc) (b := 0) (by omega) (by omega)).mpr h)
          refine lv_aload_n hx hb dX4_opensCall_36 rfl (lv_at hl 1 rfl) ?_
          refine va_get (D := D) (ci := 6) (v := .int (nI nc)) (C := RX4) (T := TX4) (N := 8) hx hb hts (by decide +kernel) hown hK hP 0 rfl rfl 4 (by decide) (hts (.fieldLink RX4 25 "LandDeeds$Text" "calls" "I") (by decide +kernel)) (fun _ h9 => h9) rfl dX4_opensCall_37 ?_
          refine lv_bipush (v := 8) hx hb dX4_opensCall_40 (by decide) ?_
          refine lv_icmp_lt (tgt := 47) hx hb dX4_opensCall_42 (by decide) (fun c_16 => ?_) (fun c_16 => ?_)
          · skip
            have nc_16 : nc < 8 := (nI_ltI (a := nc) (b := 8) (by omega) (by omega)).mp c_16
            refine lv_aload_n hx hb dX4_opensCall_47 rfl (lv_at hl 1 rfl) ?_
            refine va_get (D := D) (ci := 6) (v := .ref an) (C := RX4) (T := TX4) (N := 8) hx hb hts (by decide +kernel) hown hK hP 0 rfl rfl 2 (by decide) (hts (.fieldLink RX4 18 "LandDeeds$Text" "north" "[I") (by decide +kernel)) (fun _ h9 => h9) rfl dX4_opensCall_48 ?_
            refine lv_aload_n hx hb dX4_opensCall_51 rfl (lv_at hl 1 rfl) ?_
            refine va_get (D := D) (ci := 6) (v := .int (nI nc)) (C := RX4) (T := TX4) (N := 8) hx hb hts (by decide +kernel) hown hK hP 0 rfl rfl 4 (by decide) (hts (.fieldLink RX4 25 "LandDeeds$Text" "calls" "I") (by decide +kernel)) (fun _ h9 => h9) rfl dX4_opensCall_52 ?_
            refine lv_iconst (v := 0) hx hb dX4_opensCall_55 (by decide) ?_
            refine u_iast hx hb hK hP hD hS 2 0 rfl rfl rfl ⟨by omega, by omega⟩ dX4_opensCall_56 (fun H locs hP hD hS => ?_)
            have hP : va_P D vwCl [(h0, .inr (6, [.ref as, .ref ae, .ref an, .int ln, .int (nI nc), .int (nI pt), .int tw, .int (nI nm)])), (ae, .inl (cI, 8, .inl fe)), (an, .inl (cI, 8, .inl (upd fn nc 0)))] H := hP
            have hD : va_D A [(h0, .inr (6, [.ref as, .ref ae, .ref an, .int ln, .int (nI nc), .int (nI pt), .int tw, .int (nI nm)])), (ae, .inl (cI, 8, .inl fe)), (an, .inl (cI, 8, .inl (upd fn nc 0)))] := hD
            refine lv_aload_n hx hb dX4_opensCall_57 rfl (lv_at hl 1 rfl) ?_
            refine va_get (D := D) (ci := 6) (v := .ref ae) (C := RX4) (T := TX4) (N := 8) hx hb hts (by decide +kernel) hown hK hP 0 rfl rfl 1 (by decide) (hts (.fieldLink RX4 15 "LandDeeds$Text" "east" "[I") (by decide +kernel)) (fun _ h9 => h9) rfl dX4_opensCall_58 ?_
            refine lv_aload_n hx hb dX4_opensCall_61 rfl (lv_at hl 1 rfl) ?_
            refine va_get (D := D) (ci := 6) (v := .int (nI nc)) (C := RX4) (T := TX4) (N := 8) hx hb hts (by decide +kernel) hown hK hP 0 rfl rfl 4 (by decide) (hts (.fieldLink RX4 25 "LandDeeds$Text" "calls" "I") (by decide +kernel)) (fun _ h9 => h9) rfl dX4_opensCall_62 ?_
            refine lv_iconst (v := 0) hx hb dX4_opensCall_65 (by decide) ?_
            refine u_iast hx hb hK hP hD hS 1 0 rfl rfl rfl ⟨by omega, by omega⟩ dX4_opensCall_66 (fun H locs hP hD hS => ?_)
            have hP : va_P D vwCl [(h0, .inr (6, [.ref as, .ref ae, .ref an, .int ln, .int (nI nc), .int (nI pt), .int tw, .int (nI nm)])), (ae, .inl (cI, 8, .inl (upd fe nc 0))), (an, .inl (cI, 8, .inl (upd fn nc 0)))] H := hP
            have hD : va_D A [(h0, .inr (6, [.ref as, .ref ae, .ref an, .int ln, .int (nI nc), .int (nI pt), .int tw, .int (nI nm)])), (ae, .inl (cI, 8, .inl (upd fe nc 0))), (an, .inl (cI, 8, .inl (upd fn nc 0)))] := hD
            refine lv_aload_n hx hb dX4_opensCall_67 rfl (lv_at hl 1 rfl) ?_
            refine lv_dup hx hb dX4_opensCall_68 rfl ?_
            refine va_get (D := D) (ci := 6) (v := .int (nI nc)) (C := RX4) (T := TX4) (N := 8) hx hb hts (by decide +kernel) hown hK hP 0 rfl rfl 4 (by decide) (hts (.fieldLink RX4 25 "LandDeeds$Text" "calls" "I") (by decide +kernel)) (fun _ h9 => h9) rfl dX4_opensCall_69 ?_
            refine lv_iconst (v := 1) hx hb dX4_opensCall_72 (by decide) ?_
            refine lv_iadd hx hb dX4_opensCall_73 ?_
            refine u_eqi (show (nI nc) + 1 = nI (nc + 1) from nI_1 nc) ?_
            refine va_put (D := D) (ci := 6) (v := .int (nI (nc + 1))) (ty := .int) (C := RX4) (T := TX4) (N := 8) hx hb hts (by decide +kernel) tyX4 tyX4_ok nmX4 hown hK hP hD hS 0 rfl rfl 4 (by decide) (hts (.fieldLink RX4 25 "LandDeeds$Text" "calls" "I") (by decide +kernel)) (fun _ h9 => h9) rfl (by decide +kernel) rfl rfl (Nat.le_of_ble_eq_true rfl) dX4_opensCall_74 (fun H locs hP hD hS => ?_)
            have hP : va_P D vwCl [(h0, .inr (6, [.ref as, .ref ae, .ref an, .int ln, .int (nI (nc + 1)), .int (nI pt), .int tw, .int (nI nm)])), (ae, .inl (cI, 8, .inl (upd fe nc 0))), (an, .inl (cI, 8, .inl (upd fn nc 0)))] H := hP
            have hD : va_D A [(h0, .inr (6, [.ref as, .ref ae, .ref an, .int ln, .int (nI (nc + 1)), .int (nI pt), .int tw, .int (nI nm)])), (ae, .inl (cI, 8, .inl (upd fe nc 0))), (an, .inl (cI, 8, .inl (upd fn nc 0)))] := hD
            refine lv_aload_n hx hb dX4_opensCall_77 rfl (lv_at hl 1 rfl) ?_
            refine lv_iload_n hx hb dX4_opensCall_78 rfl (lv_at hl 0 rfl) ?_
            refine lv_if_eq (tgt := 86) hx hb dX4_opensCall_79 (by decide) (fun c_17 => ?_) (fun c_17 => ?_)
            · skip
              exact absurd c_17 (by decide)
            · skip
              refine lv_iconst (v := 1) hx hb dX4_opensCall_82 (by decide) ?_
              refine lv_goto (tgt := 87) hx hb dX4_opensCall_83 (by decide) ?_
              refine lv_iload_n hx hb dX4_opensCall_87 rfl (lv_at hl 2 rfl) ?_
              have hPc := hP.sub (ws' := [(h0, .inr (6, [.ref as, .ref ae, .ref an, .int ln, .int ((nI (nc + 1))), .int ((nI pt)), .int tw, .int ((nI nm))]))]) [0] rfl
              have hDc := hD.sub (ws' := [(h0, .inr (6, [.ref as, .ref ae, .ref an, .int ln, .int ((nI (nc + 1))), .int ((nI pt)), .int tw, .int ((nI nm))]))]) [0] (by decide) rfl
              have hFc := va_free (wc := [(h0, .inr (6, [.ref as, .ref ae, .ref an, .int ln, .int ((nI (nc + 1))), .int ((nI pt)), .int tw, .int ((nI nm))]))]) hD hS hA [0] rfl
              refine va_callv (va_runV (As := [.int 1, .int x]) (rest := []) ⟨hx, hb, hml, hown, hts⟩ (c_X4_openLeg l D cI cB cZ cP H.size h0 as ae an ln (nI (nc + 1)) (nI pt) tw (nI nm) 1 x ) (cwV 2 hts gX4_opensCall_X4_openLeg rfl rfl rfl (by decide +kernel) ⟨Nat.le_of_ble_eq_true rfl, Nat.le_of_ble_eq_true rfl⟩) (pVQ (q0 := 0) hPc hDc hW0 EF.t rfl rfl) rfl rfl hl.1 rfl (lv_room (Nat.le_of_ble_eq_true rfl)) dX4_opensCall_88 ⟨Nat.le_of_ble_eq_true rfl, Nat.le_of_ble_eq_true rfl⟩) hS (fun q _ h => hFc q h) hFc (fun u t H1 locs ht hvm hw hB hz1 hk1 hS => ?_)
              obtain ⟨hP1, hD1⟩ := hB
              rw [ht] at hP1
              have hw_18 : True := hw
              obtain ⟨hP, hD⟩ := va_join (wr := [(ae, .inl (cI, 8, .inl (upd fe nc 0))), (an, .inl (cI, 8, .inl (upd fn nc 0)))]) (w1 := [(h0, .inr (6, [.ref as, .ref ae, .ref an, .int ln, .int ((nI (nc + 1))), .int 1, .int (dirT x), .int 0]))]) hP hD [0] [1, 2] rfl rfl (by decide) (by decide) hk1 hFc hP1 hD1
              generalize H1 = H at hP hS ⊢
              have hP := hP.sub (ws' := [(h0, .inr (6, [.ref as, .ref ae, .ref an, .int ln, .int ((nI (nc + 1))), .int 1, .int (dirT x), .int 0])), (ae, .inl (cI, 8, .inl (upd fe nc 0))), (an, .inl (cI, 8, .inl (upd fn nc 0)))]) [2, 0, 1] rfl
              have hD := hD.sub (ws' := [(h0, .inr (6, [.ref as, .ref ae, .ref an, .int ln, .int ((nI (nc + 1))), .int 1, .int (dirT x), .int 0])), (ae, .inl (cI, 8, .inl (upd fe nc 0))), (an, .inl (cI, 8, .inl (upd fn nc 0)))]) [2, 0, 1] (by decide) rfl
              refine lv_iconst (v := 1) hx hb dX4_opensCall_91 (by decide) ?_
              rw [← hQ]
              have hP9 := hP
              have hD9 := hD
              exact W.zret (v := 1) hx hb hr (by decide) (fun t ht hW => ⟨⟨_, (nc + 1, 1, 0, dirT x, upd fe nc 0, upd fn nc 0), rfl, Or.inl ⟨rfl, stepT_ocn hp0 (by omega) (by first | assumption | simp [*])⟩, by rw [ht]; exact hP9, hD9⟩, hS.F ht⟩) hS.2.2 dX4_opensCall_92
          · skip
            have nc_16 : ¬ (nc < 8) := fun h => c_16 ((nI_ltI (a := nc) (b := 8) (by omega) (by omega)).mpr h)
            refine lv_iconst (v := 0) hx hb dX4_opensCall_45 (by decide) ?_
            rw [← hQ]
            have hP9 := hP
            have hD9 := hD
            exact W.zret (v := 0) hx hb hr (by decide) (fun t ht hW => ⟨⟨_, (nc, pt, nm, tw, fe, fn), rfl, Or.inr ⟨rfl, stepT_oc0 hp0 (fun q => by first | omega | (rcases q.1 with q | q | q | q <;> simp_all)), rfl⟩, by rw [ht]; exact hP9, hD9⟩, hS.F ht⟩) hS.2.2 dX4_opensCall_46
      · skip
        exact absurd c_14 (by decide)

set_option maxHeartbeats 4000000 in
set_option maxRecDepth 100000 in
theorem c_X4_takesDigit (l : Launch) (D : va_G) (cI cB cZ cP : ClassId) (sz : Nat) (h0 as ae an : Nat) (ln tw : Int32) (nc pt nm : Nat) (fe fn : Nat → Int32) (dg : Nat) (hnc : nc ≤ 8) (hn1 : 1 ≤ nc) (hnm : nm ≤ 31) (hdg : dg ≤ 9) (hpt : pt ≤ 2) : Met l yX4_takesDigit wsX4_takesDigit ({ frames := 0, cells := 0, slots := 0, locals := 0 } : Room) (va_Pc [.ref h0, .int (nI dg)] (fun U => U.heap.size = sz ∧ va_P D vwCl [(h0, .inr (6, [.ref as, .ref ae, .ref an, .int ln, .int (nI nc), .int (nI pt), .int tw, .int (nI nm)])), (ae, .inl (cI, 8, .inl fe)), (an, .inl (cI, 8, .inl fn))] U.heap ∧ KW D cI cB cZ cP U ∧ va_D (fun _ => True) [(h0, .inr (6, [.ref as, .ref ae, .ref an, .int ln, .int (nI nc), .int (nI pt), .int tw, .int (nI nm)])), (ae, .inl (cI, 8, .inl fe)), (an, .inl (cI, 8, .inl fn))] ∧ EF [(h0, .inr (6, [.ref as, .ref ae, .ref an, .int ln, .int (nI nc), .int (nI pt), .int tw, .int (nI nm)])), (ae, .inl (cI, 8, .inl fe)), (an, .inl (cI, 8, .inl fn))] sz E0 U.heap)) (va_Qi (fun r (u : Nat × (Nat → Int32) × (Nat → Int32)) => match u with | (nm1, fe1, fn1) => (r = 1 ∧ (1 ≤ nm * 10 + dg ∧ nm * 10 + dg ≤ 31) ∧ nm1 = nm * 10 + dg ∧ fe1 = (if pt = 1 then fe else upd fe (nc - 1) (tw * nI (nm * 10 + dg))) ∧ fn1 = (if pt = 1 then upd fn (nc - 1) (tw * nI (nm * 10 + dg)) else fn)) ∨ (r = 0 ∧ ¬ (1 ≤ nm * 10 + dg ∧ nm * 10 + dg ≤ 31) ∧ nm1 = nm ∧ fe1 = fe ∧ fn1 = fn)) (fun (u : Nat × (Nat → Int32) × (Nat → Int32)) (t : State) => match u with | (nm1, fe1, fn1) => va_P D vwCl [(h0, .inr (6, [.ref as, .ref ae, .ref an, .int ln, .int (nI nc), .int (nI pt), .int tw, .int (nI nm1)])), (ae, .inl (cI, 8, .inl fe1)), (an, .inl (cI, 8, .inl fn1))] t.heap ∧ va_D (va_A [(h0, .inr (6, [.ref as, .ref ae, .ref an, .int ln, .int (nI nc), .int (nI pt), .int tw, .int (nI nm)])), (ae, .inl (cI, 8, .inl fe)), (an, .inl (cI, 8, .inl fn))] sz) [(h0, .inr (6, [.ref as, .ref ae, .ref an, .int ln, .int (nI nc), .int (nI pt), .int tw, .int (nI nm1)])), (ae, .inl (cI, 8, .inl fe1)), (an, .inl (cI, 8, .inl fn1))]) (va_A [(h0, .inr (6, [.ref as, .ref ae, .ref an, .int ln, .int (nI nc), .int (nI pt), .int tw, .int (nI nm)])), (ae, .inl (cI, 8, .inl fe)), (an, .inl (cI, 8, .inl fn))] sz)) 0 0 (va_A [(h0, .inr (6, [.ref as, .ref ae, .ref an, .int ln, .int (nI nc), .int (nI pt), .int tw, .int (nI nm)])), (ae, .inl (cI, 8, .inl fe)), (an, .inl (cI, 8, .inl fn))] sz) := by
  refine Met.ofW (cc := cX4_takesDigit) (maxL := 3) (ret := (some .boolean)) (by decide) rfl ?_
  intro p e s m args below meth c s₁ B hml hv
  obtain ⟨rfl, hsz, hP, hW0, hD0, hE⟩ := hv
  have hx := B.exec
  have hb := B.bytes
  have hr := B.returns
  have hts := atoms_spec (ws := wsX4_takesDigit) B.pre
  have hown : s.vm.findClass RX4 = some m.cls := findClass_of_methodNamed B.named
  have hlocks := B.notSynchronized
  have hK := hW0.1
  subst hsz
  have hD := hD0.self (sz := s.heap.size)
  unfold EF at hE
  generalize hAe : va_A [(h0, .inr (6, [.ref as, .ref ae, .ref an, .int ln, .int (nI nc), .int (nI pt), .int tw, .int (nI nm)])), (ae, .inl (cI, 8, .inl fe)), (an, .inl (cI, 8, .inl fn))] s.heap.size = A at hD hE ⊢
  have hA : ∀ q : Nat, s.heap.size ≤ q → A q := fun q h => by rw [← hAe]; exact Or.inr h
  have hS : va_S A s.heap s.heap [] := va_S.rf
  have hl := lv_entry ([.ref h0, .int (nI dg)]) (n := 3) (Nat.le_of_ble_eq_true rfl)
  rw [lg_entry_eq]
  generalize (lg_sl ([.ref h0, .int (nI dg)]) ++ List.replicate (3 - (lg_sl ([.ref h0, .int (nI dg)])).length) Slot.unset).toArray = ls at hl ⊢
  have hl : lv_has ls 3 [(0, .ref h0), (1, .int (nI dg))] := hl
  show W p l e ({ frames := 0, cells := 0, slots := 0, locals := 0 } : Room) s m ([.ref h0, .int (nI dg)] : List Value).toArray below meth c s.heap [] 0 0 _ (F0 m 0 ls [])
  refine u_genQ (fun Q hQ => ?_)
  refine lv_aload_n hx hb dX4_takesDigit_0 rfl (lv_at hl 0 rfl) ?_
  refine va_get (D := D) (ci := 6) (v := .int (nI nm)) (C := RX4) (T := TX4) (N := 8) hx hb hts (by decide +kernel) hown hK hP 0 rfl rfl 7 (by decide) (hts (.fieldLink RX4 35 "LandDeeds$Text" "number" "I") (by decide +kernel)) (fun _ h9 => h9) rfl dX4_takesDigit_1 ?_
  refine lv_bipush (v := 10) hx hb dX4_takesDigit_4 (by decide) ?_
  refine lv_imul hx hb dX4_takesDigit_6 ?_
  refine u_eqi (show (nI nm) * 10 = nI (nm * 10) from nI_m nm 10) ?_
  refine lv_iload_n hx hb dX4_takesDigit_7 rfl (lv_at hl 1 rfl) ?_
  refine lv_iadd hx hb dX4_takesDigit_8 ?_
  refine u_eqi (show (nI (nm * 10)) + (nI dg) = nI (nm * 10 + dg) from nI_add _ _) ?_
  refine lv_istore_n (lv' := [(2, .int (nI (nm * 10 + dg))), (0, .ref h0), (1, .int (nI dg))]) hx hb dX4_takesDigit_9 rfl hl (by decide) rfl (fun ls hl => ?_)
  refine lv_iload_n hx hb dX4_takesDigit_10 rfl (lv_at hl 0 rfl) ?_
  refine lv_iconst (v := 1) hx hb dX4_takesDigit_11 (by decide) ?_
  refine lv_icmp_lt (tgt := 38) hx hb dX4_takesDigit_12 (by decide) (fun c_1 => ?_) (fun c_1 => ?_)
  · skip
    have nc_1 : nm * 10 + dg < 1 := (nI_ltI (a := (nm * 10 + dg)) (b := 1) (by omega) (by omega)).mp c_1
    refine lv_iconst (v := 0) hx hb dX4_takesDigit_38 (by decide) ?_
    rw [← hQ]
    have hP9 := hP
    have hD9 := hD
    exact W.zret (v := 0) hx hb hr (by decide) (fun t ht hW => ⟨⟨_, (nm, fe, fn), rfl, Or.inr ⟨rfl, by omega, rfl, rfl, rfl⟩, by rw [ht]; exact hP9, hD9⟩, hS.F ht⟩) hS.2.2 dX4_takesDigit_39
  · skip
    have nc_1 : ¬ (nm * 10 + dg < 1) := fun h => c_1 ((nI_ltI (a := (nm * 10 + dg)) (b := 1) (by omega) (by omega)).mpr h)
    refine lv_iload_n hx hb dX4_takesDigit_15 rfl (lv_at hl 0 rfl) ?_
    refine lv_bipush (v := 31) hx hb dX4_takesDigit_16 (by decide) ?_
    refine lv_icmp_gt (tgt := 38) hx hb dX4_takesDigit_18 (by decide) (fun c_2 => ?_) (fun c_2 => ?_)
    · skip
      have nc_2 : 31 < nm * 10 + dg := (nI_ltI (a := 31) (b := (nm * 10 + dg)) (by omega) (by omega)).mp c_2
      refine lv_iconst (v := 0) hx hb dX4_takesDigit_38 (by decide) ?_
      rw [← hQ]
      have hP9 := hP
      have hD9 := hD
      exact W.zret (v := 0) hx hb hr (by decide) (fun t ht hW => ⟨⟨_, (nm, fe, fn), rfl, Or.inr ⟨rfl, by omega, rfl, rfl, rfl⟩, by rw [ht]; exact hP9, hD9⟩, hS.F ht⟩) hS.2.2 dX4_takesDigit_39
    · skip
      have nc_2 : ¬ (31 < nm * 10 + dg) := fun h => c_2 ((nI_ltI (a := 31) (b := (nm * 10 + dg)) (by omega) (by omega)).mpr h)
      refine lv_aload_n hx hb dX4_takesDigit_21 rfl (lv_at hl 1 rfl) ?_
      refine va_get (D := D) (ci := 6) (v := .int (nI nc)) (C := RX4) (T := TX4) (N := 8) hx hb hts (by decide +kernel) hown hK hP 0 rfl rfl 4 (by decide) (hts (.fieldLink RX4 25 "LandDeeds$Text" "calls" "I") (by decide +kernel)) (fun _ h9 => h9) rfl dX4_takesDigit_22 ?_
      refine lv_iconst (v := 1) hx hb dX4_takesDigit_25 (by decide) ?_
      refine lv_icmp_lt (tgt := 38) hx hb dX4_takesDigit_26 (by decide) (fun c_3 => ?_) (fun c_3 => ?_)
      · skip
        have nc_3 : nc < 1 := (nI_ltI (a := nc) (b := 1) (by omega) (by omega)).mp c_3
        exact absurd nc_3 (by omega)
      · skip
        have nc_3 : ¬ (nc < 1) := fun h => c_3 ((nI_ltI (a := nc) (b := 1) (by omega) (by omega)).mpr h)
        refine lv_aload_n hx hb dX4_takesDigit_29 rfl (lv_at hl 1 rfl) ?_
        refine va_get (D := D) (ci := 6) (v := .int (nI nc)) (C := RX4) (T := TX4) (N := 8) hx hb hts (by decide +kernel) hown hK hP 0 rfl rfl 4 (by decide) (hts (.fieldLink RX4 25 "LandDeeds$Text" "calls" "I") (by decide +kernel)) (fun _ h9 => h9) rfl dX4_takesDigit_30 ?_
        refine lv_bipush (v := 8) hx hb dX4_takesDigit_33 (by decide) ?_
        refine lv_icmp_le (tgt := 40) hx hb dX4_takesDigit_35 (by decide) (fun c_4 => ?_) (fun c_4 => ?_)
        · skip
          have nc_4 : nc ≤ 8 := (nI_leI (a := nc) (b := 8) (by omega) (by omega)).mp c_4
          refine lv_aload_n hx hb dX4_takesDigit_40 rfl (lv_at hl 1 rfl) ?_
          refine lv_iload_n hx hb dX4_takesDigit_41 rfl (lv_at hl 0 rfl) ?_
          refine va_put (D := D) (ci := 6) (v := .int (nI (nm * 10 + dg))) (ty := .int) (C := RX4) (T := TX4) (N := 8) hx hb hts (by decide +kernel) tyX4 tyX4_ok nmX4 hown hK hP hD hS 0 rfl rfl 7 (by decide) (hts (.fieldLink RX4 35 "LandDeeds$Text" "number" "I") (by decide +kernel)) (fun _ h9 => h9) rfl (by decide +kernel) rfl rfl (Nat.le_of_ble_eq_true rfl) dX4_takesDigit_42 (fun H locs hP hD hS => ?_)
          have hP : va_P D vwCl [(h0, .inr (6, [.ref as, .ref ae, .ref an, .int ln, .int (nI nc), .int (nI pt), .int tw, .int (nI (nm * 10 + dg))])), (ae, .inl (cI, 8, .inl fe)), (an, .inl (cI, 8, .inl fn))] H := hP
          have hD : va_D A [(h0, .inr (6, [.ref as, .ref ae, .ref an, .int ln, .int (nI nc), .int (nI pt), .int tw, .int (nI (nm * 10 + dg))])), (ae, .inl (cI, 8, .inl fe)), (an, .inl (cI, 8, .inl fn))] := hD
          refine lv_aload_n hx hb dX4_takesDigit_45 rfl (lv_at hl 1 rfl) ?_
          refine va_get (D := D) (ci := 6) (v := .int (nI pt)) (C := RX4) (T := TX4) (N := 8) hx hb hts (by decide +kernel) hown hK hP 0 rfl rfl 5 (by decide) (hts (.fieldLink RX4 28 "LandDeeds$Text" "part" "I") (by decide +kernel)) (fun _ h9 => h9) rfl dX4_takesDigit_46 ?_
          refine lv_iconst (v := 1) hx hb dX4_takesDigit_49 (by decide) ?_
          refine lv_icmp_ne (tgt := 76) hx hb dX4_takesDigit_50 (by decide) (fun c_5 => ?_) (fun c_5 => ?_)
          · skip
            have nc_5 : ¬ (pt = 1) := fun h => c_5 ((nI_eq (a := pt) (b := 1) (by omega) (by omega)).mpr h)
            refine lv_aload_n hx hb dX4_takesDigit_76 rfl (lv_at hl 1 rfl) ?_
            refine va_get (D := D) (ci := 6) (v := .ref ae) (C := RX4) (T := TX4) (N := 8) hx hb hts (by decide +kernel) hown hK hP 0 rfl rfl 1 (by decide) (hts (.fieldLink RX4 15 "LandDeeds$Text" "east" "[I") (by decide +kernel)) (fun _ h9 => h9) rfl dX4_takesDigit_77 ?_
            refine lv_aload_n hx hb dX4_takesDigit_80 rfl (lv_at hl 1 rfl) ?_
            refine va_get (D := D) (ci := 6) (v := .int (nI nc)) (C := RX4) (T := TX4) (N := 8) hx hb hts (by decide +kernel) hown hK hP 0 rfl rfl 4 (by decide) (hts (.fieldLink RX4 25 "LandDeeds$Text" "calls" "I") (by decide +kernel)) (fun _ h9 => h9) rfl dX4_takesDigit_81 ?_
            refine lv_iconst (v := 1) hx hb dX4_takesDigit_84 (by decide) ?_
            refine lv_isub hx hb dX4_takesDigit_85 ?_
            refine u_eqi (show (nI nc) - 1 = nI (nc - 1) from nI_sub1 hn1) ?_
            refine lv_aload_n hx hb dX4_takesDigit_86 rfl (lv_at hl 1 rfl) ?_
            refine va_get (D := D) (ci := 6) (v := .int tw) (C := RX4) (T := TX4) (N := 8) hx hb hts (by decide +kernel) hown hK hP 0 rfl rfl 6 (by decide) (hts (.fieldLink RX4 51 "LandDeeds$Text" "toward" "I") (by decide +kernel)) (fun _ h9 => h9) rfl dX4_takesDigit_87 ?_
            refine lv_aload_n hx hb dX4_takesDigit_90 rfl (lv_at hl 1 rfl) ?_
            refine va_get (D := D) (ci := 6) (v := .int (nI (nm * 10 + dg))) (C := RX4) (T := TX4) (N := 8) hx hb hts (by decide +kernel) hown hK hP 0 rfl rfl 7 (by decide) (hts (.fieldLink RX4 35 "LandDeeds$Text" "number" "I") (by decide +kernel)) (fun _ h9 => h9) rfl dX4_takesDigit_91 ?_
            refine lv_imul hx hb dX4_takesDigit_94 ?_
            refine u_iast hx hb hK hP hD hS 1 0 rfl rfl rfl ⟨by omega, by omega⟩ dX4_takesDigit_95 (fun H locs hP hD hS => ?_)
            have hP : va_P D vwCl [(h0, .inr (6, [.ref as, .ref ae, .ref an, .int ln, .int (nI nc), .int (nI pt), .int tw, .int (nI (nm * 10 + dg))])), (ae, .inl (cI, 8, .inl (upd fe (nc - 1) (tw * (nI (nm * 10 + dg)))))), (an, .inl (cI, 8, .inl fn))] H := hP
            have hD : va_D A [(h0, .inr (6, [.ref as, .ref ae, .ref an, .int ln, .int (nI nc), .int (nI pt), .int tw, .int (nI (nm * 10 + dg))])), (ae, .inl (cI, 8, .inl (upd fe (nc - 1) (tw * (nI (nm * 10 + dg)))))), (an, .inl (cI, 8, .inl fn))] := hD
            refine lv_iconst (v := 1) hx hb dX4_takesDigit_96 (by decide) ?_
            rw [← hQ]
            have hP9 := hP
            have hD9 := hD
            exact W.zret (v := 1) hx hb hr (by decide) (fun t ht hW => ⟨⟨_, (nm * 10 + dg, upd fe (nc - 1) (tw * nI (nm * 10 + dg)), fn), rfl, Or.inl ⟨rfl, by omega, rfl, by rw [if_neg (by omega)], by rw [if_neg (by omega)]⟩, by rw [ht]; exact hP9, hD9⟩, hS.F ht⟩) hS.2.2 dX4_takesDigit_97
          · skip
            have nc_5 : pt = 1 := (nI_eq (a := pt) (b := 1) (by omega) (by omega)).mp c_5
            refine lv_aload_n hx hb dX4_takesDigit_53 rfl (lv_at hl 1 rfl) ?_
            refine va_get (D := D) (ci := 6) (v := .ref an) (C := RX4) (T := TX4) (N := 8) hx hb hts (by decide +kernel) hown hK hP 0 rfl rfl 2 (by decide) (hts (.fieldLink RX4 18 "LandDeeds$Text" "north" "[I") (by decide +kernel)) (fun _ h9 => h9) rfl dX4_takesDigit_54 ?_
            refine lv_aload_n hx hb dX4_takesDigit_57 rfl (lv_at hl 1 rfl) ?_
            refine va_get (D := D) (ci := 6) (v := .int (nI nc)) (C := RX4) (T := TX4) (N := 8) hx hb hts (by decide +kernel) hown hK hP 0 rfl rfl 4 (by decide) (hts (.fieldLink RX4 25 "LandDeeds$Text" "calls" "I") (by decide +kernel)) (fun _ h9 => h9) rfl dX4_takesDigit_58 ?_
            refine lv_iconst (v := 1) hx hb dX4_takesDigit_61 (by decide) ?_
            refine lv_isub hx hb dX4_takesDigit_62 ?_
            refine u_eqi (show (nI nc) - 1 = nI (nc - 1) from nI_sub1 hn1) ?_
            refine lv_aload_n hx hb dX4_takesDigit_63 rfl (lv_at hl 1 rfl) ?_
            refine va_get (D := D) (ci := 6) (v := .int tw) (C := RX4) (T := TX4) (N := 8) hx hb hts (by decide +kernel) hown hK hP 0 rfl rfl 6 (by decide) (hts (.fieldLink RX4 51 "LandDeeds$Text" "toward" "I") (by decide +kernel)) (fun _ h9 => h9) rfl dX4_takesDigit_64 ?_
            refine lv_aload_n hx hb dX4_takesDigit_67 rfl (lv_at hl 1 rfl) ?_
            refine va_get (D := D) (ci := 6) (v := .int (nI (nm * 10 + dg))) (C := RX4) (T := TX4) (N := 8) hx hb hts (by decide +kernel) hown hK hP 0 rfl rfl 7 (by decide) (hts (.fieldLink RX4 35 "LandDeeds$Text" "number" "I") (by decide +kernel)) (fun _ h9 => h9) rfl dX4_takesDigit_68 ?_
            refine lv_imul hx hb dX4_takesDigit_71 ?_
            refine u_iast hx hb hK hP hD hS 2 0 rfl rfl rfl ⟨by omega, by omega⟩ dX4_takesDigit_72 (fun H locs hP hD hS => ?_)
            have hP : va_P D vwCl [(h0, .inr (6, [.ref as, .ref ae, .ref an, .int ln, .int (nI nc), .int (nI pt), .int tw, .int (nI (nm * 10 + dg))])), (ae, .inl (cI, 8, .inl fe)), (an, .inl (cI, 8, .inl (upd fn (nc - 1) (tw * (nI (nm * 10 + dg))))))] H := hP
            have hD : va_D A [(h0, .inr (6, [.ref as, .ref ae, .ref an, .int ln, .int (nI nc), .int (nI pt), .int tw, .int (nI (nm * 10 + dg))])), (ae, .inl (cI, 8, .inl fe)), (an, .inl (cI, 8, .inl (upd fn (nc - 1) (tw * (nI (nm * 10 + dg))))))] := hD
            refine lv_goto (tgt := 96) hx hb dX4_takesDigit_73 (by decide) ?_
            refine lv_iconst (v := 1) hx hb dX4_takesDigit_96 (by decide) ?_
            rw [← hQ]
            have hP9 := hP
            have hD9 := hD
            exact W.zret (v := 1) hx hb hr (by decide) (fun t ht hW => ⟨⟨_, (nm * 10 + dg, fe, upd fn (nc - 1) (tw * nI (nm * 10 + dg))), rfl, Or.inl ⟨rfl, by omega, rfl, by rw [if_pos (by omega)], by rw [if_pos (by omega)]⟩, by rw [ht]; exact hP9, hD9⟩, hS.F ht⟩) hS.2.2 dX4_takesDigit_97
        · skip
          have nc_4 : ¬ (nc ≤ 8) := fun h => c_4 ((nI_leI (a := nc) (b := 8) (by omega) (by omega)).mpr h)
          exact absurd (show nc ≤ 8 by omega) nc_4

set_option maxHeartbeats 4000000 in
set_option maxRecDepth 100000 in
theorem c_X4_takes (l : Launch) (D : va_G) (cI cB cZ cP : ClassId) (sz : Nat) (h0 as ae an : Nat) (ln tw : Int32) (nc pt nm : Nat) (fe fn : Nat → Int32) (x : Int32) (hnc : nc ≤ 8) (hpt : pt ≤ 2) (hnm : nm ≤ 31) (hn1 : pt ≠ 0 → 1 ≤ nc) : Met l yX4_takes wsX4_takes ({ frames := 2, cells := 0, slots := 0, locals := 44 } : Room) (va_Pc [.ref h0, .int x] (fun U => U.heap.size = sz ∧ va_P D vwCl [(h0, .inr (6, [.ref as, .ref ae, .ref an, .int ln, .int (nI nc), .int (nI pt), .int tw, .int (nI nm)])), (ae, .inl (cI, 8, .inl fe)), (an, .inl (cI, 8, .inl fn))] U.heap ∧ KW D cI cB cZ cP U ∧ va_D (fun _ => True) [(h0, .inr (6, [.ref as, .ref ae, .ref an, .int ln, .int (nI nc), .int (nI pt), .int tw, .int (nI nm)])), (ae, .inl (cI, 8, .inl fe)), (an, .inl (cI, 8, .inl fn))] ∧ EF [(h0, .inr (6, [.ref as, .ref ae, .ref an, .int ln, .int (nI nc), .int (nI pt), .int tw, .int (nI nm)])), (ae, .inl (cI, 8, .inl fe)), (an, .inl (cI, 8, .inl fn))] sz E0 U.heap)) (va_Qi (fun r (u : Nat × Nat × Nat × Int32 × (Nat → Int32) × (Nat → Int32)) => match u with | (nc1, pt1, nm1, tw1, fe1, fn1) => (r = 1 ∧ stepT x (nc, pt, nm, tw, fe, fn) = some (nc1, pt1, nm1, tw1, fe1, fn1)) ∨ (r = 0 ∧ stepT x (nc, pt, nm, tw, fe, fn) = none ∧ (nc1, pt1, nm1, tw1, fe1, fn1) = ((nc, pt, nm, tw, fe, fn) : TS))) (fun (u : Nat × Nat × Nat × Int32 × (Nat → Int32) × (Nat → Int32)) (t : State) => match u with | (nc1, pt1, nm1, tw1, fe1, fn1) => va_P D vwCl [(h0, .inr (6, [.ref as, .ref ae, .ref an, .int ln, .int (nI nc1), .int (nI pt1), .int tw1, .int (nI nm1)])), (ae, .inl (cI, 8, .inl fe1)), (an, .inl (cI, 8, .inl fn1))] t.heap ∧ va_D (va_A [(h0, .inr (6, [.ref as, .ref ae, .ref an, .int ln, .int (nI nc), .int (nI pt), .int tw, .int (nI nm)])), (ae, .inl (cI, 8, .inl fe)), (an, .inl (cI, 8, .inl fn))] sz) [(h0, .inr (6, [.ref as, .ref ae, .ref an, .int ln, .int (nI nc1), .int (nI pt1), .int tw1, .int (nI nm1)])), (ae, .inl (cI, 8, .inl fe1)), (an, .inl (cI, 8, .inl fn1))]) (va_A [(h0, .inr (6, [.ref as, .ref ae, .ref an, .int ln, .int (nI nc), .int (nI pt), .int tw, .int (nI nm)])), (ae, .inl (cI, 8, .inl fe)), (an, .inl (cI, 8, .inl fn))] sz)) 0 0 (va_A [(h0, .inr (6, [.ref as, .ref ae, .ref an, .int ln, .int (nI nc), .int (nI pt), .int tw, .int (nI nm)])), (ae, .inl (cI, 8, .inl fe)), (an, .inl (cI, 8, .inl fn))] sz) := by
  refine Met.ofW (cc := cX4_takes) (maxL := 2) (ret := (some .boolean)) (by decide) rfl ?_
  intro p e s m args below meth c s₁ B hml hv
  obtain ⟨rfl, hsz, hP, hW0, hD0, hE⟩ := hv
  have hx := B.exec
  have hb := B.bytes
  have hr := B.returns
  have hts := atoms_spec (ws := wsX4_takes) B.pre
  have hown : s.vm.findClass RX4 = some m.cls := findClass_of_methodNamed B.named
  have hlocks := B.notSynchronized
  have hK := hW0.1
  subst hsz
  have hD := hD0.self (sz := s.heap.size)
  unfold EF at hE
  generalize hAe : va_A [(h0, .inr (6, [.ref as, .ref ae, .ref an, .int ln, .int (nI nc), .int (nI pt), .int tw, .int (nI nm)])), (ae, .inl (cI, 8, .inl fe)), (an, .inl (cI, 8, .inl fn))] s.heap.size = A at hD hE ⊢
  have hA : ∀ q : Nat, s.heap.size ≤ q → A q := fun q h => by rw [← hAe]; exact Or.inr h
  have hS : va_S A s.heap s.heap [] := va_S.rf
  have hl := lv_entry ([.ref h0, .int x]) (n := 2) (Nat.le_of_ble_eq_true rfl)
  rw [lg_entry_eq]
  generalize (lg_sl ([.ref h0, .int x]) ++ List.replicate (2 - (lg_sl ([.ref h0, .int x])).length) Slot.unset).toArray = ls at hl ⊢
  have hl : lv_has ls 2 [(0, .ref h0), (1, .int x)] := hl
  show W p l e ({ frames := 2, cells := 0, slots := 0, locals := 44 } : Room) s m ([.ref h0, .int x] : List Value).toArray below meth c s.heap [] 0 0 _ (F0 m 0 ls [])
  refine u_genQ (fun Q hQ => ?_)
  refine lv_aload_n hx hb dX4_takes_0 rfl (lv_at hl 0 rfl) ?_
  refine va_get (D := D) (ci := 6) (v := .int (nI pt)) (C := RX4) (T := TX4) (N := 8) hx hb hts (by decide +kernel) hown hK hP 0 rfl rfl 5 (by decide) (hts (.fieldLink RX4 28 "LandDeeds$Text" "part" "I") (by decide +kernel)) (fun _ h9 => h9) rfl dX4_takes_1 ?_
  refine lv_if_ne (tgt := 13) hx hb dX4_takes_4 (by decide) (fun c_1 => ?_) (fun c_1 => ?_)
  · skip
    have nc_1 : ¬ (pt = 0) := fun h => c_1 ((nI_eq (a := pt) (b := 0) (by omega) (by omega)).mpr h)
    refine lv_iload_n hx hb dX4_takes_13 rfl (lv_at hl 1 rfl) ?_
    refine lv_bipush (v := 48) hx hb dX4_takes_14 (by decide) ?_
    refine lv_icmp_lt (tgt := 34) hx hb dX4_takes_16 (by decide) (fun c_2 => ?_) (fun c_2 => ?_)
    · skip
      refine lv_aload_n hx hb dX4_takes_34 rfl (lv_at hl 0 rfl) ?_
      refine va_get (D := D) (ci := 6) (v := .int (nI nm)) (C := RX4) (T := TX4) (N := 8) hx hb hts (by decide +kernel) hown hK hP 0 rfl rfl 7 (by decide) (hts (.fieldLink RX4 35 "LandDeeds$Text" "number" "I") (by decide +kernel)) (fun _ h9 => h9) rfl dX4_takes_35 ?_
      refine lv_if_ne (tgt := 43) hx hb dX4_takes_38 (by decide) (fun c_3 => ?_) (fun c_3 => ?_)
      · skip
        have nc_3 : ¬ (nm = 0) := fun h => c_3 ((nI_eq (a := nm) (b := 0) (by omega) (by omega)).mpr h)
        refine lv_aload_n hx hb dX4_takes_43 rfl (lv_at hl 0 rfl) ?_
        refine va_get (D := D) (ci := 6) (v := .int (nI pt)) (C := RX4) (T := TX4) (N := 8) hx hb hts (by decide +kernel) hown hK hP 0 rfl rfl 5 (by decide) (hts (.fieldLink RX4 28 "LandDeeds$Text" "part" "I") (by decide +kernel)) (fun _ h9 => h9) rfl dX4_takes_44 ?_
        refine lv_iconst (v := 1) hx hb dX4_takes_47 (by decide) ?_
        refine lv_icmp_ne (tgt := 66) hx hb dX4_takes_48 (by decide) (fun c_4 => ?_) (fun c_4 => ?_)
        · skip
          have nc_4 : ¬ (pt = 1) := fun h => c_4 ((nI_eq (a := pt) (b := 1) (by omega) (by omega)).mpr h)
          refine lv_iload_n hx hb dX4_takes_66 rfl (lv_at hl 1 rfl) ?_
          refine lv_bipush (v := 59) hx hb dX4_takes_67 (by decide) ?_
          refine lv_icmp_ne (tgt := 88) hx hb dX4_takes_69 (by decide) (fun c_5 => ?_) (fun c_5 => ?_)
          · skip
            refine lv_iconst (v := 0) hx hb dX4_takes_88 (by decide) ?_
            rw [← hQ]
            have hP9 := hP
            have hD9 := hD
            exact W.zret (v := 0) hx hb hr (by decide) (fun t ht hW => ⟨⟨_, (nc, pt, nm, tw, fe, fn), rfl, Or.inr ⟨rfl, (((stepT_nd (by omega) (by simp only [Int32.lt_iff_toInt_lt, li_48, li_57] at c_2; omega)).trans (if_neg nc_3)).trans (if_neg (fun q => by first | exact nc_4 q.1 | exact nc_5 q.2))).trans (if_neg (fun q => by first | exact c_5 q.1 | omega)), rfl⟩, by rw [ht]; exact hP9, hD9⟩, hS.F ht⟩) hS.2.2 dX4_takes_89
          · skip
            refine lv_aload_n hx hb dX4_takes_72 rfl (lv_at hl 0 rfl) ?_
            refine va_get (D := D) (ci := 6) (v := .int (nI nc)) (C := RX4) (T := TX4) (N := 8) hx hb hts (by decide +kernel) hown hK hP 0 rfl rfl 4 (by decide) (hts (.fieldLink RX4 25 "LandDeeds$Text" "calls" "I") (by decide +kernel)) (fun _ h9 => h9) rfl dX4_takes_73 ?_
            refine lv_bipush (v := 8) hx hb dX4_takes_76 (by decide) ?_
            refine lv_icmp_ge (tgt := 88) hx hb dX4_takes_78 (by decide) (fun c_6 => ?_) (fun c_6 => ?_)
            · skip
              have nc_6 : 8 ≤ nc := (nI_leI (a := 8) (b := nc) (by omega) (by omega)).mp c_6
              refine lv_iconst (v := 0) hx hb dX4_takes_88 (by decide) ?_
              rw [← hQ]
              have hP9 := hP
              have hD9 := hD
              exact W.zret (v := 0) hx hb hr (by decide) (fun t ht hW => ⟨⟨_, (nc, pt, nm, tw, fe, fn), rfl, Or.inr ⟨rfl, (((stepT_nd (by omega) (by simp only [Int32.lt_iff_toInt_lt, li_48, li_57] at c_2; omega)).trans (if_neg nc_3)).trans (if_neg (fun q => by first | exact nc_4 q.1 | exact nc_5 q.2))).trans (if_neg (fun q => by first | exact c_6 q.1 | omega)), rfl⟩, by rw [ht]; exact hP9, hD9⟩, hS.F ht⟩) hS.2.2 dX4_takes_89
            · skip
              have nc_6 : ¬ (8 ≤ nc) := fun h => c_6 ((nI_leI (a := 8) (b := nc) (by omega) (by omega)).mpr h)
              refine lv_aload_n hx hb dX4_takes_81 rfl (lv_at hl 0 rfl) ?_
              refine lv_iconst (v := 0) hx hb dX4_takes_82 (by decide) ?_
              refine va_put (D := D) (ci := 6) (v := .int 0) (ty := .int) (C := RX4) (T := TX4) (N := 8) hx hb hts (by decide +kernel) tyX4 tyX4_ok nmX4 hown hK hP hD hS 0 rfl rfl 5 (by decide) (hts (.fieldLink RX4 28 "LandDeeds$Text" "part" "I") (by decide +kernel)) (fun _ h9 => h9) rfl (by decide +kernel) rfl rfl (Nat.le_of_ble_eq_true rfl) dX4_takes_83 (fun H locs hP hD hS => ?_)
              have hP : va_P D vwCl [(h0, .inr (6, [.ref as, .ref ae, .ref an, .int ln, .int (nI nc), .int 0, .int tw, .int (nI nm)])), (ae, .inl (cI, 8, .inl fe)), (an, .inl (cI, 8, .inl fn))] H := hP
              have hD : va_D A [(h0, .inr (6, [.ref as, .ref ae, .ref an, .int ln, .int (nI nc), .int 0, .int tw, .int (nI nm)])), (ae, .inl (cI, 8, .inl fe)), (an, .inl (cI, 8, .inl fn))] := hD
              refine lv_iconst (v := 1) hx hb dX4_takes_86 (by decide) ?_
              rw [← hQ]
              have hP9 := hP
              have hD9 := hD
              exact W.zret (v := 1) hx hb hr (by decide) (fun t ht hW => ⟨⟨_, (nc, 0, nm, tw, fe, fn), rfl, Or.inl ⟨rfl, (((stepT_nd (by omega) (by simp only [Int32.lt_iff_toInt_lt, li_48, li_57] at c_2; omega)).trans (if_neg nc_3)).trans (if_neg (fun q => by first | exact nc_4 q.1 | exact nc_5 q.2))).trans (if_pos ⟨c_5, by omega⟩)⟩, by rw [ht]; exact hP9, hD9⟩, hS.F ht⟩) hS.2.2 dX4_takes_87
        · skip
          have nc_4 : pt = 1 := (nI_eq (a := pt) (b := 1) (by omega) (by omega)).mp c_4
          refine lv_iload_n hx hb dX4_takes_51 rfl (lv_at hl 1 rfl) ?_
          have hPc := hP.sub (ws' := []) [] rfl
          refine u_callSi (W.runS (As := [.int x]) (rest := []) ⟨hx, hb, hml, hown, hts⟩ (c_X4_isEastOrWest l D cI cB cZ cP x ) (cwS 1 hts gX4_takes_X4_isEastOrWest rfl rfl rfl (by decide +kernel) ⟨Nat.le_of_ble_eq_true rfl, Nat.le_of_ble_eq_true rfl⟩) (pS hPc hW0 trivial) rfl rfl hl.1 rfl (lv_room (Nat.le_of_ble_eq_true rfl)) dX4_takes_52 ⟨Nat.le_of_ble_eq_true rfl, Nat.le_of_ble_eq_true rfl⟩) ?_
          refine lv_if_eq (tgt := 66) hx hb dX4_takes_55 (by decide) (fun c_7 => ?_) (fun c_7 => ?_)
          · skip
            have nc_7 := zb_eq0.mp c_7
            refine lv_iload_n hx hb dX4_takes_66 rfl (lv_at hl 1 rfl) ?_
            refine lv_bipush (v := 59) hx hb dX4_takes_67 (by decide) ?_
            refine lv_icmp_ne (tgt := 88) hx hb dX4_takes_69 (by decide) (fun c_8 => ?_) (fun c_8 => ?_)
            · skip
              refine lv_iconst (v := 0) hx hb dX4_takes_88 (by decide) ?_
              rw [← hQ]
              have hP9 := hP
              have hD9 := hD
              exact W.zret (v := 0) hx hb hr (by decide) (fun t ht hW => ⟨⟨_, (nc, pt, nm, tw, fe, fn), rfl, Or.inr ⟨rfl, (((stepT_nd (by omega) (by simp only [Int32.lt_iff_toInt_lt, li_48, li_57] at c_2; omega)).trans (if_neg nc_3)).trans (if_neg (fun q => by first | exact nc_4 q.1 | exact nc_7 q.2))).trans (if_neg (fun q => by first | exact c_8 q.1 | omega)), rfl⟩, by rw [ht]; exact hP9, hD9⟩, hS.F ht⟩) hS.2.2 dX4_takes_89
            · skip
              refine lv_aload_n hx hb dX4_takes_72 rfl (lv_at hl 0 rfl) ?_
              refine va_get (D := D) (ci := 6) (v := .int (nI nc)) (C := RX4) (T := TX4) (N := 8) hx hb hts (by decide +kernel) hown hK hP 0 rfl rfl 4 (by decide) (hts (.fieldLink RX4 25 "LandDeeds$Text" "calls" "I") (by decide +kernel)) (fun _ h9 => h9) rfl dX4_takes_73 ?_
              refine lv_bipush (v := 8) hx hb dX4_takes_76 (by decide) ?_
              refine lv_icmp_ge (tgt := 88) hx hb dX4_takes_78 (by decide) (fun c_9 => ?_) (fun c_9 => ?_)
              · skip
                have nc_9 : 8 ≤ nc := (nI_leI (a := 8) (b := nc) (by omega) (by omega)).mp c_9
                refine lv_iconst (v := 0) hx hb dX4_takes_88 (by decide) ?_
                rw [← hQ]
                have hP9 := hP
                have hD9 := hD
                exact W.zret (v := 0) hx hb hr (by decide) (fun t ht hW => ⟨⟨_, (nc, pt, nm, tw, fe, fn), rfl, Or.inr ⟨rfl, (((stepT_nd (by omega) (by simp only [Int32.lt_iff_toInt_lt, li_48, li_57] at c_2; omega)).trans (if_neg nc_3)).trans (if_neg (fun q => by first | exact nc_4 q.1 | exact nc_7 q.2))).trans (if_neg (fun q => by first | exact c_9 q.1 | omega)), rfl⟩, by rw [ht]; exact hP9, hD9⟩, hS.F ht⟩) hS.2.2 dX4_takes_89
              · skip
                have nc_9 : ¬ (8 ≤ nc) := fun h => c_9 ((nI_leI (a := 8) (b := nc) (by omega) (by omega)).mpr h)
                refine lv_aload_n hx hb dX4_takes_81 rfl (lv_at hl 0 rfl) ?_
                refine lv_iconst (v := 0) hx hb dX4_takes_82 (by decide) ?_
                refine va_put (D := D) (ci := 6) (v := .int 0) (ty := .int) (C := RX4) (T := TX4) (N := 8) hx hb hts (by decide +kernel) tyX4 tyX4_ok nmX4 hown hK hP hD hS 0 rfl rfl 5 (by decide) (hts (.fieldLink RX4 28 "LandDeeds$Text" "part" "I") (by decide +kernel)) (fun _ h9 => h9) rfl (by decide +kernel) rfl rfl (Nat.le_of_ble_eq_true rfl) dX4_takes_83 (fun H locs hP hD hS => ?_)
                have hP : va_P D vwCl [(h0, .inr (6, [.ref as, .ref ae, .ref an, .int ln, .int (nI nc), .int 0, .int tw, .int (nI nm)])), (ae, .inl (cI, 8, .inl fe)), (an, .inl (cI, 8, .inl fn))] H := hP
                have hD : va_D A [(h0, .inr (6, [.ref as, .ref ae, .ref an, .int ln, .int (nI nc), .int 0, .int tw, .int (nI nm)])), (ae, .inl (cI, 8, .inl fe)), (an, .inl (cI, 8, .inl fn))] := hD
                refine lv_iconst (v := 1) hx hb dX4_takes_86 (by decide) ?_
                rw [← hQ]
                have hP9 := hP
                have hD9 := hD
                exact W.zret (v := 1) hx hb hr (by decide) (fun t ht hW => ⟨⟨_, (nc, 0, nm, tw, fe, fn), rfl, Or.inl ⟨rfl, (((stepT_nd (by omega) (by simp only [Int32.lt_iff_toInt_lt, li_48, li_57] at c_2; omega)).trans (if_neg nc_3)).trans (if_neg (fun q => by first | exact nc_4 q.1 | exact nc_7 q.2))).trans (if_pos ⟨c_8, by omega⟩)⟩, by rw [ht]; exact hP9, hD9⟩, hS.F ht⟩) hS.2.2 dX4_takes_87
          · skip
            have nc_7 := zb_ne0.mp c_7
            refine lv_aload_n hx hb dX4_takes_58 rfl (lv_at hl 0 rfl) ?_
            refine lv_iconst (v := 2) hx hb dX4_takes_59 (by decide) ?_
            refine lv_iload_n hx hb dX4_takes_60 rfl (lv_at hl 1 rfl) ?_
            have hPc := hP.sub (ws' := [(h0, .inr (6, [.ref as, .ref ae, .ref an, .int ln, .int ((nI nc)), .int ((nI pt)), .int tw, .int ((nI nm))]))]) [0] rfl
            have hDc := hD.sub (ws' := [(h0, .inr (6, [.ref as, .ref ae, .ref an, .int ln, .int ((nI nc)), .int ((nI pt)), .int tw, .int ((nI nm))]))]) [0] (by decide) rfl
            have hFc := va_free (wc := [(h0, .inr (6, [.ref as, .ref ae, .ref an, .int ln, .int ((nI nc)), .int ((nI pt)), .int tw, .int ((nI nm))]))]) hD hS hA [0] rfl
            refine va_callv (va_runV (As := [.int 2, .int x]) (rest := []) ⟨hx, hb, hml, hown, hts⟩ (c_X4_openLeg l D cI cB cZ cP s.heap.size h0 as ae an ln (nI nc) (nI pt) tw (nI nm) 2 x ) (cwV 2 hts gX4_takes_X4_openLeg rfl rfl rfl (by decide +kernel) ⟨Nat.le_of_ble_eq_true rfl, Nat.le_of_ble_eq_true rfl⟩) (pVQ (q0 := 0) hPc hDc hW0 EF.t rfl rfl) rfl rfl hl.1 rfl (lv_room (Nat.le_of_ble_eq_true rfl)) dX4_takes_61 ⟨Nat.le_of_ble_eq_true rfl, Nat.le_of_ble_eq_true rfl⟩) hS (fun q _ h => hFc q h) hFc (fun u t H1 locs ht hvm hw hB hz1 hk1 hS => ?_)
            obtain ⟨hP1, hD1⟩ := hB
            rw [ht] at hP1
            have hw_10 : True := hw
            obtain ⟨hP, hD⟩ := va_join (wr := [(ae, .inl (cI, 8, .inl fe)), (an, .inl (cI, 8, .inl fn))]) (w1 := [(h0, .inr (6, [.ref as, .ref ae, .ref an, .int ln, .int ((nI nc)), .int 2, .int (dirT x), .int 0]))]) hP hD [0] [1, 2] rfl rfl (by decide) (by decide) hk1 hFc hP1 hD1
            generalize H1 = H at hP hS ⊢
            have hP := hP.sub (ws' := [(h0, .inr (6, [.ref as, .ref ae, .ref an, .int ln, .int ((nI nc)), .int 2, .int (dirT x), .int 0])), (ae, .inl (cI, 8, .inl fe)), (an, .inl (cI, 8, .inl fn))]) [2, 0, 1] rfl
            have hD := hD.sub (ws' := [(h0, .inr (6, [.ref as, .ref ae, .ref an, .int ln, .int ((nI nc)), .int 2, .int (dirT x), .int 0])), (ae, .inl (cI, 8, .inl fe)), (an, .inl (cI, 8, .inl fn))]) [2, 0, 1] (by decide) rfl
            refine lv_iconst (v := 1) hx hb dX4_takes_64 (by decide) ?_
            rw [← hQ]
            have hP9 := hP
            have hD9 := hD
            exact W.zret (v := 1) hx hb hr (by decide) (fun t ht hW => ⟨⟨_, (nc, 2, 0, dirT x, fe, fn), rfl, Or.inl ⟨rfl, ((stepT_nd (by omega) (by simp only [Int32.lt_iff_toInt_lt, li_48, li_57] at c_2; omega)).trans (if_neg nc_3)).trans (if_pos ⟨nc_4, nc_7⟩)⟩, by rw [ht]; exact hP9, hD9⟩, hS.F ht⟩) hS.2.2 dX4_takes_65
      · skip
        have nc_3 : nm = 0 := (nI_eq (a := nm) (b := 0) (by omega) (by omega)).mp c_3
        refine lv_iconst (v := 0) hx hb dX4_takes_41 (by decide) ?_
        rw [← hQ]
        have hP9 := hP
        have hD9 := hD
        exact W.zret (v := 0) hx hb hr (by decide) (fun t ht hW => ⟨⟨_, (nc, pt, nm, tw, fe, fn), rfl, Or.inr ⟨rfl, (stepT_nd (by omega) (by simp only [Int32.lt_iff_toInt_lt, li_48, li_57] at c_2; omega)).trans (if_pos nc_3), rfl⟩, by rw [ht]; exact hP9, hD9⟩, hS.F ht⟩) hS.2.2 dX4_takes_42
    · skip
      refine lv_iload_n hx hb dX4_takes_19 rfl (lv_at hl 1 rfl) ?_
      refine lv_bipush (v := 57) hx hb dX4_takes_20 (by decide) ?_
      refine lv_icmp_gt (tgt := 34) hx hb dX4_takes_22 (by decide) (fun c_11 => ?_) (fun c_11 => ?_)
      · skip
        refine lv_aload_n hx hb dX4_takes_34 rfl (lv_at hl 0 rfl) ?_
        refine va_get (D := D) (ci := 6) (v := .int (nI nm)) (C := RX4) (T := TX4) (N := 8) hx hb hts (by decide +kernel) hown hK hP 0 rfl rfl 7 (by decide) (hts (.fieldLink RX4 35 "LandDeeds$Text" "number" "I") (by decide +kernel)) (fun _ h9 => h9) rfl dX4_takes_35 ?_
        refine lv_if_ne (tgt := 43) hx hb dX4_takes_38 (by decide) (fun c_12 => ?_) (fun c_12 => ?_)
        · skip
          have nc_12 : ¬ (nm = 0) := fun h => c_12 ((nI_eq (a := nm) (b := 0) (by omega) (by omega)).mpr h)
          refine lv_aload_n hx hb dX4_takes_43 rfl (lv_at hl 0 rfl) ?_
          refine va_get (D := D) (ci := 6) (v := .int (nI pt)) (C := RX4) (T := TX4) (N := 8) hx hb hts (by decide +kernel) hown hK hP 0 rfl rfl 5 (by decide) (hts (.fieldLink RX4 28 "LandDeeds$Text" "part" "I") (by decide +kernel)) (fun _ h9 => h9) rfl dX4_takes_44 ?_
          refine lv_iconst (v := 1) hx hb dX4_takes_47 (by decide) ?_
          refine lv_icmp_ne (tgt := 66) hx hb dX4_takes_48 (by decide) (fun c_13 => ?_) (fun c_13 => ?_)
          · skip
            have nc_13 : ¬ (pt = 1) := fun h => c_13 ((nI_eq (a := pt) (b := 1) (by omega) (by omega)).mpr h)
            refine lv_iload_n hx hb dX4_takes_66 rfl (lv_at hl 1 rfl) ?_
            refine lv_bipush (v := 59) hx hb dX4_takes_67 (by decide) ?_
            refine lv_icmp_ne (tgt := 88) hx hb dX4_takes_69 (by decide) (fun c_14 => ?_) (fun c_14 => ?_)
            · skip
              refine lv_iconst (v := 0) hx hb dX4_takes_88 (by decide) ?_
              rw [← hQ]
              have hP9 := hP
              have hD9 := hD
              exact W.zret (v := 0) hx hb hr (by decide) (fun t ht hW => ⟨⟨_, (nc, pt, nm, tw, fe, fn), rfl, Or.inr ⟨rfl, (((stepT_nd (by omega) (by simp only [Int32.lt_iff_toInt_lt, li_48, li_57] at c_2 c_11; omega)).trans (if_neg nc_12)).trans (if_neg (fun q => by first | exact nc_13 q.1 | exact nc_14 q.2))).trans (if_neg (fun q => by first | exact c_14 q.1 | omega)), rfl⟩, by rw [ht]; exact hP9, hD9⟩, hS.F ht⟩) hS.2.2 dX4_takes_89
            · skip
              refine lv_aload_n hx hb dX4_takes_72 rfl (lv_at hl 0 rfl) ?_
              refine va_get (D := D) (ci := 6) (v := .int (nI nc)) (C := RX4) (T := TX4) (N := 8) hx hb hts (by decide +kernel) hown hK hP 0 rfl rfl 4 (by decide) (hts (.fieldLink RX4 25 "LandDeeds$Text" "calls" "I") (by decide +kernel)) (fun _ h9 => h9) rfl dX4_takes_73 ?_
              refine lv_bipush (v := 8) hx hb dX4_takes_76 (by decide) ?_
              refine lv_icmp_ge (tgt := 88) hx hb dX4_takes_78 (by decide) (fun c_15 => ?_) (fun c_15 => ?_)
              · skip
                have nc_15 : 8 ≤ nc := (nI_leI (a := 8) (b := nc) (by omega) (by omega)).mp c_15
                refine lv_iconst (v := 0) hx hb dX4_takes_88 (by decide) ?_
                rw [← hQ]
                have hP9 := hP
                have hD9 := hD
                exact W.zret (v := 0) hx hb hr (by decide) (fun t ht hW => ⟨⟨_, (nc, pt, nm, tw, fe, fn), rfl, Or.inr ⟨rfl, (((stepT_nd (by omega) (by simp only [Int32.lt_iff_toInt_lt, li_48, li_57] at c_2 c_11; omega)).trans (if_neg nc_12)).trans (if_neg (fun q => by first | exact nc_13 q.1 | exact nc_14 q.2))).trans (if_neg (fun q => by first | exact c_15 q.1 | omega)), rfl⟩, by rw [ht]; exact hP9, hD9⟩, hS.F ht⟩) hS.2.2 dX4_takes_89
              · skip
                have nc_15 : ¬ (8 ≤ nc) := fun h => c_15 ((nI_leI (a := 8) (b := nc) (by omega) (by omega)).mpr h)
                refine lv_aload_n hx hb dX4_takes_81 rfl (lv_at hl 0 rfl) ?_
                refine lv_iconst (v := 0) hx hb dX4_takes_82 (by decide) ?_
                refine va_put (D := D) (ci := 6) (v := .int 0) (ty := .int) (C := RX4) (T := TX4) (N := 8) hx hb hts (by decide +kernel) tyX4 tyX4_ok nmX4 hown hK hP hD hS 0 rfl rfl 5 (by decide) (hts (.fieldLink RX4 28 "LandDeeds$Text" "part" "I") (by decide +kernel)) (fun _ h9 => h9) rfl (by decide +kernel) rfl rfl (Nat.le_of_ble_eq_true rfl) dX4_takes_83 (fun H locs hP hD hS => ?_)
                have hP : va_P D vwCl [(h0, .inr (6, [.ref as, .ref ae, .ref an, .int ln, .int (nI nc), .int 0, .int tw, .int (nI nm)])), (ae, .inl (cI, 8, .inl fe)), (an, .inl (cI, 8, .inl fn))] H := hP
                have hD : va_D A [(h0, .inr (6, [.ref as, .ref ae, .ref an, .int ln, .int (nI nc), .int 0, .int tw, .int (nI nm)])), (ae, .inl (cI, 8, .inl fe)), (an, .inl (cI, 8, .inl fn))] := hD
                refine lv_iconst (v := 1) hx hb dX4_takes_86 (by decide) ?_
                rw [← hQ]
                have hP9 := hP
                have hD9 := hD
                exact W.zret (v := 1) hx hb hr (by decide) (fun t ht hW => ⟨⟨_, (nc, 0, nm, tw, fe, fn), rfl, Or.inl ⟨rfl, (((stepT_nd (by omega) (by simp only [Int32.lt_iff_toInt_lt, li_48, li_57] at c_2 c_11; omega)).trans (if_neg nc_12)).trans (if_neg (fun q => by first | exact nc_13 q.1 | exact nc_14 q.2))).trans (if_pos ⟨c_14, by omega⟩)⟩, by rw [ht]; exact hP9, hD9⟩, hS.F ht⟩) hS.2.2 dX4_takes_87
          · skip
            have nc_13 : pt = 1 := (nI_eq (a := pt) (b := 1) (by omega) (by omega)).mp c_13
            refine lv_iload_n hx hb dX4_takes_51 rfl (lv_at hl 1 rfl) ?_
            have hPc := hP.sub (ws' := []) [] rfl
            refine u_callSi (W.runS (As := [.int x]) (rest := []) ⟨hx, hb, hml, hown, hts⟩ (c_X4_isEastOrWest l D cI cB cZ cP x ) (cwS 1 hts gX4_takes_X4_isEastOrWest rfl rfl rfl (by decide +kernel) ⟨Nat.le_of_ble_eq_true rfl, Nat.le_of_ble_eq_true rfl⟩) (pS hPc hW0 trivial) rfl rfl hl.1 rfl (lv_room (Nat.le_of_ble_eq_true rfl)) dX4_takes_52 ⟨Nat.le_of_ble_eq_true rfl, Nat.le_of_ble_eq_true rfl⟩) ?_
            refine lv_if_eq (tgt := 66) hx hb dX4_takes_55 (by decide) (fun c_16 => ?_) (fun c_16 => ?_)
            · skip
              have nc_16 := zb_eq0.mp c_16
              refine lv_iload_n hx hb dX4_takes_66 rfl (lv_at hl 1 rfl) ?_
              refine lv_bipush (v := 59) hx hb dX4_takes_67 (by decide) ?_
              refine lv_icmp_ne (tgt := 88) hx hb dX4_takes_69 (by decide) (fun c_17 => ?_) (fun c_17 => ?_)
              · skip
                refine lv_iconst (v := 0) hx hb dX4_takes_88 (by decide) ?_
                rw [← hQ]
                have hP9 := hP
                have hD9 := hD
                exact W.zret (v := 0) hx hb hr (by decide) (fun t ht hW => ⟨⟨_, (nc, pt, nm, tw, fe, fn), rfl, Or.inr ⟨rfl, (((stepT_nd (by omega) (by simp only [Int32.lt_iff_toInt_lt, li_48, li_57] at c_2 c_11; omega)).trans (if_neg nc_12)).trans (if_neg (fun q => by first | exact nc_13 q.1 | exact nc_16 q.2))).trans (if_neg (fun q => by first | exact c_17 q.1 | omega)), rfl⟩, by rw [ht]; exact hP9, hD9⟩, hS.F ht⟩) hS.2.2 dX4_takes_89
              · skip
                refine lv_aload_n hx hb dX4_takes_72 rfl (lv_at hl 0 rfl) ?_
                refine va_get (D := D) (ci := 6) (v := .int (nI nc)) (C := RX4) (T := TX4) (N := 8) hx hb hts (by decide +kernel) hown hK hP 0 rfl rfl 4 (by decide) (hts (.fieldLink RX4 25 "LandDeeds$Text" "calls" "I") (by decide +kernel)) (fun _ h9 => h9) rfl dX4_takes_73 ?_
                refine lv_bipush (v := 8) hx hb dX4_takes_76 (by decide) ?_
                refine lv_icmp_ge (tgt := 88) hx hb dX4_takes_78 (by decide) (fun c_18 => ?_) (fun c_18 => ?_)
                · skip
                  have nc_18 : 8 ≤ nc := (nI_leI (a := 8) (b := nc) (by omega) (by omega)).mp c_18
                  refine lv_iconst (v := 0) hx hb dX4_takes_88 (by decide) ?_
                  rw [← hQ]
                  have hP9 := hP
                  have hD9 := hD
                  exact W.zret (v := 0) hx hb hr (by decide) (fun t ht hW => ⟨⟨_, (nc, pt, nm, tw, fe, fn), rfl, Or.inr ⟨rfl, (((stepT_nd (by omega) (by simp only [Int32.lt_iff_toInt_lt, li_48, li_57] at c_2 c_11; omega)).trans (if_neg nc_12)).trans (if_neg (fun q => by first | exact nc_13 q.1 | exact nc_16 q.2))).trans (if_neg (fun q => by first | exact c_18 q.1 | omega)), rfl⟩, by rw [ht]; exact hP9, hD9⟩, hS.F ht⟩) hS.2.2 dX4_takes_89
                · skip
                  have nc_18 : ¬ (8 ≤ nc) := fun h => c_18 ((nI_leI (a := 8) (b := nc) (by omega) (by omega)).mpr h)
                  refine lv_aload_n hx hb dX4_takes_81 rfl (lv_at hl 0 rfl) ?_
                  refine lv_iconst (v := 0) hx hb dX4_takes_82 (by decide) ?_
                  refine va_put (D := D) (ci := 6) (v := .int 0) (ty := .int) (C := RX4) (T := TX4) (N := 8) hx hb hts (by decide +kernel) tyX4 tyX4_ok nmX4 hown hK hP hD hS 0 rfl rfl 5 (by decide) (hts (.fieldLink RX4 28 "LandDeeds$Text" "part" "I") (by decide +kernel)) (fun _ h9 => h9) rfl (by decide +kernel) rfl rfl (Nat.le_of_ble_eq_true rfl) dX4_takes_83 (fun H locs hP hD hS => ?_)
                  have hP : va_P D vwCl [(h0, .inr (6, [.ref as, .ref ae, .ref an, .int ln, .int (nI nc), .int 0, .int tw, .int (nI nm)])), (ae, .inl (cI, 8, .inl fe)), (an, .inl (cI, 8, .inl fn))] H := hP
                  have hD : va_D A [(h0, .inr (6, [.ref as, .ref ae, .ref an, .int ln, .int (nI nc), .int 0, .int tw, .int (nI nm)])), (ae, .inl (cI, 8, .inl fe)), (an, .inl (cI, 8, .inl fn))] := hD
                  refine lv_iconst (v := 1) hx hb dX4_takes_86 (by decide) ?_
                  rw [← hQ]
                  have hP9 := hP
                  have hD9 := hD
                  exact W.zret (v := 1) hx hb hr (by decide) (fun t ht hW => ⟨⟨_, (nc, 0, nm, tw, fe, fn), rfl, Or.inl ⟨rfl, (((stepT_nd (by omega) (by simp only [Int32.lt_iff_toInt_lt, li_48, li_57] at c_2 c_11; omega)).trans (if_neg nc_12)).trans (if_neg (fun q => by first | exact nc_13 q.1 | exact nc_16 q.2))).trans (if_pos ⟨c_17, by omega⟩)⟩, by rw [ht]; exact hP9, hD9⟩, hS.F ht⟩) hS.2.2 dX4_takes_87
            · skip
              have nc_16 := zb_ne0.mp c_16
              refine lv_aload_n hx hb dX4_takes_58 rfl (lv_at hl 0 rfl) ?_
              refine lv_iconst (v := 2) hx hb dX4_takes_59 (by decide) ?_
              refine lv_iload_n hx hb dX4_takes_60 rfl (lv_at hl 1 rfl) ?_
              have hPc := hP.sub (ws' := [(h0, .inr (6, [.ref as, .ref ae, .ref an, .int ln, .int ((nI nc)), .int ((nI pt)), .int tw, .int ((nI nm))]))]) [0] rfl
              have hDc := hD.sub (ws' := [(h0, .inr (6, [.ref as, .ref ae, .ref an, .int ln, .int ((nI nc)), .int ((nI pt)), .int tw, .int ((nI nm))]))]) [0] (by decide) rfl
              have hFc := va_free (wc := [(h0, .inr (6, [.ref as, .ref ae, .ref an, .int ln, .int ((nI nc)), .int ((nI pt)), .int tw, .int ((nI nm))]))]) hD hS hA [0] rfl
              refine va_callv (va_runV (As := [.int 2, .int x]) (rest := []) ⟨hx, hb, hml, hown, hts⟩ (c_X4_openLeg l D cI cB cZ cP s.heap.size h0 as ae an ln (nI nc) (nI pt) tw (nI nm) 2 x ) (cwV 2 hts gX4_takes_X4_openLeg rfl rfl rfl (by decide +kernel) ⟨Nat.le_of_ble_eq_true rfl, Nat.le_of_ble_eq_true rfl⟩) (pVQ (q0 := 0) hPc hDc hW0 EF.t rfl rfl) rfl rfl hl.1 rfl (lv_room (Nat.le_of_ble_eq_true rfl)) dX4_takes_61 ⟨Nat.le_of_ble_eq_true rfl, Nat.le_of_ble_eq_true rfl⟩) hS (fun q _ h => hFc q h) hFc (fun u t H1 locs ht hvm hw hB hz1 hk1 hS => ?_)
              obtain ⟨hP1, hD1⟩ := hB
              rw [ht] at hP1
              have hw_19 : True := hw
              obtain ⟨hP, hD⟩ := va_join (wr := [(ae, .inl (cI, 8, .inl fe)), (an, .inl (cI, 8, .inl fn))]) (w1 := [(h0, .inr (6, [.ref as, .ref ae, .ref an, .int ln, .int ((nI nc)), .int 2, .int (dirT x), .int 0]))]) hP hD [0] [1, 2] rfl rfl (by decide) (by decide) hk1 hFc hP1 hD1
              generalize H1 = H at hP hS ⊢
              have hP := hP.sub (ws' := [(h0, .inr (6, [.ref as, .ref ae, .ref an, .int ln, .int ((nI nc)), .int 2, .int (dirT x), .int 0])), (ae, .inl (cI, 8, .inl fe)), (an, .inl (cI, 8, .inl fn))]) [2, 0, 1] rfl
              have hD := hD.sub (ws' := [(h0, .inr (6, [.ref as, .ref ae, .ref an, .int ln, .int ((nI nc)), .int 2, .int (dirT x), .int 0])), (ae, .inl (cI, 8, .inl fe)), (an, .inl (cI, 8, .inl fn))]) [2, 0, 1] (by decide) rfl
              refine lv_iconst (v := 1) hx hb dX4_takes_64 (by decide) ?_
              rw [← hQ]
              have hP9 := hP
              have hD9 := hD
              exact W.zret (v := 1) hx hb hr (by decide) (fun t ht hW => ⟨⟨_, (nc, 2, 0, dirT x, fe, fn), rfl, Or.inl ⟨rfl, ((stepT_nd (by omega) (by simp only [Int32.lt_iff_toInt_lt, li_48, li_57] at c_2 c_11; omega)).trans (if_neg nc_12)).trans (if_pos ⟨nc_13, nc_16⟩)⟩, by rw [ht]; exact hP9, hD9⟩, hS.F ht⟩) hS.2.2 dX4_takes_65
        · skip
          have nc_12 : nm = 0 := (nI_eq (a := nm) (b := 0) (by omega) (by omega)).mp c_12
          refine lv_iconst (v := 0) hx hb dX4_takes_41 (by decide) ?_
          rw [← hQ]
          have hP9 := hP
          have hD9 := hD
          exact W.zret (v := 0) hx hb hr (by decide) (fun t ht hW => ⟨⟨_, (nc, pt, nm, tw, fe, fn), rfl, Or.inr ⟨rfl, (stepT_nd (by omega) (by simp only [Int32.lt_iff_toInt_lt, li_48, li_57] at c_2 c_11; omega)).trans (if_pos nc_12), rfl⟩, by rw [ht]; exact hP9, hD9⟩, hS.F ht⟩) hS.2.2 dX4_takes_42
      · skip
        refine lv_aload_n hx hb dX4_takes_25 rfl (lv_at hl 0 rfl) ?_
        refine lv_iload_n hx hb dX4_takes_26 rfl (lv_at hl 1 rfl) ?_
        refine lv_bipush (v := 48) hx hb dX4_takes_27 (by decide) ?_
        refine lv_isub hx hb dX4_takes_29 ?_
        refine u_eqi (show x - 48 = nI (x.toInt - 48).toNat from dig_eq (by simp only [Int32.lt_iff_toInt_lt, li_48] at c_2; omega) (by simp only [Int32.lt_iff_toInt_lt, li_57] at c_11; omega)) ?_
        have hPc := hP.sub (ws' := [(h0, .inr (6, [.ref as, .ref ae, .ref an, .int ln, .int (nI nc), .int (nI pt), .int tw, .int (nI nm)])), (ae, .inl (cI, 8, .inl fe)), (an, .inl (cI, 8, .inl fn))]) [0, 1, 2] rfl
        have hDc := hD.sub (ws' := [(h0, .inr (6, [.ref as, .ref ae, .ref an, .int ln, .int (nI nc), .int (nI pt), .int tw, .int (nI nm)])), (ae, .inl (cI, 8, .inl fe)), (an, .inl (cI, 8, .inl fn))]) [0, 1, 2] (by decide) rfl
        have hFc := va_free (wc := [(h0, .inr (6, [.ref as, .ref ae, .ref an, .int ln, .int (nI nc), .int (nI pt), .int tw, .int (nI nm)])), (ae, .inl (cI, 8, .inl fe)), (an, .inl (cI, 8, .inl fn))]) hD hS hA [0, 1, 2] rfl
        refine va_calli (va_runV (As := [.int (nI (x.toInt - 48).toNat)]) (rest := []) ⟨hx, hb, hml, hown, hts⟩ (c_X4_takesDigit l D cI cB cZ cP s.heap.size h0 as ae an ln tw nc pt nm fe fn ((x.toInt - 48).toNat) (by first | assumption | omega) (hn1 (by omega)) (by first | assumption | omega) (by simp only [Int32.lt_iff_toInt_lt, li_48, li_57] at c_2 c_11; omega) (by first | assumption | omega)) (cwV 1 hts gX4_takes_X4_takesDigit rfl rfl rfl (by decide +kernel) ⟨Nat.le_of_ble_eq_true rfl, Nat.le_of_ble_eq_true rfl⟩) (pVQ (q0 := 0) hPc hDc hW0 EF.t rfl rfl) rfl rfl hl.1 rfl (lv_room (Nat.le_of_ble_eq_true rfl)) dX4_takes_30 ⟨Nat.le_of_ble_eq_true rfl, Nat.le_of_ble_eq_true rfl⟩) hS (fun q _ h => hFc q h) hFc (fun r_20 u t H1 locs ht hvm hw hB hz1 hk1 hS => ?_)
        obtain ⟨nm1_20, fe1_20, fn1_20⟩ := u
        obtain ⟨hP1, hD1⟩ := hB
        rw [ht] at hP1
        have hw_20 : (r_20 = 1 ∧ (1 ≤ nm * 10 + ((x.toInt - 48).toNat) ∧ nm * 10 + ((x.toInt - 48).toNat) ≤ 31) ∧ nm1_20 = nm * 10 + ((x.toInt - 48).toNat) ∧ fe1_20 = (if pt = 1 then fe else upd fe (nc - 1) (tw * nI (nm * 10 + ((x.toInt - 48).toNat)))) ∧ fn1_20 = (if pt = 1 then upd fn (nc - 1) (tw * nI (nm * 10 + ((x.toInt - 48).toNat))) else fn)) ∨ (r_20 = 0 ∧ ¬ (1 ≤ nm * 10 + ((x.toInt - 48).toNat) ∧ nm * 10 + ((x.toInt - 48).toNat) ≤ 31) ∧ nm1_20 = nm ∧ fe1_20 = fe ∧ fn1_20 = fn) := hw
        obtain ⟨hP, hD⟩ := va_join (wr := []) (w1 := [(h0, .inr (6, [.ref as, .ref ae, .ref an, .int ln, .int (nI nc), .int (nI pt), .int tw, .int (nI nm1_20)])), (ae, .inl (cI, 8, .inl fe1_20)), (an, .inl (cI, 8, .inl fn1_20))]) hP hD [0, 1, 2] [] rfl rfl (by decide) (by decide) hk1 hFc hP1 hD1
        generalize H1 = H at hP hS ⊢
        have hP := hP.sub (ws' := [(h0, .inr (6, [.ref as, .ref ae, .ref an, .int ln, .int (nI nc), .int (nI pt), .int tw, .int (nI nm1_20)])), (ae, .inl (cI, 8, .inl fe1_20)), (an, .inl (cI, 8, .inl fn1_20))]) [0, 1, 2] rfl
        have hD := hD.sub (ws' := [(h0, .inr (6, [.ref as, .ref ae, .ref an, .int ln, .int (nI nc), .int (nI pt), .int tw, .int (nI nm1_20)])), (ae, .inl (cI, 8, .inl fe1_20)), (an, .inl (cI, 8, .inl fn1_20))]) [0, 1, 2] (by decide) rfl
        rw [← hQ]
        have hP9 := hP
        have hD9 := hD
        exact W.zret (v := r_20) hx hb hr (by rcases hw_20 with h | h <;> rw [h.1] <;> rfl) (fun t ht hW => ⟨⟨_, (nc, pt, nm1_20, tw, fe1_20, fn1_20), rfl, stepT_dg (by omega) ⟨by simp only [Int32.lt_iff_toInt_lt, li_48] at c_2; omega, by simp only [Int32.lt_iff_toInt_lt, li_57] at c_11; omega⟩ hw_20, by rw [ht]; exact hP9, hD9⟩, hS.F ht⟩) hS.2.2 dX4_takes_33
  · skip
    have nc_1 : pt = 0 := (nI_eq (a := pt) (b := 0) (by omega) (by omega)).mp c_1
    refine lv_aload_n hx hb dX4_takes_7 rfl (lv_at hl 0 rfl) ?_
    refine lv_iload_n hx hb dX4_takes_8 rfl (lv_at hl 1 rfl) ?_
    have hPc := hP.sub (ws' := [(h0, .inr (6, [.ref as, .ref ae, .ref an, .int ln, .int (nI nc), .int (nI pt), .int tw, .int (nI nm)])), (ae, .inl (cI, 8, .inl fe)), (an, .inl (cI, 8, .inl fn))]) [0, 1, 2] rfl
    have hDc := hD.sub (ws' := [(h0, .inr (6, [.ref as, .ref ae, .ref an, .int ln, .int (nI nc), .int (nI pt), .int tw, .int (nI nm)])), (ae, .inl (cI, 8, .inl fe)), (an, .inl (cI, 8, .inl fn))]) [0, 1, 2] (by decide) rfl
    have hFc := va_free (wc := [(h0, .inr (6, [.ref as, .ref ae, .ref an, .int ln, .int (nI nc), .int (nI pt), .int tw, .int (nI nm)])), (ae, .inl (cI, 8, .inl fe)), (an, .inl (cI, 8, .inl fn))]) hD hS hA [0, 1, 2] rfl
    refine va_calli (va_runV (As := [.int x]) (rest := []) ⟨hx, hb, hml, hown, hts⟩ (c_X4_opensCall l D cI cB cZ cP s.heap.size h0 as ae an ln tw nc pt nm fe fn x (by first | assumption | omega) (by first | assumption | omega)) (cwV 1 hts gX4_takes_X4_opensCall rfl rfl rfl (by decide +kernel) ⟨Nat.le_of_ble_eq_true rfl, Nat.le_of_ble_eq_true rfl⟩) (pVQ (q0 := 0) hPc hDc hW0 EF.t rfl rfl) rfl rfl hl.1 rfl (lv_room (Nat.le_of_ble_eq_true rfl)) dX4_takes_9 ⟨Nat.le_of_ble_eq_true rfl, Nat.le_of_ble_eq_true rfl⟩) hS (fun q _ h => hFc q h) hFc (fun r_21 u t H1 locs ht hvm hw hB hz1 hk1 hS => ?_)
    obtain ⟨nc1_21, pt1_21, nm1_21, tw1_21, fe1_21, fn1_21⟩ := u
    obtain ⟨hP1, hD1⟩ := hB
    rw [ht] at hP1
    have hw_21 : (r_21 = 1 ∧ stepT x (nc, pt, nm, tw, fe, fn) = some (nc1_21, pt1_21, nm1_21, tw1_21, fe1_21, fn1_21)) ∨ (r_21 = 0 ∧ stepT x (nc, pt, nm, tw, fe, fn) = none ∧ (nc1_21, pt1_21, nm1_21, tw1_21, fe1_21, fn1_21) = ((nc, pt, nm, tw, fe, fn) : TS)) := hw
    obtain ⟨hP, hD⟩ := va_join (wr := []) (w1 := [(h0, .inr (6, [.ref as, .ref ae, .ref an, .int ln, .int (nI nc1_21), .int (nI pt1_21), .int tw1_21, .int (nI nm1_21)])), (ae, .inl (cI, 8, .inl fe1_21)), (an, .inl (cI, 8, .inl fn1_21))]) hP hD [0, 1, 2] [] rfl rfl (by decide) (by decide) hk1 hFc hP1 hD1
    generalize H1 = H at hP hS ⊢
    have hP := hP.sub (ws' := [(h0, .inr (6, [.ref as, .ref ae, .ref an, .int ln, .int (nI nc1_21), .int (nI pt1_21), .int tw1_21, .int (nI nm1_21)])), (ae, .inl (cI, 8, .inl fe1_21)), (an, .inl (cI, 8, .inl fn1_21))]) [0, 1, 2] rfl
    have hD := hD.sub (ws' := [(h0, .inr (6, [.ref as, .ref ae, .ref an, .int ln, .int (nI nc1_21), .int (nI pt1_21), .int tw1_21, .int (nI nm1_21)])), (ae, .inl (cI, 8, .inl fe1_21)), (an, .inl (cI, 8, .inl fn1_21))]) [0, 1, 2] (by decide) rfl
    rw [← hQ]
    have hP9 := hP
    have hD9 := hD
    exact W.zret (v := r_21) hx hb hr (by rcases hw_21 with h | h <;> rw [h.1] <;> rfl) (fun t ht hW => ⟨⟨_, (nc1_21, pt1_21, nm1_21, tw1_21, fe1_21, fn1_21), rfl, hw_21, by rw [ht]; exact hP9, hD9⟩, hS.F ht⟩) hS.2.2 dX4_takes_12

set_option maxHeartbeats 4000000 in
set_option maxRecDepth 100000 in
theorem c_X4_read (l : Launch) (D : va_G) (cI cB cZ cP : ClassId) (sz : Nat) (h0 as ae an n0 : Nat) (tw : Int32) (nc pt nm : Nat) (fs fe fn : Nat → Int32) (hn0 : n0 ≤ 48) (hnm : nm ≤ 31) : Met l yX4_read wsX4_read ({ frames := 3, cells := 0, slots := 0, locals := 65 } : Room) (va_Pc [.ref h0] (fun U => U.heap.size = sz ∧ va_P D vwCl [(h0, .inr (6, [.ref as, .ref ae, .ref an, .int (nI n0), .int (nI nc), .int (nI pt), .int tw, .int (nI nm)])), (as, .inl (cI, 48, .inl fs)), (ae, .inl (cI, 8, .inl fe)), (an, .inl (cI, 8, .inl fn))] U.heap ∧ KW D cI cB cZ cP U ∧ va_D (fun _ => True) [(h0, .inr (6, [.ref as, .ref ae, .ref an, .int (nI n0), .int (nI nc), .int (nI pt), .int tw, .int (nI nm)])), (as, .inl (cI, 48, .inl fs)), (ae, .inl (cI, 8, .inl fe)), (an, .inl (cI, 8, .inl fn))] ∧ EF [(h0, .inr (6, [.ref as, .ref ae, .ref an, .int (nI n0), .int (nI nc), .int (nI pt), .int tw, .int (nI nm)])), (as, .inl (cI, 48, .inl fs)), (ae, .inl (cI, 8, .inl fe)), (an, .inl (cI, 8, .inl fn))] sz E0 U.heap)) (va_Qi (fun r (u : Nat × Nat × Nat × Int32 × (Nat → Int32) × (Nat → Int32)) => match u with | (nc1, pt1, nm1, tw1, fe1, fn1) => FltIs fs n0 r ∧ okT (nc1, pt1, nm1, tw1, fe1, fn1) ∧ (r = -6 → ∃ S : TS, runT fs n0 = some S ∧ wholeT S ∧ RelT (nc1, pt1, nm1, tw1, fe1, fn1) S)) (fun (u : Nat × Nat × Nat × Int32 × (Nat → Int32) × (Nat → Int32)) (t : State) => match u with | (nc1, pt1, nm1, tw1, fe1, fn1) => va_P D vwCl [(h0, .inr (6, [.ref as, .ref ae, .ref an, .int (nI n0), .int (nI nc1), .int (nI pt1), .int tw1, .int (nI nm1)])), (as, .inl (cI, 48, .inl fs)), (ae, .inl (cI, 8, .inl fe1)), (an, .inl (cI, 8, .inl fn1))] t.heap ∧ va_D (va_A [(h0, .inr (6, [.ref as, .ref ae, .ref an, .int (nI n0), .int (nI nc), .int (nI pt), .int tw, .int (nI nm)])), (as, .inl (cI, 48, .inl fs)), (ae, .inl (cI, 8, .inl fe)), (an, .inl (cI, 8, .inl fn))] sz) [(h0, .inr (6, [.ref as, .ref ae, .ref an, .int (nI n0), .int (nI nc1), .int (nI pt1), .int tw1, .int (nI nm1)])), (as, .inl (cI, 48, .inl fs)), (ae, .inl (cI, 8, .inl fe1)), (an, .inl (cI, 8, .inl fn1))]) (va_A [(h0, .inr (6, [.ref as, .ref ae, .ref an, .int (nI n0), .int (nI nc), .int (nI pt), .int tw, .int (nI nm)])), (as, .inl (cI, 48, .inl fs)), (ae, .inl (cI, 8, .inl fe)), (an, .inl (cI, 8, .inl fn))] sz)) 0 0 (va_A [(h0, .inr (6, [.ref as, .ref ae, .ref an, .int (nI n0), .int (nI nc), .int (nI pt), .int tw, .int (nI nm)])), (as, .inl (cI, 48, .inl fs)), (ae, .inl (cI, 8, .inl fe)), (an, .inl (cI, 8, .inl fn))] sz) := by
  refine Met.ofW (cc := cX4_read) (maxL := 2) (ret := (some .int)) (by decide) rfl ?_
  intro p e s m args below meth c s₁ B hml hv
  obtain ⟨rfl, hsz, hP, hW0, hD0, hE⟩ := hv
  have hx := B.exec
  have hb := B.bytes
  have hr := B.returns
  have hts := atoms_spec (ws := wsX4_read) B.pre
  have hown : s.vm.findClass RX4 = some m.cls := findClass_of_methodNamed B.named
  have hlocks := B.notSynchronized
  have hK := hW0.1
  subst hsz
  have hD := hD0.self (sz := s.heap.size)
  unfold EF at hE
  generalize hAe : va_A [(h0, .inr (6, [.ref as, .ref ae, .ref an, .int (nI n0), .int (nI nc), .int (nI pt), .int tw, .int (nI nm)])), (as, .inl (cI, 48, .inl fs)), (ae, .inl (cI, 8, .inl fe)), (an, .inl (cI, 8, .inl fn))] s.heap.size = A at hD hE ⊢
  have hA : ∀ q : Nat, s.heap.size ≤ q → A q := fun q h => by rw [← hAe]; exact Or.inr h
  have hS : va_S A s.heap s.heap [] := va_S.rf
  have hl := lv_entry ([.ref h0]) (n := 2) (Nat.le_of_ble_eq_true rfl)
  rw [lg_entry_eq]
  generalize (lg_sl ([.ref h0]) ++ List.replicate (2 - (lg_sl ([.ref h0])).length) Slot.unset).toArray = ls at hl ⊢
  have hl : lv_has ls 2 [(0, .ref h0)] := hl
  show W p l e ({ frames := 3, cells := 0, slots := 0, locals := 65 } : Room) s m ([.ref h0] : List Value).toArray below meth c s.heap [] 0 0 _ (F0 m 0 ls [])
  refine u_genQ (fun Q hQ => ?_)
  refine lv_aload_n hx hb dX4_read_0 rfl (lv_at hl 0 rfl) ?_
  refine lv_iconst (v := 0) hx hb dX4_read_1 (by decide) ?_
  refine va_put (D := D) (ci := 6) (v := .int 0) (ty := .int) (C := RX4) (T := TX4) (N := 8) hx hb hts (by decide +kernel) tyX4 tyX4_ok nmX4 hown hK hP hD hS 0 rfl rfl 4 (by decide) (hts (.fieldLink RX4 25 "LandDeeds$Text" "calls" "I") (by decide +kernel)) (fun _ h9 => h9) rfl (by decide +kernel) rfl rfl (Nat.le_of_ble_eq_true rfl) dX4_read_2 (fun H locs hP hD hS => ?_)
  have hP : va_P D vwCl [(h0, .inr (6, [.ref as, .ref ae, .ref an, .int (nI n0), .int 0, .int (nI pt), .int tw, .int (nI nm)])), (as, .inl (cI, 48, .inl fs)), (ae, .inl (cI, 8, .inl fe)), (an, .inl (cI, 8, .inl fn))] H := hP
  have hD : va_D A [(h0, .inr (6, [.ref as, .ref ae, .ref an, .int (nI n0), .int 0, .int (nI pt), .int tw, .int (nI nm)])), (as, .inl (cI, 48, .inl fs)), (ae, .inl (cI, 8, .inl fe)), (an, .inl (cI, 8, .inl fn))] := hD
  refine lv_aload_n hx hb dX4_read_5 rfl (lv_at hl 0 rfl) ?_
  refine lv_iconst (v := 0) hx hb dX4_read_6 (by decide) ?_
  refine va_put (D := D) (ci := 6) (v := .int 0) (ty := .int) (C := RX4) (T := TX4) (N := 8) hx hb hts (by decide +kernel) tyX4 tyX4_ok nmX4 hown hK hP hD hS 0 rfl rfl 5 (by decide) (hts (.fieldLink RX4 28 "LandDeeds$Text" "part" "I") (by decide +kernel)) (fun _ h9 => h9) rfl (by decide +kernel) rfl rfl (Nat.le_of_ble_eq_true rfl) dX4_read_7 (fun H locs hP hD hS => ?_)
  have hP : va_P D vwCl [(h0, .inr (6, [.ref as, .ref ae, .ref an, .int (nI n0), .int 0, .int 0, .int tw, .int (nI nm)])), (as, .inl (cI, 48, .inl fs)), (ae, .inl (cI, 8, .inl fe)), (an, .inl (cI, 8, .inl fn))] H := hP
  have hD : va_D A [(h0, .inr (6, [.ref as, .ref ae, .ref an, .int (nI n0), .int 0, .int 0, .int tw, .int (nI nm)])), (as, .inl (cI, 48, .inl fs)), (ae, .inl (cI, 8, .inl fe)), (an, .inl (cI, 8, .inl fn))] := hD
  refine lv_iconst (v := 0) hx hb dX4_read_10 (by decide) ?_
  refine lv_istore_n (lv' := [(1, .int 0), (0, .ref h0)]) hx hb dX4_read_11 rfl hl (by decide) rfl (fun ls hl => ?_)
  have LOOP_12 : ∀ (fu : Nat) (ix : Nat) (nc : Nat) (pt : Nat) (nm : Nat) (tw : Int32) (fe : Nat → Int32) (fn : Nat → Int32) (hix : ix ≤ n0) (hR : ∃ S : TS, runT fs ix = some S ∧ RelT (nc, pt, nm, tw, fe, fn) S) (hOK : okT (nc, pt, nm, tw, fe, fn)) (hn : n0 - ix < fu) (H : Heap) (locs : List Loc) (hP : va_P D vwCl [(h0, .inr (6, [.ref as, .ref ae, .ref an, .int (nI n0), .int (nI nc), .int (nI pt), .int tw, .int (nI nm)])), (as, .inl (cI, 48, .inl fs)), (ae, .inl (cI, 8, .inl fe)), (an, .inl (cI, 8, .inl fn))] H) (hD : va_D A [(h0, .inr (6, [.ref as, .ref ae, .ref an, .int (nI n0), .int (nI nc), .int (nI pt), .int tw, .int (nI nm)])), (as, .inl (cI, 48, .inl fs)), (ae, .inl (cI, 8, .inl fe)), (an, .inl (cI, 8, .inl fn))]) (hS : va_S A s.heap H locs) (ls : Array Slot) (hl : lv_has ls 2 [(0, .ref h0), (1, .int (nI ix))]), W p l e ({ frames := 3, cells := 0, slots := 0, locals := 65 } : Room) s m ([.ref h0] : List Value).toArray below meth c H locs 0 0 Q (F0 m 12 ls []) := by
    intro fu
    induction fu with
    | zero => intro ix nc pt nm tw fe fn hix hR hOK hn H locs hP hD hS ls hl; exact absurd hn (Nat.not_lt_zero _)
    | succ fu ih_12 =>
      intro ix nc pt nm tw fe fn hix hR hOK hn H locs hP hD hS ls hl
      refine lv_iload_n hx hb dX4_read_12 rfl (lv_at hl 1 rfl) ?_
      refine lv_aload_n hx hb dX4_read_13 rfl (lv_at hl 0 rfl) ?_
      refine va_get (D := D) (ci := 6) (v := .int (nI n0)) (C := RX4) (T := TX4) (N := 8) hx hb hts (by decide +kernel) hown hK hP 0 rfl rfl 3 (by decide) (hts (.fieldLink RX4 21 "LandDeeds$Text" "length" "I") (by decide +kernel)) (fun _ h9 => h9) rfl dX4_read_14 ?_
      refine lv_icmp_ge (tgt := 50) hx hb dX4_read_17 (by decide) (fun c_1 => ?_) (fun c_1 => ?_)
      · skip
        have nc_1 : n0 ≤ ix := (nI_leI (a := n0) (b := ix) (by omega) (by omega)).mp c_1
        have hix8 : ix = n0 := by omega
        have ok1 : nc ≤ 8 := hOK.1
        have ok2 : pt ≤ 2 := hOK.2.1
        have ok3 : nm ≤ 31 := hOK.2.2.1
        have ok4 : pt ≠ 0 → 1 ≤ nc := hOK.2.2.2
        refine lv_aload_n hx hb dX4_read_50 rfl (lv_at hl 0 rfl) ?_
        refine va_get (D := D) (ci := 6) (v := .int (nI pt)) (C := RX4) (T := TX4) (N := 8) hx hb hts (by decide +kernel) hown hK hP 0 rfl rfl 5 (by decide) (hts (.fieldLink RX4 28 "LandDeeds$Text" "part" "I") (by decide +kernel)) (fun _ h9 => h9) rfl dX4_read_51 ?_
        refine lv_if_eq (tgt := 76) hx hb dX4_read_54 (by decide) (fun c_2 => ?_) (fun c_2 => ?_)
        · skip
          have nc_2 : pt = 0 := (nI_eq (a := pt) (b := 0) (by omega) (by omega)).mp c_2
          refine lv_iconst (v := 0) hx hb dX4_read_76 (by decide) ?_
          refine lv_istore_n (lv' := [(1, .int 0), (0, .ref h0)]) hx hb dX4_read_77 rfl hl (by decide) rfl (fun ls hl => ?_)
          refine lv_iload_n hx hb dX4_read_78 rfl (lv_at hl 0 rfl) ?_
          refine lv_if_eq (tgt := 87) hx hb dX4_read_79 (by decide) (fun c_3 => ?_) (fun c_3 => ?_)
          · skip
            refine lv_aload_n hx hb dX4_read_87 rfl (lv_at hl 1 rfl) ?_
            refine va_get (D := D) (ci := 6) (v := .int (nI n0)) (C := RX4) (T := TX4) (N := 8) hx hb hts (by decide +kernel) hown hK hP 0 rfl rfl 3 (by decide) (hts (.fieldLink RX4 21 "LandDeeds$Text" "length" "I") (by decide +kernel)) (fun _ h9 => h9) rfl dX4_read_88 ?_
            rw [← hQ]
            have hP9 := hP
            have hD9 := hD
            exact W.iret (v := nI n0) hx hb hr (fun t ht hW => ⟨⟨_, (nc, pt, nm, tw, fe, fn), rfl, read_part (hix8 ▸ hR) hOK (fun q => by have q1 : pt ≠ 0 := q.1; have q2 : 0 < nm := q.2.1; have q3 : 3 ≤ nc := q.2.2; omega) hn0, by rw [ht]; exact hP9, hD9⟩, hS.F ht⟩) hS.2.2 dX4_read_91
          · skip
            exact absurd rfl c_3
        · skip
          have nc_2 : ¬ (pt = 0) := fun h => c_2 ((nI_eq (a := pt) (b := 0) (by omega) (by omega)).mpr h)
          refine lv_aload_n hx hb dX4_read_57 rfl (lv_at hl 0 rfl) ?_
          refine va_get (D := D) (ci := 6) (v := .int (nI nm)) (C := RX4) (T := TX4) (N := 8) hx hb hts (by decide +kernel) hown hK hP 0 rfl rfl 7 (by decide) (hts (.fieldLink RX4 35 "LandDeeds$Text" "number" "I") (by decide +kernel)) (fun _ h9 => h9) rfl dX4_read_58 ?_
          refine lv_if_le (tgt := 76) hx hb dX4_read_61 (by decide) (fun c_4 => ?_) (fun c_4 => ?_)
          · skip
            have nc_4 : nm ≤ 0 := (nI_leI (a := nm) (b := 0) (by omega) (by omega)).mp c_4
            refine lv_iconst (v := 0) hx hb dX4_read_76 (by decide) ?_
            refine lv_istore_n (lv' := [(1, .int 0), (0, .ref h0)]) hx hb dX4_read_77 rfl hl (by decide) rfl (fun ls hl => ?_)
            refine lv_iload_n hx hb dX4_read_78 rfl (lv_at hl 0 rfl) ?_
            refine lv_if_eq (tgt := 87) hx hb dX4_read_79 (by decide) (fun c_5 => ?_) (fun c_5 => ?_)
            · skip
              refine lv_aload_n hx hb dX4_read_87 rfl (lv_at hl 1 rfl) ?_
              refine va_get (D := D) (ci := 6) (v := .int (nI n0)) (C := RX4) (T := TX4) (N := 8) hx hb hts (by decide +kernel) hown hK hP 0 rfl rfl 3 (by decide) (hts (.fieldLink RX4 21 "LandDeeds$Text" "length" "I") (by decide +kernel)) (fun _ h9 => h9) rfl dX4_read_88 ?_
              rw [← hQ]
              have hP9 := hP
              have hD9 := hD
              exact W.iret (v := nI n0) hx hb hr (fun t ht hW => ⟨⟨_, (nc, pt, nm, tw, fe, fn), rfl, read_part (hix8 ▸ hR) hOK (fun q => by have q1 : pt ≠ 0 := q.1; have q2 : 0 < nm := q.2.1; have q3 : 3 ≤ nc := q.2.2; omega) hn0, by rw [ht]; exact hP9, hD9⟩, hS.F ht⟩) hS.2.2 dX4_read_91
            · skip
              exact absurd rfl c_5
          · skip
            have nc_4 : ¬ (nm ≤ 0) := fun h => c_4 ((nI_leI (a := nm) (b := 0) (by omega) (by omega)).mpr h)
            refine lv_aload_n hx hb dX4_read_64 rfl (lv_at hl 0 rfl) ?_
            refine va_get (D := D) (ci := 6) (v := .int (nI nc)) (C := RX4) (T := TX4) (N := 8) hx hb hts (by decide +kernel) hown hK hP 0 rfl rfl 4 (by decide) (hts (.fieldLink RX4 25 "LandDeeds$Text" "calls" "I") (by decide +kernel)) (fun _ h9 => h9) rfl dX4_read_65 ?_
            refine lv_iconst (v := 3) hx hb dX4_read_68 (by decide) ?_
            refine lv_icmp_lt (tgt := 76) hx hb dX4_read_69 (by decide) (fun c_6 => ?_) (fun c_6 => ?_)
            · skip
              have nc_6 : nc < 3 := (nI_ltI (a := nc) (b := 3) (by omega) (by omega)).mp c_6
              refine lv_iconst (v := 0) hx hb dX4_read_76 (by decide) ?_
              refine lv_istore_n (lv' := [(1, .int 0), (0, .ref h0)]) hx hb dX4_read_77 rfl hl (by decide) rfl (fun ls hl => ?_)
              refine lv_iload_n hx hb dX4_read_78 rfl (lv_at hl 0 rfl) ?_
              refine lv_if_eq (tgt := 87) hx hb dX4_read_79 (by decide) (fun c_7 => ?_) (fun c_7 => ?_)
              · skip
                refine lv_aload_n hx hb dX4_read_87 rfl (lv_at hl 1 rfl) ?_
                refine va_get (D := D) (ci := 6) (v := .int (nI n0)) (C := RX4) (T := TX4) (N := 8) hx hb hts (by decide +kernel) hown hK hP 0 rfl rfl 3 (by decide) (hts (.fieldLink RX4 21 "LandDeeds$Text" "length" "I") (by decide +kernel)) (fun _ h9 => h9) rfl dX4_read_88 ?_
                rw [← hQ]
                have hP9 := hP
                have hD9 := hD
                exact W.iret (v := nI n0) hx hb hr (fun t ht hW => ⟨⟨_, (nc, pt, nm, tw, fe, fn), rfl, read_part (hix8 ▸ hR) hOK (fun q => by have q1 : pt ≠ 0 := q.1; have q2 : 0 < nm := q.2.1; have q3 : 3 ≤ nc := q.2.2; omega) hn0, by rw [ht]; exact hP9, hD9⟩, hS.F ht⟩) hS.2.2 dX4_read_91
              · skip
                exact absurd rfl c_7
            · skip
              have nc_6 : ¬ (nc < 3) := fun h => c_6 ((nI_ltI (a := nc) (b := 3) (by omega) (by omega)).mpr h)
              refine lv_iconst (v := 1) hx hb dX4_read_72 (by decide) ?_
              refine lv_goto (tgt := 77) hx hb dX4_read_73 (by decide) ?_
              refine lv_istore_n (lv' := [(1, .int 1), (0, .ref h0)]) hx hb dX4_read_77 rfl hl (by decide) rfl (fun ls hl => ?_)
              refine lv_iload_n hx hb dX4_read_78 rfl (lv_at hl 0 rfl) ?_
              refine lv_if_eq (tgt := 87) hx hb dX4_read_79 (by decide) (fun c_8 => ?_) (fun c_8 => ?_)
              · skip
                exact absurd c_8 (by decide)
              · skip
                refine lv_bipush (v := (-6)) hx hb dX4_read_82 (by decide) ?_
                refine lv_goto (tgt := 91) hx hb dX4_read_84 (by decide) ?_
                rw [← hQ]
                have hP9 := hP
                have hD9 := hD
                exact W.iret (v := (-6)) hx hb hr (fun t ht hW => ⟨⟨_, (nc, pt, nm, tw, fe, fn), rfl, read_whole (hix8 ▸ hR) hOK ⟨show pt ≠ 0 by omega, show 0 < nm by omega, show 3 ≤ nc by omega⟩, by rw [ht]; exact hP9, hD9⟩, hS.F ht⟩) hS.2.2 dX4_read_91
      · skip
        have nc_1 : ¬ (n0 ≤ ix) := fun h => c_1 ((nI_leI (a := n0) (b := ix) (by omega) (by omega)).mpr h)
        have hix9 : ix < n0 := by omega
        have ok1 : nc ≤ 8 := hOK.1
        have ok2 : pt ≤ 2 := hOK.2.1
        have ok3 : nm ≤ 31 := hOK.2.2.1
        have ok4 : pt ≠ 0 → 1 ≤ nc := hOK.2.2.2
        refine lv_iload_n hx hb dX4_read_20 rfl (lv_at hl 1 rfl) ?_
        refine lv_aload_n hx hb dX4_read_21 rfl (lv_at hl 0 rfl) ?_
        refine va_get (D := D) (ci := 6) (v := .ref as) (C := RX4) (T := TX4) (N := 8) hx hb hts (by decide +kernel) hown hK hP 0 rfl rfl 0 (by decide) (hts (.fieldLink RX4 9 "LandDeeds$Text" "signs" "[I") (by decide +kernel)) (fun _ h9 => h9) rfl dX4_read_22 ?_
        refine va_alen (v := 48) hx hb hK hP 1 0 rfl rfl rfl dX4_read_25 ?_
        refine lv_icmp_ge (tgt := 50) hx hb dX4_read_26 (by decide) (fun c_9 => ?_) (fun c_9 => ?_)
        · skip
          have nc_9 : 48 ≤ ix := (nI_leI (a := 48) (b := ix) (by omega) (by omega)).mp c_9
          exact absurd nc_9 (by omega)
        · skip
          have nc_9 : ¬ (48 ≤ ix) := fun h => c_9 ((nI_leI (a := 48) (b := ix) (by omega) (by omega)).mpr h)
          refine lv_aload_n hx hb dX4_read_29 rfl (lv_at hl 0 rfl) ?_
          refine lv_aload_n hx hb dX4_read_30 rfl (lv_at hl 0 rfl) ?_
          refine va_get (D := D) (ci := 6) (v := .ref as) (C := RX4) (T := TX4) (N := 8) hx hb hts (by decide +kernel) hown hK hP 0 rfl rfl 0 (by decide) (hts (.fieldLink RX4 9 "LandDeeds$Text" "signs" "[I") (by decide +kernel)) (fun _ h9 => h9) rfl dX4_read_31 ?_
          refine lv_iload_n hx hb dX4_read_34 rfl (lv_at hl 1 rfl) ?_
          refine u_iald hx hb hK hP 1 0 rfl rfl rfl ⟨by omega, by omega⟩ dX4_read_35 ?_
          have hPc := hP.sub (ws' := [(h0, .inr (6, [.ref as, .ref ae, .ref an, .int ((nI n0)), .int (nI nc), .int (nI pt), .int tw, .int (nI nm)])), (ae, .inl (cI, 8, .inl fe)), (an, .inl (cI, 8, .inl fn))]) [0, 2, 3] rfl
          have hDc := hD.sub (ws' := [(h0, .inr (6, [.ref as, .ref ae, .ref an, .int ((nI n0)), .int (nI nc), .int (nI pt), .int tw, .int (nI nm)])), (ae, .inl (cI, 8, .inl fe)), (an, .inl (cI, 8, .inl fn))]) [0, 2, 3] (by decide) rfl
          have hFc := va_free (wc := [(h0, .inr (6, [.ref as, .ref ae, .ref an, .int ((nI n0)), .int (nI nc), .int (nI pt), .int tw, .int (nI nm)])), (ae, .inl (cI, 8, .inl fe)), (an, .inl (cI, 8, .inl fn))]) hD hS hA [0, 2, 3] rfl
          refine va_calli (va_runV (As := [.int (fs ix)]) (rest := []) ⟨hx, hb, hml, hown, hts⟩ (c_X4_takes l D cI cB cZ cP H.size h0 as ae an (nI n0) tw nc pt nm fe fn (fs ix) (by first | assumption | omega) (by first | assumption | omega) (by first | assumption | omega) (ok4)) (cwV 1 hts gX4_read_X4_takes rfl rfl rfl (by decide +kernel) ⟨Nat.le_of_ble_eq_true rfl, Nat.le_of_ble_eq_true rfl⟩) (pVQ (q0 := 0) hPc hDc hW0 EF.t rfl rfl) rfl rfl hl.1 rfl (lv_room (Nat.le_of_ble_eq_true rfl)) dX4_read_36 ⟨Nat.le_of_ble_eq_true rfl, Nat.le_of_ble_eq_true rfl⟩) hS (fun q _ h => hFc q h) hFc (fun r_10 u t H1 locs ht hvm hw hB hz1 hk1 hS => ?_)
          obtain ⟨nc1_10, pt1_10, nm1_10, tw1_10, fe1_10, fn1_10⟩ := u
          obtain ⟨hP1, hD1⟩ := hB
          rw [ht] at hP1
          have hw_10 : (r_10 = 1 ∧ stepT (fs ix) (nc, pt, nm, tw, fe, fn) = some (nc1_10, pt1_10, nm1_10, tw1_10, fe1_10, fn1_10)) ∨ (r_10 = 0 ∧ stepT (fs ix) (nc, pt, nm, tw, fe, fn) = none ∧ (nc1_10, pt1_10, nm1_10, tw1_10, fe1_10, fn1_10) = ((nc, pt, nm, tw, fe, fn) : TS)) := hw
          obtain ⟨hP, hD⟩ := va_join (wr := [(as, .inl (cI, 48, .inl fs))]) (w1 := [(h0, .inr (6, [.ref as, .ref ae, .ref an, .int ((nI n0)), .int (nI nc1_10), .int (nI pt1_10), .int tw1_10, .int (nI nm1_10)])), (ae, .inl (cI, 8, .inl fe1_10)), (an, .inl (cI, 8, .inl fn1_10))]) hP hD [0, 2, 3] [1] rfl rfl (by decide) (by decide) hk1 hFc hP1 hD1
          generalize H1 = H at hP hS ⊢
          have hP := hP.sub (ws' := [(h0, .inr (6, [.ref as, .ref ae, .ref an, .int ((nI n0)), .int (nI nc1_10), .int (nI pt1_10), .int tw1_10, .int (nI nm1_10)])), (as, .inl (cI, 48, .inl fs)), (ae, .inl (cI, 8, .inl fe1_10)), (an, .inl (cI, 8, .inl fn1_10))]) [1, 0, 2, 3] rfl
          have hD := hD.sub (ws' := [(h0, .inr (6, [.ref as, .ref ae, .ref an, .int ((nI n0)), .int (nI nc1_10), .int (nI pt1_10), .int tw1_10, .int (nI nm1_10)])), (as, .inl (cI, 48, .inl fs)), (ae, .inl (cI, 8, .inl fe1_10)), (an, .inl (cI, 8, .inl fn1_10))]) [1, 0, 2, 3] (by decide) rfl
          refine lv_if_ne (tgt := 44) hx hb dX4_read_39 (by decide) (fun c_11 => ?_) (fun c_11 => ?_)
          · skip
            refine lv_iinc (v := nI (ix + 1)) (lv' := [(1, .int (nI (ix + 1))), (0, .ref h0)]) hx hb dX4_read_44 hl (k := 1) rfl (nI_1 _) (by decide) rfl (fun ls hl => ?_)
            refine lv_goto (tgt := 12) hx hb dX4_read_47 (by decide) ?_
            exact ih_12 (ix + 1) nc1_10 pt1_10 nm1_10 tw1_10 fe1_10 fn1_10 (by omega) ((read_on hOK hR (by rcases hw_10 with h | h; exact h.2; exact absurd h.1 c_11)).1) ((read_on hOK hR (by rcases hw_10 with h | h; exact h.2; exact absurd h.1 c_11)).2) (by omega) _ _ hP hD hS ls (lv_sub hl [1, 0] rfl)
          · skip
            refine lv_iload_n hx hb dX4_read_42 rfl (lv_at hl 1 rfl) ?_
            rw [← hQ]
            have hP9 := hP
            have hD9 := hD
            exact W.iret (v := nI ix) hx hb hr (fun t ht hW => ⟨⟨_, (nc1_10, pt1_10, nm1_10, tw1_10, fe1_10, fn1_10), rfl, read_stop hix9 hOK hR (by rcases hw_10 with h | h; exact absurd (h.1.symm.trans c_11) (by decide); exact h.2), by rw [ht]; exact hP9, hD9⟩, hS.F ht⟩) hS.2.2 dX4_read_43
  exact LOOP_12 (n0 - 0 + 1) 0 0 0 nm tw fe fn (Nat.zero_le _) (⟨_, rfl, rfl, rfl, fun q => absurd rfl q, fun j hj => absurd hj (Nat.not_lt_zero _)⟩) (⟨Nat.zero_le _, Nat.zero_le _, hnm, fun q => absurd rfl q⟩) (Nat.lt_succ_self _) _ _ hP hD hS ls (lv_sub hl [1, 0] rfl)

set_option maxHeartbeats 4000000 in
set_option maxRecDepth 100000 in
theorem c_X4_cornersFrom_e (l : Launch) (D : va_G) (cI cB cZ cP : ClassId) (sz : Nat) (h0 as ae an : Nat) (ln pt tw nm x : Int32) (nc : Nat) (fe fn : Nat → Int32) (hnc : nc ≤ 8) (hfar : ∀ q, isum (stp fe fn) nc = q → ¬ q = 0) : Met l yX4_cornersFrom wsX4_cornersFrom ({ frames := 3, cells := 1, slots := 8, locals := 57 } : Room) (va_Pc [.ref h0, .int x, .ref ae] (fun U => U.heap.size = sz ∧ va_P D vwCl [(h0, .inr (6, [.ref as, .ref ae, .ref an, .int ln, .int (nI nc), .int pt, .int tw, .int nm])), (ae, .inl (cI, 8, .inl fe)), (an, .inl (cI, 8, .inl fn))] U.heap ∧ KW D cI cB cZ cP U ∧ va_D (fun _ => True) [(h0, .inr (6, [.ref as, .ref ae, .ref an, .int ln, .int (nI nc), .int pt, .int tw, .int nm])), (ae, .inl (cI, 8, .inl fe)), (an, .inl (cI, 8, .inl fn))] ∧ EF [(h0, .inr (6, [.ref as, .ref ae, .ref an, .int ln, .int (nI nc), .int pt, .int tw, .int nm])), (ae, .inl (cI, 8, .inl fe)), (an, .inl (cI, 8, .inl fn))] sz E0 U.heap)) (va_Qr (fun (g : Nat → Int32) => ∀ j, j < nc → g j = crn nc x fe fe fn j) (fun (g : Nat → Int32) (ra : Nat) (t : State) => va_P D vwCl [(h0, .inr (6, [.ref as, .ref ae, .ref an, .int ln, .int (nI nc), .int pt, .int tw, .int nm])), (ae, .inl (cI, 8, .inl fe)), (an, .inl (cI, 8, .inl fn)), (ra, .inl (cI, nc, .inl g))] t.heap ∧ va_D (va_A [(h0, .inr (6, [.ref as, .ref ae, .ref an, .int ln, .int (nI nc), .int pt, .int tw, .int nm])), (ae, .inl (cI, 8, .inl fe)), (an, .inl (cI, 8, .inl fn))] sz) [(h0, .inr (6, [.ref as, .ref ae, .ref an, .int ln, .int (nI nc), .int pt, .int tw, .int nm])), (ae, .inl (cI, 8, .inl fe)), (an, .inl (cI, 8, .inl fn)), (ra, .inl (cI, nc, .inl g))]) (va_A [(h0, .inr (6, [.ref as, .ref ae, .ref an, .int ln, .int (nI nc), .int pt, .int tw, .int nm])), (ae, .inl (cI, 8, .inl fe)), (an, .inl (cI, 8, .inl fn))] sz)) 1 8 (va_A [(h0, .inr (6, [.ref as, .ref ae, .ref an, .int ln, .int (nI nc), .int pt, .int tw, .int nm])), (ae, .inl (cI, 8, .inl fe)), (an, .inl (cI, 8, .inl fn))] sz) := by
  refine Met.ofW (cc := cX4_cornersFrom) (maxL := 9) (ret := (some (.array .int))) (by decide) rfl ?_
  intro p e s m args below meth c s₁ B hml hv
  obtain ⟨rfl, hsz, hP, hW0, hD0, hE⟩ := hv
  have hx := B.exec
  have hb := B.bytes
  have hr := B.returns
  have hts := atoms_spec (ws := wsX4_cornersFrom) B.pre
  have hown : s.vm.findClass RX4 = some m.cls := findClass_of_methodNamed B.named
  have hlocks := B.notSynchronized
  have hK := hW0.1
  subst hsz
  have hD := hD0.self (sz := s.heap.size)
  unfold EF at hE
  generalize hAe : va_A [(h0, .inr (6, [.ref as, .ref ae, .ref an, .int ln, .int (nI nc), .int pt, .int tw, .int nm])), (ae, .inl (cI, 8, .inl fe)), (an, .inl (cI, 8, .inl fn))] s.heap.size = A at hD hE ⊢
  have hA : ∀ q : Nat, s.heap.size ≤ q → A q := fun q h => by rw [← hAe]; exact Or.inr h
  have hS : va_S A s.heap s.heap [] := va_S.rf
  have hl := lv_entry ([.ref h0, .int x, .ref ae]) (n := 9) (Nat.le_of_ble_eq_true rfl)
  rw [lg_entry_eq]
  generalize (lg_sl ([.ref h0, .int x, .ref ae]) ++ List.replicate (9 - (lg_sl ([.ref h0, .int x, .ref ae])).length) Slot.unset).toArray = ls at hl ⊢
  have hl : lv_has ls 9 [(0, .ref h0), (1, .int x), (2, .ref ae)] := hl
  show W p l e ({ frames := 3, cells := 1, slots := 8, locals := 57 } : Room) s m ([.ref h0, .int x, .ref ae] : List Value).toArray below meth c s.heap [] 0 0 _ (F0 m 0 ls [])
  refine u_genQ (fun Q hQ => ?_)
  refine lv_iconst (v := 0) hx hb dX4_cornersFrom_0 (by decide) ?_
  refine lv_aload_n hx hb dX4_cornersFrom_1 rfl (lv_at hl 0 rfl) ?_
  refine va_get (D := D) (ci := 6) (v := .int (nI nc)) (C := RX4) (T := TX4) (N := 8) hx hb hts (by decide +kernel) hown hK hP 0 rfl rfl 4 (by decide) (hts (.fieldLink RX4 25 "LandDeeds$Text" "calls" "I") (by decide +kernel)) (fun _ h9 => h9) rfl dX4_cornersFrom_2 ?_
  refine va_mmax hx hb (by rw [hml]; exact hl.1.symm) hown (hts (.methodLink RX4 63 Lib.Math.max.name) (by decide +kernel)) (hts (.static Lib.Math.max.name) (by decide +kernel)) (hts (.initialized "java/lang/Math") (by decide +kernel)) (hts (.code Lib.Math.max.name Lib.Math.max.code 2 (some .int)) (by decide +kernel)) (Nat.le_of_ble_eq_true rfl) (Nat.le_of_ble_eq_true rfl) (Nat.zero_le _) (Nat.zero_le _) dX4_cornersFrom_5 ?_
  refine u_newaI hx hb (hts (.arrayClass .int) (by decide +kernel)) hK 0 rfl hP hD hS hA (N := nc) (mx0 nc (by omega)) (by omega) (Nat.le_of_ble_eq_true rfl) (show 0 + nc ≤ 8 by omega) dX4_cornersFrom_8 (fun q_1 H hP hD hS => ?_)
  have hP : va_P D vwCl [(h0, .inr (6, [.ref as, .ref ae, .ref an, .int ln, .int (nI nc), .int pt, .int tw, .int nm])), (ae, .inl (cI, 8, .inl fe)), (an, .inl (cI, 8, .inl fn)), (q_1, .inl (cI, nc, .inl (fun _ => 0)))] H := hP
  have hD : va_D A [(h0, .inr (6, [.ref as, .ref ae, .ref an, .int ln, .int (nI nc), .int pt, .int tw, .int nm])), (ae, .inl (cI, 8, .inl fe)), (an, .inl (cI, 8, .inl fn)), (q_1, .inl (cI, nc, .inl (fun _ => 0)))] := hD
  refine W.widen (k := 1) (n := 8) (Nat.le_refl _) (by omega) ?_
  refine lv_astore_n (lv' := [(3, .ref q_1), (0, .ref h0), (1, .int x), (2, .ref ae)]) hx hb dX4_cornersFrom_10 rfl hl (by decide) rfl (fun ls hl => ?_)
  refine lv_aload_n hx hb dX4_cornersFrom_11 rfl (lv_at hl 1 rfl) ?_
  refine lv_aload_n hx hb dX4_cornersFrom_12 rfl (lv_at hl 3 rfl) ?_
  have hPc := hP.sub (ws' := [(h0, .inr (6, [.ref as, .ref ae, .ref an, .int ln, .int (nI nc), .int pt, .int tw, .int nm])), (ae, .inl (cI, 8, .inl fe))]) [0, 1] rfl
  refine u_callSi (W.runV (As := [.ref ae]) (rest := []) ⟨hx, hb, hml, hown, hts⟩ (c_X4_missed l D cI cB cZ cP h0 as ae an nc ln pt tw nm ae fe (by first | assumption | omega)) (cwV 1 hts gX4_cornersFrom_X4_missed rfl rfl rfl (by decide +kernel) ⟨Nat.le_of_ble_eq_true rfl, Nat.le_of_ble_eq_true rfl⟩) (pV (q0 := 0) hPc hW0 trivial rfl rfl) rfl rfl hl.1 rfl (lv_room (Nat.le_of_ble_eq_true rfl)) dX4_cornersFrom_13 ⟨Nat.le_of_ble_eq_true rfl, Nat.le_of_ble_eq_true rfl⟩) ?_
  refine lv_istore (lv' := [(4, .int (isum fe nc)), (3, .ref q_1), (0, .ref h0), (1, .int x), (2, .ref ae)]) hx hb dX4_cornersFrom_16 hl (by decide) rfl (fun ls hl => ?_)
  refine lv_aload_n hx hb dX4_cornersFrom_18 rfl (lv_at hl 2 rfl) ?_
  have hPc := hP.sub (ws' := [(h0, .inr (6, [.ref as, .ref ae, .ref an, .int ln, .int (nI nc), .int pt, .int tw, .int nm])), (ae, .inl (cI, 8, .inl fe)), (an, .inl (cI, 8, .inl fn))]) [0, 1, 2] rfl
  refine u_callSi (W.runV (As := []) (rest := []) ⟨hx, hb, hml, hown, hts⟩ (c_X4_far l D cI cB cZ cP h0 as ae an nc ln pt tw nm fe fn (by first | assumption | omega)) (cwV 0 hts gX4_cornersFrom_X4_far rfl rfl rfl (by decide +kernel) ⟨Nat.le_of_ble_eq_true rfl, Nat.le_of_ble_eq_true rfl⟩) (pV (q0 := 0) hPc hW0 trivial rfl rfl) rfl rfl hl.1 rfl (lv_room (Nat.le_of_ble_eq_true rfl)) dX4_cornersFrom_19 ⟨Nat.le_of_ble_eq_true rfl, Nat.le_of_ble_eq_true rfl⟩) ?_
  refine lv_istore (lv' := [(5, .int (isum (stp fe fn) nc)), (4, .int (isum fe nc)), (3, .ref q_1), (0, .ref h0), (1, .int x), (2, .ref ae)]) hx hb dX4_cornersFrom_22 hl (by decide) rfl (fun ls hl => ?_)
  refine lv_iload_n hx hb dX4_cornersFrom_24 rfl (lv_at hl 4 rfl) ?_
  refine lv_istore (lv' := [(6, .int x), (5, .int (isum (stp fe fn) nc)), (4, .int (isum fe nc)), (3, .ref q_1), (0, .ref h0), (1, .int x), (2, .ref ae)]) hx hb dX4_cornersFrom_25 hl (by decide) rfl (fun ls hl => ?_)
  refine lv_iconst (v := 0) hx hb dX4_cornersFrom_27 (by decide) ?_
  refine lv_istore (lv' := [(7, .int 0), (6, .int x), (5, .int (isum (stp fe fn) nc)), (4, .int (isum fe nc)), (3, .ref q_1), (0, .ref h0), (1, .int x), (2, .ref ae)]) hx hb dX4_cornersFrom_28 hl (by decide) rfl (fun ls hl => ?_)
  refine lv_iconst (v := 0) hx hb dX4_cornersFrom_30 (by decide) ?_
  refine lv_istore (lv' := [(8, .int 0), (7, .int 0), (6, .int x), (5, .int (isum (stp fe fn) nc)), (4, .int (isum fe nc)), (3, .ref q_1), (0, .ref h0), (1, .int x), (2, .ref ae)]) hx hb dX4_cornersFrom_31 hl (by decide) rfl (fun ls hl => ?_)
  have LOOP_33 : ∀ (fu : Nat) (k : Nat) (g : Nat → Int32) (hk : k ≤ nc) (hg : ∀ j, j < k → g j = crn nc x fe fe fn j) (hn : nc - k < fu) (H : Heap) (locs : List Loc) (hP : va_P D vwCl [(h0, .inr (6, [.ref as, .ref ae, .ref an, .int ln, .int (nI nc), .int pt, .int tw, .int nm])), (ae, .inl (cI, 8, .inl fe)), (an, .inl (cI, 8, .inl fn)), (q_1, .inl (cI, nc, .inl g))] H) (hD : va_D A [(h0, .inr (6, [.ref as, .ref ae, .ref an, .int ln, .int (nI nc), .int pt, .int tw, .int nm])), (ae, .inl (cI, 8, .inl fe)), (an, .inl (cI, 8, .inl fn)), (q_1, .inl (cI, nc, .inl g))]) (hS : va_S A s.heap H locs) (ls : Array Slot) (hl : lv_has ls 9 [(0, .ref h0), (2, .ref ae), (3, .ref q_1), (4, .int (isum fe nc)), (5, .int (isum (stp fe fn) nc)), (6, .int (pnt x fe k)), (7, .int (isum (stp fe fn) k)), (8, .int (nI k))]), W p l e ({ frames := 3, cells := 1, slots := 8, locals := 57 } : Room) s m ([.ref h0, .int x, .ref ae] : List Value).toArray below meth c H locs 1 8 Q (F0 m 33 ls []) := by
    intro fu
    induction fu with
    | zero => intro k g hk hg hn H locs hP hD hS ls hl; exact absurd hn (Nat.not_lt_zero _)
    | succ fu ih_33 =>
      intro k g hk hg hn H locs hP hD hS ls hl
      refine lv_iload hx hb dX4_cornersFrom_33 (lv_at hl 7 rfl) ?_
      refine lv_aload_n hx hb dX4_cornersFrom_35 rfl (lv_at hl 2 rfl) ?_
      refine va_alen (v := nI nc) hx hb hK hP 3 0 rfl rfl rfl dX4_cornersFrom_36 ?_
      refine lv_icmp_ge (tgt := 98) hx hb dX4_cornersFrom_37 (by decide) (fun c_2 => ?_) (fun c_2 => ?_)
      · skip
        have nc_2 : nc ≤ k := (nI_leI (a := nc) (b := k) (by omega) (by omega)).mp c_2
        refine lv_aload_n hx hb dX4_cornersFrom_98 rfl (lv_at hl 2 rfl) ?_
        rw [← hQ]
        have hP9 := hP
        have hD9 := hD
        exact W.aret (v := .ref q_1) hx hb hr (Or.inr ⟨_, rfl⟩) (Or.inr ⟨_, rfl⟩) (fun t ht hW => ⟨⟨g, q_1, rfl, fun j hj => hg j (by omega), by rw [ht]; exact hP9, hD9⟩, hS.F ht⟩) hS.2.2 dX4_cornersFrom_99
      · skip
        have nc_2 : ¬ (nc ≤ k) := fun h => c_2 ((nI_leI (a := nc) (b := k) (by omega) (by omega)).mpr h)
        refine lv_iload hx hb dX4_cornersFrom_40 (lv_at hl 7 rfl) ?_
        refine lv_aload_n hx hb dX4_cornersFrom_42 rfl (lv_at hl 1 rfl) ?_
        refine va_alen (v := 8) hx hb hK hP 1 0 rfl rfl rfl dX4_cornersFrom_43 ?_
        refine lv_icmp_ge (tgt := 98) hx hb dX4_cornersFrom_44 (by decide) (fun c_3 => ?_) (fun c_3 => ?_)
        · skip
          have nc_3 : 8 ≤ k := (nI_leI (a := 8) (b := k) (by omega) (by omega)).mp c_3
          exact absurd nc_3 (by omega)
        · skip
          have nc_3 : ¬ (8 ≤ k) := fun h => c_3 ((nI_leI (a := 8) (b := k) (by omega) (by omega)).mpr h)
          refine lv_aload_n hx hb dX4_cornersFrom_47 rfl (lv_at hl 2 rfl) ?_
          refine lv_iload hx hb dX4_cornersFrom_48 (lv_at hl 7 rfl) ?_
          refine lv_iload hx hb dX4_cornersFrom_50 (lv_at hl 4 rfl) ?_
          refine lv_if_ne (tgt := 60) hx hb dX4_cornersFrom_52 (by decide) (fun c_4 => ?_) (fun c_4 => ?_)
          · skip
            refine lv_iload hx hb dX4_cornersFrom_60 (lv_at hl 5 rfl) ?_
            refine lv_iload hx hb dX4_cornersFrom_62 (lv_at hl 3 rfl) ?_
            refine lv_iload hx hb dX4_cornersFrom_64 (lv_at hl 6 rfl) ?_
            refine lv_imul hx hb dX4_cornersFrom_66 ?_
            refine lv_iload hx hb dX4_cornersFrom_67 (lv_at hl 4 rfl) ?_
            refine lv_idiv hx hb dX4_cornersFrom_69 (hfar _ rfl) ?_
            refine lv_isub hx hb dX4_cornersFrom_70 ?_
            refine u_iast hx hb hK hP hD hS 3 0 rfl rfl rfl ⟨by omega, by omega⟩ dX4_cornersFrom_71 (fun H locs hP hD hS => ?_)
            have hP : va_P D vwCl [(h0, .inr (6, [.ref as, .ref ae, .ref an, .int ln, .int (nI nc), .int pt, .int tw, .int nm])), (ae, .inl (cI, 8, .inl fe)), (an, .inl (cI, 8, .inl fn)), (q_1, .inl (cI, nc, .inl (upd g k ((pnt x fe k) - (((isum fe nc) * (isum (stp fe fn) k)) / (isum (stp fe fn) nc))))))] H := hP
            have hD : va_D A [(h0, .inr (6, [.ref as, .ref ae, .ref an, .int ln, .int (nI nc), .int pt, .int tw, .int nm])), (ae, .inl (cI, 8, .inl fe)), (an, .inl (cI, 8, .inl fn)), (q_1, .inl (cI, nc, .inl (upd g k ((pnt x fe k) - (((isum fe nc) * (isum (stp fe fn) k)) / (isum (stp fe fn) nc))))))] := hD
            refine lv_iload hx hb dX4_cornersFrom_72 (lv_at hl 5 rfl) ?_
            refine lv_aload_n hx hb dX4_cornersFrom_74 rfl (lv_at hl 1 rfl) ?_
            refine lv_iload hx hb dX4_cornersFrom_75 (lv_at hl 7 rfl) ?_
            refine u_iald hx hb hK hP 1 0 rfl rfl rfl ⟨by omega, by omega⟩ dX4_cornersFrom_77 ?_
            refine lv_iadd hx hb dX4_cornersFrom_78 ?_
            refine u_eqi (show (pnt x fe k) + (fe k) = pnt x fe (k + 1) from rfl) ?_
            refine lv_istore (lv' := [(6, .int (pnt x fe (k + 1))), (0, .ref h0), (2, .ref ae), (3, .ref q_1), (4, .int (isum fe nc)), (5, .int (isum (stp fe fn) nc)), (7, .int (isum (stp fe fn) k)), (8, .int (nI k))]) hx hb dX4_cornersFrom_79 hl (by decide) rfl (fun ls hl => ?_)
            refine lv_iload hx hb dX4_cornersFrom_81 (lv_at hl 6 rfl) ?_
            refine lv_aload_n hx hb dX4_cornersFrom_83 rfl (lv_at hl 1 rfl) ?_
            refine lv_iload hx hb dX4_cornersFrom_84 (lv_at hl 7 rfl) ?_
            have hPc := hP.sub (ws' := [(h0, .inr (6, [.ref as, .ref ae, .ref an, .int ln, .int (nI nc), .int pt, .int tw, .int nm])), (ae, .inl (cI, 8, .inl fe)), (an, .inl (cI, 8, .inl fn))]) [0, 1, 2] rfl
            refine u_callSi (W.runV (As := [.int (nI k)]) (rest := [.int (isum (stp fe fn) k)]) ⟨hx, hb, hml, hown, hts⟩ (c_X4_stepsOfCall l D cI cB cZ cP h0 as ae an nc ln pt tw nm k fe fn (by first | assumption | omega)) (cwV 1 hts gX4_cornersFrom_X4_stepsOfCall rfl rfl rfl (by decide +kernel) ⟨Nat.le_of_ble_eq_true rfl, Nat.le_of_ble_eq_true rfl⟩) (pV (q0 := 0) hPc hW0 trivial rfl rfl) rfl rfl hl.1 rfl (lv_room (Nat.le_of_ble_eq_true rfl)) dX4_cornersFrom_86 ⟨Nat.le_of_ble_eq_true rfl, Nat.le_of_ble_eq_true rfl⟩) ?_
            refine lv_iadd hx hb dX4_cornersFrom_89 ?_
            refine u_eqi (show (isum (stp fe fn) k) + (stp fe fn k) = isum (stp fe fn) (k + 1) from rfl) ?_
            refine lv_istore (lv' := [(7, .int (isum (stp fe fn) (k + 1))), (6, .int (pnt x fe (k + 1))), (0, .ref h0), (2, .ref ae), (3, .ref q_1), (4, .int (isum fe nc)), (5, .int (isum (stp fe fn) nc)), (8, .int (nI k))]) hx hb dX4_cornersFrom_90 hl (by decide) rfl (fun ls hl => ?_)
            refine lv_iinc (v := nI (k + 1)) (lv' := [(8, .int (nI (k + 1))), (7, .int (isum (stp fe fn) (k + 1))), (6, .int (pnt x fe (k + 1))), (0, .ref h0), (2, .ref ae), (3, .ref q_1), (4, .int (isum fe nc)), (5, .int (isum (stp fe fn) nc))]) hx hb dX4_cornersFrom_92 hl (k := 7) rfl (nI_1 _) (by decide) rfl (fun ls hl => ?_)
            refine lv_goto (tgt := 33) hx hb dX4_cornersFrom_95 (by decide) ?_
            exact ih_33 (k + 1) (upd g k ((pnt x fe k) - (((isum fe nc) * (isum (stp fe fn) k)) / (isum (stp fe fn) nc)))) (by omega) (upd_on hg (show ((pnt x fe k) - (((isum fe nc) * (isum (stp fe fn) k)) / (isum (stp fe fn) nc))) = crn nc x fe fe fn k from rfl)) (by omega) _ _ hP hD hS ls (lv_sub hl [3, 4, 5, 6, 7, 2, 1, 0] rfl)
          · skip
            exact absurd c_4 (hfar _ rfl)
  exact LOOP_33 (nc - 0 + 1) 0 (fun _ => 0) (Nat.zero_le _) (fun j h => absurd h (Nat.not_lt_zero _)) (Nat.lt_succ_self _) _ _ hP hD hS ls (lv_sub hl [6, 8, 5, 4, 3, 2, 1, 0] rfl)

set_option maxHeartbeats 4000000 in
set_option maxRecDepth 100000 in
theorem c_X4_cornersFrom_n (l : Launch) (D : va_G) (cI cB cZ cP : ClassId) (sz : Nat) (h0 as ae an : Nat) (ln pt tw nm x : Int32) (nc : Nat) (fe fn : Nat → Int32) (hnc : nc ≤ 8) (hfar : ∀ q, isum (stp fe fn) nc = q → ¬ q = 0) : Met l yX4_cornersFrom wsX4_cornersFrom ({ frames := 3, cells := 1, slots := 8, locals := 57 } : Room) (va_Pc [.ref h0, .int x, .ref an] (fun U => U.heap.size = sz ∧ va_P D vwCl [(h0, .inr (6, [.ref as, .ref ae, .ref an, .int ln, .int (nI nc), .int pt, .int tw, .int nm])), (ae, .inl (cI, 8, .inl fe)), (an, .inl (cI, 8, .inl fn))] U.heap ∧ KW D cI cB cZ cP U ∧ va_D (fun _ => True) [(h0, .inr (6, [.ref as, .ref ae, .ref an, .int ln, .int (nI nc), .int pt, .int tw, .int nm])), (ae, .inl (cI, 8, .inl fe)), (an, .inl (cI, 8, .inl fn))] ∧ EF [(h0, .inr (6, [.ref as, .ref ae, .ref an, .int ln, .int (nI nc), .int pt, .int tw, .int nm])), (ae, .inl (cI, 8, .inl fe)), (an, .inl (cI, 8, .inl fn))] sz E0 U.heap)) (va_Qr (fun (g : Nat → Int32) => ∀ j, j < nc → g j = crn nc x fn fe fn j) (fun (g : Nat → Int32) (ra : Nat) (t : State) => va_P D vwCl [(h0, .inr (6, [.ref as, .ref ae, .ref an, .int ln, .int (nI nc), .int pt, .int tw, .int nm])), (ae, .inl (cI, 8, .inl fe)), (an, .inl (cI, 8, .inl fn)), (ra, .inl (cI, nc, .inl g))] t.heap ∧ va_D (va_A [(h0, .inr (6, [.ref as, .ref ae, .ref an, .int ln, .int (nI nc), .int pt, .int tw, .int nm])), (ae, .inl (cI, 8, .inl fe)), (an, .inl (cI, 8, .inl fn))] sz) [(h0, .inr (6, [.ref as, .ref ae, .ref an, .int ln, .int (nI nc), .int pt, .int tw, .int nm])), (ae, .inl (cI, 8, .inl fe)), (an, .inl (cI, 8, .inl fn)), (ra, .inl (cI, nc, .inl g))]) (va_A [(h0, .inr (6, [.ref as, .ref ae, .ref an, .int ln, .int (nI nc), .int pt, .int tw, .int nm])), (ae, .inl (cI, 8, .inl fe)), (an, .inl (cI, 8, .inl fn))] sz)) 1 8 (va_A [(h0, .inr (6, [.ref as, .ref ae, .ref an, .int ln, .int (nI nc), .int pt, .int tw, .int nm])), (ae, .inl (cI, 8, .inl fe)), (an, .inl (cI, 8, .inl fn))] sz) := by
  refine Met.ofW (cc := cX4_cornersFrom) (maxL := 9) (ret := (some (.array .int))) (by decide) rfl ?_
  intro p e s m args below meth c s₁ B hml hv
  obtain ⟨rfl, hsz, hP, hW0, hD0, hE⟩ := hv
  have hx := B.exec
  have hb := B.bytes
  have hr := B.returns
  have hts := atoms_spec (ws := wsX4_cornersFrom) B.pre
  have hown : s.vm.findClass RX4 = some m.cls := findClass_of_methodNamed B.named
  have hlocks := B.notSynchronized
  have hK := hW0.1
  subst hsz
  have hD := hD0.self (sz := s.heap.size)
  unfold EF at hE
  generalize hAe : va_A [(h0, .inr (6, [.ref as, .ref ae, .ref an, .int ln, .int (nI nc), .int pt, .int tw, .int nm])), (ae, .inl (cI, 8, .inl fe)), (an, .inl (cI, 8, .inl fn))] s.heap.size = A at hD hE ⊢
  have hA : ∀ q : Nat, s.heap.size ≤ q → A q := fun q h => by rw [← hAe]; exact Or.inr h
  have hS : va_S A s.heap s.heap [] := va_S.rf
  have hl := lv_entry ([.ref h0, .int x, .ref an]) (n := 9) (Nat.le_of_ble_eq_true rfl)
  rw [lg_entry_eq]
  generalize (lg_sl ([.ref h0, .int x, .ref an]) ++ List.replicate (9 - (lg_sl ([.ref h0, .int x, .ref an])).length) Slot.unset).toArray = ls at hl ⊢
  have hl : lv_has ls 9 [(0, .ref h0), (1, .int x), (2, .ref an)] := hl
  show W p l e ({ frames := 3, cells := 1, slots := 8, locals := 57 } : Room) s m ([.ref h0, .int x, .ref an] : List Value).toArray below meth c s.heap [] 0 0 _ (F0 m 0 ls [])
  refine u_genQ (fun Q hQ => ?_)
  refine lv_iconst (v := 0) hx hb dX4_cornersFrom_0 (by decide) ?_
  refine lv_aload_n hx hb dX4_cornersFrom_1 rfl (lv_at hl 0 rfl) ?_
  refine va_get (D := D) (ci := 6) (v := .int (nI nc)) (C := RX4) (T := TX4) (N := 8) hx hb hts (by decide +kernel) hown hK hP 0 rfl rfl 4 (by decide) (hts (.fieldLink RX4 25 "LandDeeds$Text" "calls" "I") (by decide +kernel)) (fun _ h9 => h9) rfl dX4_cornersFrom_2 ?_
  refine va_mmax hx hb (by rw [hml]; exact hl.1.symm) hown (hts (.methodLink RX4 63 Lib.Math.max.name) (by decide +kernel)) (hts (.static Lib.Math.max.name) (by decide +kernel)) (hts (.initialized "java/lang/Math") (by decide +kernel)) (hts (.code Lib.Math.max.name Lib.Math.max.code 2 (some .int)) (by decide +kernel)) (Nat.le_of_ble_eq_true rfl) (Nat.le_of_ble_eq_true rfl) (Nat.zero_le _) (Nat.zero_le _) dX4_cornersFrom_5 ?_
  refine u_newaI hx hb (hts (.arrayClass .int) (by decide +kernel)) hK 0 rfl hP hD hS hA (N := nc) (mx0 nc (by omega)) (by omega) (Nat.le_of_ble_eq_true rfl) (show 0 + nc ≤ 8 by omega) dX4_cornersFrom_8 (fun q_1 H hP hD hS => ?_)
  have hP : va_P D vwCl [(h0, .inr (6, [.ref as, .ref ae, .ref an, .int ln, .int (nI nc), .int pt, .int tw, .int nm])), (ae, .inl (cI, 8, .inl fe)), (an, .inl (cI, 8, .inl fn)), (q_1, .inl (cI, nc, .inl (fun _ => 0)))] H := hP
  have hD : va_D A [(h0, .inr (6, [.ref as, .ref ae, .ref an, .int ln, .int (nI nc), .int pt, .int tw, .int nm])), (ae, .inl (cI, 8, .inl fe)), (an, .inl (cI, 8, .inl fn)), (q_1, .inl (cI, nc, .inl (fun _ => 0)))] := hD
  refine W.widen (k := 1) (n := 8) (Nat.le_refl _) (by omega) ?_
  refine lv_astore_n (lv' := [(3, .ref q_1), (0, .ref h0), (1, .int x), (2, .ref an)]) hx hb dX4_cornersFrom_10 rfl hl (by decide) rfl (fun ls hl => ?_)
  refine lv_aload_n hx hb dX4_cornersFrom_11 rfl (lv_at hl 1 rfl) ?_
  refine lv_aload_n hx hb dX4_cornersFrom_12 rfl (lv_at hl 3 rfl) ?_
  have hPc := hP.sub (ws' := [(h0, .inr (6, [.ref as, .ref ae, .ref an, .int ln, .int (nI nc), .int pt, .int tw, .int nm])), (an, .inl (cI, 8, .inl fn))]) [0, 2] rfl
  refine u_callSi (W.runV (As := [.ref an]) (rest := []) ⟨hx, hb, hml, hown, hts⟩ (c_X4_missed l D cI cB cZ cP h0 as ae an nc ln pt tw nm an fn (by first | assumption | omega)) (cwV 1 hts gX4_cornersFrom_X4_missed rfl rfl rfl (by decide +kernel) ⟨Nat.le_of_ble_eq_true rfl, Nat.le_of_ble_eq_true rfl⟩) (pV (q0 := 0) hPc hW0 trivial rfl rfl) rfl rfl hl.1 rfl (lv_room (Nat.le_of_ble_eq_true rfl)) dX4_cornersFrom_13 ⟨Nat.le_of_ble_eq_true rfl, Nat.le_of_ble_eq_true rfl⟩) ?_
  refine lv_istore (lv' := [(4, .int (isum fn nc)), (3, .ref q_1), (0, .ref h0), (1, .int x), (2, .ref an)]) hx hb dX4_cornersFrom_16 hl (by decide) rfl (fun ls hl => ?_)
  refine lv_aload_n hx hb dX4_cornersFrom_18 rfl (lv_at hl 2 rfl) ?_
  have hPc := hP.sub (ws' := [(h0, .inr (6, [.ref as, .ref ae, .ref an, .int ln, .int (nI nc), .int pt, .int tw, .int nm])), (ae, .inl (cI, 8, .inl fe)), (an, .inl (cI, 8, .inl fn))]) [0, 1, 2] rfl
  refine u_callSi (W.runV (As := []) (rest := []) ⟨hx, hb, hml, hown, hts⟩ (c_X4_far l D cI cB cZ cP h0 as ae an nc ln pt tw nm fe fn (by first | assumption | omega)) (cwV 0 hts gX4_cornersFrom_X4_far rfl rfl rfl (by decide +kernel) ⟨Nat.le_of_ble_eq_true rfl, Nat.le_of_ble_eq_true rfl⟩) (pV (q0 := 0) hPc hW0 trivial rfl rfl) rfl rfl hl.1 rfl (lv_room (Nat.le_of_ble_eq_true rfl)) dX4_cornersFrom_19 ⟨Nat.le_of_ble_eq_true rfl, Nat.le_of_ble_eq_true rfl⟩) ?_
  refine lv_istore (lv' := [(5, .int (isum (stp fe fn) nc)), (4, .int (isum fn nc)), (3, .ref q_1), (0, .ref h0), (1, .int x), (2, .ref an)]) hx hb dX4_cornersFrom_22 hl (by decide) rfl (fun ls hl => ?_)
  refine lv_iload_n hx hb dX4_cornersFrom_24 rfl (lv_at hl 4 rfl) ?_
  refine lv_istore (lv' := [(6, .int x), (5, .int (isum (stp fe fn) nc)), (4, .int (isum fn nc)), (3, .ref q_1), (0, .ref h0), (1, .int x), (2, .ref an)]) hx hb dX4_cornersFrom_25 hl (by decide) rfl (fun ls hl => ?_)
  refine lv_iconst (v := 0) hx hb dX4_cornersFrom_27 (by decide) ?_
  refine lv_istore (lv' := [(7, .int 0), (6, .int x), (5, .int (isum (stp fe fn) nc)), (4, .int (isum fn nc)), (3, .ref q_1), (0, .ref h0), (1, .int x), (2, .ref an)]) hx hb dX4_cornersFrom_28 hl (by decide) rfl (fun ls hl => ?_)
  refine lv_iconst (v := 0) hx hb dX4_cornersFrom_30 (by decide) ?_
  refine lv_istore (lv' := [(8, .int 0), (7, .int 0), (6, .int x), (5, .int (isum (stp fe fn) nc)), (4, .int (isum fn nc)), (3, .ref q_1), (0, .ref h0), (1, .int x), (2, .ref an)]) hx hb dX4_cornersFrom_31 hl (by decide) rfl (fun ls hl => ?_)
  have LOOP_33 : ∀ (fu : Nat) (k : Nat) (g : Nat → Int32) (hk : k ≤ nc) (hg : ∀ j, j < k → g j = crn nc x fn fe fn j) (hn : nc - k < fu) (H : Heap) (locs : List Loc) (hP : va_P D vwCl [(h0, .inr (6, [.ref as, .ref ae, .ref an, .int ln, .int (nI nc), .int pt, .int tw, .int nm])), (ae, .inl (cI, 8, .inl fe)), (an, .inl (cI, 8, .inl fn)), (q_1, .inl (cI, nc, .inl g))] H) (hD : va_D A [(h0, .inr (6, [.ref as, .ref ae, .ref an, .int ln, .int (nI nc), .int pt, .int tw, .int nm])), (ae, .inl (cI, 8, .inl fe)), (an, .inl (cI, 8, .inl fn)), (q_1, .inl (cI, nc, .inl g))]) (hS : va_S A s.heap H locs) (ls : Array Slot) (hl : lv_has ls 9 [(0, .ref h0), (2, .ref an), (3, .ref q_1), (4, .int (isum fn nc)), (5, .int (isum (stp fe fn) nc)), (6, .int (pnt x fn k)), (7, .int (isum (stp fe fn) k)), (8, .int (nI k))]), W p l e ({ frames := 3, cells := 1, slots := 8, locals := 57 } : Room) s m ([.ref h0, .int x, .ref an] : List Value).toArray below meth c H locs 1 8 Q (F0 m 33 ls []) := by
    intro fu
    induction fu with
    | zero => intro k g hk hg hn H locs hP hD hS ls hl; exact absurd hn (Nat.not_lt_zero _)
    | succ fu ih_33 =>
      intro k g hk hg hn H locs hP hD hS ls hl
      refine lv_iload hx hb dX4_cornersFrom_33 (lv_at hl 7 rfl) ?_
      refine lv_aload_n hx hb dX4_cornersFrom_35 rfl (lv_at hl 2 rfl) ?_
      refine va_alen (v := nI nc) hx hb hK hP 3 0 rfl rfl rfl dX4_cornersFrom_36 ?_
      refine lv_icmp_ge (tgt := 98) hx hb dX4_cornersFrom_37 (by decide) (fun c_2 => ?_) (fun c_2 => ?_)
      · skip
        have nc_2 : nc ≤ k := (nI_leI (a := nc) (b := k) (by omega) (by omega)).mp c_2
        refine lv_aload_n hx hb dX4_cornersFrom_98 rfl (lv_at hl 2 rfl) ?_
        rw [← hQ]
        have hP9 := hP
        have hD9 := hD
        exact W.aret (v := .ref q_1) hx hb hr (Or.inr ⟨_, rfl⟩) (Or.inr ⟨_, rfl⟩) (fun t ht hW => ⟨⟨g, q_1, rfl, fun j hj => hg j (by omega), by rw [ht]; exact hP9, hD9⟩, hS.F ht⟩) hS.2.2 dX4_cornersFrom_99
      · skip
        have nc_2 : ¬ (nc ≤ k) := fun h => c_2 ((nI_leI (a := nc) (b := k) (by omega) (by omega)).mpr h)
        refine lv_iload hx hb dX4_cornersFrom_40 (lv_at hl 7 rfl) ?_
        refine lv_aload_n hx hb dX4_cornersFrom_42 rfl (lv_at hl 1 rfl) ?_
        refine va_alen (v := 8) hx hb hK hP 2 0 rfl rfl rfl dX4_cornersFrom_43 ?_
        refine lv_icmp_ge (tgt := 98) hx hb dX4_cornersFrom_44 (by decide) (fun c_3 => ?_) (fun c_3 => ?_)
        · skip
          have nc_3 : 8 ≤ k := (nI_leI (a := 8) (b := k) (by omega) (by omega)).mp c_3
          exact absurd nc_3 (by omega)
        · skip
          have nc_3 : ¬ (8 ≤ k) := fun h => c_3 ((nI_leI (a := 8) (b := k) (by omega) (by omega)).mpr h)
          refine lv_aload_n hx hb dX4_cornersFrom_47 rfl (lv_at hl 2 rfl) ?_
          refine lv_iload hx hb dX4_cornersFrom_48 (lv_at hl 7 rfl) ?_
          refine lv_iload hx hb dX4_cornersFrom_50 (lv_at hl 4 rfl) ?_
          refine lv_if_ne (tgt := 60) hx hb dX4_cornersFrom_52 (by decide) (fun c_4 => ?_) (fun c_4 => ?_)
          · skip
            refine lv_iload hx hb dX4_cornersFrom_60 (lv_at hl 5 rfl) ?_
            refine lv_iload hx hb dX4_cornersFrom_62 (lv_at hl 3 rfl) ?_
            refine lv_iload hx hb dX4_cornersFrom_64 (lv_at hl 6 rfl) ?_
            refine lv_imul hx hb dX4_cornersFrom_66 ?_
            refine lv_iload hx hb dX4_cornersFrom_67 (lv_at hl 4 rfl) ?_
            refine lv_idiv hx hb dX4_cornersFrom_69 (hfar _ rfl) ?_
            refine lv_isub hx hb dX4_cornersFrom_70 ?_
            refine u_iast hx hb hK hP hD hS 3 0 rfl rfl rfl ⟨by omega, by omega⟩ dX4_cornersFrom_71 (fun H locs hP hD hS => ?_)
            have hP : va_P D vwCl [(h0, .inr (6, [.ref as, .ref ae, .ref an, .int ln, .int (nI nc), .int pt, .int tw, .int nm])), (ae, .inl (cI, 8, .inl fe)), (an, .inl (cI, 8, .inl fn)), (q_1, .inl (cI, nc, .inl (upd g k ((pnt x fn k) - (((isum fn nc) * (isum (stp fe fn) k)) / (isum (stp fe fn) nc))))))] H := hP
            have hD : va_D A [(h0, .inr (6, [.ref as, .ref ae, .ref an, .int ln, .int (nI nc), .int pt, .int tw, .int nm])), (ae, .inl (cI, 8, .inl fe)), (an, .inl (cI, 8, .inl fn)), (q_1, .inl (cI, nc, .inl (upd g k ((pnt x fn k) - (((isum fn nc) * (isum (stp fe fn) k)) / (isum (stp fe fn) nc))))))] := hD
            refine lv_iload hx hb dX4_cornersFrom_72 (lv_at hl 5 rfl) ?_
            refine lv_aload_n hx hb dX4_cornersFrom_74 rfl (lv_at hl 1 rfl) ?_
            refine lv_iload hx hb dX4_cornersFrom_75 (lv_at hl 7 rfl) ?_
            refine u_iald hx hb hK hP 2 0 rfl rfl rfl ⟨by omega, by omega⟩ dX4_cornersFrom_77 ?_
            refine lv_iadd hx hb dX4_cornersFrom_78 ?_
            refine u_eqi (show (pnt x fn k) + (fn k) = pnt x fn (k + 1) from rfl) ?_
            refine lv_istore (lv' := [(6, .int (pnt x fn (k + 1))), (0, .ref h0), (2, .ref an), (3, .ref q_1), (4, .int (isum fn nc)), (5, .int (isum (stp fe fn) nc)), (7, .int (isum (stp fe fn) k)), (8, .int (nI k))]) hx hb dX4_cornersFrom_79 hl (by decide) rfl (fun ls hl => ?_)
            refine lv_iload hx hb dX4_cornersFrom_81 (lv_at hl 6 rfl) ?_
            refine lv_aload_n hx hb dX4_cornersFrom_83 rfl (lv_at hl 1 rfl) ?_
            refine lv_iload hx hb dX4_cornersFrom_84 (lv_at hl 7 rfl) ?_
            have hPc := hP.sub (ws' := [(h0, .inr (6, [.ref as, .ref ae, .ref an, .int ln, .int (nI nc), .int pt, .int tw, .int nm])), (ae, .inl (cI, 8, .inl fe)), (an, .inl (cI, 8, .inl fn))]) [0, 1, 2] rfl
            refine u_callSi (W.runV (As := [.int (nI k)]) (rest := [.int (isum (stp fe fn) k)]) ⟨hx, hb, hml, hown, hts⟩ (c_X4_stepsOfCall l D cI cB cZ cP h0 as ae an nc ln pt tw nm k fe fn (by first | assumption | omega)) (cwV 1 hts gX4_cornersFrom_X4_stepsOfCall rfl rfl rfl (by decide +kernel) ⟨Nat.le_of_ble_eq_true rfl, Nat.le_of_ble_eq_true rfl⟩) (pV (q0 := 0) hPc hW0 trivial rfl rfl) rfl rfl hl.1 rfl (lv_room (Nat.le_of_ble_eq_true rfl)) dX4_cornersFrom_86 ⟨Nat.le_of_ble_eq_true rfl, Nat.le_of_ble_eq_true rfl⟩) ?_
            refine lv_iadd hx hb dX4_cornersFrom_89 ?_
            refine u_eqi (show (isum (stp fe fn) k) + (stp fe fn k) = isum (stp fe fn) (k + 1) from rfl) ?_
            refine lv_istore (lv' := [(7, .int (isum (stp fe fn) (k + 1))), (6, .int (pnt x fn (k + 1))), (0, .ref h0), (2, .ref an), (3, .ref q_1), (4, .int (isum fn nc)), (5, .int (isum (stp fe fn) nc)), (8, .int (nI k))]) hx hb dX4_cornersFrom_90 hl (by decide) rfl (fun ls hl => ?_)
            refine lv_iinc (v := nI (k + 1)) (lv' := [(8, .int (nI (k + 1))), (7, .int (isum (stp fe fn) (k + 1))), (6, .int (pnt x fn (k + 1))), (0, .ref h0), (2, .ref an), (3, .ref q_1), (4, .int (isum fn nc)), (5, .int (isum (stp fe fn) nc))]) hx hb dX4_cornersFrom_92 hl (k := 7) rfl (nI_1 _) (by decide) rfl (fun ls hl => ?_)
            refine lv_goto (tgt := 33) hx hb dX4_cornersFrom_95 (by decide) ?_
            exact ih_33 (k + 1) (upd g k ((pnt x fn k) - (((isum fn nc) * (isum (stp fe fn) k)) / (isum (stp fe fn) nc)))) (by omega) (upd_on hg (show ((pnt x fn k) - (((isum fn nc) * (isum (stp fe fn) k)) / (isum (stp fe fn) nc))) = crn nc x fn fe fn k from rfl)) (by omega) _ _ hP hD hS ls (lv_sub hl [3, 4, 5, 6, 7, 2, 1, 0] rfl)
          · skip
            exact absurd c_4 (hfar _ rfl)
  exact LOOP_33 (nc - 0 + 1) 0 (fun _ => 0) (Nat.zero_le _) (fun j h => absurd h (Nat.not_lt_zero _)) (Nat.lt_succ_self _) _ _ hP hD hS ls (lv_sub hl [6, 8, 5, 4, 3, 2, 1, 0] rfl)

