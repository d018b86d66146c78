set_option maxHeartbeats 4000000 in
set_option maxRecDepth 100000 in
theorem c_X7_spread (l : Launch) (D : va_G) (cI cB cZ cP : ClassId) (sz : Nat) (a : Nat → Nat) (v : Nat → Int32) (su sl : Int64) (F : Nat → Nat → Int32) (no : Nat) (O T : Nat → Int32) (x y : Int32) (hno : isP x y → O (at_ x y) = -6 → no < 1024) : Met l yX7_spread wsX7_spread ({ frames := 2, cells := 0, slots := 0, locals := 43 } : Room) (va_Pc [.ref (a 0), .int x, .int y] (fun U => U.heap.size = sz ∧ va_P D vwCl (MW cI cZ a (upd v 23 (nI no)) su sl (updF (updF F 9 O) 12 T)) U.heap ∧ KW D cI cB cZ cP U ∧ va_D (fun _ => True) (MW cI cZ a (upd v 23 (nI no)) su sl (updF (updF F 9 O) 12 T)) ∧ EF (MW cI cZ a (upd v 23 (nI no)) su sl (updF (updF F 9 O) 12 T)) sz E0 U.heap)) (va_Qv (fun (u : Nat × (Nat → Int32) × (Nat → Int32)) => match u with | (n1, O1, T1) => (isP x y ∧ O (at_ x y) = -6 ∧ O1 = upd O (at_ x y) 6 ∧ T1 = upd T no (nI (at_ x y)) ∧ n1 = no + 1) ∨ (¬ (isP x y ∧ O (at_ x y) = -6) ∧ O1 = O ∧ T1 = T ∧ n1 = no)) (fun (u : Nat × (Nat → Int32) × (Nat → Int32)) (t : State) => match u with | (n1, O1, T1) => va_P D vwCl (MW cI cZ a (upd v 23 (nI n1)) su sl (updF (updF F 9 O1) 12 T1)) t.heap ∧ va_D (va_A (MW cI cZ a (upd v 23 (nI no)) su sl (updF (updF F 9 O) 12 T)) sz) (MW cI cZ a (upd v 23 (nI n1)) su sl (updF (updF F 9 O1) 12 T1))) (va_A (MW cI cZ a (upd v 23 (nI no)) su sl (updF (updF F 9 O) 12 T)) sz)) 0 0 (va_A (MW cI cZ a (upd v 23 (nI no)) su sl (updF (updF F 9 O) 12 T)) sz) := by
  refine Met.ofW (cc := cX7_spread) (maxL := 3) (ret := none) (by decide) rfl ?_
  intro p e s m args below meth c s₁ B hml hv
  obtain ⟨rfl, hsz, hP, hW0, hD0, hE⟩ := hv
  have hx := B.exec
  have hb := B.bytes
  have hr := B.returns
  have hts := atoms_spec (ws := wsX7_spread) B.pre
  have hown : s.vm.findClass RX7 = some m.cls := findClass_of_methodNamed B.named
  have hlocks := B.notSynchronized
  have hK := hW0.1
  subst hsz
  have hD := hD0.self (sz := s.heap.size)
  unfold EF at hE
  generalize hAe : va_A (MW cI cZ a (upd v 23 (nI no)) su sl (updF (updF F 9 O) 12 T)) s.heap.size = A at hD hE ⊢
  have hA : ∀ q : Nat, s.heap.size ≤ q → A q := fun q h => by rw [← hAe]; exact Or.inr h
  have hS : va_S A s.heap s.heap [] := va_S.rf
  have hl := lv_entry ([.ref (a 0), .int x, .int y]) (n := 3) (Nat.le_of_ble_eq_true rfl)
  rw [lg_entry_eq]
  generalize (lg_sl ([.ref (a 0), .int x, .int y]) ++ List.replicate (3 - (lg_sl ([.ref (a 0), .int x, .int y])).length) Slot.unset).toArray = ls at hl ⊢
  have hl : lv_has ls 3 [(0, .ref (a 0)), (1, .int x), (2, .int y)] := hl
  show W p l e ({ frames := 2, cells := 0, slots := 0, locals := 43 } : Room) s m ([.ref (a 0), .int x, .int y] : List Value).toArray below meth c s.heap [] 0 0 _ (F0 m 0 ls [])
  refine u_genQ (fun Q hQ => ?_)
  refine lv_iload_n hx hb dX7_spread_0 rfl (lv_at hl 1 rfl) ?_
  refine lv_iload_n hx hb dX7_spread_1 rfl (lv_at hl 2 rfl) ?_
  have hPc := hP.sub (ws' := []) [] rfl
  refine u_callSi (W.runS (As := [.int x, .int y]) (rest := []) ⟨hx, hb, hml, hown, hts⟩ (c_X7_isPost l D cI cB cZ cP x y ) (cwS 2 hts gX7_spread_X7_isPost rfl rfl rfl (by decide +kernel) ⟨Nat.le_of_ble_eq_true rfl, Nat.le_of_ble_eq_true rfl⟩) (pS hPc hW0 trivial) rfl rfl hl.1 rfl (lv_room (Nat.le_of_ble_eq_true rfl)) dX7_spread_2 ⟨Nat.le_of_ble_eq_true rfl, Nat.le_of_ble_eq_true rfl⟩) ?_
  refine lv_if_eq (tgt := 62) hx hb dX7_spread_5 (by decide) (fun c_1 => ?_) (fun c_1 => ?_)
  · skip
    have nc_1 := zb_eq0.mp c_1
    rw [← hQ]
    have hP9 := hP
    have hD9 := hD
    exact W.vret hx hb hr (fun t ht hW => ⟨⟨(no, O, T), rfl, Or.inr ⟨fun q => nc_1 q.1, rfl, rfl, rfl⟩, by rw [ht]; exact hP9, hD9⟩, hS.F ht⟩) hS.2.2 dX7_spread_62
  · skip
    have nc_1 := zb_ne0.mp c_1
    obtain ⟨xx, hxx, exx⟩ := isP_x nc_1
    obtain ⟨yy, hyy, eyy⟩ := isP_y nc_1
    have eat : at_ x y = 32 * yy + xx := by unfold at_; rw [exx, eyy, ix_nI (by omega), ix_nI (by omega)]
    rw [exx, eyy] at hl
    refine lv_aload_n hx hb dX7_spread_8 rfl (lv_at hl 0 rfl) ?_
    refine va_get (D := D) (ci := 9) (v := .ref (a 9)) (C := RX7) (T := TX7) (N := 24) hx hb hts (by decide +kernel) hown hK hP 0 rfl rfl 16 (by decide) (hts (.fieldLink RX7 35 "LandDeedsModel" "owner" "[I") (by decide +kernel)) (fun _ h9 => h9) rfl dX7_spread_9 ?_
    refine lv_bipush (v := 32) hx hb dX7_spread_12 (by decide) ?_
    refine lv_iload_n hx hb dX7_spread_14 rfl (lv_at hl 2 rfl) ?_
    refine lv_imul hx hb dX7_spread_15 ?_
    refine u_eqi (show 32 * (nI yy) = nI (32 * yy) from nI_m 32 yy) ?_
    refine lv_iload_n hx hb dX7_spread_16 rfl (lv_at hl 1 rfl) ?_
    refine lv_iadd hx hb dX7_spread_17 ?_
    refine u_eqi (show (nI (32 * yy)) + (nI xx) = nI (32 * yy + xx) from nI_add _ _) ?_
    refine u_iald hx hb hK hP 9 0 rfl rfl rfl ⟨by omega, by omega⟩ dX7_spread_18 ?_
    refine lv_bipush (v := (-6)) hx hb dX7_spread_19 (by decide) ?_
    refine lv_icmp_ne (tgt := 62) hx hb dX7_spread_21 (by decide) (fun c_2 => ?_) (fun c_2 => ?_)
    · skip
      rw [← hQ]
      have hP9 := hP
      have hD9 := hD
      exact W.vret hx hb hr (fun t ht hW => ⟨⟨(no, O, T), rfl, Or.inr ⟨fun q => c_2 (by have := q.2; rw [eat] at this; exact this), rfl, rfl, rfl⟩, by rw [ht]; exact hP9, hD9⟩, hS.F ht⟩) hS.2.2 dX7_spread_62
    · skip
      have hno9 := hno nc_1 (by rw [eat]; exact c_2)
      refine lv_aload_n hx hb dX7_spread_24 rfl (lv_at hl 0 rfl) ?_
      refine va_get (D := D) (ci := 9) (v := .ref (a 9)) (C := RX7) (T := TX7) (N := 24) hx hb hts (by decide +kernel) hown hK hP 0 rfl rfl 16 (by decide) (hts (.fieldLink RX7 35 "LandDeedsModel" "owner" "[I") (by decide +kernel)) (fun _ h9 => h9) rfl dX7_spread_25 ?_
      refine lv_bipush (v := 32) hx hb dX7_spread_28 (by decide) ?_
      refine lv_iload_n hx hb dX7_spread_30 rfl (lv_at hl 2 rfl) ?_
      refine lv_imul hx hb dX7_spread_31 ?_
      refine u_eqi (show 32 * (nI yy) = nI (32 * yy) from nI_m 32 yy) ?_
      refine lv_iload_n hx hb dX7_spread_32 rfl (lv_at hl 1 rfl) ?_
      refine lv_iadd hx hb dX7_spread_33 ?_
      refine u_eqi (show (nI (32 * yy)) + (nI xx) = nI (32 * yy + xx) from nI_add _ _) ?_
      refine lv_bipush (v := 6) hx hb dX7_spread_34 (by decide) ?_
      refine u_iast hx hb hK hP hD hS 9 0 rfl rfl rfl ⟨by omega, by omega⟩ dX7_spread_36 (fun H locs hP hD hS => ?_)
      have hP : va_P D vwCl (MW cI cZ a (upd v 23 (nI no)) su sl (updF (updF F 9 (upd O (32 * yy + xx) 6)) 12 T)) H := hP
      have hD : va_D A (MW cI cZ a (upd v 23 (nI no)) su sl (updF (updF F 9 (upd O (32 * yy + xx) 6)) 12 T)) := hD
      refine lv_aload_n hx hb dX7_spread_37 rfl (lv_at hl 0 rfl) ?_
      refine va_get (D := D) (ci := 9) (v := .ref (a 12)) (C := RX7) (T := TX7) (N := 24) hx hb hts (by decide +kernel) hown hK hP 0 rfl rfl 22 (by decide) (hts (.fieldLink RX7 44 "LandDeedsModel" "still" "[I") (by decide +kernel)) (fun _ h9 => h9) rfl dX7_spread_38 ?_
      refine lv_aload_n hx hb dX7_spread_41 rfl (lv_at hl 0 rfl) ?_
      refine va_get (D := D) (ci := 9) (v := .int (nI no)) (C := RX7) (T := TX7) (N := 24) hx hb hts (by decide +kernel) hown hK hP 0 rfl rfl 23 (by decide) (hts (.fieldLink RX7 200 "LandDeedsModel" "open" "I") (by decide +kernel)) (fun _ h9 => h9) rfl dX7_spread_42 ?_
      refine lv_bipush (v := 32) hx hb dX7_spread_45 (by decide) ?_
      refine lv_iload_n hx hb dX7_spread_47 rfl (lv_at hl 2 rfl) ?_
      refine lv_imul hx hb dX7_spread_48 ?_
      refine u_eqi (show 32 * (nI yy) = nI (32 * yy) from nI_m 32 yy) ?_
      refine lv_iload_n hx hb dX7_spread_49 rfl (lv_at hl 1 rfl) ?_
      refine lv_iadd hx hb dX7_spread_50 ?_
      refine u_eqi (show (nI (32 * yy)) + (nI xx) = nI (32 * yy + xx) from nI_add _ _) ?_
      refine u_iast hx hb hK hP hD hS 12 0 rfl rfl rfl ⟨by omega, by omega⟩ dX7_spread_51 (fun H locs hP hD hS => ?_)
      have hP : va_P D vwCl (MW cI cZ a (upd v 23 (nI no)) su sl (updF (updF F 9 (upd O (32 * yy + xx) 6)) 12 (upd T no (nI (32 * yy + xx))))) H := hP
      have hD : va_D A (MW cI cZ a (upd v 23 (nI no)) su sl (updF (updF F 9 (upd O (32 * yy + xx) 6)) 12 (upd T no (nI (32 * yy + xx))))) := hD
      refine lv_aload_n hx hb dX7_spread_52 rfl (lv_at hl 0 rfl) ?_
      refine lv_dup hx hb dX7_spread_53 rfl ?_
      refine va_get (D := D) (ci := 9) (v := .int (nI no)) (C := RX7) (T := TX7) (N := 24) hx hb hts (by decide +kernel) hown hK hP 0 rfl rfl 23 (by decide) (hts (.fieldLink RX7 200 "LandDeedsModel" "open" "I") (by decide +kernel)) (fun _ h9 => h9) rfl dX7_spread_54 ?_
      refine lv_iconst (v := 1) hx hb dX7_spread_57 (by decide) ?_
      refine lv_iadd hx hb dX7_spread_58 ?_
      refine u_eqi (show (nI no) + 1 = nI (no + 1) from nI_1 no) ?_
      refine va_put (D := D) (ci := 9) (v := .int (nI (no + 1))) (ty := .int) (C := RX7) (T := TX7) (N := 24) hx hb hts (by decide +kernel) tyX7 tyX7_ok nmX7 hown hK hP hD hS 0 rfl rfl 23 (by decide) (hts (.fieldLink RX7 200 "LandDeedsModel" "open" "I") (by decide +kernel)) (fun _ h9 => h9) rfl (by decide +kernel) rfl rfl (Nat.le_of_ble_eq_true rfl) dX7_spread_59 (fun H locs hP hD hS => ?_)
      have hP : va_P D vwCl (MW cI cZ a (upd v 23 (nI (no + 1))) su sl (updF (updF F 9 (upd O (32 * yy + xx) 6)) 12 (upd T no (nI (32 * yy + xx))))) H := hP
      have hD : va_D A (MW cI cZ a (upd v 23 (nI (no + 1))) su sl (updF (updF F 9 (upd O (32 * yy + xx) 6)) 12 (upd T no (nI (32 * yy + xx))))) := hD
      rw [← hQ]
      have hP9 := hP
      have hD9 := hD
      exact W.vret hx hb hr (fun t ht hW => ⟨⟨(no + 1, upd O (32 * yy + xx) 6, upd T no (nI (32 * yy + xx))), rfl, Or.inl ⟨nc_1, by rw [eat]; exact c_2, by rw [eat], by rw [eat], rfl⟩, by rw [ht]; exact hP9, hD9⟩, hS.F ht⟩) hS.2.2 dX7_spread_62

set_option maxHeartbeats 4000000 in
set_option maxRecDepth 100000 in
theorem c_X7_gapFrom (l : Launch) (D : va_G) (cI cB cZ cP : ClassId) (sz : Nat) (a : Nat → Nat) (v : Nat → Int32) (su sl : Int64) (F : Nat → Nat → Int32) (O T : Nat → Int32) (Rr : Nat → Prop) (i0 : Nat) (hO : ∀ j, (j < 1024 ∧ O j = -6) ↔ Rr j) (hi0 : i0 < 1024) (hRi : Rr i0) : Met l yX7_gapFrom wsX7_gapFrom ({ frames := 3, cells := 0, slots := 0, locals := 65 } : Room) (va_Pc [.ref (a 0), .int (nI i0)] (fun U => U.heap.size = sz ∧ va_P D vwCl (MW cI cZ a v su sl (updF (updF F 9 O) 12 T)) U.heap ∧ KW D cI cB cZ cP U ∧ va_D (fun _ => True) (MW cI cZ a v su sl (updF (updF F 9 O) 12 T)) ∧ EF (MW cI cZ a v su sl (updF (updF F 9 O) 12 T)) sz E0 U.heap)) (va_Qi (fun r (u : Nat × (Nat → Int32) × (Nat → Int32)) => match u with | (n1, O1, T1) => r = nI (cnt (conn Rr i0) 1024) ∧ ∀ j, (j < 1024 ∧ O1 j = -6) ↔ (Rr j ∧ ¬ conn Rr i0 j)) (fun (u : Nat × (Nat → Int32) × (Nat → Int32)) (t : State) => match u with | (n1, O1, T1) => va_P D vwCl (MW cI cZ a (upd v 23 (nI n1)) su sl (updF (updF F 9 O1) 12 T1)) t.heap ∧ va_D (va_A (MW cI cZ a v su sl (updF (updF F 9 O) 12 T)) sz) (MW cI cZ a (upd v 23 (nI n1)) su sl (updF (updF F 9 O1) 12 T1))) (va_A (MW cI cZ a v su sl (updF (updF F 9 O) 12 T)) sz)) 0 0 (va_A (MW cI cZ a v su sl (updF (updF F 9 O) 12 T)) sz) := by
  refine Met.ofW (cc := cX7_gapFrom) (maxL := 5) (ret := (some .int)) (by decide) rfl ?_
  intro p e s m args below meth c s₁ B hml hv
  obtain ⟨rfl, hsz, hP, hW0, hD0, hE⟩ := hv
  have hx := B.exec
  have hb := B.bytes
  have hr := B.returns
  have hts := atoms_spec (ws := wsX7_gapFrom) B.pre
  have hown : s.vm.findClass RX7 = some m.cls := findClass_of_methodNamed B.named
  have hlocks := B.notSynchronized
  have hK := hW0.1
  subst hsz
  have hD := hD0.self (sz := s.heap.size)
  unfold EF at hE
  generalize hAe : va_A (MW cI cZ a v su sl (updF (updF F 9 O) 12 T)) s.heap.size = A at hD hE ⊢
  have hA : ∀ q : Nat, s.heap.size ≤ q → A q := fun q h => by rw [← hAe]; exact Or.inr h
  have hS : va_S A s.heap s.heap [] := va_S.rf
  have hl := lv_entry ([.ref (a 0), .int (nI i0)]) (n := 5) (Nat.le_of_ble_eq_true rfl)
  rw [lg_entry_eq]
  generalize (lg_sl ([.ref (a 0), .int (nI i0)]) ++ List.replicate (5 - (lg_sl ([.ref (a 0), .int (nI i0)])).length) Slot.unset).toArray = ls at hl ⊢
  have hl : lv_has ls 5 [(0, .ref (a 0)), (1, .int (nI i0))] := hl
  show W p l e ({ frames := 3, cells := 0, slots := 0, locals := 65 } : Room) s m ([.ref (a 0), .int (nI i0)] : List Value).toArray below meth c s.heap [] 0 0 _ (F0 m 0 ls [])
  refine u_genQ (fun Q hQ => ?_)
  have eat0 : at_ (nI (i0 % 32)) (nI (i0 / 32)) = i0 := by rw [at_xy (by omega) (by omega)]; omega
  have hpi : isP (nI (i0 % 32)) (nI (i0 / 32)) := by unfold isP; rw [nI_toInt (by omega), nI_toInt (by omega)]; omega
  refine lv_aload_n hx hb dX7_gapFrom_0 rfl (lv_at hl 0 rfl) ?_
  refine lv_iconst (v := 0) hx hb dX7_gapFrom_1 (by decide) ?_
  refine va_put (D := D) (ci := 9) (v := .int 0) (ty := .int) (C := RX7) (T := TX7) (N := 24) hx hb hts (by decide +kernel) tyX7 tyX7_ok nmX7 hown hK hP hD hS 0 rfl rfl 23 (by decide) (hts (.fieldLink RX7 200 "LandDeedsModel" "open" "I") (by decide +kernel)) (fun _ h9 => h9) rfl (by decide +kernel) rfl rfl (Nat.le_of_ble_eq_true rfl) dX7_gapFrom_2 (fun H locs hP hD hS => ?_)
  have hP : va_P D vwCl (MW cI cZ a (upd v 23 0) su sl (updF (updF F 9 O) 12 T)) H := hP
  have hD : va_D A (MW cI cZ a (upd v 23 0) su sl (updF (updF F 9 O) 12 T)) := hD
  refine lv_aload_n hx hb dX7_gapFrom_5 rfl (lv_at hl 0 rfl) ?_
  refine lv_iload_n hx hb dX7_gapFrom_6 rfl (lv_at hl 1 rfl) ?_
  refine lv_bipush (v := 32) hx hb dX7_gapFrom_7 (by decide) ?_
  refine lv_irem hx hb dX7_gapFrom_9 (by decide) ?_
  refine u_eqi (show (nI i0) - (nI i0) / 32 * 32 = nI (i0 % 32) from (div32 hi0).2) ?_
  refine lv_iload_n hx hb dX7_gapFrom_10 rfl (lv_at hl 1 rfl) ?_
  refine lv_bipush (v := 32) hx hb dX7_gapFrom_11 (by decide) ?_
  refine lv_idiv hx hb dX7_gapFrom_13 (by decide) ?_
  refine u_eqi (show (nI i0) / 32 = nI (i0 / 32) from (div32 hi0).1) ?_
  have hPc := hP
  have hDc := hD
  have hFc := va_free (wc := (MW cI cZ a (upd v 23 0) su sl (updF (updF F 9 O) 12 T))) hD hS hA [0, 1, 2, 3, 4, 5, 6, 7, 8, 9, 10, 11, 12] rfl
  refine va_callv (va_runV (As := [.int (nI (i0 % 32)), .int (nI (i0 / 32))]) (rest := []) ⟨hx, hb, hml, hown, hts⟩ (c_X7_spread l D cI cB cZ cP H.size a v su sl F 0 O T (nI (i0 % 32)) (nI (i0 / 32)) (fun _ _ => by decide)) (cwV 2 hts gX7_gapFrom_X7_spread rfl rfl rfl (by decide +kernel) ⟨Nat.le_of_ble_eq_true rfl, Nat.le_of_ble_eq_true rfl⟩) (pVQ (q0 := 0) hPc hDc hW0 EF.t rfl rfl) rfl rfl hl.1 rfl (lv_room (Nat.le_of_ble_eq_true rfl)) dX7_gapFrom_14 ⟨Nat.le_of_ble_eq_true rfl, Nat.le_of_ble_eq_true rfl⟩) hS (fun q _ h => hFc q h) hFc (fun u t H1 locs ht hvm hw hB hz1 hk1 hS => ?_)
  obtain ⟨n1_1, O1_1, T1_1⟩ := u
  obtain ⟨hP1, hD1⟩ := hB
  rw [ht] at hP1
  have hw_1 : (isP (nI (i0 % 32)) (nI (i0 / 32)) ∧ O (at_ (nI (i0 % 32)) (nI (i0 / 32))) = -6 ∧ O1_1 = upd O (at_ (nI (i0 % 32)) (nI (i0 / 32))) 6 ∧ T1_1 = upd T 0 (nI (at_ (nI (i0 % 32)) (nI (i0 / 32)))) ∧ n1_1 = 0 + 1) ∨ (¬ (isP (nI (i0 % 32)) (nI (i0 / 32)) ∧ O (at_ (nI (i0 % 32)) (nI (i0 / 32))) = -6) ∧ O1_1 = O ∧ T1_1 = T ∧ n1_1 = 0) := hw
  obtain ⟨hP, hD⟩ := va_join (wr := []) (w1 := (MW cI cZ a (upd v 23 (nI n1_1)) su sl (updF (updF F 9 O1_1) 12 T1_1))) hP hD [0, 1, 2, 3, 4, 5, 6, 7, 8, 9, 10, 11, 12] [] rfl rfl (by decide) (by decide) hk1 hFc hP1 hD1
  generalize H1 = H at hP hS ⊢
  have hP : va_P D vwCl (MW cI cZ a (upd v 23 (nI n1_1)) su sl (updF (updF F 9 O1_1) 12 T1_1)) H := hP
  have hD : va_D A (MW cI cZ a (upd v 23 (nI n1_1)) su sl (updF (updF F 9 O1_1) 12 T1_1)) := hD
  have hFM := FM_spread (FM_0 (T := T) hO) (fun _ q => by rw [eat0]; exact conn.rf hRi) hw_1
  have hN0 : ¬ O1_1 i0 = -6 := by have h9 := FM_did hpi (by rw [eat0]; exact ((hO i0).mpr hRi).2) hw_1; rw [eat0] at h9; exact h9
  have hFM9 : FM Rr i0 O1_1 T1_1 n1_1 0 (fun _ => False) := ⟨Fl_no hFM.1.1 (fun j a9 _ => a9.elim), hFM.1.2⟩
  refine lv_iconst (v := 0) hx hb dX7_gapFrom_17 (by decide) ?_
  refine lv_istore_n (lv' := [(2, .int 0), (0, .ref (a 0)), (1, .int (nI i0))]) hx hb dX7_gapFrom_18 rfl hl (by decide) rfl (fun ls hl => ?_)
  have LOOP_19 : ∀ (fu : Nat) (z : Nat) (no : Nat) (O1 : Nat → Int32) (T1 : Nat → Int32) (hM0 : FM Rr i0 O1 T1 no z (fun _ => False)) (hN0 : ¬ O1 i0 = -6) (hn : 1024 - z < fu) (H : Heap) (locs : List Loc) (hP : va_P D vwCl (MW cI cZ a (upd v 23 (nI no)) su sl (updF (updF F 9 O1) 12 T1)) H) (hD : va_D A (MW cI cZ a (upd v 23 (nI no)) su sl (updF (updF F 9 O1) 12 T1))) (hS : va_S A s.heap H locs) (ls : Array Slot) (hl : lv_has ls 5 [(0, .ref (a 0)), (2, .int (nI z))]), W p l e ({ frames := 3, cells := 0, slots := 0, locals := 65 } : Room) s m ([.ref (a 0), .int (nI i0)] : List Value).toArray below meth c H locs 0 0 Q (F0 m 19 ls []) := by
    intro fu
    induction fu with
    | zero => intro z no O1 T1 hM0 hN0 hn H locs hP hD hS ls hl; exact absurd hn (Nat.not_lt_zero _)
    | succ fu ih_19 =>
      intro z no O1 T1 hM0 hN0 hn H locs hP hD hS ls hl
      refine lv_iload_n hx hb dX7_gapFrom_19 rfl (lv_at hl 1 rfl) ?_
      have hno1 : no ≤ 1024 := Fl_le hM0.1
      have hzno : z ≤ no := hM0.2.2
      refine lv_aload_n hx hb dX7_gapFrom_20 rfl (lv_at hl 0 rfl) ?_
      refine va_get (D := D) (ci := 9) (v := .int (nI no)) (C := RX7) (T := TX7) (N := 24) hx hb hts (by decide +kernel) hown hK hP 0 rfl rfl 23 (by decide) (hts (.fieldLink RX7 200 "LandDeedsModel" "open" "I") (by decide +kernel)) (fun _ h9 => h9) rfl dX7_gapFrom_21 ?_
      refine lv_icmp_ge (tgt := 90) hx hb dX7_gapFrom_24 (by decide) (fun c_2 => ?_) (fun c_2 => ?_)
      · skip
        have nc_2 : no ≤ z := (nI_leI (a := no) (b := z) (by omega) (by omega)).mp c_2
        have hzn : z = no := by have := hM0.2.2; omega
        refine lv_aload_n hx hb dX7_gapFrom_90 rfl (lv_at hl 0 rfl) ?_
        refine va_get (D := D) (ci := 9) (v := .int (nI no)) (C := RX7) (T := TX7) (N := 24) hx hb hts (by decide +kernel) hown hK hP 0 rfl rfl 23 (by decide) (hts (.fieldLink RX7 200 "LandDeedsModel" "open" "I") (by decide +kernel)) (fun _ h9 => h9) rfl dX7_gapFrom_91 ?_
        rw [← hQ]
        have hP9 := hP
        have hD9 := hD
        exact W.iret (v := nI no) hx hb hr (fun t ht hW => ⟨⟨_, (no, O1, T1), rfl, FM_end hM0 hzn hRi hN0, by rw [ht]; exact hP9, hD9⟩, hS.F ht⟩) hS.2.2 dX7_gapFrom_94
      · skip
        have nc_2 : ¬ (no ≤ z) := fun h => c_2 ((nI_leI (a := no) (b := z) (by omega) (by omega)).mpr h)
        have hkz0 : z < no := by omega
        have hT0 : T1 z = T1 z := rfl
        refine lv_aload_n hx hb dX7_gapFrom_27 rfl (lv_at hl 0 rfl) ?_
        refine va_get (D := D) (ci := 9) (v := .ref (a 12)) (C := RX7) (T := TX7) (N := 24) hx hb hts (by decide +kernel) hown hK hP 0 rfl rfl 22 (by decide) (hts (.fieldLink RX7 44 "LandDeedsModel" "still" "[I") (by decide +kernel)) (fun _ h9 => h9) rfl dX7_gapFrom_28 ?_
        refine lv_iload_n hx hb dX7_gapFrom_31 rfl (lv_at hl 1 rfl) ?_
        refine u_iald hx hb hK hP 12 0 rfl rfl rfl ⟨by omega, by omega⟩ dX7_gapFrom_32 ?_
        refine u_eqi (show T1 z = nI (ix (T1 z)) from (hM0.2.1 z hkz0).1) ?_
        refine lv_bipush (v := 32) hx hb dX7_gapFrom_33 (by decide) ?_
        refine lv_irem hx hb dX7_gapFrom_35 (by decide) ?_
        refine u_eqi (show (nI (ix (T1 z))) - (nI (ix (T1 z))) / 32 * 32 = nI (ix (T1 z) % 32) from (div32 (hM0.2.1 z hkz0).2).2) ?_
        refine lv_istore_n (lv' := [(3, .int (nI (ix (T1 z) % 32))), (0, .ref (a 0)), (2, .int (nI z))]) hx hb dX7_gapFrom_36 rfl hl (by decide) rfl (fun ls hl => ?_)
        refine lv_aload_n hx hb dX7_gapFrom_37 rfl (lv_at hl 1 rfl) ?_
        refine va_get (D := D) (ci := 9) (v := .ref (a 12)) (C := RX7) (T := TX7) (N := 24) hx hb hts (by decide +kernel) hown hK hP 0 rfl rfl 22 (by decide) (hts (.fieldLink RX7 44 "LandDeedsModel" "still" "[I") (by decide +kernel)) (fun _ h9 => h9) rfl dX7_gapFrom_38 ?_
        refine lv_iload_n hx hb dX7_gapFrom_41 rfl (lv_at hl 2 rfl) ?_
        refine u_iald hx hb hK hP 12 0 rfl rfl rfl ⟨by omega, by omega⟩ dX7_gapFrom_42 ?_
        refine u_eqi (show T1 z = nI (ix (T1 z)) from (hM0.2.1 z hkz0).1) ?_
        refine lv_bipush (v := 32) hx hb dX7_gapFrom_43 (by decide) ?_
        refine lv_idiv hx hb dX7_gapFrom_45 (by decide) ?_
        refine u_eqi (show (nI (ix (T1 z))) / 32 = nI (ix (T1 z) / 32) from (div32 (hM0.2.1 z hkz0).2).1) ?_
        refine lv_istore (lv' := [(4, .int (nI (ix (T1 z) / 32))), (3, .int (nI (ix (T1 z) % 32))), (0, .ref (a 0)), (2, .int (nI z))]) hx hb dX7_gapFrom_46 hl (by decide) rfl (fun ls hl => ?_)
        refine lv_aload_n hx hb dX7_gapFrom_48 rfl (lv_at hl 2 rfl) ?_
        refine lv_iload_n hx hb dX7_gapFrom_49 rfl (lv_at hl 1 rfl) ?_
        refine lv_iconst (v := 1) hx hb dX7_gapFrom_50 (by decide) ?_
        refine lv_iadd hx hb dX7_gapFrom_51 ?_
        refine lv_iload hx hb dX7_gapFrom_52 (lv_at hl 0 rfl) ?_
        have hPc := hP
        have hDc := hD
        have hFc := va_free (wc := (MW cI cZ a (upd v 23 (nI no)) su sl (updF (updF F 9 O1) 12 T1))) hD hS hA [0, 1, 2, 3, 4, 5, 6, 7, 8, 9, 10, 11, 12] rfl
        refine va_callv (va_runV (As := [.int ((nI (ix (T1 z) % 32)) + 1), .int (nI (ix (T1 z) / 32))]) (rest := []) ⟨hx, hb, hml, hown, hts⟩ (c_X7_spread l D cI cB cZ cP H.size a v su sl F no O1 T1 ((nI (ix (T1 z) % 32)) + 1) (nI (ix (T1 z) / 32)) (fun q1 q2 => FM_lt hM0 (at_lt q1) q2)) (cwV 2 hts gX7_gapFrom_X7_spread rfl rfl rfl (by decide +kernel) ⟨Nat.le_of_ble_eq_true rfl, Nat.le_of_ble_eq_true rfl⟩) (pVQ (q0 := 0) hPc hDc hW0 EF.t rfl rfl) rfl rfl hl.1 rfl (lv_room (Nat.le_of_ble_eq_true rfl)) dX7_gapFrom_54 ⟨Nat.le_of_ble_eq_true rfl, Nat.le_of_ble_eq_true rfl⟩) hS (fun q _ h => hFc q h) hFc (fun u t H1 locs ht hvm hw hB hz1 hk1 hS => ?_)
        obtain ⟨n1_3, O1_3, T1_3⟩ := u
        obtain ⟨hP1, hD1⟩ := hB
        rw [ht] at hP1
        have hw_3 : (isP ((nI (ix (T1 z) % 32)) + 1) (nI (ix (T1 z) / 32)) ∧ O1 (at_ ((nI (ix (T1 z) % 32)) + 1) (nI (ix (T1 z) / 32))) = -6 ∧ O1_3 = upd O1 (at_ ((nI (ix (T1 z) % 32)) + 1) (nI (ix (T1 z) / 32))) 6 ∧ T1_3 = upd T1 no (nI (at_ ((nI (ix (T1 z) % 32)) + 1) (nI (ix (T1 z) / 32)))) ∧ n1_3 = no + 1) ∨ (¬ (isP ((nI (ix (T1 z) % 32)) + 1) (nI (ix (T1 z) / 32)) ∧ O1 (at_ ((nI (ix (T1 z) % 32)) + 1) (nI (ix (T1 z) / 32))) = -6) ∧ O1_3 = O1 ∧ T1_3 = T1 ∧ n1_3 = no) := hw
        obtain ⟨hP, hD⟩ := va_join (wr := []) (w1 := (MW cI cZ a (upd v 23 (nI n1_3)) su sl (updF (updF F 9 O1_3) 12 T1_3))) hP hD [0, 1, 2, 3, 4, 5, 6, 7, 8, 9, 10, 11, 12] [] rfl rfl (by decide) (by decide) hk1 hFc hP1 hD1
        generalize H1 = H at hP hS ⊢
        have hP : va_P D vwCl (MW cI cZ a (upd v 23 (nI n1_3)) su sl (updF (updF F 9 O1_3) 12 T1_3)) H := hP
        have hD : va_D A (MW cI cZ a (upd v 23 (nI n1_3)) su sl (updF (updF F 9 O1_3) 12 T1_3)) := hD
        have hS1 := FM_spread hM0 (FM_conn hM0 hkz0 (by rw [hT0]; exact Or.inl ⟨rfl, rfl⟩)) hw_3
        have hM1 := hS1.1
        have hT1 : T1_3 z = T1 z := (hS1.2.1 z hkz0).trans hT0
        have hkz1 : z < n1_3 := by have := hS1.2.2; omega
        have hN1 : ¬ O1_3 i0 = -6 := FM_keep hN0 hw_3
        refine lv_aload_n hx hb dX7_gapFrom_57 rfl (lv_at hl 2 rfl) ?_
        refine lv_iload_n hx hb dX7_gapFrom_58 rfl (lv_at hl 1 rfl) ?_
        refine lv_iconst (v := 1) hx hb dX7_gapFrom_59 (by decide) ?_
        refine lv_isub hx hb dX7_gapFrom_60 ?_
        refine lv_iload hx hb dX7_gapFrom_61 (lv_at hl 0 rfl) ?_
        have hPc := hP
        have hDc := hD
        have hFc := va_free (wc := (MW cI cZ a (upd v 23 (nI n1_3)) su sl (updF (updF F 9 O1_3) 12 T1_3))) hD hS hA [0, 1, 2, 3, 4, 5, 6, 7, 8, 9, 10, 11, 12] rfl
        refine va_callv (va_runV (As := [.int ((nI (ix (T1 z) % 32)) - 1), .int (nI (ix (T1 z) / 32))]) (rest := []) ⟨hx, hb, hml, hown, hts⟩ (c_X7_spread l D cI cB cZ cP H.size a v su sl F n1_3 O1_3 T1_3 ((nI (ix (T1 z) % 32)) - 1) (nI (ix (T1 z) / 32)) (fun q1 q2 => FM_lt hM1 (at_lt q1) q2)) (cwV 2 hts gX7_gapFrom_X7_spread rfl rfl rfl (by decide +kernel) ⟨Nat.le_of_ble_eq_true rfl, Nat.le_of_ble_eq_true rfl⟩) (pVQ (q0 := 0) hPc hDc hW0 EF.t rfl rfl) rfl rfl hl.1 rfl (lv_room (Nat.le_of_ble_eq_true rfl)) dX7_gapFrom_63 ⟨Nat.le_of_ble_eq_true rfl, Nat.le_of_ble_eq_true rfl⟩) hS (fun q _ h => hFc q h) hFc (fun u t H1 locs ht hvm hw hB hz1 hk1 hS => ?_)
        obtain ⟨n1_4, O1_4, T1_4⟩ := u
        obtain ⟨hP1, hD1⟩ := hB
        rw [ht] at hP1
        have hw_4 : (isP ((nI (ix (T1 z) % 32)) - 1) (nI (ix (T1 z) / 32)) ∧ O1_3 (at_ ((nI (ix (T1 z) % 32)) - 1) (nI (ix (T1 z) / 32))) = -6 ∧ O1_4 = upd O1_3 (at_ ((nI (ix (T1 z) % 32)) - 1) (nI (ix (T1 z) / 32))) 6 ∧ T1_4 = upd T1_3 n1_3 (nI (at_ ((nI (ix (T1 z) % 32)) - 1) (nI (ix (T1 z) / 32)))) ∧ n1_4 = n1_3 + 1) ∨ (¬ (isP ((nI (ix (T1 z) % 32)) - 1) (nI (ix (T1 z) / 32)) ∧ O1_3 (at_ ((nI (ix (T1 z) % 32)) - 1) (nI (ix (T1 z) / 32))) = -6) ∧ O1_4 = O1_3 ∧ T1_4 = T1_3 ∧ n1_4 = n1_3) := hw
        obtain ⟨hP, hD⟩ := va_join (wr := []) (w1 := (MW cI cZ a (upd v 23 (nI n1_4)) su sl (updF (updF F 9 O1_4) 12 T1_4))) hP hD [0, 1, 2, 3, 4, 5, 6, 7, 8, 9, 10, 11, 12] [] rfl rfl (by decide) (by decide) hk1 hFc hP1 hD1
        generalize H1 = H at hP hS ⊢
        have hP : va_P D vwCl (MW cI cZ a (upd v 23 (nI n1_4)) su sl (updF (updF F 9 O1_4) 12 T1_4)) H := hP
        have hD : va_D A (MW cI cZ a (upd v 23 (nI n1_4)) su sl (updF (updF F 9 O1_4) 12 T1_4)) := hD
        have hS2 := FM_spread hM1 (FM_conn hM1 hkz1 (by rw [hT1]; exact Or.inr (Or.inl ⟨rfl, rfl⟩))) hw_4
        have hM2 := hS2.1
        have hT2 : T1_4 z = T1 z := (hS2.2.1 z hkz1).trans hT1
        have hkz2 : z < n1_4 := by have := hS2.2.2; omega
        have hN2 : ¬ O1_4 i0 = -6 := FM_keep hN1 hw_4
        refine lv_aload_n hx hb dX7_gapFrom_66 rfl (lv_at hl 2 rfl) ?_
        refine lv_iload_n hx hb dX7_gapFrom_67 rfl (lv_at hl 1 rfl) ?_
        refine lv_iload hx hb dX7_gapFrom_68 (lv_at hl 0 rfl) ?_
        refine lv_iconst (v := 1) hx hb dX7_gapFrom_70 (by decide) ?_
        refine lv_iadd hx hb dX7_gapFrom_71 ?_
        have hPc := hP
        have hDc := hD
        have hFc := va_free (wc := (MW cI cZ a (upd v 23 (nI n1_4)) su sl (updF (updF F 9 O1_4) 12 T1_4))) hD hS hA [0, 1, 2, 3, 4, 5, 6, 7, 8, 9, 10, 11, 12] rfl
        refine va_callv (va_runV (As := [.int (nI (ix (T1 z) % 32)), .int ((nI (ix (T1 z) / 32)) + 1)]) (rest := []) ⟨hx, hb, hml, hown, hts⟩ (c_X7_spread l D cI cB cZ cP H.size a v su sl F n1_4 O1_4 T1_4 (nI (ix (T1 z) % 32)) ((nI (ix (T1 z) / 32)) + 1) (fun q1 q2 => FM_lt hM2 (at_lt q1) q2)) (cwV 2 hts gX7_gapFrom_X7_spread rfl rfl rfl (by decide +kernel) ⟨Nat.le_of_ble_eq_true rfl, Nat.le_of_ble_eq_true rfl⟩) (pVQ (q0 := 0) hPc hDc hW0 EF.t rfl rfl) rfl rfl hl.1 rfl (lv_room (Nat.le_of_ble_eq_true rfl)) dX7_gapFrom_72 ⟨Nat.le_of_ble_eq_true rfl, Nat.le_of_ble_eq_true rfl⟩) hS (fun q _ h => hFc q h) hFc (fun u t H1 locs ht hvm hw hB hz1 hk1 hS => ?_)
        obtain ⟨n1_5, O1_5, T1_5⟩ := u
        obtain ⟨hP1, hD1⟩ := hB
        rw [ht] at hP1
        have hw_5 : (isP (nI (ix (T1 z) % 32)) ((nI (ix (T1 z) / 32)) + 1) ∧ O1_4 (at_ (nI (ix (T1 z) % 32)) ((nI (ix (T1 z) / 32)) + 1)) = -6 ∧ O1_5 = upd O1_4 (at_ (nI (ix (T1 z) % 32)) ((nI (ix (T1 z) / 32)) + 1)) 6 ∧ T1_5 = upd T1_4 n1_4 (nI (at_ (nI (ix (T1 z) % 32)) ((nI (ix (T1 z) / 32)) + 1))) ∧ n1_5 = n1_4 + 1) ∨ (¬ (isP (nI (ix (T1 z) % 32)) ((nI (ix (T1 z) / 32)) + 1) ∧ O1_4 (at_ (nI (ix (T1 z) % 32)) ((nI (ix (T1 z) / 32)) + 1)) = -6) ∧ O1_5 = O1_4 ∧ T1_5 = T1_4 ∧ n1_5 = n1_4) := hw
        obtain ⟨hP, hD⟩ := va_join (wr := []) (w1 := (MW cI cZ a (upd v 23 (nI n1_5)) su sl (updF (updF F 9 O1_5) 12 T1_5))) hP hD [0, 1, 2, 3, 4, 5, 6, 7, 8, 9, 10, 11, 12] [] rfl rfl (by decide) (by decide) hk1 hFc hP1 hD1
        generalize H1 = H at hP hS ⊢
        have hP : va_P D vwCl (MW cI cZ a (upd v 23 (nI n1_5)) su sl (updF (updF F 9 O1_5) 12 T1_5)) H := hP
        have hD : va_D A (MW cI cZ a (upd v 23 (nI n1_5)) su sl (updF (updF F 9 O1_5) 12 T1_5)) := hD
        have hS3 := FM_spread hM2 (FM_conn hM2 hkz2 (by rw [hT2]; exact Or.inr (Or.inr (Or.inl ⟨rfl, rfl⟩)))) hw_5
        have hM3 := hS3.1
        have hT3 : T1_5 z = T1 z := (hS3.2.1 z hkz2).trans hT2
        have hkz3 : z < n1_5 := by have := hS3.2.2; omega
        have hN3 : ¬ O1_5 i0 = -6 := FM_keep hN2 hw_5
        refine lv_aload_n hx hb dX7_gapFrom_75 rfl (lv_at hl 2 rfl) ?_
        refine lv_iload_n hx hb dX7_gapFrom_76 rfl (lv_at hl 1 rfl) ?_
        refine lv_iload hx hb dX7_gapFrom_77 (lv_at hl 0 rfl) ?_
        refine lv_iconst (v := 1) hx hb dX7_gapFrom_79 (by decide) ?_
        refine lv_isub hx hb dX7_gapFrom_80 ?_
        have hPc := hP
        have hDc := hD
        have hFc := va_free (wc := (MW cI cZ a (upd v 23 (nI n1_5)) su sl (updF (updF F 9 O1_5) 12 T1_5))) hD hS hA [0, 1, 2, 3, 4, 5, 6, 7, 8, 9, 10, 11, 12] rfl
        refine va_callv (va_runV (As := [.int (nI (ix (T1 z) % 32)), .int ((nI (ix (T1 z) / 32)) - 1)]) (rest := []) ⟨hx, hb, hml, hown, hts⟩ (c_X7_spread l D cI cB cZ cP H.size a v su sl F n1_5 O1_5 T1_5 (nI (ix (T1 z) % 32)) ((nI (ix (T1 z) / 32)) - 1) (fun q1 q2 => FM_lt hM3 (at_lt q1) q2)) (cwV 2 hts gX7_gapFrom_X7_spread rfl rfl rfl (by decide +kernel) ⟨Nat.le_of_ble_eq_true rfl, Nat.le_of_ble_eq_true rfl⟩) (pVQ (q0 := 0) hPc hDc hW0 EF.t rfl rfl) rfl rfl hl.1 rfl (lv_room (Nat.le_of_ble_eq_true rfl)) dX7_gapFrom_81 ⟨Nat.le_of_ble_eq_true rfl, Nat.le_of_ble_eq_true rfl⟩) hS (fun q _ h => hFc q h) hFc (fun u t H1 locs ht hvm hw hB hz1 hk1 hS => ?_)
        obtain ⟨n1_6, O1_6, T1_6⟩ := u
        obtain ⟨hP1, hD1⟩ := hB
        rw [ht] at hP1
        have hw_6 : (isP (nI (ix (T1 z) % 32)) ((nI (ix (T1 z) / 32)) - 1) ∧ O1_5 (at_ (nI (ix (T1 z) % 32)) ((nI (ix (T1 z) / 32)) - 1)) = -6 ∧ O1_6 = upd O1_5 (at_ (nI (ix (T1 z) % 32)) ((nI (ix (T1 z) / 32)) - 1)) 6 ∧ T1_6 = upd T1_5 n1_5 (nI (at_ (nI (ix (T1 z) % 32)) ((nI (ix (T1 z) / 32)) - 1))) ∧ n1_6 = n1_5 + 1) ∨ (¬ (isP (nI (ix (T1 z) % 32)) ((nI (ix (T1 z) / 32)) - 1) ∧ O1_5 (at_ (nI (ix (T1 z) % 32)) ((nI (ix (T1 z) / 32)) - 1)) = -6) ∧ O1_6 = O1_5 ∧ T1_6 = T1_5 ∧ n1_6 = n1_5) := hw
        obtain ⟨hP, hD⟩ := va_join (wr := []) (w1 := (MW cI cZ a (upd v 23 (nI n1_6)) su sl (updF (updF F 9 O1_6) 12 T1_6))) hP hD [0, 1, 2, 3, 4, 5, 6, 7, 8, 9, 10, 11, 12] [] rfl rfl (by decide) (by decide) hk1 hFc hP1 hD1
        generalize H1 = H at hP hS ⊢
        have hP : va_P D vwCl (MW cI cZ a (upd v 23 (nI n1_6)) su sl (updF (updF F 9 O1_6) 12 T1_6)) H := hP
        have hD : va_D A (MW cI cZ a (upd v 23 (nI n1_6)) su sl (updF (updF F 9 O1_6) 12 T1_6)) := hD
        have hS4 := FM_spread hM3 (FM_conn hM3 hkz3 (by rw [hT3]; exact Or.inr (Or.inr (Or.inr ⟨rfl, rfl⟩)))) hw_6
        have hM4 := hS4.1
        have hT4 : T1_6 z = T1 z := (hS4.2.1 z hkz3).trans hT3
        have hkz4 : z < n1_6 := by have := hS4.2.2; omega
        have hN4 : ¬ O1_6 i0 = -6 := FM_keep hN3 hw_6
        refine lv_iinc (v := nI (z + 1)) (lv' := [(2, .int (nI (z + 1))), (4, .int (nI (ix (T1 z) / 32))), (3, .int (nI (ix (T1 z) % 32))), (0, .ref (a 0))]) hx hb dX7_gapFrom_84 hl (k := 3) rfl (nI_1 _) (by decide) rfl (fun ls hl => ?_)
        refine lv_goto (tgt := 19) hx hb dX7_gapFrom_87 (by decide) ?_
        exact ih_19 (z + 1) n1_6 O1_6 T1_6 (FM_nx hM4 hkz4 (fun j hj => ((hO j).mpr hj).1) (by rw [hT4]; intro j hj; rcases hj with q | q | q | q; exact Or.inl (Or.inl (Or.inl (Or.inr q))); exact Or.inl (Or.inl (Or.inr q)); exact Or.inl (Or.inr q); exact Or.inr q)) (hN4) (by omega) _ _ hP hD hS ls (lv_sub hl [3, 0] rfl)
  exact LOOP_19 (1024 - 0 + 1) 0 n1_1 O1_1 T1_1 (hFM9) (hN0) (Nat.lt_succ_self _) _ _ hP hD hS ls (lv_sub hl [1, 0] rfl)

set_option maxHeartbeats 4000000 in
set_option maxRecDepth 100000 in
theorem c_X7_gap (l : Launch) (D : va_G) (cI cB cZ cP : ClassId) (sz : Nat) (a : Nat → Nat) (v : Nat → Int32) (su sl : Int64) (F : Nat → Nat → Int32) (kk : Nat) (pn : Nat → Nat) (x : Int32) (hSM : stM (F 1) kk pn) : Met l yX7_gap wsX7_gap ({ frames := 6, cells := 0, slots := 0, locals := 140 } : Room) (va_Pc [.ref (a 0), .int x] (fun U => U.heap.size = sz ∧ va_P D vwCl (MW cI cZ a v su sl F) U.heap ∧ KW D cI cB cZ cP U ∧ va_D (fun _ => True) (MW cI cZ a v su sl F) ∧ EF (MW cI cZ a v su sl F) sz E0 U.heap)) (va_Qi (fun r (u : (Nat → Int32) × Int64 × Int64 × (Nat → Nat → Int32)) => match u with | (v1, su1, sl1, F1) => r = aGap (free_ kk pn (pX (F 1)) (pY (F 1))) x ∧ keepM v F v1 F1) (fun (u : (Nat → Int32) × Int64 × Int64 × (Nat → Nat → Int32)) (t : State) => match u with | (v1, su1, sl1, F1) => va_P D vwCl (MW cI cZ a v1 su1 sl1 F1) t.heap ∧ va_D (va_A (MW cI cZ a v su sl F) sz) (MW cI cZ a v1 su1 sl1 F1)) (va_A (MW cI cZ a v su sl F) sz)) 0 0 (va_A (MW cI cZ a v su sl F) sz) := by
  refine Met.ofW (cc := cX7_gap) (maxL := 8) (ret := (some .int)) (by decide) rfl ?_
  intro p e s m args below meth c s₁ B hml hv
  obtain ⟨rfl, hsz, hP, hW0, hD0, hE⟩ := hv
  have hx := B.exec
  have hb := B.bytes
  have hr := B.returns
  have hts := atoms_spec (ws := wsX7_gap) B.pre
  have hown : s.vm.findClass RX7 = some m.cls := findClass_of_methodNamed B.named
  have hlocks := B.notSynchronized
  have hK := hW0.1
  subst hsz
  have hD := hD0.self (sz := s.heap.size)
  unfold EF at hE
  generalize hAe : va_A (MW cI cZ a v su sl F) s.heap.size = A at hD hE ⊢
  have hA : ∀ q : Nat, s.heap.size ≤ q → A q := fun q h => by rw [← hAe]; exact Or.inr h
  have hS : va_S A s.heap s.heap [] := va_S.rf
  have hl := lv_entry ([.ref (a 0), .int x]) (n := 8) (Nat.le_of_ble_eq_true rfl)
  rw [lg_entry_eq]
  generalize (lg_sl ([.ref (a 0), .int x]) ++ List.replicate (8 - (lg_sl ([.ref (a 0), .int x])).length) Slot.unset).toArray = ls at hl ⊢
  have hl : lv_has ls 8 [(0, .ref (a 0)), (1, .int x)] := hl
  show W p l e ({ frames := 6, cells := 0, slots := 0, locals := 140 } : Room) s m ([.ref (a 0), .int x] : List Value).toArray below meth c s.heap [] 0 0 _ (F0 m 0 ls [])
  refine u_genQ (fun Q hQ => ?_)
  obtain ⟨hs1, hs2, hs3⟩ := id hSM
  refine lv_iload_n hx hb dX7_gap_0 rfl (lv_at hl 1 rfl) ?_
  refine lv_iconst (v := 0) hx hb dX7_gap_1 (by decide) ?_
  refine lv_iconst (v := 4) hx hb dX7_gap_2 (by decide) ?_
  have hPc := hP.sub (ws' := []) [] rfl
  refine u_callSi (W.runS (As := [.int x, .int 0, .int 4]) (rest := []) ⟨hx, hb, hml, hown, hts⟩ (c_X7_in l D cI cB cZ cP x 0 4 ) (cwS 3 hts gX7_gap_X7_in rfl rfl rfl (by decide +kernel) ⟨Nat.le_of_ble_eq_true rfl, Nat.le_of_ble_eq_true rfl⟩) (pS hPc hW0 trivial) rfl rfl hl.1 rfl (lv_room (Nat.le_of_ble_eq_true rfl)) dX7_gap_3 ⟨Nat.le_of_ble_eq_true rfl, Nat.le_of_ble_eq_true rfl⟩) ?_
  refine lv_if_ne (tgt := 12) hx hb dX7_gap_6 (by decide) (fun c_1 => ?_) (fun c_1 => ?_)
  · skip
    have nc_1 := zb_ne0.mp c_1
    have hw9 : 0 ≤ x.toInt ∧ x.toInt ≤ 4 := by have h9 := nc_1; rw [li_0, li_4] at h9; exact h9
    refine lv_aload_n hx hb dX7_gap_12 rfl (lv_at hl 0 rfl) ?_
    have hPc := hP
    have hDc := hD
    have hFc := va_free (wc := (MW cI cZ a v su sl F)) hD hS hA [0, 1, 2, 3, 4, 5, 6, 7, 8, 9, 10, 11, 12] rfl
    refine va_callv (va_runV (As := []) (rest := []) ⟨hx, hb, hml, hown, hts⟩ (c_X7_layOwners l D cI cB cZ cP s.heap.size a v su sl F kk pn (by first | assumption | omega)) (cwV 0 hts gX7_gap_X7_layOwners rfl rfl rfl (by decide +kernel) ⟨Nat.le_of_ble_eq_true rfl, Nat.le_of_ble_eq_true rfl⟩) (pVQ (q0 := 0) hPc hDc hW0 EF.t rfl rfl) rfl rfl hl.1 rfl (lv_room (Nat.le_of_ble_eq_true rfl)) dX7_gap_13 ⟨Nat.le_of_ble_eq_true rfl, Nat.le_of_ble_eq_true rfl⟩) hS (fun q _ h => hFc q h) hFc (fun u t H1 locs ht hvm hw hB hz1 hk1 hS => ?_)
    obtain ⟨c1_2, X1_2, Y1_2, O1_2⟩ := u
    obtain ⟨hP1, hD1⟩ := hB
    rw [ht] at hP1
    have hw_2 : ∀ j, j < 1024 → O1_2 j = oI (own (fun z9 => hlm (F 1) pn z9 j) (F 1) kk) := hw
    obtain ⟨hP, hD⟩ := va_join (wr := []) (w1 := (MW cI cZ a (upd v 7 c1_2) su sl (updF (updF (updF F 7 X1_2) 8 Y1_2) 9 O1_2))) hP hD [0, 1, 2, 3, 4, 5, 6, 7, 8, 9, 10, 11, 12] [] rfl rfl (by decide) (by decide) hk1 hFc hP1 hD1
    generalize H1 = H at hP hS ⊢
    have hP : va_P D vwCl (MW cI cZ a (upd v 7 c1_2) su sl (updF (updF (updF F 7 X1_2) 8 Y1_2) 9 O1_2)) H := hP
    have hD : va_D A (MW cI cZ a (upd v 7 c1_2) su sl (updF (updF (updF F 7 X1_2) 8 Y1_2) 9 O1_2)) := hD
    refine lv_iconst (v := 0) hx hb dX7_gap_16 (by decide) ?_
    refine lv_istore_n (lv' := [(2, .int 0), (0, .ref (a 0)), (1, .int x)]) hx hb dX7_gap_17 rfl hl (by decide) rfl (fun ls hl => ?_)
    refine lv_iconst (v := 0) hx hb dX7_gap_18 (by decide) ?_
    refine lv_istore_n (lv' := [(3, .int 0), (2, .int 0), (0, .ref (a 0)), (1, .int x)]) hx hb dX7_gap_19 rfl hl (by decide) rfl (fun ls hl => ?_)
    refine lv_iconst (v := 0) hx hb dX7_gap_20 (by decide) ?_
    refine lv_istore (lv' := [(4, .int 0), (3, .int 0), (2, .int 0), (0, .ref (a 0)), (1, .int x)]) hx hb dX7_gap_21 hl (by decide) rfl (fun ls hl => ?_)
    refine lv_bipush (v := (-6)) hx hb dX7_gap_23 (by decide) ?_
    refine lv_istore (lv' := [(5, .int (-6)), (4, .int 0), (3, .int 0), (2, .int 0), (0, .ref (a 0)), (1, .int x)]) hx hb dX7_gap_25 hl (by decide) rfl (fun ls hl => ?_)
    refine lv_iconst (v := 0) hx hb dX7_gap_27 (by decide) ?_
    refine lv_istore (lv' := [(6, .int 0), (5, .int (-6)), (4, .int 0), (3, .int 0), (2, .int 0), (0, .ref (a 0)), (1, .int x)]) hx hb dX7_gap_28 hl (by decide) rfl (fun ls hl => ?_)
    have LOOP_30 : ∀ (fu : Nat) (z : Nat) (c23 : Int32) (O : Nat → Int32) (T : Nat → Int32) (hz : z ≤ 1024) (hG : ∀ j, (j < 1024 ∧ O j = -6) ↔ (gpS (free_ kk pn (pX (F 1)) (pY (F 1))) z).1 j) (hn : 1024 - z < fu) (H : Heap) (locs : List Loc) (hP : va_P D vwCl (MW cI cZ a (upd (upd v 7 c1_2) 23 c23) su sl (updF (updF (updF (updF F 7 X1_2) 8 Y1_2) 9 O) 12 T)) H) (hD : va_D A (MW cI cZ a (upd (upd v 7 c1_2) 23 c23) su sl (updF (updF (updF (updF F 7 X1_2) 8 Y1_2) 9 O) 12 T))) (hS : va_S A s.heap H locs) (ls : Array Slot) (hl : lv_has ls 8 [(0, .ref (a 0)), (1, .int x), (2, .int (nI (gpS (free_ kk pn (pX (F 1)) (pY (F 1))) z).2.1)), (3, .int (nI (gpS (free_ kk pn (pX (F 1)) (pY (F 1))) z).2.2.1)), (4, .int (nI (gpS (free_ kk pn (pX (F 1)) (pY (F 1))) z).2.2.2.1)), (5, .int ((gpS (free_ kk pn (pX (F 1)) (pY (F 1))) z).2.2.2.2)), (6, .int (nI z))]), W p l e ({ frames := 6, cells := 0, slots := 0, locals := 140 } : Room) s m ([.ref (a 0), .int x] : List Value).toArray below meth c H locs 0 0 Q (F0 m 30 ls []) := by
      intro fu
      induction fu with
      | zero => intro z c23 O T hz hG hn H locs hP hD hS ls hl; exact absurd hn (Nat.not_lt_zero _)
      | succ fu ih_30 =>
        intro z c23 O T hz hG hn H locs hP hD hS ls hl
        refine lv_iload hx hb dX7_gap_30 (lv_at hl 6 rfl) ?_
        refine lv_sipush (v := 1024) hx hb dX7_gap_32 (by decide) ?_
        refine lv_icmp_ge (tgt := 104) hx hb dX7_gap_35 (by decide) (fun c_3 => ?_) (fun c_3 => ?_)
        · skip
          have nc_3 : 1024 ≤ z := (nI_leI (a := 1024) (b := z) (by omega) (by omega)).mp c_3
          have hz9 : z = 1024 := by omega
          refine lv_iload_n hx hb dX7_gap_104 rfl (lv_at hl 1 rfl) ?_
          refine lv_iconst (v := 3) hx hb dX7_gap_105 (by decide) ?_
          refine lv_icmp_ge (tgt := 129) hx hb dX7_gap_106 (by decide) (fun c_4 => ?_) (fun c_4 => ?_)
          · skip
            have hx3 : 3 ≤ x.toInt := by have h9 := c_4; rw [Int32.le_iff_toInt_le, li_3] at h9; exact h9
            have hx0 : ¬ x = 0 := fun q => by rw [q] at hx3; exact absurd hx3 (by decide)
            have hx1 : ¬ x = 1 := fun q => by rw [q] at hx3; exact absurd hx3 (by decide)
            have hx2 : ¬ x = 2 := fun q => by rw [q] at hx3; exact absurd hx3 (by decide)
            refine lv_iload hx hb dX7_gap_129 (lv_at hl 5 rfl) ?_
            refine lv_if_ge (tgt := 139) hx hb dX7_gap_131 (by decide) (fun c_5 => ?_) (fun c_5 => ?_)
            · skip
              have hfn : ¬ (gpS (free_ kk pn (pX (F 1)) (pY (F 1))) z).2.2.2.2 < 0 := fun q => absurd c_5 (Int32.not_le.mpr q)
              have hff := fst_nn free_lt (by rw [← hz9]; exact hfn)
              refine lv_iload_n hx hb dX7_gap_139 rfl (lv_at hl 1 rfl) ?_
              refine lv_iconst (v := 3) hx hb dX7_gap_140 (by decide) ?_
              refine lv_icmp_ne (tgt := 152) hx hb dX7_gap_141 (by decide) (fun c_6 => ?_) (fun c_6 => ?_)
              · skip
                refine lv_iload hx hb dX7_gap_152 (lv_at hl 5 rfl) ?_
                refine lv_bipush (v := 32) hx hb dX7_gap_154 (by decide) ?_
                refine lv_idiv hx hb dX7_gap_156 (by decide) ?_
                refine u_eqi (show ((gpS (free_ kk pn (pX (F 1)) (pY (F 1))) z).2.2.2.2) / 32 = nI (ix (gpS (free_ kk pn (pX (F 1)) (pY (F 1))) z).2.2.2.2 / 32) from by rw [hz9, hff.1, ix_nI (by have := hff.2; omega)]; exact (div32 hff.2).1) ?_
                rw [← hQ]
                have hP9 := hP
                have hD9 := hD
                exact W.iret (v := nI (ix (gpS (free_ kk pn (pX (F 1)) (pY (F 1))) z).2.2.2.2 / 32)) hx hb hr (fun t ht hW => ⟨⟨_, (upd (upd v 7 c1_2) 23 c23, su, sl, updF (updF (updF (updF F 7 X1_2) 8 Y1_2) 9 O) 12 T), rfl, ⟨by show _ = aGap (free_ kk pn (pX (F 1)) (pY (F 1))) x; unfold aGap; rw [← hz9, cif_t hw9, cif_f hx0, cif_f hx1, cif_f hx2, cif_f hfn, cif_f c_6], ⟨rfl, rfl, rfl, rfl, rfl⟩⟩, by rw [ht]; exact hP9, hD9⟩, hS.F ht⟩) hS.2.2 dX7_gap_157
              · skip
                refine lv_iload hx hb dX7_gap_144 (lv_at hl 5 rfl) ?_
                refine lv_bipush (v := 32) hx hb dX7_gap_146 (by decide) ?_
                refine lv_irem hx hb dX7_gap_148 (by decide) ?_
                refine u_eqi (show ((gpS (free_ kk pn (pX (F 1)) (pY (F 1))) z).2.2.2.2) - ((gpS (free_ kk pn (pX (F 1)) (pY (F 1))) z).2.2.2.2) / 32 * 32 = nI (ix (gpS (free_ kk pn (pX (F 1)) (pY (F 1))) z).2.2.2.2 % 32) from by rw [hz9, hff.1, ix_nI (by have := hff.2; omega)]; exact (div32 hff.2).2) ?_
                refine lv_goto (tgt := 157) hx hb dX7_gap_149 (by decide) ?_
                rw [← hQ]
                have hP9 := hP
                have hD9 := hD
                exact W.iret (v := nI (ix (gpS (free_ kk pn (pX (F 1)) (pY (F 1))) z).2.2.2.2 % 32)) hx hb hr (fun t ht hW => ⟨⟨_, (upd (upd v 7 c1_2) 23 c23, su, sl, updF (updF (updF (updF F 7 X1_2) 8 Y1_2) 9 O) 12 T), rfl, ⟨by show _ = aGap (free_ kk pn (pX (F 1)) (pY (F 1))) x; unfold aGap; rw [← hz9, cif_t hw9, cif_f hx0, cif_f hx1, cif_f hx2, cif_f hfn, cif_t c_6], ⟨rfl, rfl, rfl, rfl, rfl⟩⟩, by rw [ht]; exact hP9, hD9⟩, hS.F ht⟩) hS.2.2 dX7_gap_157
            · skip
              have hfn : (gpS (free_ kk pn (pX (F 1)) (pY (F 1))) z).2.2.2.2 < 0 := Int32.not_le.mp c_5
              refine lv_bipush (v := (-6)) hx hb dX7_gap_134 (by decide) ?_
              refine lv_goto (tgt := 157) hx hb dX7_gap_136 (by decide) ?_
              rw [← hQ]
              have hP9 := hP
              have hD9 := hD
              exact W.iret (v := (-6)) hx hb hr (fun t ht hW => ⟨⟨_, (upd (upd v 7 c1_2) 23 c23, su, sl, updF (updF (updF (updF F 7 X1_2) 8 Y1_2) 9 O) 12 T), rfl, ⟨by show _ = aGap (free_ kk pn (pX (F 1)) (pY (F 1))) x; unfold aGap; rw [← hz9, cif_t hw9, cif_f hx0, cif_f hx1, cif_f hx2, cif_t hfn], ⟨rfl, rfl, rfl, rfl, rfl⟩⟩, by rw [ht]; exact hP9, hD9⟩, hS.F ht⟩) hS.2.2 dX7_gap_157
          · skip
            refine lv_iload_n hx hb dX7_gap_109 rfl (lv_at hl 1 rfl) ?_
            refine lv_if_ne (tgt := 117) hx hb dX7_gap_110 (by decide) (fun c_7 => ?_) (fun c_7 => ?_)
            · skip
              refine lv_iload_n hx hb dX7_gap_117 rfl (lv_at hl 1 rfl) ?_
              refine lv_iconst (v := 1) hx hb dX7_gap_118 (by decide) ?_
              refine lv_icmp_ne (tgt := 126) hx hb dX7_gap_119 (by decide) (fun c_8 => ?_) (fun c_8 => ?_)
              · skip
                have hx2 : x = 2 := by have h3 := c_4; have h0 := c_7; have h1 := c_8; rw [Int32.le_iff_toInt_le, li_3] at h3; rw [← Int32.toInt_inj, li_0] at h0; rw [← Int32.toInt_inj, li_1] at h1; rw [← Int32.toInt_inj, li_2]; omega
                refine lv_iload hx hb dX7_gap_126 (lv_at hl 4 rfl) ?_
                rw [← hQ]
                have hP9 := hP
                have hD9 := hD
                exact W.iret (v := nI (gpS (free_ kk pn (pX (F 1)) (pY (F 1))) z).2.2.2.1) hx hb hr (fun t ht hW => ⟨⟨_, (upd (upd v 7 c1_2) 23 c23, su, sl, updF (updF (updF (updF F 7 X1_2) 8 Y1_2) 9 O) 12 T), rfl, ⟨by show _ = aGap (free_ kk pn (pX (F 1)) (pY (F 1))) x; unfold aGap; rw [← hz9, cif_t hw9, cif_f c_7, cif_f c_8, cif_t hx2], ⟨rfl, rfl, rfl, rfl, rfl⟩⟩, by rw [ht]; exact hP9, hD9⟩, hS.F ht⟩) hS.2.2 dX7_gap_128
              · skip
                refine lv_iload_n hx hb dX7_gap_122 rfl (lv_at hl 3 rfl) ?_
                refine lv_goto (tgt := 128) hx hb dX7_gap_123 (by decide) ?_
                rw [← hQ]
                have hP9 := hP
                have hD9 := hD
                exact W.iret (v := nI (gpS (free_ kk pn (pX (F 1)) (pY (F 1))) z).2.2.1) hx hb hr (fun t ht hW => ⟨⟨_, (upd (upd v 7 c1_2) 23 c23, su, sl, updF (updF (updF (updF F 7 X1_2) 8 Y1_2) 9 O) 12 T), rfl, ⟨by show _ = aGap (free_ kk pn (pX (F 1)) (pY (F 1))) x; unfold aGap; rw [← hz9, cif_t hw9, cif_f c_7, cif_t c_8], ⟨rfl, rfl, rfl, rfl, rfl⟩⟩, by rw [ht]; exact hP9, hD9⟩, hS.F ht⟩) hS.2.2 dX7_gap_128
            · skip
              refine lv_iload_n hx hb dX7_gap_113 rfl (lv_at hl 2 rfl) ?_
              refine lv_goto (tgt := 128) hx hb dX7_gap_114 (by decide) ?_
              rw [← hQ]
              have hP9 := hP
              have hD9 := hD
              exact W.iret (v := nI (gpS (free_ kk pn (pX (F 1)) (pY (F 1))) z).2.1) hx hb hr (fun t ht hW => ⟨⟨_, (upd (upd v 7 c1_2) 23 c23, su, sl, updF (updF (updF (updF F 7 X1_2) 8 Y1_2) 9 O) 12 T), rfl, ⟨by show _ = aGap (free_ kk pn (pX (F 1)) (pY (F 1))) x; unfold aGap; rw [← hz9, cif_t hw9, cif_t c_7], ⟨rfl, rfl, rfl, rfl, rfl⟩⟩, by rw [ht]; exact hP9, hD9⟩, hS.F ht⟩) hS.2.2 dX7_gap_128
        · skip
          have nc_3 : ¬ (1024 ≤ z) := fun h => c_3 ((nI_leI (a := 1024) (b := z) (by omega) (by omega)).mpr h)
          have hz8 : z < 1024 := by omega
          have hgi := gpS_inv (Fr := (free_ kk pn (pX (F 1)) (pY (F 1)))) free_lt z
          have hgb := gpS_b (Fr := (free_ kk pn (pX (F 1)) (pY (F 1)))) free_lt z
          refine lv_aload_n hx hb dX7_gap_38 rfl (lv_at hl 0 rfl) ?_
          refine va_get (D := D) (ci := 9) (v := .ref (a 9)) (C := RX7) (T := TX7) (N := 24) hx hb hts (by decide +kernel) hown hK hP 0 rfl rfl 16 (by decide) (hts (.fieldLink RX7 35 "LandDeedsModel" "owner" "[I") (by decide +kernel)) (fun _ h9 => h9) rfl dX7_gap_39 ?_
          refine lv_iload hx hb dX7_gap_42 (lv_at hl 6 rfl) ?_
          refine u_iald hx hb hK hP 9 0 rfl rfl rfl ⟨by omega, by omega⟩ dX7_gap_44 ?_
          refine lv_bipush (v := (-6)) hx hb dX7_gap_45 (by decide) ?_
          refine lv_icmp_ne (tgt := 98) hx hb dX7_gap_47 (by decide) (fun c_9 => ?_) (fun c_9 => ?_)
          · skip
            have hng : ¬ (gpS (free_ kk pn (pX (F 1)) (pY (F 1))) z).1 z := fun q => c_9 ((hG z).mpr q).2
            refine lv_iinc (v := nI (z + 1)) (lv' := [(6, .int (nI (z + 1))), (0, .ref (a 0)), (1, .int x), (2, .int (nI (gpS (free_ kk pn (pX (F 1)) (pY (F 1))) z).2.1)), (3, .int (nI (gpS (free_ kk pn (pX (F 1)) (pY (F 1))) z).2.2.1)), (4, .int (nI (gpS (free_ kk pn (pX (F 1)) (pY (F 1))) z).2.2.2.1)), (5, .int ((gpS (free_ kk pn (pX (F 1)) (pY (F 1))) z).2.2.2.2))]) hx hb dX7_gap_98 hl (k := 6) rfl (nI_1 _) (by decide) rfl (fun ls hl => ?_)
            refine lv_goto (tgt := 30) hx hb dX7_gap_101 (by decide) ?_
            exact ih_30 (z + 1) c23 O T (by omega) (by rw [gpS_f hng]; exact hG) (by omega) _ _ hP hD hS ls (by rw [gpS_f hng]; exact (lv_sub hl [1, 2, 3, 4, 5, 6, 0] rfl))
          · skip
            have hyg : (gpS (free_ kk pn (pX (F 1)) (pY (F 1))) z).1 z := (hG z).mp ⟨hz8, c_9⟩
            refine lv_aload_n hx hb dX7_gap_50 rfl (lv_at hl 0 rfl) ?_
            refine lv_iload hx hb dX7_gap_51 (lv_at hl 6 rfl) ?_
            have hPc := hP
            have hDc := hD
            have hFc := va_free (wc := (MW cI cZ a (upd (upd v 7 c1_2) 23 c23) su sl (updF (updF (updF (updF F 7 X1_2) 8 Y1_2) 9 O) 12 T))) hD hS hA [0, 1, 2, 3, 4, 5, 6, 7, 8, 9, 10, 11, 12] rfl
            refine va_calli (va_runV (As := [.int (nI z)]) (rest := []) ⟨hx, hb, hml, hown, hts⟩ (c_X7_gapFrom l D cI cB cZ cP H.size a (upd (upd v 7 c1_2) 23 c23) su sl (updF (updF F 7 X1_2) 8 Y1_2) O T ((gpS (free_ kk pn (pX (F 1)) (pY (F 1))) z).1) z (hG) (hz8) (hyg)) (cwV 1 hts gX7_gap_X7_gapFrom rfl rfl rfl (by decide +kernel) ⟨Nat.le_of_ble_eq_true rfl, Nat.le_of_ble_eq_true rfl⟩) (pVQ (q0 := 0) hPc hDc hW0 EF.t rfl rfl) rfl rfl hl.1 rfl (lv_room (Nat.le_of_ble_eq_true rfl)) dX7_gap_53 ⟨Nat.le_of_ble_eq_true rfl, Nat.le_of_ble_eq_true rfl⟩) hS (fun q _ h => hFc q h) hFc (fun r_10 u t H1 locs ht hvm hw hB hz1 hk1 hS => ?_)
            obtain ⟨n1_10, O1_10, T1_10⟩ := u
            obtain ⟨hP1, hD1⟩ := hB
            rw [ht] at hP1
            have hw_10 : r_10 = nI (cnt (conn ((gpS (free_ kk pn (pX (F 1)) (pY (F 1))) z).1) z) 1024) ∧ ∀ j, (j < 1024 ∧ O1_10 j = -6) ↔ (((gpS (free_ kk pn (pX (F 1)) (pY (F 1))) z).1) j ∧ ¬ conn ((gpS (free_ kk pn (pX (F 1)) (pY (F 1))) z).1) z j) := hw
            obtain ⟨hP, hD⟩ := va_join (wr := []) (w1 := (MW cI cZ a (upd (upd v 7 c1_2) 23 (nI n1_10)) su sl (updF (updF (updF (updF F 7 X1_2) 8 Y1_2) 9 O1_10) 12 T1_10))) hP hD [0, 1, 2, 3, 4, 5, 6, 7, 8, 9, 10, 11, 12] [] rfl rfl (by decide) (by decide) hk1 hFc hP1 hD1
            generalize H1 = H at hP hS ⊢
            have hP : va_P D vwCl (MW cI cZ a (upd (upd v 7 c1_2) 23 (nI n1_10)) su sl (updF (updF (updF (updF F 7 X1_2) 8 Y1_2) 9 O1_10) 12 T1_10)) H := hP
            have hD : va_D A (MW cI cZ a (upd (upd v 7 c1_2) 23 (nI n1_10)) su sl (updF (updF (updF (updF F 7 X1_2) 8 Y1_2) 9 O1_10) 12 T1_10)) := hD
            refine u_eqi (show r_10 = nI (gpN (gpS (free_ kk pn (pX (F 1)) (pY (F 1))) z) z) from hw_10.1) ?_
            have hgn : gpN (gpS (free_ kk pn (pX (F 1)) (pY (F 1))) z) z ≤ 1024 := cnt_le _ _
            refine lv_istore (lv' := [(7, .int (nI (gpN (gpS (free_ kk pn (pX (F 1)) (pY (F 1))) z) z))), (0, .ref (a 0)), (1, .int x), (2, .int (nI (gpS (free_ kk pn (pX (F 1)) (pY (F 1))) z).2.1)), (3, .int (nI (gpS (free_ kk pn (pX (F 1)) (pY (F 1))) z).2.2.1)), (4, .int (nI (gpS (free_ kk pn (pX (F 1)) (pY (F 1))) z).2.2.2.1)), (5, .int ((gpS (free_ kk pn (pX (F 1)) (pY (F 1))) z).2.2.2.2)), (6, .int (nI z))]) hx hb dX7_gap_56 hl (by decide) rfl (fun ls hl => ?_)
            refine lv_iload_n hx hb dX7_gap_58 rfl (lv_at hl 3 rfl) ?_
            refine lv_iload hx hb dX7_gap_59 (lv_at hl 0 rfl) ?_
            refine lv_iadd hx hb dX7_gap_61 ?_
            refine u_eqi (show (nI (gpS (free_ kk pn (pX (F 1)) (pY (F 1))) z).2.1) + (nI (gpN (gpS (free_ kk pn (pX (F 1)) (pY (F 1))) z) z)) = nI ((gpS (free_ kk pn (pX (F 1)) (pY (F 1))) z).2.1 + gpN (gpS (free_ kk pn (pX (F 1)) (pY (F 1))) z) z) from nI_add _ _) ?_
            refine lv_istore_n (lv' := [(2, .int (nI ((gpS (free_ kk pn (pX (F 1)) (pY (F 1))) z).2.1 + gpN (gpS (free_ kk pn (pX (F 1)) (pY (F 1))) z) z))), (7, .int (nI (gpN (gpS (free_ kk pn (pX (F 1)) (pY (F 1))) z) z))), (0, .ref (a 0)), (1, .int x), (3, .int (nI (gpS (free_ kk pn (pX (F 1)) (pY (F 1))) z).2.2.1)), (4, .int (nI (gpS (free_ kk pn (pX (F 1)) (pY (F 1))) z).2.2.2.1)), (5, .int ((gpS (free_ kk pn (pX (F 1)) (pY (F 1))) z).2.2.2.2)), (6, .int (nI z))]) hx hb dX7_gap_62 rfl hl (by decide) rfl (fun ls hl => ?_)
            refine lv_iinc (v := nI ((gpS (free_ kk pn (pX (F 1)) (pY (F 1))) z).2.2.1 + 1)) (lv' := [(3, .int (nI ((gpS (free_ kk pn (pX (F 1)) (pY (F 1))) z).2.2.1 + 1))), (2, .int (nI ((gpS (free_ kk pn (pX (F 1)) (pY (F 1))) z).2.1 + gpN (gpS (free_ kk pn (pX (F 1)) (pY (F 1))) z) z))), (7, .int (nI (gpN (gpS (free_ kk pn (pX (F 1)) (pY (F 1))) z) z))), (0, .ref (a 0)), (1, .int x), (4, .int (nI (gpS (free_ kk pn (pX (F 1)) (pY (F 1))) z).2.2.2.1)), (5, .int ((gpS (free_ kk pn (pX (F 1)) (pY (F 1))) z).2.2.2.2)), (6, .int (nI z))]) hx hb dX7_gap_63 hl (k := 4) rfl (nI_1 _) (by decide) rfl (fun ls hl => ?_)
            refine lv_iload hx hb dX7_gap_66 (lv_at hl 2 rfl) ?_
            refine lv_iload hx hb dX7_gap_68 (lv_at hl 5 rfl) ?_
            refine lv_icmp_le (tgt := 78) hx hb dX7_gap_70 (by decide) (fun c_11 => ?_) (fun c_11 => ?_)
            · skip
              have nc_11 : gpN (gpS (free_ kk pn (pX (F 1)) (pY (F 1))) z) z ≤ (gpS (free_ kk pn (pX (F 1)) (pY (F 1))) z).2.2.2.1 := (nI_leI (a := (gpN (gpS (free_ kk pn (pX (F 1)) (pY (F 1))) z) z)) (b := ((gpS (free_ kk pn (pX (F 1)) (pY (F 1))) z).2.2.2.1)) (by omega) (by omega)).mp c_11
              have hmo : ¬ (gpS (free_ kk pn (pX (F 1)) (pY (F 1))) z).2.2.2.1 < gpN (gpS (free_ kk pn (pX (F 1)) (pY (F 1))) z) z := by omega
              refine lv_iload hx hb dX7_gap_78 (lv_at hl 6 rfl) ?_
              refine lv_istore (lv' := [(5, .int ((gpS (free_ kk pn (pX (F 1)) (pY (F 1))) z).2.2.2.2)), (3, .int (nI ((gpS (free_ kk pn (pX (F 1)) (pY (F 1))) z).2.2.1 + 1))), (2, .int (nI ((gpS (free_ kk pn (pX (F 1)) (pY (F 1))) z).2.1 + gpN (gpS (free_ kk pn (pX (F 1)) (pY (F 1))) z) z))), (7, .int (nI (gpN (gpS (free_ kk pn (pX (F 1)) (pY (F 1))) z) z))), (0, .ref (a 0)), (1, .int x), (4, .int (nI (gpS (free_ kk pn (pX (F 1)) (pY (F 1))) z).2.2.2.1)), (6, .int (nI z))]) hx hb dX7_gap_80 hl (by decide) rfl (fun ls hl => ?_)
              refine lv_iload hx hb dX7_gap_82 (lv_at hl 3 rfl) ?_
              refine lv_iload hx hb dX7_gap_84 (lv_at hl 6 rfl) ?_
              refine lv_icmp_le (tgt := 94) hx hb dX7_gap_86 (by decide) (fun c_12 => ?_) (fun c_12 => ?_)
              · skip
                have nc_12 : gpN (gpS (free_ kk pn (pX (F 1)) (pY (F 1))) z) z ≤ (gpS (free_ kk pn (pX (F 1)) (pY (F 1))) z).2.2.2.1 := (nI_leI (a := (gpN (gpS (free_ kk pn (pX (F 1)) (pY (F 1))) z) z)) (b := ((gpS (free_ kk pn (pX (F 1)) (pY (F 1))) z).2.2.2.1)) (by omega) (by omega)).mp c_12
                refine lv_iload hx hb dX7_gap_94 (lv_at hl 6 rfl) ?_
                refine lv_istore (lv' := [(4, .int (nI (gpS (free_ kk pn (pX (F 1)) (pY (F 1))) z).2.2.2.1)), (5, .int ((gpS (free_ kk pn (pX (F 1)) (pY (F 1))) z).2.2.2.2)), (3, .int (nI ((gpS (free_ kk pn (pX (F 1)) (pY (F 1))) z).2.2.1 + 1))), (2, .int (nI ((gpS (free_ kk pn (pX (F 1)) (pY (F 1))) z).2.1 + gpN (gpS (free_ kk pn (pX (F 1)) (pY (F 1))) z) z))), (7, .int (nI (gpN (gpS (free_ kk pn (pX (F 1)) (pY (F 1))) z) z))), (0, .ref (a 0)), (1, .int x), (6, .int (nI z))]) hx hb dX7_gap_96 hl (by decide) rfl (fun ls hl => ?_)
                refine lv_iinc (v := nI (z + 1)) (lv' := [(6, .int (nI (z + 1))), (4, .int (nI (gpS (free_ kk pn (pX (F 1)) (pY (F 1))) z).2.2.2.1)), (5, .int ((gpS (free_ kk pn (pX (F 1)) (pY (F 1))) z).2.2.2.2)), (3, .int (nI ((gpS (free_ kk pn (pX (F 1)) (pY (F 1))) z).2.2.1 + 1))), (2, .int (nI ((gpS (free_ kk pn (pX (F 1)) (pY (F 1))) z).2.1 + gpN (gpS (free_ kk pn (pX (F 1)) (pY (F 1))) z) z))), (7, .int (nI (gpN (gpS (free_ kk pn (pX (F 1)) (pY (F 1))) z) z))), (0, .ref (a 0)), (1, .int x)]) hx hb dX7_gap_98 hl (k := 7) rfl (nI_1 _) (by decide) rfl (fun ls hl => ?_)
                refine lv_goto (tgt := 30) hx hb dX7_gap_101 (by decide) ?_
                exact ih_30 (z + 1) (nI n1_10) O1_10 T1_10 (by omega) (by rw [gpS_t0 hyg hmo]; exact hw_10.2) (by omega) _ _ hP hD hS ls (by rw [gpS_t0 hyg hmo]; exact (lv_sub hl [6, 7, 4, 3, 1, 2, 0] rfl))
              · skip
                have nc_12 : ¬ (gpN (gpS (free_ kk pn (pX (F 1)) (pY (F 1))) z) z ≤ (gpS (free_ kk pn (pX (F 1)) (pY (F 1))) z).2.2.2.1) := fun h => c_12 ((nI_leI (a := (gpN (gpS (free_ kk pn (pX (F 1)) (pY (F 1))) z) z)) (b := ((gpS (free_ kk pn (pX (F 1)) (pY (F 1))) z).2.2.2.1)) (by omega) (by omega)).mpr h)
                exact absurd nc_12 (by omega)
            · skip
              have nc_11 : ¬ (gpN (gpS (free_ kk pn (pX (F 1)) (pY (F 1))) z) z ≤ (gpS (free_ kk pn (pX (F 1)) (pY (F 1))) z).2.2.2.1) := fun h => c_11 ((nI_leI (a := (gpN (gpS (free_ kk pn (pX (F 1)) (pY (F 1))) z) z)) (b := ((gpS (free_ kk pn (pX (F 1)) (pY (F 1))) z).2.2.2.1)) (by omega) (by omega)).mpr h)
              have hmo : (gpS (free_ kk pn (pX (F 1)) (pY (F 1))) z).2.2.2.1 < gpN (gpS (free_ kk pn (pX (F 1)) (pY (F 1))) z) z := by omega
              refine lv_iload hx hb dX7_gap_73 (lv_at hl 7 rfl) ?_
              refine lv_goto (tgt := 80) hx hb dX7_gap_75 (by decide) ?_
              refine lv_istore (lv' := [(5, .int (nI z)), (3, .int (nI ((gpS (free_ kk pn (pX (F 1)) (pY (F 1))) z).2.2.1 + 1))), (2, .int (nI ((gpS (free_ kk pn (pX (F 1)) (pY (F 1))) z).2.1 + gpN (gpS (free_ kk pn (pX (F 1)) (pY (F 1))) z) z))), (7, .int (nI (gpN (gpS (free_ kk pn (pX (F 1)) (pY (F 1))) z) z))), (0, .ref (a 0)), (1, .int x), (4, .int (nI (gpS (free_ kk pn (pX (F 1)) (pY (F 1))) z).2.2.2.1)), (6, .int (nI z))]) hx hb dX7_gap_80 hl (by decide) rfl (fun ls hl => ?_)
              refine lv_iload hx hb dX7_gap_82 (lv_at hl 3 rfl) ?_
              refine lv_iload hx hb dX7_gap_84 (lv_at hl 6 rfl) ?_
              refine lv_icmp_le (tgt := 94) hx hb dX7_gap_86 (by decide) (fun c_13 => ?_) (fun c_13 => ?_)
              · skip
                have nc_13 : gpN (gpS (free_ kk pn (pX (F 1)) (pY (F 1))) z) z ≤ (gpS (free_ kk pn (pX (F 1)) (pY (F 1))) z).2.2.2.1 := (nI_leI (a := (gpN (gpS (free_ kk pn (pX (F 1)) (pY (F 1))) z) z)) (b := ((gpS (free_ kk pn (pX (F 1)) (pY (F 1))) z).2.2.2.1)) (by omega) (by omega)).mp c_13
                exact absurd nc_13 (by omega)
              · skip
                have nc_13 : ¬ (gpN (gpS (free_ kk pn (pX (F 1)) (pY (F 1))) z) z ≤ (gpS (free_ kk pn (pX (F 1)) (pY (F 1))) z).2.2.2.1) := fun h => c_13 ((nI_leI (a := (gpN (gpS (free_ kk pn (pX (F 1)) (pY (F 1))) z) z)) (b := ((gpS (free_ kk pn (pX (F 1)) (pY (F 1))) z).2.2.2.1)) (by omega) (by omega)).mpr h)
                refine lv_iload hx hb dX7_gap_89 (lv_at hl 3 rfl) ?_
                refine lv_goto (tgt := 96) hx hb dX7_gap_91 (by decide) ?_
                refine lv_istore (lv' := [(4, .int (nI (gpN (gpS (free_ kk pn (pX (F 1)) (pY (F 1))) z) z))), (5, .int (nI z)), (3, .int (nI ((gpS (free_ kk pn (pX (F 1)) (pY (F 1))) z).2.2.1 + 1))), (2, .int (nI ((gpS (free_ kk pn (pX (F 1)) (pY (F 1))) z).2.1 + gpN (gpS (free_ kk pn (pX (F 1)) (pY (F 1))) z) z))), (7, .int (nI (gpN (gpS (free_ kk pn (pX (F 1)) (pY (F 1))) z) z))), (0, .ref (a 0)), (1, .int x), (6, .int (nI z))]) hx hb dX7_gap_96 hl (by decide) rfl (fun ls hl => ?_)
                refine lv_iinc (v := nI (z + 1)) (lv' := [(6, .int (nI (z + 1))), (4, .int (nI (gpN (gpS (free_ kk pn (pX (F 1)) (pY (F 1))) z) z))), (5, .int (nI z)), (3, .int (nI ((gpS (free_ kk pn (pX (F 1)) (pY (F 1))) z).2.2.1 + 1))), (2, .int (nI ((gpS (free_ kk pn (pX (F 1)) (pY (F 1))) z).2.1 + gpN (gpS (free_ kk pn (pX (F 1)) (pY (F 1))) z) z))), (7, .int (nI (gpN (gpS (free_ kk pn (pX (F 1)) (pY (F 1))) z) z))), (0, .ref (a 0)), (1, .int x)]) hx hb dX7_gap_98 hl (k := 7) rfl (nI_1 _) (by decide) rfl (fun ls hl => ?_)
                refine lv_goto (tgt := 30) hx hb dX7_gap_101 (by decide) ?_
                exact ih_30 (z + 1) (nI n1_10) O1_10 T1_10 (by omega) (by rw [gpS_t1 hyg hmo]; exact hw_10.2) (by omega) _ _ hP hD hS ls (by rw [gpS_t1 hyg hmo]; exact (lv_sub hl [6, 7, 4, 3, 1, 2, 0] rfl))
    exact LOOP_30 (1024 - 0 + 1) 0 (v 23) O1_2 (F 12) (Nat.zero_le _) (free_own hs2 hw_2) (Nat.lt_succ_self _) _ _ hP hD hS ls (lv_sub hl [5, 6, 4, 3, 2, 1, 0] rfl)
  · skip
    have nc_1 := zb_eq0.mp c_1
    have hw9 : ¬ (0 ≤ x.toInt ∧ x.toInt ≤ 4) := by have h9 := nc_1; rw [li_0, li_4] at h9; exact h9
    refine lv_bipush (v := (-2)) hx hb dX7_gap_9 (by decide) ?_
    rw [← hQ]
    have hP9 := hP
    have hD9 := hD
    exact W.iret (v := (-2)) hx hb hr (fun t ht hW => ⟨⟨_, (v, su, sl, F), rfl, ⟨(cif_f hw9).symm, ⟨rfl, rfl, rfl, rfl, rfl⟩⟩, by rw [ht]; exact hP9, hD9⟩, hS.F ht⟩) hS.2.2 dX7_gap_11

set_option maxHeartbeats 4000000 in
set_option maxRecDepth 100000 in
theorem c_X7_init (l : Launch) (D : va_G) (cI cB cZ cP : ClassId) (sz : Nat) (h0 : Nat) : Met l yX7_init wsX7_init ({ frames := 1, cells := 13, slots := 3636, locals := 12 } : Room) (va_Pc [.ref h0] (fun U => U.heap.size = sz ∧ va_P D vwCl [(h0, .inr (9, [.null, .null, .null, .null, .int 0, .null, .null, .int 0, .int 0, .int 0, .int 0, .null, .null, .int 0, .int 0, .int 0, .null, .null, .int 0, .long 0, .long 0, .null, .null, .int 0]))] U.heap ∧ KW D cI cB cZ cP U ∧ va_D (fun _ => True) [(h0, .inr (9, [.null, .null, .null, .null, .int 0, .null, .null, .int 0, .int 0, .int 0, .int 0, .null, .null, .int 0, .int 0, .int 0, .null, .null, .int 0, .long 0, .long 0, .null, .null, .int 0]))] ∧ EF [(h0, .inr (9, [.null, .null, .null, .null, .int 0, .null, .null, .int 0, .int 0, .int 0, .int 0, .null, .null, .int 0, .int 0, .int 0, .null, .null, .int 0, .long 0, .long 0, .null, .null, .int 0]))] sz E0 U.heap)) (va_Qv (fun (a1 : Nat → Nat) => a1 0 = h0) (fun (a1 : Nat → Nat) (t : State) => va_P D vwCl (MW cI cZ a1 (fun _ => 0) 0 0 iniF) t.heap ∧ va_D (va_A [(h0, .inr (9, [.null, .null, .null, .null, .int 0, .null, .null, .int 0, .int 0, .int 0, .int 0, .null, .null, .int 0, .int 0, .int 0, .null, .null, .int 0, .long 0, .long 0, .null, .null, .int 0]))] sz) (MW cI cZ a1 (fun _ => 0) 0 0 iniF)) (va_A [(h0, .inr (9, [.null, .null, .null, .null, .int 0, .null, .null, .int 0, .int 0, .int 0, .int 0, .null, .null, .int 0, .int 0, .int 0, .null, .null, .int 0, .long 0, .long 0, .null, .null, .int 0]))] sz)) 13 3636 (va_A [(h0, .inr (9, [.null, .null, .null, .null, .int 0, .null, .null, .int 0, .int 0, .int 0, .int 0, .null, .null, .int 0, .int 0, .int 0, .null, .null, .int 0, .long 0, .long 0, .null, .null, .int 0]))] sz) := by
  refine Met.ofW (cc := cX7_init) (maxL := 1) (ret := none) (by decide) rfl ?_
  intro p e s m args below meth c s₁ B hml hv
  obtain ⟨rfl, hsz, hP, hW0, hD0, hE⟩ := hv
  have hx := B.exec
  have hb := B.bytes
  have hr := B.returns
  have hts := atoms_spec (ws := wsX7_init) B.pre
  have hown : s.vm.findClass RX7 = some m.cls := findClass_of_methodNamed B.named
  have hlocks := B.notSynchronized
  have hK := hW0.1
  have hin : meth.name = "<init>" := (name_of_methodNamed B.named B.method).1
  subst hsz
  have hD := hD0.self (sz := s.heap.size)
  unfold EF at hE
  generalize hAe : va_A [(h0, .inr (9, [.null, .null, .null, .null, .int 0, .null, .null, .int 0, .int 0, .int 0, .int 0, .null, .null, .int 0, .int 0, .int 0, .null, .null, .int 0, .long 0, .long 0, .null, .null, .int 0]))] s.heap.size = A at hD hE ⊢
  have hA : ∀ q : Nat, s.heap.size ≤ q → A q := fun q h => by rw [← hAe]; exact Or.inr h
  have hS : va_S A s.heap s.heap [] := va_S.rf
  have hl := lv_entry ([.ref h0]) (n := 1) (Nat.le_of_ble_eq_true rfl)
  rw [lg_entry_eq]
  generalize (lg_sl ([.ref h0]) ++ List.replicate (1 - (lg_sl ([.ref h0])).length) Slot.unset).toArray = ls at hl ⊢
  have hl : lv_has ls 1 [(0, .ref h0)] := hl
  show W p l e ({ frames := 1, cells := 13, slots := 3636, locals := 12 } : Room) s m ([.ref h0] : List Value).toArray below meth c s.heap [] 0 0 _ (F0 m 0 ls [])
  refine u_genQ (fun Q hQ => ?_)
  refine lv_aload_n hx hb dX7_init_0 rfl (lv_at hl 0 rfl) ?_
  refine W.objInit hx hb hown (hts (.methodLink RX7 1 objectInit) (by decide +kernel)) (hts (.instanceMethod objectInit) (by decide +kernel)) (hts (.code objectInit ⟨#[0xb1]⟩ 1 none) (by decide +kernel)) rfl (by rw [hml]; exact hl.1) rfl dX7_init_1 (Nat.le_of_ble_eq_true rfl) (Nat.le_of_ble_eq_true rfl) ?_
  refine W.eq (g2 := F0 m 4 ls []) rfl ?_
  refine lv_aload_n hx hb dX7_init_4 rfl (lv_at hl 0 rfl) ?_
  refine lv_bipush (v := 110) hx hb dX7_init_5 (by decide) ?_
  refine u_newaI hx hb (hts (.arrayClass .int) (by decide +kernel)) hK 0 rfl hP hD hS hA (N := 110) rfl (by omega) (Nat.le_of_ble_eq_true rfl) (Nat.le_of_ble_eq_true rfl) dX7_init_7 (fun q_1 H hP hD hS => ?_)
  have hP : va_P D vwCl [(h0, .inr (9, [.null, .null, .null, .null, .int 0, .null, .null, .int 0, .int 0, .int 0, .int 0, .null, .null, .int 0, .int 0, .int 0, .null, .null, .int 0, .long 0, .long 0, .null, .null, .int 0])), (q_1, .inl (cI, 110, .inl (fun _ => 0)))] H := hP
  have hD : va_D A [(h0, .inr (9, [.null, .null, .null, .null, .int 0, .null, .null, .int 0, .int 0, .int 0, .int 0, .null, .null, .int 0, .int 0, .int 0, .null, .null, .int 0, .long 0, .long 0, .null, .null, .int 0])), (q_1, .inl (cI, 110, .inl (fun _ => 0)))] := hD
  refine va_putF (D := D) (ci := 9) (v := .ref q_1) (ty := .array .int) (C := RX7) (T := TX7) (N := 24) hx hb hts (by decide +kernel) tyX7 tyX7_ok nmX7 hown hK hP hD hS 0 rfl rfl 0 (by decide) (hts (.fieldLink RX7 7 "LandDeedsModel" "state" "[I") (by decide +kernel)) (fun _ h9 => h9) rfl hin rfl (by decide +kernel) rfl rfl (Nat.le_of_ble_eq_true rfl) dX7_init_9 (fun H locs hP hD hS => ?_)
  have hP : va_P D vwCl [(h0, .inr (9, [.ref q_1, .null, .null, .null, .int 0, .null, .null, .int 0, .int 0, .int 0, .int 0, .null, .null, .int 0, .int 0, .int 0, .null, .null, .int 0, .long 0, .long 0, .null, .null, .int 0])), (q_1, .inl (cI, 110, .inl (fun _ => 0)))] H := hP
  have hD : va_D A [(h0, .inr (9, [.ref q_1, .null, .null, .null, .int 0, .null, .null, .int 0, .int 0, .int 0, .int 0, .null, .null, .int 0, .int 0, .int 0, .null, .null, .int 0, .long 0, .long 0, .null, .null, .int 0])), (q_1, .inl (cI, 110, .inl (fun _ => 0)))] := hD
  refine lv_aload_n hx hb dX7_init_12 rfl (lv_at hl 0 rfl) ?_
  refine lv_sipush (v := 220) hx hb dX7_init_13 (by decide) ?_
  refine u_newaI hx hb (hts (.arrayClass .int) (by decide +kernel)) hK 0 rfl hP hD hS hA (N := 220) rfl (by omega) (Nat.le_of_ble_eq_true rfl) (Nat.le_of_ble_eq_true rfl) dX7_init_16 (fun q_2 H hP hD hS => ?_)
  have hP : va_P D vwCl [(h0, .inr (9, [.ref q_1, .null, .null, .null, .int 0, .null, .null, .int 0, .int 0, .int 0, .int 0, .null, .null, .int 0, .int 0, .int 0, .null, .null, .int 0, .long 0, .long 0, .null, .null, .int 0])), (q_1, .inl (cI, 110, .inl (fun _ => 0))), (q_2, .inl (cI, 220, .inl (fun _ => 0)))] H := hP
  have hD : va_D A [(h0, .inr (9, [.ref q_1, .null, .null, .null, .int 0, .null, .null, .int 0, .int 0, .int 0, .int 0, .null, .null, .int 0, .int 0, .int 0, .null, .null, .int 0, .long 0, .long 0, .null, .null, .int 0])), (q_1, .inl (cI, 110, .inl (fun _ => 0))), (q_2, .inl (cI, 220, .inl (fun _ => 0)))] := hD
  refine va_putF (D := D) (ci := 9) (v := .ref q_2) (ty := .array .int) (C := RX7) (T := TX7) (N := 24) hx hb hts (by decide +kernel) tyX7 tyX7_ok nmX7 hown hK hP hD hS 0 rfl rfl 1 (by decide) (hts (.fieldLink RX7 13 "LandDeedsModel" "images" "[I") (by decide +kernel)) (fun _ h9 => h9) rfl hin rfl (by decide +kernel) rfl rfl (Nat.le_of_ble_eq_true rfl) dX7_init_18 (fun H locs hP hD hS => ?_)
  have hP : va_P D vwCl [(h0, .inr (9, [.ref q_1, .ref q_2, .null, .null, .int 0, .null, .null, .int 0, .int 0, .int 0, .int 0, .null, .null, .int 0, .int 0, .int 0, .null, .null, .int 0, .long 0, .long 0, .null, .null, .int 0])), (q_1, .inl (cI, 110, .inl (fun _ => 0))), (q_2, .inl (cI, 220, .inl (fun _ => 0)))] H := hP
  have hD : va_D A [(h0, .inr (9, [.ref q_1, .ref q_2, .null, .null, .int 0, .null, .null, .int 0, .int 0, .int 0, .int 0, .null, .null, .int 0, .int 0, .int 0, .null, .null, .int 0, .long 0, .long 0, .null, .null, .int 0])), (q_1, .inl (cI, 110, .inl (fun _ => 0))), (q_2, .inl (cI, 220, .inl (fun _ => 0)))] := hD
  refine lv_aload_n hx hb dX7_init_21 rfl (lv_at hl 0 rfl) ?_
  refine lv_iconst (v := 2) hx hb dX7_init_22 (by decide) ?_
  refine u_newaZ hx hb (hts (.arrayClass .boolean) (by decide +kernel)) hK 2 rfl hP hD hS hA (N := 2) rfl (by omega) (Nat.le_of_ble_eq_true rfl) (Nat.le_of_ble_eq_true rfl) dX7_init_23 (fun q_3 H hP hD hS => ?_)
  have hP : va_P D vwCl [(h0, .inr (9, [.ref q_1, .ref q_2, .null, .null, .int 0, .null, .null, .int 0, .int 0, .int 0, .int 0, .null, .null, .int 0, .int 0, .int 0, .null, .null, .int 0, .long 0, .long 0, .null, .null, .int 0])), (q_1, .inl (cI, 110, .inl (fun _ => 0))), (q_2, .inl (cI, 220, .inl (fun _ => 0))), (q_3, .inl (cZ, 2, .inl (fun _ => 0)))] H := hP
  have hD : va_D A [(h0, .inr (9, [.ref q_1, .ref q_2, .null, .null, .int 0, .null, .null, .int 0, .int 0, .int 0, .int 0, .null, .null, .int 0, .int 0, .int 0, .null, .null, .int 0, .long 0, .long 0, .null, .null, .int 0])), (q_1, .inl (cI, 110, .inl (fun _ => 0))), (q_2, .inl (cI, 220, .inl (fun _ => 0))), (q_3, .inl (cZ, 2, .inl (fun _ => 0)))] := hD
  refine va_putF (D := D) (ci := 9) (v := .ref q_3) (ty := .array .boolean) (C := RX7) (T := TX7) (N := 24) hx hb hts (by decide +kernel) tyX7 tyX7_ok nmX7 hown hK hP hD hS 0 rfl rfl 2 (by decide) (hts (.fieldLink RX7 16 "LandDeedsModel" "isKept" "[Z") (by decide +kernel)) (fun _ h9 => h9) rfl hin rfl (by decide +kernel) rfl rfl (Nat.le_of_ble_eq_true rfl) dX7_init_25 (fun H locs hP hD hS => ?_)
  have hP : va_P D vwCl [(h0, .inr (9, [.ref q_1, .ref q_2, .ref q_3, .null, .int 0, .null, .null, .int 0, .int 0, .int 0, .int 0, .null, .null, .int 0, .int 0, .int 0, .null, .null, .int 0, .long 0, .long 0, .null, .null, .int 0])), (q_1, .inl (cI, 110, .inl (fun _ => 0))), (q_2, .inl (cI, 220, .inl (fun _ => 0))), (q_3, .inl (cZ, 2, .inl (fun _ => 0)))] H := hP
  have hD : va_D A [(h0, .inr (9, [.ref q_1, .ref q_2, .ref q_3, .null, .int 0, .null, .null, .int 0, .int 0, .int 0, .int 0, .null, .null, .int 0, .int 0, .int 0, .null, .null, .int 0, .long 0, .long 0, .null, .null, .int 0])), (q_1, .inl (cI, 110, .inl (fun _ => 0))), (q_2, .inl (cI, 220, .inl (fun _ => 0))), (q_3, .inl (cZ, 2, .inl (fun _ => 0)))] := hD
  refine lv_aload_n hx hb dX7_init_28 rfl (lv_at hl 0 rfl) ?_
  refine lv_bipush (v := 48) hx hb dX7_init_29 (by decide) ?_
  refine u_newaI hx hb (hts (.arrayClass .int) (by decide +kernel)) hK 0 rfl hP hD hS hA (N := 48) rfl (by omega) (Nat.le_of_ble_eq_true rfl) (Nat.le_of_ble_eq_true rfl) dX7_init_31 (fun q_4 H hP hD hS => ?_)
  have hP : va_P D vwCl [(h0, .inr (9, [.ref q_1, .ref q_2, .ref q_3, .null, .int 0, .null, .null, .int 0, .int 0, .int 0, .int 0, .null, .null, .int 0, .int 0, .int 0, .null, .null, .int 0, .long 0, .long 0, .null, .null, .int 0])), (q_1, .inl (cI, 110, .inl (fun _ => 0))), (q_2, .inl (cI, 220, .inl (fun _ => 0))), (q_3, .inl (cZ, 2, .inl (fun _ => 0))), (q_4, .inl (cI, 48, .inl (fun _ => 0)))] H := hP
  have hD : va_D A [(h0, .inr (9, [.ref q_1, .ref q_2, .ref q_3, .null, .int 0, .null, .null, .int 0, .int 0, .int 0, .int 0, .null, .null, .int 0, .int 0, .int 0, .null, .null, .int 0, .long 0, .long 0, .null, .null, .int 0])), (q_1, .inl (cI, 110, .inl (fun _ => 0))), (q_2, .inl (cI, 220, .inl (fun _ => 0))), (q_3, .inl (cZ, 2, .inl (fun _ => 0))), (q_4, .inl (cI, 48, .inl (fun _ => 0)))] := hD
  refine va_putF (D := D) (ci := 9) (v := .ref q_4) (ty := .array .int) (C := RX7) (T := TX7) (N := 24) hx hb hts (by decide +kernel) tyX7 tyX7_ok nmX7 hown hK hP hD hS 0 rfl rfl 3 (by decide) (hts (.fieldLink RX7 20 "LandDeedsModel" "text" "[I") (by decide +kernel)) (fun _ h9 => h9) rfl hin rfl (by decide +kernel) rfl rfl (Nat.le_of_ble_eq_true rfl) dX7_init_33 (fun H locs hP hD hS => ?_)
  have hP : va_P D vwCl [(h0, .inr (9, [.ref q_1, .ref q_2, .ref q_3, .ref q_4, .int 0, .null, .null, .int 0, .int 0, .int 0, .int 0, .null, .null, .int 0, .int 0, .int 0, .null, .null, .int 0, .long 0, .long 0, .null, .null, .int 0])), (q_1, .inl (cI, 110, .inl (fun _ => 0))), (q_2, .inl (cI, 220, .inl (fun _ => 0))), (q_3, .inl (cZ, 2, .inl (fun _ => 0))), (q_4, .inl (cI, 48, .inl (fun _ => 0)))] H := hP
  have hD : va_D A [(h0, .inr (9, [.ref q_1, .ref q_2, .ref q_3, .ref q_4, .int 0, .null, .null, .int 0, .int 0, .int 0, .int 0, .null, .null, .int 0, .int 0, .int 0, .null, .null, .int 0, .long 0, .long 0, .null, .null, .int 0])), (q_1, .inl (cI, 110, .inl (fun _ => 0))), (q_2, .inl (cI, 220, .inl (fun _ => 0))), (q_3, .inl (cZ, 2, .inl (fun _ => 0))), (q_4, .inl (cI, 48, .inl (fun _ => 0)))] := hD
  refine lv_aload_n hx hb dX7_init_36 rfl (lv_at hl 0 rfl) ?_
  refine lv_bipush (v := 8) hx hb dX7_init_37 (by decide) ?_
  refine u_newaI hx hb (hts (.arrayClass .int) (by decide +kernel)) hK 0 rfl hP hD hS hA (N := 8) rfl (by omega) (Nat.le_of_ble_eq_true rfl) (Nat.le_of_ble_eq_true rfl) dX7_init_39 (fun q_5 H hP hD hS => ?_)
  have hP : va_P D vwCl [(h0, .inr (9, [.ref q_1, .ref q_2, .ref q_3, .ref q_4, .int 0, .null, .null, .int 0, .int 0, .int 0, .int 0, .null, .null, .int 0, .int 0, .int 0, .null, .null, .int 0, .long 0, .long 0, .null, .null, .int 0])), (q_1, .inl (cI, 110, .inl (fun _ => 0))), (q_2, .inl (cI, 220, .inl (fun _ => 0))), (q_3, .inl (cZ, 2, .inl (fun _ => 0))), (q_4, .inl (cI, 48, .inl (fun _ => 0))), (q_5, .inl (cI, 8, .inl (fun _ => 0)))] H := hP
  have hD : va_D A [(h0, .inr (9, [.ref q_1, .ref q_2, .ref q_3, .ref q_4, .int 0, .null, .null, .int 0, .int 0, .int 0, .int 0, .null, .null, .int 0, .int 0, .int 0, .null, .null, .int 0, .long 0, .long 0, .null, .null, .int 0])), (q_1, .inl (cI, 110, .inl (fun _ => 0))), (q_2, .inl (cI, 220, .inl (fun _ => 0))), (q_3, .inl (cZ, 2, .inl (fun _ => 0))), (q_4, .inl (cI, 48, .inl (fun _ => 0))), (q_5, .inl (cI, 8, .inl (fun _ => 0)))] := hD
  refine va_putF (D := D) (ci := 9) (v := .ref q_5) (ty := .array .int) (C := RX7) (T := TX7) (N := 24) hx hb hts (by decide +kernel) tyX7 tyX7_ok nmX7 hown hK hP hD hS 0 rfl rfl 5 (by decide) (hts (.fieldLink RX7 23 "LandDeedsModel" "right" "[I") (by decide +kernel)) (fun _ h9 => h9) rfl hin rfl (by decide +kernel) rfl rfl (Nat.le_of_ble_eq_true rfl) dX7_init_41 (fun H locs hP hD hS => ?_)
  have hP : va_P D vwCl [(h0, .inr (9, [.ref q_1, .ref q_2, .ref q_3, .ref q_4, .int 0, .ref q_5, .null, .int 0, .int 0, .int 0, .int 0, .null, .null, .int 0, .int 0, .int 0, .null, .null, .int 0, .long 0, .long 0, .null, .null, .int 0])), (q_1, .inl (cI, 110, .inl (fun _ => 0))), (q_2, .inl (cI, 220, .inl (fun _ => 0))), (q_3, .inl (cZ, 2, .inl (fun _ => 0))), (q_4, .inl (cI, 48, .inl (fun _ => 0))), (q_5, .inl (cI, 8, .inl (fun _ => 0)))] H := hP
  have hD : va_D A [(h0, .inr (9, [.ref q_1, .ref q_2, .ref q_3, .ref q_4, .int 0, .ref q_5, .null, .int 0, .int 0, .int 0, .int 0, .null, .null, .int 0, .int 0, .int 0, .null, .null, .int 0, .long 0, .long 0, .null, .null, .int 0])), (q_1, .inl (cI, 110, .inl (fun _ => 0))), (q_2, .inl (cI, 220, .inl (fun _ => 0))), (q_3, .inl (cZ, 2, .inl (fun _ => 0))), (q_4, .inl (cI, 48, .inl (fun _ => 0))), (q_5, .inl (cI, 8, .inl (fun _ => 0)))] := hD
  refine lv_aload_n hx hb dX7_init_44 rfl (lv_at hl 0 rfl) ?_
  refine lv_bipush (v := 8) hx hb dX7_init_45 (by decide) ?_
  refine u_newaI hx hb (hts (.arrayClass .int) (by decide +kernel)) hK 0 rfl hP hD hS hA (N := 8) rfl (by omega) (Nat.le_of_ble_eq_true rfl) (Nat.le_of_ble_eq_true rfl) dX7_init_47 (fun q_6 H hP hD hS => ?_)
  have hP : va_P D vwCl [(h0, .inr (9, [.ref q_1, .ref q_2, .ref q_3, .ref q_4, .int 0, .ref q_5, .null, .int 0, .int 0, .int 0, .int 0, .null, .null, .int 0, .int 0, .int 0, .null, .null, .int 0, .long 0, .long 0, .null, .null, .int 0])), (q_1, .inl (cI, 110, .inl (fun _ => 0))), (q_2, .inl (cI, 220, .inl (fun _ => 0))), (q_3, .inl (cZ, 2, .inl (fun _ => 0))), (q_4, .inl (cI, 48, .inl (fun _ => 0))), (q_5, .inl (cI, 8, .inl (fun _ => 0))), (q_6, .inl (cI, 8, .inl (fun _ => 0)))] H := hP
  have hD : va_D A [(h0, .inr (9, [.ref q_1, .ref q_2, .ref q_3, .ref q_4, .int 0, .ref q_5, .null, .int 0, .int 0, .int 0, .int 0, .null, .null, .int 0, .int 0, .int 0, .null, .null, .int 0, .long 0, .long 0, .null, .null, .int 0])), (q_1, .inl (cI, 110, .inl (fun _ => 0))), (q_2, .inl (cI, 220, .inl (fun _ => 0))), (q_3, .inl (cZ, 2, .inl (fun _ => 0))), (q_4, .inl (cI, 48, .inl (fun _ => 0))), (q_5, .inl (cI, 8, .inl (fun _ => 0))), (q_6, .inl (cI, 8, .inl (fun _ => 0)))] := hD
  refine va_putF (D := D) (ci := 9) (v := .ref q_6) (ty := .array .int) (C := RX7) (T := TX7) (N := 24) hx hb hts (by decide +kernel) tyX7 tyX7_ok nmX7 hown hK hP hD hS 0 rfl rfl 6 (by decide) (hts (.fieldLink RX7 26 "LandDeedsModel" "up" "[I") (by decide +kernel)) (fun _ h9 => h9) rfl hin rfl (by decide +kernel) rfl rfl (Nat.le_of_ble_eq_true rfl) dX7_init_49 (fun H locs hP hD hS => ?_)
  have hP : va_P D vwCl [(h0, .inr (9, [.ref q_1, .ref q_2, .ref q_3, .ref q_4, .int 0, .ref q_5, .ref q_6, .int 0, .int 0, .int 0, .int 0, .null, .null, .int 0, .int 0, .int 0, .null, .null, .int 0, .long 0, .long 0, .null, .null, .int 0])), (q_1, .inl (cI, 110, .inl (fun _ => 0))), (q_2, .inl (cI, 220, .inl (fun _ => 0))), (q_3, .inl (cZ, 2, .inl (fun _ => 0))), (q_4, .inl (cI, 48, .inl (fun _ => 0))), (q_5, .inl (cI, 8, .inl (fun _ => 0))), (q_6, .inl (cI, 8, .inl (fun _ => 0)))] H := hP
  have hD : va_D A [(h0, .inr (9, [.ref q_1, .ref q_2, .ref q_3, .ref q_4, .int 0, .ref q_5, .ref q_6, .int 0, .int 0, .int 0, .int 0, .null, .null, .int 0, .int 0, .int 0, .null, .null, .int 0, .long 0, .long 0, .null, .null, .int 0])), (q_1, .inl (cI, 110, .inl (fun _ => 0))), (q_2, .inl (cI, 220, .inl (fun _ => 0))), (q_3, .inl (cZ, 2, .inl (fun _ => 0))), (q_4, .inl (cI, 48, .inl (fun _ => 0))), (q_5, .inl (cI, 8, .inl (fun _ => 0))), (q_6, .inl (cI, 8, .inl (fun _ => 0)))] := hD
  refine lv_aload_n hx hb dX7_init_52 rfl (lv_at hl 0 rfl) ?_
  refine lv_bipush (v := 8) hx hb dX7_init_53 (by decide) ?_
  refine u_newaI hx hb (hts (.arrayClass .int) (by decide +kernel)) hK 0 rfl hP hD hS hA (N := 8) rfl (by omega) (Nat.le_of_ble_eq_true rfl) (Nat.le_of_ble_eq_true rfl) dX7_init_55 (fun q_7 H hP hD hS => ?_)
  have hP : va_P D vwCl [(h0, .inr (9, [.ref q_1, .ref q_2, .ref q_3, .ref q_4, .int 0, .ref q_5, .ref q_6, .int 0, .int 0, .int 0, .int 0, .null, .null, .int 0, .int 0, .int 0, .null, .null, .int 0, .long 0, .long 0, .null, .null, .int 0])), (q_1, .inl (cI, 110, .inl (fun _ => 0))), (q_2, .inl (cI, 220, .inl (fun _ => 0))), (q_3, .inl (cZ, 2, .inl (fun _ => 0))), (q_4, .inl (cI, 48, .inl (fun _ => 0))), (q_5, .inl (cI, 8, .inl (fun _ => 0))), (q_6, .inl (cI, 8, .inl (fun _ => 0))), (q_7, .inl (cI, 8, .inl (fun _ => 0)))] H := hP
  have hD : va_D A [(h0, .inr (9, [.ref q_1, .ref q_2, .ref q_3, .ref q_4, .int 0, .ref q_5, .ref q_6, .int 0, .int 0, .int 0, .int 0, .null, .null, .int 0, .int 0, .int 0, .null, .null, .int 0, .long 0, .long 0, .null, .null, .int 0])), (q_1, .inl (cI, 110, .inl (fun _ => 0))), (q_2, .inl (cI, 220, .inl (fun _ => 0))), (q_3, .inl (cZ, 2, .inl (fun _ => 0))), (q_4, .inl (cI, 48, .inl (fun _ => 0))), (q_5, .inl (cI, 8, .inl (fun _ => 0))), (q_6, .inl (cI, 8, .inl (fun _ => 0))), (q_7, .inl (cI, 8, .inl (fun _ => 0)))] := hD
  refine va_putF (D := D) (ci := 9) (v := .ref q_7) (ty := .array .int) (C := RX7) (T := TX7) (N := 24) hx hb hts (by decide +kernel) tyX7 tyX7_ok nmX7 hown hK hP hD hS 0 rfl rfl 11 (by decide) (hts (.fieldLink RX7 29 "LandDeedsModel" "cx" "[I") (by decide +kernel)) (fun _ h9 => h9) rfl hin rfl (by decide +kernel) rfl rfl (Nat.le_of_ble_eq_true rfl) dX7_init_57 (fun H locs hP hD hS => ?_)
  have hP : va_P D vwCl [(h0, .inr (9, [.ref q_1, .ref q_2, .ref q_3, .ref q_4, .int 0, .ref q_5, .ref q_6, .int 0, .int 0, .int 0, .int 0, .ref q_7, .null, .int 0, .int 0, .int 0, .null, .null, .int 0, .long 0, .long 0, .null, .null, .int 0])), (q_1, .inl (cI, 110, .inl (fun _ => 0))), (q_2, .inl (cI, 220, .inl (fun _ => 0))), (q_3, .inl (cZ, 2, .inl (fun _ => 0))), (q_4, .inl (cI, 48, .inl (fun _ => 0))), (q_5, .inl (cI, 8, .inl (fun _ => 0))), (q_6, .inl (cI, 8, .inl (fun _ => 0))), (q_7, .inl (cI, 8, .inl (fun _ => 0)))] H := hP
  have hD : va_D A [(h0, .inr (9, [.ref q_1, .ref q_2, .ref q_3, .ref q_4, .int 0, .ref q_5, .ref q_6, .int 0, .int 0, .int 0, .int 0, .ref q_7, .null, .int 0, .int 0, .int 0, .null, .null, .int 0, .long 0, .long 0, .null, .null, .int 0])), (q_1, .inl (cI, 110, .inl (fun _ => 0))), (q_2, .inl (cI, 220, .inl (fun _ => 0))), (q_3, .inl (cZ, 2, .inl (fun _ => 0))), (q_4, .inl (cI, 48, .inl (fun _ => 0))), (q_5, .inl (cI, 8, .inl (fun _ => 0))), (q_6, .inl (cI, 8, .inl (fun _ => 0))), (q_7, .inl (cI, 8, .inl (fun _ => 0)))] := hD
  refine lv_aload_n hx hb dX7_init_60 rfl (lv_at hl 0 rfl) ?_
  refine lv_bipush (v := 8) hx hb dX7_init_61 (by decide) ?_
  refine u_newaI hx hb (hts (.arrayClass .int) (by decide +kernel)) hK 0 rfl hP hD hS hA (N := 8) rfl (by omega) (Nat.le_of_ble_eq_true rfl) (Nat.le_of_ble_eq_true rfl) dX7_init_63 (fun q_8 H hP hD hS => ?_)
  have hP : va_P D vwCl [(h0, .inr (9, [.ref q_1, .ref q_2, .ref q_3, .ref q_4, .int 0, .ref q_5, .ref q_6, .int 0, .int 0, .int 0, .int 0, .ref q_7, .null, .int 0, .int 0, .int 0, .null, .null, .int 0, .long 0, .long 0, .null, .null, .int 0])), (q_1, .inl (cI, 110, .inl (fun _ => 0))), (q_2, .inl (cI, 220, .inl (fun _ => 0))), (q_3, .inl (cZ, 2, .inl (fun _ => 0))), (q_4, .inl (cI, 48, .inl (fun _ => 0))), (q_5, .inl (cI, 8, .inl (fun _ => 0))), (q_6, .inl (cI, 8, .inl (fun _ => 0))), (q_7, .inl (cI, 8, .inl (fun _ => 0))), (q_8, .inl (cI, 8, .inl (fun _ => 0)))] H := hP
  have hD : va_D A [(h0, .inr (9, [.ref q_1, .ref q_2, .ref q_3, .ref q_4, .int 0, .ref q_5, .ref q_6, .int 0, .int 0, .int 0, .int 0, .ref q_7, .null, .int 0, .int 0, .int 0, .null, .null, .int 0, .long 0, .long 0, .null, .null, .int 0])), (q_1, .inl (cI, 110, .inl (fun _ => 0))), (q_2, .inl (cI, 220, .inl (fun _ => 0))), (q_3, .inl (cZ, 2, .inl (fun _ => 0))), (q_4, .inl (cI, 48, .inl (fun _ => 0))), (q_5, .inl (cI, 8, .inl (fun _ => 0))), (q_6, .inl (cI, 8, .inl (fun _ => 0))), (q_7, .inl (cI, 8, .inl (fun _ => 0))), (q_8, .inl (cI, 8, .inl (fun _ => 0)))] := hD
  refine va_putF (D := D) (ci := 9) (v := .ref q_8) (ty := .array .int) (C := RX7) (T := TX7) (N := 24) hx hb hts (by decide +kernel) tyX7 tyX7_ok nmX7 hown hK hP hD hS 0 rfl rfl 12 (by decide) (hts (.fieldLink RX7 32 "LandDeedsModel" "cy" "[I") (by decide +kernel)) (fun _ h9 => h9) rfl hin rfl (by decide +kernel) rfl rfl (Nat.le_of_ble_eq_true rfl) dX7_init_65 (fun H locs hP hD hS => ?_)
  have hP : va_P D vwCl [(h0, .inr (9, [.ref q_1, .ref q_2, .ref q_3, .ref q_4, .int 0, .ref q_5, .ref q_6, .int 0, .int 0, .int 0, .int 0, .ref q_7, .ref q_8, .int 0, .int 0, .int 0, .null, .null, .int 0, .long 0, .long 0, .null, .null, .int 0])), (q_1, .inl (cI, 110, .inl (fun _ => 0))), (q_2, .inl (cI, 220, .inl (fun _ => 0))), (q_3, .inl (cZ, 2, .inl (fun _ => 0))), (q_4, .inl (cI, 48, .inl (fun _ => 0))), (q_5, .inl (cI, 8, .inl (fun _ => 0))), (q_6, .inl (cI, 8, .inl (fun _ => 0))), (q_7, .inl (cI, 8, .inl (fun _ => 0))), (q_8, .inl (cI, 8, .inl (fun _ => 0)))] H := hP
  have hD : va_D A [(h0, .inr (9, [.ref q_1, .ref q_2, .ref q_3, .ref q_4, .int 0, .ref q_5, .ref q_6, .int 0, .int 0, .int 0, .int 0, .ref q_7, .ref q_8, .int 0, .int 0, .int 0, .null, .null, .int 0, .long 0, .long 0, .null, .null, .int 0])), (q_1, .inl (cI, 110, .inl (fun _ => 0))), (q_2, .inl (cI, 220, .inl (fun _ => 0))), (q_3, .inl (cZ, 2, .inl (fun _ => 0))), (q_4, .inl (cI, 48, .inl (fun _ => 0))), (q_5, .inl (cI, 8, .inl (fun _ => 0))), (q_6, .inl (cI, 8, .inl (fun _ => 0))), (q_7, .inl (cI, 8, .inl (fun _ => 0))), (q_8, .inl (cI, 8, .inl (fun _ => 0)))] := hD
  refine lv_aload_n hx hb dX7_init_68 rfl (lv_at hl 0 rfl) ?_
  refine lv_sipush (v := 1024) hx hb dX7_init_69 (by decide) ?_
  refine u_newaI hx hb (hts (.arrayClass .int) (by decide +kernel)) hK 0 rfl hP hD hS hA (N := 1024) rfl (by omega) (Nat.le_of_ble_eq_true rfl) (Nat.le_of_ble_eq_true rfl) dX7_init_72 (fun q_9 H hP hD hS => ?_)
  have hP : va_P D vwCl [(h0, .inr (9, [.ref q_1, .ref q_2, .ref q_3, .ref q_4, .int 0, .ref q_5, .ref q_6, .int 0, .int 0, .int 0, .int 0, .ref q_7, .ref q_8, .int 0, .int 0, .int 0, .null, .null, .int 0, .long 0, .long 0, .null, .null, .int 0])), (q_1, .inl (cI, 110, .inl (fun _ => 0))), (q_2, .inl (cI, 220, .inl (fun _ => 0))), (q_3, .inl (cZ, 2, .inl (fun _ => 0))), (q_4, .inl (cI, 48, .inl (fun _ => 0))), (q_5, .inl (cI, 8, .inl (fun _ => 0))), (q_6, .inl (cI, 8, .inl (fun _ => 0))), (q_7, .inl (cI, 8, .inl (fun _ => 0))), (q_8, .inl (cI, 8, .inl (fun _ => 0))), (q_9, .inl (cI, 1024, .inl (fun _ => 0)))] H := hP
  have hD : va_D A [(h0, .inr (9, [.ref q_1, .ref q_2, .ref q_3, .ref q_4, .int 0, .ref q_5, .ref q_6, .int 0, .int 0, .int 0, .int 0, .ref q_7, .ref q_8, .int 0, .int 0, .int 0, .null, .null, .int 0, .long 0, .long 0, .null, .null, .int 0])), (q_1, .inl (cI, 110, .inl (fun _ => 0))), (q_2, .inl (cI, 220, .inl (fun _ => 0))), (q_3, .inl (cZ, 2, .inl (fun _ => 0))), (q_4, .inl (cI, 48, .inl (fun _ => 0))), (q_5, .inl (cI, 8, .inl (fun _ => 0))), (q_6, .inl (cI, 8, .inl (fun _ => 0))), (q_7, .inl (cI, 8, .inl (fun _ => 0))), (q_8, .inl (cI, 8, .inl (fun _ => 0))), (q_9, .inl (cI, 1024, .inl (fun _ => 0)))] := hD
  refine va_putF (D := D) (ci := 9) (v := .ref q_9) (ty := .array .int) (C := RX7) (T := TX7) (N := 24) hx hb hts (by decide +kernel) tyX7 tyX7_ok nmX7 hown hK hP hD hS 0 rfl rfl 16 (by decide) (hts (.fieldLink RX7 35 "LandDeedsModel" "owner" "[I") (by decide +kernel)) (fun _ h9 => h9) rfl hin rfl (by decide +kernel) rfl rfl (Nat.le_of_ble_eq_true rfl) dX7_init_74 (fun H locs hP hD hS => ?_)
  have hP : va_P D vwCl [(h0, .inr (9, [.ref q_1, .ref q_2, .ref q_3, .ref q_4, .int 0, .ref q_5, .ref q_6, .int 0, .int 0, .int 0, .int 0, .ref q_7, .ref q_8, .int 0, .int 0, .int 0, .ref q_9, .null, .int 0, .long 0, .long 0, .null, .null, .int 0])), (q_1, .inl (cI, 110, .inl (fun _ => 0))), (q_2, .inl (cI, 220, .inl (fun _ => 0))), (q_3, .inl (cZ, 2, .inl (fun _ => 0))), (q_4, .inl (cI, 48, .inl (fun _ => 0))), (q_5, .inl (cI, 8, .inl (fun _ => 0))), (q_6, .inl (cI, 8, .inl (fun _ => 0))), (q_7, .inl (cI, 8, .inl (fun _ => 0))), (q_8, .inl (cI, 8, .inl (fun _ => 0))), (q_9, .inl (cI, 1024, .inl (fun _ => 0)))] H := hP
  have hD : va_D A [(h0, .inr (9, [.ref q_1, .ref q_2, .ref q_3, .ref q_4, .int 0, .ref q_5, .ref q_6, .int 0, .int 0, .int 0, .int 0, .ref q_7, .ref q_8, .int 0, .int 0, .int 0, .ref q_9, .null, .int 0, .long 0, .long 0, .null, .null, .int 0])), (q_1, .inl (cI, 110, .inl (fun _ => 0))), (q_2, .inl (cI, 220, .inl (fun _ => 0))), (q_3, .inl (cZ, 2, .inl (fun _ => 0))), (q_4, .inl (cI, 48, .inl (fun _ => 0))), (q_5, .inl (cI, 8, .inl (fun _ => 0))), (q_6, .inl (cI, 8, .inl (fun _ => 0))), (q_7, .inl (cI, 8, .inl (fun _ => 0))), (q_8, .inl (cI, 8, .inl (fun _ => 0))), (q_9, .inl (cI, 1024, .inl (fun _ => 0)))] := hD
  refine lv_aload_n hx hb dX7_init_77 rfl (lv_at hl 0 rfl) ?_
  refine lv_bipush (v := 64) hx hb dX7_init_78 (by decide) ?_
  refine u_newaI hx hb (hts (.arrayClass .int) (by decide +kernel)) hK 0 rfl hP hD hS hA (N := 64) rfl (by omega) (Nat.le_of_ble_eq_true rfl) (Nat.le_of_ble_eq_true rfl) dX7_init_80 (fun q_10 H hP hD hS => ?_)
  have hP : va_P D vwCl [(h0, .inr (9, [.ref q_1, .ref q_2, .ref q_3, .ref q_4, .int 0, .ref q_5, .ref q_6, .int 0, .int 0, .int 0, .int 0, .ref q_7, .ref q_8, .int 0, .int 0, .int 0, .ref q_9, .null, .int 0, .long 0, .long 0, .null, .null, .int 0])), (q_1, .inl (cI, 110, .inl (fun _ => 0))), (q_2, .inl (cI, 220, .inl (fun _ => 0))), (q_3, .inl (cZ, 2, .inl (fun _ => 0))), (q_4, .inl (cI, 48, .inl (fun _ => 0))), (q_5, .inl (cI, 8, .inl (fun _ => 0))), (q_6, .inl (cI, 8, .inl (fun _ => 0))), (q_7, .inl (cI, 8, .inl (fun _ => 0))), (q_8, .inl (cI, 8, .inl (fun _ => 0))), (q_9, .inl (cI, 1024, .inl (fun _ => 0))), (q_10, .inl (cI, 64, .inl (fun _ => 0)))] H := hP
  have hD : va_D A [(h0, .inr (9, [.ref q_1, .ref q_2, .ref q_3, .ref q_4, .int 0, .ref q_5, .ref q_6, .int 0, .int 0, .int 0, .int 0, .ref q_7, .ref q_8, .int 0, .int 0, .int 0, .ref q_9, .null, .int 0, .long 0, .long 0, .null, .null, .int 0])), (q_1, .inl (cI, 110, .inl (fun _ => 0))), (q_2, .inl (cI, 220, .inl (fun _ => 0))), (q_3, .inl (cZ, 2, .inl (fun _ => 0))), (q_4, .inl (cI, 48, .inl (fun _ => 0))), (q_5, .inl (cI, 8, .inl (fun _ => 0))), (q_6, .inl (cI, 8, .inl (fun _ => 0))), (q_7, .inl (cI, 8, .inl (fun _ => 0))), (q_8, .inl (cI, 8, .inl (fun _ => 0))), (q_9, .inl (cI, 1024, .inl (fun _ => 0))), (q_10, .inl (cI, 64, .inl (fun _ => 0)))] := hD
  refine va_putF (D := D) (ci := 9) (v := .ref q_10) (ty := .array .int) (C := RX7) (T := TX7) (N := 24) hx hb hts (by decide +kernel) tyX7 tyX7_ok nmX7 hown hK hP hD hS 0 rfl rfl 17 (by decide) (hts (.fieldLink RX7 38 "LandDeedsModel" "row" "[I") (by decide +kernel)) (fun _ h9 => h9) rfl hin rfl (by decide +kernel) rfl rfl (Nat.le_of_ble_eq_true rfl) dX7_init_82 (fun H locs hP hD hS => ?_)
  have hP : va_P D vwCl [(h0, .inr (9, [.ref q_1, .ref q_2, .ref q_3, .ref q_4, .int 0, .ref q_5, .ref q_6, .int 0, .int 0, .int 0, .int 0, .ref q_7, .ref q_8, .int 0, .int 0, .int 0, .ref q_9, .ref q_10, .int 0, .long 0, .long 0, .null, .null, .int 0])), (q_1, .inl (cI, 110, .inl (fun _ => 0))), (q_2, .inl (cI, 220, .inl (fun _ => 0))), (q_3, .inl (cZ, 2, .inl (fun _ => 0))), (q_4, .inl (cI, 48, .inl (fun _ => 0))), (q_5, .inl (cI, 8, .inl (fun _ => 0))), (q_6, .inl (cI, 8, .inl (fun _ => 0))), (q_7, .inl (cI, 8, .inl (fun _ => 0))), (q_8, .inl (cI, 8, .inl (fun _ => 0))), (q_9, .inl (cI, 1024, .inl (fun _ => 0))), (q_10, .inl (cI, 64, .inl (fun _ => 0)))] H := hP
  have hD : va_D A [(h0, .inr (9, [.ref q_1, .ref q_2, .ref q_3, .ref q_4, .int 0, .ref q_5, .ref q_6, .int 0, .int 0, .int 0, .int 0, .ref q_7, .ref q_8, .int 0, .int 0, .int 0, .ref q_9, .ref q_10, .int 0, .long 0, .long 0, .null, .null, .int 0])), (q_1, .inl (cI, 110, .inl (fun _ => 0))), (q_2, .inl (cI, 220, .inl (fun _ => 0))), (q_3, .inl (cZ, 2, .inl (fun _ => 0))), (q_4, .inl (cI, 48, .inl (fun _ => 0))), (q_5, .inl (cI, 8, .inl (fun _ => 0))), (q_6, .inl (cI, 8, .inl (fun _ => 0))), (q_7, .inl (cI, 8, .inl (fun _ => 0))), (q_8, .inl (cI, 8, .inl (fun _ => 0))), (q_9, .inl (cI, 1024, .inl (fun _ => 0))), (q_10, .inl (cI, 64, .inl (fun _ => 0)))] := hD
  refine lv_aload_n hx hb dX7_init_85 rfl (lv_at hl 0 rfl) ?_
  refine lv_sipush (v := 1024) hx hb dX7_init_86 (by decide) ?_
  refine u_newaI hx hb (hts (.arrayClass .int) (by decide +kernel)) hK 0 rfl hP hD hS hA (N := 1024) rfl (by omega) (Nat.le_of_ble_eq_true rfl) (Nat.le_of_ble_eq_true rfl) dX7_init_89 (fun q_11 H hP hD hS => ?_)
  have hP : va_P D vwCl [(h0, .inr (9, [.ref q_1, .ref q_2, .ref q_3, .ref q_4, .int 0, .ref q_5, .ref q_6, .int 0, .int 0, .int 0, .int 0, .ref q_7, .ref q_8, .int 0, .int 0, .int 0, .ref q_9, .ref q_10, .int 0, .long 0, .long 0, .null, .null, .int 0])), (q_1, .inl (cI, 110, .inl (fun _ => 0))), (q_2, .inl (cI, 220, .inl (fun _ => 0))), (q_3, .inl (cZ, 2, .inl (fun _ => 0))), (q_4, .inl (cI, 48, .inl (fun _ => 0))), (q_5, .inl (cI, 8, .inl (fun _ => 0))), (q_6, .inl (cI, 8, .inl (fun _ => 0))), (q_7, .inl (cI, 8, .inl (fun _ => 0))), (q_8, .inl (cI, 8, .inl (fun _ => 0))), (q_9, .inl (cI, 1024, .inl (fun _ => 0))), (q_10, .inl (cI, 64, .inl (fun _ => 0))), (q_11, .inl (cI, 1024, .inl (fun _ => 0)))] H := hP
  have hD : va_D A [(h0, .inr (9, [.ref q_1, .ref q_2, .ref q_3, .ref q_4, .int 0, .ref q_5, .ref q_6, .int 0, .int 0, .int 0, .int 0, .ref q_7, .ref q_8, .int 0, .int 0, .int 0, .ref q_9, .ref q_10, .int 0, .long 0, .long 0, .null, .null, .int 0])), (q_1, .inl (cI, 110, .inl (fun _ => 0))), (q_2, .inl (cI, 220, .inl (fun _ => 0))), (q_3, .inl (cZ, 2, .inl (fun _ => 0))), (q_4, .inl (cI, 48, .inl (fun _ => 0))), (q_5, .inl (cI, 8, .inl (fun _ => 0))), (q_6, .inl (cI, 8, .inl (fun _ => 0))), (q_7, .inl (cI, 8, .inl (fun _ => 0))), (q_8, .inl (cI, 8, .inl (fun _ => 0))), (q_9, .inl (cI, 1024, .inl (fun _ => 0))), (q_10, .inl (cI, 64, .inl (fun _ => 0))), (q_11, .inl (cI, 1024, .inl (fun _ => 0)))] := hD
  refine va_putF (D := D) (ci := 9) (v := .ref q_11) (ty := .array .int) (C := RX7) (T := TX7) (N := 24) hx hb hts (by decide +kernel) tyX7 tyX7_ok nmX7 hown hK hP hD hS 0 rfl rfl 21 (by decide) (hts (.fieldLink RX7 41 "LandDeedsModel" "lain" "[I") (by decide +kernel)) (fun _ h9 => h9) rfl hin rfl (by decide +kernel) rfl rfl (Nat.le_of_ble_eq_true rfl) dX7_init_91 (fun H locs hP hD hS => ?_)
  have hP : va_P D vwCl [(h0, .inr (9, [.ref q_1, .ref q_2, .ref q_3, .ref q_4, .int 0, .ref q_5, .ref q_6, .int 0, .int 0, .int 0, .int 0, .ref q_7, .ref q_8, .int 0, .int 0, .int 0, .ref q_9, .ref q_10, .int 0, .long 0, .long 0, .ref q_11, .null, .int 0])), (q_1, .inl (cI, 110, .inl (fun _ => 0))), (q_2, .inl (cI, 220, .inl (fun _ => 0))), (q_3, .inl (cZ, 2, .inl (fun _ => 0))), (q_4, .inl (cI, 48, .inl (fun _ => 0))), (q_5, .inl (cI, 8, .inl (fun _ => 0))), (q_6, .inl (cI, 8, .inl (fun _ => 0))), (q_7, .inl (cI, 8, .inl (fun _ => 0))), (q_8, .inl (cI, 8, .inl (fun _ => 0))), (q_9, .inl (cI, 1024, .inl (fun _ => 0))), (q_10, .inl (cI, 64, .inl (fun _ => 0))), (q_11, .inl (cI, 1024, .inl (fun _ => 0)))] H := hP
  have hD : va_D A [(h0, .inr (9, [.ref q_1, .ref q_2, .ref q_3, .ref q_4, .int 0, .ref q_5, .ref q_6, .int 0, .int 0, .int 0, .int 0, .ref q_7, .ref q_8, .int 0, .int 0, .int 0, .ref q_9, .ref q_10, .int 0, .long 0, .long 0, .ref q_11, .null, .int 0])), (q_1, .inl (cI, 110, .inl (fun _ => 0))), (q_2, .inl (cI, 220, .inl (fun _ => 0))), (q_3, .inl (cZ, 2, .inl (fun _ => 0))), (q_4, .inl (cI, 48, .inl (fun _ => 0))), (q_5, .inl (cI, 8, .inl (fun _ => 0))), (q_6, .inl (cI, 8, .inl (fun _ => 0))), (q_7, .inl (cI, 8, .inl (fun _ => 0))), (q_8, .inl (cI, 8, .inl (fun _ => 0))), (q_9, .inl (cI, 1024, .inl (fun _ => 0))), (q_10, .inl (cI, 64, .inl (fun _ => 0))), (q_11, .inl (cI, 1024, .inl (fun _ => 0)))] := hD
  refine lv_aload_n hx hb dX7_init_94 rfl (lv_at hl 0 rfl) ?_
  refine lv_sipush (v := 1024) hx hb dX7_init_95 (by decide) ?_
  refine u_newaI hx hb (hts (.arrayClass .int) (by decide +kernel)) hK 0 rfl hP hD hS hA (N := 1024) rfl (by omega) (Nat.le_of_ble_eq_true rfl) (Nat.le_of_ble_eq_true rfl) dX7_init_98 (fun q_12 H hP hD hS => ?_)
  have hP : va_P D vwCl [(h0, .inr (9, [.ref q_1, .ref q_2, .ref q_3, .ref q_4, .int 0, .ref q_5, .ref q_6, .int 0, .int 0, .int 0, .int 0, .ref q_7, .ref q_8, .int 0, .int 0, .int 0, .ref q_9, .ref q_10, .int 0, .long 0, .long 0, .ref q_11, .null, .int 0])), (q_1, .inl (cI, 110, .inl (fun _ => 0))), (q_2, .inl (cI, 220, .inl (fun _ => 0))), (q_3, .inl (cZ, 2, .inl (fun _ => 0))), (q_4, .inl (cI, 48, .inl (fun _ => 0))), (q_5, .inl (cI, 8, .inl (fun _ => 0))), (q_6, .inl (cI, 8, .inl (fun _ => 0))), (q_7, .inl (cI, 8, .inl (fun _ => 0))), (q_8, .inl (cI, 8, .inl (fun _ => 0))), (q_9, .inl (cI, 1024, .inl (fun _ => 0))), (q_10, .inl (cI, 64, .inl (fun _ => 0))), (q_11, .inl (cI, 1024, .inl (fun _ => 0))), (q_12, .inl (cI, 1024, .inl (fun _ => 0)))] H := hP
  have hD : va_D A [(h0, .inr (9, [.ref q_1, .ref q_2, .ref q_3, .ref q_4, .int 0, .ref q_5, .ref q_6, .int 0, .int 0, .int 0, .int 0, .ref q_7, .ref q_8, .int 0, .int 0, .int 0, .ref q_9, .ref q_10, .int 0, .long 0, .long 0, .ref q_11, .null, .int 0])), (q_1, .inl (cI, 110, .inl (fun _ => 0))), (q_2, .inl (cI, 220, .inl (fun _ => 0))), (q_3, .inl (cZ, 2, .inl (fun _ => 0))), (q_4, .inl (cI, 48, .inl (fun _ => 0))), (q_5, .inl (cI, 8, .inl (fun _ => 0))), (q_6, .inl (cI, 8, .inl (fun _ => 0))), (q_7, .inl (cI, 8, .inl (fun _ => 0))), (q_8, .inl (cI, 8, .inl (fun _ => 0))), (q_9, .inl (cI, 1024, .inl (fun _ => 0))), (q_10, .inl (cI, 64, .inl (fun _ => 0))), (q_11, .inl (cI, 1024, .inl (fun _ => 0))), (q_12, .inl (cI, 1024, .inl (fun _ => 0)))] := hD
  refine va_putF (D := D) (ci := 9) (v := .ref q_12) (ty := .array .int) (C := RX7) (T := TX7) (N := 24) hx hb hts (by decide +kernel) tyX7 tyX7_ok nmX7 hown hK hP hD hS 0 rfl rfl 22 (by decide) (hts (.fieldLink RX7 44 "LandDeedsModel" "still" "[I") (by decide +kernel)) (fun _ h9 => h9) rfl hin rfl (by decide +kernel) rfl rfl (Nat.le_of_ble_eq_true rfl) dX7_init_100 (fun H locs hP hD hS => ?_)
  have hP : va_P D vwCl [(h0, .inr (9, [.ref q_1, .ref q_2, .ref q_3, .ref q_4, .int 0, .ref q_5, .ref q_6, .int 0, .int 0, .int 0, .int 0, .ref q_7, .ref q_8, .int 0, .int 0, .int 0, .ref q_9, .ref q_10, .int 0, .long 0, .long 0, .ref q_11, .ref q_12, .int 0])), (q_1, .inl (cI, 110, .inl (fun _ => 0))), (q_2, .inl (cI, 220, .inl (fun _ => 0))), (q_3, .inl (cZ, 2, .inl (fun _ => 0))), (q_4, .inl (cI, 48, .inl (fun _ => 0))), (q_5, .inl (cI, 8, .inl (fun _ => 0))), (q_6, .inl (cI, 8, .inl (fun _ => 0))), (q_7, .inl (cI, 8, .inl (fun _ => 0))), (q_8, .inl (cI, 8, .inl (fun _ => 0))), (q_9, .inl (cI, 1024, .inl (fun _ => 0))), (q_10, .inl (cI, 64, .inl (fun _ => 0))), (q_11, .inl (cI, 1024, .inl (fun _ => 0))), (q_12, .inl (cI, 1024, .inl (fun _ => 0)))] H := hP
  have hD : va_D A [(h0, .inr (9, [.ref q_1, .ref q_2, .ref q_3, .ref q_4, .int 0, .ref q_5, .ref q_6, .int 0, .int 0, .int 0, .int 0, .ref q_7, .ref q_8, .int 0, .int 0, .int 0, .ref q_9, .ref q_10, .int 0, .long 0, .long 0, .ref q_11, .ref q_12, .int 0])), (q_1, .inl (cI, 110, .inl (fun _ => 0))), (q_2, .inl (cI, 220, .inl (fun _ => 0))), (q_3, .inl (cZ, 2, .inl (fun _ => 0))), (q_4, .inl (cI, 48, .inl (fun _ => 0))), (q_5, .inl (cI, 8, .inl (fun _ => 0))), (q_6, .inl (cI, 8, .inl (fun _ => 0))), (q_7, .inl (cI, 8, .inl (fun _ => 0))), (q_8, .inl (cI, 8, .inl (fun _ => 0))), (q_9, .inl (cI, 1024, .inl (fun _ => 0))), (q_10, .inl (cI, 64, .inl (fun _ => 0))), (q_11, .inl (cI, 1024, .inl (fun _ => 0))), (q_12, .inl (cI, 1024, .inl (fun _ => 0)))] := hD
  refine lv_aload_n hx hb dX7_init_103 rfl (lv_at hl 0 rfl) ?_
  refine va_get (D := D) (ci := 9) (v := .ref q_1) (C := RX7) (T := TX7) (N := 24) hx hb hts (by decide +kernel) hown hK hP 0 rfl rfl 0 (by decide) (hts (.fieldLink RX7 7 "LandDeedsModel" "state" "[I") (by decide +kernel)) (fun _ h9 => h9) rfl dX7_init_104 ?_
  refine lv_bipush (v := 109) hx hb dX7_init_107 (by decide) ?_
  refine lv_iconst (v := 4) hx hb dX7_init_109 (by decide) ?_
  refine u_iast hx hb hK hP hD hS 1 0 rfl rfl rfl ⟨by decide, by decide⟩ dX7_init_110 (fun H locs hP hD hS => ?_)
  have hP : va_P D vwCl [(h0, .inr (9, [.ref q_1, .ref q_2, .ref q_3, .ref q_4, .int 0, .ref q_5, .ref q_6, .int 0, .int 0, .int 0, .int 0, .ref q_7, .ref q_8, .int 0, .int 0, .int 0, .ref q_9, .ref q_10, .int 0, .long 0, .long 0, .ref q_11, .ref q_12, .int 0])), (q_1, .inl (cI, 110, .inl (upd (fun _ => 0) 109 4))), (q_2, .inl (cI, 220, .inl (fun _ => 0))), (q_3, .inl (cZ, 2, .inl (fun _ => 0))), (q_4, .inl (cI, 48, .inl (fun _ => 0))), (q_5, .inl (cI, 8, .inl (fun _ => 0))), (q_6, .inl (cI, 8, .inl (fun _ => 0))), (q_7, .inl (cI, 8, .inl (fun _ => 0))), (q_8, .inl (cI, 8, .inl (fun _ => 0))), (q_9, .inl (cI, 1024, .inl (fun _ => 0))), (q_10, .inl (cI, 64, .inl (fun _ => 0))), (q_11, .inl (cI, 1024, .inl (fun _ => 0))), (q_12, .inl (cI, 1024, .inl (fun _ => 0)))] H := hP
  have hD : va_D A [(h0, .inr (9, [.ref q_1, .ref q_2, .ref q_3, .ref q_4, .int 0, .ref q_5, .ref q_6, .int 0, .int 0, .int 0, .int 0, .ref q_7, .ref q_8, .int 0, .int 0, .int 0, .ref q_9, .ref q_10, .int 0, .long 0, .long 0, .ref q_11, .ref q_12, .int 0])), (q_1, .inl (cI, 110, .inl (upd (fun _ => 0) 109 4))), (q_2, .inl (cI, 220, .inl (fun _ => 0))), (q_3, .inl (cZ, 2, .inl (fun _ => 0))), (q_4, .inl (cI, 48, .inl (fun _ => 0))), (q_5, .inl (cI, 8, .inl (fun _ => 0))), (q_6, .inl (cI, 8, .inl (fun _ => 0))), (q_7, .inl (cI, 8, .inl (fun _ => 0))), (q_8, .inl (cI, 8, .inl (fun _ => 0))), (q_9, .inl (cI, 1024, .inl (fun _ => 0))), (q_10, .inl (cI, 64, .inl (fun _ => 0))), (q_11, .inl (cI, 1024, .inl (fun _ => 0))), (q_12, .inl (cI, 1024, .inl (fun _ => 0)))] := hD
  rw [← hQ]
  refine W.widen (k := 13) (n := 3636) (by omega) (by omega) ?_
  have hP9 := hP
  have hD9 := hD
  exact W.vret hx hb hr (fun t ht hW => ⟨⟨ad13 h0 q_1 q_2 q_3 q_4 q_5 q_6 q_7 q_8 q_9 q_10 q_11 q_12, rfl, rfl, by rw [ht]; exact hP9, hD9⟩, hS.F ht⟩) hS.2.2 dX7_init_111

