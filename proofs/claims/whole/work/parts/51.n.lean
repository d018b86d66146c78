set_option maxHeartbeats 4000000 in
set_option maxRecDepth 100000 in
theorem c_X7_wipe (l : Launch) (D : va_G) (cI cB cZ cP : ClassId) (sz : Nat) (a : Nat → Nat) (v : Nat → Int32) (su sl : Int64) (F : Nat → Nat → Int32) : Met l yX7_wipe wsX7_wipe ({ frames := 0, cells := 0, slots := 0, locals := 0 } : Room) (va_Pc [.ref (a 0)] (fun U => U.heap.size = sz ∧ va_P D vwCl (MW cI cZ a v su sl F) U.heap ∧ KW D cI cB cZ cP U ∧ va_D (fun _ => True) (MW cI cZ a v su sl F) ∧ EF (MW cI cZ a v su sl F) sz E0 U.heap)) (va_Qi (fun r (_ : Unit) => r = v 4) (fun (_ : Unit) (t : State) => va_P D vwCl (MW cI cZ a (upd v 4 0) su sl F) t.heap ∧ va_D (va_A (MW cI cZ a v su sl F) sz) (MW cI cZ a (upd v 4 0) su sl F)) (va_A (MW cI cZ a v su sl F) sz)) 0 0 (va_A (MW cI cZ a v su sl F) sz) := by
  refine Met.ofW (cc := cX7_wipe) (maxL := 2) (ret := (some .int)) (by decide) rfl ?_
  intro p e s m args below meth c s₁ B hml hv
  obtain ⟨rfl, hsz, hP, hW0, hD0, hE⟩ := hv
  have hx := B.exec
  have hb := B.bytes
  have hr := B.returns
  have hts := atoms_spec (ws := wsX7_wipe) B.pre
  have hown : s.vm.findClass RX7 = some m.cls := findClass_of_methodNamed B.named
  have hlocks := B.notSynchronized
  have hK := hW0.1
  subst hsz
  have hD := hD0.self (sz := s.heap.size)
  unfold EF at hE
  generalize hAe : va_A (MW cI cZ a v su sl F) s.heap.size = A at hD hE ⊢
  have hA : ∀ q : Nat, s.heap.size ≤ q → A q := fun q h => by rw [← hAe]; exact Or.inr h
  have hS : va_S A s.heap s.heap [] := va_S.rf
  have hl := lv_entry ([.ref (a 0)]) (n := 2) (Nat.le_of_ble_eq_true rfl)
  rw [lg_entry_eq]
  generalize (lg_sl ([.ref (a 0)]) ++ List.replicate (2 - (lg_sl ([.ref (a 0)])).length) Slot.unset).toArray = ls at hl ⊢
  have hl : lv_has ls 2 [(0, .ref (a 0))] := hl
  show W p l e ({ frames := 0, cells := 0, slots := 0, locals := 0 } : Room) s m ([.ref (a 0)] : List Value).toArray below meth c s.heap [] 0 0 _ (F0 m 0 ls [])
  refine u_genQ (fun Q hQ => ?_)
  refine lv_aload_n hx hb dX7_wipe_0 rfl (lv_at hl 0 rfl) ?_
  refine va_get (D := D) (ci := 9) (v := .int (v 4)) (C := RX7) (T := TX7) (N := 24) hx hb hts (by decide +kernel) hown hK hP 0 rfl rfl 4 (by decide) (hts (.fieldLink RX7 74 "LandDeedsModel" "signs" "I") (by decide +kernel)) (fun _ h9 => h9) rfl dX7_wipe_1 ?_
  refine lv_istore_n (lv' := [(1, .int (v 4)), (0, .ref (a 0))]) hx hb dX7_wipe_4 rfl hl (by decide) rfl (fun ls hl => ?_)
  refine lv_aload_n hx hb dX7_wipe_5 rfl (lv_at hl 1 rfl) ?_
  refine lv_iconst (v := 0) hx hb dX7_wipe_6 (by decide) ?_
  refine va_put (D := D) (ci := 9) (v := .int 0) (ty := .int) (C := RX7) (T := TX7) (N := 24) hx hb hts (by decide +kernel) tyX7 tyX7_ok nmX7 hown hK hP hD hS 0 rfl rfl 4 (by decide) (hts (.fieldLink RX7 74 "LandDeedsModel" "signs" "I") (by decide +kernel)) (fun _ h9 => h9) rfl (by decide +kernel) rfl rfl (Nat.le_of_ble_eq_true rfl) dX7_wipe_7 (fun H locs hP hD hS => ?_)
  have hP : va_P D vwCl (MW cI cZ a (upd v 4 0) su sl F) H := hP
  have hD : va_D A (MW cI cZ a (upd v 4 0) su sl F) := hD
  refine lv_iload_n hx hb dX7_wipe_10 rfl (lv_at hl 0 rfl) ?_
  rw [← hQ]
  have hP9 := hP
  have hD9 := hD
  exact W.iret (v := v 4) hx hb hr (fun t ht hW => ⟨⟨_, (), rfl, rfl, by rw [ht]; exact hP9, hD9⟩, hS.F ht⟩) hS.2.2 dX7_wipe_11

set_option maxHeartbeats 4000000 in
set_option maxRecDepth 100000 in
theorem c_X7_say (l : Launch) (D : va_G) (cI cB cZ cP : ClassId) (sz : Nat) (a : Nat → Nat) (v : Nat → Int32) (su sl : Int64) (F : Nat → Nat → Int32) (n0 : Nat) (x : Int32) (hn0 : n0 ≤ 48) : Met l yX7_say wsX7_say ({ frames := 1, cells := 0, slots := 0, locals := 22 } : Room) (va_Pc [.ref (a 0), .int x] (fun U => U.heap.size = sz ∧ va_P D vwCl (MW cI cZ a (upd v 4 (nI n0)) su sl F) U.heap ∧ KW D cI cB cZ cP U ∧ va_D (fun _ => True) (MW cI cZ a (upd v 4 (nI n0)) su sl F) ∧ EF (MW cI cZ a (upd v 4 (nI n0)) su sl F) sz E0 U.heap)) (va_Qi (fun r (u : Nat × (Nat → Int32)) => match u with | (n1, f1) => (¬ (33 ≤ x.toInt ∧ x.toInt ≤ 126) ∧ r = -2 ∧ n1 = n0 ∧ f1 = F 4) ∨ ((33 ≤ x.toInt ∧ x.toInt ≤ 126) ∧ ¬ n0 < 48 ∧ r = -4 ∧ n1 = n0 ∧ f1 = F 4) ∨ ((33 ≤ x.toInt ∧ x.toInt ≤ 126) ∧ n0 < 48 ∧ r = nI (n0 + 1) ∧ n1 = n0 + 1 ∧ f1 = upd (F 4) n0 x)) (fun (u : Nat × (Nat → Int32)) (t : State) => match u with | (n1, f1) => va_P D vwCl (MW cI cZ a (upd v 4 (nI n1)) su sl (updF F 4 f1)) t.heap ∧ va_D (va_A (MW cI cZ a (upd v 4 (nI n0)) su sl F) sz) (MW cI cZ a (upd v 4 (nI n1)) su sl (updF F 4 f1))) (va_A (MW cI cZ a (upd v 4 (nI n0)) su sl F) sz)) 0 0 (va_A (MW cI cZ a (upd v 4 (nI n0)) su sl F) sz) := by
  refine Met.ofW (cc := cX7_say) (maxL := 2) (ret := (some .int)) (by decide) rfl ?_
  intro p e s m args below meth c s₁ B hml hv
  obtain ⟨rfl, hsz, hP, hW0, hD0, hE⟩ := hv
  have hx := B.exec
  have hb := B.bytes
  have hr := B.returns
  have hts := atoms_spec (ws := wsX7_say) B.pre
  have hown : s.vm.findClass RX7 = some m.cls := findClass_of_methodNamed B.named
  have hlocks := B.notSynchronized
  have hK := hW0.1
  subst hsz
  have hD := hD0.self (sz := s.heap.size)
  unfold EF at hE
  generalize hAe : va_A (MW cI cZ a (upd v 4 (nI n0)) su sl F) s.heap.size = A at hD hE ⊢
  have hA : ∀ q : Nat, s.heap.size ≤ q → A q := fun q h => by rw [← hAe]; exact Or.inr h
  have hS : va_S A s.heap s.heap [] := va_S.rf
  have hl := lv_entry ([.ref (a 0), .int x]) (n := 2) (Nat.le_of_ble_eq_true rfl)
  rw [lg_entry_eq]
  generalize (lg_sl ([.ref (a 0), .int x]) ++ List.replicate (2 - (lg_sl ([.ref (a 0), .int x])).length) Slot.unset).toArray = ls at hl ⊢
  have hl : lv_has ls 2 [(0, .ref (a 0)), (1, .int x)] := hl
  show W p l e ({ frames := 1, cells := 0, slots := 0, locals := 22 } : Room) s m ([.ref (a 0), .int x] : List Value).toArray below meth c s.heap [] 0 0 _ (F0 m 0 ls [])
  refine u_genQ (fun Q hQ => ?_)
  refine lv_iload_n hx hb dX7_say_0 rfl (lv_at hl 1 rfl) ?_
  refine lv_bipush (v := 33) hx hb dX7_say_1 (by decide) ?_
  refine lv_bipush (v := 126) hx hb dX7_say_3 (by decide) ?_
  have hPc := hP.sub (ws' := []) [] rfl
  refine u_callSi (W.runS (As := [.int x, .int 33, .int 126]) (rest := []) ⟨hx, hb, hml, hown, hts⟩ (c_X7_in l D cI cB cZ cP x 33 126 ) (cwS 3 hts gX7_say_X7_in rfl rfl rfl (by decide +kernel) ⟨Nat.le_of_ble_eq_true rfl, Nat.le_of_ble_eq_true rfl⟩) (pS hPc hW0 trivial) rfl rfl hl.1 rfl (lv_room (Nat.le_of_ble_eq_true rfl)) dX7_say_5 ⟨Nat.le_of_ble_eq_true rfl, Nat.le_of_ble_eq_true rfl⟩) ?_
  refine lv_if_ne (tgt := 14) hx hb dX7_say_8 (by decide) (fun c_1 => ?_) (fun c_1 => ?_)
  · skip
    have nc_1 := zb_ne0.mp c_1
    refine lv_aload_n hx hb dX7_say_14 rfl (lv_at hl 0 rfl) ?_
    refine va_get (D := D) (ci := 9) (v := .int (nI n0)) (C := RX7) (T := TX7) (N := 24) hx hb hts (by decide +kernel) hown hK hP 0 rfl rfl 4 (by decide) (hts (.fieldLink RX7 74 "LandDeedsModel" "signs" "I") (by decide +kernel)) (fun _ h9 => h9) rfl dX7_say_15 ?_
    refine lv_bipush (v := 48) hx hb dX7_say_18 (by decide) ?_
    refine lv_icmp_ne (tgt := 26) hx hb dX7_say_20 (by decide) (fun c_2 => ?_) (fun c_2 => ?_)
    · skip
      have nc_2 : ¬ (n0 = 48) := fun h => c_2 ((nI_eq (a := n0) (b := 48) (by omega) (by omega)).mpr h)
      refine lv_aload_n hx hb dX7_say_26 rfl (lv_at hl 0 rfl) ?_
      refine va_get (D := D) (ci := 9) (v := .ref (a 4)) (C := RX7) (T := TX7) (N := 24) hx hb hts (by decide +kernel) hown hK hP 0 rfl rfl 3 (by decide) (hts (.fieldLink RX7 20 "LandDeedsModel" "text" "[I") (by decide +kernel)) (fun _ h9 => h9) rfl dX7_say_27 ?_
      refine lv_aload_n hx hb dX7_say_30 rfl (lv_at hl 0 rfl) ?_
      refine va_get (D := D) (ci := 9) (v := .int (nI n0)) (C := RX7) (T := TX7) (N := 24) hx hb hts (by decide +kernel) hown hK hP 0 rfl rfl 4 (by decide) (hts (.fieldLink RX7 74 "LandDeedsModel" "signs" "I") (by decide +kernel)) (fun _ h9 => h9) rfl dX7_say_31 ?_
      refine lv_iload_n hx hb dX7_say_34 rfl (lv_at hl 1 rfl) ?_
      refine u_iast hx hb hK hP hD hS 4 0 rfl rfl rfl ⟨by omega, by omega⟩ dX7_say_35 (fun H locs hP hD hS => ?_)
      have hP : va_P D vwCl (MW cI cZ a (upd v 4 (nI n0)) su sl (updF F 4 (upd (F 4) n0 x))) H := hP
      have hD : va_D A (MW cI cZ a (upd v 4 (nI n0)) su sl (updF F 4 (upd (F 4) n0 x))) := hD
      refine lv_aload_n hx hb dX7_say_36 rfl (lv_at hl 0 rfl) ?_
      refine lv_dup hx hb dX7_say_37 rfl ?_
      refine va_get (D := D) (ci := 9) (v := .int (nI n0)) (C := RX7) (T := TX7) (N := 24) hx hb hts (by decide +kernel) hown hK hP 0 rfl rfl 4 (by decide) (hts (.fieldLink RX7 74 "LandDeedsModel" "signs" "I") (by decide +kernel)) (fun _ h9 => h9) rfl dX7_say_38 ?_
      refine lv_iconst (v := 1) hx hb dX7_say_41 (by decide) ?_
      refine lv_iadd hx hb dX7_say_42 ?_
      refine u_eqi (show (nI n0) + 1 = nI (n0 + 1) from nI_1 n0) ?_
      refine va_put (D := D) (ci := 9) (v := .int (nI (n0 + 1))) (ty := .int) (C := RX7) (T := TX7) (N := 24) hx hb hts (by decide +kernel) tyX7 tyX7_ok nmX7 hown hK hP hD hS 0 rfl rfl 4 (by decide) (hts (.fieldLink RX7 74 "LandDeedsModel" "signs" "I") (by decide +kernel)) (fun _ h9 => h9) rfl (by decide +kernel) rfl rfl (Nat.le_of_ble_eq_true rfl) dX7_say_43 (fun H locs hP hD hS => ?_)
      have hP : va_P D vwCl (MW cI cZ a (upd v 4 (nI (n0 + 1))) su sl (updF F 4 (upd (F 4) n0 x))) H := hP
      have hD : va_D A (MW cI cZ a (upd v 4 (nI (n0 + 1))) su sl (updF F 4 (upd (F 4) n0 x))) := hD
      refine lv_aload_n hx hb dX7_say_46 rfl (lv_at hl 0 rfl) ?_
      refine va_get (D := D) (ci := 9) (v := .int (nI (n0 + 1))) (C := RX7) (T := TX7) (N := 24) hx hb hts (by decide +kernel) hown hK hP 0 rfl rfl 4 (by decide) (hts (.fieldLink RX7 74 "LandDeedsModel" "signs" "I") (by decide +kernel)) (fun _ h9 => h9) rfl dX7_say_47 ?_
      rw [← hQ]
      have hP9 := hP
      have hD9 := hD
      exact W.iret (v := nI (n0 + 1)) hx hb hr (fun t ht hW => ⟨⟨_, (n0 + 1, upd (F 4) n0 x), rfl, Or.inr (Or.inr ⟨by simp only [li_33, li_126] at nc_1; exact nc_1, by omega, rfl, rfl, rfl⟩), by rw [ht]; exact hP9, hD9⟩, hS.F ht⟩) hS.2.2 dX7_say_50
    · skip
      have nc_2 : n0 = 48 := (nI_eq (a := n0) (b := 48) (by omega) (by omega)).mp c_2
      refine lv_bipush (v := (-4)) hx hb dX7_say_23 (by decide) ?_
      rw [← hQ]
      have hP9 := hP
      have hD9 := hD
      exact W.iret (v := (-4)) hx hb hr (fun t ht hW => ⟨⟨_, (n0, F 4), rfl, Or.inr (Or.inl ⟨by simp only [li_33, li_126] at nc_1; exact nc_1, by omega, rfl, rfl, rfl⟩), by rw [ht]; exact hP9, hD9⟩, hS.F ht⟩) hS.2.2 dX7_say_25
  · skip
    have nc_1 := zb_eq0.mp c_1
    refine lv_bipush (v := (-2)) hx hb dX7_say_11 (by decide) ?_
    rw [← hQ]
    have hP9 := hP
    have hD9 := hD
    exact W.iret (v := (-2)) hx hb hr (fun t ht hW => ⟨⟨_, (n0, F 4), rfl, Or.inl ⟨by simp only [li_33, li_126] at nc_1; exact nc_1, rfl, rfl, rfl⟩, by rw [ht]; exact hP9, hD9⟩, hS.F ht⟩) hS.2.2 dX7_say_13

set_option maxHeartbeats 4000000 in
set_option maxRecDepth 100000 in
theorem c_X7_look (l : Launch) (D : va_G) (cI cB cZ cP : ClassId) (sz : Nat) (a : Nat → Nat) (v : Nat → Int32) (su sl : Int64) (F : Nat → Nat → Int32) (pp nn : Nat) (hpp : pp < 6) (hn8 : nn ≤ 8) (e6 : F 1 (6 + pp) = nI nn) : Met l yX7_look wsX7_look ({ frames := 0, cells := 0, slots := 0, locals := 0 } : Room) (va_Pc [.ref (a 0), .int (nI pp)] (fun U => U.heap.size = sz ∧ va_P D vwCl (MW cI cZ a v su sl F) U.heap ∧ KW D cI cB cZ cP U ∧ va_D (fun _ => True) (MW cI cZ a v su sl F) ∧ EF (MW cI cZ a v su sl F) sz E0 U.heap)) (va_Qv (fun (u : (Nat → Int32) × (Nat → Int32)) => match u with | (X1, Y1) => ∀ j, j < nn → X1 j = pX (F 1) pp j ∧ Y1 j = pY (F 1) pp j) (fun (u : (Nat → Int32) × (Nat → Int32)) (t : State) => match u with | (X1, Y1) => va_P D vwCl (MW cI cZ a (upd v 7 (nI nn)) su sl (updF (updF F 7 X1) 8 Y1)) t.heap ∧ va_D (va_A (MW cI cZ a v su sl F) sz) (MW cI cZ a (upd v 7 (nI nn)) su sl (updF (updF F 7 X1) 8 Y1))) (va_A (MW cI cZ a v su sl F) sz)) 0 0 (va_A (MW cI cZ a v su sl F) sz) := by
  refine Met.ofW (cc := cX7_look) (maxL := 3) (ret := none) (by decide) rfl ?_
  intro p e s m args below meth c s₁ B hml hv
  obtain ⟨rfl, hsz, hP, hW0, hD0, hE⟩ := hv
  have hx := B.exec
  have hb := B.bytes
  have hr := B.returns
  have hts := atoms_spec (ws := wsX7_look) B.pre
  have hown : s.vm.findClass RX7 = some m.cls := findClass_of_methodNamed B.named
  have hlocks := B.notSynchronized
  have hK := hW0.1
  subst hsz
  have hD := hD0.self (sz := s.heap.size)
  unfold EF at hE
  generalize hAe : va_A (MW cI cZ a v su sl F) s.heap.size = A at hD hE ⊢
  have hA : ∀ q : Nat, s.heap.size ≤ q → A q := fun q h => by rw [← hAe]; exact Or.inr h
  have hS : va_S A s.heap s.heap [] := va_S.rf
  have hl := lv_entry ([.ref (a 0), .int (nI pp)]) (n := 3) (Nat.le_of_ble_eq_true rfl)
  rw [lg_entry_eq]
  generalize (lg_sl ([.ref (a 0), .int (nI pp)]) ++ List.replicate (3 - (lg_sl ([.ref (a 0), .int (nI pp)])).length) Slot.unset).toArray = ls at hl ⊢
  have hl : lv_has ls 3 [(0, .ref (a 0)), (1, .int (nI pp))] := hl
  show W p l e ({ frames := 0, cells := 0, slots := 0, locals := 0 } : Room) s m ([.ref (a 0), .int (nI pp)] : List Value).toArray below meth c s.heap [] 0 0 _ (F0 m 0 ls [])
  refine u_genQ (fun Q hQ => ?_)
  refine lv_aload_n hx hb dX7_look_0 rfl (lv_at hl 0 rfl) ?_
  refine lv_aload_n hx hb dX7_look_1 rfl (lv_at hl 0 rfl) ?_
  refine va_get (D := D) (ci := 9) (v := .ref (a 1)) (C := RX7) (T := TX7) (N := 24) hx hb hts (by decide +kernel) hown hK hP 0 rfl rfl 0 (by decide) (hts (.fieldLink RX7 7 "LandDeedsModel" "state" "[I") (by decide +kernel)) (fun _ h9 => h9) rfl dX7_look_2 ?_
  refine lv_bipush (v := 6) hx hb dX7_look_5 (by decide) ?_
  refine lv_iload_n hx hb dX7_look_7 rfl (lv_at hl 1 rfl) ?_
  refine lv_iadd hx hb dX7_look_8 ?_
  refine u_eqi (show 6 + (nI pp) = nI (6 + pp) from nI_add 6 pp) ?_
  refine u_iald hx hb hK hP 1 0 rfl rfl rfl ⟨by omega, by omega⟩ dX7_look_9 ?_
  refine u_eqi (show (F 1) (6 + pp) = nI nn from e6) ?_
  refine va_put (D := D) (ci := 9) (v := .int (nI nn)) (ty := .int) (C := RX7) (T := TX7) (N := 24) hx hb hts (by decide +kernel) tyX7 tyX7_ok nmX7 hown hK hP hD hS 0 rfl rfl 7 (by decide) (hts (.fieldLink RX7 58 "LandDeedsModel" "calls" "I") (by decide +kernel)) (fun _ h9 => h9) rfl (by decide +kernel) rfl rfl (Nat.le_of_ble_eq_true rfl) dX7_look_10 (fun H locs hP hD hS => ?_)
  have hP : va_P D vwCl (MW cI cZ a (upd v 7 (nI nn)) su sl F) H := hP
  have hD : va_D A (MW cI cZ a (upd v 7 (nI nn)) su sl F) := hD
  refine lv_iconst (v := 0) hx hb dX7_look_13 (by decide) ?_
  refine lv_istore_n (lv' := [(2, .int 0), (0, .ref (a 0)), (1, .int (nI pp))]) hx hb dX7_look_14 rfl hl (by decide) rfl (fun ls hl => ?_)
  have LOOP_15 : ∀ (fu : Nat) (k : Nat) (X1 : Nat → Int32) (Y1 : Nat → Int32) (hk : k ≤ nn) (hXY : ∀ j, j < k → X1 j = pX (F 1) pp j ∧ Y1 j = pY (F 1) pp j) (hn : nn - k < fu) (H : Heap) (locs : List Loc) (hP : va_P D vwCl (MW cI cZ a (upd v 7 (nI nn)) su sl (updF (updF F 7 X1) 8 Y1)) H) (hD : va_D A (MW cI cZ a (upd v 7 (nI nn)) su sl (updF (updF F 7 X1) 8 Y1))) (hS : va_S A s.heap H locs) (ls : Array Slot) (hl : lv_has ls 3 [(0, .ref (a 0)), (1, .int (nI pp)), (2, .int (nI k))]), W p l e ({ frames := 0, cells := 0, slots := 0, locals := 0 } : Room) s m ([.ref (a 0), .int (nI pp)] : List Value).toArray below meth c H locs 0 0 Q (F0 m 15 ls []) := by
    intro fu
    induction fu with
    | zero => intro k X1 Y1 hk hXY hn H locs hP hD hS ls hl; exact absurd hn (Nat.not_lt_zero _)
    | succ fu ih_15 =>
      intro k X1 Y1 hk hXY hn H locs hP hD hS ls hl
      refine lv_iload_n hx hb dX7_look_15 rfl (lv_at hl 2 rfl) ?_
      refine lv_aload_n hx hb dX7_look_16 rfl (lv_at hl 0 rfl) ?_
      refine va_get (D := D) (ci := 9) (v := .int (nI nn)) (C := RX7) (T := TX7) (N := 24) hx hb hts (by decide +kernel) hown hK hP 0 rfl rfl 7 (by decide) (hts (.fieldLink RX7 58 "LandDeedsModel" "calls" "I") (by decide +kernel)) (fun _ h9 => h9) rfl dX7_look_17 ?_
      refine lv_icmp_ge (tgt := 69) hx hb dX7_look_20 (by decide) (fun c_1 => ?_) (fun c_1 => ?_)
      · skip
        have nc_1 : nn ≤ k := (nI_leI (a := nn) (b := k) (by omega) (by omega)).mp c_1
        rw [← hQ]
        have hP9 := hP
        have hD9 := hD
        exact W.vret hx hb hr (fun t ht hW => ⟨⟨(X1, Y1), rfl, fun j hj => hXY j (by omega), by rw [ht]; exact hP9, hD9⟩, hS.F ht⟩) hS.2.2 dX7_look_69
      · skip
        have nc_1 : ¬ (nn ≤ k) := fun h => c_1 ((nI_leI (a := nn) (b := k) (by omega) (by omega)).mpr h)
        refine lv_aload_n hx hb dX7_look_23 rfl (lv_at hl 0 rfl) ?_
        refine va_get (D := D) (ci := 9) (v := .ref (a 7)) (C := RX7) (T := TX7) (N := 24) hx hb hts (by decide +kernel) hown hK hP 0 rfl rfl 11 (by decide) (hts (.fieldLink RX7 29 "LandDeedsModel" "cx" "[I") (by decide +kernel)) (fun _ h9 => h9) rfl dX7_look_24 ?_
        refine lv_iload_n hx hb dX7_look_27 rfl (lv_at hl 2 rfl) ?_
        refine lv_aload_n hx hb dX7_look_28 rfl (lv_at hl 0 rfl) ?_
        refine va_get (D := D) (ci := 9) (v := .ref (a 1)) (C := RX7) (T := TX7) (N := 24) hx hb hts (by decide +kernel) hown hK hP 0 rfl rfl 0 (by decide) (hts (.fieldLink RX7 7 "LandDeedsModel" "state" "[I") (by decide +kernel)) (fun _ h9 => h9) rfl dX7_look_29 ?_
        refine lv_bipush (v := 12) hx hb dX7_look_32 (by decide) ?_
        refine lv_bipush (v := 8) hx hb dX7_look_34 (by decide) ?_
        refine lv_iload_n hx hb dX7_look_36 rfl (lv_at hl 1 rfl) ?_
        refine lv_imul hx hb dX7_look_37 ?_
        refine u_eqi (show 8 * (nI pp) = nI (8 * pp) from nI_m 8 pp) ?_
        refine lv_iadd hx hb dX7_look_38 ?_
        refine u_eqi (show 12 + (nI (8 * pp)) = nI (12 + 8 * pp) from nI_add 12 _) ?_
        refine lv_iload_n hx hb dX7_look_39 rfl (lv_at hl 2 rfl) ?_
        refine lv_iadd hx hb dX7_look_40 ?_
        refine u_eqi (show (nI (12 + 8 * pp)) + (nI k) = nI (12 + 8 * pp + k) from nI_add _ _) ?_
        refine u_iald hx hb hK hP 1 0 rfl rfl rfl ⟨by omega, by omega⟩ dX7_look_41 ?_
        refine u_iast hx hb hK hP hD hS 7 0 rfl rfl rfl ⟨by omega, by omega⟩ dX7_look_42 (fun H locs hP hD hS => ?_)
        have hP : va_P D vwCl (MW cI cZ a (upd v 7 (nI nn)) su sl (updF (updF F 7 (upd X1 k ((F 1) (12 + 8 * pp + k)))) 8 Y1)) H := hP
        have hD : va_D A (MW cI cZ a (upd v 7 (nI nn)) su sl (updF (updF F 7 (upd X1 k ((F 1) (12 + 8 * pp + k)))) 8 Y1)) := hD
        refine lv_aload_n hx hb dX7_look_43 rfl (lv_at hl 0 rfl) ?_
        refine va_get (D := D) (ci := 9) (v := .ref (a 8)) (C := RX7) (T := TX7) (N := 24) hx hb hts (by decide +kernel) hown hK hP 0 rfl rfl 12 (by decide) (hts (.fieldLink RX7 32 "LandDeedsModel" "cy" "[I") (by decide +kernel)) (fun _ h9 => h9) rfl dX7_look_44 ?_
        refine lv_iload_n hx hb dX7_look_47 rfl (lv_at hl 2 rfl) ?_
        refine lv_aload_n hx hb dX7_look_48 rfl (lv_at hl 0 rfl) ?_
        refine va_get (D := D) (ci := 9) (v := .ref (a 1)) (C := RX7) (T := TX7) (N := 24) hx hb hts (by decide +kernel) hown hK hP 0 rfl rfl 0 (by decide) (hts (.fieldLink RX7 7 "LandDeedsModel" "state" "[I") (by decide +kernel)) (fun _ h9 => h9) rfl dX7_look_49 ?_
        refine lv_bipush (v := 60) hx hb dX7_look_52 (by decide) ?_
        refine lv_bipush (v := 8) hx hb dX7_look_54 (by decide) ?_
        refine lv_iload_n hx hb dX7_look_56 rfl (lv_at hl 1 rfl) ?_
        refine lv_imul hx hb dX7_look_57 ?_
        refine u_eqi (show 8 * (nI pp) = nI (8 * pp) from nI_m 8 pp) ?_
        refine lv_iadd hx hb dX7_look_58 ?_
        refine u_eqi (show 60 + (nI (8 * pp)) = nI (60 + 8 * pp) from nI_add 60 _) ?_
        refine lv_iload_n hx hb dX7_look_59 rfl (lv_at hl 2 rfl) ?_
        refine lv_iadd hx hb dX7_look_60 ?_
        refine u_eqi (show (nI (60 + 8 * pp)) + (nI k) = nI (60 + 8 * pp + k) from nI_add _ _) ?_
        refine u_iald hx hb hK hP 1 0 rfl rfl rfl ⟨by omega, by omega⟩ dX7_look_61 ?_
        refine u_iast hx hb hK hP hD hS 8 0 rfl rfl rfl ⟨by omega, by omega⟩ dX7_look_62 (fun H locs hP hD hS => ?_)
        have hP : va_P D vwCl (MW cI cZ a (upd v 7 (nI nn)) su sl (updF (updF F 7 (upd X1 k ((F 1) (12 + 8 * pp + k)))) 8 (upd Y1 k ((F 1) (60 + 8 * pp + k))))) H := hP
        have hD : va_D A (MW cI cZ a (upd v 7 (nI nn)) su sl (updF (updF F 7 (upd X1 k ((F 1) (12 + 8 * pp + k)))) 8 (upd Y1 k ((F 1) (60 + 8 * pp + k))))) := hD
        refine lv_iinc (v := nI (k + 1)) (lv' := [(2, .int (nI (k + 1))), (0, .ref (a 0)), (1, .int (nI pp))]) hx hb dX7_look_63 hl (k := 2) rfl (nI_1 _) (by decide) rfl (fun ls hl => ?_)
        refine lv_goto (tgt := 15) hx hb dX7_look_66 (by decide) ?_
        exact ih_15 (k + 1) (upd X1 k ((F 1) (12 + 8 * pp + k))) (upd Y1 k ((F 1) (60 + 8 * pp + k))) (by omega) (fun j hj => ⟨upd_on (fun j h => (hXY j h).1) rfl j hj, upd_on (fun j h => (hXY j h).2) rfl j hj⟩) (by omega) _ _ hP hD hS ls (lv_sub hl [1, 2, 0] rfl)
  exact LOOP_15 (nn - 0 + 1) 0 (F 7) (F 8) (Nat.zero_le _) (fun j h => absurd h (Nat.not_lt_zero _)) (Nat.lt_succ_self _) _ _ hP hD hS ls (lv_sub hl [1, 2, 0] rfl)

set_option maxHeartbeats 4000000 in
set_option maxRecDepth 100000 in
theorem c_X7_postsOf (l : Launch) (D : va_G) (cI cB cZ cP : ClassId) (a : Nat → Nat) (v : Nat → Int32) (su sl : Int64) (F : Nat → Nat → Int32) (nn : Nat) (X Y : Nat → Int32) (hw_ : Nat) (hn8 : nn ≤ 8) (hhw : hw_ ≤ 2) : Met l yX7_postsOf wsX7_postsOf ({ frames := 5, cells := 0, slots := 0, locals := 118 } : Room) (va_Pc [.ref (a 0), .int (nI hw_)] (fun U => va_P D vwCl (MW cI cZ a (upd v 7 (nI nn)) su sl (updF (updF F 7 X) 8 Y)) U.heap ∧ KW D cI cB cZ cP U ∧ E0 U.heap)) (vp_Si (fun r => r = nI (cnt (fun z => lies nn X Y (qX z) (qY z) = hw_) 1024))) 0 0 (fun _ => False) := by
  refine Met.ofW (cc := cX7_postsOf) (maxL := 4) (ret := (some .int)) (by decide) rfl ?_
  intro p e s m args below meth c s₁ B hml hv
  obtain ⟨rfl, hP, hW0, hE⟩ := hv
  have hx := B.exec
  have hb := B.bytes
  have hr := B.returns
  have hts := atoms_spec (ws := wsX7_postsOf) B.pre
  have hown : s.vm.findClass RX7 = some m.cls := findClass_of_methodNamed B.named
  have hlocks := B.notSynchronized
  have hK := hW0.1
  have hl := lv_entry ([.ref (a 0), .int (nI hw_)]) (n := 4) (Nat.le_of_ble_eq_true rfl)
  rw [lg_entry_eq]
  generalize (lg_sl ([.ref (a 0), .int (nI hw_)]) ++ List.replicate (4 - (lg_sl ([.ref (a 0), .int (nI hw_)])).length) Slot.unset).toArray = ls at hl ⊢
  have hl : lv_has ls 4 [(0, .ref (a 0)), (1, .int (nI hw_))] := hl
  show W p l e ({ frames := 5, cells := 0, slots := 0, locals := 118 } : Room) s m ([.ref (a 0), .int (nI hw_)] : List Value).toArray below meth c s.heap [] 0 0 _ (F0 m 0 ls [])
  refine u_genQ (fun Q hQ => ?_)
  refine lv_iconst (v := 0) hx hb dX7_postsOf_0 (by decide) ?_
  refine lv_istore_n (lv' := [(2, .int 0), (0, .ref (a 0)), (1, .int (nI hw_))]) hx hb dX7_postsOf_1 rfl hl (by decide) rfl (fun ls hl => ?_)
  refine lv_iconst (v := 0) hx hb dX7_postsOf_2 (by decide) ?_
  refine lv_istore_n (lv' := [(3, .int 0), (2, .int 0), (0, .ref (a 0)), (1, .int (nI hw_))]) hx hb dX7_postsOf_3 rfl hl (by decide) rfl (fun ls hl => ?_)
  have LOOP_4 : ∀ (fu : Nat) (z : Nat) (hz : z ≤ 1024) (hn : 1024 - z < fu) (ls : Array Slot) (hl : lv_has ls 4 [(0, .ref (a 0)), (1, .int (nI hw_)), (2, .int (nI (cnt (fun z => lies nn X Y (qX z) (qY z) = hw_) z))), (3, .int (nI z))]), W p l e ({ frames := 5, cells := 0, slots := 0, locals := 118 } : Room) s m ([.ref (a 0), .int (nI hw_)] : List Value).toArray below meth c s.heap [] 0 0 Q (F0 m 4 ls []) := by
    intro fu
    induction fu with
    | zero => intro z hz hn ls hl; exact absurd hn (Nat.not_lt_zero _)
    | succ fu ih_4 =>
      intro z hz hn ls hl
      refine lv_iload_n hx hb dX7_postsOf_4 rfl (lv_at hl 3 rfl) ?_
      refine lv_sipush (v := 1024) hx hb dX7_postsOf_5 (by decide) ?_
      refine lv_icmp_ge (tgt := 41) hx hb dX7_postsOf_8 (by decide) (fun c_1 => ?_) (fun c_1 => ?_)
      · skip
        have nc_1 : 1024 ≤ z := (nI_leI (a := 1024) (b := z) (by omega) (by omega)).mp c_1
        refine lv_iload_n hx hb dX7_postsOf_41 rfl (lv_at hl 2 rfl) ?_
        rw [← hQ]
        exact W.iret (v := nI (cnt (fun z => lies nn X Y (qX z) (qY z) = hw_) z)) hx hb hr (fun t ht hW => ⟨_, rfl, (by rw [show z = 1024 by omega]), ht⟩) (fun q h => absurd h List.not_mem_nil) dX7_postsOf_42
      · skip
        have nc_1 : ¬ (1024 ≤ z) := fun h => c_1 ((nI_leI (a := 1024) (b := z) (by omega) (by omega)).mpr h)
        refine lv_iload_n hx hb dX7_postsOf_11 rfl (lv_at hl 2 rfl) ?_
        refine lv_aload_n hx hb dX7_postsOf_12 rfl (lv_at hl 0 rfl) ?_
        refine lv_iload_n hx hb dX7_postsOf_13 rfl (lv_at hl 3 rfl) ?_
        refine lv_bipush (v := 32) hx hb dX7_postsOf_14 (by decide) ?_
        refine lv_irem hx hb dX7_postsOf_16 (by decide) ?_
        refine u_eqi (show (nI z) - (nI z) / 32 * 32 = nI (z % 32) from (div32 (by omega)).2) ?_
        refine lv_iload_n hx hb dX7_postsOf_17 rfl (lv_at hl 3 rfl) ?_
        refine lv_bipush (v := 32) hx hb dX7_postsOf_18 (by decide) ?_
        refine lv_idiv hx hb dX7_postsOf_20 (by decide) ?_
        refine u_eqi (show (nI z) / 32 = nI (z / 32) from (div32 (by omega)).1) ?_
        have hPc := hP
        refine u_callSi (W.runV (As := [.int (nI (z % 32)), .int (nI (z / 32))]) (rest := [.int (nI (cnt (fun z => lies nn X Y (qX z) (qY z) = hw_) z))]) ⟨hx, hb, hml, hown, hts⟩ (c_X7_liesNow l D cI cB cZ cP a v su sl F nn X Y (nI (z % 32)) (nI (z / 32)) (by first | assumption | omega)) (cwV 2 hts gX7_postsOf_X7_liesNow rfl rfl rfl (by decide +kernel) ⟨Nat.le_of_ble_eq_true rfl, Nat.le_of_ble_eq_true rfl⟩) (pV (q0 := 0) hPc hW0 trivial rfl rfl) rfl rfl hl.1 rfl (lv_room (Nat.le_of_ble_eq_true rfl)) dX7_postsOf_21 ⟨Nat.le_of_ble_eq_true rfl, Nat.le_of_ble_eq_true rfl⟩) ?_
        have hle9 := lies_le nn X Y (nI (z % 32)) (nI (z / 32))
        refine lv_iload_n hx hb dX7_postsOf_24 rfl (lv_at hl 1 rfl) ?_
        refine lv_icmp_ne (tgt := 32) hx hb dX7_postsOf_25 (by decide) (fun c_2 => ?_) (fun c_2 => ?_)
        · skip
          have nc_2 : ¬ (lies nn X Y (nI (z % 32)) (nI (z / 32)) = hw_) := fun h => c_2 ((nI_eq (a := (lies nn X Y (nI (z % 32)) (nI (z / 32)))) (b := hw_) (by omega) (by omega)).mpr h)
          refine lv_iconst (v := 0) hx hb dX7_postsOf_32 (by decide) ?_
          refine lv_iadd hx hb dX7_postsOf_33 ?_
          refine u_eqi (show (nI (cnt (fun z => lies nn X Y (qX z) (qY z) = hw_) z)) + 0 = nI (cnt (fun z => lies nn X Y (qX z) (qY z) = hw_) z) from Int32.add_zero _) ?_
          refine lv_istore_n (lv' := [(2, .int (nI (cnt (fun z => lies nn X Y (qX z) (qY z) = hw_) z))), (0, .ref (a 0)), (1, .int (nI hw_)), (3, .int (nI z))]) hx hb dX7_postsOf_34 rfl hl (by decide) rfl (fun ls hl => ?_)
          refine lv_iinc (v := nI (z + 1)) (lv' := [(3, .int (nI (z + 1))), (2, .int (nI (cnt (fun z => lies nn X Y (qX z) (qY z) = hw_) z))), (0, .ref (a 0)), (1, .int (nI hw_))]) hx hb dX7_postsOf_35 hl (k := 3) rfl (nI_1 _) (by decide) rfl (fun ls hl => ?_)
          refine lv_goto (tgt := 4) hx hb dX7_postsOf_38 (by decide) ?_
          exact ih_4 (z + 1) (by omega) (by omega) ls (by rw [cnt_f (P := fun z => lies nn X Y (qX z) (qY z) = hw_) nc_2]; exact (lv_sub hl [2, 3, 1, 0] rfl))
        · skip
          have nc_2 : lies nn X Y (nI (z % 32)) (nI (z / 32)) = hw_ := (nI_eq (a := (lies nn X Y (nI (z % 32)) (nI (z / 32)))) (b := hw_) (by omega) (by omega)).mp c_2
          refine lv_iconst (v := 1) hx hb dX7_postsOf_28 (by decide) ?_
          refine lv_goto (tgt := 33) hx hb dX7_postsOf_29 (by decide) ?_
          refine lv_iadd hx hb dX7_postsOf_33 ?_
          refine u_eqi (show (nI (cnt (fun z => lies nn X Y (qX z) (qY z) = hw_) z)) + 1 = nI (cnt (fun z => lies nn X Y (qX z) (qY z) = hw_) z + 1) from nI_1 _) ?_
          refine lv_istore_n (lv' := [(2, .int (nI (cnt (fun z => lies nn X Y (qX z) (qY z) = hw_) z + 1))), (0, .ref (a 0)), (1, .int (nI hw_)), (3, .int (nI z))]) hx hb dX7_postsOf_34 rfl hl (by decide) rfl (fun ls hl => ?_)
          refine lv_iinc (v := nI (z + 1)) (lv' := [(3, .int (nI (z + 1))), (2, .int (nI (cnt (fun z => lies nn X Y (qX z) (qY z) = hw_) z + 1))), (0, .ref (a 0)), (1, .int (nI hw_))]) hx hb dX7_postsOf_35 hl (k := 3) rfl (nI_1 _) (by decide) rfl (fun ls hl => ?_)
          refine lv_goto (tgt := 4) hx hb dX7_postsOf_38 (by decide) ?_
          exact ih_4 (z + 1) (by omega) (by omega) ls (by rw [cnt_t (P := fun z => lies nn X Y (qX z) (qY z) = hw_) nc_2]; exact (lv_sub hl [2, 3, 1, 0] rfl))
  exact LOOP_4 (1024 - 0 + 1) 0 (Nat.zero_le _) (Nat.lt_succ_self _) ls (lv_sub hl [2, 3, 1, 0] rfl)

set_option maxHeartbeats 4000000 in
set_option maxRecDepth 100000 in
theorem c_X7_layOwners (l : Launch) (D : va_G) (cI cB cZ cP : ClassId) (sz : Nat) (a : Nat → Nat) (v : Nat → Int32) (su sl : Int64) (F : Nat → Nat → Int32) (kk : Nat) (pn : Nat → Nat) (hSM : stM (F 1) kk pn) : Met l yX7_layOwners wsX7_layOwners ({ frames := 5, cells := 0, slots := 0, locals := 118 } : Room) (va_Pc [.ref (a 0)] (fun U => U.heap.size = sz ∧ va_P D vwCl (MW cI cZ a v su sl F) U.heap ∧ KW D cI cB cZ cP U ∧ va_D (fun _ => True) (MW cI cZ a v su sl F) ∧ EF (MW cI cZ a v su sl F) sz E0 U.heap)) (va_Qv (fun (u : Int32 × (Nat → Int32) × (Nat → Int32) × (Nat → Int32)) => match u with | (c1, X1, Y1, O1) => ∀ j, j < 1024 → O1 j = oI (own (fun z9 => hlm (F 1) pn z9 j) (F 1) kk)) (fun (u : Int32 × (Nat → Int32) × (Nat → Int32) × (Nat → Int32)) (t : State) => match u with | (c1, X1, Y1, O1) => va_P D vwCl (MW cI cZ a (upd v 7 c1) su sl (updF (updF (updF F 7 X1) 8 Y1) 9 O1)) t.heap ∧ va_D (va_A (MW cI cZ a v su sl F) sz) (MW cI cZ a (upd v 7 c1) su sl (updF (updF (updF F 7 X1) 8 Y1) 9 O1))) (va_A (MW cI cZ a v su sl F) sz)) 0 0 (va_A (MW cI cZ a v su sl F) sz) := by
  refine Met.ofW (cc := cX7_layOwners) (maxL := 3) (ret := none) (by decide) rfl ?_
  intro p e s m args below meth c s₁ B hml hv
  obtain ⟨rfl, hsz, hP, hW0, hD0, hE⟩ := hv
  have hx := B.exec
  have hb := B.bytes
  have hr := B.returns
  have hts := atoms_spec (ws := wsX7_layOwners) B.pre
  have hown : s.vm.findClass RX7 = some m.cls := findClass_of_methodNamed B.named
  have hlocks := B.notSynchronized
  have hK := hW0.1
  subst hsz
  have hD := hD0.self (sz := s.heap.size)
  unfold EF at hE
  generalize hAe : va_A (MW cI cZ a v su sl F) s.heap.size = A at hD hE ⊢
  have hA : ∀ q : Nat, s.heap.size ≤ q → A q := fun q h => by rw [← hAe]; exact Or.inr h
  have hS : va_S A s.heap s.heap [] := va_S.rf
  have hl := lv_entry ([.ref (a 0)]) (n := 3) (Nat.le_of_ble_eq_true rfl)
  rw [lg_entry_eq]
  generalize (lg_sl ([.ref (a 0)]) ++ List.replicate (3 - (lg_sl ([.ref (a 0)])).length) Slot.unset).toArray = ls at hl ⊢
  have hl : lv_has ls 3 [(0, .ref (a 0))] := hl
  show W p l e ({ frames := 5, cells := 0, slots := 0, locals := 118 } : Room) s m ([.ref (a 0)] : List Value).toArray below meth c s.heap [] 0 0 _ (F0 m 0 ls [])
  refine u_genQ (fun Q hQ => ?_)
  obtain ⟨hs1, hs2, hs3⟩ := id hSM
  refine lv_iconst (v := 0) hx hb dX7_layOwners_0 (by decide) ?_
  refine lv_istore_n (lv' := [(1, .int 0), (0, .ref (a 0))]) hx hb dX7_layOwners_1 rfl hl (by decide) rfl (fun ls hl => ?_)
  have LOOP_2 : ∀ (fu : Nat) (z : Nat) (O : Nat → Int32) (hz : z ≤ 1024) (hO : ∀ j, j < z → O j = -6) (hn : 1024 - z < fu) (H : Heap) (locs : List Loc) (hP : va_P D vwCl (MW cI cZ a v su sl (updF F 9 O)) H) (hD : va_D A (MW cI cZ a v su sl (updF F 9 O))) (hS : va_S A s.heap H locs) (ls : Array Slot) (hl : lv_has ls 3 [(0, .ref (a 0)), (1, .int (nI z))]), W p l e ({ frames := 5, cells := 0, slots := 0, locals := 118 } : Room) s m ([.ref (a 0)] : List Value).toArray below meth c H locs 0 0 Q (F0 m 2 ls []) := by
    intro fu
    induction fu with
    | zero => intro z O hz hO hn H locs hP hD hS ls hl; exact absurd hn (Nat.not_lt_zero _)
    | succ fu ih_2 =>
      intro z O hz hO hn H locs hP hD hS ls hl
      refine lv_iload_n hx hb dX7_layOwners_2 rfl (lv_at hl 1 rfl) ?_
      refine lv_sipush (v := 1024) hx hb dX7_layOwners_3 (by decide) ?_
      refine lv_icmp_ge (tgt := 23) hx hb dX7_layOwners_6 (by decide) (fun c_1 => ?_) (fun c_1 => ?_)
      · skip
        have nc_1 : 1024 ≤ z := (nI_leI (a := 1024) (b := z) (by omega) (by omega)).mp c_1
        refine lv_iconst (v := 0) hx hb dX7_layOwners_23 (by decide) ?_
        refine lv_istore_n (lv' := [(1, .int 0), (0, .ref (a 0))]) hx hb dX7_layOwners_24 rfl hl (by decide) rfl (fun ls hl => ?_)
        have LOOP_25 : ∀ (fu : Nat) (pp : Nat) (c1 : Int32) (X1 : Nat → Int32) (Y1 : Nat → Int32) (O1 : Nat → Int32) (hpp : pp ≤ kk) (hO1 : ∀ j, j < 1024 → O1 j = oI (own (fun z9 => hlm (F 1) pn z9 j) (F 1) pp)) (hn : kk - pp < fu) (H : Heap) (locs : List Loc) (hP : va_P D vwCl (MW cI cZ a (upd v 7 c1) su sl (updF (updF (updF F 7 X1) 8 Y1) 9 O1)) H) (hD : va_D A (MW cI cZ a (upd v 7 c1) su sl (updF (updF (updF F 7 X1) 8 Y1) 9 O1))) (hS : va_S A s.heap H locs) (ls : Array Slot) (hl : lv_has ls 3 [(0, .ref (a 0)), (1, .int (nI pp))]), W p l e ({ frames := 5, cells := 0, slots := 0, locals := 118 } : Room) s m ([.ref (a 0)] : List Value).toArray below meth c H locs 0 0 Q (F0 m 25 ls []) := by
          intro fu
          induction fu with
          | zero => intro pp c1 X1 Y1 O1 hpp hO1 hn H locs hP hD hS ls hl; exact absurd hn (Nat.not_lt_zero _)
          | succ fu ih_25 =>
            intro pp c1 X1 Y1 O1 hpp hO1 hn H locs hP hD hS ls hl
            refine lv_iload_n hx hb dX7_layOwners_25 rfl (lv_at hl 1 rfl) ?_
            refine lv_aload_n hx hb dX7_layOwners_26 rfl (lv_at hl 0 rfl) ?_
            refine va_get (D := D) (ci := 9) (v := .ref (a 1)) (C := RX7) (T := TX7) (N := 24) hx hb hts (by decide +kernel) hown hK hP 0 rfl rfl 0 (by decide) (hts (.fieldLink RX7 7 "LandDeedsModel" "state" "[I") (by decide +kernel)) (fun _ h9 => h9) rfl dX7_layOwners_27 ?_
            refine lv_bipush (v := 108) hx hb dX7_layOwners_30 (by decide) ?_
            refine u_iald hx hb hK hP 1 0 rfl rfl rfl ⟨by decide, by decide⟩ dX7_layOwners_32 ?_
            refine u_eqi (show (F 1) 108 = nI kk from hs1) ?_
            refine lv_icmp_ge (tgt := 107) hx hb dX7_layOwners_33 (by decide) (fun c_2 => ?_) (fun c_2 => ?_)
            · skip
              have nc_2 : kk ≤ pp := (nI_leI (a := kk) (b := pp) (by omega) (by omega)).mp c_2
              have hpk9 : pp = kk := by omega
              rw [← hQ]
              have hP9 := hP
              have hD9 := hD
              exact W.vret hx hb hr (fun t ht hW => ⟨⟨(c1, X1, Y1, O1), rfl, fun j hj => by rw [← hpk9]; exact hO1 j hj, by rw [ht]; exact hP9, hD9⟩, hS.F ht⟩) hS.2.2 dX7_layOwners_107
            · skip
              have nc_2 : ¬ (kk ≤ pp) := fun h => c_2 ((nI_leI (a := kk) (b := pp) (by omega) (by omega)).mpr h)
              have hpk8 : pp < kk := by omega
              refine lv_aload_n hx hb dX7_layOwners_36 rfl (lv_at hl 0 rfl) ?_
              refine lv_iload_n hx hb dX7_layOwners_37 rfl (lv_at hl 1 rfl) ?_
              have hPc := hP
              have hDc := hD
              have hFc := va_free (wc := (MW cI cZ a (upd v 7 c1) su sl (updF (updF (updF F 7 X1) 8 Y1) 9 O1))) hD hS hA [0, 1, 2, 3, 4, 5, 6, 7, 8, 9, 10, 11, 12] rfl
              refine va_callv (va_runV (As := [.int (nI pp)]) (rest := []) ⟨hx, hb, hml, hown, hts⟩ (c_X7_look l D cI cB cZ cP H.size a (upd v 7 c1) su sl (updF (updF (updF F 7 X1) 8 Y1) 9 O1) pp (pn pp) (by omega) ((hs3 pp hpk8).2) ((hs3 pp hpk8).1)) (cwV 1 hts gX7_layOwners_X7_look rfl rfl rfl (by decide +kernel) ⟨Nat.le_of_ble_eq_true rfl, Nat.le_of_ble_eq_true rfl⟩) (pVQ (q0 := 0) hPc hDc hW0 EF.t rfl rfl) rfl rfl hl.1 rfl (lv_room (Nat.le_of_ble_eq_true rfl)) dX7_layOwners_38 ⟨Nat.le_of_ble_eq_true rfl, Nat.le_of_ble_eq_true rfl⟩) hS (fun q _ h => hFc q h) hFc (fun u t H1 locs ht hvm hw hB hz1 hk1 hS => ?_)
              obtain ⟨X1_3, Y1_3⟩ := u
              obtain ⟨hP1, hD1⟩ := hB
              rw [ht] at hP1
              have hw_3 : ∀ j, j < (pn pp) → X1_3 j = pX ((updF (updF (updF F 7 X1) 8 Y1) 9 O1) 1) pp j ∧ Y1_3 j = pY ((updF (updF (updF F 7 X1) 8 Y1) 9 O1) 1) pp j := hw
              obtain ⟨hP, hD⟩ := va_join (wr := []) (w1 := (MW cI cZ a (upd v 7 (nI (pn pp))) su sl (updF (updF (updF F 7 X1_3) 8 Y1_3) 9 O1))) hP hD [0, 1, 2, 3, 4, 5, 6, 7, 8, 9, 10, 11, 12] [] rfl rfl (by decide) (by decide) hk1 hFc hP1 hD1
              generalize H1 = H at hP hS ⊢
              have hP : va_P D vwCl (MW cI cZ a (upd v 7 (nI (pn pp))) su sl (updF (updF (updF F 7 X1_3) 8 Y1_3) 9 O1)) H := hP
              have hD : va_D A (MW cI cZ a (upd v 7 (nI (pn pp))) su sl (updF (updF (updF F 7 X1_3) 8 Y1_3) 9 O1)) := hD
              have hw_LOOK : ∀ j, j < pn pp → X1_3 j = pX (F 1) pp j ∧ Y1_3 j = pY (F 1) pp j := hw_3
              refine lv_iconst (v := 0) hx hb dX7_layOwners_41 (by decide) ?_
              refine lv_istore_n (lv' := [(2, .int 0), (0, .ref (a 0)), (1, .int (nI pp))]) hx hb dX7_layOwners_42 rfl hl (by decide) rfl (fun ls hl => ?_)
              have LOOP_43 : ∀ (fu : Nat) (z : Nat) (O1 : Nat → Int32) (hz : z ≤ 1024) (hO1 : ∀ j, j < z → O1 j = oI (own (fun z9 => hlm (F 1) pn z9 j) (F 1) (pp + 1))) (hO2 : ∀ j, z ≤ j → j < 1024 → O1 j = oI (own (fun z9 => hlm (F 1) pn z9 j) (F 1) pp)) (hn : 1024 - z < fu) (H : Heap) (locs : List Loc) (hP : va_P D vwCl (MW cI cZ a (upd v 7 (nI (pn pp))) su sl (updF (updF (updF F 7 X1_3) 8 Y1_3) 9 O1)) H) (hD : va_D A (MW cI cZ a (upd v 7 (nI (pn pp))) su sl (updF (updF (updF F 7 X1_3) 8 Y1_3) 9 O1))) (hS : va_S A s.heap H locs) (ls : Array Slot) (hl : lv_has ls 3 [(0, .ref (a 0)), (1, .int (nI pp)), (2, .int (nI z))]), W p l e ({ frames := 5, cells := 0, slots := 0, locals := 118 } : Room) s m ([.ref (a 0)] : List Value).toArray below meth c H locs 0 0 Q (F0 m 43 ls []) := by
                intro fu
                induction fu with
                | zero => intro z O1 hz hO1 hO2 hn H locs hP hD hS ls hl; exact absurd hn (Nat.not_lt_zero _)
                | succ fu ih_43 =>
                  intro z O1 hz hO1 hO2 hn H locs hP hD hS ls hl
                  refine lv_iload_n hx hb dX7_layOwners_43 rfl (lv_at hl 2 rfl) ?_
                  refine lv_sipush (v := 1024) hx hb dX7_layOwners_44 (by decide) ?_
                  refine lv_icmp_ge (tgt := 101) hx hb dX7_layOwners_47 (by decide) (fun c_4 => ?_) (fun c_4 => ?_)
                  · skip
                    have nc_4 : 1024 ≤ z := (nI_leI (a := 1024) (b := z) (by omega) (by omega)).mp c_4
                    refine lv_iinc (v := nI (pp + 1)) (lv' := [(1, .int (nI (pp + 1))), (0, .ref (a 0)), (2, .int (nI z))]) hx hb dX7_layOwners_101 hl (k := 1) rfl (nI_1 _) (by decide) rfl (fun ls hl => ?_)
                    refine lv_goto (tgt := 25) hx hb dX7_layOwners_104 (by decide) ?_
                    exact ih_25 (pp + 1) (nI (pn pp)) X1_3 Y1_3 O1 (by omega) (fun j h => hO1 j (by omega)) (by omega) _ _ hP hD hS ls (lv_sub hl [1, 0] rfl)
                  · skip
                    have nc_4 : ¬ (1024 ≤ z) := fun h => c_4 ((nI_leI (a := 1024) (b := z) (by omega) (by omega)).mpr h)
                    refine lv_aload_n hx hb dX7_layOwners_50 rfl (lv_at hl 0 rfl) ?_
                    refine lv_iload_n hx hb dX7_layOwners_51 rfl (lv_at hl 2 rfl) ?_
                    refine lv_bipush (v := 32) hx hb dX7_layOwners_52 (by decide) ?_
                    refine lv_irem hx hb dX7_layOwners_54 (by decide) ?_
                    refine u_eqi (show (nI z) - (nI z) / 32 * 32 = nI (z % 32) from (div32 (by omega)).2) ?_
                    refine lv_iload_n hx hb dX7_layOwners_55 rfl (lv_at hl 2 rfl) ?_
                    refine lv_bipush (v := 32) hx hb dX7_layOwners_56 (by decide) ?_
                    refine lv_idiv hx hb dX7_layOwners_58 (by decide) ?_
                    refine u_eqi (show (nI z) / 32 = nI (z / 32) from (div32 (by omega)).1) ?_
                    have hPc := hP
                    refine u_callSi (W.runV (As := [.int (nI (z % 32)), .int (nI (z / 32))]) (rest := []) ⟨hx, hb, hml, hown, hts⟩ (c_X7_liesNow l D cI cB cZ cP a v su sl (updF F 9 O1) (pn pp) X1_3 Y1_3 (nI (z % 32)) (nI (z / 32)) ((hs3 pp hpk8).2)) (cwV 2 hts gX7_layOwners_X7_liesNow rfl rfl rfl (by decide +kernel) ⟨Nat.le_of_ble_eq_true rfl, Nat.le_of_ble_eq_true rfl⟩) (pV (q0 := 0) hPc hW0 trivial rfl rfl) rfl rfl hl.1 rfl (lv_room (Nat.le_of_ble_eq_true rfl)) dX7_layOwners_59 ⟨Nat.le_of_ble_eq_true rfl, Nat.le_of_ble_eq_true rfl⟩) ?_
                    have hle9 := lies_le (pn pp) X1_3 Y1_3 (nI (z % 32)) (nI (z / 32))
                    refine lv_if_le (tgt := 95) hx hb dX7_layOwners_62 (by decide) (fun c_5 => ?_) (fun c_5 => ?_)
                    · skip
                      have nc_5 : lies (pn pp) X1_3 Y1_3 (nI (z % 32)) (nI (z / 32)) ≤ 0 := (nI_leI (a := (lies (pn pp) X1_3 Y1_3 (nI (z % 32)) (nI (z / 32)))) (b := 0) (by omega) (by omega)).mp c_5
                      have hheld : ¬ hlm (F 1) pn pp z := by unfold hlm; rw [← lies_congr hw_LOOK]; unfold qX qY; omega
                      refine lv_iinc (v := nI (z + 1)) (lv' := [(2, .int (nI (z + 1))), (0, .ref (a 0)), (1, .int (nI pp))]) hx hb dX7_layOwners_95 hl (k := 2) rfl (nI_1 _) (by decide) rfl (fun ls hl => ?_)
                      refine lv_goto (tgt := 43) hx hb dX7_layOwners_98 (by decide) ?_
                      exact ih_43 (z + 1) O1 (by omega) (lo_keep hO1 (by rw [own_f (hd := fun z9 => hlm (F 1) pn z9 z) (fun q => hheld q.1)]; exact hO2 z (by omega) (by omega))) (fun j h1 h2 => hO2 j (by omega) h2) (by omega) _ _ hP hD hS ls (lv_sub hl [1, 2, 0] rfl)
                    · skip
                      have nc_5 : ¬ (lies (pn pp) X1_3 Y1_3 (nI (z % 32)) (nI (z / 32)) ≤ 0) := fun h => c_5 ((nI_leI (a := (lies (pn pp) X1_3 Y1_3 (nI (z % 32)) (nI (z / 32)))) (b := 0) (by omega) (by omega)).mpr h)
                      have hheld : hlm (F 1) pn pp z := by unfold hlm; rw [← lies_congr hw_LOOK]; unfold qX qY; omega
                      refine lv_aload_n hx hb dX7_layOwners_65 rfl (lv_at hl 0 rfl) ?_
                      refine va_get (D := D) (ci := 9) (v := .ref (a 9)) (C := RX7) (T := TX7) (N := 24) hx hb hts (by decide +kernel) hown hK hP 0 rfl rfl 16 (by decide) (hts (.fieldLink RX7 35 "LandDeedsModel" "owner" "[I") (by decide +kernel)) (fun _ h9 => h9) rfl dX7_layOwners_66 ?_
                      refine lv_iload_n hx hb dX7_layOwners_69 rfl (lv_at hl 2 rfl) ?_
                      refine u_iald hx hb hK hP 9 0 rfl rfl rfl ⟨by omega, by omega⟩ dX7_layOwners_70 ?_
                      refine u_eqi (show O1 z = O1 z from rfl) ?_
                      refine lv_if_lt (tgt := 88) hx hb dX7_layOwners_71 (by decide) (fun c_6 => ?_) (fun c_6 => ?_)
                      · skip
                        refine lv_aload_n hx hb dX7_layOwners_88 rfl (lv_at hl 0 rfl) ?_
                        refine va_get (D := D) (ci := 9) (v := .ref (a 9)) (C := RX7) (T := TX7) (N := 24) hx hb hts (by decide +kernel) hown hK hP 0 rfl rfl 16 (by decide) (hts (.fieldLink RX7 35 "LandDeedsModel" "owner" "[I") (by decide +kernel)) (fun _ h9 => h9) rfl dX7_layOwners_89 ?_
                        refine lv_iload_n hx hb dX7_layOwners_92 rfl (lv_at hl 2 rfl) ?_
                        refine lv_iload_n hx hb dX7_layOwners_93 rfl (lv_at hl 1 rfl) ?_
                        refine u_iast hx hb hK hP hD hS 9 0 rfl rfl rfl ⟨by omega, by omega⟩ dX7_layOwners_94 (fun H locs hP hD hS => ?_)
                        have hP : va_P D vwCl (MW cI cZ a (upd v 7 (nI (pn pp))) su sl (updF (updF (updF F 7 X1_3) 8 Y1_3) 9 (upd O1 z (nI pp)))) H := hP
                        have hD : va_D A (MW cI cZ a (upd v 7 (nI (pn pp))) su sl (updF (updF (updF F 7 X1_3) 8 Y1_3) 9 (upd O1 z (nI pp)))) := hD
                        refine lv_iinc (v := nI (z + 1)) (lv' := [(2, .int (nI (z + 1))), (0, .ref (a 0)), (1, .int (nI pp))]) hx hb dX7_layOwners_95 hl (k := 2) rfl (nI_1 _) (by decide) rfl (fun ls hl => ?_)
                        refine lv_goto (tgt := 43) hx hb dX7_layOwners_98 (by decide) ?_
                        exact ih_43 (z + 1) (upd O1 z (nI pp)) (by omega) (lo_on hO1 (show nI pp = oI (own (fun z9 => hlm (F 1) pn z9 z) (F 1) (pp + 1)) by rw [own_t (hd := fun z9 => hlm (F 1) pn z9 z) hheld (Or.inl (oI_neg (fun o ho => by have := own_lt _ _ _ _ ho; omega) (by rw [← hO2 z (by omega) (by omega)]; exact c_6)))]; rfl)) (lo_off hO2) (by omega) _ _ hP hD hS ls (lv_sub hl [1, 2, 0] rfl)
                      · skip
                        have hge := hO2 z (by omega) (by omega)
                        rw [hge] at c_6
                        obtain ⟨ow, hsome, how⟩ := oI_nn (own_lt _ _ _) c_6
                        refine lv_aload_n hx hb dX7_layOwners_74 rfl (lv_at hl 0 rfl) ?_
                        refine lv_iload_n hx hb dX7_layOwners_75 rfl (lv_at hl 1 rfl) ?_
                        refine lv_aload_n hx hb dX7_layOwners_76 rfl (lv_at hl 0 rfl) ?_
                        refine va_get (D := D) (ci := 9) (v := .ref (a 9)) (C := RX7) (T := TX7) (N := 24) hx hb hts (by decide +kernel) hown hK hP 0 rfl rfl 16 (by decide) (hts (.fieldLink RX7 35 "LandDeedsModel" "owner" "[I") (by decide +kernel)) (fun _ h9 => h9) rfl dX7_layOwners_77 ?_
                        refine lv_iload_n hx hb dX7_layOwners_80 rfl (lv_at hl 2 rfl) ?_
                        refine u_iald hx hb hK hP 9 0 rfl rfl rfl ⟨by omega, by omega⟩ dX7_layOwners_81 ?_
                        refine u_eqi (show O1 z = nI ow from by rw [hO2 z (by omega) (by omega), hsome]; rfl) ?_
                        have hPc := hP
                        refine u_callSi (W.runV (As := [.int (nI pp), .int (nI ow)]) (rest := []) ⟨hx, hb, hml, hown, hts⟩ (c_X7_isOlder l D cI cB cZ cP a (upd v 7 (nI (pn pp))) su sl (updF (updF (updF F 7 X1_3) 8 Y1_3) 9 O1) pp ow (by first | assumption | omega) (by first | assumption | omega)) (cwV 2 hts gX7_layOwners_X7_isOlder rfl rfl rfl (by decide +kernel) ⟨Nat.le_of_ble_eq_true rfl, Nat.le_of_ble_eq_true rfl⟩) (pV (q0 := 0) hPc hW0 trivial rfl rfl) rfl rfl hl.1 rfl (lv_room (Nat.le_of_ble_eq_true rfl)) dX7_layOwners_82 ⟨Nat.le_of_ble_eq_true rfl, Nat.le_of_ble_eq_true rfl⟩) ?_
                        refine lv_if_eq (tgt := 95) hx hb dX7_layOwners_85 (by decide) (fun c_7 => ?_) (fun c_7 => ?_)
                        · skip
                          have nc_7 := zb_eq0.mp c_7
                          refine lv_iinc (v := nI (z + 1)) (lv' := [(2, .int (nI (z + 1))), (0, .ref (a 0)), (1, .int (nI pp))]) hx hb dX7_layOwners_95 hl (k := 2) rfl (nI_1 _) (by decide) rfl (fun ls hl => ?_)
                          refine lv_goto (tgt := 43) hx hb dX7_layOwners_98 (by decide) ?_
                          exact ih_43 (z + 1) O1 (by omega) (lo_keep hO1 (by rw [own_f (hd := fun z9 => hlm (F 1) pn z9 z) (fun q => by rcases q.2 with q2 | ⟨o9, q3, q4⟩; exact absurd (hsome.symm.trans q2) (by simp); exact nc_7 ((Option.some.inj (hsome.symm.trans q3)) ▸ q4))]; exact hO2 z (by omega) (by omega))) (fun j h1 h2 => hO2 j (by omega) h2) (by omega) _ _ hP hD hS ls (lv_sub hl [1, 2, 0] rfl)
                        · skip
                          have nc_7 := zb_ne0.mp c_7
                          refine lv_aload_n hx hb dX7_layOwners_88 rfl (lv_at hl 0 rfl) ?_
                          refine va_get (D := D) (ci := 9) (v := .ref (a 9)) (C := RX7) (T := TX7) (N := 24) hx hb hts (by decide +kernel) hown hK hP 0 rfl rfl 16 (by decide) (hts (.fieldLink RX7 35 "LandDeedsModel" "owner" "[I") (by decide +kernel)) (fun _ h9 => h9) rfl dX7_layOwners_89 ?_
                          refine lv_iload_n hx hb dX7_layOwners_92 rfl (lv_at hl 2 rfl) ?_
                          refine lv_iload_n hx hb dX7_layOwners_93 rfl (lv_at hl 1 rfl) ?_
                          refine u_iast hx hb hK hP hD hS 9 0 rfl rfl rfl ⟨by omega, by omega⟩ dX7_layOwners_94 (fun H locs hP hD hS => ?_)
                          have hP : va_P D vwCl (MW cI cZ a (upd v 7 (nI (pn pp))) su sl (updF (updF (updF F 7 X1_3) 8 Y1_3) 9 (upd O1 z (nI pp)))) H := hP
                          have hD : va_D A (MW cI cZ a (upd v 7 (nI (pn pp))) su sl (updF (updF (updF F 7 X1_3) 8 Y1_3) 9 (upd O1 z (nI pp)))) := hD
                          refine lv_iinc (v := nI (z + 1)) (lv' := [(2, .int (nI (z + 1))), (0, .ref (a 0)), (1, .int (nI pp))]) hx hb dX7_layOwners_95 hl (k := 2) rfl (nI_1 _) (by decide) rfl (fun ls hl => ?_)
                          refine lv_goto (tgt := 43) hx hb dX7_layOwners_98 (by decide) ?_
                          exact ih_43 (z + 1) (upd O1 z (nI pp)) (by omega) (lo_on hO1 (show nI pp = oI (own (fun z9 => hlm (F 1) pn z9 z) (F 1) (pp + 1)) by rw [own_t (hd := fun z9 => hlm (F 1) pn z9 z) hheld (Or.inr ⟨ow, hsome, nc_7⟩)]; rfl)) (lo_off hO2) (by omega) _ _ hP hD hS ls (lv_sub hl [1, 2, 0] rfl)
              exact LOOP_43 (1024 - 0 + 1) 0 O1 (Nat.zero_le _) (fun j h => absurd h (Nat.not_lt_zero _)) (fun j _ h => hO1 j h) (Nat.lt_succ_self _) _ _ hP hD hS ls (lv_sub hl [1, 2, 0] rfl)
        exact LOOP_25 (kk - 0 + 1) 0 (v 7) (F 7) (F 8) O (Nat.zero_le _) (fun j h => hO j (by omega)) (Nat.lt_succ_self _) _ _ hP hD hS ls (lv_sub hl [1, 0] rfl)
      · skip
        have nc_1 : ¬ (1024 ≤ z) := fun h => c_1 ((nI_leI (a := 1024) (b := z) (by omega) (by omega)).mpr h)
        refine lv_aload_n hx hb dX7_layOwners_9 rfl (lv_at hl 0 rfl) ?_
        refine va_get (D := D) (ci := 9) (v := .ref (a 9)) (C := RX7) (T := TX7) (N := 24) hx hb hts (by decide +kernel) hown hK hP 0 rfl rfl 16 (by decide) (hts (.fieldLink RX7 35 "LandDeedsModel" "owner" "[I") (by decide +kernel)) (fun _ h9 => h9) rfl dX7_layOwners_10 ?_
        refine lv_iload_n hx hb dX7_layOwners_13 rfl (lv_at hl 1 rfl) ?_
        refine lv_bipush (v := (-6)) hx hb dX7_layOwners_14 (by decide) ?_
        refine u_iast hx hb hK hP hD hS 9 0 rfl rfl rfl ⟨by omega, by omega⟩ dX7_layOwners_16 (fun H locs hP hD hS => ?_)
        have hP : va_P D vwCl (MW cI cZ a v su sl (updF F 9 (upd O z (-6)))) H := hP
        have hD : va_D A (MW cI cZ a v su sl (updF F 9 (upd O z (-6)))) := hD
        refine lv_iinc (v := nI (z + 1)) (lv' := [(1, .int (nI (z + 1))), (0, .ref (a 0))]) hx hb dX7_layOwners_17 hl (k := 1) rfl (nI_1 _) (by decide) rfl (fun ls hl => ?_)
        refine lv_goto (tgt := 2) hx hb dX7_layOwners_20 (by decide) ?_
        exact ih_2 (z + 1) (upd O z (-6)) (by omega) (upd_on (f := fun _ => -6) hO rfl) (by omega) _ _ hP hD hS ls (lv_sub hl [1, 0] rfl)
  exact LOOP_2 (1024 - 0 + 1) 0 (F 9) (Nat.zero_le _) (fun j h => absurd h (Nat.not_lt_zero _)) (Nat.lt_succ_self _) _ _ hP hD hS ls (lv_sub hl [1, 0] rfl)

