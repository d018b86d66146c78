set_option maxHeartbeats 4000000 in
set_option maxRecDepth 100000 in
theorem c_X7_fault (l : Launch) (D : va_G) (cI cB cZ cP : ClassId) (sz : Nat) (a : Nat → Nat) (v : Nat → Int32) (su sl : Int64) (F : Nat → Nat → Int32) (n0 : Nat) (hn0 : n0 ≤ 48) : Met l yX7_fault wsX7_fault ({ frames := 4, cells := 0, slots := 0, locals := 84 } : Room) (va_Pc [.ref (a 0)] (fun U => U.heap.size = sz ∧ va_P D vwCl (MW cI cZ a (upd v 4 (nI n0)) su sl F) U.heap ∧ KW D cI cB cZ cP U ∧ va_D (fun _ => True) (MW cI cZ a (upd v 4 (nI n0)) su sl F) ∧ EF (MW cI cZ a (upd v 4 (nI n0)) su sl F) sz E0 U.heap)) (va_Qi (fun r (u : (Nat → Int32) × Int64 × Int64 × (Nat → Nat → Int32)) => match u with | (v1, su1, sl1, F1) => FltIs (F 4) n0 r ∧ v1 4 = nI n0 ∧ F1 1 = F 1 ∧ F1 2 = F 2 ∧ F1 3 = F 3 ∧ F1 4 = F 4) (fun (u : (Nat → Int32) × Int64 × Int64 × (Nat → Nat → Int32)) (t : State) => match u with | (v1, su1, sl1, F1) => va_P D vwCl (MW cI cZ a v1 su1 sl1 F1) t.heap ∧ va_D (va_A (MW cI cZ a (upd v 4 (nI n0)) su sl F) sz) (MW cI cZ a v1 su1 sl1 F1)) (va_A (MW cI cZ a (upd v 4 (nI n0)) su sl F) sz)) 0 0 (va_A (MW cI cZ a (upd v 4 (nI n0)) su sl F) sz) := by
  refine Met.ofW (cc := cX7_fault) (maxL := 1) (ret := (some .int)) (by decide) rfl ?_
  intro p e s m args below meth c s₁ B hml hv
  obtain ⟨rfl, hsz, hP, hW0, hD0, hE⟩ := hv
  have hx := B.exec
  have hb := B.bytes
  have hr := B.returns
  have hts := atoms_spec (ws := wsX7_fault) B.pre
  have hown : s.vm.findClass RX7 = some m.cls := findClass_of_methodNamed B.named
  have hlocks := B.notSynchronized
  have hK := hW0.1
  subst hsz
  have hD := hD0.self (sz := s.heap.size)
  unfold EF at hE
  generalize hAe : va_A (MW cI cZ a (upd v 4 (nI n0)) su sl F) s.heap.size = A at hD hE ⊢
  have hA : ∀ q : Nat, s.heap.size ≤ q → A q := fun q h => by rw [← hAe]; exact Or.inr h
  have hS : va_S A s.heap s.heap [] := va_S.rf
  have hl := lv_entry ([.ref (a 0)]) (n := 1) (Nat.le_of_ble_eq_true rfl)
  rw [lg_entry_eq]
  generalize (lg_sl ([.ref (a 0)]) ++ List.replicate (1 - (lg_sl ([.ref (a 0)])).length) Slot.unset).toArray = ls at hl ⊢
  have hl : lv_has ls 1 [(0, .ref (a 0))] := hl
  show W p l e ({ frames := 4, cells := 0, slots := 0, locals := 84 } : Room) s m ([.ref (a 0)] : List Value).toArray below meth c s.heap [] 0 0 _ (F0 m 0 ls [])
  refine u_genQ (fun Q hQ => ?_)
  refine lv_aload_n hx hb dX7_fault_0 rfl (lv_at hl 0 rfl) ?_
  have hPc := hP
  have hDc := hD
  have hFc := va_free (wc := (MW cI cZ a (upd v 4 (nI n0)) su sl F)) hD hS hA [0, 1, 2, 3, 4, 5, 6, 7, 8, 9, 10, 11, 12] rfl
  refine va_calli (va_runV (As := []) (rest := []) ⟨hx, hb, hml, hown, hts⟩ (c_X7_faultNow l D cI cB cZ cP s.heap.size a v su sl F n0 (by first | assumption | omega)) (cwV 0 hts gX7_fault_X7_faultNow rfl rfl rfl (by decide +kernel) ⟨Nat.le_of_ble_eq_true rfl, Nat.le_of_ble_eq_true rfl⟩) (pVQ (q0 := 0) hPc hDc hW0 EF.t rfl rfl) rfl rfl hl.1 rfl (lv_room (Nat.le_of_ble_eq_true rfl)) dX7_fault_1 ⟨Nat.le_of_ble_eq_true rfl, Nat.le_of_ble_eq_true rfl⟩) hS (fun q _ h => hFc q h) hFc (fun r_1 u t H1 locs ht hvm hw hB hz1 hk1 hS => ?_)
  obtain ⟨nc1_1, at1_1, wy1_1, nu1_1, rt1_1, up1_1⟩ := u
  obtain ⟨hP1, hD1⟩ := hB
  rw [ht] at hP1
  have hw_1 : MEnd (F 4) n0 nc1_1 rt1_1 up1_1 r_1 := hw
  obtain ⟨hP, hD⟩ := va_join (wr := []) (w1 := (MW cI cZ a (upd (upd (upd (upd (upd v 4 (nI n0)) 7 (nI nc1_1)) 8 at1_1) 9 wy1_1) 10 nu1_1) su sl (updF (updF F 5 rt1_1) 6 up1_1))) hP hD [0, 1, 2, 3, 4, 5, 6, 7, 8, 9, 10, 11, 12] [] rfl rfl (by decide) (by decide) hk1 hFc hP1 hD1
  generalize H1 = H at hP hS ⊢
  have hP : va_P D vwCl (MW cI cZ a (upd (upd (upd (upd (upd v 4 (nI n0)) 7 (nI nc1_1)) 8 at1_1) 9 wy1_1) 10 nu1_1) su sl (updF (updF F 5 rt1_1) 6 up1_1)) H := hP
  have hD : va_D A (MW cI cZ a (upd (upd (upd (upd (upd v 4 (nI n0)) 7 (nI nc1_1)) 8 at1_1) 9 wy1_1) 10 nu1_1) su sl (updF (updF F 5 rt1_1) 6 up1_1)) := hD
  rw [← hQ]
  have hP9 := hP
  have hD9 := hD
  exact W.iret (v := r_1) hx hb hr (fun t ht hW => ⟨⟨_, (upd (upd (upd (upd (upd v 4 (nI n0)) 7 (nI nc1_1)) 8 at1_1) 9 wy1_1) 10 nu1_1, su, sl, updF (updF F 5 rt1_1) 6 up1_1), rfl, ⟨hw_1.1, rfl, rfl, rfl, rfl, rfl⟩, by rw [ht]; exact hP9, hD9⟩, hS.F ht⟩) hS.2.2 dX7_fault_4

set_option maxHeartbeats 4000000 in
set_option maxRecDepth 100000 in
theorem c_X7_farOf (l : Launch) (D : va_G) (cI cB cZ cP : ClassId) (a : Nat → Nat) (v : Nat → Int32) (su sl : Int64) (F : Nat → Nat → Int32) (rt up : Nat → Int32) (kf : Nat) (hkf : kf ≤ 8) : Met l yX7_farOf wsX7_farOf ({ frames := 1, cells := 0, slots := 0, locals := 20 } : Room) (va_Pc [.ref (a 0), .int (nI kf)] (fun U => va_P D vwCl (MW cI cZ a v su sl (updF (updF F 5 rt) 6 up)) U.heap ∧ KW D cI cB cZ cP U ∧ E0 U.heap)) (vp_Si (fun r => r = isum (stp rt up) kf)) 0 0 (fun _ => False) := by
  refine Met.ofW (cc := cX7_farOf) (maxL := 4) (ret := (some .int)) (by decide) rfl ?_
  intro p e s m args below meth c s₁ B hml hv
  obtain ⟨rfl, hP, hW0, hE⟩ := hv
  have hx := B.exec
  have hb := B.bytes
  have hr := B.returns
  have hts := atoms_spec (ws := wsX7_farOf) B.pre
  have hown : s.vm.findClass RX7 = some m.cls := findClass_of_methodNamed B.named
  have hlocks := B.notSynchronized
  have hK := hW0.1
  have hl := lv_entry ([.ref (a 0), .int (nI kf)]) (n := 4) (Nat.le_of_ble_eq_true rfl)
  rw [lg_entry_eq]
  generalize (lg_sl ([.ref (a 0), .int (nI kf)]) ++ List.replicate (4 - (lg_sl ([.ref (a 0), .int (nI kf)])).length) Slot.unset).toArray = ls at hl ⊢
  have hl : lv_has ls 4 [(0, .ref (a 0)), (1, .int (nI kf))] := hl
  show W p l e ({ frames := 1, cells := 0, slots := 0, locals := 20 } : Room) s m ([.ref (a 0), .int (nI kf)] : List Value).toArray below meth c s.heap [] 0 0 _ (F0 m 0 ls [])
  refine u_genQ (fun Q hQ => ?_)
  refine lv_iconst (v := 0) hx hb dX7_farOf_0 (by decide) ?_
  refine lv_istore_n (lv' := [(2, .int 0), (0, .ref (a 0)), (1, .int (nI kf))]) hx hb dX7_farOf_1 rfl hl (by decide) rfl (fun ls hl => ?_)
  refine lv_iconst (v := 0) hx hb dX7_farOf_2 (by decide) ?_
  refine lv_istore_n (lv' := [(3, .int 0), (2, .int 0), (0, .ref (a 0)), (1, .int (nI kf))]) hx hb dX7_farOf_3 rfl hl (by decide) rfl (fun ls hl => ?_)
  have LOOP_4 : ∀ (fu : Nat) (z : Nat) (hz : z ≤ kf) (hn : kf - z < fu) (ls : Array Slot) (hl : lv_has ls 4 [(0, .ref (a 0)), (1, .int (nI kf)), (2, .int (isum (stp rt up) z)), (3, .int (nI z))]), W p l e ({ frames := 1, cells := 0, slots := 0, locals := 20 } : Room) s m ([.ref (a 0), .int (nI kf)] : List Value).toArray below meth c s.heap [] 0 0 Q (F0 m 4 ls []) := by
    intro fu
    induction fu with
    | zero => intro z hz hn ls hl; exact absurd hn (Nat.not_lt_zero _)
    | succ fu ih_4 =>
      intro z hz hn ls hl
      refine lv_iload_n hx hb dX7_farOf_4 rfl (lv_at hl 3 rfl) ?_
      refine lv_iload_n hx hb dX7_farOf_5 rfl (lv_at hl 1 rfl) ?_
      refine lv_icmp_ge (tgt := 37) hx hb dX7_farOf_6 (by decide) (fun c_1 => ?_) (fun c_1 => ?_)
      · skip
        have nc_1 : kf ≤ z := (nI_leI (a := kf) (b := z) (by omega) (by omega)).mp c_1
        refine lv_iload_n hx hb dX7_farOf_37 rfl (lv_at hl 2 rfl) ?_
        rw [← hQ]
        exact W.iret (v := isum (stp rt up) z) hx hb hr (fun t ht hW => ⟨_, rfl, (by rw [show z = kf by omega]), ht⟩) (fun q h => absurd h List.not_mem_nil) dX7_farOf_38
      · skip
        have nc_1 : ¬ (kf ≤ z) := fun h => c_1 ((nI_leI (a := kf) (b := z) (by omega) (by omega)).mpr h)
        refine lv_iload_n hx hb dX7_farOf_9 rfl (lv_at hl 2 rfl) ?_
        refine lv_aload_n hx hb dX7_farOf_10 rfl (lv_at hl 0 rfl) ?_
        refine va_get (D := D) (ci := 9) (v := .ref (a 5)) (C := RX7) (T := TX7) (N := 24) hx hb hts (by decide +kernel) hown hK hP 0 rfl rfl 5 (by decide) (hts (.fieldLink RX7 23 "LandDeedsModel" "right" "[I") (by decide +kernel)) (fun _ h9 => h9) rfl dX7_farOf_11 ?_
        refine lv_iload_n hx hb dX7_farOf_14 rfl (lv_at hl 3 rfl) ?_
        refine u_iald hx hb hK hP 5 0 rfl rfl rfl ⟨by omega, by omega⟩ dX7_farOf_15 ?_
        have hPc := hP.sub (ws' := []) [] rfl
        refine u_callSi (W.runS (As := [.int (rt z)]) (rest := [.int (isum (stp rt up) z)]) ⟨hx, hb, hml, hown, hts⟩ (c_X7_size l D cI cB cZ cP (rt z) ) (cwS 1 hts gX7_farOf_X7_size rfl rfl rfl (by decide +kernel) ⟨Nat.le_of_ble_eq_true rfl, Nat.le_of_ble_eq_true rfl⟩) (pS hPc hW0 trivial) rfl rfl hl.1 rfl (lv_room (Nat.le_of_ble_eq_true rfl)) dX7_farOf_16 ⟨Nat.le_of_ble_eq_true rfl, Nat.le_of_ble_eq_true rfl⟩) ?_
        refine lv_aload_n hx hb dX7_farOf_19 rfl (lv_at hl 0 rfl) ?_
        refine va_get (D := D) (ci := 9) (v := .ref (a 6)) (C := RX7) (T := TX7) (N := 24) hx hb hts (by decide +kernel) hown hK hP 0 rfl rfl 6 (by decide) (hts (.fieldLink RX7 26 "LandDeedsModel" "up" "[I") (by decide +kernel)) (fun _ h9 => h9) rfl dX7_farOf_20 ?_
        refine lv_iload_n hx hb dX7_farOf_23 rfl (lv_at hl 3 rfl) ?_
        refine u_iald hx hb hK hP 6 0 rfl rfl rfl ⟨by omega, by omega⟩ dX7_farOf_24 ?_
        have hPc := hP.sub (ws' := []) [] rfl
        refine u_callSi (W.runS (As := [.int (up z)]) (rest := [.int (ab (rt z)), .int (isum (stp rt up) z)]) ⟨hx, hb, hml, hown, hts⟩ (c_X7_size l D cI cB cZ cP (up z) ) (cwS 1 hts gX7_farOf_X7_size rfl rfl rfl (by decide +kernel) ⟨Nat.le_of_ble_eq_true rfl, Nat.le_of_ble_eq_true rfl⟩) (pS hPc hW0 trivial) rfl rfl hl.1 rfl (lv_room (Nat.le_of_ble_eq_true rfl)) dX7_farOf_25 ⟨Nat.le_of_ble_eq_true rfl, Nat.le_of_ble_eq_true rfl⟩) ?_
        refine lv_iadd hx hb dX7_farOf_28 ?_
        refine lv_iadd hx hb dX7_farOf_29 ?_
        refine u_eqi (show (isum (stp rt up) z) + ((ab (rt z)) + (ab (up z))) = isum (stp rt up) (z + 1) from rfl) ?_
        refine lv_istore_n (lv' := [(2, .int (isum (stp rt up) (z + 1))), (0, .ref (a 0)), (1, .int (nI kf)), (3, .int (nI z))]) hx hb dX7_farOf_30 rfl hl (by decide) rfl (fun ls hl => ?_)
        refine lv_iinc (v := nI (z + 1)) (lv' := [(3, .int (nI (z + 1))), (2, .int (isum (stp rt up) (z + 1))), (0, .ref (a 0)), (1, .int (nI kf))]) hx hb dX7_farOf_31 hl (k := 3) rfl (nI_1 _) (by decide) rfl (fun ls hl => ?_)
        refine lv_goto (tgt := 4) hx hb dX7_farOf_34 (by decide) ?_
        exact ih_4 (z + 1) (by omega) (by omega) ls (lv_sub hl [2, 3, 1, 0] rfl)
  exact LOOP_4 (kf - 0 + 1) 0 (Nat.zero_le _) (Nat.lt_succ_self _) ls (lv_sub hl [2, 3, 1, 0] rfl)

set_option maxHeartbeats 4000000 in
set_option maxRecDepth 100000 in
theorem c_X7_layCorners (l : Launch) (D : va_G) (cI cB cZ cP : ClassId) (sz : Nat) (a : Nat → Nat) (v : Nat → Int32) (su sl : Int64) (F : Nat → Nat → Int32) (nc : Nat) (rt up : Nat → Int32) (x y : Int32) (h8 : nc ≤ 8) (hfar : ¬ isum (stp rt up) nc = 0) : Met l yX7_layCorners wsX7_layCorners ({ frames := 2, cells := 0, slots := 0, locals := 43 } : Room) (va_Pc [.ref (a 0), .int x, .int y] (fun U => U.heap.size = sz ∧ va_P D vwCl (MW cI cZ a (upd v 7 (nI nc)) su sl (updF (updF F 5 rt) 6 up)) U.heap ∧ KW D cI cB cZ cP U ∧ va_D (fun _ => True) (MW cI cZ a (upd v 7 (nI nc)) su sl (updF (updF F 5 rt) 6 up)) ∧ EF (MW cI cZ a (upd v 7 (nI nc)) su sl (updF (updF F 5 rt) 6 up)) sz E0 U.heap)) (va_Qv (fun (u : (Nat → Int32) × (Nat → Int32)) => match u with | (X1, Y1) => ∀ j, j < nc → X1 j = crn nc x rt rt up j ∧ Y1 j = crn nc y up rt up j) (fun (u : (Nat → Int32) × (Nat → Int32)) (t : State) => match u with | (X1, Y1) => va_P D vwCl (MW cI cZ a (upd (upd (upd (upd v 7 (nI nc)) 13 (isum rt nc)) 14 (isum up nc)) 15 (isum (stp rt up) nc)) su sl (updF (updF (updF (updF F 5 rt) 6 up) 7 X1) 8 Y1)) t.heap ∧ va_D (va_A (MW cI cZ a (upd v 7 (nI nc)) su sl (updF (updF F 5 rt) 6 up)) sz) (MW cI cZ a (upd (upd (upd (upd v 7 (nI nc)) 13 (isum rt nc)) 14 (isum up nc)) 15 (isum (stp rt up) nc)) su sl (updF (updF (updF (updF F 5 rt) 6 up) 7 X1) 8 Y1))) (va_A (MW cI cZ a (upd v 7 (nI nc)) su sl (updF (updF F 5 rt) 6 up)) sz)) 0 0 (va_A (MW cI cZ a (upd v 7 (nI nc)) su sl (updF (updF F 5 rt) 6 up)) sz) := by
  refine Met.ofW (cc := cX7_layCorners) (maxL := 6) (ret := none) (by decide) rfl ?_
  intro p e s m args below meth c s₁ B hml hv
  obtain ⟨rfl, hsz, hP, hW0, hD0, hE⟩ := hv
  have hx := B.exec
  have hb := B.bytes
  have hr := B.returns
  have hts := atoms_spec (ws := wsX7_layCorners) B.pre
  have hown : s.vm.findClass RX7 = some m.cls := findClass_of_methodNamed B.named
  have hlocks := B.notSynchronized
  have hK := hW0.1
  subst hsz
  have hD := hD0.self (sz := s.heap.size)
  unfold EF at hE
  generalize hAe : va_A (MW cI cZ a (upd v 7 (nI nc)) su sl (updF (updF F 5 rt) 6 up)) s.heap.size = A at hD hE ⊢
  have hA : ∀ q : Nat, s.heap.size ≤ q → A q := fun q h => by rw [← hAe]; exact Or.inr h
  have hS : va_S A s.heap s.heap [] := va_S.rf
  have hl := lv_entry ([.ref (a 0), .int x, .int y]) (n := 6) (Nat.le_of_ble_eq_true rfl)
  rw [lg_entry_eq]
  generalize (lg_sl ([.ref (a 0), .int x, .int y]) ++ List.replicate (6 - (lg_sl ([.ref (a 0), .int x, .int y])).length) Slot.unset).toArray = ls at hl ⊢
  have hl : lv_has ls 6 [(0, .ref (a 0)), (1, .int x), (2, .int y)] := hl
  show W p l e ({ frames := 2, cells := 0, slots := 0, locals := 43 } : Room) s m ([.ref (a 0), .int x, .int y] : List Value).toArray below meth c s.heap [] 0 0 _ (F0 m 0 ls [])
  refine u_genQ (fun Q hQ => ?_)
  refine lv_aload_n hx hb dX7_layCorners_0 rfl (lv_at hl 0 rfl) ?_
  refine lv_iconst (v := 0) hx hb dX7_layCorners_1 (by decide) ?_
  refine va_put (D := D) (ci := 9) (v := .int 0) (ty := .int) (C := RX7) (T := TX7) (N := 24) hx hb hts (by decide +kernel) tyX7 tyX7_ok nmX7 hown hK hP hD hS 0 rfl rfl 13 (by decide) (hts (.fieldLink RX7 88 "LandDeedsModel" "missX" "I") (by decide +kernel)) (fun _ h9 => h9) rfl (by decide +kernel) rfl rfl (Nat.le_of_ble_eq_true rfl) dX7_layCorners_2 (fun H locs hP hD hS => ?_)
  have hP : va_P D vwCl (MW cI cZ a (upd (upd v 7 (nI nc)) 13 0) su sl (updF (updF F 5 rt) 6 up)) H := hP
  have hD : va_D A (MW cI cZ a (upd (upd v 7 (nI nc)) 13 0) su sl (updF (updF F 5 rt) 6 up)) := hD
  refine lv_aload_n hx hb dX7_layCorners_5 rfl (lv_at hl 0 rfl) ?_
  refine lv_iconst (v := 0) hx hb dX7_layCorners_6 (by decide) ?_
  refine va_put (D := D) (ci := 9) (v := .int 0) (ty := .int) (C := RX7) (T := TX7) (N := 24) hx hb hts (by decide +kernel) tyX7 tyX7_ok nmX7 hown hK hP hD hS 0 rfl rfl 14 (by decide) (hts (.fieldLink RX7 91 "LandDeedsModel" "missY" "I") (by decide +kernel)) (fun _ h9 => h9) rfl (by decide +kernel) rfl rfl (Nat.le_of_ble_eq_true rfl) dX7_layCorners_7 (fun H locs hP hD hS => ?_)
  have hP : va_P D vwCl (MW cI cZ a (upd (upd (upd v 7 (nI nc)) 13 0) 14 0) su sl (updF (updF F 5 rt) 6 up)) H := hP
  have hD : va_D A (MW cI cZ a (upd (upd (upd v 7 (nI nc)) 13 0) 14 0) su sl (updF (updF F 5 rt) 6 up)) := hD
  refine lv_iconst (v := 0) hx hb dX7_layCorners_10 (by decide) ?_
  refine lv_istore_n (lv' := [(3, .int 0), (0, .ref (a 0)), (1, .int x), (2, .int y)]) hx hb dX7_layCorners_11 rfl hl (by decide) rfl (fun ls hl => ?_)
  have LOOP_12 : ∀ (fu : Nat) (z : Nat) (hz : z ≤ nc) (hn : nc - z < fu) (H : Heap) (locs : List Loc) (hP : va_P D vwCl (MW cI cZ a (upd (upd (upd v 7 (nI nc)) 13 (isum rt z)) 14 (isum up z)) su sl (updF (updF F 5 rt) 6 up)) H) (hD : va_D A (MW cI cZ a (upd (upd (upd v 7 (nI nc)) 13 (isum rt z)) 14 (isum up z)) su sl (updF (updF F 5 rt) 6 up))) (hS : va_S A s.heap H locs) (ls : Array Slot) (hl : lv_has ls 6 [(0, .ref (a 0)), (1, .int x), (2, .int y), (3, .int (nI z))]), W p l e ({ frames := 2, cells := 0, slots := 0, locals := 43 } : Room) s m ([.ref (a 0), .int x, .int y] : List Value).toArray below meth c H locs 0 0 Q (F0 m 12 ls []) := by
    intro fu
    induction fu with
    | zero => intro z hz hn H locs hP hD hS ls hl; exact absurd hn (Nat.not_lt_zero _)
    | succ fu ih_12 =>
      intro z hz hn H locs hP hD hS ls hl
      refine lv_iload_n hx hb dX7_layCorners_12 rfl (lv_at hl 3 rfl) ?_
      refine lv_aload_n hx hb dX7_layCorners_13 rfl (lv_at hl 0 rfl) ?_
      refine va_get (D := D) (ci := 9) (v := .int (nI nc)) (C := RX7) (T := TX7) (N := 24) hx hb hts (by decide +kernel) hown hK hP 0 rfl rfl 7 (by decide) (hts (.fieldLink RX7 58 "LandDeedsModel" "calls" "I") (by decide +kernel)) (fun _ h9 => h9) rfl dX7_layCorners_14 ?_
      refine lv_icmp_ge (tgt := 56) hx hb dX7_layCorners_17 (by decide) (fun c_1 => ?_) (fun c_1 => ?_)
      · skip
        have nc_1 : nc ≤ z := (nI_leI (a := nc) (b := z) (by omega) (by omega)).mp c_1
        obtain rfl : nc = z := by omega
        refine lv_aload_n hx hb dX7_layCorners_56 rfl (lv_at hl 0 rfl) ?_
        refine lv_aload_n hx hb dX7_layCorners_57 rfl (lv_at hl 0 rfl) ?_
        refine lv_aload_n hx hb dX7_layCorners_58 rfl (lv_at hl 0 rfl) ?_
        refine va_get (D := D) (ci := 9) (v := .int (nI nc)) (C := RX7) (T := TX7) (N := 24) hx hb hts (by decide +kernel) hown hK hP 0 rfl rfl 7 (by decide) (hts (.fieldLink RX7 58 "LandDeedsModel" "calls" "I") (by decide +kernel)) (fun _ h9 => h9) rfl dX7_layCorners_59 ?_
        have hPc := hP
        refine u_callSi (W.runV (As := [.int (nI nc)]) (rest := [.ref (a 0)]) ⟨hx, hb, hml, hown, hts⟩ (c_X7_farOf l D cI cB cZ cP a (upd (upd (upd v 7 (nI nc)) 13 (isum rt nc)) 14 (isum up nc)) su sl F rt up nc (by first | assumption | omega)) (cwV 1 hts gX7_layCorners_X7_farOf rfl rfl rfl (by decide +kernel) ⟨Nat.le_of_ble_eq_true rfl, Nat.le_of_ble_eq_true rfl⟩) (pV (q0 := 0) hPc hW0 trivial rfl rfl) rfl rfl hl.1 rfl (lv_room (Nat.le_of_ble_eq_true rfl)) dX7_layCorners_62 ⟨Nat.le_of_ble_eq_true rfl, Nat.le_of_ble_eq_true rfl⟩) ?_
        refine va_put (D := D) (ci := 9) (v := .int (isum (stp rt up) nc)) (ty := .int) (C := RX7) (T := TX7) (N := 24) hx hb hts (by decide +kernel) tyX7 tyX7_ok nmX7 hown hK hP hD hS 0 rfl rfl 15 (by decide) (hts (.fieldLink RX7 97 "LandDeedsModel" "far" "I") (by decide +kernel)) (fun _ h9 => h9) rfl (by decide +kernel) rfl rfl (Nat.le_of_ble_eq_true rfl) dX7_layCorners_65 (fun H locs hP hD hS => ?_)
        have hP : va_P D vwCl (MW cI cZ a (upd (upd (upd (upd v 7 (nI nc)) 13 (isum rt nc)) 14 (isum up nc)) 15 (isum (stp rt up) nc)) su sl (updF (updF F 5 rt) 6 up)) H := hP
        have hD : va_D A (MW cI cZ a (upd (upd (upd (upd v 7 (nI nc)) 13 (isum rt nc)) 14 (isum up nc)) 15 (isum (stp rt up) nc)) su sl (updF (updF F 5 rt) 6 up)) := hD
        refine lv_iload_n hx hb dX7_layCorners_68 rfl (lv_at hl 1 rfl) ?_
        refine lv_istore_n (lv' := [(3, .int x), (0, .ref (a 0)), (1, .int x), (2, .int y)]) hx hb dX7_layCorners_69 rfl hl (by decide) rfl (fun ls hl => ?_)
        refine lv_iload_n hx hb dX7_layCorners_70 rfl (lv_at hl 3 rfl) ?_
        refine lv_istore (lv' := [(4, .int y), (3, .int x), (0, .ref (a 0)), (1, .int x), (2, .int y)]) hx hb dX7_layCorners_71 hl (by decide) rfl (fun ls hl => ?_)
        refine lv_iconst (v := 0) hx hb dX7_layCorners_73 (by decide) ?_
        refine lv_istore (lv' := [(5, .int 0), (4, .int y), (3, .int x), (0, .ref (a 0)), (1, .int x), (2, .int y)]) hx hb dX7_layCorners_74 hl (by decide) rfl (fun ls hl => ?_)
        have LOOP_76 : ∀ (fu : Nat) (z : Nat) (X1 : Nat → Int32) (Y1 : Nat → Int32) (hz : z ≤ nc) (hXY : ∀ j, j < z → X1 j = crn nc x rt rt up j ∧ Y1 j = crn nc y up rt up j) (hn : nc - z < fu) (H : Heap) (locs : List Loc) (hP : va_P D vwCl (MW cI cZ a (upd (upd (upd (upd v 7 (nI nc)) 13 (isum rt nc)) 14 (isum up nc)) 15 (isum (stp rt up) nc)) su sl (updF (updF (updF (updF F 5 rt) 6 up) 7 X1) 8 Y1)) H) (hD : va_D A (MW cI cZ a (upd (upd (upd (upd v 7 (nI nc)) 13 (isum rt nc)) 14 (isum up nc)) 15 (isum (stp rt up) nc)) su sl (updF (updF (updF (updF F 5 rt) 6 up) 7 X1) 8 Y1))) (hS : va_S A s.heap H locs) (ls : Array Slot) (hl : lv_has ls 6 [(0, .ref (a 0)), (3, .int (pnt x rt z)), (4, .int (pnt y up z)), (5, .int (nI z))]), W p l e ({ frames := 2, cells := 0, slots := 0, locals := 43 } : Room) s m ([.ref (a 0), .int x, .int y] : List Value).toArray below meth c H locs 0 0 Q (F0 m 76 ls []) := by
          intro fu
          induction fu with
          | zero => intro z X1 Y1 hz hXY hn H locs hP hD hS ls hl; exact absurd hn (Nat.not_lt_zero _)
          | succ fu ih_76 =>
            intro z X1 Y1 hz hXY hn H locs hP hD hS ls hl
            refine lv_iload hx hb dX7_layCorners_76 (lv_at hl 3 rfl) ?_
            refine lv_aload_n hx hb dX7_layCorners_78 rfl (lv_at hl 0 rfl) ?_
            refine va_get (D := D) (ci := 9) (v := .int (nI nc)) (C := RX7) (T := TX7) (N := 24) hx hb hts (by decide +kernel) hown hK hP 0 rfl rfl 7 (by decide) (hts (.fieldLink RX7 58 "LandDeedsModel" "calls" "I") (by decide +kernel)) (fun _ h9 => h9) rfl dX7_layCorners_79 ?_
            refine lv_icmp_ge (tgt := 164) hx hb dX7_layCorners_82 (by decide) (fun c_2 => ?_) (fun c_2 => ?_)
            · skip
              have nc_2 : nc ≤ z := (nI_leI (a := nc) (b := z) (by omega) (by omega)).mp c_2
              rw [← hQ]
              have hP9 := hP
              have hD9 := hD
              exact W.vret hx hb hr (fun t ht hW => ⟨⟨(X1, Y1), rfl, fun j hj => hXY j (by omega), by rw [ht]; exact hP9, hD9⟩, hS.F ht⟩) hS.2.2 dX7_layCorners_164
            · skip
              have nc_2 : ¬ (nc ≤ z) := fun h => c_2 ((nI_leI (a := nc) (b := z) (by omega) (by omega)).mpr h)
              refine lv_aload_n hx hb dX7_layCorners_85 rfl (lv_at hl 0 rfl) ?_
              refine va_get (D := D) (ci := 9) (v := .ref (a 7)) (C := RX7) (T := TX7) (N := 24) hx hb hts (by decide +kernel) hown hK hP 0 rfl rfl 11 (by decide) (hts (.fieldLink RX7 29 "LandDeedsModel" "cx" "[I") (by decide +kernel)) (fun _ h9 => h9) rfl dX7_layCorners_86 ?_
              refine lv_iload hx hb dX7_layCorners_89 (lv_at hl 3 rfl) ?_
              refine lv_iload_n hx hb dX7_layCorners_91 rfl (lv_at hl 1 rfl) ?_
              refine lv_aload_n hx hb dX7_layCorners_92 rfl (lv_at hl 0 rfl) ?_
              refine va_get (D := D) (ci := 9) (v := .int (isum rt nc)) (C := RX7) (T := TX7) (N := 24) hx hb hts (by decide +kernel) hown hK hP 0 rfl rfl 13 (by decide) (hts (.fieldLink RX7 88 "LandDeedsModel" "missX" "I") (by decide +kernel)) (fun _ h9 => h9) rfl dX7_layCorners_93 ?_
              refine lv_aload_n hx hb dX7_layCorners_96 rfl (lv_at hl 0 rfl) ?_
              refine lv_iload hx hb dX7_layCorners_97 (lv_at hl 3 rfl) ?_
              have hPc := hP
              refine u_callSi (W.runV (As := [.int (nI z)]) (rest := [.int (isum rt nc), .int (pnt x rt z), .int (nI z), .ref (a 7)]) ⟨hx, hb, hml, hown, hts⟩ (c_X7_farOf l D cI cB cZ cP a (upd (upd (upd (upd v 7 (nI nc)) 13 (isum rt nc)) 14 (isum up nc)) 15 (isum (stp rt up) nc)) su sl (updF (updF F 7 X1) 8 Y1) rt up z (by first | assumption | omega)) (cwV 1 hts gX7_layCorners_X7_farOf rfl rfl rfl (by decide +kernel) ⟨Nat.le_of_ble_eq_true rfl, Nat.le_of_ble_eq_true rfl⟩) (pV (q0 := 0) hPc hW0 trivial rfl rfl) rfl rfl hl.1 rfl (lv_room (Nat.le_of_ble_eq_true rfl)) dX7_layCorners_99 ⟨Nat.le_of_ble_eq_true rfl, Nat.le_of_ble_eq_true rfl⟩) ?_
              refine lv_imul hx hb dX7_layCorners_102 ?_
              refine lv_aload_n hx hb dX7_layCorners_103 rfl (lv_at hl 0 rfl) ?_
              refine va_get (D := D) (ci := 9) (v := .int (isum (stp rt up) nc)) (C := RX7) (T := TX7) (N := 24) hx hb hts (by decide +kernel) hown hK hP 0 rfl rfl 15 (by decide) (hts (.fieldLink RX7 97 "LandDeedsModel" "far" "I") (by decide +kernel)) (fun _ h9 => h9) rfl dX7_layCorners_104 ?_
              refine lv_idiv hx hb dX7_layCorners_107 hfar ?_
              refine lv_isub hx hb dX7_layCorners_108 ?_
              refine u_iast hx hb hK hP hD hS 7 0 rfl rfl rfl ⟨by omega, by omega⟩ dX7_layCorners_109 (fun H locs hP hD hS => ?_)
              have hP : va_P D vwCl (MW cI cZ a (upd (upd (upd (upd v 7 (nI nc)) 13 (isum rt nc)) 14 (isum up nc)) 15 (isum (stp rt up) nc)) su sl (updF (updF (updF (updF F 5 rt) 6 up) 7 (upd X1 z ((pnt x rt z) - (((isum rt nc) * (isum (stp rt up) z)) / (isum (stp rt up) nc))))) 8 Y1)) H := hP
              have hD : va_D A (MW cI cZ a (upd (upd (upd (upd v 7 (nI nc)) 13 (isum rt nc)) 14 (isum up nc)) 15 (isum (stp rt up) nc)) su sl (updF (updF (updF (updF F 5 rt) 6 up) 7 (upd X1 z ((pnt x rt z) - (((isum rt nc) * (isum (stp rt up) z)) / (isum (stp rt up) nc))))) 8 Y1)) := hD
              refine lv_aload_n hx hb dX7_layCorners_110 rfl (lv_at hl 0 rfl) ?_
              refine va_get (D := D) (ci := 9) (v := .ref (a 8)) (C := RX7) (T := TX7) (N := 24) hx hb hts (by decide +kernel) hown hK hP 0 rfl rfl 12 (by decide) (hts (.fieldLink RX7 32 "LandDeedsModel" "cy" "[I") (by decide +kernel)) (fun _ h9 => h9) rfl dX7_layCorners_111 ?_
              refine lv_iload hx hb dX7_layCorners_114 (lv_at hl 3 rfl) ?_
              refine lv_iload hx hb dX7_layCorners_116 (lv_at hl 2 rfl) ?_
              refine lv_aload_n hx hb dX7_layCorners_118 rfl (lv_at hl 0 rfl) ?_
              refine va_get (D := D) (ci := 9) (v := .int (isum up nc)) (C := RX7) (T := TX7) (N := 24) hx hb hts (by decide +kernel) hown hK hP 0 rfl rfl 14 (by decide) (hts (.fieldLink RX7 91 "LandDeedsModel" "missY" "I") (by decide +kernel)) (fun _ h9 => h9) rfl dX7_layCorners_119 ?_
              refine lv_aload_n hx hb dX7_layCorners_122 rfl (lv_at hl 0 rfl) ?_
              refine lv_iload hx hb dX7_layCorners_123 (lv_at hl 3 rfl) ?_
              have hPc := hP
              refine u_callSi (W.runV (As := [.int (nI z)]) (rest := [.int (isum up nc), .int (pnt y up z), .int (nI z), .ref (a 8)]) ⟨hx, hb, hml, hown, hts⟩ (c_X7_farOf l D cI cB cZ cP a (upd (upd (upd (upd v 7 (nI nc)) 13 (isum rt nc)) 14 (isum up nc)) 15 (isum (stp rt up) nc)) su sl (updF (updF F 7 (upd X1 z ((pnt x rt z) - (((isum rt nc) * (isum (stp rt up) z)) / (isum (stp rt up) nc))))) 8 Y1) rt up z (by first | assumption | omega)) (cwV 1 hts gX7_layCorners_X7_farOf rfl rfl rfl (by decide +kernel) ⟨Nat.le_of_ble_eq_true rfl, Nat.le_of_ble_eq_true rfl⟩) (pV (q0 := 0) hPc hW0 trivial rfl rfl) rfl rfl hl.1 rfl (lv_room (Nat.le_of_ble_eq_true rfl)) dX7_layCorners_125 ⟨Nat.le_of_ble_eq_true rfl, Nat.le_of_ble_eq_true rfl⟩) ?_
              refine lv_imul hx hb dX7_layCorners_128 ?_
              refine lv_aload_n hx hb dX7_layCorners_129 rfl (lv_at hl 0 rfl) ?_
              refine va_get (D := D) (ci := 9) (v := .int (isum (stp rt up) nc)) (C := RX7) (T := TX7) (N := 24) hx hb hts (by decide +kernel) hown hK hP 0 rfl rfl 15 (by decide) (hts (.fieldLink RX7 97 "LandDeedsModel" "far" "I") (by decide +kernel)) (fun _ h9 => h9) rfl dX7_layCorners_130 ?_
              refine lv_idiv hx hb dX7_layCorners_133 hfar ?_
              refine lv_isub hx hb dX7_layCorners_134 ?_
              refine u_iast hx hb hK hP hD hS 8 0 rfl rfl rfl ⟨by omega, by omega⟩ dX7_layCorners_135 (fun H locs hP hD hS => ?_)
              have hP : va_P D vwCl (MW cI cZ a (upd (upd (upd (upd v 7 (nI nc)) 13 (isum rt nc)) 14 (isum up nc)) 15 (isum (stp rt up) nc)) su sl (updF (updF (updF (updF F 5 rt) 6 up) 7 (upd X1 z ((pnt x rt z) - (((isum rt nc) * (isum (stp rt up) z)) / (isum (stp rt up) nc))))) 8 (upd Y1 z ((pnt y up z) - (((isum up nc) * (isum (stp rt up) z)) / (isum (stp rt up) nc)))))) H := hP
              have hD : va_D A (MW cI cZ a (upd (upd (upd (upd v 7 (nI nc)) 13 (isum rt nc)) 14 (isum up nc)) 15 (isum (stp rt up) nc)) su sl (updF (updF (updF (updF F 5 rt) 6 up) 7 (upd X1 z ((pnt x rt z) - (((isum rt nc) * (isum (stp rt up) z)) / (isum (stp rt up) nc))))) 8 (upd Y1 z ((pnt y up z) - (((isum up nc) * (isum (stp rt up) z)) / (isum (stp rt up) nc)))))) := hD
              refine lv_iload_n hx hb dX7_layCorners_136 rfl (lv_at hl 1 rfl) ?_
              refine lv_aload_n hx hb dX7_layCorners_137 rfl (lv_at hl 0 rfl) ?_
              refine va_get (D := D) (ci := 9) (v := .ref (a 5)) (C := RX7) (T := TX7) (N := 24) hx hb hts (by decide +kernel) hown hK hP 0 rfl rfl 5 (by decide) (hts (.fieldLink RX7 23 "LandDeedsModel" "right" "[I") (by decide +kernel)) (fun _ h9 => h9) rfl dX7_layCorners_138 ?_
              refine lv_iload hx hb dX7_layCorners_141 (lv_at hl 3 rfl) ?_
              refine u_iald hx hb hK hP 5 0 rfl rfl rfl ⟨by omega, by omega⟩ dX7_layCorners_143 ?_
              refine lv_iadd hx hb dX7_layCorners_144 ?_
              refine u_eqi (show (pnt x rt z) + (rt z) = pnt x rt (z + 1) from rfl) ?_
              refine lv_istore_n (lv' := [(3, .int (pnt x rt (z + 1))), (0, .ref (a 0)), (4, .int (pnt y up z)), (5, .int (nI z))]) hx hb dX7_layCorners_145 rfl hl (by decide) rfl (fun ls hl => ?_)
              refine lv_iload hx hb dX7_layCorners_146 (lv_at hl 2 rfl) ?_
              refine lv_aload_n hx hb dX7_layCorners_148 rfl (lv_at hl 1 rfl) ?_
              refine va_get (D := D) (ci := 9) (v := .ref (a 6)) (C := RX7) (T := TX7) (N := 24) hx hb hts (by decide +kernel) hown hK hP 0 rfl rfl 6 (by decide) (hts (.fieldLink RX7 26 "LandDeedsModel" "up" "[I") (by decide +kernel)) (fun _ h9 => h9) rfl dX7_layCorners_149 ?_
              refine lv_iload hx hb dX7_layCorners_152 (lv_at hl 3 rfl) ?_
              refine u_iald hx hb hK hP 6 0 rfl rfl rfl ⟨by omega, by omega⟩ dX7_layCorners_154 ?_
              refine lv_iadd hx hb dX7_layCorners_155 ?_
              refine u_eqi (show (pnt y up z) + (up z) = pnt y up (z + 1) from rfl) ?_
              refine lv_istore (lv' := [(4, .int (pnt y up (z + 1))), (3, .int (pnt x rt (z + 1))), (0, .ref (a 0)), (5, .int (nI z))]) hx hb dX7_layCorners_156 hl (by decide) rfl (fun ls hl => ?_)
              refine lv_iinc (v := nI (z + 1)) (lv' := [(5, .int (nI (z + 1))), (4, .int (pnt y up (z + 1))), (3, .int (pnt x rt (z + 1))), (0, .ref (a 0))]) hx hb dX7_layCorners_158 hl (k := 3) rfl (nI_1 _) (by decide) rfl (fun ls hl => ?_)
              refine lv_goto (tgt := 76) hx hb dX7_layCorners_161 (by decide) ?_
              exact ih_76 (z + 1) (upd X1 z ((pnt x rt z) - (((isum rt nc) * (isum (stp rt up) z)) / (isum (stp rt up) nc)))) (upd Y1 z ((pnt y up z) - (((isum up nc) * (isum (stp rt up) z)) / (isum (stp rt up) nc)))) (by omega) (fun j hj => ⟨upd_on (f := crn nc x rt rt up) (fun j h => (hXY j h).1) rfl j hj, upd_on (f := crn nc y up rt up) (fun j h => (hXY j h).2) rfl j hj⟩) (by omega) _ _ hP hD hS ls (lv_sub hl [3, 2, 1, 0] rfl)
        exact LOOP_76 (nc - 0 + 1) 0 (F 7) (F 8) (Nat.zero_le _) (fun j h => absurd h (Nat.not_lt_zero _)) (Nat.lt_succ_self _) _ _ hP hD hS ls (lv_sub hl [3, 2, 1, 0] rfl)
      · skip
        have nc_1 : ¬ (nc ≤ z) := fun h => c_1 ((nI_leI (a := nc) (b := z) (by omega) (by omega)).mpr h)
        refine lv_aload_n hx hb dX7_layCorners_20 rfl (lv_at hl 0 rfl) ?_
        refine lv_dup hx hb dX7_layCorners_21 rfl ?_
        refine va_get (D := D) (ci := 9) (v := .int (isum rt z)) (C := RX7) (T := TX7) (N := 24) hx hb hts (by decide +kernel) hown hK hP 0 rfl rfl 13 (by decide) (hts (.fieldLink RX7 88 "LandDeedsModel" "missX" "I") (by decide +kernel)) (fun _ h9 => h9) rfl dX7_layCorners_22 ?_
        refine lv_aload_n hx hb dX7_layCorners_25 rfl (lv_at hl 0 rfl) ?_
        refine va_get (D := D) (ci := 9) (v := .ref (a 5)) (C := RX7) (T := TX7) (N := 24) hx hb hts (by decide +kernel) hown hK hP 0 rfl rfl 5 (by decide) (hts (.fieldLink RX7 23 "LandDeedsModel" "right" "[I") (by decide +kernel)) (fun _ h9 => h9) rfl dX7_layCorners_26 ?_
        refine lv_iload_n hx hb dX7_layCorners_29 rfl (lv_at hl 3 rfl) ?_
        refine u_iald hx hb hK hP 5 0 rfl rfl rfl ⟨by omega, by omega⟩ dX7_layCorners_30 ?_
        refine lv_iadd hx hb dX7_layCorners_31 ?_
        refine u_eqi (show (isum rt z) + (rt z) = isum rt (z + 1) from rfl) ?_
        refine va_put (D := D) (ci := 9) (v := .int (isum rt (z + 1))) (ty := .int) (C := RX7) (T := TX7) (N := 24) hx hb hts (by decide +kernel) tyX7 tyX7_ok nmX7 hown hK hP hD hS 0 rfl rfl 13 (by decide) (hts (.fieldLink RX7 88 "LandDeedsModel" "missX" "I") (by decide +kernel)) (fun _ h9 => h9) rfl (by decide +kernel) rfl rfl (Nat.le_of_ble_eq_true rfl) dX7_layCorners_32 (fun H locs hP hD hS => ?_)
        have hP : va_P D vwCl (MW cI cZ a (upd (upd (upd v 7 (nI nc)) 13 (isum rt (z + 1))) 14 (isum up z)) su sl (updF (updF F 5 rt) 6 up)) H := hP
        have hD : va_D A (MW cI cZ a (upd (upd (upd v 7 (nI nc)) 13 (isum rt (z + 1))) 14 (isum up z)) su sl (updF (updF F 5 rt) 6 up)) := hD
        refine lv_aload_n hx hb dX7_layCorners_35 rfl (lv_at hl 0 rfl) ?_
        refine lv_dup hx hb dX7_layCorners_36 rfl ?_
        refine va_get (D := D) (ci := 9) (v := .int (isum up z)) (C := RX7) (T := TX7) (N := 24) hx hb hts (by decide +kernel) hown hK hP 0 rfl rfl 14 (by decide) (hts (.fieldLink RX7 91 "LandDeedsModel" "missY" "I") (by decide +kernel)) (fun _ h9 => h9) rfl dX7_layCorners_37 ?_
        refine lv_aload_n hx hb dX7_layCorners_40 rfl (lv_at hl 0 rfl) ?_
        refine va_get (D := D) (ci := 9) (v := .ref (a 6)) (C := RX7) (T := TX7) (N := 24) hx hb hts (by decide +kernel) hown hK hP 0 rfl rfl 6 (by decide) (hts (.fieldLink RX7 26 "LandDeedsModel" "up" "[I") (by decide +kernel)) (fun _ h9 => h9) rfl dX7_layCorners_41 ?_
        refine lv_iload_n hx hb dX7_layCorners_44 rfl (lv_at hl 3 rfl) ?_
        refine u_iald hx hb hK hP 6 0 rfl rfl rfl ⟨by omega, by omega⟩ dX7_layCorners_45 ?_
        refine lv_iadd hx hb dX7_layCorners_46 ?_
        refine u_eqi (show (isum up z) + (up z) = isum up (z + 1) from rfl) ?_
        refine va_put (D := D) (ci := 9) (v := .int (isum up (z + 1))) (ty := .int) (C := RX7) (T := TX7) (N := 24) hx hb hts (by decide +kernel) tyX7 tyX7_ok nmX7 hown hK hP hD hS 0 rfl rfl 14 (by decide) (hts (.fieldLink RX7 91 "LandDeedsModel" "missY" "I") (by decide +kernel)) (fun _ h9 => h9) rfl (by decide +kernel) rfl rfl (Nat.le_of_ble_eq_true rfl) dX7_layCorners_47 (fun H locs hP hD hS => ?_)
        have hP : va_P D vwCl (MW cI cZ a (upd (upd (upd v 7 (nI nc)) 13 (isum rt (z + 1))) 14 (isum up (z + 1))) su sl (updF (updF F 5 rt) 6 up)) H := hP
        have hD : va_D A (MW cI cZ a (upd (upd (upd v 7 (nI nc)) 13 (isum rt (z + 1))) 14 (isum up (z + 1))) su sl (updF (updF F 5 rt) 6 up)) := hD
        refine lv_iinc (v := nI (z + 1)) (lv' := [(3, .int (nI (z + 1))), (0, .ref (a 0)), (1, .int x), (2, .int y)]) hx hb dX7_layCorners_50 hl (k := 3) rfl (nI_1 _) (by decide) rfl (fun ls hl => ?_)
        refine lv_goto (tgt := 12) hx hb dX7_layCorners_53 (by decide) ?_
        exact ih_12 (z + 1) (by omega) (by omega) _ _ hP hD hS ls (lv_sub hl [1, 2, 3, 0] rfl)
  exact LOOP_12 (nc - 0 + 1) 0 (Nat.zero_le _) (Nat.lt_succ_self _) _ _ hP hD hS ls (lv_sub hl [1, 2, 3, 0] rfl)

set_option maxHeartbeats 4000000 in
set_option maxRecDepth 100000 in
theorem c_X7_miss (l : Launch) (D : va_G) (cI cB cZ cP : ClassId) (sz : Nat) (a : Nat → Nat) (v : Nat → Int32) (su sl : Int64) (F : Nat → Nat → Int32) (n0 : Nat) (x : Int32) (hn0 : n0 ≤ 48) : Met l yX7_miss wsX7_miss ({ frames := 4, cells := 0, slots := 0, locals := 84 } : Room) (va_Pc [.ref (a 0), .int x] (fun U => U.heap.size = sz ∧ va_P D vwCl (MW cI cZ a (upd v 4 (nI n0)) su sl F) U.heap ∧ KW D cI cB cZ cP U ∧ va_D (fun _ => True) (MW cI cZ a (upd v 4 (nI n0)) su sl F) ∧ EF (MW cI cZ a (upd v 4 (nI n0)) su sl F) sz E0 U.heap)) (va_Qi (fun r (u : (Nat → Int32) × Int64 × Int64 × (Nat → Nat → Int32)) => match u with | (v1, su1, sl1, F1) => r = aMiss (F 4) n0 x ∧ v1 4 = nI n0 ∧ F1 1 = F 1 ∧ F1 2 = F 2 ∧ F1 3 = F 3 ∧ F1 4 = F 4) (fun (u : (Nat → Int32) × Int64 × Int64 × (Nat → Nat → Int32)) (t : State) => match u with | (v1, su1, sl1, F1) => va_P D vwCl (MW cI cZ a v1 su1 sl1 F1) t.heap ∧ va_D (va_A (MW cI cZ a (upd v 4 (nI n0)) su sl F) sz) (MW cI cZ a v1 su1 sl1 F1)) (va_A (MW cI cZ a (upd v 4 (nI n0)) su sl F) sz)) 0 0 (va_A (MW cI cZ a (upd v 4 (nI n0)) su sl F) sz) := by
  refine Met.ofW (cc := cX7_miss) (maxL := 2) (ret := (some .int)) (by decide) rfl ?_
  intro p e s m args below meth c s₁ B hml hv
  obtain ⟨rfl, hsz, hP, hW0, hD0, hE⟩ := hv
  have hx := B.exec
  have hb := B.bytes
  have hr := B.returns
  have hts := atoms_spec (ws := wsX7_miss) B.pre
  have hown : s.vm.findClass RX7 = some m.cls := findClass_of_methodNamed B.named
  have hlocks := B.notSynchronized
  have hK := hW0.1
  subst hsz
  have hD := hD0.self (sz := s.heap.size)
  unfold EF at hE
  generalize hAe : va_A (MW cI cZ a (upd v 4 (nI n0)) su sl F) s.heap.size = A at hD hE ⊢
  have hA : ∀ q : Nat, s.heap.size ≤ q → A q := fun q h => by rw [← hAe]; exact Or.inr h
  have hS : va_S A s.heap s.heap [] := va_S.rf
  have hl := lv_entry ([.ref (a 0), .int x]) (n := 2) (Nat.le_of_ble_eq_true rfl)
  rw [lg_entry_eq]
  generalize (lg_sl ([.ref (a 0), .int x]) ++ List.replicate (2 - (lg_sl ([.ref (a 0), .int x])).length) Slot.unset).toArray = ls at hl ⊢
  have hl : lv_has ls 2 [(0, .ref (a 0)), (1, .int x)] := hl
  show W p l e ({ frames := 4, cells := 0, slots := 0, locals := 84 } : Room) s m ([.ref (a 0), .int x] : List Value).toArray below meth c s.heap [] 0 0 _ (F0 m 0 ls [])
  refine u_genQ (fun Q hQ => ?_)
  refine lv_aload_n hx hb dX7_miss_0 rfl (lv_at hl 0 rfl) ?_
  have hPc := hP
  have hDc := hD
  have hFc := va_free (wc := (MW cI cZ a (upd v 4 (nI n0)) su sl F)) hD hS hA [0, 1, 2, 3, 4, 5, 6, 7, 8, 9, 10, 11, 12] rfl
  refine va_calli (va_runV (As := []) (rest := []) ⟨hx, hb, hml, hown, hts⟩ (c_X7_faultNow l D cI cB cZ cP s.heap.size a v su sl F n0 (by first | assumption | omega)) (cwV 0 hts gX7_miss_X7_faultNow rfl rfl rfl (by decide +kernel) ⟨Nat.le_of_ble_eq_true rfl, Nat.le_of_ble_eq_true rfl⟩) (pVQ (q0 := 0) hPc hDc hW0 EF.t rfl rfl) rfl rfl hl.1 rfl (lv_room (Nat.le_of_ble_eq_true rfl)) dX7_miss_1 ⟨Nat.le_of_ble_eq_true rfl, Nat.le_of_ble_eq_true rfl⟩) hS (fun q _ h => hFc q h) hFc (fun r_1 u t H1 locs ht hvm hw hB hz1 hk1 hS => ?_)
  obtain ⟨nc1_1, at1_1, wy1_1, nu1_1, rt1_1, up1_1⟩ := u
  obtain ⟨hP1, hD1⟩ := hB
  rw [ht] at hP1
  have hw_1 : MEnd (F 4) n0 nc1_1 rt1_1 up1_1 r_1 := hw
  obtain ⟨hP, hD⟩ := va_join (wr := []) (w1 := (MW cI cZ a (upd (upd (upd (upd (upd v 4 (nI n0)) 7 (nI nc1_1)) 8 at1_1) 9 wy1_1) 10 nu1_1) su sl (updF (updF F 5 rt1_1) 6 up1_1))) hP hD [0, 1, 2, 3, 4, 5, 6, 7, 8, 9, 10, 11, 12] [] rfl rfl (by decide) (by decide) hk1 hFc hP1 hD1
  generalize H1 = H at hP hS ⊢
  have hP : va_P D vwCl (MW cI cZ a (upd (upd (upd (upd (upd v 4 (nI n0)) 7 (nI nc1_1)) 8 at1_1) 9 wy1_1) 10 nu1_1) su sl (updF (updF F 5 rt1_1) 6 up1_1)) H := hP
  have hD : va_D A (MW cI cZ a (upd (upd (upd (upd (upd v 4 (nI n0)) 7 (nI nc1_1)) 8 at1_1) 9 wy1_1) 10 nu1_1) su sl (updF (updF F 5 rt1_1) 6 up1_1)) := hD
  refine lv_if_lt (tgt := 10) hx hb dX7_miss_4 (by decide) (fun c_2 => ?_) (fun c_2 => ?_)
  · skip
    obtain ⟨fe9, fn9, ht9, ho9, hq9, hj9⟩ := ME_get hw_1 hn0 c_2
    refine lv_iload_n hx hb dX7_miss_10 rfl (lv_at hl 1 rfl) ?_
    refine lv_iconst (v := 0) hx hb dX7_miss_11 (by decide) ?_
    refine lv_iconst (v := 2) hx hb dX7_miss_12 (by decide) ?_
    have hPc := hP.sub (ws' := []) [] rfl
    refine u_callSi (W.runS (As := [.int x, .int 0, .int 2]) (rest := []) ⟨hx, hb, hml, hown, hts⟩ (c_X7_in l D cI cB cZ cP x 0 2 ) (cwS 3 hts gX7_miss_X7_in rfl rfl rfl (by decide +kernel) ⟨Nat.le_of_ble_eq_true rfl, Nat.le_of_ble_eq_true rfl⟩) (pS hPc hW0 trivial) rfl rfl hl.1 rfl (lv_room (Nat.le_of_ble_eq_true rfl)) dX7_miss_13 ⟨Nat.le_of_ble_eq_true rfl, Nat.le_of_ble_eq_true rfl⟩) ?_
    refine lv_if_ne (tgt := 22) hx hb dX7_miss_16 (by decide) (fun c_3 => ?_) (fun c_3 => ?_)
    · skip
      have nc_3 := zb_ne0.mp c_3
      have hw9 : 0 ≤ x.toInt ∧ x.toInt ≤ 2 := by have h9 := nc_3; rw [li_0, li_2] at h9; exact h9
      refine lv_aload_n hx hb dX7_miss_22 rfl (lv_at hl 0 rfl) ?_
      refine lv_iconst (v := 0) hx hb dX7_miss_23 (by decide) ?_
      refine lv_iconst (v := 0) hx hb dX7_miss_24 (by decide) ?_
      have hPc := hP
      have hDc := hD
      have hFc := va_free (wc := (MW cI cZ a (upd (upd (upd (upd (upd v 4 (nI n0)) 7 (nI nc1_1)) 8 at1_1) 9 wy1_1) 10 nu1_1) su sl (updF (updF F 5 rt1_1) 6 up1_1))) hD hS hA [0, 1, 2, 3, 4, 5, 6, 7, 8, 9, 10, 11, 12] rfl
      refine va_callv (va_runV (As := [.int 0, .int 0]) (rest := []) ⟨hx, hb, hml, hown, hts⟩ (c_X7_layCorners l D cI cB cZ cP H.size a (upd (upd (upd (upd v 4 (nI n0)) 8 at1_1) 9 wy1_1) 10 nu1_1) su sl F nc1_1 rt1_1 up1_1 0 0 (ho9.2.1) (far_ne hq9)) (cwV 2 hts gX7_miss_X7_layCorners rfl rfl rfl (by decide +kernel) ⟨Nat.le_of_ble_eq_true rfl, Nat.le_of_ble_eq_true rfl⟩) (pVQ (q0 := 0) hPc hDc hW0 EF.t rfl rfl) rfl rfl hl.1 rfl (lv_room (Nat.le_of_ble_eq_true rfl)) dX7_miss_25 ⟨Nat.le_of_ble_eq_true rfl, Nat.le_of_ble_eq_true rfl⟩) hS (fun q _ h => hFc q h) hFc (fun u t H1 locs ht hvm hw hB hz1 hk1 hS => ?_)
      obtain ⟨X1_4, Y1_4⟩ := u
      obtain ⟨hP1, hD1⟩ := hB
      rw [ht] at hP1
      have hw_4 : ∀ j, j < nc1_1 → X1_4 j = crn nc1_1 0 rt1_1 rt1_1 up1_1 j ∧ Y1_4 j = crn nc1_1 0 up1_1 rt1_1 up1_1 j := hw
      obtain ⟨hP, hD⟩ := va_join (wr := []) (w1 := (MW cI cZ a (upd (upd (upd (upd (upd (upd (upd (upd v 4 (nI n0)) 7 (nI nc1_1)) 8 at1_1) 9 wy1_1) 10 nu1_1) 13 (isum rt1_1 nc1_1)) 14 (isum up1_1 nc1_1)) 15 (isum (stp rt1_1 up1_1) nc1_1)) su sl (updF (updF (updF (updF F 5 rt1_1) 6 up1_1) 7 X1_4) 8 Y1_4))) hP hD [0, 1, 2, 3, 4, 5, 6, 7, 8, 9, 10, 11, 12] [] rfl rfl (by decide) (by decide) hk1 hFc hP1 hD1
      generalize H1 = H at hP hS ⊢
      have hP : va_P D vwCl (MW cI cZ a (upd (upd (upd (upd (upd (upd (upd (upd v 4 (nI n0)) 7 (nI nc1_1)) 8 at1_1) 9 wy1_1) 10 nu1_1) 13 (isum rt1_1 nc1_1)) 14 (isum up1_1 nc1_1)) 15 (isum (stp rt1_1 up1_1) nc1_1)) su sl (updF (updF (updF (updF F 5 rt1_1) 6 up1_1) 7 X1_4) 8 Y1_4)) H := hP
      have hD : va_D A (MW cI cZ a (upd (upd (upd (upd (upd (upd (upd (upd v 4 (nI n0)) 7 (nI nc1_1)) 8 at1_1) 9 wy1_1) 10 nu1_1) 13 (isum rt1_1 nc1_1)) 14 (isum up1_1 nc1_1)) 15 (isum (stp rt1_1 up1_1) nc1_1)) su sl (updF (updF (updF (updF F 5 rt1_1) 6 up1_1) 7 X1_4) 8 Y1_4)) := hD
      refine lv_iload_n hx hb dX7_miss_28 rfl (lv_at hl 1 rfl) ?_
      refine lv_if_ne (tgt := 43) hx hb dX7_miss_29 (by decide) (fun c_5 => ?_) (fun c_5 => ?_)
      · skip
        refine lv_iload_n hx hb dX7_miss_43 rfl (lv_at hl 1 rfl) ?_
        refine lv_iconst (v := 1) hx hb dX7_miss_44 (by decide) ?_
        refine lv_icmp_ne (tgt := 59) hx hb dX7_miss_45 (by decide) (fun c_6 => ?_) (fun c_6 => ?_)
        · skip
          refine lv_aload_n hx hb dX7_miss_59 rfl (lv_at hl 0 rfl) ?_
          refine va_get (D := D) (ci := 9) (v := .int (isum (stp rt1_1 up1_1) nc1_1)) (C := RX7) (T := TX7) (N := 24) hx hb hts (by decide +kernel) hown hK hP 0 rfl rfl 15 (by decide) (hts (.fieldLink RX7 97 "LandDeedsModel" "far" "I") (by decide +kernel)) (fun _ h9 => h9) rfl dX7_miss_60 ?_
          rw [← hQ]
          have hP9 := hP
          have hD9 := hD
          exact W.iret (v := isum (stp rt1_1 up1_1) nc1_1) hx hb hr (fun t ht hW => ⟨⟨_, (upd (upd (upd (upd (upd (upd (upd (upd v 4 (nI n0)) 7 (nI nc1_1)) 8 at1_1) 9 wy1_1) 10 nu1_1) 13 (isum rt1_1 nc1_1)) 14 (isum up1_1 nc1_1)) 15 (isum (stp rt1_1 up1_1) nc1_1), su, sl, updF (updF (updF (updF F 5 rt1_1) 6 up1_1) 7 X1_4) 8 Y1_4), rfl, ⟨by show _ = aMiss (F 4) n0 x; unfold aMiss; rw [ht9]; show _ = cif _ _ _; rw [cif_t hw9, cif_f c_5, cif_f c_6, isum_congr _ (stp_congr hj9)], rfl, rfl, rfl, rfl, rfl⟩, by rw [ht]; exact hP9, hD9⟩, hS.F ht⟩) hS.2.2 dX7_miss_63
        · skip
          refine lv_aload_n hx hb dX7_miss_48 rfl (lv_at hl 0 rfl) ?_
          refine va_get (D := D) (ci := 9) (v := .int (isum up1_1 nc1_1)) (C := RX7) (T := TX7) (N := 24) hx hb hts (by decide +kernel) hown hK hP 0 rfl rfl 14 (by decide) (hts (.fieldLink RX7 91 "LandDeedsModel" "missY" "I") (by decide +kernel)) (fun _ h9 => h9) rfl dX7_miss_49 ?_
          refine lv_sipush (v := 1000) hx hb dX7_miss_52 (by decide) ?_
          refine lv_iadd hx hb dX7_miss_55 ?_
          refine lv_goto (tgt := 63) hx hb dX7_miss_56 (by decide) ?_
          rw [← hQ]
          have hP9 := hP
          have hD9 := hD
          exact W.iret (v := (isum up1_1 nc1_1) + 1000) hx hb hr (fun t ht hW => ⟨⟨_, (upd (upd (upd (upd (upd (upd (upd (upd v 4 (nI n0)) 7 (nI nc1_1)) 8 at1_1) 9 wy1_1) 10 nu1_1) 13 (isum rt1_1 nc1_1)) 14 (isum up1_1 nc1_1)) 15 (isum (stp rt1_1 up1_1) nc1_1), su, sl, updF (updF (updF (updF F 5 rt1_1) 6 up1_1) 7 X1_4) 8 Y1_4), rfl, ⟨by show _ = aMiss (F 4) n0 x; unfold aMiss; rw [ht9]; show _ = cif _ _ _; rw [cif_t hw9, cif_f c_5, cif_t c_6, isum_congr _ (fun j hj => (hj9 j hj).2)], rfl, rfl, rfl, rfl, rfl⟩, by rw [ht]; exact hP9, hD9⟩, hS.F ht⟩) hS.2.2 dX7_miss_63
      · skip
        refine lv_aload_n hx hb dX7_miss_32 rfl (lv_at hl 0 rfl) ?_
        refine va_get (D := D) (ci := 9) (v := .int (isum rt1_1 nc1_1)) (C := RX7) (T := TX7) (N := 24) hx hb hts (by decide +kernel) hown hK hP 0 rfl rfl 13 (by decide) (hts (.fieldLink RX7 88 "LandDeedsModel" "missX" "I") (by decide +kernel)) (fun _ h9 => h9) rfl dX7_miss_33 ?_
        refine lv_sipush (v := 1000) hx hb dX7_miss_36 (by decide) ?_
        refine lv_iadd hx hb dX7_miss_39 ?_
        refine lv_goto (tgt := 63) hx hb dX7_miss_40 (by decide) ?_
        rw [← hQ]
        have hP9 := hP
        have hD9 := hD
        exact W.iret (v := (isum rt1_1 nc1_1) + 1000) hx hb hr (fun t ht hW => ⟨⟨_, (upd (upd (upd (upd (upd (upd (upd (upd v 4 (nI n0)) 7 (nI nc1_1)) 8 at1_1) 9 wy1_1) 10 nu1_1) 13 (isum rt1_1 nc1_1)) 14 (isum up1_1 nc1_1)) 15 (isum (stp rt1_1 up1_1) nc1_1), su, sl, updF (updF (updF (updF F 5 rt1_1) 6 up1_1) 7 X1_4) 8 Y1_4), rfl, ⟨by show _ = aMiss (F 4) n0 x; unfold aMiss; rw [ht9]; show _ = cif _ _ _; rw [cif_t hw9, cif_t c_5, isum_congr _ (fun j hj => (hj9 j hj).1)], rfl, rfl, rfl, rfl, rfl⟩, by rw [ht]; exact hP9, hD9⟩, hS.F ht⟩) hS.2.2 dX7_miss_63
    · skip
      have nc_3 := zb_eq0.mp c_3
      have hw9 : ¬ (0 ≤ x.toInt ∧ x.toInt ≤ 2) := by have h9 := nc_3; rw [li_0, li_2] at h9; exact h9
      refine lv_bipush (v := (-2)) hx hb dX7_miss_19 (by decide) ?_
      rw [← hQ]
      have hP9 := hP
      have hD9 := hD
      exact W.iret (v := (-2)) hx hb hr (fun t ht hW => ⟨⟨_, (upd (upd (upd (upd (upd v 4 (nI n0)) 7 (nI nc1_1)) 8 at1_1) 9 wy1_1) 10 nu1_1, su, sl, updF (updF F 5 rt1_1) 6 up1_1), rfl, ⟨by show _ = aMiss (F 4) n0 x; unfold aMiss; rw [ht9]; show _ = cif _ _ _; exact (cif_f hw9).symm, rfl, rfl, rfl, rfl, rfl⟩, by rw [ht]; exact hP9, hD9⟩, hS.F ht⟩) hS.2.2 dX7_miss_21
  · skip
    have hno9 := ME_no hw_1 hn0 c_2
    refine lv_bipush (v := (-7)) hx hb dX7_miss_7 (by decide) ?_
    rw [← hQ]
    have hP9 := hP
    have hD9 := hD
    exact W.iret (v := (-7)) hx hb hr (fun t ht hW => ⟨⟨_, (upd (upd (upd (upd (upd v 4 (nI n0)) 7 (nI nc1_1)) 8 at1_1) 9 wy1_1) 10 nu1_1, su, sl, updF (updF F 5 rt1_1) 6 up1_1), rfl, ⟨by show _ = aMiss (F 4) n0 x; unfold aMiss; rw [hno9], rfl, rfl, rfl, rfl, rfl⟩, by rw [ht]; exact hP9, hD9⟩, hS.F ht⟩) hS.2.2 dX7_miss_9

set_option maxHeartbeats 4000000 in
set_option maxRecDepth 100000 in
theorem c_X7_deed (l : Launch) (D : va_G) (cI cB cZ cP : ClassId) (sz : Nat) (a : Nat → Nat) (v : Nat → Int32) (su sl : Int64) (F : Nat → Nat → Int32) (n0 kk : Nat) (x y yr : Int32) (hn0 : n0 ≤ 48) (hkk : kk ≤ 6) (e1 : F 1 108 = nI kk) : Met l yX7_deed wsX7_deed ({ frames := 6, cells := 0, slots := 0, locals := 136 } : Room) (va_Pc [.ref (a 0), .int x, .int y, .int yr] (fun U => U.heap.size = sz ∧ va_P D vwCl (MW cI cZ a (upd v 4 (nI n0)) su sl F) U.heap ∧ KW D cI cB cZ cP U ∧ va_D (fun _ => True) (MW cI cZ a (upd v 4 (nI n0)) su sl F) ∧ EF (MW cI cZ a (upd v 4 (nI n0)) su sl F) sz E0 U.heap)) (va_Qi (fun r (u : (Nat → Int32) × Int64 × Int64 × (Nat → Nat → Int32)) => match u with | (v1, su1, sl1, F1) => ∃ oo, DEED (F 4) n0 (F 1 109) kk x y yr r oo ∧ F1 2 = F 2 ∧ F1 3 = F 3 ∧ ((oo = none ∧ v1 4 = nI n0 ∧ F1 1 = F 1 ∧ F1 4 = F 4) ∨ ∃ nc X Y, oo = some (nc, X, Y) ∧ v1 4 = 0 ∧ ADD (F 1) (F1 1) kk nc X Y yr)) (fun (u : (Nat → Int32) × Int64 × Int64 × (Nat → Nat → Int32)) (t : State) => match u with | (v1, su1, sl1, F1) => va_P D vwCl (MW cI cZ a v1 su1 sl1 F1) t.heap ∧ va_D (va_A (MW cI cZ a (upd v 4 (nI n0)) su sl F) sz) (MW cI cZ a v1 su1 sl1 F1)) (va_A (MW cI cZ a (upd v 4 (nI n0)) su sl F) sz)) 0 0 (va_A (MW cI cZ a (upd v 4 (nI n0)) su sl F) sz) := by
  refine Met.ofW (cc := cX7_deed) (maxL := 6) (ret := (some .int)) (by decide) rfl ?_
  intro p e s m args below meth c s₁ B hml hv
  obtain ⟨rfl, hsz, hP, hW0, hD0, hE⟩ := hv
  have hx := B.exec
  have hb := B.bytes
  have hr := B.returns
  have hts := atoms_spec (ws := wsX7_deed) B.pre
  have hown : s.vm.findClass RX7 = some m.cls := findClass_of_methodNamed B.named
  have hlocks := B.notSynchronized
  have hK := hW0.1
  subst hsz
  have hD := hD0.self (sz := s.heap.size)
  unfold EF at hE
  generalize hAe : va_A (MW cI cZ a (upd v 4 (nI n0)) su sl F) s.heap.size = A at hD hE ⊢
  have hA : ∀ q : Nat, s.heap.size ≤ q → A q := fun q h => by rw [← hAe]; exact Or.inr h
  have hS : va_S A s.heap s.heap [] := va_S.rf
  have hl := lv_entry ([.ref (a 0), .int x, .int y, .int yr]) (n := 6) (Nat.le_of_ble_eq_true rfl)
  rw [lg_entry_eq]
  generalize (lg_sl ([.ref (a 0), .int x, .int y, .int yr]) ++ List.replicate (6 - (lg_sl ([.ref (a 0), .int x, .int y, .int yr])).length) Slot.unset).toArray = ls at hl ⊢
  have hl : lv_has ls 6 [(0, .ref (a 0)), (1, .int x), (2, .int y), (3, .int yr)] := hl
  show W p l e ({ frames := 6, cells := 0, slots := 0, locals := 136 } : Room) s m ([.ref (a 0), .int x, .int y, .int yr] : List Value).toArray below meth c s.heap [] 0 0 _ (F0 m 0 ls [])
  refine u_genQ (fun Q hQ => ?_)
  refine lv_iload_n hx hb dX7_deed_0 rfl (lv_at hl 1 rfl) ?_
  refine lv_iload_n hx hb dX7_deed_1 rfl (lv_at hl 2 rfl) ?_
  have hPc := hP.sub (ws' := []) [] rfl
  refine u_callSi (W.runS (As := [.int x, .int y]) (rest := []) ⟨hx, hb, hml, hown, hts⟩ (c_X7_isPost l D cI cB cZ cP x y ) (cwS 2 hts gX7_deed_X7_isPost rfl rfl rfl (by decide +kernel) ⟨Nat.le_of_ble_eq_true rfl, Nat.le_of_ble_eq_true rfl⟩) (pS hPc hW0 trivial) rfl rfl hl.1 rfl (lv_room (Nat.le_of_ble_eq_true rfl)) dX7_deed_2 ⟨Nat.le_of_ble_eq_true rfl, Nat.le_of_ble_eq_true rfl⟩) ?_
  refine lv_if_eq (tgt := 19) hx hb dX7_deed_5 (by decide) (fun c_1 => ?_) (fun c_1 => ?_)
  · skip
    have nc_1 := zb_eq0.mp c_1
    have hny9 : ¬ (isP x y ∧ 1 ≤ yr.toInt ∧ yr.toInt ≤ 999) := fun q => nc_1 q.1
    refine lv_bipush (v := (-2)) hx hb dX7_deed_19 (by decide) ?_
    rw [← hQ]
    have hP9 := hP
    have hD9 := hD
    exact W.iret (v := (-2)) hx hb hr (fun t ht hW => ⟨⟨_, (upd v 4 (nI n0), su, sl, F), rfl, ⟨none, Or.inl ⟨hny9, rfl, rfl⟩, rfl, rfl, Or.inl ⟨rfl, rfl, rfl, rfl⟩⟩, by rw [ht]; exact hP9, hD9⟩, hS.F ht⟩) hS.2.2 dX7_deed_21
  · skip
    have nc_1 := zb_ne0.mp c_1
    refine lv_iload_n hx hb dX7_deed_8 rfl (lv_at hl 3 rfl) ?_
    refine lv_iconst (v := 1) hx hb dX7_deed_9 (by decide) ?_
    refine lv_sipush (v := 999) hx hb dX7_deed_10 (by decide) ?_
    have hPc := hP.sub (ws' := []) [] rfl
    refine u_callSi (W.runS (As := [.int yr, .int 1, .int 999]) (rest := []) ⟨hx, hb, hml, hown, hts⟩ (c_X7_in l D cI cB cZ cP yr 1 999 ) (cwS 3 hts gX7_deed_X7_in rfl rfl rfl (by decide +kernel) ⟨Nat.le_of_ble_eq_true rfl, Nat.le_of_ble_eq_true rfl⟩) (pS hPc hW0 trivial) rfl rfl hl.1 rfl (lv_room (Nat.le_of_ble_eq_true rfl)) dX7_deed_13 ⟨Nat.le_of_ble_eq_true rfl, Nat.le_of_ble_eq_true rfl⟩) ?_
    refine lv_if_ne (tgt := 22) hx hb dX7_deed_16 (by decide) (fun c_2 => ?_) (fun c_2 => ?_)
    · skip
      have nc_2 := zb_ne0.mp c_2
      have hpy9 : isP x y ∧ 1 ≤ yr.toInt ∧ yr.toInt ≤ 999 := ⟨nc_1, by have h9 := nc_2; rw [li_1, li_999] at h9; exact h9⟩
      refine lv_aload_n hx hb dX7_deed_22 rfl (lv_at hl 0 rfl) ?_
      have hPc := hP
      have hDc := hD
      have hFc := va_free (wc := (MW cI cZ a (upd v 4 (nI n0)) su sl F)) hD hS hA [0, 1, 2, 3, 4, 5, 6, 7, 8, 9, 10, 11, 12] rfl
      refine va_calli (va_runV (As := []) (rest := []) ⟨hx, hb, hml, hown, hts⟩ (c_X7_faultNow l D cI cB cZ cP s.heap.size a v su sl F n0 (by first | assumption | omega)) (cwV 0 hts gX7_deed_X7_faultNow rfl rfl rfl (by decide +kernel) ⟨Nat.le_of_ble_eq_true rfl, Nat.le_of_ble_eq_true rfl⟩) (pVQ (q0 := 0) hPc hDc hW0 EF.t rfl rfl) rfl rfl hl.1 rfl (lv_room (Nat.le_of_ble_eq_true rfl)) dX7_deed_23 ⟨Nat.le_of_ble_eq_true rfl, Nat.le_of_ble_eq_true rfl⟩) hS (fun q _ h => hFc q h) hFc (fun r_3 u t H1 locs ht hvm hw hB hz1 hk1 hS => ?_)
      obtain ⟨nc1_3, at1_3, wy1_3, nu1_3, rt1_3, up1_3⟩ := u
      obtain ⟨hP1, hD1⟩ := hB
      rw [ht] at hP1
      have hw_3 : MEnd (F 4) n0 nc1_3 rt1_3 up1_3 r_3 := hw
      obtain ⟨hP, hD⟩ := va_join (wr := []) (w1 := (MW cI cZ a (upd (upd (upd (upd (upd v 4 (nI n0)) 7 (nI nc1_3)) 8 at1_3) 9 wy1_3) 10 nu1_3) su sl (updF (updF F 5 rt1_3) 6 up1_3))) hP hD [0, 1, 2, 3, 4, 5, 6, 7, 8, 9, 10, 11, 12] [] rfl rfl (by decide) (by decide) hk1 hFc hP1 hD1
      generalize H1 = H at hP hS ⊢
      have hP : va_P D vwCl (MW cI cZ a (upd (upd (upd (upd (upd v 4 (nI n0)) 7 (nI nc1_3)) 8 at1_3) 9 wy1_3) 10 nu1_3) su sl (updF (updF F 5 rt1_3) 6 up1_3)) H := hP
      have hD : va_D A (MW cI cZ a (upd (upd (upd (upd (upd v 4 (nI n0)) 7 (nI nc1_3)) 8 at1_3) 9 wy1_3) 10 nu1_3) su sl (updF (updF F 5 rt1_3) 6 up1_3)) := hD
      refine lv_if_lt (tgt := 32) hx hb dX7_deed_26 (by decide) (fun c_4 => ?_) (fun c_4 => ?_)
      · skip
        obtain ⟨fe9, fn9, ht9, ho9, hq9, hj9⟩ := ME_get hw_3 hn0 c_4
        have e9x := isum_congr nc1_3 (fun j hj => (hj9 j hj).1)
        have e9y := isum_congr nc1_3 (fun j hj => (hj9 j hj).2)
        have h88 : nc1_3 ≤ 8 := ho9.2.1
        refine lv_aload_n hx hb dX7_deed_32 rfl (lv_at hl 0 rfl) ?_
        refine lv_iload_n hx hb dX7_deed_33 rfl (lv_at hl 1 rfl) ?_
        refine lv_iload_n hx hb dX7_deed_34 rfl (lv_at hl 2 rfl) ?_
        have hPc := hP
        have hDc := hD
        have hFc := va_free (wc := (MW cI cZ a (upd (upd (upd (upd (upd v 4 (nI n0)) 7 (nI nc1_3)) 8 at1_3) 9 wy1_3) 10 nu1_3) su sl (updF (updF F 5 rt1_3) 6 up1_3))) hD hS hA [0, 1, 2, 3, 4, 5, 6, 7, 8, 9, 10, 11, 12] rfl
        refine va_callv (va_runV (As := [.int x, .int y]) (rest := []) ⟨hx, hb, hml, hown, hts⟩ (c_X7_layCorners l D cI cB cZ cP H.size a (upd (upd (upd (upd v 4 (nI n0)) 8 at1_3) 9 wy1_3) 10 nu1_3) su sl F nc1_3 rt1_3 up1_3 x y (ho9.2.1) (far_ne hq9)) (cwV 2 hts gX7_deed_X7_layCorners rfl rfl rfl (by decide +kernel) ⟨Nat.le_of_ble_eq_true rfl, Nat.le_of_ble_eq_true rfl⟩) (pVQ (q0 := 0) hPc hDc hW0 EF.t rfl rfl) rfl rfl hl.1 rfl (lv_room (Nat.le_of_ble_eq_true rfl)) dX7_deed_35 ⟨Nat.le_of_ble_eq_true rfl, Nat.le_of_ble_eq_true rfl⟩) hS (fun q _ h => hFc q h) hFc (fun u t H1 locs ht hvm hw hB hz1 hk1 hS => ?_)
        obtain ⟨X1_5, Y1_5⟩ := u
        obtain ⟨hP1, hD1⟩ := hB
        rw [ht] at hP1
        have hw_5 : ∀ j, j < nc1_3 → X1_5 j = crn nc1_3 x rt1_3 rt1_3 up1_3 j ∧ Y1_5 j = crn nc1_3 y up1_3 rt1_3 up1_3 j := hw
        obtain ⟨hP, hD⟩ := va_join (wr := []) (w1 := (MW cI cZ a (upd (upd (upd (upd (upd (upd (upd (upd v 4 (nI n0)) 7 (nI nc1_3)) 8 at1_3) 9 wy1_3) 10 nu1_3) 13 (isum rt1_3 nc1_3)) 14 (isum up1_3 nc1_3)) 15 (isum (stp rt1_3 up1_3) nc1_3)) su sl (updF (updF (updF (updF F 5 rt1_3) 6 up1_3) 7 X1_5) 8 Y1_5))) hP hD [0, 1, 2, 3, 4, 5, 6, 7, 8, 9, 10, 11, 12] [] rfl rfl (by decide) (by decide) hk1 hFc hP1 hD1
        generalize H1 = H at hP hS ⊢
        have hP : va_P D vwCl (MW cI cZ a (upd (upd (upd (upd (upd (upd (upd (upd v 4 (nI n0)) 7 (nI nc1_3)) 8 at1_3) 9 wy1_3) 10 nu1_3) 13 (isum rt1_3 nc1_3)) 14 (isum up1_3 nc1_3)) 15 (isum (stp rt1_3 up1_3) nc1_3)) su sl (updF (updF (updF (updF F 5 rt1_3) 6 up1_3) 7 X1_5) 8 Y1_5)) H := hP
        have hD : va_D A (MW cI cZ a (upd (upd (upd (upd (upd (upd (upd (upd v 4 (nI n0)) 7 (nI nc1_3)) 8 at1_3) 9 wy1_3) 10 nu1_3) 13 (isum rt1_3 nc1_3)) 14 (isum up1_3 nc1_3)) 15 (isum (stp rt1_3 up1_3) nc1_3)) su sl (updF (updF (updF (updF F 5 rt1_3) 6 up1_3) 7 X1_5) 8 Y1_5)) := hD
        have hc9 : ∀ j, j < nc1_3 → X1_5 j = crn nc1_3 x fe9 fe9 fn9 j ∧ Y1_5 j = crn nc1_3 y fn9 fe9 fn9 j := fun j hj => ⟨(hw_5 j hj).1.trans (crn_congr (fun j hj => (hj9 j hj).1) hj9 hj), (hw_5 j hj).2.trans (crn_congr (fun j hj => (hj9 j hj).2) hj9 hj)⟩
        have hsn9 := stn_congr hc9
        refine lv_aload_n hx hb dX7_deed_38 rfl (lv_at hl 0 rfl) ?_
        refine va_get (D := D) (ci := 9) (v := .int (isum rt1_3 nc1_3)) (C := RX7) (T := TX7) (N := 24) hx hb hts (by decide +kernel) hown hK hP 0 rfl rfl 13 (by decide) (hts (.fieldLink RX7 88 "LandDeedsModel" "missX" "I") (by decide +kernel)) (fun _ h9 => h9) rfl dX7_deed_39 ?_
        have hPc := hP.sub (ws' := []) [] rfl
        refine u_callSi (W.runS (As := [.int (isum rt1_3 nc1_3)]) (rest := []) ⟨hx, hb, hml, hown, hts⟩ (c_X7_size l D cI cB cZ cP (isum rt1_3 nc1_3) ) (cwS 1 hts gX7_deed_X7_size rfl rfl rfl (by decide +kernel) ⟨Nat.le_of_ble_eq_true rfl, Nat.le_of_ble_eq_true rfl⟩) (pS hPc hW0 trivial) rfl rfl hl.1 rfl (lv_room (Nat.le_of_ble_eq_true rfl)) dX7_deed_42 ⟨Nat.le_of_ble_eq_true rfl, Nat.le_of_ble_eq_true rfl⟩) ?_
        refine lv_aload_n hx hb dX7_deed_45 rfl (lv_at hl 0 rfl) ?_
        refine va_get (D := D) (ci := 9) (v := .int (isum up1_3 nc1_3)) (C := RX7) (T := TX7) (N := 24) hx hb hts (by decide +kernel) hown hK hP 0 rfl rfl 14 (by decide) (hts (.fieldLink RX7 91 "LandDeedsModel" "missY" "I") (by decide +kernel)) (fun _ h9 => h9) rfl dX7_deed_46 ?_
        have hPc := hP.sub (ws' := []) [] rfl
        refine u_callSi (W.runS (As := [.int (isum up1_3 nc1_3)]) (rest := [.int (ab (isum rt1_3 nc1_3))]) ⟨hx, hb, hml, hown, hts⟩ (c_X7_size l D cI cB cZ cP (isum up1_3 nc1_3) ) (cwS 1 hts gX7_deed_X7_size rfl rfl rfl (by decide +kernel) ⟨Nat.le_of_ble_eq_true rfl, Nat.le_of_ble_eq_true rfl⟩) (pS hPc hW0 trivial) rfl rfl hl.1 rfl (lv_room (Nat.le_of_ble_eq_true rfl)) dX7_deed_49 ⟨Nat.le_of_ble_eq_true rfl, Nat.le_of_ble_eq_true rfl⟩) ?_
        refine lv_iadd hx hb dX7_deed_52 ?_
        refine lv_aload_n hx hb dX7_deed_53 rfl (lv_at hl 0 rfl) ?_
        refine va_get (D := D) (ci := 9) (v := .ref (a 1)) (C := RX7) (T := TX7) (N := 24) hx hb hts (by decide +kernel) hown hK hP 0 rfl rfl 0 (by decide) (hts (.fieldLink RX7 7 "LandDeedsModel" "state" "[I") (by decide +kernel)) (fun _ h9 => h9) rfl dX7_deed_54 ?_
        refine lv_bipush (v := 109) hx hb dX7_deed_57 (by decide) ?_
        refine u_iald hx hb hK hP 1 0 rfl rfl rfl ⟨by decide, by decide⟩ dX7_deed_59 ?_
        refine lv_icmp_le (tgt := 66) hx hb dX7_deed_60 (by decide) (fun c_6 => ?_) (fun c_6 => ?_)
        · skip
          refine lv_aload_n hx hb dX7_deed_66 rfl (lv_at hl 0 rfl) ?_
          have hPc := hP
          refine u_callSi (W.runV (As := []) (rest := []) ⟨hx, hb, hml, hown, hts⟩ (c_X7_stands l D cI cB cZ cP a (upd (upd (upd (upd (upd (upd (upd v 4 (nI n0)) 8 at1_3) 9 wy1_3) 10 nu1_3) 13 (isum rt1_3 nc1_3)) 14 (isum up1_3 nc1_3)) 15 (isum (stp rt1_3 up1_3) nc1_3)) su sl (updF (updF F 5 rt1_3) 6 up1_3) nc1_3 X1_5 Y1_5 (ho9.2.1) (ho9.1)) (cwV 0 hts gX7_deed_X7_stands rfl rfl rfl (by decide +kernel) ⟨Nat.le_of_ble_eq_true rfl, Nat.le_of_ble_eq_true rfl⟩) (pV (q0 := 0) hPc hW0 trivial rfl rfl) rfl rfl hl.1 rfl (lv_room (Nat.le_of_ble_eq_true rfl)) dX7_deed_67 ⟨Nat.le_of_ble_eq_true rfl, Nat.le_of_ble_eq_true rfl⟩) ?_
          refine lv_if_ne (tgt := 76) hx hb dX7_deed_70 (by decide) (fun c_7 => ?_) (fun c_7 => ?_)
          · skip
            have nc_7 := zb_ne0.mp c_7
            refine lv_aload_n hx hb dX7_deed_76 rfl (lv_at hl 0 rfl) ?_
            refine va_get (D := D) (ci := 9) (v := .ref (a 1)) (C := RX7) (T := TX7) (N := 24) hx hb hts (by decide +kernel) hown hK hP 0 rfl rfl 0 (by decide) (hts (.fieldLink RX7 7 "LandDeedsModel" "state" "[I") (by decide +kernel)) (fun _ h9 => h9) rfl dX7_deed_77 ?_
            refine lv_bipush (v := 108) hx hb dX7_deed_80 (by decide) ?_
            refine u_iald hx hb hK hP 1 0 rfl rfl rfl ⟨by decide, by decide⟩ dX7_deed_82 ?_
            refine u_eqi (show (F 1) 108 = nI kk from e1) ?_
            refine lv_bipush (v := 6) hx hb dX7_deed_83 (by decide) ?_
            refine lv_icmp_ne (tgt := 91) hx hb dX7_deed_85 (by decide) (fun c_8 => ?_) (fun c_8 => ?_)
            · skip
              have nc_8 : ¬ (kk = 6) := fun h => c_8 ((nI_eq (a := kk) (b := 6) (by omega) (by omega)).mpr h)
              have hlo9 : ¬ F 1 109 < ab (isum fe9 nc1_3) + ab (isum fn9 nc1_3) := by rw [← e9x, ← e9y]; exact fun q => absurd c_6 (Int32.not_le.mpr q)
              have hst9 := hsn9.mp nc_7
              have hk69 : ¬ kk = 6 := nc_8
              refine lv_aload_n hx hb dX7_deed_91 rfl (lv_at hl 0 rfl) ?_
              refine va_get (D := D) (ci := 9) (v := .ref (a 1)) (C := RX7) (T := TX7) (N := 24) hx hb hts (by decide +kernel) hown hK hP 0 rfl rfl 0 (by decide) (hts (.fieldLink RX7 7 "LandDeedsModel" "state" "[I") (by decide +kernel)) (fun _ h9 => h9) rfl dX7_deed_92 ?_
              refine lv_bipush (v := 108) hx hb dX7_deed_95 (by decide) ?_
              refine u_iald hx hb hK hP 1 0 rfl rfl rfl ⟨by decide, by decide⟩ dX7_deed_97 ?_
              refine u_eqi (show (F 1) 108 = nI kk from e1) ?_
              refine lv_istore (lv' := [(4, .int (nI kk)), (0, .ref (a 0)), (1, .int x), (2, .int y), (3, .int yr)]) hx hb dX7_deed_98 hl (by decide) rfl (fun ls hl => ?_)
              refine lv_aload_n hx hb dX7_deed_100 rfl (lv_at hl 1 rfl) ?_
              refine va_get (D := D) (ci := 9) (v := .ref (a 1)) (C := RX7) (T := TX7) (N := 24) hx hb hts (by decide +kernel) hown hK hP 0 rfl rfl 0 (by decide) (hts (.fieldLink RX7 7 "LandDeedsModel" "state" "[I") (by decide +kernel)) (fun _ h9 => h9) rfl dX7_deed_101 ?_
              refine lv_iconst (v := 0) hx hb dX7_deed_104 (by decide) ?_
              refine lv_iload hx hb dX7_deed_105 (lv_at hl 0 rfl) ?_
              refine lv_iadd hx hb dX7_deed_107 ?_
              refine u_eqi (show 0 + (nI kk) = nI kk from Int32.zero_add _) ?_
              refine lv_iload_n hx hb dX7_deed_108 rfl (lv_at hl 4 rfl) ?_
              refine u_iast hx hb hK hP hD hS 1 0 rfl rfl rfl ⟨by omega, by omega⟩ dX7_deed_109 (fun H locs hP hD hS => ?_)
              have hP : va_P D vwCl (MW cI cZ a (upd (upd (upd (upd (upd (upd (upd (upd v 4 (nI n0)) 7 (nI nc1_3)) 8 at1_3) 9 wy1_3) 10 nu1_3) 13 (isum rt1_3 nc1_3)) 14 (isum up1_3 nc1_3)) 15 (isum (stp rt1_3 up1_3) nc1_3)) su sl (updF (updF (updF (updF (updF F 1 (upd (F 1) kk yr)) 5 rt1_3) 6 up1_3) 7 X1_5) 8 Y1_5)) H := hP
              have hD : va_D A (MW cI cZ a (upd (upd (upd (upd (upd (upd (upd (upd v 4 (nI n0)) 7 (nI nc1_3)) 8 at1_3) 9 wy1_3) 10 nu1_3) 13 (isum rt1_3 nc1_3)) 14 (isum up1_3 nc1_3)) 15 (isum (stp rt1_3 up1_3) nc1_3)) su sl (updF (updF (updF (updF (updF F 1 (upd (F 1) kk yr)) 5 rt1_3) 6 up1_3) 7 X1_5) 8 Y1_5)) := hD
              refine lv_aload_n hx hb dX7_deed_110 rfl (lv_at hl 1 rfl) ?_
              refine va_get (D := D) (ci := 9) (v := .ref (a 1)) (C := RX7) (T := TX7) (N := 24) hx hb hts (by decide +kernel) hown hK hP 0 rfl rfl 0 (by decide) (hts (.fieldLink RX7 7 "LandDeedsModel" "state" "[I") (by decide +kernel)) (fun _ h9 => h9) rfl dX7_deed_111 ?_
              refine lv_bipush (v := 6) hx hb dX7_deed_114 (by decide) ?_
              refine lv_iload hx hb dX7_deed_116 (lv_at hl 0 rfl) ?_
              refine lv_iadd hx hb dX7_deed_118 ?_
              refine u_eqi (show 6 + (nI kk) = nI (6 + kk) from nI_add 6 kk) ?_
              refine lv_aload_n hx hb dX7_deed_119 rfl (lv_at hl 1 rfl) ?_
              refine va_get (D := D) (ci := 9) (v := .int (nI nc1_3)) (C := RX7) (T := TX7) (N := 24) hx hb hts (by decide +kernel) hown hK hP 0 rfl rfl 7 (by decide) (hts (.fieldLink RX7 58 "LandDeedsModel" "calls" "I") (by decide +kernel)) (fun _ h9 => h9) rfl dX7_deed_120 ?_
              refine u_iast hx hb hK hP hD hS 1 0 rfl rfl rfl ⟨by omega, by omega⟩ dX7_deed_123 (fun H locs hP hD hS => ?_)
              have hP : va_P D vwCl (MW cI cZ a (upd (upd (upd (upd (upd (upd (upd (upd v 4 (nI n0)) 7 (nI nc1_3)) 8 at1_3) 9 wy1_3) 10 nu1_3) 13 (isum rt1_3 nc1_3)) 14 (isum up1_3 nc1_3)) 15 (isum (stp rt1_3 up1_3) nc1_3)) su sl (updF (updF (updF (updF (updF F 1 (upd (upd (F 1) kk yr) (6 + kk) (nI nc1_3))) 5 rt1_3) 6 up1_3) 7 X1_5) 8 Y1_5)) H := hP
              have hD : va_D A (MW cI cZ a (upd (upd (upd (upd (upd (upd (upd (upd v 4 (nI n0)) 7 (nI nc1_3)) 8 at1_3) 9 wy1_3) 10 nu1_3) 13 (isum rt1_3 nc1_3)) 14 (isum up1_3 nc1_3)) 15 (isum (stp rt1_3 up1_3) nc1_3)) su sl (updF (updF (updF (updF (updF F 1 (upd (upd (F 1) kk yr) (6 + kk) (nI nc1_3))) 5 rt1_3) 6 up1_3) 7 X1_5) 8 Y1_5)) := hD
              refine lv_iconst (v := 0) hx hb dX7_deed_124 (by decide) ?_
              refine lv_istore (lv' := [(5, .int 0), (4, .int (nI kk)), (0, .ref (a 0)), (1, .int x), (2, .int y), (3, .int yr)]) hx hb dX7_deed_125 hl (by decide) rfl (fun ls hl => ?_)
              have LOOP_127 : ∀ (fu : Nat) (z : Nat) (S1 : Nat → Int32) (hz : z ≤ nc1_3) (hAW : ADW (F 1) S1 kk nc1_3 X1_5 Y1_5 yr z) (hn : nc1_3 - z < fu) (H : Heap) (locs : List Loc) (hP : va_P D vwCl (MW cI cZ a (upd (upd (upd (upd (upd (upd (upd (upd v 4 (nI n0)) 7 (nI nc1_3)) 8 at1_3) 9 wy1_3) 10 nu1_3) 13 (isum rt1_3 nc1_3)) 14 (isum up1_3 nc1_3)) 15 (isum (stp rt1_3 up1_3) nc1_3)) su sl (updF (updF (updF (updF (updF F 1 S1) 5 rt1_3) 6 up1_3) 7 X1_5) 8 Y1_5)) H) (hD : va_D A (MW cI cZ a (upd (upd (upd (upd (upd (upd (upd (upd v 4 (nI n0)) 7 (nI nc1_3)) 8 at1_3) 9 wy1_3) 10 nu1_3) 13 (isum rt1_3 nc1_3)) 14 (isum up1_3 nc1_3)) 15 (isum (stp rt1_3 up1_3) nc1_3)) su sl (updF (updF (updF (updF (updF F 1 S1) 5 rt1_3) 6 up1_3) 7 X1_5) 8 Y1_5))) (hS : va_S A s.heap H locs) (ls : Array Slot) (hl : lv_has ls 6 [(0, .ref (a 0)), (4, .int (nI kk)), (5, .int (nI z))]), W p l e ({ frames := 6, cells := 0, slots := 0, locals := 136 } : Room) s m ([.ref (a 0), .int x, .int y, .int yr] : List Value).toArray below meth c H locs 0 0 Q (F0 m 127 ls []) := by
                intro fu
                induction fu with
                | zero => intro z S1 hz hAW hn H locs hP hD hS ls hl; exact absurd hn (Nat.not_lt_zero _)
                | succ fu ih_127 =>
                  intro z S1 hz hAW hn H locs hP hD hS ls hl
                  refine lv_iload hx hb dX7_deed_127 (lv_at hl 2 rfl) ?_
                  refine lv_aload_n hx hb dX7_deed_129 rfl (lv_at hl 0 rfl) ?_
                  refine va_get (D := D) (ci := 9) (v := .int (nI nc1_3)) (C := RX7) (T := TX7) (N := 24) hx hb hts (by decide +kernel) hown hK hP 0 rfl rfl 7 (by decide) (hts (.fieldLink RX7 58 "LandDeedsModel" "calls" "I") (by decide +kernel)) (fun _ h9 => h9) rfl dX7_deed_130 ?_
                  refine lv_icmp_ge (tgt := 188) hx hb dX7_deed_133 (by decide) (fun c_9 => ?_) (fun c_9 => ?_)
                  · skip
                    have nc_9 : nc1_3 ≤ z := (nI_leI (a := nc1_3) (b := z) (by omega) (by omega)).mp c_9
                    have hz9 : z = nc1_3 := by omega
                    refine lv_aload_n hx hb dX7_deed_188 rfl (lv_at hl 0 rfl) ?_
                    refine va_get (D := D) (ci := 9) (v := .ref (a 1)) (C := RX7) (T := TX7) (N := 24) hx hb hts (by decide +kernel) hown hK hP 0 rfl rfl 0 (by decide) (hts (.fieldLink RX7 7 "LandDeedsModel" "state" "[I") (by decide +kernel)) (fun _ h9 => h9) rfl dX7_deed_189 ?_
                    refine lv_bipush (v := 108) hx hb dX7_deed_192 (by decide) ?_
                    refine lv_dup2_11 hx hb dX7_deed_194 rfl rfl ?_
                    refine u_iald hx hb hK hP 1 0 rfl rfl rfl ⟨by decide, by decide⟩ dX7_deed_195 ?_
                    refine u_eqi (show S1 108 = nI kk from hAW.1) ?_
                    refine lv_iconst (v := 1) hx hb dX7_deed_196 (by decide) ?_
                    refine lv_iadd hx hb dX7_deed_197 ?_
                    refine u_eqi (show (nI kk) + 1 = nI (kk + 1) from nI_1 kk) ?_
                    refine u_iast hx hb hK hP hD hS 1 0 rfl rfl rfl ⟨by decide, by decide⟩ dX7_deed_198 (fun H locs hP hD hS => ?_)
                    have hP : va_P D vwCl (MW cI cZ a (upd (upd (upd (upd (upd (upd (upd (upd v 4 (nI n0)) 7 (nI nc1_3)) 8 at1_3) 9 wy1_3) 10 nu1_3) 13 (isum rt1_3 nc1_3)) 14 (isum up1_3 nc1_3)) 15 (isum (stp rt1_3 up1_3) nc1_3)) su sl (updF (updF (updF (updF (updF F 1 (upd S1 108 (nI (kk + 1)))) 5 rt1_3) 6 up1_3) 7 X1_5) 8 Y1_5)) H := hP
                    have hD : va_D A (MW cI cZ a (upd (upd (upd (upd (upd (upd (upd (upd v 4 (nI n0)) 7 (nI nc1_3)) 8 at1_3) 9 wy1_3) 10 nu1_3) 13 (isum rt1_3 nc1_3)) 14 (isum up1_3 nc1_3)) 15 (isum (stp rt1_3 up1_3) nc1_3)) su sl (updF (updF (updF (updF (updF F 1 (upd S1 108 (nI (kk + 1)))) 5 rt1_3) 6 up1_3) 7 X1_5) 8 Y1_5)) := hD
                    refine lv_aload_n hx hb dX7_deed_199 rfl (lv_at hl 0 rfl) ?_
                    refine lv_iconst (v := 0) hx hb dX7_deed_200 (by decide) ?_
                    refine va_put (D := D) (ci := 9) (v := .int 0) (ty := .int) (C := RX7) (T := TX7) (N := 24) hx hb hts (by decide +kernel) tyX7 tyX7_ok nmX7 hown hK hP hD hS 0 rfl rfl 4 (by decide) (hts (.fieldLink RX7 74 "LandDeedsModel" "signs" "I") (by decide +kernel)) (fun _ h9 => h9) rfl (by decide +kernel) rfl rfl (Nat.le_of_ble_eq_true rfl) dX7_deed_201 (fun H locs hP hD hS => ?_)
                    have hP : va_P D vwCl (MW cI cZ a (upd (upd (upd (upd (upd (upd (upd (upd v 4 0) 7 (nI nc1_3)) 8 at1_3) 9 wy1_3) 10 nu1_3) 13 (isum rt1_3 nc1_3)) 14 (isum up1_3 nc1_3)) 15 (isum (stp rt1_3 up1_3) nc1_3)) su sl (updF (updF (updF (updF (updF F 1 (upd S1 108 (nI (kk + 1)))) 5 rt1_3) 6 up1_3) 7 X1_5) 8 Y1_5)) H := hP
                    have hD : va_D A (MW cI cZ a (upd (upd (upd (upd (upd (upd (upd (upd v 4 0) 7 (nI nc1_3)) 8 at1_3) 9 wy1_3) 10 nu1_3) 13 (isum rt1_3 nc1_3)) 14 (isum up1_3 nc1_3)) 15 (isum (stp rt1_3 up1_3) nc1_3)) su sl (updF (updF (updF (updF (updF F 1 (upd S1 108 (nI (kk + 1)))) 5 rt1_3) 6 up1_3) 7 X1_5) 8 Y1_5)) := hD
                    refine lv_iload hx hb dX7_deed_204 (lv_at hl 1 rfl) ?_
                    rw [← hQ]
                    have hP9 := hP
                    have hD9 := hD
                    exact W.iret (v := nI kk) hx hb hr (fun t ht hW => ⟨⟨_, (upd (upd (upd (upd (upd (upd (upd (upd v 4 0) 7 (nI nc1_3)) 8 at1_3) 9 wy1_3) 10 nu1_3) 13 (isum rt1_3 nc1_3)) 14 (isum up1_3 nc1_3)) 15 (isum (stp rt1_3 up1_3) nc1_3), su, sl, updF (updF (updF (updF (updF F 1 (upd S1 108 (nI (kk + 1)))) 5 rt1_3) 6 up1_3) 7 X1_5) 8 Y1_5), rfl, ⟨_, (Or.inr (Or.inr ⟨hpy9, _, _, _, ht9, Or.inr (Or.inr (Or.inr ⟨hlo9, hst9, hk69, rfl, rfl⟩))⟩)), rfl, rfl, Or.inr ⟨_, _, _, rfl, rfl, ADW_e (by omega) h88 (hz9 ▸ hAW) hc9⟩⟩, by rw [ht]; exact hP9, hD9⟩, hS.F ht⟩) hS.2.2 dX7_deed_206
                  · skip
                    have nc_9 : ¬ (nc1_3 ≤ z) := fun h => c_9 ((nI_leI (a := nc1_3) (b := z) (by omega) (by omega)).mpr h)
                    refine lv_aload_n hx hb dX7_deed_136 rfl (lv_at hl 0 rfl) ?_
                    refine va_get (D := D) (ci := 9) (v := .ref (a 1)) (C := RX7) (T := TX7) (N := 24) hx hb hts (by decide +kernel) hown hK hP 0 rfl rfl 0 (by decide) (hts (.fieldLink RX7 7 "LandDeedsModel" "state" "[I") (by decide +kernel)) (fun _ h9 => h9) rfl dX7_deed_137 ?_
                    refine lv_bipush (v := 12) hx hb dX7_deed_140 (by decide) ?_
                    refine lv_bipush (v := 8) hx hb dX7_deed_142 (by decide) ?_
                    refine lv_iload hx hb dX7_deed_144 (lv_at hl 1 rfl) ?_
                    refine lv_imul hx hb dX7_deed_146 ?_
                    refine u_eqi (show 8 * (nI kk) = nI (8 * kk) from nI_m 8 kk) ?_
                    refine lv_iadd hx hb dX7_deed_147 ?_
                    refine u_eqi (show 12 + (nI (8 * kk)) = nI (12 + 8 * kk) from nI_add 12 _) ?_
                    refine lv_iload hx hb dX7_deed_148 (lv_at hl 2 rfl) ?_
                    refine lv_iadd hx hb dX7_deed_150 ?_
                    refine u_eqi (show (nI (12 + 8 * kk)) + (nI z) = nI (12 + 8 * kk + z) from nI_add _ _) ?_
                    refine lv_aload_n hx hb dX7_deed_151 rfl (lv_at hl 0 rfl) ?_
                    refine va_get (D := D) (ci := 9) (v := .ref (a 7)) (C := RX7) (T := TX7) (N := 24) hx hb hts (by decide +kernel) hown hK hP 0 rfl rfl 11 (by decide) (hts (.fieldLink RX7 29 "LandDeedsModel" "cx" "[I") (by decide +kernel)) (fun _ h9 => h9) rfl dX7_deed_152 ?_
                    refine lv_iload hx hb dX7_deed_155 (lv_at hl 2 rfl) ?_
                    refine u_iald hx hb hK hP 7 0 rfl rfl rfl ⟨by omega, by omega⟩ dX7_deed_157 ?_
                    refine u_iast hx hb hK hP hD hS 1 0 rfl rfl rfl ⟨by omega, by omega⟩ dX7_deed_158 (fun H locs hP hD hS => ?_)
                    have hP : va_P D vwCl (MW cI cZ a (upd (upd (upd (upd (upd (upd (upd (upd v 4 (nI n0)) 7 (nI nc1_3)) 8 at1_3) 9 wy1_3) 10 nu1_3) 13 (isum rt1_3 nc1_3)) 14 (isum up1_3 nc1_3)) 15 (isum (stp rt1_3 up1_3) nc1_3)) su sl (updF (updF (updF (updF (updF F 1 (upd S1 (12 + 8 * kk + z) (X1_5 z))) 5 rt1_3) 6 up1_3) 7 X1_5) 8 Y1_5)) H := hP
                    have hD : va_D A (MW cI cZ a (upd (upd (upd (upd (upd (upd (upd (upd v 4 (nI n0)) 7 (nI nc1_3)) 8 at1_3) 9 wy1_3) 10 nu1_3) 13 (isum rt1_3 nc1_3)) 14 (isum up1_3 nc1_3)) 15 (isum (stp rt1_3 up1_3) nc1_3)) su sl (updF (updF (updF (updF (updF F 1 (upd S1 (12 + 8 * kk + z) (X1_5 z))) 5 rt1_3) 6 up1_3) 7 X1_5) 8 Y1_5)) := hD
                    refine lv_aload_n hx hb dX7_deed_159 rfl (lv_at hl 0 rfl) ?_
                    refine va_get (D := D) (ci := 9) (v := .ref (a 1)) (C := RX7) (T := TX7) (N := 24) hx hb hts (by decide +kernel) hown hK hP 0 rfl rfl 0 (by decide) (hts (.fieldLink RX7 7 "LandDeedsModel" "state" "[I") (by decide +kernel)) (fun _ h9 => h9) rfl dX7_deed_160 ?_
                    refine lv_bipush (v := 60) hx hb dX7_deed_163 (by decide) ?_
                    refine lv_bipush (v := 8) hx hb dX7_deed_165 (by decide) ?_
                    refine lv_iload hx hb dX7_deed_167 (lv_at hl 1 rfl) ?_
                    refine lv_imul hx hb dX7_deed_169 ?_
                    refine u_eqi (show 8 * (nI kk) = nI (8 * kk) from nI_m 8 kk) ?_
                    refine lv_iadd hx hb dX7_deed_170 ?_
                    refine u_eqi (show 60 + (nI (8 * kk)) = nI (60 + 8 * kk) from nI_add 60 _) ?_
                    refine lv_iload hx hb dX7_deed_171 (lv_at hl 2 rfl) ?_
                    refine lv_iadd hx hb dX7_deed_173 ?_
                    refine u_eqi (show (nI (60 + 8 * kk)) + (nI z) = nI (60 + 8 * kk + z) from nI_add _ _) ?_
                    refine lv_aload_n hx hb dX7_deed_174 rfl (lv_at hl 0 rfl) ?_
                    refine va_get (D := D) (ci := 9) (v := .ref (a 8)) (C := RX7) (T := TX7) (N := 24) hx hb hts (by decide +kernel) hown hK hP 0 rfl rfl 12 (by decide) (hts (.fieldLink RX7 32 "LandDeedsModel" "cy" "[I") (by decide +kernel)) (fun _ h9 => h9) rfl dX7_deed_175 ?_
                    refine lv_iload hx hb dX7_deed_178 (lv_at hl 2 rfl) ?_
                    refine u_iald hx hb hK hP 8 0 rfl rfl rfl ⟨by omega, by omega⟩ dX7_deed_180 ?_
                    refine u_iast hx hb hK hP hD hS 1 0 rfl rfl rfl ⟨by omega, by omega⟩ dX7_deed_181 (fun H locs hP hD hS => ?_)
                    have hP : va_P D vwCl (MW cI cZ a (upd (upd (upd (upd (upd (upd (upd (upd v 4 (nI n0)) 7 (nI nc1_3)) 8 at1_3) 9 wy1_3) 10 nu1_3) 13 (isum rt1_3 nc1_3)) 14 (isum up1_3 nc1_3)) 15 (isum (stp rt1_3 up1_3) nc1_3)) su sl (updF (updF (updF (updF (updF F 1 (upd (upd S1 (12 + 8 * kk + z) (X1_5 z)) (60 + 8 * kk + z) (Y1_5 z))) 5 rt1_3) 6 up1_3) 7 X1_5) 8 Y1_5)) H := hP
                    have hD : va_D A (MW cI cZ a (upd (upd (upd (upd (upd (upd (upd (upd v 4 (nI n0)) 7 (nI nc1_3)) 8 at1_3) 9 wy1_3) 10 nu1_3) 13 (isum rt1_3 nc1_3)) 14 (isum up1_3 nc1_3)) 15 (isum (stp rt1_3 up1_3) nc1_3)) su sl (updF (updF (updF (updF (updF F 1 (upd (upd S1 (12 + 8 * kk + z) (X1_5 z)) (60 + 8 * kk + z) (Y1_5 z))) 5 rt1_3) 6 up1_3) 7 X1_5) 8 Y1_5)) := hD
                    refine lv_iinc (v := nI (z + 1)) (lv' := [(5, .int (nI (z + 1))), (0, .ref (a 0)), (4, .int (nI kk))]) hx hb dX7_deed_182 hl (k := 2) rfl (nI_1 _) (by decide) rfl (fun ls hl => ?_)
                    refine lv_goto (tgt := 127) hx hb dX7_deed_185 (by decide) ?_
                    exact ih_127 (z + 1) (upd (upd S1 (12 + 8 * kk + z) (X1_5 z)) (60 + 8 * kk + z) (Y1_5 z)) (by omega) (ADW_s (by omega) (by omega) hAW) (by omega) _ _ hP hD hS ls (lv_sub hl [1, 2, 0] rfl)
              exact LOOP_127 (nc1_3 - 0 + 1) 0 (upd (upd (F 1) kk yr) (6 + kk) (nI nc1_3)) (Nat.zero_le _) (ADW_0 (by omega) e1) (Nat.lt_succ_self _) _ _ hP hD hS ls (lv_sub hl [2, 1, 0] rfl)
            · skip
              have nc_8 : kk = 6 := (nI_eq (a := kk) (b := 6) (by omega) (by omega)).mp c_8
              refine lv_bipush (v := (-4)) hx hb dX7_deed_88 (by decide) ?_
              rw [← hQ]
              have hP9 := hP
              have hD9 := hD
              exact W.iret (v := (-4)) hx hb hr (fun t ht hW => ⟨⟨_, (upd (upd (upd (upd (upd (upd (upd (upd v 4 (nI n0)) 7 (nI nc1_3)) 8 at1_3) 9 wy1_3) 10 nu1_3) 13 (isum rt1_3 nc1_3)) 14 (isum up1_3 nc1_3)) 15 (isum (stp rt1_3 up1_3) nc1_3), su, sl, updF (updF (updF (updF F 5 rt1_3) 6 up1_3) 7 X1_5) 8 Y1_5), rfl, ⟨none, (Or.inr (Or.inr ⟨hpy9, _, _, _, ht9, Or.inr (Or.inr (Or.inl ⟨by rw [← e9x, ← e9y]; exact fun q => absurd c_6 (Int32.not_le.mpr q), hsn9.mp nc_7, nc_8, rfl, rfl⟩))⟩)), rfl, rfl, Or.inl ⟨rfl, rfl, rfl, rfl⟩⟩, by rw [ht]; exact hP9, hD9⟩, hS.F ht⟩) hS.2.2 dX7_deed_90
          · skip
            have nc_7 := zb_eq0.mp c_7
            refine lv_bipush (v := (-8)) hx hb dX7_deed_73 (by decide) ?_
            rw [← hQ]
            have hP9 := hP
            have hD9 := hD
            exact W.iret (v := (-8)) hx hb hr (fun t ht hW => ⟨⟨_, (upd (upd (upd (upd (upd (upd (upd (upd v 4 (nI n0)) 7 (nI nc1_3)) 8 at1_3) 9 wy1_3) 10 nu1_3) 13 (isum rt1_3 nc1_3)) 14 (isum up1_3 nc1_3)) 15 (isum (stp rt1_3 up1_3) nc1_3), su, sl, updF (updF (updF (updF F 5 rt1_3) 6 up1_3) 7 X1_5) 8 Y1_5), rfl, ⟨none, (Or.inr (Or.inr ⟨hpy9, _, _, _, ht9, Or.inr (Or.inl ⟨by rw [← e9x, ← e9y]; exact fun q => absurd c_6 (Int32.not_le.mpr q), fun q => nc_7 (hsn9.mpr q), rfl, rfl⟩)⟩)), rfl, rfl, Or.inl ⟨rfl, rfl, rfl, rfl⟩⟩, by rw [ht]; exact hP9, hD9⟩, hS.F ht⟩) hS.2.2 dX7_deed_75
        · skip
          refine lv_bipush (v := (-5)) hx hb dX7_deed_63 (by decide) ?_
          rw [← hQ]
          have hP9 := hP
          have hD9 := hD
          exact W.iret (v := (-5)) hx hb hr (fun t ht hW => ⟨⟨_, (upd (upd (upd (upd (upd (upd (upd (upd v 4 (nI n0)) 7 (nI nc1_3)) 8 at1_3) 9 wy1_3) 10 nu1_3) 13 (isum rt1_3 nc1_3)) 14 (isum up1_3 nc1_3)) 15 (isum (stp rt1_3 up1_3) nc1_3), su, sl, updF (updF (updF (updF F 5 rt1_3) 6 up1_3) 7 X1_5) 8 Y1_5), rfl, ⟨none, (Or.inr (Or.inr ⟨hpy9, _, _, _, ht9, Or.inl ⟨by rw [← e9x, ← e9y]; exact Int32.not_le.mp c_6, rfl, rfl⟩⟩)), rfl, rfl, Or.inl ⟨rfl, rfl, rfl, rfl⟩⟩, by rw [ht]; exact hP9, hD9⟩, hS.F ht⟩) hS.2.2 dX7_deed_65
      · skip
        have hno9 := ME_no hw_3 hn0 c_4
        refine lv_bipush (v := (-7)) hx hb dX7_deed_29 (by decide) ?_
        rw [← hQ]
        have hP9 := hP
        have hD9 := hD
        exact W.iret (v := (-7)) hx hb hr (fun t ht hW => ⟨⟨_, (upd (upd (upd (upd (upd v 4 (nI n0)) 7 (nI nc1_3)) 8 at1_3) 9 wy1_3) 10 nu1_3, su, sl, updF (updF F 5 rt1_3) 6 up1_3), rfl, ⟨none, Or.inr (Or.inl ⟨hpy9, hno9, rfl, rfl⟩), rfl, rfl, Or.inl ⟨rfl, rfl, rfl, rfl⟩⟩, by rw [ht]; exact hP9, hD9⟩, hS.F ht⟩) hS.2.2 dX7_deed_31
    · skip
      have nc_2 := zb_eq0.mp c_2
      have hny9 : ¬ (isP x y ∧ 1 ≤ yr.toInt ∧ yr.toInt ≤ 999) := fun q => nc_2 (by rw [li_1, li_999]; exact q.2)
      refine lv_bipush (v := (-2)) hx hb dX7_deed_19 (by decide) ?_
      rw [← hQ]
      have hP9 := hP
      have hD9 := hD
      exact W.iret (v := (-2)) hx hb hr (fun t ht hW => ⟨⟨_, (upd v 4 (nI n0), su, sl, F), rfl, ⟨none, Or.inl ⟨hny9, rfl, rfl⟩, rfl, rfl, Or.inl ⟨rfl, rfl, rfl, rfl⟩⟩, by rw [ht]; exact hP9, hD9⟩, hS.F ht⟩) hS.2.2 dX7_deed_21

