set_option maxHeartbeats 4000000 in
set_option maxRecDepth 100000 in
theorem c_X7_write (l : Launch) (D : va_G) (cI cB cZ cP : ClassId) (sz : Nat) (a : Nat → Nat) (v : Nat → Int32) (su sl : Int64) (F : Nat → Nat → Int32) (g : Nat → Int32) (wt : List Int32) (x : Int32) (hR : rowIs g wt) (hL : wt.length < 64) : Met l yX7_write wsX7_write ({ frames := 0, cells := 0, slots := 0, locals := 0 } : Room) (va_Pc [.ref (a 0), .int x] (fun U => U.heap.size = sz ∧ va_P D vwCl (MW cI cZ a (upd v 18 (nI wt.length)) su sl (updF F 10 g)) U.heap ∧ KW D cI cB cZ cP U ∧ va_D (fun _ => True) (MW cI cZ a (upd v 18 (nI wt.length)) su sl (updF F 10 g)) ∧ EF (MW cI cZ a (upd v 18 (nI wt.length)) su sl (updF F 10 g)) sz E0 U.heap)) (va_Qv (fun (g1 : Nat → Int32) => rowIs g1 (wt ++ [x])) (fun (g1 : Nat → Int32) (t : State) => va_P D vwCl (MW cI cZ a (upd v 18 (nI (wt ++ [x]).length)) su sl (updF F 10 g1)) t.heap ∧ va_D (va_A (MW cI cZ a (upd v 18 (nI wt.length)) su sl (updF F 10 g)) sz) (MW cI cZ a (upd v 18 (nI (wt ++ [x]).length)) su sl (updF F 10 g1))) (va_A (MW cI cZ a (upd v 18 (nI wt.length)) su sl (updF F 10 g)) sz)) 0 0 (va_A (MW cI cZ a (upd v 18 (nI wt.length)) su sl (updF F 10 g)) sz) := by
  refine Met.ofW (cc := cX7_write) (maxL := 2) (ret := none) (by decide) rfl ?_
  intro p e s m args below meth c s₁ B hml hv
  obtain ⟨rfl, hsz, hP, hW0, hD0, hE⟩ := hv
  have hx := B.exec
  have hb := B.bytes
  have hr := B.returns
  have hts := atoms_spec (ws := wsX7_write) B.pre
  have hown : s.vm.findClass RX7 = some m.cls := findClass_of_methodNamed B.named
  have hlocks := B.notSynchronized
  have hK := hW0.1
  subst hsz
  have hD := hD0.self (sz := s.heap.size)
  unfold EF at hE
  generalize hAe : va_A (MW cI cZ a (upd v 18 (nI wt.length)) su sl (updF F 10 g)) s.heap.size = A at hD hE ⊢
  have hA : ∀ q : Nat, s.heap.size ≤ q → A q := fun q h => by rw [← hAe]; exact Or.inr h
  have hS : va_S A s.heap s.heap [] := va_S.rf
  have hl := lv_entry ([.ref (a 0), .int x]) (n := 2) (Nat.le_of_ble_eq_true rfl)
  rw [lg_entry_eq]
  generalize (lg_sl ([.ref (a 0), .int x]) ++ List.replicate (2 - (lg_sl ([.ref (a 0), .int x])).length) Slot.unset).toArray = ls at hl ⊢
  have hl : lv_has ls 2 [(0, .ref (a 0)), (1, .int x)] := hl
  show W p l e ({ frames := 0, cells := 0, slots := 0, locals := 0 } : Room) s m ([.ref (a 0), .int x] : List Value).toArray below meth c s.heap [] 0 0 _ (F0 m 0 ls [])
  refine u_genQ (fun Q hQ => ?_)
  refine lv_aload_n hx hb dX7_write_0 rfl (lv_at hl 0 rfl) ?_
  refine va_get (D := D) (ci := 9) (v := .ref (a 10)) (C := RX7) (T := TX7) (N := 24) hx hb hts (by decide +kernel) hown hK hP 0 rfl rfl 17 (by decide) (hts (.fieldLink RX7 38 "LandDeedsModel" "row" "[I") (by decide +kernel)) (fun _ h9 => h9) rfl dX7_write_1 ?_
  refine lv_aload_n hx hb dX7_write_4 rfl (lv_at hl 0 rfl) ?_
  refine va_get (D := D) (ci := 9) (v := .int (nI wt.length)) (C := RX7) (T := TX7) (N := 24) hx hb hts (by decide +kernel) hown hK hP 0 rfl rfl 18 (by decide) (hts (.fieldLink RX7 165 "LandDeedsModel" "written" "I") (by decide +kernel)) (fun _ h9 => h9) rfl dX7_write_5 ?_
  refine lv_iload_n hx hb dX7_write_8 rfl (lv_at hl 1 rfl) ?_
  refine u_iast hx hb hK hP hD hS 10 0 rfl rfl rfl ⟨by omega, by omega⟩ dX7_write_9 (fun H locs hP hD hS => ?_)
  have hP : va_P D vwCl (MW cI cZ a (upd v 18 (nI wt.length)) su sl (updF F 10 (upd g wt.length x))) H := hP
  have hD : va_D A (MW cI cZ a (upd v 18 (nI wt.length)) su sl (updF F 10 (upd g wt.length x))) := hD
  refine lv_aload_n hx hb dX7_write_10 rfl (lv_at hl 0 rfl) ?_
  refine lv_dup hx hb dX7_write_11 rfl ?_
  refine va_get (D := D) (ci := 9) (v := .int (nI wt.length)) (C := RX7) (T := TX7) (N := 24) hx hb hts (by decide +kernel) hown hK hP 0 rfl rfl 18 (by decide) (hts (.fieldLink RX7 165 "LandDeedsModel" "written" "I") (by decide +kernel)) (fun _ h9 => h9) rfl dX7_write_12 ?_
  refine lv_iconst (v := 1) hx hb dX7_write_15 (by decide) ?_
  refine lv_iadd hx hb dX7_write_16 ?_
  refine u_eqi (show (nI wt.length) + 1 = nI (wt ++ [x]).length from nI_len1 _ _) ?_
  refine va_put (D := D) (ci := 9) (v := .int (nI (wt ++ [x]).length)) (ty := .int) (C := RX7) (T := TX7) (N := 24) hx hb hts (by decide +kernel) tyX7 tyX7_ok nmX7 hown hK hP hD hS 0 rfl rfl 18 (by decide) (hts (.fieldLink RX7 165 "LandDeedsModel" "written" "I") (by decide +kernel)) (fun _ h9 => h9) rfl (by decide +kernel) rfl rfl (Nat.le_of_ble_eq_true rfl) dX7_write_17 (fun H locs hP hD hS => ?_)
  have hP : va_P D vwCl (MW cI cZ a (upd v 18 (nI (wt ++ [x]).length)) su sl (updF F 10 (upd g wt.length x))) H := hP
  have hD : va_D A (MW cI cZ a (upd v 18 (nI (wt ++ [x]).length)) su sl (updF F 10 (upd g wt.length x))) := hD
  rw [← hQ]
  have hP9 := hP
  have hD9 := hD
  exact W.vret hx hb hr (fun t ht hW => ⟨⟨upd g wt.length x, rfl, rowIs_app hR rfl, by rw [ht]; exact hP9, hD9⟩, hS.F ht⟩) hS.2.2 dX7_write_20

set_option maxHeartbeats 4000000 in
set_option maxRecDepth 100000 in
theorem c_X7_writeSteps (l : Launch) (D : va_G) (cI cB cZ cP : ClassId) (sz : Nat) (a : Nat → Nat) (v : Nat → Int32) (su sl : Int64) (F : Nat → Nat → Int32) (g : Nat → Int32) (wt : List Int32) (d la lb : Int32) (hR : rowIs g wt) (hL : wt.length + 3 ≤ 64) : Met l yX7_writeSteps wsX7_writeSteps ({ frames := 1, cells := 0, slots := 0, locals := 21 } : Room) (va_Pc [.ref (a 0), .int d, .int la, .int lb] (fun U => U.heap.size = sz ∧ va_P D vwCl (MW cI cZ a (upd v 18 (nI wt.length)) su sl (updF F 10 g)) U.heap ∧ KW D cI cB cZ cP U ∧ va_D (fun _ => True) (MW cI cZ a (upd v 18 (nI wt.length)) su sl (updF F 10 g)) ∧ EF (MW cI cZ a (upd v 18 (nI wt.length)) su sl (updF F 10 g)) sz E0 U.heap)) (va_Qv (fun (g1 : Nat → Int32) => rowIs g1 (wt ++ leg d la lb)) (fun (g1 : Nat → Int32) (t : State) => va_P D vwCl (MW cI cZ a (upd v 18 (nI (wt ++ leg d la lb).length)) su sl (updF F 10 g1)) t.heap ∧ va_D (va_A (MW cI cZ a (upd v 18 (nI wt.length)) su sl (updF F 10 g)) sz) (MW cI cZ a (upd v 18 (nI (wt ++ leg d la lb).length)) su sl (updF F 10 g1))) (va_A (MW cI cZ a (upd v 18 (nI wt.length)) su sl (updF F 10 g)) sz)) 0 0 (va_A (MW cI cZ a (upd v 18 (nI wt.length)) su sl (updF F 10 g)) sz) := by
  refine Met.ofW (cc := cX7_writeSteps) (maxL := 4) (ret := none) (by decide) rfl ?_
  intro p e s m args below meth c s₁ B hml hv
  obtain ⟨rfl, hsz, hP, hW0, hD0, hE⟩ := hv
  have hx := B.exec
  have hb := B.bytes
  have hr := B.returns
  have hts := atoms_spec (ws := wsX7_writeSteps) B.pre
  have hown : s.vm.findClass RX7 = some m.cls := findClass_of_methodNamed B.named
  have hlocks := B.notSynchronized
  have hK := hW0.1
  subst hsz
  have hD := hD0.self (sz := s.heap.size)
  unfold EF at hE
  generalize hAe : va_A (MW cI cZ a (upd v 18 (nI wt.length)) su sl (updF F 10 g)) s.heap.size = A at hD hE ⊢
  have hA : ∀ q : Nat, s.heap.size ≤ q → A q := fun q h => by rw [← hAe]; exact Or.inr h
  have hS : va_S A s.heap s.heap [] := va_S.rf
  have hl := lv_entry ([.ref (a 0), .int d, .int la, .int lb]) (n := 4) (Nat.le_of_ble_eq_true rfl)
  rw [lg_entry_eq]
  generalize (lg_sl ([.ref (a 0), .int d, .int la, .int lb]) ++ List.replicate (4 - (lg_sl ([.ref (a 0), .int d, .int la, .int lb])).length) Slot.unset).toArray = ls at hl ⊢
  have hl : lv_has ls 4 [(0, .ref (a 0)), (1, .int d), (2, .int la), (3, .int lb)] := hl
  show W p l e ({ frames := 1, cells := 0, slots := 0, locals := 21 } : Room) s m ([.ref (a 0), .int d, .int la, .int lb] : List Value).toArray below meth c s.heap [] 0 0 _ (F0 m 0 ls [])
  refine u_genQ (fun Q hQ => ?_)
  refine lv_iload_n hx hb dX7_writeSteps_0 rfl (lv_at hl 1 rfl) ?_
  refine lv_if_ne (tgt := 5) hx hb dX7_writeSteps_1 (by decide) (fun c_1 => ?_) (fun c_1 => ?_)
  · skip
    refine lv_aload_n hx hb dX7_writeSteps_5 rfl (lv_at hl 0 rfl) ?_
    refine lv_iload_n hx hb dX7_writeSteps_6 rfl (lv_at hl 1 rfl) ?_
    refine lv_if_le (tgt := 14) hx hb dX7_writeSteps_7 (by decide) (fun c_2 => ?_) (fun c_2 => ?_)
    · skip
      refine lv_iload_n hx hb dX7_writeSteps_14 rfl (lv_at hl 3 rfl) ?_
      have hPc := hP
      have hDc := hD
      have hFc := va_free (wc := (MW cI cZ a (upd v 18 (nI wt.length)) su sl (updF F 10 g))) hD hS hA [0, 1, 2, 3, 4, 5, 6, 7, 8, 9, 10, 11, 12] rfl
      refine va_callv (va_runV (As := [.int lb]) (rest := []) ⟨hx, hb, hml, hown, hts⟩ (c_X7_write l D cI cB cZ cP s.heap.size a v su sl F g wt lb (hR) (by (try simp only [List.length_append, List.length_singleton]); omega)) (cwV 1 hts gX7_writeSteps_X7_write rfl rfl rfl (by decide +kernel) ⟨Nat.le_of_ble_eq_true rfl, Nat.le_of_ble_eq_true rfl⟩) (pVQ (q0 := 0) hPc hDc hW0 EF.t rfl rfl) rfl rfl hl.1 rfl (lv_room (Nat.le_of_ble_eq_true rfl)) dX7_writeSteps_15 ⟨Nat.le_of_ble_eq_true rfl, Nat.le_of_ble_eq_true rfl⟩) hS (fun q _ h => hFc q h) hFc (fun u t H1 locs ht hvm hw hB hz1 hk1 hS => ?_)
      obtain ⟨g1_3, rfl⟩ : ∃ z, z = u := ⟨_, rfl⟩
      obtain ⟨hP1, hD1⟩ := hB
      rw [ht] at hP1
      have hw_3 : rowIs g1_3 (wt ++ [lb]) := hw
      obtain ⟨hP, hD⟩ := va_join (wr := []) (w1 := (MW cI cZ a (upd v 18 (nI (wt ++ [lb]).length)) su sl (updF F 10 g1_3))) hP hD [0, 1, 2, 3, 4, 5, 6, 7, 8, 9, 10, 11, 12] [] rfl rfl (by decide) (by decide) hk1 hFc hP1 hD1
      generalize H1 = H at hP hS ⊢
      have hP : va_P D vwCl (MW cI cZ a (upd v 18 (nI (wt ++ [lb]).length)) su sl (updF F 10 g1_3)) H := hP
      have hD : va_D A (MW cI cZ a (upd v 18 (nI (wt ++ [lb]).length)) su sl (updF F 10 g1_3)) := hD
      refine lv_iload_n hx hb dX7_writeSteps_18 rfl (lv_at hl 1 rfl) ?_
      have hPc := hP.sub (ws' := []) [] rfl
      refine u_callSi (W.runS (As := [.int d]) (rest := []) ⟨hx, hb, hml, hown, hts⟩ (c_X7_size l D cI cB cZ cP d ) (cwS 1 hts gX7_writeSteps_X7_size rfl rfl rfl (by decide +kernel) ⟨Nat.le_of_ble_eq_true rfl, Nat.le_of_ble_eq_true rfl⟩) (pS hPc hW0 trivial) rfl rfl hl.1 rfl (lv_room (Nat.le_of_ble_eq_true rfl)) dX7_writeSteps_19 ⟨Nat.le_of_ble_eq_true rfl, Nat.le_of_ble_eq_true rfl⟩) ?_
      refine lv_bipush (v := 9) hx hb dX7_writeSteps_22 (by decide) ?_
      refine lv_icmp_le (tgt := 41) hx hb dX7_writeSteps_24 (by decide) (fun c_4 => ?_) (fun c_4 => ?_)
      · skip
        refine lv_aload_n hx hb dX7_writeSteps_41 rfl (lv_at hl 0 rfl) ?_
        refine lv_bipush (v := 48) hx hb dX7_writeSteps_42 (by decide) ?_
        refine lv_iload_n hx hb dX7_writeSteps_44 rfl (lv_at hl 1 rfl) ?_
        have hPc := hP.sub (ws' := []) [] rfl
        refine u_callSi (W.runS (As := [.int d]) (rest := [.int 48, .ref (a 0)]) ⟨hx, hb, hml, hown, hts⟩ (c_X7_size l D cI cB cZ cP d ) (cwS 1 hts gX7_writeSteps_X7_size rfl rfl rfl (by decide +kernel) ⟨Nat.le_of_ble_eq_true rfl, Nat.le_of_ble_eq_true rfl⟩) (pS hPc hW0 trivial) rfl rfl hl.1 rfl (lv_room (Nat.le_of_ble_eq_true rfl)) dX7_writeSteps_45 ⟨Nat.le_of_ble_eq_true rfl, Nat.le_of_ble_eq_true rfl⟩) ?_
        refine lv_bipush (v := 10) hx hb dX7_writeSteps_48 (by decide) ?_
        refine lv_irem hx hb dX7_writeSteps_50 (by decide) ?_
        refine lv_iadd hx hb dX7_writeSteps_51 ?_
        have hPc := hP
        have hDc := hD
        have hFc := va_free (wc := (MW cI cZ a (upd v 18 (nI (wt ++ [lb]).length)) su sl (updF F 10 g1_3))) hD hS hA [0, 1, 2, 3, 4, 5, 6, 7, 8, 9, 10, 11, 12] rfl
        refine va_callv (va_runV (As := [.int (48 + ((ab d) - (ab d) / 10 * 10))]) (rest := []) ⟨hx, hb, hml, hown, hts⟩ (c_X7_write l D cI cB cZ cP H.size a v su sl F g1_3 (wt ++ [lb]) (48 + ((ab d) - (ab d) / 10 * 10)) (hw_3) (by (try simp only [List.length_append, List.length_singleton]); omega)) (cwV 1 hts gX7_writeSteps_X7_write rfl rfl rfl (by decide +kernel) ⟨Nat.le_of_ble_eq_true rfl, Nat.le_of_ble_eq_true rfl⟩) (pVQ (q0 := 0) hPc hDc hW0 EF.t rfl rfl) rfl rfl hl.1 rfl (lv_room (Nat.le_of_ble_eq_true rfl)) dX7_writeSteps_52 ⟨Nat.le_of_ble_eq_true rfl, Nat.le_of_ble_eq_true rfl⟩) hS (fun q _ h => hFc q h) hFc (fun u t H1 locs ht hvm hw hB hz1 hk1 hS => ?_)
        obtain ⟨g1_5, rfl⟩ : ∃ z, z = u := ⟨_, rfl⟩
        obtain ⟨hP1, hD1⟩ := hB
        rw [ht] at hP1
        have hw_5 : rowIs g1_5 ((wt ++ [lb]) ++ [(48 + ((ab d) - (ab d) / 10 * 10))]) := hw
        obtain ⟨hP, hD⟩ := va_join (wr := []) (w1 := (MW cI cZ a (upd v 18 (nI ((wt ++ [lb]) ++ [(48 + ((ab d) - (ab d) / 10 * 10))]).length)) su sl (updF F 10 g1_5))) hP hD [0, 1, 2, 3, 4, 5, 6, 7, 8, 9, 10, 11, 12] [] rfl rfl (by decide) (by decide) hk1 hFc hP1 hD1
        generalize H1 = H at hP hS ⊢
        have hP : va_P D vwCl (MW cI cZ a (upd v 18 (nI ((wt ++ [lb]) ++ [(48 + ((ab d) - (ab d) / 10 * 10))]).length)) su sl (updF F 10 g1_5)) H := hP
        have hD : va_D A (MW cI cZ a (upd v 18 (nI ((wt ++ [lb]) ++ [(48 + ((ab d) - (ab d) / 10 * 10))]).length)) su sl (updF F 10 g1_5)) := hD
        have hlg9 : wt ++ leg d la lb = (wt ++ [lb]) ++ [(48 + ((ab d) - (ab d) / 10 * 10))] := by unfold leg; rw [if_neg c_1, if_pos c_2, if_pos c_4]; simp
        rw [← show nI (wt ++ leg d la lb).length = nI ((wt ++ [lb]) ++ [(48 + ((ab d) - (ab d) / 10 * 10))]).length by rw [hlg9]] at hP hD
        rw [← hQ]
        have hP9 := hP
        have hD9 := hD
        exact W.vret hx hb hr (fun t ht hW => ⟨⟨g1_5, rfl, by rw [hlg9]; exact hw_5, by rw [ht]; exact hP9, hD9⟩, hS.F ht⟩) hS.2.2 dX7_writeSteps_55
      · skip
        refine lv_aload_n hx hb dX7_writeSteps_27 rfl (lv_at hl 0 rfl) ?_
        refine lv_bipush (v := 48) hx hb dX7_writeSteps_28 (by decide) ?_
        refine lv_iload_n hx hb dX7_writeSteps_30 rfl (lv_at hl 1 rfl) ?_
        have hPc := hP.sub (ws' := []) [] rfl
        refine u_callSi (W.runS (As := [.int d]) (rest := [.int 48, .ref (a 0)]) ⟨hx, hb, hml, hown, hts⟩ (c_X7_size l D cI cB cZ cP d ) (cwS 1 hts gX7_writeSteps_X7_size rfl rfl rfl (by decide +kernel) ⟨Nat.le_of_ble_eq_true rfl, Nat.le_of_ble_eq_true rfl⟩) (pS hPc hW0 trivial) rfl rfl hl.1 rfl (lv_room (Nat.le_of_ble_eq_true rfl)) dX7_writeSteps_31 ⟨Nat.le_of_ble_eq_true rfl, Nat.le_of_ble_eq_true rfl⟩) ?_
        refine lv_bipush (v := 10) hx hb dX7_writeSteps_34 (by decide) ?_
        refine lv_idiv hx hb dX7_writeSteps_36 (by decide) ?_
        refine lv_iadd hx hb dX7_writeSteps_37 ?_
        have hPc := hP
        have hDc := hD
        have hFc := va_free (wc := (MW cI cZ a (upd v 18 (nI (wt ++ [lb]).length)) su sl (updF F 10 g1_3))) hD hS hA [0, 1, 2, 3, 4, 5, 6, 7, 8, 9, 10, 11, 12] rfl
        refine va_callv (va_runV (As := [.int (48 + ((ab d) / 10))]) (rest := []) ⟨hx, hb, hml, hown, hts⟩ (c_X7_write l D cI cB cZ cP H.size a v su sl F g1_3 (wt ++ [lb]) (48 + ((ab d) / 10)) (hw_3) (by (try simp only [List.length_append, List.length_singleton]); omega)) (cwV 1 hts gX7_writeSteps_X7_write rfl rfl rfl (by decide +kernel) ⟨Nat.le_of_ble_eq_true rfl, Nat.le_of_ble_eq_true rfl⟩) (pVQ (q0 := 0) hPc hDc hW0 EF.t rfl rfl) rfl rfl hl.1 rfl (lv_room (Nat.le_of_ble_eq_true rfl)) dX7_writeSteps_38 ⟨Nat.le_of_ble_eq_true rfl, Nat.le_of_ble_eq_true rfl⟩) hS (fun q _ h => hFc q h) hFc (fun u t H1 locs ht hvm hw hB hz1 hk1 hS => ?_)
        obtain ⟨g1_6, rfl⟩ : ∃ z, z = u := ⟨_, rfl⟩
        obtain ⟨hP1, hD1⟩ := hB
        rw [ht] at hP1
        have hw_6 : rowIs g1_6 ((wt ++ [lb]) ++ [(48 + ((ab d) / 10))]) := hw
        obtain ⟨hP, hD⟩ := va_join (wr := []) (w1 := (MW cI cZ a (upd v 18 (nI ((wt ++ [lb]) ++ [(48 + ((ab d) / 10))]).length)) su sl (updF F 10 g1_6))) hP hD [0, 1, 2, 3, 4, 5, 6, 7, 8, 9, 10, 11, 12] [] rfl rfl (by decide) (by decide) hk1 hFc hP1 hD1
        generalize H1 = H at hP hS ⊢
        have hP : va_P D vwCl (MW cI cZ a (upd v 18 (nI ((wt ++ [lb]) ++ [(48 + ((ab d) / 10))]).length)) su sl (updF F 10 g1_6)) H := hP
        have hD : va_D A (MW cI cZ a (upd v 18 (nI ((wt ++ [lb]) ++ [(48 + ((ab d) / 10))]).length)) su sl (updF F 10 g1_6)) := hD
        refine lv_aload_n hx hb dX7_writeSteps_41 rfl (lv_at hl 0 rfl) ?_
        refine lv_bipush (v := 48) hx hb dX7_writeSteps_42 (by decide) ?_
        refine lv_iload_n hx hb dX7_writeSteps_44 rfl (lv_at hl 1 rfl) ?_
        have hPc := hP.sub (ws' := []) [] rfl
        refine u_callSi (W.runS (As := [.int d]) (rest := [.int 48, .ref (a 0)]) ⟨hx, hb, hml, hown, hts⟩ (c_X7_size l D cI cB cZ cP d ) (cwS 1 hts gX7_writeSteps_X7_size rfl rfl rfl (by decide +kernel) ⟨Nat.le_of_ble_eq_true rfl, Nat.le_of_ble_eq_true rfl⟩) (pS hPc hW0 trivial) rfl rfl hl.1 rfl (lv_room (Nat.le_of_ble_eq_true rfl)) dX7_writeSteps_45 ⟨Nat.le_of_ble_eq_true rfl, Nat.le_of_ble_eq_true rfl⟩) ?_
        refine lv_bipush (v := 10) hx hb dX7_writeSteps_48 (by decide) ?_
        refine lv_irem hx hb dX7_writeSteps_50 (by decide) ?_
        refine lv_iadd hx hb dX7_writeSteps_51 ?_
        have hPc := hP
        have hDc := hD
        have hFc := va_free (wc := (MW cI cZ a (upd v 18 (nI ((wt ++ [lb]) ++ [(48 + ((ab d) / 10))]).length)) su sl (updF F 10 g1_6))) hD hS hA [0, 1, 2, 3, 4, 5, 6, 7, 8, 9, 10, 11, 12] rfl
        refine va_callv (va_runV (As := [.int (48 + ((ab d) - (ab d) / 10 * 10))]) (rest := []) ⟨hx, hb, hml, hown, hts⟩ (c_X7_write l D cI cB cZ cP H.size a v su sl F g1_6 ((wt ++ [lb]) ++ [(48 + ((ab d) / 10))]) (48 + ((ab d) - (ab d) / 10 * 10)) (hw_6) (by (try simp only [List.length_append, List.length_singleton]); omega)) (cwV 1 hts gX7_writeSteps_X7_write rfl rfl rfl (by decide +kernel) ⟨Nat.le_of_ble_eq_true rfl, Nat.le_of_ble_eq_true rfl⟩) (pVQ (q0 := 0) hPc hDc hW0 EF.t rfl rfl) rfl rfl hl.1 rfl (lv_room (Nat.le_of_ble_eq_true rfl)) dX7_writeSteps_52 ⟨Nat.le_of_ble_eq_true rfl, Nat.le_of_ble_eq_true rfl⟩) hS (fun q _ h => hFc q h) hFc (fun u t H1 locs ht hvm hw hB hz1 hk1 hS => ?_)
        obtain ⟨g1_7, rfl⟩ : ∃ z, z = u := ⟨_, rfl⟩
        obtain ⟨hP1, hD1⟩ := hB
        rw [ht] at hP1
        have hw_7 : rowIs g1_7 (((wt ++ [lb]) ++ [(48 + ((ab d) / 10))]) ++ [(48 + ((ab d) - (ab d) / 10 * 10))]) := hw
        obtain ⟨hP, hD⟩ := va_join (wr := []) (w1 := (MW cI cZ a (upd v 18 (nI (((wt ++ [lb]) ++ [(48 + ((ab d) / 10))]) ++ [(48 + ((ab d) - (ab d) / 10 * 10))]).length)) su sl (updF F 10 g1_7))) hP hD [0, 1, 2, 3, 4, 5, 6, 7, 8, 9, 10, 11, 12] [] rfl rfl (by decide) (by decide) hk1 hFc hP1 hD1
        generalize H1 = H at hP hS ⊢
        have hP : va_P D vwCl (MW cI cZ a (upd v 18 (nI (((wt ++ [lb]) ++ [(48 + ((ab d) / 10))]) ++ [(48 + ((ab d) - (ab d) / 10 * 10))]).length)) su sl (updF F 10 g1_7)) H := hP
        have hD : va_D A (MW cI cZ a (upd v 18 (nI (((wt ++ [lb]) ++ [(48 + ((ab d) / 10))]) ++ [(48 + ((ab d) - (ab d) / 10 * 10))]).length)) su sl (updF F 10 g1_7)) := hD
        have hlg9 : wt ++ leg d la lb = ((wt ++ [lb]) ++ [(48 + ((ab d) / 10))]) ++ [(48 + ((ab d) - (ab d) / 10 * 10))] := by unfold leg; rw [if_neg c_1, if_pos c_2, if_neg c_4]; simp
        rw [← show nI (wt ++ leg d la lb).length = nI (((wt ++ [lb]) ++ [(48 + ((ab d) / 10))]) ++ [(48 + ((ab d) - (ab d) / 10 * 10))]).length by rw [hlg9]] at hP hD
        rw [← hQ]
        have hP9 := hP
        have hD9 := hD
        exact W.vret hx hb hr (fun t ht hW => ⟨⟨g1_7, rfl, by rw [hlg9]; exact hw_7, by rw [ht]; exact hP9, hD9⟩, hS.F ht⟩) hS.2.2 dX7_writeSteps_55
    · skip
      refine lv_iload_n hx hb dX7_writeSteps_10 rfl (lv_at hl 2 rfl) ?_
      refine lv_goto (tgt := 15) hx hb dX7_writeSteps_11 (by decide) ?_
      have hPc := hP
      have hDc := hD
      have hFc := va_free (wc := (MW cI cZ a (upd v 18 (nI wt.length)) su sl (updF F 10 g))) hD hS hA [0, 1, 2, 3, 4, 5, 6, 7, 8, 9, 10, 11, 12] rfl
      refine va_callv (va_runV (As := [.int la]) (rest := []) ⟨hx, hb, hml, hown, hts⟩ (c_X7_write l D cI cB cZ cP s.heap.size a v su sl F g wt la (hR) (by (try simp only [List.length_append, List.length_singleton]); omega)) (cwV 1 hts gX7_writeSteps_X7_write rfl rfl rfl (by decide +kernel) ⟨Nat.le_of_ble_eq_true rfl, Nat.le_of_ble_eq_true rfl⟩) (pVQ (q0 := 0) hPc hDc hW0 EF.t rfl rfl) rfl rfl hl.1 rfl (lv_room (Nat.le_of_ble_eq_true rfl)) dX7_writeSteps_15 ⟨Nat.le_of_ble_eq_true rfl, Nat.le_of_ble_eq_true rfl⟩) hS (fun q _ h => hFc q h) hFc (fun u t H1 locs ht hvm hw hB hz1 hk1 hS => ?_)
      obtain ⟨g1_8, rfl⟩ : ∃ z, z = u := ⟨_, rfl⟩
      obtain ⟨hP1, hD1⟩ := hB
      rw [ht] at hP1
      have hw_8 : rowIs g1_8 (wt ++ [la]) := hw
      obtain ⟨hP, hD⟩ := va_join (wr := []) (w1 := (MW cI cZ a (upd v 18 (nI (wt ++ [la]).length)) su sl (updF F 10 g1_8))) hP hD [0, 1, 2, 3, 4, 5, 6, 7, 8, 9, 10, 11, 12] [] rfl rfl (by decide) (by decide) hk1 hFc hP1 hD1
      generalize H1 = H at hP hS ⊢
      have hP : va_P D vwCl (MW cI cZ a (upd v 18 (nI (wt ++ [la]).length)) su sl (updF F 10 g1_8)) H := hP
      have hD : va_D A (MW cI cZ a (upd v 18 (nI (wt ++ [la]).length)) su sl (updF F 10 g1_8)) := hD
      refine lv_iload_n hx hb dX7_writeSteps_18 rfl (lv_at hl 1 rfl) ?_
      have hPc := hP.sub (ws' := []) [] rfl
      refine u_callSi (W.runS (As := [.int d]) (rest := []) ⟨hx, hb, hml, hown, hts⟩ (c_X7_size l D cI cB cZ cP d ) (cwS 1 hts gX7_writeSteps_X7_size rfl rfl rfl (by decide +kernel) ⟨Nat.le_of_ble_eq_true rfl, Nat.le_of_ble_eq_true rfl⟩) (pS hPc hW0 trivial) rfl rfl hl.1 rfl (lv_room (Nat.le_of_ble_eq_true rfl)) dX7_writeSteps_19 ⟨Nat.le_of_ble_eq_true rfl, Nat.le_of_ble_eq_true rfl⟩) ?_
      refine lv_bipush (v := 9) hx hb dX7_writeSteps_22 (by decide) ?_
      refine lv_icmp_le (tgt := 41) hx hb dX7_writeSteps_24 (by decide) (fun c_9 => ?_) (fun c_9 => ?_)
      · skip
        refine lv_aload_n hx hb dX7_writeSteps_41 rfl (lv_at hl 0 rfl) ?_
        refine lv_bipush (v := 48) hx hb dX7_writeSteps_42 (by decide) ?_
        refine lv_iload_n hx hb dX7_writeSteps_44 rfl (lv_at hl 1 rfl) ?_
        have hPc := hP.sub (ws' := []) [] rfl
        refine u_callSi (W.runS (As := [.int d]) (rest := [.int 48, .ref (a 0)]) ⟨hx, hb, hml, hown, hts⟩ (c_X7_size l D cI cB cZ cP d ) (cwS 1 hts gX7_writeSteps_X7_size rfl rfl rfl (by decide +kernel) ⟨Nat.le_of_ble_eq_true rfl, Nat.le_of_ble_eq_true rfl⟩) (pS hPc hW0 trivial) rfl rfl hl.1 rfl (lv_room (Nat.le_of_ble_eq_true rfl)) dX7_writeSteps_45 ⟨Nat.le_of_ble_eq_true rfl, Nat.le_of_ble_eq_true rfl⟩) ?_
        refine lv_bipush (v := 10) hx hb dX7_writeSteps_48 (by decide) ?_
        refine lv_irem hx hb dX7_writeSteps_50 (by decide) ?_
        refine lv_iadd hx hb dX7_writeSteps_51 ?_
        have hPc := hP
        have hDc := hD
        have hFc := va_free (wc := (MW cI cZ a (upd v 18 (nI (wt ++ [la]).length)) su sl (updF F 10 g1_8))) hD hS hA [0, 1, 2, 3, 4, 5, 6, 7, 8, 9, 10, 11, 12] rfl
        refine va_callv (va_runV (As := [.int (48 + ((ab d) - (ab d) / 10 * 10))]) (rest := []) ⟨hx, hb, hml, hown, hts⟩ (c_X7_write l D cI cB cZ cP H.size a v su sl F g1_8 (wt ++ [la]) (48 + ((ab d) - (ab d) / 10 * 10)) (hw_8) (by (try simp only [List.length_append, List.length_singleton]); omega)) (cwV 1 hts gX7_writeSteps_X7_write rfl rfl rfl (by decide +kernel) ⟨Nat.le_of_ble_eq_true rfl, Nat.le_of_ble_eq_true rfl⟩) (pVQ (q0 := 0) hPc hDc hW0 EF.t rfl rfl) rfl rfl hl.1 rfl (lv_room (Nat.le_of_ble_eq_true rfl)) dX7_writeSteps_52 ⟨Nat.le_of_ble_eq_true rfl, Nat.le_of_ble_eq_true rfl⟩) hS (fun q _ h => hFc q h) hFc (fun u t H1 locs ht hvm hw hB hz1 hk1 hS => ?_)
        obtain ⟨g1_10, rfl⟩ : ∃ z, z = u := ⟨_, rfl⟩
        obtain ⟨hP1, hD1⟩ := hB
        rw [ht] at hP1
        have hw_10 : rowIs g1_10 ((wt ++ [la]) ++ [(48 + ((ab d) - (ab d) / 10 * 10))]) := hw
        obtain ⟨hP, hD⟩ := va_join (wr := []) (w1 := (MW cI cZ a (upd v 18 (nI ((wt ++ [la]) ++ [(48 + ((ab d) - (ab d) / 10 * 10))]).length)) su sl (updF F 10 g1_10))) hP hD [0, 1, 2, 3, 4, 5, 6, 7, 8, 9, 10, 11, 12] [] rfl rfl (by decide) (by decide) hk1 hFc hP1 hD1
        generalize H1 = H at hP hS ⊢
        have hP : va_P D vwCl (MW cI cZ a (upd v 18 (nI ((wt ++ [la]) ++ [(48 + ((ab d) - (ab d) / 10 * 10))]).length)) su sl (updF F 10 g1_10)) H := hP
        have hD : va_D A (MW cI cZ a (upd v 18 (nI ((wt ++ [la]) ++ [(48 + ((ab d) - (ab d) / 10 * 10))]).length)) su sl (updF F 10 g1_10)) := hD
        have hlg9 : wt ++ leg d la lb = (wt ++ [la]) ++ [(48 + ((ab d) - (ab d) / 10 * 10))] := by unfold leg; rw [if_neg c_1, if_neg c_2, if_pos c_9]; simp
        rw [← show nI (wt ++ leg d la lb).length = nI ((wt ++ [la]) ++ [(48 + ((ab d) - (ab d) / 10 * 10))]).length by rw [hlg9]] at hP hD
        rw [← hQ]
        have hP9 := hP
        have hD9 := hD
        exact W.vret hx hb hr (fun t ht hW => ⟨⟨g1_10, rfl, by rw [hlg9]; exact hw_10, by rw [ht]; exact hP9, hD9⟩, hS.F ht⟩) hS.2.2 dX7_writeSteps_55
      · skip
        refine lv_aload_n hx hb dX7_writeSteps_27 rfl (lv_at hl 0 rfl) ?_
        refine lv_bipush (v := 48) hx hb dX7_writeSteps_28 (by decide) ?_
        refine lv_iload_n hx hb dX7_writeSteps_30 rfl (lv_at hl 1 rfl) ?_
        have hPc := hP.sub (ws' := []) [] rfl
        refine u_callSi (W.runS (As := [.int d]) (rest := [.int 48, .ref (a 0)]) ⟨hx, hb, hml, hown, hts⟩ (c_X7_size l D cI cB cZ cP d ) (cwS 1 hts gX7_writeSteps_X7_size rfl rfl rfl (by decide +kernel) ⟨Nat.le_of_ble_eq_true rfl, Nat.le_of_ble_eq_true rfl⟩) (pS hPc hW0 trivial) rfl rfl hl.1 rfl (lv_room (Nat.le_of_ble_eq_true rfl)) dX7_writeSteps_31 ⟨Nat.le_of_ble_eq_true rfl, Nat.le_of_ble_eq_true rfl⟩) ?_
        refine lv_bipush (v := 10) hx hb dX7_writeSteps_34 (by decide) ?_
        refine lv_idiv hx hb dX7_writeSteps_36 (by decide) ?_
        refine lv_iadd hx hb dX7_writeSteps_37 ?_
        have hPc := hP
        have hDc := hD
        have hFc := va_free (wc := (MW cI cZ a (upd v 18 (nI (wt ++ [la]).length)) su sl (updF F 10 g1_8))) hD hS hA [0, 1, 2, 3, 4, 5, 6, 7, 8, 9, 10, 11, 12] rfl
        refine va_callv (va_runV (As := [.int (48 + ((ab d) / 10))]) (rest := []) ⟨hx, hb, hml, hown, hts⟩ (c_X7_write l D cI cB cZ cP H.size a v su sl F g1_8 (wt ++ [la]) (48 + ((ab d) / 10)) (hw_8) (by (try simp only [List.length_append, List.length_singleton]); omega)) (cwV 1 hts gX7_writeSteps_X7_write rfl rfl rfl (by decide +kernel) ⟨Nat.le_of_ble_eq_true rfl, Nat.le_of_ble_eq_true rfl⟩) (pVQ (q0 := 0) hPc hDc hW0 EF.t rfl rfl) rfl rfl hl.1 rfl (lv_room (Nat.le_of_ble_eq_true rfl)) dX7_writeSteps_38 ⟨Nat.le_of_ble_eq_true rfl, Nat.le_of_ble_eq_true rfl⟩) hS (fun q _ h => hFc q h) hFc (fun u t H1 locs ht hvm hw hB hz1 hk1 hS => ?_)
        obtain ⟨g1_11, rfl⟩ : ∃ z, z = u := ⟨_, rfl⟩
        obtain ⟨hP1, hD1⟩ := hB
        rw [ht] at hP1
        have hw_11 : rowIs g1_11 ((wt ++ [la]) ++ [(48 + ((ab d) / 10))]) := hw
        obtain ⟨hP, hD⟩ := va_join (wr := []) (w1 := (MW cI cZ a (upd v 18 (nI ((wt ++ [la]) ++ [(48 + ((ab d) / 10))]).length)) su sl (updF F 10 g1_11))) hP hD [0, 1, 2, 3, 4, 5, 6, 7, 8, 9, 10, 11, 12] [] rfl rfl (by decide) (by decide) hk1 hFc hP1 hD1
        generalize H1 = H at hP hS ⊢
        have hP : va_P D vwCl (MW cI cZ a (upd v 18 (nI ((wt ++ [la]) ++ [(48 + ((ab d) / 10))]).length)) su sl (updF F 10 g1_11)) H := hP
        have hD : va_D A (MW cI cZ a (upd v 18 (nI ((wt ++ [la]) ++ [(48 + ((ab d) / 10))]).length)) su sl (updF F 10 g1_11)) := hD
        refine lv_aload_n hx hb dX7_writeSteps_41 rfl (lv_at hl 0 rfl) ?_
        refine lv_bipush (v := 48) hx hb dX7_writeSteps_42 (by decide) ?_
        refine lv_iload_n hx hb dX7_writeSteps_44 rfl (lv_at hl 1 rfl) ?_
        have hPc := hP.sub (ws' := []) [] rfl
        refine u_callSi (W.runS (As := [.int d]) (rest := [.int 48, .ref (a 0)]) ⟨hx, hb, hml, hown, hts⟩ (c_X7_size l D cI cB cZ cP d ) (cwS 1 hts gX7_writeSteps_X7_size rfl rfl rfl (by decide +kernel) ⟨Nat.le_of_ble_eq_true rfl, Nat.le_of_ble_eq_true rfl⟩) (pS hPc hW0 trivial) rfl rfl hl.1 rfl (lv_room (Nat.le_of_ble_eq_true rfl)) dX7_writeSteps_45 ⟨Nat.le_of_ble_eq_true rfl, Nat.le_of_ble_eq_true rfl⟩) ?_
        refine lv_bipush (v := 10) hx hb dX7_writeSteps_48 (by decide) ?_
        refine lv_irem hx hb dX7_writeSteps_50 (by decide) ?_
        refine lv_iadd hx hb dX7_writeSteps_51 ?_
        have hPc := hP
        have hDc := hD
        have hFc := va_free (wc := (MW cI cZ a (upd v 18 (nI ((wt ++ [la]) ++ [(48 + ((ab d) / 10))]).length)) su sl (updF F 10 g1_11))) hD hS hA [0, 1, 2, 3, 4, 5, 6, 7, 8, 9, 10, 11, 12] rfl
        refine va_callv (va_runV (As := [.int (48 + ((ab d) - (ab d) / 10 * 10))]) (rest := []) ⟨hx, hb, hml, hown, hts⟩ (c_X7_write l D cI cB cZ cP H.size a v su sl F g1_11 ((wt ++ [la]) ++ [(48 + ((ab d) / 10))]) (48 + ((ab d) - (ab d) / 10 * 10)) (hw_11) (by (try simp only [List.length_append, List.length_singleton]); omega)) (cwV 1 hts gX7_writeSteps_X7_write rfl rfl rfl (by decide +kernel) ⟨Nat.le_of_ble_eq_true rfl, Nat.le_of_ble_eq_true rfl⟩) (pVQ (q0 := 0) hPc hDc hW0 EF.t rfl rfl) rfl rfl hl.1 rfl (lv_room (Nat.le_of_ble_eq_true rfl)) dX7_writeSteps_52 ⟨Nat.le_of_ble_eq_true rfl, Nat.le_of_ble_eq_true rfl⟩) hS (fun q _ h => hFc q h) hFc (fun u t H1 locs ht hvm hw hB hz1 hk1 hS => ?_)
        obtain ⟨g1_12, rfl⟩ : ∃ z, z = u := ⟨_, rfl⟩
        obtain ⟨hP1, hD1⟩ := hB
        rw [ht] at hP1
        have hw_12 : rowIs g1_12 (((wt ++ [la]) ++ [(48 + ((ab d) / 10))]) ++ [(48 + ((ab d) - (ab d) / 10 * 10))]) := hw
        obtain ⟨hP, hD⟩ := va_join (wr := []) (w1 := (MW cI cZ a (upd v 18 (nI (((wt ++ [la]) ++ [(48 + ((ab d) / 10))]) ++ [(48 + ((ab d) - (ab d) / 10 * 10))]).length)) su sl (updF F 10 g1_12))) hP hD [0, 1, 2, 3, 4, 5, 6, 7, 8, 9, 10, 11, 12] [] rfl rfl (by decide) (by decide) hk1 hFc hP1 hD1
        generalize H1 = H at hP hS ⊢
        have hP : va_P D vwCl (MW cI cZ a (upd v 18 (nI (((wt ++ [la]) ++ [(48 + ((ab d) / 10))]) ++ [(48 + ((ab d) - (ab d) / 10 * 10))]).length)) su sl (updF F 10 g1_12)) H := hP
        have hD : va_D A (MW cI cZ a (upd v 18 (nI (((wt ++ [la]) ++ [(48 + ((ab d) / 10))]) ++ [(48 + ((ab d) - (ab d) / 10 * 10))]).length)) su sl (updF F 10 g1_12)) := hD
        have hlg9 : wt ++ leg d la lb = ((wt ++ [la]) ++ [(48 + ((ab d) / 10))]) ++ [(48 + ((ab d) - (ab d) / 10 * 10))] := by unfold leg; rw [if_neg c_1, if_neg c_2, if_neg c_9]; simp
        rw [← show nI (wt ++ leg d la lb).length = nI (((wt ++ [la]) ++ [(48 + ((ab d) / 10))]) ++ [(48 + ((ab d) - (ab d) / 10 * 10))]).length by rw [hlg9]] at hP hD
        rw [← hQ]
        have hP9 := hP
        have hD9 := hD
        exact W.vret hx hb hr (fun t ht hW => ⟨⟨g1_12, rfl, by rw [hlg9]; exact hw_12, by rw [ht]; exact hP9, hD9⟩, hS.F ht⟩) hS.2.2 dX7_writeSteps_55
  · skip
    have hlg9 : wt ++ leg d la lb = wt := by rw [show leg d la lb = [] from by unfold leg; rw [if_pos c_1], List.append_nil]
    rw [← show nI (wt ++ leg d la lb).length = nI wt.length by rw [hlg9]] at hP hD
    rw [← hQ]
    have hP9 := hP
    have hD9 := hD
    exact W.vret hx hb hr (fun t ht hW => ⟨⟨g, rfl, by rw [hlg9]; exact hR, by rw [ht]; exact hP9, hD9⟩, hS.F ht⟩) hS.2.2 dX7_writeSteps_4

set_option maxHeartbeats 4000000 in
set_option maxRecDepth 100000 in
theorem c_X7_sign (l : Launch) (D : va_G) (cI cB cZ cP : ClassId) (sz : Nat) (a : Nat → Nat) (v : Nat → Int32) (su sl : Int64) (F : Nat → Nat → Int32) (kk : Nat) (pn : Nat → Nat) (x0 y : Int32) (hSM : stM (F 1) kk pn) : Met l yX7_sign wsX7_sign ({ frames := 2, cells := 0, slots := 0, locals := 44 } : Room) (va_Pc [.ref (a 0), .int x0, .int y] (fun U => U.heap.size = sz ∧ va_P D vwCl (MW cI cZ a v su sl F) U.heap ∧ KW D cI cB cZ cP U ∧ va_D (fun _ => True) (MW cI cZ a v su sl F) ∧ EF (MW cI cZ a v su sl F) sz E0 U.heap)) (va_Qi (fun r (u : (Nat → Int32) × Int64 × Int64 × (Nat → Nat → Int32)) => match u with | (v1, su1, sl1, F1) => r = aSign kk pn (pX (F 1)) (pY (F 1)) x0 y ∧ keepM v F v1 F1) (fun (u : (Nat → Int32) × Int64 × Int64 × (Nat → Nat → Int32)) (t : State) => match u with | (v1, su1, sl1, F1) => va_P D vwCl (MW cI cZ a v1 su1 sl1 F1) t.heap ∧ va_D (va_A (MW cI cZ a v su sl F) sz) (MW cI cZ a v1 su1 sl1 F1)) (va_A (MW cI cZ a v su sl F) sz)) 0 0 (va_A (MW cI cZ a v su sl F) sz) := by
  refine Met.ofW (cc := cX7_sign) (maxL := 4) (ret := (some .int)) (by decide) rfl ?_
  intro p e s m args below meth c s₁ B hml hv
  obtain ⟨rfl, hsz, hP, hW0, hD0, hE⟩ := hv
  have hx := B.exec
  have hb := B.bytes
  have hr := B.returns
  have hts := atoms_spec (ws := wsX7_sign) B.pre
  have hown : s.vm.findClass RX7 = some m.cls := findClass_of_methodNamed B.named
  have hlocks := B.notSynchronized
  have hK := hW0.1
  subst hsz
  have hD := hD0.self (sz := s.heap.size)
  unfold EF at hE
  generalize hAe : va_A (MW cI cZ a v su sl F) s.heap.size = A at hD hE ⊢
  have hA : ∀ q : Nat, s.heap.size ≤ q → A q := fun q h => by rw [← hAe]; exact Or.inr h
  have hS : va_S A s.heap s.heap [] := va_S.rf
  have hl := lv_entry ([.ref (a 0), .int x0, .int y]) (n := 4) (Nat.le_of_ble_eq_true rfl)
  rw [lg_entry_eq]
  generalize (lg_sl ([.ref (a 0), .int x0, .int y]) ++ List.replicate (4 - (lg_sl ([.ref (a 0), .int x0, .int y])).length) Slot.unset).toArray = ls at hl ⊢
  have hl : lv_has ls 4 [(0, .ref (a 0)), (1, .int x0), (2, .int y)] := hl
  show W p l e ({ frames := 2, cells := 0, slots := 0, locals := 44 } : Room) s m ([.ref (a 0), .int x0, .int y] : List Value).toArray below meth c s.heap [] 0 0 _ (F0 m 0 ls [])
  refine u_genQ (fun Q hQ => ?_)
  obtain ⟨hs1, hs2, hs3⟩ := id hSM
  refine lv_aload_n hx hb dX7_sign_0 rfl (lv_at hl 0 rfl) ?_
  refine lv_iload_n hx hb dX7_sign_1 rfl (lv_at hl 1 rfl) ?_
  have hPc := hP
  refine u_callSi (W.runV (As := [.int x0]) (rest := []) ⟨hx, hb, hml, hown, hts⟩ (c_X7_isPlot l D cI cB cZ cP a v su sl F x0 kk (hs2) (hs1)) (cwV 1 hts gX7_sign_X7_isPlot rfl rfl rfl (by decide +kernel) ⟨Nat.le_of_ble_eq_true rfl, Nat.le_of_ble_eq_true rfl⟩) (pV (q0 := 0) hPc hW0 trivial rfl rfl) rfl rfl hl.1 rfl (lv_room (Nat.le_of_ble_eq_true rfl)) dX7_sign_2 ⟨Nat.le_of_ble_eq_true rfl, Nat.le_of_ble_eq_true rfl⟩) ?_
  refine lv_if_ne (tgt := 10) hx hb dX7_sign_5 (by decide) (fun c_1 => ?_) (fun c_1 => ?_)
  · skip
    have nc_1 := zb_ne0.mp c_1
    obtain ⟨pp, hpp, epp, xpp⟩ := inP_nat nc_1 (by omega)
    rw [epp] at hl
    refine lv_aload_n hx hb dX7_sign_10 rfl (lv_at hl 0 rfl) ?_
    refine lv_iload_n hx hb dX7_sign_11 rfl (lv_at hl 1 rfl) ?_
    have hPc := hP
    have hDc := hD
    have hFc := va_free (wc := (MW cI cZ a v su sl F)) hD hS hA [0, 1, 2, 3, 4, 5, 6, 7, 8, 9, 10, 11, 12] rfl
    refine va_callv (va_runV (As := [.int (nI pp)]) (rest := []) ⟨hx, hb, hml, hown, hts⟩ (c_X7_look l D cI cB cZ cP s.heap.size a v su sl F pp (pn pp) (by omega) ((hs3 pp hpp).2) ((hs3 pp hpp).1)) (cwV 1 hts gX7_sign_X7_look rfl rfl rfl (by decide +kernel) ⟨Nat.le_of_ble_eq_true rfl, Nat.le_of_ble_eq_true rfl⟩) (pVQ (q0 := 0) hPc hDc hW0 EF.t rfl rfl) rfl rfl hl.1 rfl (lv_room (Nat.le_of_ble_eq_true rfl)) dX7_sign_12 ⟨Nat.le_of_ble_eq_true rfl, Nat.le_of_ble_eq_true rfl⟩) hS (fun q _ h => hFc q h) hFc (fun u t H1 locs ht hvm hw hB hz1 hk1 hS => ?_)
    obtain ⟨X1_2, Y1_2⟩ := u
    obtain ⟨hP1, hD1⟩ := hB
    rw [ht] at hP1
    have hw_2 : ∀ j, j < (pn pp) → X1_2 j = pX (F 1) pp j ∧ Y1_2 j = pY (F 1) pp j := hw
    obtain ⟨hP, hD⟩ := va_join (wr := []) (w1 := (MW cI cZ a (upd v 7 (nI (pn pp))) su sl (updF (updF F 7 X1_2) 8 Y1_2))) hP hD [0, 1, 2, 3, 4, 5, 6, 7, 8, 9, 10, 11, 12] [] rfl rfl (by decide) (by decide) hk1 hFc hP1 hD1
    generalize H1 = H at hP hS ⊢
    have hP : va_P D vwCl (MW cI cZ a (upd v 7 (nI (pn pp))) su sl (updF (updF F 7 X1_2) 8 Y1_2)) H := hP
    have hD : va_D A (MW cI cZ a (upd v 7 (nI (pn pp))) su sl (updF (updF F 7 X1_2) 8 Y1_2)) := hD
    have hLK_pp : ∀ j, j < pn pp → X1_2 j = pX (F 1) pp j ∧ Y1_2 j = pY (F 1) pp j := hw_2
    have h8_pp := (hs3 pp hpp).2
    refine lv_aload_n hx hb dX7_sign_15 rfl (lv_at hl 0 rfl) ?_
    refine lv_iconst (v := 0) hx hb dX7_sign_16 (by decide) ?_
    refine va_put (D := D) (ci := 9) (v := .int 0) (ty := .int) (C := RX7) (T := TX7) (N := 24) hx hb hts (by decide +kernel) tyX7 tyX7_ok nmX7 hown hK hP hD hS 0 rfl rfl 18 (by decide) (hts (.fieldLink RX7 165 "LandDeedsModel" "written" "I") (by decide +kernel)) (fun _ h9 => h9) rfl (by decide +kernel) rfl rfl (Nat.le_of_ble_eq_true rfl) dX7_sign_17 (fun H locs hP hD hS => ?_)
    have hP : va_P D vwCl (MW cI cZ a (upd (upd v 7 (nI (pn pp))) 18 0) su sl (updF (updF F 7 X1_2) 8 Y1_2)) H := hP
    have hD : va_D A (MW cI cZ a (upd (upd v 7 (nI (pn pp))) 18 0) su sl (updF (updF F 7 X1_2) 8 Y1_2)) := hD
    refine lv_iconst (v := 0) hx hb dX7_sign_20 (by decide) ?_
    refine lv_istore_n (lv' := [(3, .int 0), (0, .ref (a 0)), (1, .int (nI pp)), (2, .int y)]) hx hb dX7_sign_21 rfl hl (by decide) rfl (fun ls hl => ?_)
    have LOOP_22 : ∀ (fu : Nat) (z : Nat) (g : Nat → Int32) (hz : z ≤ pn pp) (hR : rowIs g (wrt (pn pp) X1_2 Y1_2 z)) (hn : pn pp - z < fu) (H : Heap) (locs : List Loc) (hP : va_P D vwCl (MW cI cZ a (upd (upd v 7 (nI (pn pp))) 18 (nI (wrt (pn pp) X1_2 Y1_2 z).length)) su sl (updF (updF (updF F 7 X1_2) 8 Y1_2) 10 g)) H) (hD : va_D A (MW cI cZ a (upd (upd v 7 (nI (pn pp))) 18 (nI (wrt (pn pp) X1_2 Y1_2 z).length)) su sl (updF (updF (updF F 7 X1_2) 8 Y1_2) 10 g))) (hS : va_S A s.heap H locs) (ls : Array Slot) (hl : lv_has ls 4 [(0, .ref (a 0)), (2, .int y), (3, .int (nI z))]), W p l e ({ frames := 2, cells := 0, slots := 0, locals := 44 } : Room) s m ([.ref (a 0), .int x0, .int y] : List Value).toArray below meth c H locs 0 0 Q (F0 m 22 ls []) := by
      intro fu
      induction fu with
      | zero => intro z g hz hR hn H locs hP hD hS ls hl; exact absurd hn (Nat.not_lt_zero _)
      | succ fu ih_22 =>
        intro z g hz hR hn H locs hP hD hS ls hl
        refine lv_iload_n hx hb dX7_sign_22 rfl (lv_at hl 2 rfl) ?_
        refine lv_aload_n hx hb dX7_sign_23 rfl (lv_at hl 0 rfl) ?_
        refine va_get (D := D) (ci := 9) (v := .int (nI (pn pp))) (C := RX7) (T := TX7) (N := 24) hx hb hts (by decide +kernel) hown hK hP 0 rfl rfl 7 (by decide) (hts (.fieldLink RX7 58 "LandDeedsModel" "calls" "I") (by decide +kernel)) (fun _ h9 => h9) rfl dX7_sign_24 ?_
        refine lv_icmp_ge (tgt := 96) hx hb dX7_sign_27 (by decide) (fun c_3 => ?_) (fun c_3 => ?_)
        · skip
          have nc_3 : pn pp ≤ z := (nI_leI (a := (pn pp)) (b := z) (by omega) (by omega)).mp c_3
          have hz9 : z = pn pp := by omega
          have hwl := wrt_len (pn pp) X1_2 Y1_2 z
          have ewz : wrt (pn pp) X1_2 Y1_2 (pn pp) = wrt (pn pp) X1_2 Y1_2 z := by rw [hz9]
          refine lv_iload_n hx hb dX7_sign_96 rfl (lv_at hl 1 rfl) ?_
          refine lv_iconst (v := (-1)) hx hb dX7_sign_97 (by decide) ?_
          refine lv_icmp_ne (tgt := 108) hx hb dX7_sign_98 (by decide) (fun c_4 => ?_) (fun c_4 => ?_)
          · skip
            refine lv_iload_n hx hb dX7_sign_108 rfl (lv_at hl 1 rfl) ?_
            refine lv_iconst (v := 0) hx hb dX7_sign_109 (by decide) ?_
            refine lv_aload_n hx hb dX7_sign_110 rfl (lv_at hl 0 rfl) ?_
            refine va_get (D := D) (ci := 9) (v := .int (nI (wrt (pn pp) X1_2 Y1_2 z).length)) (C := RX7) (T := TX7) (N := 24) hx hb hts (by decide +kernel) hown hK hP 0 rfl rfl 18 (by decide) (hts (.fieldLink RX7 165 "LandDeedsModel" "written" "I") (by decide +kernel)) (fun _ h9 => h9) rfl dX7_sign_111 ?_
            refine lv_iconst (v := 1) hx hb dX7_sign_114 (by decide) ?_
            refine lv_isub hx hb dX7_sign_115 ?_
            have hPc := hP.sub (ws' := []) [] rfl
            refine u_callSi (W.runS (As := [.int y, .int 0, .int ((nI (wrt (pn pp) X1_2 Y1_2 z).length) - 1)]) (rest := []) ⟨hx, hb, hml, hown, hts⟩ (c_X7_in l D cI cB cZ cP y 0 ((nI (wrt (pn pp) X1_2 Y1_2 z).length) - 1) ) (cwS 3 hts gX7_sign_X7_in rfl rfl rfl (by decide +kernel) ⟨Nat.le_of_ble_eq_true rfl, Nat.le_of_ble_eq_true rfl⟩) (pS hPc hW0 trivial) rfl rfl hl.1 rfl (lv_room (Nat.le_of_ble_eq_true rfl)) dX7_sign_116 ⟨Nat.le_of_ble_eq_true rfl, Nat.le_of_ble_eq_true rfl⟩) ?_
            refine lv_if_eq (tgt := 131) hx hb dX7_sign_119 (by decide) (fun c_5 => ?_) (fun c_5 => ?_)
            · skip
              have nc_5 := zb_eq0.mp c_5
              have hin9 : ¬ inP (wrt (pn pp) X1_2 Y1_2 (pn pp)).length y := by have h9 := nc_5; rw [tI_sub (by rw [nI_toInt (by omega), li_1]; omega) (by rw [nI_toInt (by omega), li_1]; omega), nI_toInt (by omega), li_1, li_0] at h9; rw [ewz]; exact fun q => h9 ⟨q.1, by have := q.2; omega⟩
              refine lv_bipush (v := (-6)) hx hb dX7_sign_131 (by decide) ?_
              rw [← hQ]
              have hP9 := hP
              have hD9 := hD
              exact W.iret (v := (-6)) hx hb hr (fun t ht hW => ⟨⟨_, (upd (upd v 7 (nI (pn pp))) 18 (nI (wrt (pn pp) X1_2 Y1_2 z).length), su, sl, updF (updF (updF F 7 X1_2) 8 Y1_2) 10 g), rfl, ⟨by rw [show aSign kk pn (pX (F 1)) (pY (F 1)) x0 y = _ from cif_t nc_1, xpp, ← wrt_congr hLK_pp _ (Nat.le_refl _)]; rw [cif_f c_4, cif_f hin9], ⟨rfl, rfl, rfl, rfl, rfl⟩⟩, by rw [ht]; exact hP9, hD9⟩, hS.F ht⟩) hS.2.2 dX7_sign_133
            · skip
              have nc_5 := zb_ne0.mp c_5
              have hin8 : inP (wrt (pn pp) X1_2 Y1_2 z).length y := by have h9 := nc_5; rw [tI_sub (by rw [nI_toInt (by omega), li_1]; omega) (by rw [nI_toInt (by omega), li_1]; omega), nI_toInt (by omega), li_1, li_0] at h9; exact ⟨h9.1, by omega⟩
              have hin9 : inP (wrt (pn pp) X1_2 Y1_2 (pn pp)).length y := by rw [ewz]; exact hin8
              obtain ⟨jj, hjj, ejj, xjj⟩ := inP_nat hin8 (by omega)
              rw [ejj] at hl
              refine lv_aload_n hx hb dX7_sign_122 rfl (lv_at hl 0 rfl) ?_
              refine va_get (D := D) (ci := 9) (v := .ref (a 10)) (C := RX7) (T := TX7) (N := 24) hx hb hts (by decide +kernel) hown hK hP 0 rfl rfl 17 (by decide) (hts (.fieldLink RX7 38 "LandDeedsModel" "row" "[I") (by decide +kernel)) (fun _ h9 => h9) rfl dX7_sign_123 ?_
              refine lv_iload_n hx hb dX7_sign_126 rfl (lv_at hl 1 rfl) ?_
              refine u_iald hx hb hK hP 10 0 rfl rfl rfl ⟨by omega, by omega⟩ dX7_sign_127 ?_
              refine lv_goto (tgt := 133) hx hb dX7_sign_128 (by decide) ?_
              rw [← hQ]
              have hP9 := hP
              have hD9 := hD
              exact W.iret (v := g jj) hx hb hr (fun t ht hW => ⟨⟨_, (upd (upd v 7 (nI (pn pp))) 18 (nI (wrt (pn pp) X1_2 Y1_2 z).length), su, sl, updF (updF (updF F 7 X1_2) 8 Y1_2) 10 g), rfl, ⟨by rw [show aSign kk pn (pX (F 1)) (pY (F 1)) x0 y = _ from cif_t nc_1, xpp, ← wrt_congr hLK_pp _ (Nat.le_refl _)]; rw [cif_f c_4, cif_t hin9, xjj]; rw [ewz]; exact rowIs_get hR hjj, ⟨rfl, rfl, rfl, rfl, rfl⟩⟩, by rw [ht]; exact hP9, hD9⟩, hS.F ht⟩) hS.2.2 dX7_sign_133
          · skip
            refine lv_aload_n hx hb dX7_sign_101 rfl (lv_at hl 0 rfl) ?_
            refine va_get (D := D) (ci := 9) (v := .int (nI (wrt (pn pp) X1_2 Y1_2 z).length)) (C := RX7) (T := TX7) (N := 24) hx hb hts (by decide +kernel) hown hK hP 0 rfl rfl 18 (by decide) (hts (.fieldLink RX7 165 "LandDeedsModel" "written" "I") (by decide +kernel)) (fun _ h9 => h9) rfl dX7_sign_102 ?_
            refine lv_goto (tgt := 133) hx hb dX7_sign_105 (by decide) ?_
            rw [← hQ]
            have hP9 := hP
            have hD9 := hD
            exact W.iret (v := nI (wrt (pn pp) X1_2 Y1_2 z).length) hx hb hr (fun t ht hW => ⟨⟨_, (upd (upd v 7 (nI (pn pp))) 18 (nI (wrt (pn pp) X1_2 Y1_2 z).length), su, sl, updF (updF (updF F 7 X1_2) 8 Y1_2) 10 g), rfl, ⟨by rw [show aSign kk pn (pX (F 1)) (pY (F 1)) x0 y = _ from cif_t nc_1, xpp, ← wrt_congr hLK_pp _ (Nat.le_refl _)]; rw [cif_t c_4, ewz], ⟨rfl, rfl, rfl, rfl, rfl⟩⟩, by rw [ht]; exact hP9, hD9⟩, hS.F ht⟩) hS.2.2 dX7_sign_133
        · skip
          have nc_3 : ¬ (pn pp ≤ z) := fun h => c_3 ((nI_leI (a := (pn pp)) (b := z) (by omega) (by omega)).mpr h)
          have hz8 : z < pn pp := by omega
          have hnx9 := nxt_lt hz8
          refine lv_iload_n hx hb dX7_sign_30 rfl (lv_at hl 2 rfl) ?_
          refine lv_if_le (tgt := 40) hx hb dX7_sign_31 (by decide) (fun c_6 => ?_) (fun c_6 => ?_)
          · skip
            have nc_6 : z ≤ 0 := (nI_leI (a := z) (b := 0) (by omega) (by omega)).mp c_6
            refine lv_aload_n hx hb dX7_sign_40 rfl (lv_at hl 0 rfl) ?_
            refine lv_aload_n hx hb dX7_sign_41 rfl (lv_at hl 0 rfl) ?_
            refine va_get (D := D) (ci := 9) (v := .ref (a 8)) (C := RX7) (T := TX7) (N := 24) hx hb hts (by decide +kernel) hown hK hP 0 rfl rfl 12 (by decide) (hts (.fieldLink RX7 32 "LandDeedsModel" "cy" "[I") (by decide +kernel)) (fun _ h9 => h9) rfl dX7_sign_42 ?_
            refine lv_aload_n hx hb dX7_sign_45 rfl (lv_at hl 0 rfl) ?_
            refine lv_iload_n hx hb dX7_sign_46 rfl (lv_at hl 2 rfl) ?_
            have hPc := hP
            refine u_callSi (W.runV (As := [.int (nI z)]) (rest := [.ref (a 8), .ref (a 0)]) ⟨hx, hb, hml, hown, hts⟩ (c_X7_next l D cI cB cZ cP a (upd v 18 (nI (wrt (pn pp) X1_2 Y1_2 z).length)) su sl (updF F 10 g) (pn pp) X1_2 Y1_2 z (h8_pp) (by omega)) (cwV 1 hts gX7_sign_X7_next rfl rfl rfl (by decide +kernel) ⟨Nat.le_of_ble_eq_true rfl, Nat.le_of_ble_eq_true rfl⟩) (pV (q0 := 0) hPc hW0 trivial rfl rfl) rfl rfl hl.1 rfl (lv_room (Nat.le_of_ble_eq_true rfl)) dX7_sign_47 ⟨Nat.le_of_ble_eq_true rfl, Nat.le_of_ble_eq_true rfl⟩) ?_
            refine u_iald hx hb hK hP 8 0 rfl rfl rfl ⟨by omega, by omega⟩ dX7_sign_50 ?_
            refine lv_aload_n hx hb dX7_sign_51 rfl (lv_at hl 0 rfl) ?_
            refine va_get (D := D) (ci := 9) (v := .ref (a 8)) (C := RX7) (T := TX7) (N := 24) hx hb hts (by decide +kernel) hown hK hP 0 rfl rfl 12 (by decide) (hts (.fieldLink RX7 32 "LandDeedsModel" "cy" "[I") (by decide +kernel)) (fun _ h9 => h9) rfl dX7_sign_52 ?_
            refine lv_iload_n hx hb dX7_sign_55 rfl (lv_at hl 2 rfl) ?_
            refine u_iald hx hb hK hP 8 0 rfl rfl rfl ⟨by omega, by omega⟩ dX7_sign_56 ?_
            refine lv_isub hx hb dX7_sign_57 ?_
            refine lv_bipush (v := 110) hx hb dX7_sign_58 (by decide) ?_
            refine lv_bipush (v := 115) hx hb dX7_sign_60 (by decide) ?_
            have hPc := hP
            have hDc := hD
            have hFc := va_free (wc := (MW cI cZ a (upd (upd v 7 (nI (pn pp))) 18 (nI (wrt (pn pp) X1_2 Y1_2 z).length)) su sl (updF (updF (updF F 7 X1_2) 8 Y1_2) 10 g))) hD hS hA [0, 1, 2, 3, 4, 5, 6, 7, 8, 9, 10, 11, 12] rfl
            refine va_callv (va_runV (As := [.int ((Y1_2 (nxt (pn pp) z)) - (Y1_2 z)), .int 110, .int 115]) (rest := []) ⟨hx, hb, hml, hown, hts⟩ (c_X7_writeSteps l D cI cB cZ cP H.size a (upd v 7 (nI (pn pp))) su sl (updF (updF F 7 X1_2) 8 Y1_2) g (wrt (pn pp) X1_2 Y1_2 z) ((Y1_2 (nxt (pn pp) z)) - (Y1_2 z)) 110 115 (hR) (by have := wrt_len (pn pp) X1_2 Y1_2 z; have := leg_len (Y1_2 (nxt (pn pp) z) - Y1_2 z) 110 115; (try simp only [List.length_append, List.length_singleton]); omega)) (cwV 3 hts gX7_sign_X7_writeSteps rfl rfl rfl (by decide +kernel) ⟨Nat.le_of_ble_eq_true rfl, Nat.le_of_ble_eq_true rfl⟩) (pVQ (q0 := 0) hPc hDc hW0 EF.t rfl rfl) rfl rfl hl.1 rfl (lv_room (Nat.le_of_ble_eq_true rfl)) dX7_sign_62 ⟨Nat.le_of_ble_eq_true rfl, Nat.le_of_ble_eq_true rfl⟩) hS (fun q _ h => hFc q h) hFc (fun u t H1 locs ht hvm hw hB hz1 hk1 hS => ?_)
            obtain ⟨g1_7, rfl⟩ : ∃ z, z = u := ⟨_, rfl⟩
            obtain ⟨hP1, hD1⟩ := hB
            rw [ht] at hP1
            have hw_7 : rowIs g1_7 ((wrt (pn pp) X1_2 Y1_2 z) ++ leg ((Y1_2 (nxt (pn pp) z)) - (Y1_2 z)) 110 115) := hw
            obtain ⟨hP, hD⟩ := va_join (wr := []) (w1 := (MW cI cZ a (upd (upd v 7 (nI (pn pp))) 18 (nI ((wrt (pn pp) X1_2 Y1_2 z) ++ leg ((Y1_2 (nxt (pn pp) z)) - (Y1_2 z)) 110 115).length)) su sl (updF (updF (updF F 7 X1_2) 8 Y1_2) 10 g1_7))) hP hD [0, 1, 2, 3, 4, 5, 6, 7, 8, 9, 10, 11, 12] [] rfl rfl (by decide) (by decide) hk1 hFc hP1 hD1
            generalize H1 = H at hP hS ⊢
            have hP : va_P D vwCl (MW cI cZ a (upd (upd v 7 (nI (pn pp))) 18 (nI ((wrt (pn pp) X1_2 Y1_2 z) ++ leg ((Y1_2 (nxt (pn pp) z)) - (Y1_2 z)) 110 115).length)) su sl (updF (updF (updF F 7 X1_2) 8 Y1_2) 10 g1_7)) H := hP
            have hD : va_D A (MW cI cZ a (upd (upd v 7 (nI (pn pp))) 18 (nI ((wrt (pn pp) X1_2 Y1_2 z) ++ leg ((Y1_2 (nxt (pn pp) z)) - (Y1_2 z)) 110 115).length)) su sl (updF (updF (updF F 7 X1_2) 8 Y1_2) 10 g1_7)) := hD
            refine lv_aload_n hx hb dX7_sign_65 rfl (lv_at hl 0 rfl) ?_
            refine lv_aload_n hx hb dX7_sign_66 rfl (lv_at hl 0 rfl) ?_
            refine va_get (D := D) (ci := 9) (v := .ref (a 7)) (C := RX7) (T := TX7) (N := 24) hx hb hts (by decide +kernel) hown hK hP 0 rfl rfl 11 (by decide) (hts (.fieldLink RX7 29 "LandDeedsModel" "cx" "[I") (by decide +kernel)) (fun _ h9 => h9) rfl dX7_sign_67 ?_
            refine lv_aload_n hx hb dX7_sign_70 rfl (lv_at hl 0 rfl) ?_
            refine lv_iload_n hx hb dX7_sign_71 rfl (lv_at hl 2 rfl) ?_
            have hPc := hP
            refine u_callSi (W.runV (As := [.int (nI z)]) (rest := [.ref (a 7), .ref (a 0)]) ⟨hx, hb, hml, hown, hts⟩ (c_X7_next l D cI cB cZ cP a (upd v 18 (nI ((wrt (pn pp) X1_2 Y1_2 z) ++ leg ((Y1_2 (nxt (pn pp) z)) - (Y1_2 z)) 110 115).length)) su sl (updF F 10 g1_7) (pn pp) X1_2 Y1_2 z (h8_pp) (by omega)) (cwV 1 hts gX7_sign_X7_next rfl rfl rfl (by decide +kernel) ⟨Nat.le_of_ble_eq_true rfl, Nat.le_of_ble_eq_true rfl⟩) (pV (q0 := 0) hPc hW0 trivial rfl rfl) rfl rfl hl.1 rfl (lv_room (Nat.le_of_ble_eq_true rfl)) dX7_sign_72 ⟨Nat.le_of_ble_eq_true rfl, Nat.le_of_ble_eq_true rfl⟩) ?_
            refine u_iald hx hb hK hP 7 0 rfl rfl rfl ⟨by omega, by omega⟩ dX7_sign_75 ?_
            refine lv_aload_n hx hb dX7_sign_76 rfl (lv_at hl 0 rfl) ?_
            refine va_get (D := D) (ci := 9) (v := .ref (a 7)) (C := RX7) (T := TX7) (N := 24) hx hb hts (by decide +kernel) hown hK hP 0 rfl rfl 11 (by decide) (hts (.fieldLink RX7 29 "LandDeedsModel" "cx" "[I") (by decide +kernel)) (fun _ h9 => h9) rfl dX7_sign_77 ?_
            refine lv_iload_n hx hb dX7_sign_80 rfl (lv_at hl 2 rfl) ?_
            refine u_iald hx hb hK hP 7 0 rfl rfl rfl ⟨by omega, by omega⟩ dX7_sign_81 ?_
            refine lv_isub hx hb dX7_sign_82 ?_
            refine lv_bipush (v := 101) hx hb dX7_sign_83 (by decide) ?_
            refine lv_bipush (v := 119) hx hb dX7_sign_85 (by decide) ?_
            have hPc := hP
            have hDc := hD
            have hFc := va_free (wc := (MW cI cZ a (upd (upd v 7 (nI (pn pp))) 18 (nI ((wrt (pn pp) X1_2 Y1_2 z) ++ leg ((Y1_2 (nxt (pn pp) z)) - (Y1_2 z)) 110 115).length)) su sl (updF (updF (updF F 7 X1_2) 8 Y1_2) 10 g1_7))) hD hS hA [0, 1, 2, 3, 4, 5, 6, 7, 8, 9, 10, 11, 12] rfl
            refine va_callv (va_runV (As := [.int ((X1_2 (nxt (pn pp) z)) - (X1_2 z)), .int 101, .int 119]) (rest := []) ⟨hx, hb, hml, hown, hts⟩ (c_X7_writeSteps l D cI cB cZ cP H.size a (upd v 7 (nI (pn pp))) su sl (updF (updF F 7 X1_2) 8 Y1_2) g1_7 ((wrt (pn pp) X1_2 Y1_2 z) ++ leg ((Y1_2 (nxt (pn pp) z)) - (Y1_2 z)) 110 115) ((X1_2 (nxt (pn pp) z)) - (X1_2 z)) 101 119 (hw_7) (by have := wrt_len (pn pp) X1_2 Y1_2 z; have := leg_len (Y1_2 (nxt (pn pp) z) - Y1_2 z) 110 115; (try simp only [List.length_append, List.length_singleton]); omega)) (cwV 3 hts gX7_sign_X7_writeSteps rfl rfl rfl (by decide +kernel) ⟨Nat.le_of_ble_eq_true rfl, Nat.le_of_ble_eq_true rfl⟩) (pVQ (q0 := 0) hPc hDc hW0 EF.t rfl rfl) rfl rfl hl.1 rfl (lv_room (Nat.le_of_ble_eq_true rfl)) dX7_sign_87 ⟨Nat.le_of_ble_eq_true rfl, Nat.le_of_ble_eq_true rfl⟩) hS (fun q _ h => hFc q h) hFc (fun u t H1 locs ht hvm hw hB hz1 hk1 hS => ?_)
            obtain ⟨g1_8, rfl⟩ : ∃ z, z = u := ⟨_, rfl⟩
            obtain ⟨hP1, hD1⟩ := hB
            rw [ht] at hP1
            have hw_8 : rowIs g1_8 (((wrt (pn pp) X1_2 Y1_2 z) ++ leg ((Y1_2 (nxt (pn pp) z)) - (Y1_2 z)) 110 115) ++ leg ((X1_2 (nxt (pn pp) z)) - (X1_2 z)) 101 119) := hw
            obtain ⟨hP, hD⟩ := va_join (wr := []) (w1 := (MW cI cZ a (upd (upd v 7 (nI (pn pp))) 18 (nI (((wrt (pn pp) X1_2 Y1_2 z) ++ leg ((Y1_2 (nxt (pn pp) z)) - (Y1_2 z)) 110 115) ++ leg ((X1_2 (nxt (pn pp) z)) - (X1_2 z)) 101 119).length)) su sl (updF (updF (updF F 7 X1_2) 8 Y1_2) 10 g1_8))) hP hD [0, 1, 2, 3, 4, 5, 6, 7, 8, 9, 10, 11, 12] [] rfl rfl (by decide) (by decide) hk1 hFc hP1 hD1
            generalize H1 = H at hP hS ⊢
            have hP : va_P D vwCl (MW cI cZ a (upd (upd v 7 (nI (pn pp))) 18 (nI (((wrt (pn pp) X1_2 Y1_2 z) ++ leg ((Y1_2 (nxt (pn pp) z)) - (Y1_2 z)) 110 115) ++ leg ((X1_2 (nxt (pn pp) z)) - (X1_2 z)) 101 119).length)) su sl (updF (updF (updF F 7 X1_2) 8 Y1_2) 10 g1_8)) H := hP
            have hD : va_D A (MW cI cZ a (upd (upd v 7 (nI (pn pp))) 18 (nI (((wrt (pn pp) X1_2 Y1_2 z) ++ leg ((Y1_2 (nxt (pn pp) z)) - (Y1_2 z)) 110 115) ++ leg ((X1_2 (nxt (pn pp) z)) - (X1_2 z)) 101 119).length)) su sl (updF (updF (updF F 7 X1_2) 8 Y1_2) 10 g1_8)) := hD
            have hwz : wrt (pn pp) X1_2 Y1_2 (z + 1) = ((wrt (pn pp) X1_2 Y1_2 z) ++ leg ((Y1_2 (nxt (pn pp) z)) - (Y1_2 z)) 110 115) ++ leg ((X1_2 (nxt (pn pp) z)) - (X1_2 z)) 101 119 := by simp only [wrt]; rw [if_pos (by omega)]; rw [List.append_nil]
            have hRz := hw_8; rw [← hwz] at hRz
            rw [← hwz] at hP hD
            refine lv_iinc (v := nI (z + 1)) (lv' := [(3, .int (nI (z + 1))), (0, .ref (a 0)), (2, .int y)]) hx hb dX7_sign_90 hl (k := 2) rfl (nI_1 _) (by decide) rfl (fun ls hl => ?_)
            refine lv_goto (tgt := 22) hx hb dX7_sign_93 (by decide) ?_
            exact ih_22 (z + 1) g1_8 (by omega) (hRz) (by omega) _ _ hP hD hS ls (lv_sub hl [1, 2, 0] rfl)
          · skip
            have nc_6 : ¬ (z ≤ 0) := fun h => c_6 ((nI_leI (a := z) (b := 0) (by omega) (by omega)).mpr h)
            refine lv_aload_n hx hb dX7_sign_34 rfl (lv_at hl 0 rfl) ?_
            refine lv_bipush (v := 59) hx hb dX7_sign_35 (by decide) ?_
            have hPc := hP
            have hDc := hD
            have hFc := va_free (wc := (MW cI cZ a (upd (upd v 7 (nI (pn pp))) 18 (nI (wrt (pn pp) X1_2 Y1_2 z).length)) su sl (updF (updF (updF F 7 X1_2) 8 Y1_2) 10 g))) hD hS hA [0, 1, 2, 3, 4, 5, 6, 7, 8, 9, 10, 11, 12] rfl
            refine va_callv (va_runV (As := [.int 59]) (rest := []) ⟨hx, hb, hml, hown, hts⟩ (c_X7_write l D cI cB cZ cP H.size a (upd v 7 (nI (pn pp))) su sl (updF (updF F 7 X1_2) 8 Y1_2) g (wrt (pn pp) X1_2 Y1_2 z) 59 (hR) (by have := wrt_len (pn pp) X1_2 Y1_2 z; have := leg_len (Y1_2 (nxt (pn pp) z) - Y1_2 z) 110 115; (try simp only [List.length_append, List.length_singleton]); omega)) (cwV 1 hts gX7_sign_X7_write rfl rfl rfl (by decide +kernel) ⟨Nat.le_of_ble_eq_true rfl, Nat.le_of_ble_eq_true rfl⟩) (pVQ (q0 := 0) hPc hDc hW0 EF.t rfl rfl) rfl rfl hl.1 rfl (lv_room (Nat.le_of_ble_eq_true rfl)) dX7_sign_37 ⟨Nat.le_of_ble_eq_true rfl, Nat.le_of_ble_eq_true rfl⟩) hS (fun q _ h => hFc q h) hFc (fun u t H1 locs ht hvm hw hB hz1 hk1 hS => ?_)
            obtain ⟨g1_9, rfl⟩ : ∃ z, z = u := ⟨_, rfl⟩
            obtain ⟨hP1, hD1⟩ := hB
            rw [ht] at hP1
            have hw_9 : rowIs g1_9 ((wrt (pn pp) X1_2 Y1_2 z) ++ [59]) := hw
            obtain ⟨hP, hD⟩ := va_join (wr := []) (w1 := (MW cI cZ a (upd (upd v 7 (nI (pn pp))) 18 (nI ((wrt (pn pp) X1_2 Y1_2 z) ++ [59]).length)) su sl (updF (updF (updF F 7 X1_2) 8 Y1_2) 10 g1_9))) hP hD [0, 1, 2, 3, 4, 5, 6, 7, 8, 9, 10, 11, 12] [] rfl rfl (by decide) (by decide) hk1 hFc hP1 hD1
            generalize H1 = H at hP hS ⊢
            have hP : va_P D vwCl (MW cI cZ a (upd (upd v 7 (nI (pn pp))) 18 (nI ((wrt (pn pp) X1_2 Y1_2 z) ++ [59]).length)) su sl (updF (updF (updF F 7 X1_2) 8 Y1_2) 10 g1_9)) H := hP
            have hD : va_D A (MW cI cZ a (upd (upd v 7 (nI (pn pp))) 18 (nI ((wrt (pn pp) X1_2 Y1_2 z) ++ [59]).length)) su sl (updF (updF (updF F 7 X1_2) 8 Y1_2) 10 g1_9)) := hD
            refine lv_aload_n hx hb dX7_sign_40 rfl (lv_at hl 0 rfl) ?_
            refine lv_aload_n hx hb dX7_sign_41 rfl (lv_at hl 0 rfl) ?_
            refine va_get (D := D) (ci := 9) (v := .ref (a 8)) (C := RX7) (T := TX7) (N := 24) hx hb hts (by decide +kernel) hown hK hP 0 rfl rfl 12 (by decide) (hts (.fieldLink RX7 32 "LandDeedsModel" "cy" "[I") (by decide +kernel)) (fun _ h9 => h9) rfl dX7_sign_42 ?_
            refine lv_aload_n hx hb dX7_sign_45 rfl (lv_at hl 0 rfl) ?_
            refine lv_iload_n hx hb dX7_sign_46 rfl (lv_at hl 2 rfl) ?_
            have hPc := hP
            refine u_callSi (W.runV (As := [.int (nI z)]) (rest := [.ref (a 8), .ref (a 0)]) ⟨hx, hb, hml, hown, hts⟩ (c_X7_next l D cI cB cZ cP a (upd v 18 (nI ((wrt (pn pp) X1_2 Y1_2 z) ++ [59]).length)) su sl (updF F 10 g1_9) (pn pp) X1_2 Y1_2 z (h8_pp) (by omega)) (cwV 1 hts gX7_sign_X7_next rfl rfl rfl (by decide +kernel) ⟨Nat.le_of_ble_eq_true rfl, Nat.le_of_ble_eq_true rfl⟩) (pV (q0 := 0) hPc hW0 trivial rfl rfl) rfl rfl hl.1 rfl (lv_room (Nat.le_of_ble_eq_true rfl)) dX7_sign_47 ⟨Nat.le_of_ble_eq_true rfl, Nat.le_of_ble_eq_true rfl⟩) ?_
            refine u_iald hx hb hK hP 8 0 rfl rfl rfl ⟨by omega, by omega⟩ dX7_sign_50 ?_
            refine lv_aload_n hx hb dX7_sign_51 rfl (lv_at hl 0 rfl) ?_
            refine va_get (D := D) (ci := 9) (v := .ref (a 8)) (C := RX7) (T := TX7) (N := 24) hx hb hts (by decide +kernel) hown hK hP 0 rfl rfl 12 (by decide) (hts (.fieldLink RX7 32 "LandDeedsModel" "cy" "[I") (by decide +kernel)) (fun _ h9 => h9) rfl dX7_sign_52 ?_
            refine lv_iload_n hx hb dX7_sign_55 rfl (lv_at hl 2 rfl) ?_
            refine u_iald hx hb hK hP 8 0 rfl rfl rfl ⟨by omega, by omega⟩ dX7_sign_56 ?_
            refine lv_isub hx hb dX7_sign_57 ?_
            refine lv_bipush (v := 110) hx hb dX7_sign_58 (by decide) ?_
            refine lv_bipush (v := 115) hx hb dX7_sign_60 (by decide) ?_
            have hPc := hP
            have hDc := hD
            have hFc := va_free (wc := (MW cI cZ a (upd (upd v 7 (nI (pn pp))) 18 (nI ((wrt (pn pp) X1_2 Y1_2 z) ++ [59]).length)) su sl (updF (updF (updF F 7 X1_2) 8 Y1_2) 10 g1_9))) hD hS hA [0, 1, 2, 3, 4, 5, 6, 7, 8, 9, 10, 11, 12] rfl
            refine va_callv (va_runV (As := [.int ((Y1_2 (nxt (pn pp) z)) - (Y1_2 z)), .int 110, .int 115]) (rest := []) ⟨hx, hb, hml, hown, hts⟩ (c_X7_writeSteps l D cI cB cZ cP H.size a (upd v 7 (nI (pn pp))) su sl (updF (updF F 7 X1_2) 8 Y1_2) g1_9 ((wrt (pn pp) X1_2 Y1_2 z) ++ [59]) ((Y1_2 (nxt (pn pp) z)) - (Y1_2 z)) 110 115 (hw_9) (by have := wrt_len (pn pp) X1_2 Y1_2 z; have := leg_len (Y1_2 (nxt (pn pp) z) - Y1_2 z) 110 115; (try simp only [List.length_append, List.length_singleton]); omega)) (cwV 3 hts gX7_sign_X7_writeSteps rfl rfl rfl (by decide +kernel) ⟨Nat.le_of_ble_eq_true rfl, Nat.le_of_ble_eq_true rfl⟩) (pVQ (q0 := 0) hPc hDc hW0 EF.t rfl rfl) rfl rfl hl.1 rfl (lv_room (Nat.le_of_ble_eq_true rfl)) dX7_sign_62 ⟨Nat.le_of_ble_eq_true rfl, Nat.le_of_ble_eq_true rfl⟩) hS (fun q _ h => hFc q h) hFc (fun u t H1 locs ht hvm hw hB hz1 hk1 hS => ?_)
            obtain ⟨g1_10, rfl⟩ : ∃ z, z = u := ⟨_, rfl⟩
            obtain ⟨hP1, hD1⟩ := hB
            rw [ht] at hP1
            have hw_10 : rowIs g1_10 (((wrt (pn pp) X1_2 Y1_2 z) ++ [59]) ++ leg ((Y1_2 (nxt (pn pp) z)) - (Y1_2 z)) 110 115) := hw
            obtain ⟨hP, hD⟩ := va_join (wr := []) (w1 := (MW cI cZ a (upd (upd v 7 (nI (pn pp))) 18 (nI (((wrt (pn pp) X1_2 Y1_2 z) ++ [59]) ++ leg ((Y1_2 (nxt (pn pp) z)) - (Y1_2 z)) 110 115).length)) su sl (updF (updF (updF F 7 X1_2) 8 Y1_2) 10 g1_10))) hP hD [0, 1, 2, 3, 4, 5, 6, 7, 8, 9, 10, 11, 12] [] rfl rfl (by decide) (by decide) hk1 hFc hP1 hD1
            generalize H1 = H at hP hS ⊢
            have hP : va_P D vwCl (MW cI cZ a (upd (upd v 7 (nI (pn pp))) 18 (nI (((wrt (pn pp) X1_2 Y1_2 z) ++ [59]) ++ leg ((Y1_2 (nxt (pn pp) z)) - (Y1_2 z)) 110 115).length)) su sl (updF (updF (updF F 7 X1_2) 8 Y1_2) 10 g1_10)) H := hP
            have hD : va_D A (MW cI cZ a (upd (upd v 7 (nI (pn pp))) 18 (nI (((wrt (pn pp) X1_2 Y1_2 z) ++ [59]) ++ leg ((Y1_2 (nxt (pn pp) z)) - (Y1_2 z)) 110 115).length)) su sl (updF (updF (updF F 7 X1_2) 8 Y1_2) 10 g1_10)) := hD
            refine lv_aload_n hx hb dX7_sign_65 rfl (lv_at hl 0 rfl) ?_
            refine lv_aload_n hx hb dX7_sign_66 rfl (lv_at hl 0 rfl) ?_
            refine va_get (D := D) (ci := 9) (v := .ref (a 7)) (C := RX7) (T := TX7) (N := 24) hx hb hts (by decide +kernel) hown hK hP 0 rfl rfl 11 (by decide) (hts (.fieldLink RX7 29 "LandDeedsModel" "cx" "[I") (by decide +kernel)) (fun _ h9 => h9) rfl dX7_sign_67 ?_
            refine lv_aload_n hx hb dX7_sign_70 rfl (lv_at hl 0 rfl) ?_
            refine lv_iload_n hx hb dX7_sign_71 rfl (lv_at hl 2 rfl) ?_
            have hPc := hP
            refine u_callSi (W.runV (As := [.int (nI z)]) (rest := [.ref (a 7), .ref (a 0)]) ⟨hx, hb, hml, hown, hts⟩ (c_X7_next l D cI cB cZ cP a (upd v 18 (nI (((wrt (pn pp) X1_2 Y1_2 z) ++ [59]) ++ leg ((Y1_2 (nxt (pn pp) z)) - (Y1_2 z)) 110 115).length)) su sl (updF F 10 g1_10) (pn pp) X1_2 Y1_2 z (h8_pp) (by omega)) (cwV 1 hts gX7_sign_X7_next rfl rfl rfl (by decide +kernel) ⟨Nat.le_of_ble_eq_true rfl, Nat.le_of_ble_eq_true rfl⟩) (pV (q0 := 0) hPc hW0 trivial rfl rfl) rfl rfl hl.1 rfl (lv_room (Nat.le_of_ble_eq_true rfl)) dX7_sign_72 ⟨Nat.le_of_ble_eq_true rfl, Nat.le_of_ble_eq_true rfl⟩) ?_
            refine u_iald hx hb hK hP 7 0 rfl rfl rfl ⟨by omega, by omega⟩ dX7_sign_75 ?_
            refine lv_aload_n hx hb dX7_sign_76 rfl (lv_at hl 0 rfl) ?_
            refine va_get (D := D) (ci := 9) (v := .ref (a 7)) (C := RX7) (T := TX7) (N := 24) hx hb hts (by decide +kernel) hown hK hP 0 rfl rfl 11 (by decide) (hts (.fieldLink RX7 29 "LandDeedsModel" "cx" "[I") (by decide +kernel)) (fun _ h9 => h9) rfl dX7_sign_77 ?_
            refine lv_iload_n hx hb dX7_sign_80 rfl (lv_at hl 2 rfl) ?_
            refine u_iald hx hb hK hP 7 0 rfl rfl rfl ⟨by omega, by omega⟩ dX7_sign_81 ?_
            refine lv_isub hx hb dX7_sign_82 ?_
            refine lv_bipush (v := 101) hx hb dX7_sign_83 (by decide) ?_
            refine lv_bipush (v := 119) hx hb dX7_sign_85 (by decide) ?_
            have hPc := hP
            have hDc := hD
            have hFc := va_free (wc := (MW cI cZ a (upd (upd v 7 (nI (pn pp))) 18 (nI (((wrt (pn pp) X1_2 Y1_2 z) ++ [59]) ++ leg ((Y1_2 (nxt (pn pp) z)) - (Y1_2 z)) 110 115).length)) su sl (updF (updF (updF F 7 X1_2) 8 Y1_2) 10 g1_10))) hD hS hA [0, 1, 2, 3, 4, 5, 6, 7, 8, 9, 10, 11, 12] rfl
            refine va_callv (va_runV (As := [.int ((X1_2 (nxt (pn pp) z)) - (X1_2 z)), .int 101, .int 119]) (rest := []) ⟨hx, hb, hml, hown, hts⟩ (c_X7_writeSteps l D cI cB cZ cP H.size a (upd v 7 (nI (pn pp))) su sl (updF (updF F 7 X1_2) 8 Y1_2) g1_10 (((wrt (pn pp) X1_2 Y1_2 z) ++ [59]) ++ leg ((Y1_2 (nxt (pn pp) z)) - (Y1_2 z)) 110 115) ((X1_2 (nxt (pn pp) z)) - (X1_2 z)) 101 119 (hw_10) (by have := wrt_len (pn pp) X1_2 Y1_2 z; have := leg_len (Y1_2 (nxt (pn pp) z) - Y1_2 z) 110 115; (try simp only [List.length_append, List.length_singleton]); omega)) (cwV 3 hts gX7_sign_X7_writeSteps rfl rfl rfl (by decide +kernel) ⟨Nat.le_of_ble_eq_true rfl, Nat.le_of_ble_eq_true rfl⟩) (pVQ (q0 := 0) hPc hDc hW0 EF.t rfl rfl) rfl rfl hl.1 rfl (lv_room (Nat.le_of_ble_eq_true rfl)) dX7_sign_87 ⟨Nat.le_of_ble_eq_true rfl, Nat.le_of_ble_eq_true rfl⟩) hS (fun q _ h => hFc q h) hFc (fun u t H1 locs ht hvm hw hB hz1 hk1 hS => ?_)
            obtain ⟨g1_11, rfl⟩ : ∃ z, z = u := ⟨_, rfl⟩
            obtain ⟨hP1, hD1⟩ := hB
            rw [ht] at hP1
            have hw_11 : rowIs g1_11 ((((wrt (pn pp) X1_2 Y1_2 z) ++ [59]) ++ leg ((Y1_2 (nxt (pn pp) z)) - (Y1_2 z)) 110 115) ++ leg ((X1_2 (nxt (pn pp) z)) - (X1_2 z)) 101 119) := hw
            obtain ⟨hP, hD⟩ := va_join (wr := []) (w1 := (MW cI cZ a (upd (upd v 7 (nI (pn pp))) 18 (nI ((((wrt (pn pp) X1_2 Y1_2 z) ++ [59]) ++ leg ((Y1_2 (nxt (pn pp) z)) - (Y1_2 z)) 110 115) ++ leg ((X1_2 (nxt (pn pp) z)) - (X1_2 z)) 101 119).length)) su sl (updF (updF (updF F 7 X1_2) 8 Y1_2) 10 g1_11))) hP hD [0, 1, 2, 3, 4, 5, 6, 7, 8, 9, 10, 11, 12] [] rfl rfl (by decide) (by decide) hk1 hFc hP1 hD1
            generalize H1 = H at hP hS ⊢
            have hP : va_P D vwCl (MW cI cZ a (upd (upd v 7 (nI (pn pp))) 18 (nI ((((wrt (pn pp) X1_2 Y1_2 z) ++ [59]) ++ leg ((Y1_2 (nxt (pn pp) z)) - (Y1_2 z)) 110 115) ++ leg ((X1_2 (nxt (pn pp) z)) - (X1_2 z)) 101 119).length)) su sl (updF (updF (updF F 7 X1_2) 8 Y1_2) 10 g1_11)) H := hP
            have hD : va_D A (MW cI cZ a (upd (upd v 7 (nI (pn pp))) 18 (nI ((((wrt (pn pp) X1_2 Y1_2 z) ++ [59]) ++ leg ((Y1_2 (nxt (pn pp) z)) - (Y1_2 z)) 110 115) ++ leg ((X1_2 (nxt (pn pp) z)) - (X1_2 z)) 101 119).length)) su sl (updF (updF (updF F 7 X1_2) 8 Y1_2) 10 g1_11)) := hD
            have hwz : wrt (pn pp) X1_2 Y1_2 (z + 1) = (((wrt (pn pp) X1_2 Y1_2 z) ++ [59]) ++ leg ((Y1_2 (nxt (pn pp) z)) - (Y1_2 z)) 110 115) ++ leg ((X1_2 (nxt (pn pp) z)) - (X1_2 z)) 101 119 := by simp only [wrt]; rw [if_neg (by omega)]
            have hRz := hw_11; rw [← hwz] at hRz
            rw [← hwz] at hP hD
            refine lv_iinc (v := nI (z + 1)) (lv' := [(3, .int (nI (z + 1))), (0, .ref (a 0)), (2, .int y)]) hx hb dX7_sign_90 hl (k := 2) rfl (nI_1 _) (by decide) rfl (fun ls hl => ?_)
            refine lv_goto (tgt := 22) hx hb dX7_sign_93 (by decide) ?_
            exact ih_22 (z + 1) g1_11 (by omega) (hRz) (by omega) _ _ hP hD hS ls (lv_sub hl [1, 2, 0] rfl)
    exact LOOP_22 (pn pp - 0 + 1) 0 (F 10) (Nat.zero_le _) (rowIs_nil _) (Nat.lt_succ_self _) _ _ hP hD hS ls (lv_sub hl [1, 3, 0] rfl)
  · skip
    have nc_1 := zb_eq0.mp c_1
    refine lv_iconst (v := (-1)) hx hb dX7_sign_8 (by decide) ?_
    rw [← hQ]
    have hP9 := hP
    have hD9 := hD
    exact W.iret (v := (-1)) hx hb hr (fun t ht hW => ⟨⟨_, (v, su, sl, F), rfl, ⟨(cif_f nc_1).symm, ⟨rfl, rfl, rfl, rfl, rfl⟩⟩, by rw [ht]; exact hP9, hD9⟩, hS.F ht⟩) hS.2.2 dX7_sign_9

