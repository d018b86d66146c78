set_option maxHeartbeats 4000000 in
set_option maxRecDepth 100000 in
theorem c_X1_writeLeg (l : Launch) (D : va_G) (cI cB cZ cP : ClassId) (sz : Nat) (tz1 tz2 : Nat) (h0 va cp : Nat) (ml : Int32) (ba : Nat → Int32) (wt : List Int32) (d la lb : Int32) (hc : cap cp) (hR : rowIs ba wt) (hL : lat ba) (hwl : wt.length ≤ cp) (h64 : wt.length + 4 ≤ 64) (hd9 : -31 ≤ d.toInt ∧ d.toInt ≤ 31) (hla : ltr la) (hlb : ltr lb) : Met l yX1_writeLeg wsX1_writeLeg ({ frames := 6, cells := 2, slots := 140, locals := 128 } : Room) (va_Pc [.ref h0, .int d, .int la, .int lb] (fun U => U.heap.size = sz ∧ va_P D vwCl [(h0, .inr (1, [.ref va, .int 0, .int ml, .int (nI wt.length)])), (va, .inl (cB, cp, .inl ba))] U.heap ∧ KW D cI cB cZ cP U ∧ va_D (fun _ => True) [(h0, .inr (1, [.ref va, .int 0, .int ml, .int (nI wt.length)])), (va, .inl (cB, cp, .inl ba))] ∧ EF [(h0, .inr (1, [.ref va, .int 0, .int ml, .int (nI wt.length)])), (va, .inl (cB, cp, .inl ba))] sz E0 U.heap ∧ ZZ tz1 tz2 (va_A [(h0, .inr (1, [.ref va, .int 0, .int ml, .int (nI wt.length)])), (va, .inl (cB, cp, .inl ba))] sz) U U.heap)) (va_Qv (fun (u : Nat × Nat × (Nat → Int32)) => match u with | (va1, cp1, a1) => cap cp1 ∧ (wt ++ leg d la lb).length ≤ cp1 ∧ rowIs a1 (wt ++ leg d la lb) ∧ lat a1) (fun (u : Nat × Nat × (Nat → Int32)) (t : State) => match u with | (va1, cp1, a1) => va_P D vwCl [(h0, .inr (1, [.ref va1, .int 0, .int ml, .int (nI (wt ++ leg d la lb).length)])), (va1, .inl (cB, cp1, .inl a1))] t.heap ∧ va_D (va_A [(h0, .inr (1, [.ref va, .int 0, .int ml, .int (nI wt.length)])), (va, .inl (cB, cp, .inl ba))] sz) [(h0, .inr (1, [.ref va1, .int 0, .int ml, .int (nI (wt ++ leg d la lb).length)])), (va1, .inl (cB, cp1, .inl a1))]) (va_A [(h0, .inr (1, [.ref va, .int 0, .int ml, .int (nI wt.length)])), (va, .inl (cB, cp, .inl ba))] sz)) 2 140 (va_A [(h0, .inr (1, [.ref va, .int 0, .int ml, .int (nI wt.length)])), (va, .inl (cB, cp, .inl ba))] sz) := by
  refine Met.ofW (cc := cX1_writeLeg) (maxL := 4) (ret := none) (by decide) rfl ?_
  intro p e s m args below meth c s₁ B hml hv
  obtain ⟨rfl, hsz, hP, hW0, hD0, hE, hZ⟩ := hv
  have hx := B.exec
  have hb := B.bytes
  have hr := B.returns
  have hts := atoms_spec (ws := wsX1_writeLeg) B.pre
  have hown : s.vm.findClass RX1 = some m.cls := findClass_of_methodNamed B.named
  have hlocks := B.notSynchronized
  have hK := hW0.1
  subst hsz
  have hD := hD0.self (sz := s.heap.size)
  unfold EF at hE
  generalize hAe : va_A [(h0, .inr (1, [.ref va, .int 0, .int ml, .int (nI wt.length)])), (va, .inl (cB, cp, .inl ba))] s.heap.size = A at hD hE hZ ⊢
  have hA : ∀ q : Nat, s.heap.size ≤ q → A q := fun q h => by rw [← hAe]; exact Or.inr h
  have hS : va_S A s.heap s.heap [] := va_S.rf
  have hl := lv_entry ([.ref h0, .int d, .int la, .int lb]) (n := 4) (Nat.le_of_ble_eq_true rfl)
  rw [lg_entry_eq]
  generalize (lg_sl ([.ref h0, .int d, .int la, .int lb]) ++ List.replicate (4 - (lg_sl ([.ref h0, .int d, .int la, .int lb])).length) Slot.unset).toArray = ls at hl ⊢
  have hl : lv_has ls 4 [(0, .ref h0), (1, .int d), (2, .int la), (3, .int lb)] := hl
  show W p l e ({ frames := 6, cells := 2, slots := 140, locals := 128 } : Room) s m ([.ref h0, .int d, .int la, .int lb] : List Value).toArray below meth c s.heap [] 0 0 _ (F0 m 0 ls [])
  refine u_genQ (fun Q hQ => ?_)
  refine lv_iload_n hx hb dX1_writeLeg_0 rfl (lv_at hl 1 rfl) ?_
  refine lv_if_eq (tgt := 27) hx hb dX1_writeLeg_1 (by decide) (fun c_1 => ?_) (fun c_1 => ?_)
  · skip
    have hlg9 : wt ++ leg d la lb = wt := by rw [show leg d la lb = [] from by unfold leg; rw [if_pos c_1], List.append_nil]
    rw [← show nI (wt ++ leg d la lb).length = nI wt.length by rw [hlg9]] at hP hD
    rw [← hQ]
    refine W.widen (k := 2) (n := 140) (by omega) (by omega) ?_
    have hP9 := hP
    have hD9 := hD
    exact W.vret hx hb hr (fun t ht hW => ⟨⟨(va, cp, ba), rfl, ⟨hc, by rw [hlg9]; exact hwl, by rw [hlg9]; exact hR, hL⟩, by rw [ht]; exact hP9, hD9⟩, hS.F ht⟩) hS.2.2 dX1_writeLeg_27
  · skip
    refine lv_aload_n hx hb dX1_writeLeg_4 rfl (lv_at hl 0 rfl) ?_
    refine lv_iload_n hx hb dX1_writeLeg_5 rfl (lv_at hl 1 rfl) ?_
    refine lv_if_le (tgt := 13) hx hb dX1_writeLeg_6 (by decide) (fun c_2 => ?_) (fun c_2 => ?_)
    · skip
      refine lv_iload_n hx hb dX1_writeLeg_13 rfl (lv_at hl 3 rfl) ?_
      have hPc := hP.sub (ws' := [(h0, .inr (1, [.ref va, .int 0, .int ml, .int (nI wt.length)])), (va, .inl (cB, cp, .inl ba))]) [0, 1] rfl
      have hDc := hD.sub (ws' := [(h0, .inr (1, [.ref va, .int 0, .int ml, .int (nI wt.length)])), (va, .inl (cB, cp, .inl ba))]) [0, 1] (by decide) rfl
      have hFc := va_free (wc := [(h0, .inr (1, [.ref va, .int 0, .int ml, .int (nI wt.length)])), (va, .inl (cB, cp, .inl ba))]) hD hS hA [0, 1] rfl
      refine va_callr (va_runV (As := [.int lb]) (rest := []) ⟨hx, hb, hml, hown, hts⟩ (c_J4_append_cf468 l D cI cB cZ cP s.heap.size tz1 tz2 h0 va cp ml ba wt lb (hc) (hR) (hL) (hwl) (by omega) (hlb)) (cwV 1 hts gX1_writeLeg_J4_append_cf468 rfl rfl rfl (by decide +kernel) ⟨Nat.le_of_ble_eq_true rfl, Nat.le_of_ble_eq_true rfl⟩) (pVQZ (q0 := 0) hPc hDc hW0 EF.t (hZ.to hS.2.1 hFc) rfl rfl) rfl rfl hl.1 rfl (lv_room (Nat.le_of_ble_eq_true rfl)) dX1_writeLeg_14 ⟨Nat.le_of_ble_eq_true rfl, Nat.le_of_ble_eq_true rfl⟩) hS (fun q _ h => hFc q h) hFc (fun u ra_3 t H1 locs ht hvm hw hB hz1 hk1 hS => ?_)
      obtain ⟨va1_3, cp1_3, a1_3⟩ := u
      obtain ⟨hra, hP1, hD1⟩ := hB
      rw [ht] at hP1
      subst hra
      have hw_3 : cap cp1_3 ∧ (wt ++ [lb]).length ≤ cp1_3 ∧ rowIs a1_3 (wt ++ [lb]) ∧ lat a1_3 := hw
      obtain ⟨hP, hD⟩ := va_join (wr := []) (w1 := [(h0, .inr (1, [.ref va1_3, .int 0, .int ml, .int (nI (wt ++ [lb]).length)])), (va1_3, .inl (cB, cp1_3, .inl a1_3))]) hP hD [0, 1] [] rfl rfl (by decide) (by decide) hk1 hFc hP1 hD1
      generalize H1 = H at hP hS ⊢
      have hP := hP.sub (ws' := [(h0, .inr (1, [.ref va1_3, .int 0, .int ml, .int (nI (wt ++ [lb]).length)])), (va1_3, .inl (cB, cp1_3, .inl a1_3))]) [0, 1] rfl
      have hD := hD.sub (ws' := [(h0, .inr (1, [.ref va1_3, .int 0, .int ml, .int (nI (wt ++ [lb]).length)])), (va1_3, .inl (cB, cp1_3, .inl a1_3))]) [0, 1] (by decide) rfl
      refine lv_pop hx hb dX1_writeLeg_17 rfl ?_
      refine lv_aload_n hx hb dX1_writeLeg_18 rfl (lv_at hl 0 rfl) ?_
      refine lv_iload_n hx hb dX1_writeLeg_19 rfl (lv_at hl 1 rfl) ?_
      refine va_mabs hx hb (by rw [hml]; exact hl.1.symm) hown (hts (.methodLink RX1 60 Lib.Math.abs.name) (by decide +kernel)) (hts (.static Lib.Math.abs.name) (by decide +kernel)) (hts (.initialized "java/lang/Math") (by decide +kernel)) (hts (.code Lib.Math.abs.name Lib.Math.abs.code 1 (some .int)) (by decide +kernel)) (Nat.le_of_ble_eq_true rfl) (Nat.le_of_ble_eq_true rfl) (by show _ ≤ 2; omega) (by show _ ≤ 140; omega) dX1_writeLeg_20 ?_
      refine u_eqi (show ab d = nI (adz d) from (ab_adz hd9).1) ?_
      have hPc := hP.sub (ws' := [(h0, .inr (1, [.ref va1_3, .int 0, .int ml, .int (nI (wt ++ [lb]).length)])), (va1_3, .inl (cB, cp1_3, .inl a1_3))]) [0, 1] rfl
      have hDc := hD.sub (ws' := [(h0, .inr (1, [.ref va1_3, .int 0, .int ml, .int (nI (wt ++ [lb]).length)])), (va1_3, .inl (cB, cp1_3, .inl a1_3))]) [0, 1] (by decide) rfl
      have hFc := va_free (wc := [(h0, .inr (1, [.ref va1_3, .int 0, .int ml, .int (nI (wt ++ [lb]).length)])), (va1_3, .inl (cB, cp1_3, .inl a1_3))]) hD hS hA [0, 1] rfl
      refine va_callr (va_runV (As := [.int (nI (adz d))]) (rest := []) ⟨hx, hb, hml, hown, hts⟩ (c_J4_append_bf812 l D cI cB cZ cP H.size tz1 tz2 h0 va1_3 cp1_3 ml a1_3 (wt ++ [lb]) (adz d) (hw_3.1) (hw_3.2.2.1) (hw_3.2.2.2) (hw_3.2.1) (by rw [List.length_append]; show _ + 1 + 3 ≤ 64; omega) ((ab_adz hd9).2)) (cwV 1 hts gX1_writeLeg_J4_append_bf812 rfl rfl rfl (by decide +kernel) ⟨Nat.le_of_ble_eq_true rfl, Nat.le_of_ble_eq_true rfl⟩) (pVQZ (q0 := 0) hPc hDc hW0 EF.t (hZ.to hS.2.1 hFc) rfl rfl) rfl rfl hl.1 rfl (lv_room (Nat.le_of_ble_eq_true rfl)) dX1_writeLeg_23 ⟨Nat.le_of_ble_eq_true rfl, Nat.le_of_ble_eq_true rfl⟩) hS (fun q _ h => hFc q h) hFc (fun u ra_4 t H1 locs ht hvm hw hB hz1 hk1 hS => ?_)
      obtain ⟨va1_4, cp1_4, a1_4⟩ := u
      obtain ⟨hra, hP1, hD1⟩ := hB
      rw [ht] at hP1
      subst hra
      have hw_4 : cap cp1_4 ∧ ((wt ++ [lb]) ++ dg (adz d)).length ≤ cp1_4 ∧ rowIs a1_4 ((wt ++ [lb]) ++ dg (adz d)) ∧ lat a1_4 := hw
      obtain ⟨hP, hD⟩ := va_join (wr := []) (w1 := [(h0, .inr (1, [.ref va1_4, .int 0, .int ml, .int (nI ((wt ++ [lb]) ++ dg (adz d)).length)])), (va1_4, .inl (cB, cp1_4, .inl a1_4))]) hP hD [0, 1] [] rfl rfl (by decide) (by decide) hk1 hFc hP1 hD1
      generalize H1 = H at hP hS ⊢
      have hP := hP.sub (ws' := [(h0, .inr (1, [.ref va1_4, .int 0, .int ml, .int (nI ((wt ++ [lb]) ++ dg (adz d)).length)])), (va1_4, .inl (cB, cp1_4, .inl a1_4))]) [0, 1] rfl
      have hD := hD.sub (ws' := [(h0, .inr (1, [.ref va1_4, .int 0, .int ml, .int (nI ((wt ++ [lb]) ++ dg (adz d)).length)])), (va1_4, .inl (cB, cp1_4, .inl a1_4))]) [0, 1] (by decide) rfl
      refine lv_pop hx hb dX1_writeLeg_26 rfl ?_
      have hlg9 : wt ++ leg d la lb = ((wt ++ [lb]) ++ dg (adz d)) := by rw [leg_dg hd9 c_1, if_pos c_2]; simp
      rw [← hlg9] at hP hD
      have hwq := hw_4; rw [← hlg9] at hwq
      rw [← hQ]
      have hP9 := hP
      have hD9 := hD
      exact W.vret hx hb hr (fun t ht hW => ⟨⟨(va1_4, cp1_4, a1_4), rfl, hwq, by rw [ht]; exact hP9, hD9⟩, hS.F ht⟩) hS.2.2 dX1_writeLeg_27
    · skip
      refine lv_iload_n hx hb dX1_writeLeg_9 rfl (lv_at hl 2 rfl) ?_
      refine lv_goto (tgt := 14) hx hb dX1_writeLeg_10 (by decide) ?_
      have hPc := hP.sub (ws' := [(h0, .inr (1, [.ref va, .int 0, .int ml, .int (nI wt.length)])), (va, .inl (cB, cp, .inl ba))]) [0, 1] rfl
      have hDc := hD.sub (ws' := [(h0, .inr (1, [.ref va, .int 0, .int ml, .int (nI wt.length)])), (va, .inl (cB, cp, .inl ba))]) [0, 1] (by decide) rfl
      have hFc := va_free (wc := [(h0, .inr (1, [.ref va, .int 0, .int ml, .int (nI wt.length)])), (va, .inl (cB, cp, .inl ba))]) hD hS hA [0, 1] rfl
      refine va_callr (va_runV (As := [.int la]) (rest := []) ⟨hx, hb, hml, hown, hts⟩ (c_J4_append_cf468 l D cI cB cZ cP s.heap.size tz1 tz2 h0 va cp ml ba wt la (hc) (hR) (hL) (hwl) (by omega) (hla)) (cwV 1 hts gX1_writeLeg_J4_append_cf468 rfl rfl rfl (by decide +kernel) ⟨Nat.le_of_ble_eq_true rfl, Nat.le_of_ble_eq_true rfl⟩) (pVQZ (q0 := 0) hPc hDc hW0 EF.t (hZ.to hS.2.1 hFc) rfl rfl) rfl rfl hl.1 rfl (lv_room (Nat.le_of_ble_eq_true rfl)) dX1_writeLeg_14 ⟨Nat.le_of_ble_eq_true rfl, Nat.le_of_ble_eq_true rfl⟩) hS (fun q _ h => hFc q h) hFc (fun u ra_5 t H1 locs ht hvm hw hB hz1 hk1 hS => ?_)
      obtain ⟨va1_5, cp1_5, a1_5⟩ := u
      obtain ⟨hra, hP1, hD1⟩ := hB
      rw [ht] at hP1
      subst hra
      have hw_5 : cap cp1_5 ∧ (wt ++ [la]).length ≤ cp1_5 ∧ rowIs a1_5 (wt ++ [la]) ∧ lat a1_5 := hw
      obtain ⟨hP, hD⟩ := va_join (wr := []) (w1 := [(h0, .inr (1, [.ref va1_5, .int 0, .int ml, .int (nI (wt ++ [la]).length)])), (va1_5, .inl (cB, cp1_5, .inl a1_5))]) hP hD [0, 1] [] rfl rfl (by decide) (by decide) hk1 hFc hP1 hD1
      generalize H1 = H at hP hS ⊢
      have hP := hP.sub (ws' := [(h0, .inr (1, [.ref va1_5, .int 0, .int ml, .int (nI (wt ++ [la]).length)])), (va1_5, .inl (cB, cp1_5, .inl a1_5))]) [0, 1] rfl
      have hD := hD.sub (ws' := [(h0, .inr (1, [.ref va1_5, .int 0, .int ml, .int (nI (wt ++ [la]).length)])), (va1_5, .inl (cB, cp1_5, .inl a1_5))]) [0, 1] (by decide) rfl
      refine lv_pop hx hb dX1_writeLeg_17 rfl ?_
      refine lv_aload_n hx hb dX1_writeLeg_18 rfl (lv_at hl 0 rfl) ?_
      refine lv_iload_n hx hb dX1_writeLeg_19 rfl (lv_at hl 1 rfl) ?_
      refine va_mabs hx hb (by rw [hml]; exact hl.1.symm) hown (hts (.methodLink RX1 60 Lib.Math.abs.name) (by decide +kernel)) (hts (.static Lib.Math.abs.name) (by decide +kernel)) (hts (.initialized "java/lang/Math") (by decide +kernel)) (hts (.code Lib.Math.abs.name Lib.Math.abs.code 1 (some .int)) (by decide +kernel)) (Nat.le_of_ble_eq_true rfl) (Nat.le_of_ble_eq_true rfl) (by show _ ≤ 2; omega) (by show _ ≤ 140; omega) dX1_writeLeg_20 ?_
      refine u_eqi (show ab d = nI (adz d) from (ab_adz hd9).1) ?_
      have hPc := hP.sub (ws' := [(h0, .inr (1, [.ref va1_5, .int 0, .int ml, .int (nI (wt ++ [la]).length)])), (va1_5, .inl (cB, cp1_5, .inl a1_5))]) [0, 1] rfl
      have hDc := hD.sub (ws' := [(h0, .inr (1, [.ref va1_5, .int 0, .int ml, .int (nI (wt ++ [la]).length)])), (va1_5, .inl (cB, cp1_5, .inl a1_5))]) [0, 1] (by decide) rfl
      have hFc := va_free (wc := [(h0, .inr (1, [.ref va1_5, .int 0, .int ml, .int (nI (wt ++ [la]).length)])), (va1_5, .inl (cB, cp1_5, .inl a1_5))]) hD hS hA [0, 1] rfl
      refine va_callr (va_runV (As := [.int (nI (adz d))]) (rest := []) ⟨hx, hb, hml, hown, hts⟩ (c_J4_append_bf812 l D cI cB cZ cP H.size tz1 tz2 h0 va1_5 cp1_5 ml a1_5 (wt ++ [la]) (adz d) (hw_5.1) (hw_5.2.2.1) (hw_5.2.2.2) (hw_5.2.1) (by rw [List.length_append]; show _ + 1 + 3 ≤ 64; omega) ((ab_adz hd9).2)) (cwV 1 hts gX1_writeLeg_J4_append_bf812 rfl rfl rfl (by decide +kernel) ⟨Nat.le_of_ble_eq_true rfl, Nat.le_of_ble_eq_true rfl⟩) (pVQZ (q0 := 0) hPc hDc hW0 EF.t (hZ.to hS.2.1 hFc) rfl rfl) rfl rfl hl.1 rfl (lv_room (Nat.le_of_ble_eq_true rfl)) dX1_writeLeg_23 ⟨Nat.le_of_ble_eq_true rfl, Nat.le_of_ble_eq_true rfl⟩) hS (fun q _ h => hFc q h) hFc (fun u ra_6 t H1 locs ht hvm hw hB hz1 hk1 hS => ?_)
      obtain ⟨va1_6, cp1_6, a1_6⟩ := u
      obtain ⟨hra, hP1, hD1⟩ := hB
      rw [ht] at hP1
      subst hra
      have hw_6 : cap cp1_6 ∧ ((wt ++ [la]) ++ dg (adz d)).length ≤ cp1_6 ∧ rowIs a1_6 ((wt ++ [la]) ++ dg (adz d)) ∧ lat a1_6 := hw
      obtain ⟨hP, hD⟩ := va_join (wr := []) (w1 := [(h0, .inr (1, [.ref va1_6, .int 0, .int ml, .int (nI ((wt ++ [la]) ++ dg (adz d)).length)])), (va1_6, .inl (cB, cp1_6, .inl a1_6))]) hP hD [0, 1] [] rfl rfl (by decide) (by decide) hk1 hFc hP1 hD1
      generalize H1 = H at hP hS ⊢
      have hP := hP.sub (ws' := [(h0, .inr (1, [.ref va1_6, .int 0, .int ml, .int (nI ((wt ++ [la]) ++ dg (adz d)).length)])), (va1_6, .inl (cB, cp1_6, .inl a1_6))]) [0, 1] rfl
      have hD := hD.sub (ws' := [(h0, .inr (1, [.ref va1_6, .int 0, .int ml, .int (nI ((wt ++ [la]) ++ dg (adz d)).length)])), (va1_6, .inl (cB, cp1_6, .inl a1_6))]) [0, 1] (by decide) rfl
      refine lv_pop hx hb dX1_writeLeg_26 rfl ?_
      have hlg9 : wt ++ leg d la lb = ((wt ++ [la]) ++ dg (adz d)) := by rw [leg_dg hd9 c_1, if_neg c_2]; simp
      rw [← hlg9] at hP hD
      have hwq := hw_6; rw [← hlg9] at hwq
      rw [← hQ]
      have hP9 := hP
      have hD9 := hD
      exact W.vret hx hb hr (fun t ht hW => ⟨⟨(va1_6, cp1_6, a1_6), rfl, hwq, by rw [ht]; exact hP9, hD9⟩, hS.F ht⟩) hS.2.2 dX1_writeLeg_27

set_option maxHeartbeats 4000000 in
set_option maxRecDepth 100000 in
theorem c_X1_write (l : Launch) (D : va_G) (cI cB cZ cP : ClassId) (sz : Nat) (tz1 tz2 : Nat) (h0 ax ay nn : Nat) (X Y : Nat → Int32) (hn8 : nn ≤ 8) (hp : ∀ z, z < nn → isP (X z) (Y z)) : Met l yX1_write wsX1_write ({ frames := 7, cells := 44, slots := 2894, locals := 151 } : Room) (va_Pc [.ref h0] (fun U => U.heap.size = sz ∧ va_P D vwCl [(h0, .inr (3, [.ref ax, .ref ay, .int (nI nn)])), (ax, .inl (cI, nn, .inl X)), (ay, .inl (cI, nn, .inl Y))] U.heap ∧ KW D cI cB cZ cP U ∧ va_D (fun _ => True) [(h0, .inr (3, [.ref ax, .ref ay, .int (nI nn)])), (ax, .inl (cI, nn, .inl X)), (ay, .inl (cI, nn, .inl Y))] ∧ EF [(h0, .inr (3, [.ref ax, .ref ay, .int (nI nn)])), (ax, .inl (cI, nn, .inl X)), (ay, .inl (cI, nn, .inl Y))] sz E0 U.heap ∧ ZZ tz1 tz2 (va_A [(h0, .inr (3, [.ref ax, .ref ay, .int (nI nn)])), (ax, .inl (cI, nn, .inl X)), (ay, .inl (cI, nn, .inl Y))] sz) U U.heap)) (va_Qr (fun (u : Nat × (Nat → Int32)) => match u with | (qv, g) => rowIs g (wrt nn X Y nn) ∧ lat g) (fun (u : Nat × (Nat → Int32)) (ra : Nat) (t : State) => match u with | (qv, g) => va_P D vwCl [(h0, .inr (3, [.ref ax, .ref ay, .int (nI nn)])), (ax, .inl (cI, nn, .inl X)), (ay, .inl (cI, nn, .inl Y)), (ra, .inr (0, [.ref qv, .int 0, .int 0, .int 0])), (qv, .inl (cB, ((wrt nn X Y nn).length), .inl g))] t.heap ∧ va_D (va_A [(h0, .inr (3, [.ref ax, .ref ay, .int (nI nn)])), (ax, .inl (cI, nn, .inl X)), (ay, .inl (cI, nn, .inl Y))] sz) [(h0, .inr (3, [.ref ax, .ref ay, .int (nI nn)])), (ax, .inl (cI, nn, .inl X)), (ay, .inl (cI, nn, .inl Y)), (ra, .inr (0, [.ref qv, .int 0, .int 0, .int 0])), (qv, .inl (cB, ((wrt nn X Y nn).length), .inl g))]) (va_A [(h0, .inr (3, [.ref ax, .ref ay, .int (nI nn)])), (ax, .inl (cI, nn, .inl X)), (ay, .inl (cI, nn, .inl Y))] sz)) 44 2894 (va_A [(h0, .inr (3, [.ref ax, .ref ay, .int (nI nn)])), (ax, .inl (cI, nn, .inl X)), (ay, .inl (cI, nn, .inl Y))] sz) := by
  refine Met.ofW (cc := cX1_write) (maxL := 4) (ret := (some (.object "java/lang/String"))) (by decide) rfl ?_
  intro p e s m args below meth c s₁ B hml hv
  obtain ⟨rfl, hsz, hP, hW0, hD0, hE, hZ⟩ := hv
  have hx := B.exec
  have hb := B.bytes
  have hr := B.returns
  have hts := atoms_spec (ws := wsX1_write) B.pre
  have hown : s.vm.findClass RX1 = some m.cls := findClass_of_methodNamed B.named
  have hlocks := B.notSynchronized
  have hK := hW0.1
  subst hsz
  have hD := hD0.self (sz := s.heap.size)
  unfold EF at hE
  generalize hAe : va_A [(h0, .inr (3, [.ref ax, .ref ay, .int (nI nn)])), (ax, .inl (cI, nn, .inl X)), (ay, .inl (cI, nn, .inl Y))] s.heap.size = A at hD hE hZ ⊢
  have hA : ∀ q : Nat, s.heap.size ≤ q → A q := fun q h => by rw [← hAe]; exact Or.inr h
  have hS : va_S A s.heap s.heap [] := va_S.rf
  have hl := lv_entry ([.ref h0]) (n := 4) (Nat.le_of_ble_eq_true rfl)
  rw [lg_entry_eq]
  generalize (lg_sl ([.ref h0]) ++ List.replicate (4 - (lg_sl ([.ref h0])).length) Slot.unset).toArray = ls at hl ⊢
  have hl : lv_has ls 4 [(0, .ref h0)] := hl
  show W p l e ({ frames := 7, cells := 44, slots := 2894, locals := 151 } : Room) s m ([.ref h0] : List Value).toArray below meth c s.heap [] 0 0 _ (F0 m 0 ls [])
  refine u_genQ (fun Q hQ => ?_)
  refine va_new (ci := 1) (fs := [.null, .int 0, .int 0, .int 0]) (C := RJ4) (T := TJ4) (N := 4) hx hb hts (by decide +kernel) tyJ4 tyJ4_ok hown (hts (.classLink RX1 86 RJ4) (by decide +kernel)) (hts (.instantiable RJ4 4) (by decide +kernel)) (hts (.initialized RJ4) (by decide +kernel)) hK hP hD hS hA rfl (fun j hj => by rcases (show j = 0 ∨ j = 1 ∨ j = 2 ∨ j = 3 by omega) with rfl | rfl | rfl | rfl <;> rfl) (Nat.le_of_ble_eq_true rfl) (Nat.le_of_ble_eq_true rfl) dX1_write_0 (fun q_1 H hP hD hS => ?_)
  have hP : va_P D vwCl [(h0, .inr (3, [.ref ax, .ref ay, .int (nI nn)])), (ax, .inl (cI, nn, .inl X)), (ay, .inl (cI, nn, .inl Y)), (q_1, .inr (1, [.null, .int 0, .int 0, .int 0]))] H := hP
  have hD : va_D A [(h0, .inr (3, [.ref ax, .ref ay, .int (nI nn)])), (ax, .inl (cI, nn, .inl X)), (ay, .inl (cI, nn, .inl Y)), (q_1, .inr (1, [.null, .int 0, .int 0, .int 0]))] := hD
  refine W.widen (k := 1) (n := 4) (Nat.le_of_ble_eq_true rfl) (Nat.le_of_ble_eq_true rfl) ?_
  refine lv_dup hx hb dX1_write_3 rfl ?_
  have hPc := hP.sub (ws' := [(q_1, .inr (1, [.null, .int 0, .int 0, .int 0]))]) [3] rfl
  have hDc := hD.sub (ws' := [(q_1, .inr (1, [.null, .int 0, .int 0, .int 0]))]) [3] (by decide) rfl
  have hFc := va_free (wc := [(q_1, .inr (1, [.null, .int 0, .int 0, .int 0]))]) hD hS hA [3] rfl
  refine va_callv (va_runI (As := []) (rest := [.ref q_1]) ⟨hx, hb, hml, hown, hts⟩ (c_J4_init_da8c8 l D cI cB cZ cP H.size tz1 tz2 q_1 ) (cwI 0 hts gX1_write_J4_init_da8c8 rfl rfl rfl (hts (.initialized RJ4) (by decide +kernel)) (hts (.methodLink RX1 88 yJ4_init_da8c8) (by decide +kernel)) (hts (.instanceMethod yJ4_init_da8c8) (by decide +kernel)) rfl (by decide +kernel) ⟨Nat.le_of_ble_eq_true rfl, Nat.le_of_ble_eq_true rfl⟩) (pSQZ hPc hDc hW0 EF.t (hZ.to hS.2.1 hFc)) rfl rfl hl.1 rfl (lv_room (Nat.le_of_ble_eq_true rfl)) dX1_write_4 ⟨(by show _ ≤ 44; omega), (by show _ ≤ 2894; omega)⟩) hS (fun q _ h => hFc q h) hFc (fun u t H1 locs ht hvm hw hB hz1 hk1 hS => ?_)
  obtain ⟨va1_2, rfl⟩ : ∃ z, z = u := ⟨_, rfl⟩
  obtain ⟨hP1, hD1⟩ := hB
  rw [ht] at hP1
  have hw_2 : True := hw
  obtain ⟨hP, hD⟩ := va_join (wr := [(h0, .inr (3, [.ref ax, .ref ay, .int (nI nn)])), (ax, .inl (cI, nn, .inl X)), (ay, .inl (cI, nn, .inl Y))]) (w1 := [(q_1, .inr (1, [.ref va1_2, .int 0, .int 0, .int 0])), (va1_2, .inl (cB, 16, .inl (fun _ => 0)))]) hP hD [3] [0, 1, 2] rfl rfl (by decide) (by decide) hk1 hFc hP1 hD1
  generalize H1 = H at hP hS ⊢
  have hP := hP.sub (ws' := [(h0, .inr (3, [.ref ax, .ref ay, .int (nI nn)])), (ax, .inl (cI, nn, .inl X)), (ay, .inl (cI, nn, .inl Y)), (q_1, .inr (1, [.ref va1_2, .int 0, .int 0, .int 0])), (va1_2, .inl (cB, 16, .inl (fun _ => 0)))]) [0, 1, 2, 3, 4] rfl
  have hD := hD.sub (ws' := [(h0, .inr (3, [.ref ax, .ref ay, .int (nI nn)])), (ax, .inl (cI, nn, .inl X)), (ay, .inl (cI, nn, .inl Y)), (q_1, .inr (1, [.ref va1_2, .int 0, .int 0, .int 0])), (va1_2, .inl (cB, 16, .inl (fun _ => 0)))]) [0, 1, 2, 3, 4] (by decide) rfl
  refine lv_astore_n (lv' := [(1, .ref q_1), (0, .ref h0)]) hx hb dX1_write_7 rfl hl (by decide) rfl (fun ls hl => ?_)
  refine lv_iconst (v := 0) hx hb dX1_write_8 (by decide) ?_
  refine lv_istore_n (lv' := [(2, .int 0), (1, .ref q_1), (0, .ref h0)]) hx hb dX1_write_9 rfl hl (by decide) rfl (fun ls hl => ?_)
  have LOOP_10 : ∀ (fu : Nat) (z : Nat) (va : Nat) (cp : Nat) (ba : Nat → Int32) (hz : z ≤ nn) (hc : cap cp) (hwl : (wrt nn X Y z).length ≤ cp) (hR : rowIs ba (wrt nn X Y z)) (hL : lat ba) (hn : nn - z < fu) (H : Heap) (locs : List Loc) (hP : va_P D vwCl [(h0, .inr (3, [.ref ax, .ref ay, .int (nI nn)])), (ax, .inl (cI, nn, .inl X)), (ay, .inl (cI, nn, .inl Y)), (q_1, .inr (1, [.ref va, .int 0, .int 0, .int (nI (wrt nn X Y z).length)])), (va, .inl (cB, cp, .inl ba))] H) (hD : va_D A [(h0, .inr (3, [.ref ax, .ref ay, .int (nI nn)])), (ax, .inl (cI, nn, .inl X)), (ay, .inl (cI, nn, .inl Y)), (q_1, .inr (1, [.ref va, .int 0, .int 0, .int (nI (wrt nn X Y z).length)])), (va, .inl (cB, cp, .inl ba))]) (hS : va_S A s.heap H locs) (ls : Array Slot) (hl : lv_has ls 4 [(0, .ref h0), (1, .ref q_1), (2, .int (nI z))]), W p l e ({ frames := 7, cells := 44, slots := 2894, locals := 151 } : Room) s m ([.ref h0] : List Value).toArray below meth c H locs (2 + 5 * z) (20 + 350 * z) Q (F0 m 10 ls []) := by
    intro fu
    induction fu with
    | zero => intro z va cp ba hz hc hwl hR hL hn H locs hP hD hS ls hl; exact absurd hn (Nat.not_lt_zero _)
    | succ fu ih_10 =>
      intro z va cp ba hz hc hwl hR hL hn H locs hP hD hS ls hl
      refine lv_iload_n hx hb dX1_write_10 rfl (lv_at hl 2 rfl) ?_
      refine lv_aload_n hx hb dX1_write_11 rfl (lv_at hl 0 rfl) ?_
      refine va_get (D := D) (ci := 3) (v := .int (nI nn)) (C := RX1) (T := TX1) (N := 3) hx hb hts (by decide +kernel) hown hK hP 0 rfl rfl 2 (by decide) (hts (.fieldLink RX1 22 "LandDeeds$Outline" "corners" "I") (by decide +kernel)) (fun _ h9 => h9) rfl dX1_write_12 ?_
      refine lv_icmp_ge (tgt := 83) hx hb dX1_write_15 (by decide) (fun c_3 => ?_) (fun c_3 => ?_)
      · skip
        have nc_3 : nn ≤ z := (nI_leI (a := nn) (b := z) (by omega) (by omega)).mp c_3
        obtain rfl : nn = z := by omega
        refine lv_aload_n hx hb dX1_write_83 rfl (lv_at hl 1 rfl) ?_
        have hPc := hP.sub (ws' := [(q_1, .inr (1, [.ref va, .int 0, .int 0, .int (nI (wrt nn X Y nn).length)])), (va, .inl (cB, cp, .inl ba))]) [3, 4] rfl
        have hDc := hD.sub (ws' := [(q_1, .inr (1, [.ref va, .int 0, .int 0, .int (nI (wrt nn X Y nn).length)])), (va, .inl (cB, cp, .inl ba))]) [3, 4] (by decide) rfl
        have hFc := va_free (wc := [(q_1, .inr (1, [.ref va, .int 0, .int 0, .int (nI (wrt nn X Y nn).length)])), (va, .inl (cB, cp, .inl ba))]) hD hS hA [3, 4] rfl
        refine va_callr (va_runV (As := []) (rest := []) ⟨hx, hb, hml, hown, hts⟩ (c_J4_toString_0e30d l D cI cB cZ cP H.size tz1 tz2 q_1 va cp 0 ba (wrt nn X Y nn) (hc) (hR) (hL) (hwl)) (cwV 0 hts gX1_write_J4_toString_0e30d rfl rfl rfl (by decide +kernel) ⟨Nat.le_of_ble_eq_true rfl, Nat.le_of_ble_eq_true rfl⟩) (pVQZ (q0 := 0) hPc hDc hW0 EF.t (hZ.to hS.2.1 hFc) rfl rfl) rfl rfl hl.1 rfl (lv_room (Nat.le_of_ble_eq_true rfl)) dX1_write_84 ⟨(by show _ ≤ 44; omega), (by show _ ≤ 2894; omega)⟩) hS (fun q _ h => hFc q h) hFc (fun u ra_4 t H1 locs ht hvm hw hB hz1 hk1 hS => ?_)
        obtain ⟨qv_4, g_4⟩ := u
        obtain ⟨hP1, hD1⟩ := hB
        rw [ht] at hP1
        have hw_4 : rowIs g_4 (wrt nn X Y nn) ∧ lat g_4 := hw
        obtain ⟨hP, hD⟩ := va_join (wr := [(h0, .inr (3, [.ref ax, .ref ay, .int (nI nn)])), (ax, .inl (cI, nn, .inl X)), (ay, .inl (cI, nn, .inl Y))]) (w1 := [(q_1, .inr (1, [.ref va, .int 0, .int 0, .int (nI (wrt nn X Y nn).length)])), (va, .inl (cB, cp, .inl ba)), (ra_4, .inr (0, [.ref qv_4, .int 0, .int 0, .int 0])), (qv_4, .inl (cB, ((wrt nn X Y nn).length), .inl g_4))]) hP hD [3, 4] [0, 1, 2] rfl rfl (by decide) (by decide) hk1 hFc hP1 hD1
        generalize H1 = H at hP hS ⊢
        have hP := hP.sub (ws' := [(h0, .inr (3, [.ref ax, .ref ay, .int (nI nn)])), (ax, .inl (cI, nn, .inl X)), (ay, .inl (cI, nn, .inl Y)), (q_1, .inr (1, [.ref va, .int 0, .int 0, .int (nI (wrt nn X Y nn).length)])), (va, .inl (cB, cp, .inl ba)), (ra_4, .inr (0, [.ref qv_4, .int 0, .int 0, .int 0])), (qv_4, .inl (cB, ((wrt nn X Y nn).length), .inl g_4))]) [0, 1, 2, 3, 4, 5, 6] rfl
        have hD := hD.sub (ws' := [(h0, .inr (3, [.ref ax, .ref ay, .int (nI nn)])), (ax, .inl (cI, nn, .inl X)), (ay, .inl (cI, nn, .inl Y)), (q_1, .inr (1, [.ref va, .int 0, .int 0, .int (nI (wrt nn X Y nn).length)])), (va, .inl (cB, cp, .inl ba)), (ra_4, .inr (0, [.ref qv_4, .int 0, .int 0, .int 0])), (qv_4, .inl (cB, ((wrt nn X Y nn).length), .inl g_4))]) [0, 1, 2, 3, 4, 5, 6] (by decide) rfl
        rw [← hQ]
        refine W.widen (k := 44) (n := 2894) (by show _ ≤ _; omega) (by show _ ≤ _; omega) ?_
        have hP9 := hP
        have hD9 := hD
        have hP9 := hP9.sub (ws' := [(h0, .inr (3, [.ref ax, .ref ay, .int (nI nn)])), (ax, .inl (cI, nn, .inl X)), (ay, .inl (cI, nn, .inl Y)), (ra_4, .inr (0, [.ref qv_4, .int 0, .int 0, .int 0])), (qv_4, .inl (cB, ((wrt nn X Y nn).length), .inl g_4))]) [0, 1, 2, 5, 6] rfl
        have hD9 := hD9.sub (ws' := [(h0, .inr (3, [.ref ax, .ref ay, .int (nI nn)])), (ax, .inl (cI, nn, .inl X)), (ay, .inl (cI, nn, .inl Y)), (ra_4, .inr (0, [.ref qv_4, .int 0, .int 0, .int 0])), (qv_4, .inl (cB, ((wrt nn X Y nn).length), .inl g_4))]) [0, 1, 2, 5, 6] (by decide) rfl
        exact W.aret (v := .ref ra_4) hx hb hr (Or.inl ⟨_, rfl⟩) (Or.inr ⟨_, rfl⟩) (fun t ht hW => ⟨⟨(qv_4, g_4), ra_4, rfl, hw_4, by rw [ht]; exact hP9, hD9⟩, hS.F ht⟩) hS.2.2 dX1_write_87
      · skip
        have nc_3 : ¬ (nn ≤ z) := fun h => c_3 ((nI_leI (a := nn) (b := z) (by omega) (by omega)).mpr h)
        have hz8 : z < nn := by omega
        have hnx9 := nxt_lt hz8
        have hwln := wrt_len nn X Y z
        have hlg1 := leg_len (Y (nxt nn z) - Y z) 110 115
        refine lv_aload_n hx hb dX1_write_18 rfl (lv_at hl 0 rfl) ?_
        refine lv_iload_n hx hb dX1_write_19 rfl (lv_at hl 2 rfl) ?_
        have hPc := hP.sub (ws' := [(h0, .inr (3, [.ref ax, .ref ay, .int (nI nn)]))]) [0] rfl
        refine u_callSi (W.runV (As := [.int (nI z)]) (rest := []) ⟨hx, hb, hml, hown, hts⟩ (c_X1_next l D cI cB cZ cP h0 ax ay nn z (by first | assumption | omega) (by first | assumption | omega)) (cwV 1 hts gX1_write_X1_next rfl rfl rfl (by decide +kernel) ⟨Nat.le_of_ble_eq_true rfl, Nat.le_of_ble_eq_true rfl⟩) (pV (q0 := 0) hPc hW0 trivial rfl rfl) rfl rfl hl.1 rfl (lv_room (Nat.le_of_ble_eq_true rfl)) dX1_write_20 ⟨(by show _ ≤ 44; omega), (by show _ ≤ 2894; omega)⟩) ?_
        refine lv_istore_n (lv' := [(3, .int (nI (nxt nn z))), (0, .ref h0), (1, .ref q_1), (2, .int (nI z))]) hx hb dX1_write_23 rfl hl (by decide) rfl (fun ls hl => ?_)
        refine lv_iload_n hx hb dX1_write_24 rfl (lv_at hl 3 rfl) ?_
        refine lv_if_le (tgt := 35) hx hb dX1_write_25 (by decide) (fun c_5 => ?_) (fun c_5 => ?_)
        · skip
          have nc_5 : z ≤ 0 := (nI_leI (a := z) (b := 0) (by omega) (by omega)).mp c_5
          refine lv_aload_n hx hb dX1_write_35 rfl (lv_at hl 2 rfl) ?_
          refine lv_aload_n hx hb dX1_write_36 rfl (lv_at hl 1 rfl) ?_
          refine va_get (D := D) (ci := 3) (v := .ref ay) (C := RX1) (T := TX1) (N := 3) hx hb hts (by decide +kernel) hown hK hP 0 rfl rfl 1 (by decide) (hts (.fieldLink RX1 13 "LandDeeds$Outline" "ys" "[I") (by decide +kernel)) (fun _ h9 => h9) rfl dX1_write_37 ?_
          refine lv_iload_n hx hb dX1_write_40 rfl (lv_at hl 0 rfl) ?_
          refine u_iald hx hb hK hP 2 0 rfl rfl rfl ⟨by omega, by omega⟩ dX1_write_41 ?_
          refine lv_aload_n hx hb dX1_write_42 rfl (lv_at hl 1 rfl) ?_
          refine va_get (D := D) (ci := 3) (v := .ref ay) (C := RX1) (T := TX1) (N := 3) hx hb hts (by decide +kernel) hown hK hP 0 rfl rfl 1 (by decide) (hts (.fieldLink RX1 13 "LandDeeds$Outline" "ys" "[I") (by decide +kernel)) (fun _ h9 => h9) rfl dX1_write_43 ?_
          refine lv_iload_n hx hb dX1_write_46 rfl (lv_at hl 3 rfl) ?_
          refine u_iald hx hb hK hP 2 0 rfl rfl rfl ⟨by omega, by omega⟩ dX1_write_47 ?_
          refine lv_isub hx hb dX1_write_48 ?_
          refine lv_bipush (v := 110) hx hb dX1_write_49 (by decide) ?_
          refine lv_bipush (v := 115) hx hb dX1_write_51 (by decide) ?_
          have hPc := hP.sub (ws' := [(q_1, .inr (1, [.ref va, .int 0, .int 0, .int (nI (wrt nn X Y z).length)])), (va, .inl (cB, cp, .inl ba))]) [3, 4] rfl
          have hDc := hD.sub (ws' := [(q_1, .inr (1, [.ref va, .int 0, .int 0, .int (nI (wrt nn X Y z).length)])), (va, .inl (cB, cp, .inl ba))]) [3, 4] (by decide) rfl
          have hFc := va_free (wc := [(q_1, .inr (1, [.ref va, .int 0, .int 0, .int (nI (wrt nn X Y z).length)])), (va, .inl (cB, cp, .inl ba))]) hD hS hA [3, 4] rfl
          refine va_callv (va_runS (As := [.ref q_1, .int ((Y (nxt nn z)) - (Y z)), .int 110, .int 115]) (rest := []) ⟨hx, hb, hml, hown, hts⟩ (c_X1_writeLeg l D cI cB cZ cP H.size tz1 tz2 q_1 va cp 0 ba (wrt nn X Y z) ((Y (nxt nn z)) - (Y z)) 110 115 (hc) (hR) (hL) (hwl) (by (try simp only [List.length_append, List.length_singleton]); omega) (wleg_b (by have := hp _ hnx9; have := hp _ hz8; unfold isP at *; omega) (by have := hp _ hnx9; have := hp _ hz8; unfold isP at *; omega)) (by unfold ltr; decide) (by unfold ltr; decide)) (cwS 4 hts gX1_write_X1_writeLeg rfl rfl rfl (by decide +kernel) ⟨Nat.le_of_ble_eq_true rfl, Nat.le_of_ble_eq_true rfl⟩) (pSQZ hPc hDc hW0 EF.t (hZ.to hS.2.1 hFc)) rfl rfl hl.1 rfl (lv_room (Nat.le_of_ble_eq_true rfl)) dX1_write_53 ⟨(by show _ ≤ 44; omega), (by show _ ≤ 2894; omega)⟩) hS (fun q _ h => hFc q h) hFc (fun u t H1 locs ht hvm hw hB hz1 hk1 hS => ?_)
          obtain ⟨va1_6, cp1_6, a1_6⟩ := u
          obtain ⟨hP1, hD1⟩ := hB
          rw [ht] at hP1
          have hw_6 : cap cp1_6 ∧ ((wrt nn X Y z) ++ leg ((Y (nxt nn z)) - (Y z)) 110 115).length ≤ cp1_6 ∧ rowIs a1_6 ((wrt nn X Y z) ++ leg ((Y (nxt nn z)) - (Y z)) 110 115) ∧ lat a1_6 := hw
          obtain ⟨hP, hD⟩ := va_join (wr := [(h0, .inr (3, [.ref ax, .ref ay, .int (nI nn)])), (ax, .inl (cI, nn, .inl X)), (ay, .inl (cI, nn, .inl Y))]) (w1 := [(q_1, .inr (1, [.ref va1_6, .int 0, .int 0, .int (nI ((wrt nn X Y z) ++ leg ((Y (nxt nn z)) - (Y z)) 110 115).length)])), (va1_6, .inl (cB, cp1_6, .inl a1_6))]) hP hD [3, 4] [0, 1, 2] rfl rfl (by decide) (by decide) hk1 hFc hP1 hD1
          generalize H1 = H at hP hS ⊢
          have hP := hP.sub (ws' := [(h0, .inr (3, [.ref ax, .ref ay, .int (nI nn)])), (ax, .inl (cI, nn, .inl X)), (ay, .inl (cI, nn, .inl Y)), (q_1, .inr (1, [.ref va1_6, .int 0, .int 0, .int (nI ((wrt nn X Y z) ++ leg ((Y (nxt nn z)) - (Y z)) 110 115).length)])), (va1_6, .inl (cB, cp1_6, .inl a1_6))]) [0, 1, 2, 3, 4] rfl
          have hD := hD.sub (ws' := [(h0, .inr (3, [.ref ax, .ref ay, .int (nI nn)])), (ax, .inl (cI, nn, .inl X)), (ay, .inl (cI, nn, .inl Y)), (q_1, .inr (1, [.ref va1_6, .int 0, .int 0, .int (nI ((wrt nn X Y z) ++ leg ((Y (nxt nn z)) - (Y z)) 110 115).length)])), (va1_6, .inl (cB, cp1_6, .inl a1_6))]) [0, 1, 2, 3, 4] (by decide) rfl
          refine lv_aload_n hx hb dX1_write_56 rfl (lv_at hl 2 rfl) ?_
          refine lv_aload_n hx hb dX1_write_57 rfl (lv_at hl 1 rfl) ?_
          refine va_get (D := D) (ci := 3) (v := .ref ax) (C := RX1) (T := TX1) (N := 3) hx hb hts (by decide +kernel) hown hK hP 0 rfl rfl 0 (by decide) (hts (.fieldLink RX1 7 "LandDeeds$Outline" "xs" "[I") (by decide +kernel)) (fun _ h9 => h9) rfl dX1_write_58 ?_
          refine lv_iload_n hx hb dX1_write_61 rfl (lv_at hl 0 rfl) ?_
          refine u_iald hx hb hK hP 1 0 rfl rfl rfl ⟨by omega, by omega⟩ dX1_write_62 ?_
          refine lv_aload_n hx hb dX1_write_63 rfl (lv_at hl 1 rfl) ?_
          refine va_get (D := D) (ci := 3) (v := .ref ax) (C := RX1) (T := TX1) (N := 3) hx hb hts (by decide +kernel) hown hK hP 0 rfl rfl 0 (by decide) (hts (.fieldLink RX1 7 "LandDeeds$Outline" "xs" "[I") (by decide +kernel)) (fun _ h9 => h9) rfl dX1_write_64 ?_
          refine lv_iload_n hx hb dX1_write_67 rfl (lv_at hl 3 rfl) ?_
          refine u_iald hx hb hK hP 1 0 rfl rfl rfl ⟨by omega, by omega⟩ dX1_write_68 ?_
          refine lv_isub hx hb dX1_write_69 ?_
          refine lv_bipush (v := 101) hx hb dX1_write_70 (by decide) ?_
          refine lv_bipush (v := 119) hx hb dX1_write_72 (by decide) ?_
          have hPc := hP.sub (ws' := [(q_1, .inr (1, [.ref va1_6, .int 0, .int 0, .int (nI ((wrt nn X Y z) ++ leg ((Y (nxt nn z)) - (Y z)) 110 115).length)])), (va1_6, .inl (cB, cp1_6, .inl a1_6))]) [3, 4] rfl
          have hDc := hD.sub (ws' := [(q_1, .inr (1, [.ref va1_6, .int 0, .int 0, .int (nI ((wrt nn X Y z) ++ leg ((Y (nxt nn z)) - (Y z)) 110 115).length)])), (va1_6, .inl (cB, cp1_6, .inl a1_6))]) [3, 4] (by decide) rfl
          have hFc := va_free (wc := [(q_1, .inr (1, [.ref va1_6, .int 0, .int 0, .int (nI ((wrt nn X Y z) ++ leg ((Y (nxt nn z)) - (Y z)) 110 115).length)])), (va1_6, .inl (cB, cp1_6, .inl a1_6))]) hD hS hA [3, 4] rfl
          refine va_callv (va_runS (As := [.ref q_1, .int ((X (nxt nn z)) - (X z)), .int 101, .int 119]) (rest := []) ⟨hx, hb, hml, hown, hts⟩ (c_X1_writeLeg l D cI cB cZ cP H.size tz1 tz2 q_1 va1_6 cp1_6 0 a1_6 ((wrt nn X Y z) ++ leg ((Y (nxt nn z)) - (Y z)) 110 115) ((X (nxt nn z)) - (X z)) 101 119 (hw_6.1) (hw_6.2.2.1) (hw_6.2.2.2) (hw_6.2.1) (by (try simp only [List.length_append, List.length_singleton]); omega) (wleg_b (by have := hp _ hnx9; have := hp _ hz8; unfold isP at *; omega) (by have := hp _ hnx9; have := hp _ hz8; unfold isP at *; omega)) (by unfold ltr; decide) (by unfold ltr; decide)) (cwS 4 hts gX1_write_X1_writeLeg rfl rfl rfl (by decide +kernel) ⟨Nat.le_of_ble_eq_true rfl, Nat.le_of_ble_eq_true rfl⟩) (pSQZ hPc hDc hW0 EF.t (hZ.to hS.2.1 hFc)) rfl rfl hl.1 rfl (lv_room (Nat.le_of_ble_eq_true rfl)) dX1_write_74 ⟨(by show _ ≤ 44; omega), (by show _ ≤ 2894; omega)⟩) hS (fun q _ h => hFc q h) hFc (fun u t H1 locs ht hvm hw hB hz1 hk1 hS => ?_)
          obtain ⟨va1_7, cp1_7, a1_7⟩ := u
          obtain ⟨hP1, hD1⟩ := hB
          rw [ht] at hP1
          have hw_7 : cap cp1_7 ∧ (((wrt nn X Y z) ++ leg ((Y (nxt nn z)) - (Y z)) 110 115) ++ leg ((X (nxt nn z)) - (X z)) 101 119).length ≤ cp1_7 ∧ rowIs a1_7 (((wrt nn X Y z) ++ leg ((Y (nxt nn z)) - (Y z)) 110 115) ++ leg ((X (nxt nn z)) - (X z)) 101 119) ∧ lat a1_7 := hw
          obtain ⟨hP, hD⟩ := va_join (wr := [(h0, .inr (3, [.ref ax, .ref ay, .int (nI nn)])), (ax, .inl (cI, nn, .inl X)), (ay, .inl (cI, nn, .inl Y))]) (w1 := [(q_1, .inr (1, [.ref va1_7, .int 0, .int 0, .int (nI (((wrt nn X Y z) ++ leg ((Y (nxt nn z)) - (Y z)) 110 115) ++ leg ((X (nxt nn z)) - (X z)) 101 119).length)])), (va1_7, .inl (cB, cp1_7, .inl a1_7))]) hP hD [3, 4] [0, 1, 2] rfl rfl (by decide) (by decide) hk1 hFc hP1 hD1
          generalize H1 = H at hP hS ⊢
          have hP := hP.sub (ws' := [(h0, .inr (3, [.ref ax, .ref ay, .int (nI nn)])), (ax, .inl (cI, nn, .inl X)), (ay, .inl (cI, nn, .inl Y)), (q_1, .inr (1, [.ref va1_7, .int 0, .int 0, .int (nI (((wrt nn X Y z) ++ leg ((Y (nxt nn z)) - (Y z)) 110 115) ++ leg ((X (nxt nn z)) - (X z)) 101 119).length)])), (va1_7, .inl (cB, cp1_7, .inl a1_7))]) [0, 1, 2, 3, 4] rfl
          have hD := hD.sub (ws' := [(h0, .inr (3, [.ref ax, .ref ay, .int (nI nn)])), (ax, .inl (cI, nn, .inl X)), (ay, .inl (cI, nn, .inl Y)), (q_1, .inr (1, [.ref va1_7, .int 0, .int 0, .int (nI (((wrt nn X Y z) ++ leg ((Y (nxt nn z)) - (Y z)) 110 115) ++ leg ((X (nxt nn z)) - (X z)) 101 119).length)])), (va1_7, .inl (cB, cp1_7, .inl a1_7))]) [0, 1, 2, 3, 4] (by decide) rfl
          have hwz : wrt nn X Y (z + 1) = ((wrt nn X Y z) ++ leg ((Y (nxt nn z)) - (Y z)) 110 115) ++ leg ((X (nxt nn z)) - (X z)) 101 119 := by simp only [wrt]; rw [if_pos (by omega)]; rw [List.append_nil]
          have hwq := hw_7; rw [← hwz] at hwq
          rw [← hwz] at hP hD
          refine lv_iinc (v := nI (z + 1)) (lv' := [(2, .int (nI (z + 1))), (3, .int (nI (nxt nn z))), (0, .ref h0), (1, .ref q_1)]) hx hb dX1_write_77 hl (k := 3) rfl (nI_1 _) (by decide) rfl (fun ls hl => ?_)
          refine lv_goto (tgt := 10) hx hb dX1_write_80 (by decide) ?_
          refine W.widen (k := 2 + 5 * (z + 1)) (n := 20 + 350 * (z + 1)) (by omega) (by omega) ?_
          exact ih_10 (z + 1) va1_7 cp1_7 a1_7 (by omega) (hwq.1) (hwq.2.1) (hwq.2.2.1) (hwq.2.2.2) (by omega) _ _ hP hD hS ls (lv_sub hl [2, 3, 0] rfl)
        · skip
          have nc_5 : ¬ (z ≤ 0) := fun h => c_5 ((nI_leI (a := z) (b := 0) (by omega) (by omega)).mpr h)
          refine lv_aload_n hx hb dX1_write_28 rfl (lv_at hl 2 rfl) ?_
          refine lv_bipush (v := 59) hx hb dX1_write_29 (by decide) ?_
          have hPc := hP.sub (ws' := [(q_1, .inr (1, [.ref va, .int 0, .int 0, .int (nI (wrt nn X Y z).length)])), (va, .inl (cB, cp, .inl ba))]) [3, 4] rfl
          have hDc := hD.sub (ws' := [(q_1, .inr (1, [.ref va, .int 0, .int 0, .int (nI (wrt nn X Y z).length)])), (va, .inl (cB, cp, .inl ba))]) [3, 4] (by decide) rfl
          have hFc := va_free (wc := [(q_1, .inr (1, [.ref va, .int 0, .int 0, .int (nI (wrt nn X Y z).length)])), (va, .inl (cB, cp, .inl ba))]) hD hS hA [3, 4] rfl
          refine va_callr (va_runV (As := [.int 59]) (rest := []) ⟨hx, hb, hml, hown, hts⟩ (c_J4_append_cf468 l D cI cB cZ cP H.size tz1 tz2 q_1 va cp 0 ba (wrt nn X Y z) 59 (hc) (hR) (hL) (hwl) (by (try simp only [List.length_append, List.length_singleton]); omega) (by unfold ltr; decide)) (cwV 1 hts gX1_write_J4_append_cf468 rfl rfl rfl (by decide +kernel) ⟨Nat.le_of_ble_eq_true rfl, Nat.le_of_ble_eq_true rfl⟩) (pVQZ (q0 := 0) hPc hDc hW0 EF.t (hZ.to hS.2.1 hFc) rfl rfl) rfl rfl hl.1 rfl (lv_room (Nat.le_of_ble_eq_true rfl)) dX1_write_31 ⟨(by show _ ≤ 44; omega), (by show _ ≤ 2894; omega)⟩) hS (fun q _ h => hFc q h) hFc (fun u ra_8 t H1 locs ht hvm hw hB hz1 hk1 hS => ?_)
          obtain ⟨va1_8, cp1_8, a1_8⟩ := u
          obtain ⟨hra, hP1, hD1⟩ := hB
          rw [ht] at hP1
          subst hra
          have hw_8 : cap cp1_8 ∧ ((wrt nn X Y z) ++ [59]).length ≤ cp1_8 ∧ rowIs a1_8 ((wrt nn X Y z) ++ [59]) ∧ lat a1_8 := hw
          obtain ⟨hP, hD⟩ := va_join (wr := [(h0, .inr (3, [.ref ax, .ref ay, .int (nI nn)])), (ax, .inl (cI, nn, .inl X)), (ay, .inl (cI, nn, .inl Y))]) (w1 := [(q_1, .inr (1, [.ref va1_8, .int 0, .int 0, .int (nI ((wrt nn X Y z) ++ [59]).length)])), (va1_8, .inl (cB, cp1_8, .inl a1_8))]) hP hD [3, 4] [0, 1, 2] rfl rfl (by decide) (by decide) hk1 hFc hP1 hD1
          generalize H1 = H at hP hS ⊢
          have hP := hP.sub (ws' := [(h0, .inr (3, [.ref ax, .ref ay, .int (nI nn)])), (ax, .inl (cI, nn, .inl X)), (ay, .inl (cI, nn, .inl Y)), (q_1, .inr (1, [.ref va1_8, .int 0, .int 0, .int (nI ((wrt nn X Y z) ++ [59]).length)])), (va1_8, .inl (cB, cp1_8, .inl a1_8))]) [0, 1, 2, 3, 4] rfl
          have hD := hD.sub (ws' := [(h0, .inr (3, [.ref ax, .ref ay, .int (nI nn)])), (ax, .inl (cI, nn, .inl X)), (ay, .inl (cI, nn, .inl Y)), (q_1, .inr (1, [.ref va1_8, .int 0, .int 0, .int (nI ((wrt nn X Y z) ++ [59]).length)])), (va1_8, .inl (cB, cp1_8, .inl a1_8))]) [0, 1, 2, 3, 4] (by decide) rfl
          refine lv_pop hx hb dX1_write_34 rfl ?_
          refine lv_aload_n hx hb dX1_write_35 rfl (lv_at hl 2 rfl) ?_
          refine lv_aload_n hx hb dX1_write_36 rfl (lv_at hl 1 rfl) ?_
          refine va_get (D := D) (ci := 3) (v := .ref ay) (C := RX1) (T := TX1) (N := 3) hx hb hts (by decide +kernel) hown hK hP 0 rfl rfl 1 (by decide) (hts (.fieldLink RX1 13 "LandDeeds$Outline" "ys" "[I") (by decide +kernel)) (fun _ h9 => h9) rfl dX1_write_37 ?_
          refine lv_iload_n hx hb dX1_write_40 rfl (lv_at hl 0 rfl) ?_
          refine u_iald hx hb hK hP 2 0 rfl rfl rfl ⟨by omega, by omega⟩ dX1_write_41 ?_
          refine lv_aload_n hx hb dX1_write_42 rfl (lv_at hl 1 rfl) ?_
          refine va_get (D := D) (ci := 3) (v := .ref ay) (C := RX1) (T := TX1) (N := 3) hx hb hts (by decide +kernel) hown hK hP 0 rfl rfl 1 (by decide) (hts (.fieldLink RX1 13 "LandDeeds$Outline" "ys" "[I") (by decide +kernel)) (fun _ h9 => h9) rfl dX1_write_43 ?_
          refine lv_iload_n hx hb dX1_write_46 rfl (lv_at hl 3 rfl) ?_
          refine u_iald hx hb hK hP 2 0 rfl rfl rfl ⟨by omega, by omega⟩ dX1_write_47 ?_
          refine lv_isub hx hb dX1_write_48 ?_
          refine lv_bipush (v := 110) hx hb dX1_write_49 (by decide) ?_
          refine lv_bipush (v := 115) hx hb dX1_write_51 (by decide) ?_
          have hPc := hP.sub (ws' := [(q_1, .inr (1, [.ref va1_8, .int 0, .int 0, .int (nI ((wrt nn X Y z) ++ [59]).length)])), (va1_8, .inl (cB, cp1_8, .inl a1_8))]) [3, 4] rfl
          have hDc := hD.sub (ws' := [(q_1, .inr (1, [.ref va1_8, .int 0, .int 0, .int (nI ((wrt nn X Y z) ++ [59]).length)])), (va1_8, .inl (cB, cp1_8, .inl a1_8))]) [3, 4] (by decide) rfl
          have hFc := va_free (wc := [(q_1, .inr (1, [.ref va1_8, .int 0, .int 0, .int (nI ((wrt nn X Y z) ++ [59]).length)])), (va1_8, .inl (cB, cp1_8, .inl a1_8))]) hD hS hA [3, 4] rfl
          refine va_callv (va_runS (As := [.ref q_1, .int ((Y (nxt nn z)) - (Y z)), .int 110, .int 115]) (rest := []) ⟨hx, hb, hml, hown, hts⟩ (c_X1_writeLeg l D cI cB cZ cP H.size tz1 tz2 q_1 va1_8 cp1_8 0 a1_8 ((wrt nn X Y z) ++ [59]) ((Y (nxt nn z)) - (Y z)) 110 115 (hw_8.1) (hw_8.2.2.1) (hw_8.2.2.2) (hw_8.2.1) (by (try simp only [List.length_append, List.length_singleton]); omega) (wleg_b (by have := hp _ hnx9; have := hp _ hz8; unfold isP at *; omega) (by have := hp _ hnx9; have := hp _ hz8; unfold isP at *; omega)) (by unfold ltr; decide) (by unfold ltr; decide)) (cwS 4 hts gX1_write_X1_writeLeg rfl rfl rfl (by decide +kernel) ⟨Nat.le_of_ble_eq_true rfl, Nat.le_of_ble_eq_true rfl⟩) (pSQZ hPc hDc hW0 EF.t (hZ.to hS.2.1 hFc)) rfl rfl hl.1 rfl (lv_room (Nat.le_of_ble_eq_true rfl)) dX1_write_53 ⟨(by show _ ≤ 44; omega), (by show _ ≤ 2894; omega)⟩) hS (fun q _ h => hFc q h) hFc (fun u t H1 locs ht hvm hw hB hz1 hk1 hS => ?_)
          obtain ⟨va1_9, cp1_9, a1_9⟩ := u
          obtain ⟨hP1, hD1⟩ := hB
          rw [ht] at hP1
          have hw_9 : cap cp1_9 ∧ (((wrt nn X Y z) ++ [59]) ++ leg ((Y (nxt nn z)) - (Y z)) 110 115).length ≤ cp1_9 ∧ rowIs a1_9 (((wrt nn X Y z) ++ [59]) ++ leg ((Y (nxt nn z)) - (Y z)) 110 115) ∧ lat a1_9 := hw
          obtain ⟨hP, hD⟩ := va_join (wr := [(h0, .inr (3, [.ref ax, .ref ay, .int (nI nn)])), (ax, .inl (cI, nn, .inl X)), (ay, .inl (cI, nn, .inl Y))]) (w1 := [(q_1, .inr (1, [.ref va1_9, .int 0, .int 0, .int (nI (((wrt nn X Y z) ++ [59]) ++ leg ((Y (nxt nn z)) - (Y z)) 110 115).length)])), (va1_9, .inl (cB, cp1_9, .inl a1_9))]) hP hD [3, 4] [0, 1, 2] rfl rfl (by decide) (by decide) hk1 hFc hP1 hD1
          generalize H1 = H at hP hS ⊢
          have hP := hP.sub (ws' := [(h0, .inr (3, [.ref ax, .ref ay, .int (nI nn)])), (ax, .inl (cI, nn, .inl X)), (ay, .inl (cI, nn, .inl Y)), (q_1, .inr (1, [.ref va1_9, .int 0, .int 0, .int (nI (((wrt nn X Y z) ++ [59]) ++ leg ((Y (nxt nn z)) - (Y z)) 110 115).length)])), (va1_9, .inl (cB, cp1_9, .inl a1_9))]) [0, 1, 2, 3, 4] rfl
          have hD := hD.sub (ws' := [(h0, .inr (3, [.ref ax, .ref ay, .int (nI nn)])), (ax, .inl (cI, nn, .inl X)), (ay, .inl (cI, nn, .inl Y)), (q_1, .inr (1, [.ref va1_9, .int 0, .int 0, .int (nI (((wrt nn X Y z) ++ [59]) ++ leg ((Y (nxt nn z)) - (Y z)) 110 115).length)])), (va1_9, .inl (cB, cp1_9, .inl a1_9))]) [0, 1, 2, 3, 4] (by decide) rfl
          refine lv_aload_n hx hb dX1_write_56 rfl (lv_at hl 2 rfl) ?_
          refine lv_aload_n hx hb dX1_write_57 rfl (lv_at hl 1 rfl) ?_
          refine va_get (D := D) (ci := 3) (v := .ref ax) (C := RX1) (T := TX1) (N := 3) hx hb hts (by decide +kernel) hown hK hP 0 rfl rfl 0 (by decide) (hts (.fieldLink RX1 7 "LandDeeds$Outline" "xs" "[I") (by decide +kernel)) (fun _ h9 => h9) rfl dX1_write_58 ?_
          refine lv_iload_n hx hb dX1_write_61 rfl (lv_at hl 0 rfl) ?_
          refine u_iald hx hb hK hP 1 0 rfl rfl rfl ⟨by omega, by omega⟩ dX1_write_62 ?_
          refine lv_aload_n hx hb dX1_write_63 rfl (lv_at hl 1 rfl) ?_
          refine va_get (D := D) (ci := 3) (v := .ref ax) (C := RX1) (T := TX1) (N := 3) hx hb hts (by decide +kernel) hown hK hP 0 rfl rfl 0 (by decide) (hts (.fieldLink RX1 7 "LandDeeds$Outline" "xs" "[I") (by decide +kernel)) (fun _ h9 => h9) rfl dX1_write_64 ?_
          refine lv_iload_n hx hb dX1_write_67 rfl (lv_at hl 3 rfl) ?_
          refine u_iald hx hb hK hP 1 0 rfl rfl rfl ⟨by omega, by omega⟩ dX1_write_68 ?_
          refine lv_isub hx hb dX1_write_69 ?_
          refine lv_bipush (v := 101) hx hb dX1_write_70 (by decide) ?_
          refine lv_bipush (v := 119) hx hb dX1_write_72 (by decide) ?_
          have hPc := hP.sub (ws' := [(q_1, .inr (1, [.ref va1_9, .int 0, .int 0, .int (nI (((wrt nn X Y z) ++ [59]) ++ leg ((Y (nxt nn z)) - (Y z)) 110 115).length)])), (va1_9, .inl (cB, cp1_9, .inl a1_9))]) [3, 4] rfl
          have hDc := hD.sub (ws' := [(q_1, .inr (1, [.ref va1_9, .int 0, .int 0, .int (nI (((wrt nn X Y z) ++ [59]) ++ leg ((Y (nxt nn z)) - (Y z)) 110 115).length)])), (va1_9, .inl (cB, cp1_9, .inl a1_9))]) [3, 4] (by decide) rfl
          have hFc := va_free (wc := [(q_1, .inr (1, [.ref va1_9, .int 0, .int 0, .int (nI (((wrt nn X Y z) ++ [59]) ++ leg ((Y (nxt nn z)) - (Y z)) 110 115).length)])), (va1_9, .inl (cB, cp1_9, .inl a1_9))]) hD hS hA [3, 4] rfl
          refine va_callv (va_runS (As := [.ref q_1, .int ((X (nxt nn z)) - (X z)), .int 101, .int 119]) (rest := []) ⟨hx, hb, hml, hown, hts⟩ (c_X1_writeLeg l D cI cB cZ cP H.size tz1 tz2 q_1 va1_9 cp1_9 0 a1_9 (((wrt nn X Y z) ++ [59]) ++ leg ((Y (nxt nn z)) - (Y z)) 110 115) ((X (nxt nn z)) - (X z)) 101 119 (hw_9.1) (hw_9.2.2.1) (hw_9.2.2.2) (hw_9.2.1) (by (try simp only [List.length_append, List.length_singleton]); omega) (wleg_b (by have := hp _ hnx9; have := hp _ hz8; unfold isP at *; omega) (by have := hp _ hnx9; have := hp _ hz8; unfold isP at *; omega)) (by unfold ltr; decide) (by unfold ltr; decide)) (cwS 4 hts gX1_write_X1_writeLeg rfl rfl rfl (by decide +kernel) ⟨Nat.le_of_ble_eq_true rfl, Nat.le_of_ble_eq_true rfl⟩) (pSQZ hPc hDc hW0 EF.t (hZ.to hS.2.1 hFc)) rfl rfl hl.1 rfl (lv_room (Nat.le_of_ble_eq_true rfl)) dX1_write_74 ⟨(by show _ ≤ 44; omega), (by show _ ≤ 2894; omega)⟩) hS (fun q _ h => hFc q h) hFc (fun u t H1 locs ht hvm hw hB hz1 hk1 hS => ?_)
          obtain ⟨va1_10, cp1_10, a1_10⟩ := u
          obtain ⟨hP1, hD1⟩ := hB
          rw [ht] at hP1
          have hw_10 : cap cp1_10 ∧ ((((wrt nn X Y z) ++ [59]) ++ leg ((Y (nxt nn z)) - (Y z)) 110 115) ++ leg ((X (nxt nn z)) - (X z)) 101 119).length ≤ cp1_10 ∧ rowIs a1_10 ((((wrt nn X Y z) ++ [59]) ++ leg ((Y (nxt nn z)) - (Y z)) 110 115) ++ leg ((X (nxt nn z)) - (X z)) 101 119) ∧ lat a1_10 := hw
          obtain ⟨hP, hD⟩ := va_join (wr := [(h0, .inr (3, [.ref ax, .ref ay, .int (nI nn)])), (ax, .inl (cI, nn, .inl X)), (ay, .inl (cI, nn, .inl Y))]) (w1 := [(q_1, .inr (1, [.ref va1_10, .int 0, .int 0, .int (nI ((((wrt nn X Y z) ++ [59]) ++ leg ((Y (nxt nn z)) - (Y z)) 110 115) ++ leg ((X (nxt nn z)) - (X z)) 101 119).length)])), (va1_10, .inl (cB, cp1_10, .inl a1_10))]) hP hD [3, 4] [0, 1, 2] rfl rfl (by decide) (by decide) hk1 hFc hP1 hD1
          generalize H1 = H at hP hS ⊢
          have hP := hP.sub (ws' := [(h0, .inr (3, [.ref ax, .ref ay, .int (nI nn)])), (ax, .inl (cI, nn, .inl X)), (ay, .inl (cI, nn, .inl Y)), (q_1, .inr (1, [.ref va1_10, .int 0, .int 0, .int (nI ((((wrt nn X Y z) ++ [59]) ++ leg ((Y (nxt nn z)) - (Y z)) 110 115) ++ leg ((X (nxt nn z)) - (X z)) 101 119).length)])), (va1_10, .inl (cB, cp1_10, .inl a1_10))]) [0, 1, 2, 3, 4] rfl
          have hD := hD.sub (ws' := [(h0, .inr (3, [.ref ax, .ref ay, .int (nI nn)])), (ax, .inl (cI, nn, .inl X)), (ay, .inl (cI, nn, .inl Y)), (q_1, .inr (1, [.ref va1_10, .int 0, .int 0, .int (nI ((((wrt nn X Y z) ++ [59]) ++ leg ((Y (nxt nn z)) - (Y z)) 110 115) ++ leg ((X (nxt nn z)) - (X z)) 101 119).length)])), (va1_10, .inl (cB, cp1_10, .inl a1_10))]) [0, 1, 2, 3, 4] (by decide) rfl
          have hwz : wrt nn X Y (z + 1) = (((wrt nn X Y z) ++ [59]) ++ leg ((Y (nxt nn z)) - (Y z)) 110 115) ++ leg ((X (nxt nn z)) - (X z)) 101 119 := by simp only [wrt]; rw [if_neg (by omega)]
          have hwq := hw_10; rw [← hwz] at hwq
          rw [← hwz] at hP hD
          refine lv_iinc (v := nI (z + 1)) (lv' := [(2, .int (nI (z + 1))), (3, .int (nI (nxt nn z))), (0, .ref h0), (1, .ref q_1)]) hx hb dX1_write_77 hl (k := 3) rfl (nI_1 _) (by decide) rfl (fun ls hl => ?_)
          refine lv_goto (tgt := 10) hx hb dX1_write_80 (by decide) ?_
          refine W.widen (k := 2 + 5 * (z + 1)) (n := 20 + 350 * (z + 1)) (by omega) (by omega) ?_
          exact ih_10 (z + 1) va1_10 cp1_10 a1_10 (by omega) (hwq.1) (hwq.2.1) (hwq.2.2.1) (hwq.2.2.2) (by omega) _ _ hP hD hS ls (lv_sub hl [2, 3, 0] rfl)
  exact LOOP_10 (nn - 0 + 1) 0 va1_2 16 (fun _ => 0) (Nat.zero_le _) (Or.inl rfl) (Nat.zero_le _) (rowIs_nil _) (lat_0) (Nat.lt_succ_self _) _ _ hP hD hS ls (lv_sub hl [2, 1, 0] rfl)

set_option maxHeartbeats 4000000 in
set_option maxRecDepth 100000 in
theorem c_X2_init (l : Launch) (D : va_G) (cI cB cZ cP : ClassId) (sz : Nat) (tz1 tz2 : Nat) (h0 h1 ax ay nn : Nat) (X Y : Nat → Int32) (hn8 : nn ≤ 8) (hp : ∀ z, z < nn → isP (X z) (Y z)) : Met l yX2_init wsX2_init ({ frames := 8, cells := 47, slots := 2990, locals := 174 } : Room) (va_Pc [.ref h0, .ref h1] (fun U => U.heap.size = sz ∧ va_P D vwCl [(h0, .inr (4, [.null, .null, .null, .null, .null])), (h1, .inr (3, [.ref ax, .ref ay, .int (nI nn)])), (ax, .inl (cI, nn, .inl X)), (ay, .inl (cI, nn, .inl Y))] U.heap ∧ KW D cI cB cZ cP U ∧ va_D (fun _ => True) [(h0, .inr (4, [.null, .null, .null, .null, .null])), (h1, .inr (3, [.ref ax, .ref ay, .int (nI nn)])), (ax, .inl (cI, nn, .inl X)), (ay, .inl (cI, nn, .inl Y))] ∧ EF [(h0, .inr (4, [.null, .null, .null, .null, .null])), (h1, .inr (3, [.ref ax, .ref ay, .int (nI nn)])), (ax, .inl (cI, nn, .inl X)), (ay, .inl (cI, nn, .inl Y))] sz E0 U.heap ∧ ZZ tz1 tz2 (va_A [(h0, .inr (4, [.null, .null, .null, .null, .null])), (h1, .inr (3, [.ref ax, .ref ay, .int (nI nn)])), (ax, .inl (cI, nn, .inl X)), (ay, .inl (cI, nn, .inl Y))] sz) U U.heap)) (va_Qv (fun (u : Nat × Nat × Nat × Nat × Nat × (Nat → Int32)) => match u with | (sw, qv, qi, qs, qh, g) => rowIs g (wrt nn X Y nn) ∧ lat g) (fun (u : Nat × Nat × Nat × Nat × Nat × (Nat → Int32)) (t : State) => match u with | (sw, qv, qi, qs, qh, g) => va_P D vwCl [(h0, .inr (4, [.ref h1, .ref sw, .ref qi, .ref qs, .ref qh])), (h1, .inr (3, [.ref ax, .ref ay, .int (nI nn)])), (ax, .inl (cI, nn, .inl X)), (ay, .inl (cI, nn, .inl Y)), (sw, .inr (0, [.ref qv, .int 0, .int 0, .int 0])), (qv, .inl (cB, ((wrt nn X Y nn).length), .inl g)), (qi, .inl (cI, 32, .inl (fun _ => 0))), (qs, .inl (cI, 32, .inl (fun _ => 0))), (qh, .inl (cI, 32, .inl (fun _ => 0)))] t.heap ∧ va_D (va_A [(h0, .inr (4, [.null, .null, .null, .null, .null])), (h1, .inr (3, [.ref ax, .ref ay, .int (nI nn)])), (ax, .inl (cI, nn, .inl X)), (ay, .inl (cI, nn, .inl Y))] sz) [(h0, .inr (4, [.ref h1, .ref sw, .ref qi, .ref qs, .ref qh])), (h1, .inr (3, [.ref ax, .ref ay, .int (nI nn)])), (ax, .inl (cI, nn, .inl X)), (ay, .inl (cI, nn, .inl Y)), (sw, .inr (0, [.ref qv, .int 0, .int 0, .int 0])), (qv, .inl (cB, ((wrt nn X Y nn).length), .inl g)), (qi, .inl (cI, 32, .inl (fun _ => 0))), (qs, .inl (cI, 32, .inl (fun _ => 0))), (qh, .inl (cI, 32, .inl (fun _ => 0)))]) (va_A [(h0, .inr (4, [.null, .null, .null, .null, .null])), (h1, .inr (3, [.ref ax, .ref ay, .int (nI nn)])), (ax, .inl (cI, nn, .inl X)), (ay, .inl (cI, nn, .inl Y))] sz)) 47 2990 (va_A [(h0, .inr (4, [.null, .null, .null, .null, .null])), (h1, .inr (3, [.ref ax, .ref ay, .int (nI nn)])), (ax, .inl (cI, nn, .inl X)), (ay, .inl (cI, nn, .inl Y))] sz) := by
  refine Met.ofW (cc := cX2_init) (maxL := 2) (ret := none) (by decide) rfl ?_
  intro p e s m args below meth c s₁ B hml hv
  obtain ⟨rfl, hsz, hP, hW0, hD0, hE, hZ⟩ := hv
  have hx := B.exec
  have hb := B.bytes
  have hr := B.returns
  have hts := atoms_spec (ws := wsX2_init) B.pre
  have hown : s.vm.findClass RX2 = some m.cls := findClass_of_methodNamed B.named
  have hlocks := B.notSynchronized
  have hK := hW0.1
  have hin : meth.name = "<init>" := (name_of_methodNamed B.named B.method).1
  subst hsz
  have hD := hD0.self (sz := s.heap.size)
  unfold EF at hE
  generalize hAe : va_A [(h0, .inr (4, [.null, .null, .null, .null, .null])), (h1, .inr (3, [.ref ax, .ref ay, .int (nI nn)])), (ax, .inl (cI, nn, .inl X)), (ay, .inl (cI, nn, .inl Y))] s.heap.size = A at hD hE hZ ⊢
  have hA : ∀ q : Nat, s.heap.size ≤ q → A q := fun q h => by rw [← hAe]; exact Or.inr h
  have hS : va_S A s.heap s.heap [] := va_S.rf
  have hl := lv_entry ([.ref h0, .ref h1]) (n := 2) (Nat.le_of_ble_eq_true rfl)
  rw [lg_entry_eq]
  generalize (lg_sl ([.ref h0, .ref h1]) ++ List.replicate (2 - (lg_sl ([.ref h0, .ref h1])).length) Slot.unset).toArray = ls at hl ⊢
  have hl : lv_has ls 2 [(0, .ref h0), (1, .ref h1)] := hl
  show W p l e ({ frames := 8, cells := 47, slots := 2990, locals := 174 } : Room) s m ([.ref h0, .ref h1] : List Value).toArray below meth c s.heap [] 0 0 _ (F0 m 0 ls [])
  refine u_genQ (fun Q hQ => ?_)
  refine lv_aload_n hx hb dX2_init_0 rfl (lv_at hl 0 rfl) ?_
  refine W.objInit hx hb hown (hts (.methodLink RX2 3 objectInit) (by decide +kernel)) (hts (.instanceMethod objectInit) (by decide +kernel)) (hts (.code objectInit ⟨#[0xb1]⟩ 1 none) (by decide +kernel)) rfl (by rw [hml]; exact hl.1) rfl dX2_init_1 (Nat.le_of_ble_eq_true rfl) (Nat.le_of_ble_eq_true rfl) ?_
  refine W.eq (g2 := F0 m 4 ls []) rfl ?_
  refine lv_aload_n hx hb dX2_init_4 rfl (lv_at hl 0 rfl) ?_
  refine lv_bipush (v := 32) hx hb dX2_init_5 (by decide) ?_
  refine u_newaI hx hb (hts (.arrayClass .int) (by decide +kernel)) hK 0 rfl hP hD hS hA (N := 32) rfl (by omega) (by show _ ≤ 47; omega) (Nat.le_of_ble_eq_true rfl) dX2_init_7 (fun q_1 H hP hD hS => ?_)
  have hP : va_P D vwCl [(h0, .inr (4, [.null, .null, .null, .null, .null])), (h1, .inr (3, [.ref ax, .ref ay, .int (nI nn)])), (ax, .inl (cI, nn, .inl X)), (ay, .inl (cI, nn, .inl Y)), (q_1, .inl (cI, 32, .inl (fun _ => 0)))] H := hP
  have hD : va_D A [(h0, .inr (4, [.null, .null, .null, .null, .null])), (h1, .inr (3, [.ref ax, .ref ay, .int (nI nn)])), (ax, .inl (cI, nn, .inl X)), (ay, .inl (cI, nn, .inl Y)), (q_1, .inl (cI, 32, .inl (fun _ => 0)))] := hD
  refine va_putF (D := D) (ci := 4) (v := .ref q_1) (ty := .array .int) (C := RX2) (T := TX2) (N := 5) hx hb hts (by decide +kernel) tyX2 tyX2_ok nmX2 hown hK hP hD hS 0 rfl rfl 2 (by decide) (hts (.fieldLink RX2 9 "LandDeeds$Plot" "inside" "[I") (by decide +kernel)) (fun _ h9 => h9) rfl hin rfl (by decide +kernel) rfl rfl (Nat.le_of_ble_eq_true rfl) dX2_init_9 (fun H locs hP hD hS => ?_)
  have hP : va_P D vwCl [(h0, .inr (4, [.null, .null, .ref q_1, .null, .null])), (h1, .inr (3, [.ref ax, .ref ay, .int (nI nn)])), (ax, .inl (cI, nn, .inl X)), (ay, .inl (cI, nn, .inl Y)), (q_1, .inl (cI, 32, .inl (fun _ => 0)))] H := hP
  have hD : va_D A [(h0, .inr (4, [.null, .null, .ref q_1, .null, .null])), (h1, .inr (3, [.ref ax, .ref ay, .int (nI nn)])), (ax, .inl (cI, nn, .inl X)), (ay, .inl (cI, nn, .inl Y)), (q_1, .inl (cI, 32, .inl (fun _ => 0)))] := hD
  refine lv_aload_n hx hb dX2_init_12 rfl (lv_at hl 0 rfl) ?_
  refine lv_bipush (v := 32) hx hb dX2_init_13 (by decide) ?_
  refine u_newaI hx hb (hts (.arrayClass .int) (by decide +kernel)) hK 0 rfl hP hD hS hA (N := 32) rfl (by omega) (by show _ ≤ 47; omega) (Nat.le_of_ble_eq_true rfl) dX2_init_15 (fun q_2 H hP hD hS => ?_)
  have hP : va_P D vwCl [(h0, .inr (4, [.null, .null, .ref q_1, .null, .null])), (h1, .inr (3, [.ref ax, .ref ay, .int (nI nn)])), (ax, .inl (cI, nn, .inl X)), (ay, .inl (cI, nn, .inl Y)), (q_1, .inl (cI, 32, .inl (fun _ => 0))), (q_2, .inl (cI, 32, .inl (fun _ => 0)))] H := hP
  have hD : va_D A [(h0, .inr (4, [.null, .null, .ref q_1, .null, .null])), (h1, .inr (3, [.ref ax, .ref ay, .int (nI nn)])), (ax, .inl (cI, nn, .inl X)), (ay, .inl (cI, nn, .inl Y)), (q_1, .inl (cI, 32, .inl (fun _ => 0))), (q_2, .inl (cI, 32, .inl (fun _ => 0)))] := hD
  refine va_putF (D := D) (ci := 4) (v := .ref q_2) (ty := .array .int) (C := RX2) (T := TX2) (N := 5) hx hb hts (by decide +kernel) tyX2 tyX2_ok nmX2 hown hK hP hD hS 0 rfl rfl 3 (by decide) (hts (.fieldLink RX2 15 "LandDeeds$Plot" "sides" "[I") (by decide +kernel)) (fun _ h9 => h9) rfl hin rfl (by decide +kernel) rfl rfl (Nat.le_of_ble_eq_true rfl) dX2_init_17 (fun H locs hP hD hS => ?_)
  have hP : va_P D vwCl [(h0, .inr (4, [.null, .null, .ref q_1, .ref q_2, .null])), (h1, .inr (3, [.ref ax, .ref ay, .int (nI nn)])), (ax, .inl (cI, nn, .inl X)), (ay, .inl (cI, nn, .inl Y)), (q_1, .inl (cI, 32, .inl (fun _ => 0))), (q_2, .inl (cI, 32, .inl (fun _ => 0)))] H := hP
  have hD : va_D A [(h0, .inr (4, [.null, .null, .ref q_1, .ref q_2, .null])), (h1, .inr (3, [.ref ax, .ref ay, .int (nI nn)])), (ax, .inl (cI, nn, .inl X)), (ay, .inl (cI, nn, .inl Y)), (q_1, .inl (cI, 32, .inl (fun _ => 0))), (q_2, .inl (cI, 32, .inl (fun _ => 0)))] := hD
  refine lv_aload_n hx hb dX2_init_20 rfl (lv_at hl 0 rfl) ?_
  refine lv_bipush (v := 32) hx hb dX2_init_21 (by decide) ?_
  refine u_newaI hx hb (hts (.arrayClass .int) (by decide +kernel)) hK 0 rfl hP hD hS hA (N := 32) rfl (by omega) (by show _ ≤ 47; omega) (Nat.le_of_ble_eq_true rfl) dX2_init_23 (fun q_3 H hP hD hS => ?_)
  have hP : va_P D vwCl [(h0, .inr (4, [.null, .null, .ref q_1, .ref q_2, .null])), (h1, .inr (3, [.ref ax, .ref ay, .int (nI nn)])), (ax, .inl (cI, nn, .inl X)), (ay, .inl (cI, nn, .inl Y)), (q_1, .inl (cI, 32, .inl (fun _ => 0))), (q_2, .inl (cI, 32, .inl (fun _ => 0))), (q_3, .inl (cI, 32, .inl (fun _ => 0)))] H := hP
  have hD : va_D A [(h0, .inr (4, [.null, .null, .ref q_1, .ref q_2, .null])), (h1, .inr (3, [.ref ax, .ref ay, .int (nI nn)])), (ax, .inl (cI, nn, .inl X)), (ay, .inl (cI, nn, .inl Y)), (q_1, .inl (cI, 32, .inl (fun _ => 0))), (q_2, .inl (cI, 32, .inl (fun _ => 0))), (q_3, .inl (cI, 32, .inl (fun _ => 0)))] := hD
  refine va_putF (D := D) (ci := 4) (v := .ref q_3) (ty := .array .int) (C := RX2) (T := TX2) (N := 5) hx hb hts (by decide +kernel) tyX2 tyX2_ok nmX2 hown hK hP hD hS 0 rfl rfl 4 (by decide) (hts (.fieldLink RX2 18 "LandDeeds$Plot" "held" "[I") (by decide +kernel)) (fun _ h9 => h9) rfl hin rfl (by decide +kernel) rfl rfl (Nat.le_of_ble_eq_true rfl) dX2_init_25 (fun H locs hP hD hS => ?_)
  have hP : va_P D vwCl [(h0, .inr (4, [.null, .null, .ref q_1, .ref q_2, .ref q_3])), (h1, .inr (3, [.ref ax, .ref ay, .int (nI nn)])), (ax, .inl (cI, nn, .inl X)), (ay, .inl (cI, nn, .inl Y)), (q_1, .inl (cI, 32, .inl (fun _ => 0))), (q_2, .inl (cI, 32, .inl (fun _ => 0))), (q_3, .inl (cI, 32, .inl (fun _ => 0)))] H := hP
  have hD : va_D A [(h0, .inr (4, [.null, .null, .ref q_1, .ref q_2, .ref q_3])), (h1, .inr (3, [.ref ax, .ref ay, .int (nI nn)])), (ax, .inl (cI, nn, .inl X)), (ay, .inl (cI, nn, .inl Y)), (q_1, .inl (cI, 32, .inl (fun _ => 0))), (q_2, .inl (cI, 32, .inl (fun _ => 0))), (q_3, .inl (cI, 32, .inl (fun _ => 0)))] := hD
  refine lv_aload_n hx hb dX2_init_28 rfl (lv_at hl 0 rfl) ?_
  refine lv_aload_n hx hb dX2_init_29 rfl (lv_at hl 1 rfl) ?_
  refine va_putF (D := D) (ci := 4) (v := .ref h1) (ty := .object "LandDeeds$Outline") (C := RX2) (T := TX2) (N := 5) hx hb hts (by decide +kernel) tyX2 tyX2_ok nmX2 hown hK hP hD hS 0 rfl rfl 0 (by decide) (hts (.fieldLink RX2 21 "LandDeeds$Plot" "outline" "LLandDeeds$Outline;") (by decide +kernel)) (fun _ h9 => h9) rfl hin rfl (by decide +kernel) rfl rfl (Nat.le_of_ble_eq_true rfl) dX2_init_30 (fun H locs hP hD hS => ?_)
  have hP : va_P D vwCl [(h0, .inr (4, [.ref h1, .null, .ref q_1, .ref q_2, .ref q_3])), (h1, .inr (3, [.ref ax, .ref ay, .int (nI nn)])), (ax, .inl (cI, nn, .inl X)), (ay, .inl (cI, nn, .inl Y)), (q_1, .inl (cI, 32, .inl (fun _ => 0))), (q_2, .inl (cI, 32, .inl (fun _ => 0))), (q_3, .inl (cI, 32, .inl (fun _ => 0)))] H := hP
  have hD : va_D A [(h0, .inr (4, [.ref h1, .null, .ref q_1, .ref q_2, .ref q_3])), (h1, .inr (3, [.ref ax, .ref ay, .int (nI nn)])), (ax, .inl (cI, nn, .inl X)), (ay, .inl (cI, nn, .inl Y)), (q_1, .inl (cI, 32, .inl (fun _ => 0))), (q_2, .inl (cI, 32, .inl (fun _ => 0))), (q_3, .inl (cI, 32, .inl (fun _ => 0)))] := hD
  refine lv_aload_n hx hb dX2_init_33 rfl (lv_at hl 0 rfl) ?_
  refine lv_aload_n hx hb dX2_init_34 rfl (lv_at hl 1 rfl) ?_
  have hPc := hP.sub (ws' := [(h1, .inr (3, [.ref ax, .ref ay, .int (nI nn)])), (ax, .inl (cI, nn, .inl X)), (ay, .inl (cI, nn, .inl Y))]) [1, 2, 3] rfl
  have hDc := hD.sub (ws' := [(h1, .inr (3, [.ref ax, .ref ay, .int (nI nn)])), (ax, .inl (cI, nn, .inl X)), (ay, .inl (cI, nn, .inl Y))]) [1, 2, 3] (by decide) rfl
  have hFc := va_free (wc := [(h1, .inr (3, [.ref ax, .ref ay, .int (nI nn)])), (ax, .inl (cI, nn, .inl X)), (ay, .inl (cI, nn, .inl Y))]) hD hS hA [1, 2, 3] rfl
  refine va_callr (va_runV (As := []) (rest := [.ref h0]) ⟨hx, hb, hml, hown, hts⟩ (c_X1_write l D cI cB cZ cP H.size tz1 tz2 h1 ax ay nn X Y (by first | assumption | omega) (by first | assumption | omega)) (cwV 0 hts gX2_init_X1_write rfl rfl rfl (by decide +kernel) ⟨Nat.le_of_ble_eq_true rfl, Nat.le_of_ble_eq_true rfl⟩) (pVQZ (q0 := 0) hPc hDc hW0 EF.t (hZ.to hS.2.1 hFc) rfl rfl) rfl rfl hl.1 rfl (lv_room (Nat.le_of_ble_eq_true rfl)) dX2_init_35 ⟨(by show _ ≤ 47; omega), (by show _ ≤ 2990; omega)⟩) hS (fun q _ h => hFc q h) hFc (fun u ra_4 t H1 locs ht hvm hw hB hz1 hk1 hS => ?_)
  obtain ⟨qv_4, g_4⟩ := u
  obtain ⟨hP1, hD1⟩ := hB
  rw [ht] at hP1
  have hw_4 : rowIs g_4 (wrt nn X Y nn) ∧ lat g_4 := hw
  obtain ⟨hP, hD⟩ := va_join (wr := [(h0, .inr (4, [.ref h1, .null, .ref q_1, .ref q_2, .ref q_3])), (q_1, .inl (cI, 32, .inl (fun _ => 0))), (q_2, .inl (cI, 32, .inl (fun _ => 0))), (q_3, .inl (cI, 32, .inl (fun _ => 0)))]) (w1 := [(h1, .inr (3, [.ref ax, .ref ay, .int (nI nn)])), (ax, .inl (cI, nn, .inl X)), (ay, .inl (cI, nn, .inl Y)), (ra_4, .inr (0, [.ref qv_4, .int 0, .int 0, .int 0])), (qv_4, .inl (cB, ((wrt nn X Y nn).length), .inl g_4))]) hP hD [1, 2, 3] [0, 4, 5, 6] rfl rfl (by decide) (by decide) hk1 hFc hP1 hD1
  generalize H1 = H at hP hS ⊢
  have hP := hP.sub (ws' := [(h0, .inr (4, [.ref h1, .null, .ref q_1, .ref q_2, .ref q_3])), (h1, .inr (3, [.ref ax, .ref ay, .int (nI nn)])), (ax, .inl (cI, nn, .inl X)), (ay, .inl (cI, nn, .inl Y)), (q_1, .inl (cI, 32, .inl (fun _ => 0))), (q_2, .inl (cI, 32, .inl (fun _ => 0))), (q_3, .inl (cI, 32, .inl (fun _ => 0))), (ra_4, .inr (0, [.ref qv_4, .int 0, .int 0, .int 0])), (qv_4, .inl (cB, ((wrt nn X Y nn).length), .inl g_4))]) [0, 4, 5, 6, 1, 2, 3, 7, 8] rfl
  have hD := hD.sub (ws' := [(h0, .inr (4, [.ref h1, .null, .ref q_1, .ref q_2, .ref q_3])), (h1, .inr (3, [.ref ax, .ref ay, .int (nI nn)])), (ax, .inl (cI, nn, .inl X)), (ay, .inl (cI, nn, .inl Y)), (q_1, .inl (cI, 32, .inl (fun _ => 0))), (q_2, .inl (cI, 32, .inl (fun _ => 0))), (q_3, .inl (cI, 32, .inl (fun _ => 0))), (ra_4, .inr (0, [.ref qv_4, .int 0, .int 0, .int 0])), (qv_4, .inl (cB, ((wrt nn X Y nn).length), .inl g_4))]) [0, 4, 5, 6, 1, 2, 3, 7, 8] (by decide) rfl
  have hWR := hw_4
  refine va_putF (D := D) (ci := 4) (v := .ref ra_4) (ty := .object "java/lang/String") (C := RX2) (T := TX2) (N := 5) hx hb hts (by decide +kernel) tyX2 tyX2_ok nmX2 hown hK hP hD hS 0 rfl rfl 1 (by decide) (hts (.fieldLink RX2 31 "LandDeeds$Plot" "written" "Ljava/lang/String;") (by decide +kernel)) (fun _ h9 => h9) rfl hin rfl (by decide +kernel) rfl rfl (Nat.le_of_ble_eq_true rfl) dX2_init_38 (fun H locs hP hD hS => ?_)
  have hP : va_P D vwCl [(h0, .inr (4, [.ref h1, .ref ra_4, .ref q_1, .ref q_2, .ref q_3])), (h1, .inr (3, [.ref ax, .ref ay, .int (nI nn)])), (ax, .inl (cI, nn, .inl X)), (ay, .inl (cI, nn, .inl Y)), (q_1, .inl (cI, 32, .inl (fun _ => 0))), (q_2, .inl (cI, 32, .inl (fun _ => 0))), (q_3, .inl (cI, 32, .inl (fun _ => 0))), (ra_4, .inr (0, [.ref qv_4, .int 0, .int 0, .int 0])), (qv_4, .inl (cB, ((wrt nn X Y nn).length), .inl g_4))] H := hP
  have hD : va_D A [(h0, .inr (4, [.ref h1, .ref ra_4, .ref q_1, .ref q_2, .ref q_3])), (h1, .inr (3, [.ref ax, .ref ay, .int (nI nn)])), (ax, .inl (cI, nn, .inl X)), (ay, .inl (cI, nn, .inl Y)), (q_1, .inl (cI, 32, .inl (fun _ => 0))), (q_2, .inl (cI, 32, .inl (fun _ => 0))), (q_3, .inl (cI, 32, .inl (fun _ => 0))), (ra_4, .inr (0, [.ref qv_4, .int 0, .int 0, .int 0])), (qv_4, .inl (cB, ((wrt nn X Y nn).length), .inl g_4))] := hD
  rw [← hQ]
  have hP9 := hP
  have hD9 := hD
  have hP9 := hP9.sub (ws' := [(h0, .inr (4, [.ref h1, .ref ra_4, .ref q_1, .ref q_2, .ref q_3])), (h1, .inr (3, [.ref ax, .ref ay, .int (nI nn)])), (ax, .inl (cI, nn, .inl X)), (ay, .inl (cI, nn, .inl Y)), (ra_4, .inr (0, [.ref qv_4, .int 0, .int 0, .int 0])), (qv_4, .inl (cB, ((wrt nn X Y nn).length), .inl g_4)), (q_1, .inl (cI, 32, .inl (fun _ => 0))), (q_2, .inl (cI, 32, .inl (fun _ => 0))), (q_3, .inl (cI, 32, .inl (fun _ => 0)))]) [0, 1, 2, 3, 7, 8, 4, 5, 6] rfl
  have hD9 := hD9.sub (ws' := [(h0, .inr (4, [.ref h1, .ref ra_4, .ref q_1, .ref q_2, .ref q_3])), (h1, .inr (3, [.ref ax, .ref ay, .int (nI nn)])), (ax, .inl (cI, nn, .inl X)), (ay, .inl (cI, nn, .inl Y)), (ra_4, .inr (0, [.ref qv_4, .int 0, .int 0, .int 0])), (qv_4, .inl (cB, ((wrt nn X Y nn).length), .inl g_4)), (q_1, .inl (cI, 32, .inl (fun _ => 0))), (q_2, .inl (cI, 32, .inl (fun _ => 0))), (q_3, .inl (cI, 32, .inl (fun _ => 0)))]) [0, 1, 2, 3, 7, 8, 4, 5, 6] (by decide) rfl
  exact W.vret hx hb hr (fun t ht hW => ⟨⟨(ra_4, qv_4, q_1, q_2, q_3, g_4), rfl, hWR, by rw [ht]; exact hP9, hD9⟩, hS.F ht⟩) hS.2.2 dX2_init_41

set_option maxHeartbeats 4000000 in
set_option maxRecDepth 100000 in
theorem c_X2_markPosts (l : Launch) (D : va_G) (cI cB cZ cP : ClassId) (sz : Nat) (h0 h1 ax ay nn sw qi qs qh : Nat) (X Y : Nat → Int32) (hn8 : nn ≤ 8) (hn3 : 3 ≤ nn) (hp : ∀ z, z < nn → isP (X z) (Y z)) : Met l yX2_markPosts wsX2_markPosts ({ frames := 3, cells := 0, slots := 0, locals := 70 } : Room) (va_Pc [.ref h0] (fun U => U.heap.size = sz ∧ va_P D vwCl [(h0, .inr (4, [.ref h1, .ref sw, .ref qi, .ref qs, .ref qh])), (h1, .inr (3, [.ref ax, .ref ay, .int (nI nn)])), (ax, .inl (cI, nn, .inl X)), (ay, .inl (cI, nn, .inl Y)), (qi, .inl (cI, 32, .inl (fun _ => 0))), (qs, .inl (cI, 32, .inl (fun _ => 0))), (qh, .inl (cI, 32, .inl (fun _ => 0)))] U.heap ∧ KW D cI cB cZ cP U ∧ va_D (fun _ => True) [(h0, .inr (4, [.ref h1, .ref sw, .ref qi, .ref qs, .ref qh])), (h1, .inr (3, [.ref ax, .ref ay, .int (nI nn)])), (ax, .inl (cI, nn, .inl X)), (ay, .inl (cI, nn, .inl Y)), (qi, .inl (cI, 32, .inl (fun _ => 0))), (qs, .inl (cI, 32, .inl (fun _ => 0))), (qh, .inl (cI, 32, .inl (fun _ => 0)))] ∧ EF [(h0, .inr (4, [.ref h1, .ref sw, .ref qi, .ref qs, .ref qh])), (h1, .inr (3, [.ref ax, .ref ay, .int (nI nn)])), (ax, .inl (cI, nn, .inl X)), (ay, .inl (cI, nn, .inl Y)), (qi, .inl (cI, 32, .inl (fun _ => 0))), (qs, .inl (cI, 32, .inl (fun _ => 0))), (qh, .inl (cI, 32, .inl (fun _ => 0)))] sz E0 U.heap)) (va_Qv (fun (u : (Nat → Int32) × (Nat → Int32) × (Nat → Int32)) => match u with | (fi, fs, fh) => plR nn X Y fi fs fh) (fun (u : (Nat → Int32) × (Nat → Int32) × (Nat → Int32)) (t : State) => match u with | (fi, fs, fh) => va_P D vwCl [(h0, .inr (4, [.ref h1, .ref sw, .ref qi, .ref qs, .ref qh])), (h1, .inr (3, [.ref ax, .ref ay, .int (nI nn)])), (ax, .inl (cI, nn, .inl X)), (ay, .inl (cI, nn, .inl Y)), (qi, .inl (cI, 32, .inl fi)), (qs, .inl (cI, 32, .inl fs)), (qh, .inl (cI, 32, .inl fh))] t.heap ∧ va_D (va_A [(h0, .inr (4, [.ref h1, .ref sw, .ref qi, .ref qs, .ref qh])), (h1, .inr (3, [.ref ax, .ref ay, .int (nI nn)])), (ax, .inl (cI, nn, .inl X)), (ay, .inl (cI, nn, .inl Y)), (qi, .inl (cI, 32, .inl (fun _ => 0))), (qs, .inl (cI, 32, .inl (fun _ => 0))), (qh, .inl (cI, 32, .inl (fun _ => 0)))] sz) [(h0, .inr (4, [.ref h1, .ref sw, .ref qi, .ref qs, .ref qh])), (h1, .inr (3, [.ref ax, .ref ay, .int (nI nn)])), (ax, .inl (cI, nn, .inl X)), (ay, .inl (cI, nn, .inl Y)), (qi, .inl (cI, 32, .inl fi)), (qs, .inl (cI, 32, .inl fs)), (qh, .inl (cI, 32, .inl fh))]) (va_A [(h0, .inr (4, [.ref h1, .ref sw, .ref qi, .ref qs, .ref qh])), (h1, .inr (3, [.ref ax, .ref ay, .int (nI nn)])), (ax, .inl (cI, nn, .inl X)), (ay, .inl (cI, nn, .inl Y)), (qi, .inl (cI, 32, .inl (fun _ => 0))), (qs, .inl (cI, 32, .inl (fun _ => 0))), (qh, .inl (cI, 32, .inl (fun _ => 0)))] sz)) 0 0 (va_A [(h0, .inr (4, [.ref h1, .ref sw, .ref qi, .ref qs, .ref qh])), (h1, .inr (3, [.ref ax, .ref ay, .int (nI nn)])), (ax, .inl (cI, nn, .inl X)), (ay, .inl (cI, nn, .inl Y)), (qi, .inl (cI, 32, .inl (fun _ => 0))), (qs, .inl (cI, 32, .inl (fun _ => 0))), (qh, .inl (cI, 32, .inl (fun _ => 0)))] sz) := by
  refine Met.ofW (cc := cX2_markPosts) (maxL := 2) (ret := none) (by decide) rfl ?_
  intro p e s m args below meth c s₁ B hml hv
  obtain ⟨rfl, hsz, hP, hW0, hD0, hE⟩ := hv
  have hx := B.exec
  have hb := B.bytes
  have hr := B.returns
  have hts := atoms_spec (ws := wsX2_markPosts) B.pre
  have hown : s.vm.findClass RX2 = some m.cls := findClass_of_methodNamed B.named
  have hlocks := B.notSynchronized
  have hK := hW0.1
  subst hsz
  have hD := hD0.self (sz := s.heap.size)
  unfold EF at hE
  generalize hAe : va_A [(h0, .inr (4, [.ref h1, .ref sw, .ref qi, .ref qs, .ref qh])), (h1, .inr (3, [.ref ax, .ref ay, .int (nI nn)])), (ax, .inl (cI, nn, .inl X)), (ay, .inl (cI, nn, .inl Y)), (qi, .inl (cI, 32, .inl (fun _ => 0))), (qs, .inl (cI, 32, .inl (fun _ => 0))), (qh, .inl (cI, 32, .inl (fun _ => 0)))] s.heap.size = A at hD hE ⊢
  have hA : ∀ q : Nat, s.heap.size ≤ q → A q := fun q h => by rw [← hAe]; exact Or.inr h
  have hS : va_S A s.heap s.heap [] := va_S.rf
  have hl := lv_entry ([.ref h0]) (n := 2) (Nat.le_of_ble_eq_true rfl)
  rw [lg_entry_eq]
  generalize (lg_sl ([.ref h0]) ++ List.replicate (2 - (lg_sl ([.ref h0])).length) Slot.unset).toArray = ls at hl ⊢
  have hl : lv_has ls 2 [(0, .ref h0)] := hl
  show W p l e ({ frames := 3, cells := 0, slots := 0, locals := 70 } : Room) s m ([.ref h0] : List Value).toArray below meth c s.heap [] 0 0 _ (F0 m 0 ls [])
  refine u_genQ (fun Q hQ => ?_)
  refine lv_iconst (v := 0) hx hb dX2_markPosts_0 (by decide) ?_
  refine lv_istore_n (lv' := [(1, .int 0), (0, .ref h0)]) hx hb dX2_markPosts_1 rfl hl (by decide) rfl (fun ls hl => ?_)
  have LOOP_2 : ∀ (fu : Nat) (zk : Nat) (fi : Nat → Int32) (fs : Nat → Int32) (hz : zk ≤ nn) (hF : rowF nn X Y zk fi) (hM : rowM nn X Y zk fs) (hn : nn - zk < fu) (H : Heap) (locs : List Loc) (hP : va_P D vwCl [(h0, .inr (4, [.ref h1, .ref sw, .ref qi, .ref qs, .ref qh])), (h1, .inr (3, [.ref ax, .ref ay, .int (nI nn)])), (ax, .inl (cI, nn, .inl X)), (ay, .inl (cI, nn, .inl Y)), (qi, .inl (cI, 32, .inl fi)), (qs, .inl (cI, 32, .inl fs)), (qh, .inl (cI, 32, .inl (fun _ => 0)))] H) (hD : va_D A [(h0, .inr (4, [.ref h1, .ref sw, .ref qi, .ref qs, .ref qh])), (h1, .inr (3, [.ref ax, .ref ay, .int (nI nn)])), (ax, .inl (cI, nn, .inl X)), (ay, .inl (cI, nn, .inl Y)), (qi, .inl (cI, 32, .inl fi)), (qs, .inl (cI, 32, .inl fs)), (qh, .inl (cI, 32, .inl (fun _ => 0)))]) (hS : va_S A s.heap H locs) (ls : Array Slot) (hl : lv_has ls 2 [(0, .ref h0), (1, .int (nI zk))]), W p l e ({ frames := 3, cells := 0, slots := 0, locals := 70 } : Room) s m ([.ref h0] : List Value).toArray below meth c H locs 0 0 Q (F0 m 2 ls []) := by
    intro fu
    induction fu with
    | zero => intro zk fi fs hz hF hM hn H locs hP hD hS ls hl; exact absurd hn (Nat.not_lt_zero _)
    | succ fu ih_2 =>
      intro zk fi fs hz hF hM hn H locs hP hD hS ls hl
      refine lv_iload_n hx hb dX2_markPosts_2 rfl (lv_at hl 1 rfl) ?_
      refine lv_aload_n hx hb dX2_markPosts_3 rfl (lv_at hl 0 rfl) ?_
      refine va_get (D := D) (ci := 4) (v := .ref h1) (C := RX2) (T := TX2) (N := 5) hx hb hts (by decide +kernel) hown hK hP 0 rfl rfl 0 (by decide) (hts (.fieldLink RX2 21 "LandDeeds$Plot" "outline" "LLandDeeds$Outline;") (by decide +kernel)) (fun _ h9 => h9) rfl dX2_markPosts_4 ?_
      refine va_get (D := D) (ci := 3) (v := .int (nI nn)) (C := RX1) (T := TX1) (N := 3) hx hb hts (by decide +kernel) hown hK hP 1 rfl rfl 2 (by decide) (hts (.fieldLink RX2 41 "LandDeeds$Outline" "corners" "I") (by decide +kernel)) (fun _ h9 => h9) rfl dX2_markPosts_7 ?_
      refine lv_icmp_ge (tgt := 43) hx hb dX2_markPosts_10 (by decide) (fun c_1 => ?_) (fun c_1 => ?_)
      · skip
        have nc_1 : nn ≤ zk := (nI_leI (a := nn) (b := zk) (by omega) (by omega)).mp c_1
        obtain rfl : nn = zk := by omega
        refine lv_iconst (v := 0) hx hb dX2_markPosts_43 (by decide) ?_
        refine lv_istore_n (lv' := [(1, .int 0), (0, .ref h0)]) hx hb dX2_markPosts_44 rfl hl (by decide) rfl (fun ls hl => ?_)
        have LOOP_45 : ∀ (fu : Nat) (y : Nat) (fj : Nat → Int32) (fh : Nat → Int32) (hy : y ≤ 32) (hJ : ∀ j, j < y → fj j = fi j &&& (fs j ^^^ (-1)) ∧ fh j = (fi j &&& (fs j ^^^ (-1))) ||| fs j) (hJ2 : ∀ j, y ≤ j → fj j = fi j) (hn : 32 - y < fu) (H : Heap) (locs : List Loc) (hP : va_P D vwCl [(h0, .inr (4, [.ref h1, .ref sw, .ref qi, .ref qs, .ref qh])), (h1, .inr (3, [.ref ax, .ref ay, .int (nI nn)])), (ax, .inl (cI, nn, .inl X)), (ay, .inl (cI, nn, .inl Y)), (qi, .inl (cI, 32, .inl fj)), (qs, .inl (cI, 32, .inl fs)), (qh, .inl (cI, 32, .inl fh))] H) (hD : va_D A [(h0, .inr (4, [.ref h1, .ref sw, .ref qi, .ref qs, .ref qh])), (h1, .inr (3, [.ref ax, .ref ay, .int (nI nn)])), (ax, .inl (cI, nn, .inl X)), (ay, .inl (cI, nn, .inl Y)), (qi, .inl (cI, 32, .inl fj)), (qs, .inl (cI, 32, .inl fs)), (qh, .inl (cI, 32, .inl fh))]) (hS : va_S A s.heap H locs) (ls : Array Slot) (hl : lv_has ls 2 [(0, .ref h0), (1, .int (nI y))]), W p l e ({ frames := 3, cells := 0, slots := 0, locals := 70 } : Room) s m ([.ref h0] : List Value).toArray below meth c H locs 0 0 Q (F0 m 45 ls []) := by
          intro fu
          induction fu with
          | zero => intro y fj fh hy hJ hJ2 hn H locs hP hD hS ls hl; exact absurd hn (Nat.not_lt_zero _)
          | succ fu ih_45 =>
            intro y fj fh hy hJ hJ2 hn H locs hP hD hS ls hl
            refine lv_iload_n hx hb dX2_markPosts_45 rfl (lv_at hl 1 rfl) ?_
            refine lv_bipush (v := 32) hx hb dX2_markPosts_46 (by decide) ?_
            refine lv_icmp_ge (tgt := 93) hx hb dX2_markPosts_48 (by decide) (fun c_2 => ?_) (fun c_2 => ?_)
            · skip
              have nc_2 : 32 ≤ y := (nI_leI (a := 32) (b := y) (by omega) (by omega)).mp c_2
              have hy32 : y = 32 := by omega
              rw [← hQ]
              have hP9 := hP
              have hD9 := hD
              exact W.vret hx hb hr (fun t ht hW => ⟨⟨(fj, fs, fh), rfl, plR_of hM hF (fun j hj => hJ j (by omega)), by rw [ht]; exact hP9, hD9⟩, hS.F ht⟩) hS.2.2 dX2_markPosts_93
            · skip
              have nc_2 : ¬ (32 ≤ y) := fun h => c_2 ((nI_leI (a := 32) (b := y) (by omega) (by omega)).mpr h)
              have hy8 : y < 32 := by omega
              refine lv_aload_n hx hb dX2_markPosts_51 rfl (lv_at hl 0 rfl) ?_
              refine va_get (D := D) (ci := 4) (v := .ref qi) (C := RX2) (T := TX2) (N := 5) hx hb hts (by decide +kernel) hown hK hP 0 rfl rfl 2 (by decide) (hts (.fieldLink RX2 9 "LandDeeds$Plot" "inside" "[I") (by decide +kernel)) (fun _ h9 => h9) rfl dX2_markPosts_52 ?_
              refine lv_iload_n hx hb dX2_markPosts_55 rfl (lv_at hl 1 rfl) ?_
              refine lv_dup2_11 hx hb dX2_markPosts_56 rfl rfl ?_
              refine u_iald hx hb hK hP 4 0 rfl rfl rfl ⟨by omega, by omega⟩ dX2_markPosts_57 ?_
              refine lv_aload_n hx hb dX2_markPosts_58 rfl (lv_at hl 0 rfl) ?_
              refine va_get (D := D) (ci := 4) (v := .ref qs) (C := RX2) (T := TX2) (N := 5) hx hb hts (by decide +kernel) hown hK hP 0 rfl rfl 3 (by decide) (hts (.fieldLink RX2 15 "LandDeeds$Plot" "sides" "[I") (by decide +kernel)) (fun _ h9 => h9) rfl dX2_markPosts_59 ?_
              refine lv_iload_n hx hb dX2_markPosts_62 rfl (lv_at hl 1 rfl) ?_
              refine u_iald hx hb hK hP 5 0 rfl rfl rfl ⟨by omega, by omega⟩ dX2_markPosts_63 ?_
              refine lv_iconst (v := (-1)) hx hb dX2_markPosts_64 (by decide) ?_
              refine lv_ixor hx hb dX2_markPosts_65 ?_
              refine lv_iand hx hb dX2_markPosts_66 ?_
              refine u_iast hx hb hK hP hD hS 4 0 rfl rfl rfl ⟨by omega, by omega⟩ dX2_markPosts_67 (fun H locs hP hD hS => ?_)
              have hP : va_P D vwCl [(h0, .inr (4, [.ref h1, .ref sw, .ref qi, .ref qs, .ref qh])), (h1, .inr (3, [.ref ax, .ref ay, .int (nI nn)])), (ax, .inl (cI, nn, .inl X)), (ay, .inl (cI, nn, .inl Y)), (qi, .inl (cI, 32, .inl (upd fj y ((fj y) &&& ((fs y) ^^^ (-1)))))), (qs, .inl (cI, 32, .inl fs)), (qh, .inl (cI, 32, .inl fh))] H := hP
              have hD : va_D A [(h0, .inr (4, [.ref h1, .ref sw, .ref qi, .ref qs, .ref qh])), (h1, .inr (3, [.ref ax, .ref ay, .int (nI nn)])), (ax, .inl (cI, nn, .inl X)), (ay, .inl (cI, nn, .inl Y)), (qi, .inl (cI, 32, .inl (upd fj y ((fj y) &&& ((fs y) ^^^ (-1)))))), (qs, .inl (cI, 32, .inl fs)), (qh, .inl (cI, 32, .inl fh))] := hD
              refine lv_aload_n hx hb dX2_markPosts_68 rfl (lv_at hl 0 rfl) ?_
              refine va_get (D := D) (ci := 4) (v := .ref qh) (C := RX2) (T := TX2) (N := 5) hx hb hts (by decide +kernel) hown hK hP 0 rfl rfl 4 (by decide) (hts (.fieldLink RX2 18 "LandDeeds$Plot" "held" "[I") (by decide +kernel)) (fun _ h9 => h9) rfl dX2_markPosts_69 ?_
              refine lv_iload_n hx hb dX2_markPosts_72 rfl (lv_at hl 1 rfl) ?_
              refine lv_aload_n hx hb dX2_markPosts_73 rfl (lv_at hl 0 rfl) ?_
              refine va_get (D := D) (ci := 4) (v := .ref qi) (C := RX2) (T := TX2) (N := 5) hx hb hts (by decide +kernel) hown hK hP 0 rfl rfl 2 (by decide) (hts (.fieldLink RX2 9 "LandDeeds$Plot" "inside" "[I") (by decide +kernel)) (fun _ h9 => h9) rfl dX2_markPosts_74 ?_
              refine lv_iload_n hx hb dX2_markPosts_77 rfl (lv_at hl 1 rfl) ?_
              refine u_iald hx hb hK hP 4 0 rfl rfl rfl ⟨by omega, by omega⟩ dX2_markPosts_78 ?_
              refine lv_aload_n hx hb dX2_markPosts_79 rfl (lv_at hl 0 rfl) ?_
              refine va_get (D := D) (ci := 4) (v := .ref qs) (C := RX2) (T := TX2) (N := 5) hx hb hts (by decide +kernel) hown hK hP 0 rfl rfl 3 (by decide) (hts (.fieldLink RX2 15 "LandDeeds$Plot" "sides" "[I") (by decide +kernel)) (fun _ h9 => h9) rfl dX2_markPosts_80 ?_
              refine lv_iload_n hx hb dX2_markPosts_83 rfl (lv_at hl 1 rfl) ?_
              refine u_iald hx hb hK hP 5 0 rfl rfl rfl ⟨by omega, by omega⟩ dX2_markPosts_84 ?_
              refine lv_ior hx hb dX2_markPosts_85 ?_
              refine u_iast hx hb hK hP hD hS 6 0 rfl rfl rfl ⟨by omega, by omega⟩ dX2_markPosts_86 (fun H locs hP hD hS => ?_)
              have hP : va_P D vwCl [(h0, .inr (4, [.ref h1, .ref sw, .ref qi, .ref qs, .ref qh])), (h1, .inr (3, [.ref ax, .ref ay, .int (nI nn)])), (ax, .inl (cI, nn, .inl X)), (ay, .inl (cI, nn, .inl Y)), (qi, .inl (cI, 32, .inl (upd fj y ((fj y) &&& ((fs y) ^^^ (-1)))))), (qs, .inl (cI, 32, .inl fs)), (qh, .inl (cI, 32, .inl (upd fh y (((upd fj y ((fj y) &&& ((fs y) ^^^ (-1)))) y) ||| (fs y)))))] H := hP
              have hD : va_D A [(h0, .inr (4, [.ref h1, .ref sw, .ref qi, .ref qs, .ref qh])), (h1, .inr (3, [.ref ax, .ref ay, .int (nI nn)])), (ax, .inl (cI, nn, .inl X)), (ay, .inl (cI, nn, .inl Y)), (qi, .inl (cI, 32, .inl (upd fj y ((fj y) &&& ((fs y) ^^^ (-1)))))), (qs, .inl (cI, 32, .inl fs)), (qh, .inl (cI, 32, .inl (upd fh y (((upd fj y ((fj y) &&& ((fs y) ^^^ (-1)))) y) ||| (fs y)))))] := hD
              refine lv_iinc (v := nI (y + 1)) (lv' := [(1, .int (nI (y + 1))), (0, .ref h0)]) hx hb dX2_markPosts_87 hl (k := 1) rfl (nI_1 _) (by decide) rfl (fun ls hl => ?_)
              refine lv_goto (tgt := 45) hx hb dX2_markPosts_90 (by decide) ?_
              exact ih_45 (y + 1) (upd fj y ((fj y) &&& ((fs y) ^^^ (-1)))) (upd fh y (((upd fj y ((fj y) &&& ((fs y) ^^^ (-1)))) y) ||| (fs y))) (by omega) (py_on hJ (hJ2 y (Nat.le_refl _))) (fun j hj => by rw [pk_un (by omega)]; exact hJ2 j (by omega)) (by omega) _ _ hP hD hS ls (lv_sub hl [1, 0] rfl)
        exact LOOP_45 (32 - 0 + 1) 0 fi (fun _ => 0) (Nat.zero_le _) (fun j h => absurd h (Nat.not_lt_zero _)) (fun j _ => rfl) (Nat.lt_succ_self _) _ _ hP hD hS ls (lv_sub hl [1, 0] rfl)
      · skip
        have nc_1 : ¬ (nn ≤ zk) := fun h => c_1 ((nI_leI (a := nn) (b := zk) (by omega) (by omega)).mpr h)
        have hz8 : zk < nn := by omega
        have hnx9 := nxt_lt hz8
        refine lv_aload_n hx hb dX2_markPosts_13 rfl (lv_at hl 0 rfl) ?_
        refine va_get (D := D) (ci := 4) (v := .ref h1) (C := RX2) (T := TX2) (N := 5) hx hb hts (by decide +kernel) hown hK hP 0 rfl rfl 0 (by decide) (hts (.fieldLink RX2 21 "LandDeeds$Plot" "outline" "LLandDeeds$Outline;") (by decide +kernel)) (fun _ h9 => h9) rfl dX2_markPosts_14 ?_
        refine lv_iload_n hx hb dX2_markPosts_17 rfl (lv_at hl 1 rfl) ?_
        refine lv_aload_n hx hb dX2_markPosts_18 rfl (lv_at hl 0 rfl) ?_
        refine va_get (D := D) (ci := 4) (v := .ref qs) (C := RX2) (T := TX2) (N := 5) hx hb hts (by decide +kernel) hown hK hP 0 rfl rfl 3 (by decide) (hts (.fieldLink RX2 15 "LandDeeds$Plot" "sides" "[I") (by decide +kernel)) (fun _ h9 => h9) rfl dX2_markPosts_19 ?_
        have hPc := hP.sub (ws' := [(h1, .inr (3, [.ref ax, .ref ay, .int (nI nn)])), (ax, .inl (cI, nn, .inl X)), (ay, .inl (cI, nn, .inl Y)), (qs, .inl (cI, 32, .inl fs))]) [1, 2, 3, 5] rfl
        have hDc := hD.sub (ws' := [(h1, .inr (3, [.ref ax, .ref ay, .int (nI nn)])), (ax, .inl (cI, nn, .inl X)), (ay, .inl (cI, nn, .inl Y)), (qs, .inl (cI, 32, .inl fs))]) [1, 2, 3, 5] (by decide) rfl
        have hFc := va_free (wc := [(h1, .inr (3, [.ref ax, .ref ay, .int (nI nn)])), (ax, .inl (cI, nn, .inl X)), (ay, .inl (cI, nn, .inl Y)), (qs, .inl (cI, 32, .inl fs))]) hD hS hA [1, 2, 3, 5] rfl
        refine va_callv (va_runV (As := [.int (nI zk), .ref qs]) (rest := []) ⟨hx, hb, hml, hown, hts⟩ (c_X1_markPostsOn l D cI cB cZ cP H.size h1 ax ay nn X Y zk qs fs (hn8) (hz8) (hp _ hz8) (hp _ hnx9)) (cwV 2 hts gX2_markPosts_X1_markPostsOn rfl rfl rfl (by decide +kernel) ⟨Nat.le_of_ble_eq_true rfl, Nat.le_of_ble_eq_true rfl⟩) (pVQ (q0 := 0) hPc hDc hW0 EF.t rfl rfl) rfl rfl hl.1 rfl (lv_room (Nat.le_of_ble_eq_true rfl)) dX2_markPosts_22 ⟨Nat.le_of_ble_eq_true rfl, Nat.le_of_ble_eq_true rfl⟩) hS (fun q _ h => hFc q h) hFc (fun u t H1 locs ht hvm hw hB hz1 hk1 hS => ?_)
        obtain ⟨g_3, rfl⟩ : ∃ z, z = u := ⟨_, rfl⟩
        obtain ⟨hP1, hD1⟩ := hB
        rw [ht] at hP1
        have hw_3 : ∀ y, y < 32 → ∀ x, x < 32 → (bit (g_3 y) x ↔ bit (fs y) x ∨ ∃ z, z < mkg nn X Y zk ∧ mkx nn X Y zk z = nI x ∧ mky nn X Y zk z = nI y) := hw
        obtain ⟨hP, hD⟩ := va_join (wr := [(h0, .inr (4, [.ref h1, .ref sw, .ref qi, .ref qs, .ref qh])), (qi, .inl (cI, 32, .inl fi)), (qh, .inl (cI, 32, .inl (fun _ => 0)))]) (w1 := [(h1, .inr (3, [.ref ax, .ref ay, .int (nI nn)])), (ax, .inl (cI, nn, .inl X)), (ay, .inl (cI, nn, .inl Y)), (qs, .inl (cI, 32, .inl g_3))]) hP hD [1, 2, 3, 5] [0, 4, 6] rfl rfl (by decide) (by decide) hk1 hFc hP1 hD1
        generalize H1 = H at hP hS ⊢
        have hP := hP.sub (ws' := [(h0, .inr (4, [.ref h1, .ref sw, .ref qi, .ref qs, .ref qh])), (h1, .inr (3, [.ref ax, .ref ay, .int (nI nn)])), (ax, .inl (cI, nn, .inl X)), (ay, .inl (cI, nn, .inl Y)), (qi, .inl (cI, 32, .inl fi)), (qs, .inl (cI, 32, .inl g_3)), (qh, .inl (cI, 32, .inl (fun _ => 0)))]) [0, 3, 4, 5, 1, 6, 2] rfl
        have hD := hD.sub (ws' := [(h0, .inr (4, [.ref h1, .ref sw, .ref qi, .ref qs, .ref qh])), (h1, .inr (3, [.ref ax, .ref ay, .int (nI nn)])), (ax, .inl (cI, nn, .inl X)), (ay, .inl (cI, nn, .inl Y)), (qi, .inl (cI, 32, .inl fi)), (qs, .inl (cI, 32, .inl g_3)), (qh, .inl (cI, 32, .inl (fun _ => 0)))]) [0, 3, 4, 5, 1, 6, 2] (by decide) rfl
        by_cases hud : (Y zk).toInt < (Y (nxt nn zk)).toInt
        · skip
          refine lv_aload_n hx hb dX2_markPosts_25 rfl (lv_at hl 0 rfl) ?_
          refine va_get (D := D) (ci := 4) (v := .ref h1) (C := RX2) (T := TX2) (N := 5) hx hb hts (by decide +kernel) hown hK hP 0 rfl rfl 0 (by decide) (hts (.fieldLink RX2 21 "LandDeeds$Plot" "outline" "LLandDeeds$Outline;") (by decide +kernel)) (fun _ h9 => h9) rfl dX2_markPosts_26 ?_
          refine lv_iload_n hx hb dX2_markPosts_29 rfl (lv_at hl 1 rfl) ?_
          refine lv_aload_n hx hb dX2_markPosts_30 rfl (lv_at hl 0 rfl) ?_
          refine va_get (D := D) (ci := 4) (v := .ref qi) (C := RX2) (T := TX2) (N := 5) hx hb hts (by decide +kernel) hown hK hP 0 rfl rfl 2 (by decide) (hts (.fieldLink RX2 9 "LandDeeds$Plot" "inside" "[I") (by decide +kernel)) (fun _ h9 => h9) rfl dX2_markPosts_31 ?_
          have hPc := hP.sub (ws' := [(h1, .inr (3, [.ref ax, .ref ay, .int (nI nn)])), (ax, .inl (cI, nn, .inl X)), (ay, .inl (cI, nn, .inl Y)), (qi, .inl (cI, 32, .inl fi))]) [1, 2, 3, 4] rfl
          have hDc := hD.sub (ws' := [(h1, .inr (3, [.ref ax, .ref ay, .int (nI nn)])), (ax, .inl (cI, nn, .inl X)), (ay, .inl (cI, nn, .inl Y)), (qi, .inl (cI, 32, .inl fi))]) [1, 2, 3, 4] (by decide) rfl
          have hFc := va_free (wc := [(h1, .inr (3, [.ref ax, .ref ay, .int (nI nn)])), (ax, .inl (cI, nn, .inl X)), (ay, .inl (cI, nn, .inl Y)), (qi, .inl (cI, 32, .inl fi))]) hD hS hA [1, 2, 3, 4] rfl
          refine va_callv (va_runV (As := [.int (nI zk), .ref qi]) (rest := []) ⟨hx, hb, hml, hown, hts⟩ (c_X1_flipPostsWestOf_u l D cI cB cZ cP H.size h1 ax ay nn X Y zk qi fi (hn8) (hz8) (hp _ hz8) (hp _ hnx9) (hud)) (cwV 2 hts gX2_markPosts_X1_flipPostsWestOf rfl rfl rfl (by decide +kernel) ⟨Nat.le_of_ble_eq_true rfl, Nat.le_of_ble_eq_true rfl⟩) (pVQ (q0 := 0) hPc hDc hW0 EF.t rfl rfl) rfl rfl hl.1 rfl (lv_room (Nat.le_of_ble_eq_true rfl)) dX2_markPosts_34 ⟨Nat.le_of_ble_eq_true rfl, Nat.le_of_ble_eq_true rfl⟩) hS (fun q _ h => hFc q h) hFc (fun u t H1 locs ht hvm hw hB hz1 hk1 hS => ?_)
          obtain ⟨g_4, rfl⟩ : ∃ z, z = u := ⟨_, rfl⟩
          obtain ⟨hP1, hD1⟩ := hB
          rw [ht] at hP1
          have hw_4 : ∀ y, y < 32 → ∀ x, x < 32 → (bit (g_4 y) x ↔ ¬ (bit (fi y) x ↔ flp (X zk) (Y zk) (X (nxt nn zk)) (Y (nxt nn zk)) (flr (Y zk) (Y (nxt nn zk))) y x)) := hw
          obtain ⟨hP, hD⟩ := va_join (wr := [(h0, .inr (4, [.ref h1, .ref sw, .ref qi, .ref qs, .ref qh])), (qs, .inl (cI, 32, .inl g_3)), (qh, .inl (cI, 32, .inl (fun _ => 0)))]) (w1 := [(h1, .inr (3, [.ref ax, .ref ay, .int (nI nn)])), (ax, .inl (cI, nn, .inl X)), (ay, .inl (cI, nn, .inl Y)), (qi, .inl (cI, 32, .inl g_4))]) hP hD [1, 2, 3, 4] [0, 5, 6] rfl rfl (by decide) (by decide) hk1 hFc hP1 hD1
          generalize H1 = H at hP hS ⊢
          have hP := hP.sub (ws' := [(h0, .inr (4, [.ref h1, .ref sw, .ref qi, .ref qs, .ref qh])), (h1, .inr (3, [.ref ax, .ref ay, .int (nI nn)])), (ax, .inl (cI, nn, .inl X)), (ay, .inl (cI, nn, .inl Y)), (qi, .inl (cI, 32, .inl g_4)), (qs, .inl (cI, 32, .inl g_3)), (qh, .inl (cI, 32, .inl (fun _ => 0)))]) [0, 3, 4, 5, 6, 1, 2] rfl
          have hD := hD.sub (ws' := [(h0, .inr (4, [.ref h1, .ref sw, .ref qi, .ref qs, .ref qh])), (h1, .inr (3, [.ref ax, .ref ay, .int (nI nn)])), (ax, .inl (cI, nn, .inl X)), (ay, .inl (cI, nn, .inl Y)), (qi, .inl (cI, 32, .inl g_4)), (qs, .inl (cI, 32, .inl g_3)), (qh, .inl (cI, 32, .inl (fun _ => 0)))]) [0, 3, 4, 5, 6, 1, 2] (by decide) rfl
          refine lv_iinc (v := nI (zk + 1)) (lv' := [(1, .int (nI (zk + 1))), (0, .ref h0)]) hx hb dX2_markPosts_37 hl (k := 1) rfl (nI_1 _) (by decide) rfl (fun ls hl => ?_)
          refine lv_goto (tgt := 2) hx hb dX2_markPosts_40 (by decide) ?_
          exact ih_2 (zk + 1) g_4 g_3 (by omega) (rowF_u hF hud hw_4) (rowM_s hM hw_3) (by omega) _ _ hP hD hS ls (lv_sub hl [1, 0] rfl)
        · skip
          refine lv_aload_n hx hb dX2_markPosts_25 rfl (lv_at hl 0 rfl) ?_
          refine va_get (D := D) (ci := 4) (v := .ref h1) (C := RX2) (T := TX2) (N := 5) hx hb hts (by decide +kernel) hown hK hP 0 rfl rfl 0 (by decide) (hts (.fieldLink RX2 21 "LandDeeds$Plot" "outline" "LLandDeeds$Outline;") (by decide +kernel)) (fun _ h9 => h9) rfl dX2_markPosts_26 ?_
          refine lv_iload_n hx hb dX2_markPosts_29 rfl (lv_at hl 1 rfl) ?_
          refine lv_aload_n hx hb dX2_markPosts_30 rfl (lv_at hl 0 rfl) ?_
          refine va_get (D := D) (ci := 4) (v := .ref qi) (C := RX2) (T := TX2) (N := 5) hx hb hts (by decide +kernel) hown hK hP 0 rfl rfl 2 (by decide) (hts (.fieldLink RX2 9 "LandDeeds$Plot" "inside" "[I") (by decide +kernel)) (fun _ h9 => h9) rfl dX2_markPosts_31 ?_
          have hPc := hP.sub (ws' := [(h1, .inr (3, [.ref ax, .ref ay, .int (nI nn)])), (ax, .inl (cI, nn, .inl X)), (ay, .inl (cI, nn, .inl Y)), (qi, .inl (cI, 32, .inl fi))]) [1, 2, 3, 4] rfl
          have hDc := hD.sub (ws' := [(h1, .inr (3, [.ref ax, .ref ay, .int (nI nn)])), (ax, .inl (cI, nn, .inl X)), (ay, .inl (cI, nn, .inl Y)), (qi, .inl (cI, 32, .inl fi))]) [1, 2, 3, 4] (by decide) rfl
          have hFc := va_free (wc := [(h1, .inr (3, [.ref ax, .ref ay, .int (nI nn)])), (ax, .inl (cI, nn, .inl X)), (ay, .inl (cI, nn, .inl Y)), (qi, .inl (cI, 32, .inl fi))]) hD hS hA [1, 2, 3, 4] rfl
          refine va_callv (va_runV (As := [.int (nI zk), .ref qi]) (rest := []) ⟨hx, hb, hml, hown, hts⟩ (c_X1_flipPostsWestOf_d l D cI cB cZ cP H.size h1 ax ay nn X Y zk qi fi (hn8) (hz8) (hp _ hz8) (hp _ hnx9) (Int.not_lt.mp hud) (nxt_ne hn3 hz8)) (cwV 2 hts gX2_markPosts_X1_flipPostsWestOf rfl rfl rfl (by decide +kernel) ⟨Nat.le_of_ble_eq_true rfl, Nat.le_of_ble_eq_true rfl⟩) (pVQ (q0 := 0) hPc hDc hW0 EF.t rfl rfl) rfl rfl hl.1 rfl (lv_room (Nat.le_of_ble_eq_true rfl)) dX2_markPosts_34 ⟨Nat.le_of_ble_eq_true rfl, Nat.le_of_ble_eq_true rfl⟩) hS (fun q _ h => hFc q h) hFc (fun u t H1 locs ht hvm hw hB hz1 hk1 hS => ?_)
          obtain ⟨g_5, rfl⟩ : ∃ z, z = u := ⟨_, rfl⟩
          obtain ⟨hP1, hD1⟩ := hB
          rw [ht] at hP1
          have hw_5 : ∀ y, y < 32 → ∀ x, x < 32 → (bit (g_5 y) x ↔ ¬ (bit (fi y) x ↔ flp (X (nxt nn zk)) (Y (nxt nn zk)) (X zk) (Y zk) (flr (Y (nxt nn zk)) (Y zk)) y x)) := hw
          obtain ⟨hP, hD⟩ := va_join (wr := [(h0, .inr (4, [.ref h1, .ref sw, .ref qi, .ref qs, .ref qh])), (qs, .inl (cI, 32, .inl g_3)), (qh, .inl (cI, 32, .inl (fun _ => 0)))]) (w1 := [(h1, .inr (3, [.ref ax, .ref ay, .int (nI nn)])), (ax, .inl (cI, nn, .inl X)), (ay, .inl (cI, nn, .inl Y)), (qi, .inl (cI, 32, .inl g_5))]) hP hD [1, 2, 3, 4] [0, 5, 6] rfl rfl (by decide) (by decide) hk1 hFc hP1 hD1
          generalize H1 = H at hP hS ⊢
          have hP := hP.sub (ws' := [(h0, .inr (4, [.ref h1, .ref sw, .ref qi, .ref qs, .ref qh])), (h1, .inr (3, [.ref ax, .ref ay, .int (nI nn)])), (ax, .inl (cI, nn, .inl X)), (ay, .inl (cI, nn, .inl Y)), (qi, .inl (cI, 32, .inl g_5)), (qs, .inl (cI, 32, .inl g_3)), (qh, .inl (cI, 32, .inl (fun _ => 0)))]) [0, 3, 4, 5, 6, 1, 2] rfl
          have hD := hD.sub (ws' := [(h0, .inr (4, [.ref h1, .ref sw, .ref qi, .ref qs, .ref qh])), (h1, .inr (3, [.ref ax, .ref ay, .int (nI nn)])), (ax, .inl (cI, nn, .inl X)), (ay, .inl (cI, nn, .inl Y)), (qi, .inl (cI, 32, .inl g_5)), (qs, .inl (cI, 32, .inl g_3)), (qh, .inl (cI, 32, .inl (fun _ => 0)))]) [0, 3, 4, 5, 6, 1, 2] (by decide) rfl
          refine lv_iinc (v := nI (zk + 1)) (lv' := [(1, .int (nI (zk + 1))), (0, .ref h0)]) hx hb dX2_markPosts_37 hl (k := 1) rfl (nI_1 _) (by decide) rfl (fun ls hl => ?_)
          refine lv_goto (tgt := 2) hx hb dX2_markPosts_40 (by decide) ?_
          exact ih_2 (zk + 1) g_5 g_3 (by omega) (rowF_d hF hud hw_5) (rowM_s hM hw_3) (by omega) _ _ hP hD hS ls (lv_sub hl [1, 0] rfl)
  exact LOOP_2 (nn - 0 + 1) 0 (fun _ => 0) (fun _ => 0) (Nat.zero_le _) (rowF_0 _ _ _) (rowM_0 _ _ _) (Nat.lt_succ_self _) _ _ hP hD hS ls (lv_sub hl [1, 0] rfl)

set_option maxHeartbeats 4000000 in
set_option maxRecDepth 100000 in
theorem c_X2_of (l : Launch) (D : va_G) (cI cB cZ cP : ClassId) (sz : Nat) (tz1 tz2 : Nat) (h1 ax ay nn : Nat) (X Y : Nat → Int32) (hn8 : nn ≤ 8) (hn3 : 3 ≤ nn) (hp : ∀ z, z < nn → isP (X z) (Y z)) : Met l yX2_of wsX2_of ({ frames := 9, cells := 48, slots := 2995, locals := 195 } : Room) (va_Pc [.ref h1] (fun U => U.heap.size = sz ∧ va_P D vwCl [(h1, .inr (3, [.ref ax, .ref ay, .int (nI nn)])), (ax, .inl (cI, nn, .inl X)), (ay, .inl (cI, nn, .inl Y))] U.heap ∧ KW D cI cB cZ cP U ∧ va_D (fun _ => True) [(h1, .inr (3, [.ref ax, .ref ay, .int (nI nn)])), (ax, .inl (cI, nn, .inl X)), (ay, .inl (cI, nn, .inl Y))] ∧ EF [(h1, .inr (3, [.ref ax, .ref ay, .int (nI nn)])), (ax, .inl (cI, nn, .inl X)), (ay, .inl (cI, nn, .inl Y))] sz E0 U.heap ∧ ZZ tz1 tz2 (va_A [(h1, .inr (3, [.ref ax, .ref ay, .int (nI nn)])), (ax, .inl (cI, nn, .inl X)), (ay, .inl (cI, nn, .inl Y))] sz) U U.heap)) (va_Qr (fun (u : Nat × Nat × Nat × Nat × Nat × (Nat → Int32) × (Nat → Int32) × (Nat → Int32) × (Nat → Int32)) => match u with | (sw, qv, qi, qs, qh, g, fi, fs, fh) => rowIs g (wrt nn X Y nn) ∧ lat g ∧ plR nn X Y fi fs fh) (fun (u : Nat × Nat × Nat × Nat × Nat × (Nat → Int32) × (Nat → Int32) × (Nat → Int32) × (Nat → Int32)) (ra : Nat) (t : State) => match u with | (sw, qv, qi, qs, qh, g, fi, fs, fh) => va_P D vwCl [(h1, .inr (3, [.ref ax, .ref ay, .int (nI nn)])), (ax, .inl (cI, nn, .inl X)), (ay, .inl (cI, nn, .inl Y)), (ra, .inr (4, [.ref h1, .ref sw, .ref qi, .ref qs, .ref qh])), (sw, .inr (0, [.ref qv, .int 0, .int 0, .int 0])), (qv, .inl (cB, ((wrt nn X Y nn).length), .inl g)), (qi, .inl (cI, 32, .inl fi)), (qs, .inl (cI, 32, .inl fs)), (qh, .inl (cI, 32, .inl fh))] t.heap ∧ va_D (va_A [(h1, .inr (3, [.ref ax, .ref ay, .int (nI nn)])), (ax, .inl (cI, nn, .inl X)), (ay, .inl (cI, nn, .inl Y))] sz) [(h1, .inr (3, [.ref ax, .ref ay, .int (nI nn)])), (ax, .inl (cI, nn, .inl X)), (ay, .inl (cI, nn, .inl Y)), (ra, .inr (4, [.ref h1, .ref sw, .ref qi, .ref qs, .ref qh])), (sw, .inr (0, [.ref qv, .int 0, .int 0, .int 0])), (qv, .inl (cB, ((wrt nn X Y nn).length), .inl g)), (qi, .inl (cI, 32, .inl fi)), (qs, .inl (cI, 32, .inl fs)), (qh, .inl (cI, 32, .inl fh))]) (va_A [(h1, .inr (3, [.ref ax, .ref ay, .int (nI nn)])), (ax, .inl (cI, nn, .inl X)), (ay, .inl (cI, nn, .inl Y))] sz)) 48 2995 (va_A [(h1, .inr (3, [.ref ax, .ref ay, .int (nI nn)])), (ax, .inl (cI, nn, .inl X)), (ay, .inl (cI, nn, .inl Y))] sz) := by
  refine Met.ofW (cc := cX2_of) (maxL := 2) (ret := (some (.object "LandDeeds$Plot"))) (by decide) rfl ?_
  intro p e s m args below meth c s₁ B hml hv
  obtain ⟨rfl, hsz, hP, hW0, hD0, hE, hZ⟩ := hv
  have hx := B.exec
  have hb := B.bytes
  have hr := B.returns
  have hts := atoms_spec (ws := wsX2_of) B.pre
  have hown : s.vm.findClass RX2 = some m.cls := findClass_of_methodNamed B.named
  have hlocks := B.notSynchronized
  have hK := hW0.1
  subst hsz
  have hD := hD0.self (sz := s.heap.size)
  unfold EF at hE
  generalize hAe : va_A [(h1, .inr (3, [.ref ax, .ref ay, .int (nI nn)])), (ax, .inl (cI, nn, .inl X)), (ay, .inl (cI, nn, .inl Y))] s.heap.size = A at hD hE hZ ⊢
  have hA : ∀ q : Nat, s.heap.size ≤ q → A q := fun q h => by rw [← hAe]; exact Or.inr h
  have hS : va_S A s.heap s.heap [] := va_S.rf
  have hl := lv_entry ([.ref h1]) (n := 2) (Nat.le_of_ble_eq_true rfl)
  rw [lg_entry_eq]
  generalize (lg_sl ([.ref h1]) ++ List.replicate (2 - (lg_sl ([.ref h1])).length) Slot.unset).toArray = ls at hl ⊢
  have hl : lv_has ls 2 [(0, .ref h1)] := hl
  show W p l e ({ frames := 9, cells := 48, slots := 2995, locals := 195 } : Room) s m ([.ref h1] : List Value).toArray below meth c s.heap [] 0 0 _ (F0 m 0 ls [])
  refine u_genQ (fun Q hQ => ?_)
  refine va_new (ci := 4) (fs := [.null, .null, .null, .null, .null]) (C := RX2) (T := TX2) (N := 5) hx hb hts (by decide +kernel) tyX2 tyX2_ok hown (hts (.classLink RX2 10 RX2) (by decide +kernel)) (hts (.instantiable RX2 5) (by decide +kernel)) (hts (.initialized RX2) (by decide +kernel)) hK hP hD hS hA rfl (fun j hj => by rcases (show j = 0 ∨ j = 1 ∨ j = 2 ∨ j = 3 ∨ j = 4 by omega) with rfl | rfl | rfl | rfl | rfl <;> rfl) (Nat.le_of_ble_eq_true rfl) (Nat.le_of_ble_eq_true rfl) dX2_of_0 (fun q_1 H hP hD hS => ?_)
  have hP : va_P D vwCl [(h1, .inr (3, [.ref ax, .ref ay, .int (nI nn)])), (ax, .inl (cI, nn, .inl X)), (ay, .inl (cI, nn, .inl Y)), (q_1, .inr (4, [.null, .null, .null, .null, .null]))] H := hP
  have hD : va_D A [(h1, .inr (3, [.ref ax, .ref ay, .int (nI nn)])), (ax, .inl (cI, nn, .inl X)), (ay, .inl (cI, nn, .inl Y)), (q_1, .inr (4, [.null, .null, .null, .null, .null]))] := hD
  refine W.widen (k := 1) (n := 5) (Nat.le_of_ble_eq_true rfl) (Nat.le_of_ble_eq_true rfl) ?_
  refine lv_dup hx hb dX2_of_3 rfl ?_
  refine lv_aload_n hx hb dX2_of_4 rfl (lv_at hl 0 rfl) ?_
  have hPc := hP.sub (ws' := [(q_1, .inr (4, [.null, .null, .null, .null, .null])), (h1, .inr (3, [.ref ax, .ref ay, .int (nI nn)])), (ax, .inl (cI, nn, .inl X)), (ay, .inl (cI, nn, .inl Y))]) [3, 0, 1, 2] rfl
  have hDc := hD.sub (ws' := [(q_1, .inr (4, [.null, .null, .null, .null, .null])), (h1, .inr (3, [.ref ax, .ref ay, .int (nI nn)])), (ax, .inl (cI, nn, .inl X)), (ay, .inl (cI, nn, .inl Y))]) [3, 0, 1, 2] (by decide) rfl
  have hFc := va_free (wc := [(q_1, .inr (4, [.null, .null, .null, .null, .null])), (h1, .inr (3, [.ref ax, .ref ay, .int (nI nn)])), (ax, .inl (cI, nn, .inl X)), (ay, .inl (cI, nn, .inl Y))]) hD hS hA [3, 0, 1, 2] rfl
  refine va_callv (va_runI (As := [.ref h1]) (rest := [.ref q_1]) ⟨hx, hb, hml, hown, hts⟩ (c_X2_init l D cI cB cZ cP H.size tz1 tz2 q_1 h1 ax ay nn X Y (by first | assumption | omega) (by first | assumption | omega)) (cwI 1 hts gX2_of_X2_init rfl rfl rfl (hts (.initialized RX2) (by decide +kernel)) (hts (.methodLink RX2 35 yX2_init) (by decide +kernel)) (hts (.instanceMethod yX2_init) (by decide +kernel)) rfl (by decide +kernel) ⟨Nat.le_of_ble_eq_true rfl, Nat.le_of_ble_eq_true rfl⟩) (pSQZ hPc hDc hW0 EF.t (hZ.to hS.2.1 hFc)) rfl rfl hl.1 rfl (lv_room (Nat.le_of_ble_eq_true rfl)) dX2_of_5 ⟨Nat.le_of_ble_eq_true rfl, Nat.le_of_ble_eq_true rfl⟩) hS (fun q _ h => hFc q h) hFc (fun u t H1 locs ht hvm hw hB hz1 hk1 hS => ?_)
  obtain ⟨sw_2, qv_2, qi_2, qs_2, qh_2, g_2⟩ := u
  obtain ⟨hP1, hD1⟩ := hB
  rw [ht] at hP1
  have hw_2 : rowIs g_2 (wrt nn X Y nn) ∧ lat g_2 := hw
  obtain ⟨hP, hD⟩ := va_join (wr := []) (w1 := [(q_1, .inr (4, [.ref h1, .ref sw_2, .ref qi_2, .ref qs_2, .ref qh_2])), (h1, .inr (3, [.ref ax, .ref ay, .int (nI nn)])), (ax, .inl (cI, nn, .inl X)), (ay, .inl (cI, nn, .inl Y)), (sw_2, .inr (0, [.ref qv_2, .int 0, .int 0, .int 0])), (qv_2, .inl (cB, ((wrt nn X Y nn).length), .inl g_2)), (qi_2, .inl (cI, 32, .inl (fun _ => 0))), (qs_2, .inl (cI, 32, .inl (fun _ => 0))), (qh_2, .inl (cI, 32, .inl (fun _ => 0)))]) hP hD [3, 0, 1, 2] [] rfl rfl (by decide) (by decide) hk1 hFc hP1 hD1
  generalize H1 = H at hP hS ⊢
  have hP := hP.sub (ws' := [(h1, .inr (3, [.ref ax, .ref ay, .int (nI nn)])), (ax, .inl (cI, nn, .inl X)), (ay, .inl (cI, nn, .inl Y)), (q_1, .inr (4, [.ref h1, .ref sw_2, .ref qi_2, .ref qs_2, .ref qh_2])), (sw_2, .inr (0, [.ref qv_2, .int 0, .int 0, .int 0])), (qv_2, .inl (cB, ((wrt nn X Y nn).length), .inl g_2)), (qi_2, .inl (cI, 32, .inl (fun _ => 0))), (qs_2, .inl (cI, 32, .inl (fun _ => 0))), (qh_2, .inl (cI, 32, .inl (fun _ => 0)))]) [1, 2, 3, 0, 4, 5, 6, 7, 8] rfl
  have hD := hD.sub (ws' := [(h1, .inr (3, [.ref ax, .ref ay, .int (nI nn)])), (ax, .inl (cI, nn, .inl X)), (ay, .inl (cI, nn, .inl Y)), (q_1, .inr (4, [.ref h1, .ref sw_2, .ref qi_2, .ref qs_2, .ref qh_2])), (sw_2, .inr (0, [.ref qv_2, .int 0, .int 0, .int 0])), (qv_2, .inl (cB, ((wrt nn X Y nn).length), .inl g_2)), (qi_2, .inl (cI, 32, .inl (fun _ => 0))), (qs_2, .inl (cI, 32, .inl (fun _ => 0))), (qh_2, .inl (cI, 32, .inl (fun _ => 0)))]) [1, 2, 3, 0, 4, 5, 6, 7, 8] (by decide) rfl
  refine lv_astore_n (lv' := [(1, .ref q_1), (0, .ref h1)]) hx hb dX2_of_8 rfl hl (by decide) rfl (fun ls hl => ?_)
  refine lv_aload_n hx hb dX2_of_9 rfl (lv_at hl 0 rfl) ?_
  have hPc := hP.sub (ws' := [(q_1, .inr (4, [.ref h1, .ref sw_2, .ref qi_2, .ref qs_2, .ref qh_2])), (h1, .inr (3, [.ref ax, .ref ay, .int (nI nn)])), (ax, .inl (cI, nn, .inl X)), (ay, .inl (cI, nn, .inl Y)), (qi_2, .inl (cI, 32, .inl (fun _ => 0))), (qs_2, .inl (cI, 32, .inl (fun _ => 0))), (qh_2, .inl (cI, 32, .inl (fun _ => 0)))]) [3, 0, 1, 2, 6, 7, 8] rfl
  have hDc := hD.sub (ws' := [(q_1, .inr (4, [.ref h1, .ref sw_2, .ref qi_2, .ref qs_2, .ref qh_2])), (h1, .inr (3, [.ref ax, .ref ay, .int (nI nn)])), (ax, .inl (cI, nn, .inl X)), (ay, .inl (cI, nn, .inl Y)), (qi_2, .inl (cI, 32, .inl (fun _ => 0))), (qs_2, .inl (cI, 32, .inl (fun _ => 0))), (qh_2, .inl (cI, 32, .inl (fun _ => 0)))]) [3, 0, 1, 2, 6, 7, 8] (by decide) rfl
  have hFc := va_free (wc := [(q_1, .inr (4, [.ref h1, .ref sw_2, .ref qi_2, .ref qs_2, .ref qh_2])), (h1, .inr (3, [.ref ax, .ref ay, .int (nI nn)])), (ax, .inl (cI, nn, .inl X)), (ay, .inl (cI, nn, .inl Y)), (qi_2, .inl (cI, 32, .inl (fun _ => 0))), (qs_2, .inl (cI, 32, .inl (fun _ => 0))), (qh_2, .inl (cI, 32, .inl (fun _ => 0)))]) hD hS hA [3, 0, 1, 2, 6, 7, 8] rfl
  refine va_callv (va_runV (As := []) (rest := []) ⟨hx, hb, hml, hown, hts⟩ (c_X2_markPosts l D cI cB cZ cP H.size q_1 h1 ax ay nn sw_2 qi_2 qs_2 qh_2 X Y (by first | assumption | omega) (by first | assumption | omega) (by first | assumption | omega)) (cwV 0 hts gX2_of_X2_markPosts rfl rfl rfl (by decide +kernel) ⟨Nat.le_of_ble_eq_true rfl, Nat.le_of_ble_eq_true rfl⟩) (pVQ (q0 := 0) hPc hDc hW0 EF.t rfl rfl) rfl rfl hl.1 rfl (lv_room (Nat.le_of_ble_eq_true rfl)) dX2_of_10 ⟨Nat.le_of_ble_eq_true rfl, Nat.le_of_ble_eq_true rfl⟩) hS (fun q _ h => hFc q h) hFc (fun u t H1 locs ht hvm hw hB hz1 hk1 hS => ?_)
  obtain ⟨fi_3, fs_3, fh_3⟩ := u
  obtain ⟨hP1, hD1⟩ := hB
  rw [ht] at hP1
  have hw_3 : plR nn X Y fi_3 fs_3 fh_3 := hw
  obtain ⟨hP, hD⟩ := va_join (wr := [(sw_2, .inr (0, [.ref qv_2, .int 0, .int 0, .int 0])), (qv_2, .inl (cB, ((wrt nn X Y nn).length), .inl g_2))]) (w1 := [(q_1, .inr (4, [.ref h1, .ref sw_2, .ref qi_2, .ref qs_2, .ref qh_2])), (h1, .inr (3, [.ref ax, .ref ay, .int (nI nn)])), (ax, .inl (cI, nn, .inl X)), (ay, .inl (cI, nn, .inl Y)), (qi_2, .inl (cI, 32, .inl fi_3)), (qs_2, .inl (cI, 32, .inl fs_3)), (qh_2, .inl (cI, 32, .inl fh_3))]) hP hD [3, 0, 1, 2, 6, 7, 8] [4, 5] rfl rfl (by decide) (by decide) hk1 hFc hP1 hD1
  generalize H1 = H at hP hS ⊢
  have hP := hP.sub (ws' := [(h1, .inr (3, [.ref ax, .ref ay, .int (nI nn)])), (ax, .inl (cI, nn, .inl X)), (ay, .inl (cI, nn, .inl Y)), (q_1, .inr (4, [.ref h1, .ref sw_2, .ref qi_2, .ref qs_2, .ref qh_2])), (sw_2, .inr (0, [.ref qv_2, .int 0, .int 0, .int 0])), (qv_2, .inl (cB, ((wrt nn X Y nn).length), .inl g_2)), (qi_2, .inl (cI, 32, .inl fi_3)), (qs_2, .inl (cI, 32, .inl fs_3)), (qh_2, .inl (cI, 32, .inl fh_3))]) [3, 4, 5, 2, 0, 1, 6, 7, 8] rfl
  have hD := hD.sub (ws' := [(h1, .inr (3, [.ref ax, .ref ay, .int (nI nn)])), (ax, .inl (cI, nn, .inl X)), (ay, .inl (cI, nn, .inl Y)), (q_1, .inr (4, [.ref h1, .ref sw_2, .ref qi_2, .ref qs_2, .ref qh_2])), (sw_2, .inr (0, [.ref qv_2, .int 0, .int 0, .int 0])), (qv_2, .inl (cB, ((wrt nn X Y nn).length), .inl g_2)), (qi_2, .inl (cI, 32, .inl fi_3)), (qs_2, .inl (cI, 32, .inl fs_3)), (qh_2, .inl (cI, 32, .inl fh_3))]) [3, 4, 5, 2, 0, 1, 6, 7, 8] (by decide) rfl
  refine lv_aload_n hx hb dX2_of_13 rfl (lv_at hl 0 rfl) ?_
  rw [← hQ]
  have hP9 := hP
  have hD9 := hD
  have hP9 := hP9.sub (ws' := [(h1, .inr (3, [.ref ax, .ref ay, .int (nI nn)])), (ax, .inl (cI, nn, .inl X)), (ay, .inl (cI, nn, .inl Y)), (q_1, .inr (4, [.ref h1, .ref sw_2, .ref qi_2, .ref qs_2, .ref qh_2])), (sw_2, .inr (0, [.ref qv_2, .int 0, .int 0, .int 0])), (qv_2, .inl (cB, ((wrt nn X Y nn).length), .inl g_2)), (qi_2, .inl (cI, 32, .inl fi_3)), (qs_2, .inl (cI, 32, .inl fs_3)), (qh_2, .inl (cI, 32, .inl fh_3))]) [0, 1, 2, 3, 4, 5, 6, 7, 8] rfl
  have hD9 := hD9.sub (ws' := [(h1, .inr (3, [.ref ax, .ref ay, .int (nI nn)])), (ax, .inl (cI, nn, .inl X)), (ay, .inl (cI, nn, .inl Y)), (q_1, .inr (4, [.ref h1, .ref sw_2, .ref qi_2, .ref qs_2, .ref qh_2])), (sw_2, .inr (0, [.ref qv_2, .int 0, .int 0, .int 0])), (qv_2, .inl (cB, ((wrt nn X Y nn).length), .inl g_2)), (qi_2, .inl (cI, 32, .inl fi_3)), (qs_2, .inl (cI, 32, .inl fs_3)), (qh_2, .inl (cI, 32, .inl fh_3))]) [0, 1, 2, 3, 4, 5, 6, 7, 8] (by decide) rfl
  exact W.aret (v := .ref q_1) hx hb hr (Or.inl ⟨_, rfl⟩) (Or.inr ⟨_, rfl⟩) (fun t ht hW => ⟨⟨(sw_2, qv_2, qi_2, qs_2, qh_2, g_2, fi_3, fs_3, fh_3), q_1, rfl, ⟨hw_2.1, hw_2.2, hw_3⟩, by rw [ht]; exact hP9, hD9⟩, hS.F ht⟩) hS.2.2 dX2_of_14

