set_option maxHeartbeats 4000000 in
set_option maxRecDepth 100000 in
theorem c_X7_lies (l : Launch) (D : va_G) (cI cB cZ cP : ClassId) (sz : Nat) (a : Nat → Nat) (v : Nat → Int32) (su sl : Int64) (F : Nat → Nat → Int32) (kk : Nat) (pn : Nat → Nat) (x0 x y : Int32) (hSM : stM (F 1) kk pn) : Met l yX7_lies wsX7_lies ({ frames := 5, cells := 0, slots := 0, locals := 118 } : Room) (va_Pc [.ref (a 0), .int x0, .int x, .int y] (fun U => U.heap.size = sz ∧ va_P D vwCl (MW cI cZ a v su sl F) U.heap ∧ KW D cI cB cZ cP U ∧ va_D (fun _ => True) (MW cI cZ a v su sl F) ∧ EF (MW cI cZ a v su sl F) sz E0 U.heap)) (va_Qi (fun r (u : (Nat → Int32) × Int64 × Int64 × (Nat → Nat → Int32)) => match u with | (v1, su1, sl1, F1) => r = aLies kk pn (pX (F 1)) (pY (F 1)) x0 x y ∧ keepM v F v1 F1) (fun (u : (Nat → Int32) × Int64 × Int64 × (Nat → Nat → Int32)) (t : State) => match u with | (v1, su1, sl1, F1) => va_P D vwCl (MW cI cZ a v1 su1 sl1 F1) t.heap ∧ va_D (va_A (MW cI cZ a v su sl F) sz) (MW cI cZ a v1 su1 sl1 F1)) (va_A (MW cI cZ a v su sl F) sz)) 0 0 (va_A (MW cI cZ a v su sl F) sz) := by
  refine Met.ofW (cc := cX7_lies) (maxL := 4) (ret := (some .int)) (by decide) rfl ?_
  intro p e s m args below meth c s₁ B hml hv
  obtain ⟨rfl, hsz, hP, hW0, hD0, hE⟩ := hv
  have hx := B.exec
  have hb := B.bytes
  have hr := B.returns
  have hts := atoms_spec (ws := wsX7_lies) B.pre
  have hown : s.vm.findClass RX7 = some m.cls := findClass_of_methodNamed B.named
  have hlocks := B.notSynchronized
  have hK := hW0.1
  subst hsz
  have hD := hD0.self (sz := s.heap.size)
  unfold EF at hE
  generalize hAe : va_A (MW cI cZ a v su sl F) s.heap.size = A at hD hE ⊢
  have hA : ∀ q : Nat, s.heap.size ≤ q → A q := fun q h => by rw [← hAe]; exact Or.inr h
  have hS : va_S A s.heap s.heap [] := va_S.rf
  have hl := lv_entry ([.ref (a 0), .int x0, .int x, .int y]) (n := 4) (Nat.le_of_ble_eq_true rfl)
  rw [lg_entry_eq]
  generalize (lg_sl ([.ref (a 0), .int x0, .int x, .int y]) ++ List.replicate (4 - (lg_sl ([.ref (a 0), .int x0, .int x, .int y])).length) Slot.unset).toArray = ls at hl ⊢
  have hl : lv_has ls 4 [(0, .ref (a 0)), (1, .int x0), (2, .int x), (3, .int y)] := hl
  show W p l e ({ frames := 5, cells := 0, slots := 0, locals := 118 } : Room) s m ([.ref (a 0), .int x0, .int x, .int y] : List Value).toArray below meth c s.heap [] 0 0 _ (F0 m 0 ls [])
  refine u_genQ (fun Q hQ => ?_)
  obtain ⟨hs1, hs2, hs3⟩ := id hSM
  refine lv_aload_n hx hb dX7_lies_0 rfl (lv_at hl 0 rfl) ?_
  refine lv_iload_n hx hb dX7_lies_1 rfl (lv_at hl 1 rfl) ?_
  have hPc := hP
  refine u_callSi (W.runV (As := [.int x0]) (rest := []) ⟨hx, hb, hml, hown, hts⟩ (c_X7_isPlot l D cI cB cZ cP a v su sl F x0 kk (hs2) (hs1)) (cwV 1 hts gX7_lies_X7_isPlot rfl rfl rfl (by decide +kernel) ⟨Nat.le_of_ble_eq_true rfl, Nat.le_of_ble_eq_true rfl⟩) (pV (q0 := 0) hPc hW0 trivial rfl rfl) rfl rfl hl.1 rfl (lv_room (Nat.le_of_ble_eq_true rfl)) dX7_lies_2 ⟨Nat.le_of_ble_eq_true rfl, Nat.le_of_ble_eq_true rfl⟩) ?_
  refine lv_if_ne (tgt := 10) hx hb dX7_lies_5 (by decide) (fun c_1 => ?_) (fun c_1 => ?_)
  · skip
    have nc_1 := zb_ne0.mp c_1
    obtain ⟨pp, hpp, epp, xpp⟩ := inP_nat nc_1 (by omega)
    rw [epp] at hl
    refine lv_iload_n hx hb dX7_lies_10 rfl (lv_at hl 2 rfl) ?_
    refine lv_iload_n hx hb dX7_lies_11 rfl (lv_at hl 3 rfl) ?_
    have hPc := hP.sub (ws' := []) [] rfl
    refine u_callSi (W.runS (As := [.int x, .int y]) (rest := []) ⟨hx, hb, hml, hown, hts⟩ (c_X7_isPost l D cI cB cZ cP x y ) (cwS 2 hts gX7_lies_X7_isPost rfl rfl rfl (by decide +kernel) ⟨Nat.le_of_ble_eq_true rfl, Nat.le_of_ble_eq_true rfl⟩) (pS hPc hW0 trivial) rfl rfl hl.1 rfl (lv_room (Nat.le_of_ble_eq_true rfl)) dX7_lies_12 ⟨Nat.le_of_ble_eq_true rfl, Nat.le_of_ble_eq_true rfl⟩) ?_
    refine lv_if_ne (tgt := 21) hx hb dX7_lies_15 (by decide) (fun c_2 => ?_) (fun c_2 => ?_)
    · skip
      have nc_2 := zb_ne0.mp c_2
      refine lv_aload_n hx hb dX7_lies_21 rfl (lv_at hl 0 rfl) ?_
      refine lv_iload_n hx hb dX7_lies_22 rfl (lv_at hl 1 rfl) ?_
      have hPc := hP
      have hDc := hD
      have hFc := va_free (wc := (MW cI cZ a v su sl F)) hD hS hA [0, 1, 2, 3, 4, 5, 6, 7, 8, 9, 10, 11, 12] rfl
      refine va_callv (va_runV (As := [.int (nI pp)]) (rest := []) ⟨hx, hb, hml, hown, hts⟩ (c_X7_look l D cI cB cZ cP s.heap.size a v su sl F pp (pn pp) (by omega) ((hs3 pp hpp).2) ((hs3 pp hpp).1)) (cwV 1 hts gX7_lies_X7_look rfl rfl rfl (by decide +kernel) ⟨Nat.le_of_ble_eq_true rfl, Nat.le_of_ble_eq_true rfl⟩) (pVQ (q0 := 0) hPc hDc hW0 EF.t rfl rfl) rfl rfl hl.1 rfl (lv_room (Nat.le_of_ble_eq_true rfl)) dX7_lies_23 ⟨Nat.le_of_ble_eq_true rfl, Nat.le_of_ble_eq_true rfl⟩) hS (fun q _ h => hFc q h) hFc (fun u t H1 locs ht hvm hw hB hz1 hk1 hS => ?_)
      obtain ⟨X1_3, Y1_3⟩ := u
      obtain ⟨hP1, hD1⟩ := hB
      rw [ht] at hP1
      have hw_3 : ∀ j, j < (pn pp) → X1_3 j = pX (F 1) pp j ∧ Y1_3 j = pY (F 1) pp j := hw
      obtain ⟨hP, hD⟩ := va_join (wr := []) (w1 := (MW cI cZ a (upd v 7 (nI (pn pp))) su sl (updF (updF F 7 X1_3) 8 Y1_3))) hP hD [0, 1, 2, 3, 4, 5, 6, 7, 8, 9, 10, 11, 12] [] rfl rfl (by decide) (by decide) hk1 hFc hP1 hD1
      generalize H1 = H at hP hS ⊢
      have hP : va_P D vwCl (MW cI cZ a (upd v 7 (nI (pn pp))) su sl (updF (updF F 7 X1_3) 8 Y1_3)) H := hP
      have hD : va_D A (MW cI cZ a (upd v 7 (nI (pn pp))) su sl (updF (updF F 7 X1_3) 8 Y1_3)) := hD
      have hLK_pp : ∀ j, j < pn pp → X1_3 j = pX (F 1) pp j ∧ Y1_3 j = pY (F 1) pp j := hw_3
      have h8_pp := (hs3 pp hpp).2
      refine lv_aload_n hx hb dX7_lies_26 rfl (lv_at hl 0 rfl) ?_
      refine lv_iload_n hx hb dX7_lies_27 rfl (lv_at hl 2 rfl) ?_
      refine lv_iload_n hx hb dX7_lies_28 rfl (lv_at hl 3 rfl) ?_
      have hPc := hP
      refine u_callSi (W.runV (As := [.int x, .int y]) (rest := []) ⟨hx, hb, hml, hown, hts⟩ (c_X7_liesNow l D cI cB cZ cP a v su sl F (pn pp) X1_3 Y1_3 x y (by first | assumption | omega)) (cwV 2 hts gX7_lies_X7_liesNow rfl rfl rfl (by decide +kernel) ⟨Nat.le_of_ble_eq_true rfl, Nat.le_of_ble_eq_true rfl⟩) (pV (q0 := 0) hPc hW0 trivial rfl rfl) rfl rfl hl.1 rfl (lv_room (Nat.le_of_ble_eq_true rfl)) dX7_lies_29 ⟨Nat.le_of_ble_eq_true rfl, Nat.le_of_ble_eq_true rfl⟩) ?_
      rw [← hQ]
      have hP9 := hP
      have hD9 := hD
      exact W.iret (v := nI (lies (pn pp) X1_3 Y1_3 x y)) hx hb hr (fun t ht hW => ⟨⟨_, (upd v 7 (nI (pn pp)), su, sl, updF (updF F 7 X1_3) 8 Y1_3), rfl, ⟨by rw [show aLies kk pn (pX (F 1)) (pY (F 1)) x0 x y = _ from (cif_t nc_1).trans (cif_t nc_2), xpp, ← lies_congr hLK_pp], ⟨rfl, rfl, rfl, rfl, rfl⟩⟩, by rw [ht]; exact hP9, hD9⟩, hS.F ht⟩) hS.2.2 dX7_lies_32
    · skip
      have nc_2 := zb_eq0.mp c_2
      refine lv_bipush (v := (-2)) hx hb dX7_lies_18 (by decide) ?_
      rw [← hQ]
      have hP9 := hP
      have hD9 := hD
      exact W.iret (v := (-2)) hx hb hr (fun t ht hW => ⟨⟨_, (v, su, sl, F), rfl, ⟨((cif_t nc_1).trans (cif_f nc_2)).symm, ⟨rfl, rfl, rfl, rfl, rfl⟩⟩, by rw [ht]; exact hP9, hD9⟩, hS.F ht⟩) hS.2.2 dX7_lies_20
  · skip
    have nc_1 := zb_eq0.mp c_1
    refine lv_iconst (v := (-1)) hx hb dX7_lies_8 (by decide) ?_
    rw [← hQ]
    have hP9 := hP
    have hD9 := hD
    exact W.iret (v := (-1)) hx hb hr (fun t ht hW => ⟨⟨_, (v, su, sl, F), rfl, ⟨(cif_f nc_1).symm, ⟨rfl, rfl, rfl, rfl, rfl⟩⟩, by rw [ht]; exact hP9, hD9⟩, hS.F ht⟩) hS.2.2 dX7_lies_9

set_option maxHeartbeats 4000000 in
set_option maxRecDepth 100000 in
theorem c_X7_corner (l : Launch) (D : va_G) (cI cB cZ cP : ClassId) (sz : Nat) (a : Nat → Nat) (v : Nat → Int32) (su sl : Int64) (F : Nat → Nat → Int32) (kk : Nat) (pn : Nat → Nat) (x0 x y : Int32) (hSM : stM (F 1) kk pn) : Met l yX7_corner wsX7_corner ({ frames := 2, cells := 0, slots := 0, locals := 43 } : Room) (va_Pc [.ref (a 0), .int x0, .int x, .int y] (fun U => U.heap.size = sz ∧ va_P D vwCl (MW cI cZ a v su sl F) U.heap ∧ KW D cI cB cZ cP U ∧ va_D (fun _ => True) (MW cI cZ a v su sl F) ∧ EF (MW cI cZ a v su sl F) sz E0 U.heap)) (va_Qi (fun r (u : (Nat → Int32) × Int64 × Int64 × (Nat → Nat → Int32)) => match u with | (v1, su1, sl1, F1) => r = aCorner kk pn (pX (F 1)) (pY (F 1)) x0 x y ∧ keepM v F v1 F1) (fun (u : (Nat → Int32) × Int64 × Int64 × (Nat → Nat → Int32)) (t : State) => match u with | (v1, su1, sl1, F1) => va_P D vwCl (MW cI cZ a v1 su1 sl1 F1) t.heap ∧ va_D (va_A (MW cI cZ a v su sl F) sz) (MW cI cZ a v1 su1 sl1 F1)) (va_A (MW cI cZ a v su sl F) sz)) 0 0 (va_A (MW cI cZ a v su sl F) sz) := by
  refine Met.ofW (cc := cX7_corner) (maxL := 4) (ret := (some .int)) (by decide) rfl ?_
  intro p e s m args below meth c s₁ B hml hv
  obtain ⟨rfl, hsz, hP, hW0, hD0, hE⟩ := hv
  have hx := B.exec
  have hb := B.bytes
  have hr := B.returns
  have hts := atoms_spec (ws := wsX7_corner) B.pre
  have hown : s.vm.findClass RX7 = some m.cls := findClass_of_methodNamed B.named
  have hlocks := B.notSynchronized
  have hK := hW0.1
  subst hsz
  have hD := hD0.self (sz := s.heap.size)
  unfold EF at hE
  generalize hAe : va_A (MW cI cZ a v su sl F) s.heap.size = A at hD hE ⊢
  have hA : ∀ q : Nat, s.heap.size ≤ q → A q := fun q h => by rw [← hAe]; exact Or.inr h
  have hS : va_S A s.heap s.heap [] := va_S.rf
  have hl := lv_entry ([.ref (a 0), .int x0, .int x, .int y]) (n := 4) (Nat.le_of_ble_eq_true rfl)
  rw [lg_entry_eq]
  generalize (lg_sl ([.ref (a 0), .int x0, .int x, .int y]) ++ List.replicate (4 - (lg_sl ([.ref (a 0), .int x0, .int x, .int y])).length) Slot.unset).toArray = ls at hl ⊢
  have hl : lv_has ls 4 [(0, .ref (a 0)), (1, .int x0), (2, .int x), (3, .int y)] := hl
  show W p l e ({ frames := 2, cells := 0, slots := 0, locals := 43 } : Room) s m ([.ref (a 0), .int x0, .int x, .int y] : List Value).toArray below meth c s.heap [] 0 0 _ (F0 m 0 ls [])
  refine u_genQ (fun Q hQ => ?_)
  obtain ⟨hs1, hs2, hs3⟩ := id hSM
  refine lv_aload_n hx hb dX7_corner_0 rfl (lv_at hl 0 rfl) ?_
  refine lv_iload_n hx hb dX7_corner_1 rfl (lv_at hl 1 rfl) ?_
  have hPc := hP
  refine u_callSi (W.runV (As := [.int x0]) (rest := []) ⟨hx, hb, hml, hown, hts⟩ (c_X7_isPlot l D cI cB cZ cP a v su sl F x0 kk (hs2) (hs1)) (cwV 1 hts gX7_corner_X7_isPlot rfl rfl rfl (by decide +kernel) ⟨Nat.le_of_ble_eq_true rfl, Nat.le_of_ble_eq_true rfl⟩) (pV (q0 := 0) hPc hW0 trivial rfl rfl) rfl rfl hl.1 rfl (lv_room (Nat.le_of_ble_eq_true rfl)) dX7_corner_2 ⟨Nat.le_of_ble_eq_true rfl, Nat.le_of_ble_eq_true rfl⟩) ?_
  refine lv_if_ne (tgt := 10) hx hb dX7_corner_5 (by decide) (fun c_1 => ?_) (fun c_1 => ?_)
  · skip
    have nc_1 := zb_ne0.mp c_1
    obtain ⟨pp, hpp, epp, xpp⟩ := inP_nat nc_1 (by omega)
    rw [epp] at hl
    refine lv_iload_n hx hb dX7_corner_10 rfl (lv_at hl 3 rfl) ?_
    refine lv_iconst (v := 0) hx hb dX7_corner_11 (by decide) ?_
    refine lv_iconst (v := 1) hx hb dX7_corner_12 (by decide) ?_
    have hPc := hP.sub (ws' := []) [] rfl
    refine u_callSi (W.runS (As := [.int y, .int 0, .int 1]) (rest := []) ⟨hx, hb, hml, hown, hts⟩ (c_X7_in l D cI cB cZ cP y 0 1 ) (cwS 3 hts gX7_corner_X7_in rfl rfl rfl (by decide +kernel) ⟨Nat.le_of_ble_eq_true rfl, Nat.le_of_ble_eq_true rfl⟩) (pS hPc hW0 trivial) rfl rfl hl.1 rfl (lv_room (Nat.le_of_ble_eq_true rfl)) dX7_corner_13 ⟨Nat.le_of_ble_eq_true rfl, Nat.le_of_ble_eq_true rfl⟩) ?_
    refine lv_if_ne (tgt := 22) hx hb dX7_corner_16 (by decide) (fun c_2 => ?_) (fun c_2 => ?_)
    · skip
      have nc_2 := zb_ne0.mp c_2
      have hw9 : 0 ≤ y.toInt ∧ y.toInt ≤ 1 := by have h9 := nc_2; rw [li_0, li_1] at h9; exact h9
      refine lv_aload_n hx hb dX7_corner_22 rfl (lv_at hl 0 rfl) ?_
      refine lv_iload_n hx hb dX7_corner_23 rfl (lv_at hl 1 rfl) ?_
      have hPc := hP
      have hDc := hD
      have hFc := va_free (wc := (MW cI cZ a v su sl F)) hD hS hA [0, 1, 2, 3, 4, 5, 6, 7, 8, 9, 10, 11, 12] rfl
      refine va_callv (va_runV (As := [.int (nI pp)]) (rest := []) ⟨hx, hb, hml, hown, hts⟩ (c_X7_look l D cI cB cZ cP s.heap.size a v su sl F pp (pn pp) (by omega) ((hs3 pp hpp).2) ((hs3 pp hpp).1)) (cwV 1 hts gX7_corner_X7_look rfl rfl rfl (by decide +kernel) ⟨Nat.le_of_ble_eq_true rfl, Nat.le_of_ble_eq_true rfl⟩) (pVQ (q0 := 0) hPc hDc hW0 EF.t rfl rfl) rfl rfl hl.1 rfl (lv_room (Nat.le_of_ble_eq_true rfl)) dX7_corner_24 ⟨Nat.le_of_ble_eq_true rfl, Nat.le_of_ble_eq_true rfl⟩) hS (fun q _ h => hFc q h) hFc (fun u t H1 locs ht hvm hw hB hz1 hk1 hS => ?_)
      obtain ⟨X1_3, Y1_3⟩ := u
      obtain ⟨hP1, hD1⟩ := hB
      rw [ht] at hP1
      have hw_3 : ∀ j, j < (pn pp) → X1_3 j = pX (F 1) pp j ∧ Y1_3 j = pY (F 1) pp j := hw
      obtain ⟨hP, hD⟩ := va_join (wr := []) (w1 := (MW cI cZ a (upd v 7 (nI (pn pp))) su sl (updF (updF F 7 X1_3) 8 Y1_3))) hP hD [0, 1, 2, 3, 4, 5, 6, 7, 8, 9, 10, 11, 12] [] rfl rfl (by decide) (by decide) hk1 hFc hP1 hD1
      generalize H1 = H at hP hS ⊢
      have hP : va_P D vwCl (MW cI cZ a (upd v 7 (nI (pn pp))) su sl (updF (updF F 7 X1_3) 8 Y1_3)) H := hP
      have hD : va_D A (MW cI cZ a (upd v 7 (nI (pn pp))) su sl (updF (updF F 7 X1_3) 8 Y1_3)) := hD
      have hLK_pp : ∀ j, j < pn pp → X1_3 j = pX (F 1) pp j ∧ Y1_3 j = pY (F 1) pp j := hw_3
      have h8_pp := (hs3 pp hpp).2
      refine lv_iload_n hx hb dX7_corner_27 rfl (lv_at hl 2 rfl) ?_
      refine lv_iconst (v := 0) hx hb dX7_corner_28 (by decide) ?_
      refine lv_aload_n hx hb dX7_corner_29 rfl (lv_at hl 0 rfl) ?_
      refine va_get (D := D) (ci := 9) (v := .int (nI (pn pp))) (C := RX7) (T := TX7) (N := 24) hx hb hts (by decide +kernel) hown hK hP 0 rfl rfl 7 (by decide) (hts (.fieldLink RX7 58 "LandDeedsModel" "calls" "I") (by decide +kernel)) (fun _ h9 => h9) rfl dX7_corner_30 ?_
      refine lv_iconst (v := 1) hx hb dX7_corner_33 (by decide) ?_
      refine lv_isub hx hb dX7_corner_34 ?_
      have hPc := hP.sub (ws' := []) [] rfl
      refine u_callSi (W.runS (As := [.int x, .int 0, .int ((nI (pn pp)) - 1)]) (rest := []) ⟨hx, hb, hml, hown, hts⟩ (c_X7_in l D cI cB cZ cP x 0 ((nI (pn pp)) - 1) ) (cwS 3 hts gX7_corner_X7_in rfl rfl rfl (by decide +kernel) ⟨Nat.le_of_ble_eq_true rfl, Nat.le_of_ble_eq_true rfl⟩) (pS hPc hW0 trivial) rfl rfl hl.1 rfl (lv_room (Nat.le_of_ble_eq_true rfl)) dX7_corner_35 ⟨Nat.le_of_ble_eq_true rfl, Nat.le_of_ble_eq_true rfl⟩) ?_
      refine lv_if_ne (tgt := 46) hx hb dX7_corner_38 (by decide) (fun c_4 => ?_) (fun c_4 => ?_)
      · skip
        have nc_4 := zb_ne0.mp c_4
        have hin9 : inP (pn pp) x := by have h9 := nc_4; rw [tI_sub (by rw [nI_toInt (by omega), li_1]; omega) (by rw [nI_toInt (by omega), li_1]; omega), nI_toInt (by omega), li_1, li_0] at h9; exact ⟨h9.1, by omega⟩
        obtain ⟨jj, hjj, ejj, xjj⟩ := inP_nat hin9 (by omega)
        rw [ejj] at hl
        refine lv_iload_n hx hb dX7_corner_46 rfl (lv_at hl 3 rfl) ?_
        refine lv_if_ne (tgt := 59) hx hb dX7_corner_47 (by decide) (fun c_5 => ?_) (fun c_5 => ?_)
        · skip
          refine lv_aload_n hx hb dX7_corner_59 rfl (lv_at hl 0 rfl) ?_
          refine va_get (D := D) (ci := 9) (v := .ref (a 8)) (C := RX7) (T := TX7) (N := 24) hx hb hts (by decide +kernel) hown hK hP 0 rfl rfl 12 (by decide) (hts (.fieldLink RX7 32 "LandDeedsModel" "cy" "[I") (by decide +kernel)) (fun _ h9 => h9) rfl dX7_corner_60 ?_
          refine lv_iload_n hx hb dX7_corner_63 rfl (lv_at hl 2 rfl) ?_
          refine u_iald hx hb hK hP 8 0 rfl rfl rfl ⟨by omega, by omega⟩ dX7_corner_64 ?_
          rw [← hQ]
          have hP9 := hP
          have hD9 := hD
          exact W.iret (v := Y1_3 jj) hx hb hr (fun t ht hW => ⟨⟨_, (upd v 7 (nI (pn pp)), su, sl, updF (updF F 7 X1_3) 8 Y1_3), rfl, ⟨by rw [show aCorner kk pn (pX (F 1)) (pY (F 1)) x0 x y = _ from (cif_t nc_1).trans ((cif_t hw9).trans ((cif_t (xpp ▸ hin9)).trans (cif_f c_5))), xpp, xjj]; exact (hLK_pp jj hjj).2, ⟨rfl, rfl, rfl, rfl, rfl⟩⟩, by rw [ht]; exact hP9, hD9⟩, hS.F ht⟩) hS.2.2 dX7_corner_65
        · skip
          refine lv_aload_n hx hb dX7_corner_50 rfl (lv_at hl 0 rfl) ?_
          refine va_get (D := D) (ci := 9) (v := .ref (a 7)) (C := RX7) (T := TX7) (N := 24) hx hb hts (by decide +kernel) hown hK hP 0 rfl rfl 11 (by decide) (hts (.fieldLink RX7 29 "LandDeedsModel" "cx" "[I") (by decide +kernel)) (fun _ h9 => h9) rfl dX7_corner_51 ?_
          refine lv_iload_n hx hb dX7_corner_54 rfl (lv_at hl 2 rfl) ?_
          refine u_iald hx hb hK hP 7 0 rfl rfl rfl ⟨by omega, by omega⟩ dX7_corner_55 ?_
          refine lv_goto (tgt := 65) hx hb dX7_corner_56 (by decide) ?_
          rw [← hQ]
          have hP9 := hP
          have hD9 := hD
          exact W.iret (v := X1_3 jj) hx hb hr (fun t ht hW => ⟨⟨_, (upd v 7 (nI (pn pp)), su, sl, updF (updF F 7 X1_3) 8 Y1_3), rfl, ⟨by rw [show aCorner kk pn (pX (F 1)) (pY (F 1)) x0 x y = _ from (cif_t nc_1).trans ((cif_t hw9).trans ((cif_t (xpp ▸ hin9)).trans (cif_t c_5))), xpp, xjj]; exact (hLK_pp jj hjj).1, ⟨rfl, rfl, rfl, rfl, rfl⟩⟩, by rw [ht]; exact hP9, hD9⟩, hS.F ht⟩) hS.2.2 dX7_corner_65
      · skip
        have nc_4 := zb_eq0.mp c_4
        have hin9 : ¬ inP (pn pp) x := by have h9 := nc_4; rw [tI_sub (by rw [nI_toInt (by omega), li_1]; omega) (by rw [nI_toInt (by omega), li_1]; omega), nI_toInt (by omega), li_1, li_0] at h9; exact fun q => h9 ⟨q.1, by have := q.2; omega⟩
        refine lv_bipush (v := (-6)) hx hb dX7_corner_41 (by decide) ?_
        refine lv_goto (tgt := 65) hx hb dX7_corner_43 (by decide) ?_
        rw [← hQ]
        have hP9 := hP
        have hD9 := hD
        exact W.iret (v := (-6)) hx hb hr (fun t ht hW => ⟨⟨_, (upd v 7 (nI (pn pp)), su, sl, updF (updF F 7 X1_3) 8 Y1_3), rfl, ⟨((cif_t nc_1).trans ((cif_t hw9).trans (cif_f (xpp ▸ hin9)))).symm, ⟨rfl, rfl, rfl, rfl, rfl⟩⟩, by rw [ht]; exact hP9, hD9⟩, hS.F ht⟩) hS.2.2 dX7_corner_65
    · skip
      have nc_2 := zb_eq0.mp c_2
      have hw9 : ¬ (0 ≤ y.toInt ∧ y.toInt ≤ 1) := by have h9 := nc_2; rw [li_0, li_1] at h9; exact h9
      refine lv_bipush (v := (-2)) hx hb dX7_corner_19 (by decide) ?_
      rw [← hQ]
      have hP9 := hP
      have hD9 := hD
      exact W.iret (v := (-2)) hx hb hr (fun t ht hW => ⟨⟨_, (v, su, sl, F), rfl, ⟨((cif_t nc_1).trans (cif_f hw9)).symm, ⟨rfl, rfl, rfl, rfl, rfl⟩⟩, by rw [ht]; exact hP9, hD9⟩, hS.F ht⟩) hS.2.2 dX7_corner_21
  · skip
    have nc_1 := zb_eq0.mp c_1
    refine lv_iconst (v := (-1)) hx hb dX7_corner_8 (by decide) ?_
    rw [← hQ]
    have hP9 := hP
    have hD9 := hD
    exact W.iret (v := (-1)) hx hb hr (fun t ht hW => ⟨⟨_, (v, su, sl, F), rfl, ⟨(cif_f nc_1).symm, ⟨rfl, rfl, rfl, rfl, rfl⟩⟩, by rw [ht]; exact hP9, hD9⟩, hS.F ht⟩) hS.2.2 dX7_corner_9

set_option maxHeartbeats 4000000 in
set_option maxRecDepth 100000 in
theorem c_X7_right (l : Launch) (D : va_G) (cI cB cZ cP : ClassId) (sz : Nat) (a : Nat → Nat) (v : Nat → Int32) (su sl : Int64) (F : Nat → Nat → Int32) (kk : Nat) (pn : Nat → Nat) (x y : Int32) (hSM : stM (F 1) kk pn) : Met l yX7_right wsX7_right ({ frames := 6, cells := 0, slots := 0, locals := 140 } : Room) (va_Pc [.ref (a 0), .int x, .int y] (fun U => U.heap.size = sz ∧ va_P D vwCl (MW cI cZ a v su sl F) U.heap ∧ KW D cI cB cZ cP U ∧ va_D (fun _ => True) (MW cI cZ a v su sl F) ∧ EF (MW cI cZ a v su sl F) sz E0 U.heap)) (va_Qi (fun r (u : (Nat → Int32) × Int64 × Int64 × (Nat → Nat → Int32)) => match u with | (v1, su1, sl1, F1) => r = aRight kk pn (pX (F 1)) (pY (F 1)) (F 1) x y ∧ keepM v F v1 F1) (fun (u : (Nat → Int32) × Int64 × Int64 × (Nat → Nat → Int32)) (t : State) => match u with | (v1, su1, sl1, F1) => va_P D vwCl (MW cI cZ a v1 su1 sl1 F1) t.heap ∧ va_D (va_A (MW cI cZ a v su sl F) sz) (MW cI cZ a v1 su1 sl1 F1)) (va_A (MW cI cZ a v su sl F) sz)) 0 0 (va_A (MW cI cZ a v su sl F) sz) := by
  refine Met.ofW (cc := cX7_right) (maxL := 3) (ret := (some .int)) (by decide) rfl ?_
  intro p e s m args below meth c s₁ B hml hv
  obtain ⟨rfl, hsz, hP, hW0, hD0, hE⟩ := hv
  have hx := B.exec
  have hb := B.bytes
  have hr := B.returns
  have hts := atoms_spec (ws := wsX7_right) B.pre
  have hown : s.vm.findClass RX7 = some m.cls := findClass_of_methodNamed B.named
  have hlocks := B.notSynchronized
  have hK := hW0.1
  subst hsz
  have hD := hD0.self (sz := s.heap.size)
  unfold EF at hE
  generalize hAe : va_A (MW cI cZ a v su sl F) s.heap.size = A at hD hE ⊢
  have hA : ∀ q : Nat, s.heap.size ≤ q → A q := fun q h => by rw [← hAe]; exact Or.inr h
  have hS : va_S A s.heap s.heap [] := va_S.rf
  have hl := lv_entry ([.ref (a 0), .int x, .int y]) (n := 3) (Nat.le_of_ble_eq_true rfl)
  rw [lg_entry_eq]
  generalize (lg_sl ([.ref (a 0), .int x, .int y]) ++ List.replicate (3 - (lg_sl ([.ref (a 0), .int x, .int y])).length) Slot.unset).toArray = ls at hl ⊢
  have hl : lv_has ls 3 [(0, .ref (a 0)), (1, .int x), (2, .int y)] := hl
  show W p l e ({ frames := 6, cells := 0, slots := 0, locals := 140 } : Room) s m ([.ref (a 0), .int x, .int y] : List Value).toArray below meth c s.heap [] 0 0 _ (F0 m 0 ls [])
  refine u_genQ (fun Q hQ => ?_)
  obtain ⟨hs1, hs2, hs3⟩ := id hSM
  refine lv_iload_n hx hb dX7_right_0 rfl (lv_at hl 1 rfl) ?_
  refine lv_iload_n hx hb dX7_right_1 rfl (lv_at hl 2 rfl) ?_
  have hPc := hP.sub (ws' := []) [] rfl
  refine u_callSi (W.runS (As := [.int x, .int y]) (rest := []) ⟨hx, hb, hml, hown, hts⟩ (c_X7_isPost l D cI cB cZ cP x y ) (cwS 2 hts gX7_right_X7_isPost rfl rfl rfl (by decide +kernel) ⟨Nat.le_of_ble_eq_true rfl, Nat.le_of_ble_eq_true rfl⟩) (pS hPc hW0 trivial) rfl rfl hl.1 rfl (lv_room (Nat.le_of_ble_eq_true rfl)) dX7_right_2 ⟨Nat.le_of_ble_eq_true rfl, Nat.le_of_ble_eq_true rfl⟩) ?_
  refine lv_if_ne (tgt := 11) hx hb dX7_right_5 (by decide) (fun c_1 => ?_) (fun c_1 => ?_)
  · skip
    have nc_1 := zb_ne0.mp c_1
    obtain ⟨xx, hxx, exx⟩ := isP_x nc_1
    obtain ⟨yy, hyy, eyy⟩ := isP_y nc_1
    rw [exx, eyy] at hl
    refine lv_aload_n hx hb dX7_right_11 rfl (lv_at hl 0 rfl) ?_
    have hPc := hP
    have hDc := hD
    have hFc := va_free (wc := (MW cI cZ a v su sl F)) hD hS hA [0, 1, 2, 3, 4, 5, 6, 7, 8, 9, 10, 11, 12] rfl
    refine va_callv (va_runV (As := []) (rest := []) ⟨hx, hb, hml, hown, hts⟩ (c_X7_layOwners l D cI cB cZ cP s.heap.size a v su sl F kk pn (by first | assumption | omega)) (cwV 0 hts gX7_right_X7_layOwners rfl rfl rfl (by decide +kernel) ⟨Nat.le_of_ble_eq_true rfl, Nat.le_of_ble_eq_true rfl⟩) (pVQ (q0 := 0) hPc hDc hW0 EF.t rfl rfl) rfl rfl hl.1 rfl (lv_room (Nat.le_of_ble_eq_true rfl)) dX7_right_12 ⟨Nat.le_of_ble_eq_true rfl, Nat.le_of_ble_eq_true rfl⟩) hS (fun q _ h => hFc q h) hFc (fun u t H1 locs ht hvm hw hB hz1 hk1 hS => ?_)
    obtain ⟨c1_2, X1_2, Y1_2, O1_2⟩ := u
    obtain ⟨hP1, hD1⟩ := hB
    rw [ht] at hP1
    have hw_2 : ∀ j, j < 1024 → O1_2 j = oI (own (fun z9 => hlm (F 1) pn z9 j) (F 1) kk) := hw
    obtain ⟨hP, hD⟩ := va_join (wr := []) (w1 := (MW cI cZ a (upd v 7 c1_2) su sl (updF (updF (updF F 7 X1_2) 8 Y1_2) 9 O1_2))) hP hD [0, 1, 2, 3, 4, 5, 6, 7, 8, 9, 10, 11, 12] [] rfl rfl (by decide) (by decide) hk1 hFc hP1 hD1
    generalize H1 = H at hP hS ⊢
    have hP : va_P D vwCl (MW cI cZ a (upd v 7 c1_2) su sl (updF (updF (updF F 7 X1_2) 8 Y1_2) 9 O1_2)) H := hP
    have hD : va_D A (MW cI cZ a (upd v 7 c1_2) su sl (updF (updF (updF F 7 X1_2) 8 Y1_2) 9 O1_2)) := hD
    refine lv_aload_n hx hb dX7_right_15 rfl (lv_at hl 0 rfl) ?_
    refine va_get (D := D) (ci := 9) (v := .ref (a 9)) (C := RX7) (T := TX7) (N := 24) hx hb hts (by decide +kernel) hown hK hP 0 rfl rfl 16 (by decide) (hts (.fieldLink RX7 35 "LandDeedsModel" "owner" "[I") (by decide +kernel)) (fun _ h9 => h9) rfl dX7_right_16 ?_
    refine lv_bipush (v := 32) hx hb dX7_right_19 (by decide) ?_
    refine lv_iload_n hx hb dX7_right_21 rfl (lv_at hl 2 rfl) ?_
    refine lv_imul hx hb dX7_right_22 ?_
    refine u_eqi (show 32 * (nI yy) = nI (32 * yy) from nI_m 32 yy) ?_
    refine lv_iload_n hx hb dX7_right_23 rfl (lv_at hl 1 rfl) ?_
    refine lv_iadd hx hb dX7_right_24 ?_
    refine u_eqi (show (nI (32 * yy)) + (nI xx) = nI (32 * yy + xx) from nI_add _ _) ?_
    refine u_iald hx hb hK hP 9 0 rfl rfl rfl ⟨by omega, by omega⟩ dX7_right_25 ?_
    rw [← hQ]
    have hP9 := hP
    have hD9 := hD
    exact W.iret (v := O1_2 (32 * yy + xx)) hx hb hr (fun t ht hW => ⟨⟨_, (upd v 7 c1_2, su, sl, updF (updF (updF F 7 X1_2) 8 Y1_2) 9 O1_2), rfl, ⟨by rw [show aRight kk pn (pX (F 1)) (pY (F 1)) (F 1) x y = _ from cif_t nc_1, exx, eyy, ix_nI (by omega), ix_nI (by omega)]; exact hw_2 _ (by omega), ⟨rfl, rfl, rfl, rfl, rfl⟩⟩, by rw [ht]; exact hP9, hD9⟩, hS.F ht⟩) hS.2.2 dX7_right_26
  · skip
    have nc_1 := zb_eq0.mp c_1
    refine lv_bipush (v := (-2)) hx hb dX7_right_8 (by decide) ?_
    rw [← hQ]
    have hP9 := hP
    have hD9 := hD
    exact W.iret (v := (-2)) hx hb hr (fun t ht hW => ⟨⟨_, (v, su, sl, F), rfl, ⟨(cif_f nc_1).symm, ⟨rfl, rfl, rfl, rfl, rfl⟩⟩, by rw [ht]; exact hP9, hD9⟩, hS.F ht⟩) hS.2.2 dX7_right_10

set_option maxHeartbeats 4000000 in
set_option maxRecDepth 100000 in
theorem c_X7_lostBy (l : Launch) (D : va_G) (cI cB cZ cP : ClassId) (sz : Nat) (a : Nat → Nat) (v : Nat → Int32) (su sl : Int64) (F : Nat → Nat → Int32) (kk : Nat) (pn : Nat → Nat) (pp : Nat) (hSM : stM (F 1) kk pn) (hpp : pp < kk) : Met l yX7_lostBy wsX7_lostBy ({ frames := 6, cells := 0, slots := 0, locals := 140 } : Room) (va_Pc [.ref (a 0), .int (nI pp)] (fun U => U.heap.size = sz ∧ va_P D vwCl (MW cI cZ a v su sl F) U.heap ∧ KW D cI cB cZ cP U ∧ va_D (fun _ => True) (MW cI cZ a v su sl F) ∧ EF (MW cI cZ a v su sl F) sz E0 U.heap)) (va_Qi (fun r (u : (Nat → Int32) × Int64 × Int64 × (Nat → Nat → Int32)) => match u with | (v1, su1, sl1, F1) => r = aLost kk pn (pX (F 1)) (pY (F 1)) (F 1) pp ∧ keepM v F v1 F1) (fun (u : (Nat → Int32) × Int64 × Int64 × (Nat → Nat → Int32)) (t : State) => match u with | (v1, su1, sl1, F1) => va_P D vwCl (MW cI cZ a v1 su1 sl1 F1) t.heap ∧ va_D (va_A (MW cI cZ a v su sl F) sz) (MW cI cZ a v1 su1 sl1 F1)) (va_A (MW cI cZ a v su sl F) sz)) 0 0 (va_A (MW cI cZ a v su sl F) sz) := by
  refine Met.ofW (cc := cX7_lostBy) (maxL := 4) (ret := (some .int)) (by decide) rfl ?_
  intro p e s m args below meth c s₁ B hml hv
  obtain ⟨rfl, hsz, hP, hW0, hD0, hE⟩ := hv
  have hx := B.exec
  have hb := B.bytes
  have hr := B.returns
  have hts := atoms_spec (ws := wsX7_lostBy) B.pre
  have hown : s.vm.findClass RX7 = some m.cls := findClass_of_methodNamed B.named
  have hlocks := B.notSynchronized
  have hK := hW0.1
  subst hsz
  have hD := hD0.self (sz := s.heap.size)
  unfold EF at hE
  generalize hAe : va_A (MW cI cZ a v su sl F) s.heap.size = A at hD hE ⊢
  have hA : ∀ q : Nat, s.heap.size ≤ q → A q := fun q h => by rw [← hAe]; exact Or.inr h
  have hS : va_S A s.heap s.heap [] := va_S.rf
  have hl := lv_entry ([.ref (a 0), .int (nI pp)]) (n := 4) (Nat.le_of_ble_eq_true rfl)
  rw [lg_entry_eq]
  generalize (lg_sl ([.ref (a 0), .int (nI pp)]) ++ List.replicate (4 - (lg_sl ([.ref (a 0), .int (nI pp)])).length) Slot.unset).toArray = ls at hl ⊢
  have hl : lv_has ls 4 [(0, .ref (a 0)), (1, .int (nI pp))] := hl
  show W p l e ({ frames := 6, cells := 0, slots := 0, locals := 140 } : Room) s m ([.ref (a 0), .int (nI pp)] : List Value).toArray below meth c s.heap [] 0 0 _ (F0 m 0 ls [])
  refine u_genQ (fun Q hQ => ?_)
  obtain ⟨hs1, hs2, hs3⟩ := id hSM
  refine lv_aload_n hx hb dX7_lostBy_0 rfl (lv_at hl 0 rfl) ?_
  have hPc := hP
  have hDc := hD
  have hFc := va_free (wc := (MW cI cZ a v su sl F)) hD hS hA [0, 1, 2, 3, 4, 5, 6, 7, 8, 9, 10, 11, 12] rfl
  refine va_callv (va_runV (As := []) (rest := []) ⟨hx, hb, hml, hown, hts⟩ (c_X7_layOwners l D cI cB cZ cP s.heap.size a v su sl F kk pn (by first | assumption | omega)) (cwV 0 hts gX7_lostBy_X7_layOwners rfl rfl rfl (by decide +kernel) ⟨Nat.le_of_ble_eq_true rfl, Nat.le_of_ble_eq_true rfl⟩) (pVQ (q0 := 0) hPc hDc hW0 EF.t rfl rfl) rfl rfl hl.1 rfl (lv_room (Nat.le_of_ble_eq_true rfl)) dX7_lostBy_1 ⟨Nat.le_of_ble_eq_true rfl, Nat.le_of_ble_eq_true rfl⟩) hS (fun q _ h => hFc q h) hFc (fun u t H1 locs ht hvm hw hB hz1 hk1 hS => ?_)
  obtain ⟨c1_1, X1_1, Y1_1, O1_1⟩ := u
  obtain ⟨hP1, hD1⟩ := hB
  rw [ht] at hP1
  have hw_1 : ∀ j, j < 1024 → O1_1 j = oI (own (fun z9 => hlm (F 1) pn z9 j) (F 1) kk) := hw
  obtain ⟨hP, hD⟩ := va_join (wr := []) (w1 := (MW cI cZ a (upd v 7 c1_1) su sl (updF (updF (updF F 7 X1_1) 8 Y1_1) 9 O1_1))) hP hD [0, 1, 2, 3, 4, 5, 6, 7, 8, 9, 10, 11, 12] [] rfl rfl (by decide) (by decide) hk1 hFc hP1 hD1
  generalize H1 = H at hP hS ⊢
  have hP : va_P D vwCl (MW cI cZ a (upd v 7 c1_1) su sl (updF (updF (updF F 7 X1_1) 8 Y1_1) 9 O1_1)) H := hP
  have hD : va_D A (MW cI cZ a (upd v 7 c1_1) su sl (updF (updF (updF F 7 X1_1) 8 Y1_1) 9 O1_1)) := hD
  have hOWN : ∀ j, j < 1024 → O1_1 j = oI (own (fun z9 => hlm (F 1) pn z9 j) (F 1) kk) := hw_1
  refine lv_aload_n hx hb dX7_lostBy_4 rfl (lv_at hl 0 rfl) ?_
  refine lv_iload_n hx hb dX7_lostBy_5 rfl (lv_at hl 1 rfl) ?_
  have hPc := hP
  have hDc := hD
  have hFc := va_free (wc := (MW cI cZ a (upd v 7 c1_1) su sl (updF (updF (updF F 7 X1_1) 8 Y1_1) 9 O1_1))) hD hS hA [0, 1, 2, 3, 4, 5, 6, 7, 8, 9, 10, 11, 12] rfl
  refine va_callv (va_runV (As := [.int (nI pp)]) (rest := []) ⟨hx, hb, hml, hown, hts⟩ (c_X7_look l D cI cB cZ cP H.size a (upd v 7 c1_1) su sl (updF (updF (updF F 7 X1_1) 8 Y1_1) 9 O1_1) pp (pn pp) (by omega) ((hs3 pp hpp).2) ((hs3 pp hpp).1)) (cwV 1 hts gX7_lostBy_X7_look rfl rfl rfl (by decide +kernel) ⟨Nat.le_of_ble_eq_true rfl, Nat.le_of_ble_eq_true rfl⟩) (pVQ (q0 := 0) hPc hDc hW0 EF.t rfl rfl) rfl rfl hl.1 rfl (lv_room (Nat.le_of_ble_eq_true rfl)) dX7_lostBy_6 ⟨Nat.le_of_ble_eq_true rfl, Nat.le_of_ble_eq_true rfl⟩) hS (fun q _ h => hFc q h) hFc (fun u t H1 locs ht hvm hw hB hz1 hk1 hS => ?_)
  obtain ⟨X1_2, Y1_2⟩ := u
  obtain ⟨hP1, hD1⟩ := hB
  rw [ht] at hP1
  have hw_2 : ∀ j, j < (pn pp) → X1_2 j = pX ((updF (updF (updF F 7 X1_1) 8 Y1_1) 9 O1_1) 1) pp j ∧ Y1_2 j = pY ((updF (updF (updF F 7 X1_1) 8 Y1_1) 9 O1_1) 1) pp j := hw
  obtain ⟨hP, hD⟩ := va_join (wr := []) (w1 := (MW cI cZ a (upd v 7 (nI (pn pp))) su sl (updF (updF (updF F 7 X1_2) 8 Y1_2) 9 O1_1))) hP hD [0, 1, 2, 3, 4, 5, 6, 7, 8, 9, 10, 11, 12] [] rfl rfl (by decide) (by decide) hk1 hFc hP1 hD1
  generalize H1 = H at hP hS ⊢
  have hP : va_P D vwCl (MW cI cZ a (upd v 7 (nI (pn pp))) su sl (updF (updF (updF F 7 X1_2) 8 Y1_2) 9 O1_1)) H := hP
  have hD : va_D A (MW cI cZ a (upd v 7 (nI (pn pp))) su sl (updF (updF (updF F 7 X1_2) 8 Y1_2) 9 O1_1)) := hD
  have hLK_pp : ∀ j, j < pn pp → X1_2 j = pX (F 1) pp j ∧ Y1_2 j = pY (F 1) pp j := hw_2
  have h8_pp := (hs3 pp hpp).2
  refine lv_iconst (v := 0) hx hb dX7_lostBy_9 (by decide) ?_
  refine lv_istore_n (lv' := [(2, .int 0), (0, .ref (a 0)), (1, .int (nI pp))]) hx hb dX7_lostBy_10 rfl hl (by decide) rfl (fun ls hl => ?_)
  refine lv_iconst (v := 0) hx hb dX7_lostBy_11 (by decide) ?_
  refine lv_istore_n (lv' := [(3, .int 0), (2, .int 0), (0, .ref (a 0)), (1, .int (nI pp))]) hx hb dX7_lostBy_12 rfl hl (by decide) rfl (fun ls hl => ?_)
  have LOOP_13 : ∀ (fu : Nat) (z : Nat) (hz : z ≤ 1024) (hn : 1024 - z < fu) (H : Heap) (locs : List Loc) (hP : va_P D vwCl (MW cI cZ a (upd v 7 (nI (pn pp))) su sl (updF (updF (updF F 7 X1_2) 8 Y1_2) 9 O1_1)) H) (hD : va_D A (MW cI cZ a (upd v 7 (nI (pn pp))) su sl (updF (updF (updF F 7 X1_2) 8 Y1_2) 9 O1_1))) (hS : va_S A s.heap H locs) (ls : Array Slot) (hl : lv_has ls 4 [(0, .ref (a 0)), (1, .int (nI pp)), (2, .int (nI (cnt (fun z => hlp pn (pX (F 1)) (pY (F 1)) pp z ∧ ¬ ownr kk pn (pX (F 1)) (pY (F 1)) (F 1) z = some pp) z))), (3, .int (nI z))]), W p l e ({ frames := 6, cells := 0, slots := 0, locals := 140 } : Room) s m ([.ref (a 0), .int (nI pp)] : List Value).toArray below meth c H locs 0 0 Q (F0 m 13 ls []) := by
    intro fu
    induction fu with
    | zero => intro z hz hn H locs hP hD hS ls hl; exact absurd hn (Nat.not_lt_zero _)
    | succ fu ih_13 =>
      intro z hz hn H locs hP hD hS ls hl
      refine lv_iload_n hx hb dX7_lostBy_13 rfl (lv_at hl 3 rfl) ?_
      refine lv_sipush (v := 1024) hx hb dX7_lostBy_14 (by decide) ?_
      refine lv_icmp_ge (tgt := 59) hx hb dX7_lostBy_17 (by decide) (fun c_3 => ?_) (fun c_3 => ?_)
      · skip
        have nc_3 : 1024 ≤ z := (nI_leI (a := 1024) (b := z) (by omega) (by omega)).mp c_3
        refine lv_iload_n hx hb dX7_lostBy_59 rfl (lv_at hl 2 rfl) ?_
        rw [← hQ]
        have hP9 := hP
        have hD9 := hD
        exact W.iret (v := nI (cnt (fun z => hlp pn (pX (F 1)) (pY (F 1)) pp z ∧ ¬ ownr kk pn (pX (F 1)) (pY (F 1)) (F 1) z = some pp) z)) hx hb hr (fun t ht hW => ⟨⟨_, (upd v 7 (nI (pn pp)), su, sl, updF (updF (updF F 7 X1_2) 8 Y1_2) 9 O1_1), rfl, ⟨by unfold aLost; rw [show z = 1024 by omega], ⟨rfl, rfl, rfl, rfl, rfl⟩⟩, by rw [ht]; exact hP9, hD9⟩, hS.F ht⟩) hS.2.2 dX7_lostBy_60
      · skip
        have nc_3 : ¬ (1024 ≤ z) := fun h => c_3 ((nI_leI (a := 1024) (b := z) (by omega) (by omega)).mpr h)
        refine lv_iload_n hx hb dX7_lostBy_20 rfl (lv_at hl 2 rfl) ?_
        refine lv_aload_n hx hb dX7_lostBy_21 rfl (lv_at hl 0 rfl) ?_
        refine lv_iload_n hx hb dX7_lostBy_22 rfl (lv_at hl 3 rfl) ?_
        refine lv_bipush (v := 32) hx hb dX7_lostBy_23 (by decide) ?_
        refine lv_irem hx hb dX7_lostBy_25 (by decide) ?_
        refine u_eqi (show (nI z) - (nI z) / 32 * 32 = nI (z % 32) from (div32 (by omega)).2) ?_
        refine lv_iload_n hx hb dX7_lostBy_26 rfl (lv_at hl 3 rfl) ?_
        refine lv_bipush (v := 32) hx hb dX7_lostBy_27 (by decide) ?_
        refine lv_idiv hx hb dX7_lostBy_29 (by decide) ?_
        refine u_eqi (show (nI z) / 32 = nI (z / 32) from (div32 (by omega)).1) ?_
        have hPc := hP
        refine u_callSi (W.runV (As := [.int (nI (z % 32)), .int (nI (z / 32))]) (rest := [.int (nI (cnt (fun z => hlp pn (pX (F 1)) (pY (F 1)) pp z ∧ ¬ ownr kk pn (pX (F 1)) (pY (F 1)) (F 1) z = some pp) z))]) ⟨hx, hb, hml, hown, hts⟩ (c_X7_liesNow l D cI cB cZ cP a v su sl (updF F 9 O1_1) (pn pp) X1_2 Y1_2 (nI (z % 32)) (nI (z / 32)) (h8_pp)) (cwV 2 hts gX7_lostBy_X7_liesNow rfl rfl rfl (by decide +kernel) ⟨Nat.le_of_ble_eq_true rfl, Nat.le_of_ble_eq_true rfl⟩) (pV (q0 := 0) hPc hW0 trivial rfl rfl) rfl rfl hl.1 rfl (lv_room (Nat.le_of_ble_eq_true rfl)) dX7_lostBy_30 ⟨Nat.le_of_ble_eq_true rfl, Nat.le_of_ble_eq_true rfl⟩) ?_
        have hle9 := lies_le (pn pp) X1_2 Y1_2 (nI (z % 32)) (nI (z / 32))
        refine lv_if_le (tgt := 50) hx hb dX7_lostBy_33 (by decide) (fun c_4 => ?_) (fun c_4 => ?_)
        · skip
          have nc_4 : lies (pn pp) X1_2 Y1_2 (nI (z % 32)) (nI (z / 32)) ≤ 0 := (nI_leI (a := (lies (pn pp) X1_2 Y1_2 (nI (z % 32)) (nI (z / 32)))) (b := 0) (by omega) (by omega)).mp c_4
          have hheld : ¬ hlp pn (pX (F 1)) (pY (F 1)) pp z := by unfold hlp; rw [← lies_congr hLK_pp]; unfold qX qY; omega
          refine lv_iconst (v := 0) hx hb dX7_lostBy_50 (by decide) ?_
          refine lv_iadd hx hb dX7_lostBy_51 ?_
          refine u_eqi (show (nI (cnt (fun z => hlp pn (pX (F 1)) (pY (F 1)) pp z ∧ ¬ ownr kk pn (pX (F 1)) (pY (F 1)) (F 1) z = some pp) z)) + 0 = nI (cnt (fun z => hlp pn (pX (F 1)) (pY (F 1)) pp z ∧ ¬ ownr kk pn (pX (F 1)) (pY (F 1)) (F 1) z = some pp) z) from Int32.add_zero _) ?_
          refine lv_istore_n (lv' := [(2, .int (nI (cnt (fun z => hlp pn (pX (F 1)) (pY (F 1)) pp z ∧ ¬ ownr kk pn (pX (F 1)) (pY (F 1)) (F 1) z = some pp) z))), (0, .ref (a 0)), (1, .int (nI pp)), (3, .int (nI z))]) hx hb dX7_lostBy_52 rfl hl (by decide) rfl (fun ls hl => ?_)
          refine lv_iinc (v := nI (z + 1)) (lv' := [(3, .int (nI (z + 1))), (2, .int (nI (cnt (fun z => hlp pn (pX (F 1)) (pY (F 1)) pp z ∧ ¬ ownr kk pn (pX (F 1)) (pY (F 1)) (F 1) z = some pp) z))), (0, .ref (a 0)), (1, .int (nI pp))]) hx hb dX7_lostBy_53 hl (k := 3) rfl (nI_1 _) (by decide) rfl (fun ls hl => ?_)
          refine lv_goto (tgt := 13) hx hb dX7_lostBy_56 (by decide) ?_
          exact ih_13 (z + 1) (by omega) (by omega) _ _ hP hD hS ls (by rw [cnt_f (P := fun z => hlp pn (pX (F 1)) (pY (F 1)) pp z ∧ ¬ ownr kk pn (pX (F 1)) (pY (F 1)) (F 1) z = some pp) (fun q => hheld q.1)]; exact (lv_sub hl [2, 3, 1, 0] rfl))
        · skip
          have nc_4 : ¬ (lies (pn pp) X1_2 Y1_2 (nI (z % 32)) (nI (z / 32)) ≤ 0) := fun h => c_4 ((nI_leI (a := (lies (pn pp) X1_2 Y1_2 (nI (z % 32)) (nI (z / 32)))) (b := 0) (by omega) (by omega)).mpr h)
          have hheld : hlp pn (pX (F 1)) (pY (F 1)) pp z := by unfold hlp; rw [← lies_congr hLK_pp]; unfold qX qY; omega
          refine lv_aload_n hx hb dX7_lostBy_36 rfl (lv_at hl 0 rfl) ?_
          refine va_get (D := D) (ci := 9) (v := .ref (a 9)) (C := RX7) (T := TX7) (N := 24) hx hb hts (by decide +kernel) hown hK hP 0 rfl rfl 16 (by decide) (hts (.fieldLink RX7 35 "LandDeedsModel" "owner" "[I") (by decide +kernel)) (fun _ h9 => h9) rfl dX7_lostBy_37 ?_
          refine lv_iload_n hx hb dX7_lostBy_40 rfl (lv_at hl 3 rfl) ?_
          refine u_iald hx hb hK hP 9 0 rfl rfl rfl ⟨by omega, by omega⟩ dX7_lostBy_41 ?_
          refine u_eqi (show O1_1 z = oI (own (fun z9 => hlm (F 1) pn z9 z) (F 1) kk) from hOWN z (by omega)) ?_
          refine lv_iload_n hx hb dX7_lostBy_42 rfl (lv_at hl 1 rfl) ?_
          refine lv_icmp_eq (tgt := 50) hx hb dX7_lostBy_43 (by decide) (fun c_5 => ?_) (fun c_5 => ?_)
          · skip
            have n9 := c_5
            refine lv_iconst (v := 0) hx hb dX7_lostBy_50 (by decide) ?_
            refine lv_iadd hx hb dX7_lostBy_51 ?_
            refine u_eqi (show (nI (cnt (fun z => hlp pn (pX (F 1)) (pY (F 1)) pp z ∧ ¬ ownr kk pn (pX (F 1)) (pY (F 1)) (F 1) z = some pp) z)) + 0 = nI (cnt (fun z => hlp pn (pX (F 1)) (pY (F 1)) pp z ∧ ¬ ownr kk pn (pX (F 1)) (pY (F 1)) (F 1) z = some pp) z) from Int32.add_zero _) ?_
            refine lv_istore_n (lv' := [(2, .int (nI (cnt (fun z => hlp pn (pX (F 1)) (pY (F 1)) pp z ∧ ¬ ownr kk pn (pX (F 1)) (pY (F 1)) (F 1) z = some pp) z))), (0, .ref (a 0)), (1, .int (nI pp)), (3, .int (nI z))]) hx hb dX7_lostBy_52 rfl hl (by decide) rfl (fun ls hl => ?_)
            refine lv_iinc (v := nI (z + 1)) (lv' := [(3, .int (nI (z + 1))), (2, .int (nI (cnt (fun z => hlp pn (pX (F 1)) (pY (F 1)) pp z ∧ ¬ ownr kk pn (pX (F 1)) (pY (F 1)) (F 1) z = some pp) z))), (0, .ref (a 0)), (1, .int (nI pp))]) hx hb dX7_lostBy_53 hl (k := 3) rfl (nI_1 _) (by decide) rfl (fun ls hl => ?_)
            refine lv_goto (tgt := 13) hx hb dX7_lostBy_56 (by decide) ?_
            exact ih_13 (z + 1) (by omega) (by omega) _ _ hP hD hS ls (by rw [cnt_f (P := fun z => hlp pn (pX (F 1)) (pY (F 1)) pp z ∧ ¬ ownr kk pn (pX (F 1)) (pY (F 1)) (F 1) z = some pp) (fun q => q.2 (oI_eq (own_lt _ _ _) (by omega) (by omega) n9))]; exact (lv_sub hl [2, 3, 1, 0] rfl))
          · skip
            have n9 := c_5
            refine lv_iconst (v := 1) hx hb dX7_lostBy_46 (by decide) ?_
            refine lv_goto (tgt := 51) hx hb dX7_lostBy_47 (by decide) ?_
            refine lv_iadd hx hb dX7_lostBy_51 ?_
            refine u_eqi (show (nI (cnt (fun z => hlp pn (pX (F 1)) (pY (F 1)) pp z ∧ ¬ ownr kk pn (pX (F 1)) (pY (F 1)) (F 1) z = some pp) z)) + 1 = nI (cnt (fun z => hlp pn (pX (F 1)) (pY (F 1)) pp z ∧ ¬ ownr kk pn (pX (F 1)) (pY (F 1)) (F 1) z = some pp) z + 1) from nI_1 _) ?_
            refine lv_istore_n (lv' := [(2, .int (nI (cnt (fun z => hlp pn (pX (F 1)) (pY (F 1)) pp z ∧ ¬ ownr kk pn (pX (F 1)) (pY (F 1)) (F 1) z = some pp) z + 1))), (0, .ref (a 0)), (1, .int (nI pp)), (3, .int (nI z))]) hx hb dX7_lostBy_52 rfl hl (by decide) rfl (fun ls hl => ?_)
            refine lv_iinc (v := nI (z + 1)) (lv' := [(3, .int (nI (z + 1))), (2, .int (nI (cnt (fun z => hlp pn (pX (F 1)) (pY (F 1)) pp z ∧ ¬ ownr kk pn (pX (F 1)) (pY (F 1)) (F 1) z = some pp) z + 1))), (0, .ref (a 0)), (1, .int (nI pp))]) hx hb dX7_lostBy_53 hl (k := 3) rfl (nI_1 _) (by decide) rfl (fun ls hl => ?_)
            refine lv_goto (tgt := 13) hx hb dX7_lostBy_56 (by decide) ?_
            exact ih_13 (z + 1) (by omega) (by omega) _ _ hP hD hS ls (by rw [cnt_t (P := fun z => hlp pn (pX (F 1)) (pY (F 1)) pp z ∧ ¬ ownr kk pn (pX (F 1)) (pY (F 1)) (F 1) z = some pp) ⟨hheld, fun q => n9 (congrArg oI q)⟩]; exact (lv_sub hl [2, 3, 1, 0] rfl))
  exact LOOP_13 (1024 - 0 + 1) 0 (Nat.zero_le _) (Nat.lt_succ_self _) _ _ hP hD hS ls (lv_sub hl [2, 3, 1, 0] rfl)

set_option maxHeartbeats 4000000 in
set_option maxRecDepth 100000 in
theorem c_X7_about (l : Launch) (D : va_G) (cI cB cZ cP : ClassId) (sz : Nat) (a : Nat → Nat) (v : Nat → Int32) (su sl : Int64) (F : Nat → Nat → Int32) (kk : Nat) (pn : Nat → Nat) (x0 x : Int32) (hSM : stM (F 1) kk pn) : Met l yX7_about wsX7_about ({ frames := 7, cells := 0, slots := 0, locals := 163 } : Room) (va_Pc [.ref (a 0), .int x0, .int x] (fun U => U.heap.size = sz ∧ va_P D vwCl (MW cI cZ a v su sl F) U.heap ∧ KW D cI cB cZ cP U ∧ va_D (fun _ => True) (MW cI cZ a v su sl F) ∧ EF (MW cI cZ a v su sl F) sz E0 U.heap)) (va_Qi (fun r (u : (Nat → Int32) × Int64 × Int64 × (Nat → Nat → Int32)) => match u with | (v1, su1, sl1, F1) => r = aAbout kk pn (pX (F 1)) (pY (F 1)) (F 1) x0 x ∧ keepM v F v1 F1) (fun (u : (Nat → Int32) × Int64 × Int64 × (Nat → Nat → Int32)) (t : State) => match u with | (v1, su1, sl1, F1) => va_P D vwCl (MW cI cZ a v1 su1 sl1 F1) t.heap ∧ va_D (va_A (MW cI cZ a v su sl F) sz) (MW cI cZ a v1 su1 sl1 F1)) (va_A (MW cI cZ a v su sl F) sz)) 0 0 (va_A (MW cI cZ a v su sl F) sz) := by
  refine Met.ofW (cc := cX7_about) (maxL := 3) (ret := (some .int)) (by decide) rfl ?_
  intro p e s m args below meth c s₁ B hml hv
  obtain ⟨rfl, hsz, hP, hW0, hD0, hE⟩ := hv
  have hx := B.exec
  have hb := B.bytes
  have hr := B.returns
  have hts := atoms_spec (ws := wsX7_about) B.pre
  have hown : s.vm.findClass RX7 = some m.cls := findClass_of_methodNamed B.named
  have hlocks := B.notSynchronized
  have hK := hW0.1
  subst hsz
  have hD := hD0.self (sz := s.heap.size)
  unfold EF at hE
  generalize hAe : va_A (MW cI cZ a v su sl F) s.heap.size = A at hD hE ⊢
  have hA : ∀ q : Nat, s.heap.size ≤ q → A q := fun q h => by rw [← hAe]; exact Or.inr h
  have hS : va_S A s.heap s.heap [] := va_S.rf
  have hl := lv_entry ([.ref (a 0), .int x0, .int x]) (n := 3) (Nat.le_of_ble_eq_true rfl)
  rw [lg_entry_eq]
  generalize (lg_sl ([.ref (a 0), .int x0, .int x]) ++ List.replicate (3 - (lg_sl ([.ref (a 0), .int x0, .int x])).length) Slot.unset).toArray = ls at hl ⊢
  have hl : lv_has ls 3 [(0, .ref (a 0)), (1, .int x0), (2, .int x)] := hl
  show W p l e ({ frames := 7, cells := 0, slots := 0, locals := 163 } : Room) s m ([.ref (a 0), .int x0, .int x] : List Value).toArray below meth c s.heap [] 0 0 _ (F0 m 0 ls [])
  refine u_genQ (fun Q hQ => ?_)
  obtain ⟨hs1, hs2, hs3⟩ := id hSM
  refine lv_aload_n hx hb dX7_about_0 rfl (lv_at hl 0 rfl) ?_
  refine lv_iload_n hx hb dX7_about_1 rfl (lv_at hl 1 rfl) ?_
  have hPc := hP
  refine u_callSi (W.runV (As := [.int x0]) (rest := []) ⟨hx, hb, hml, hown, hts⟩ (c_X7_isPlot l D cI cB cZ cP a v su sl F x0 kk (hs2) (hs1)) (cwV 1 hts gX7_about_X7_isPlot rfl rfl rfl (by decide +kernel) ⟨Nat.le_of_ble_eq_true rfl, Nat.le_of_ble_eq_true rfl⟩) (pV (q0 := 0) hPc hW0 trivial rfl rfl) rfl rfl hl.1 rfl (lv_room (Nat.le_of_ble_eq_true rfl)) dX7_about_2 ⟨Nat.le_of_ble_eq_true rfl, Nat.le_of_ble_eq_true rfl⟩) ?_
  refine lv_if_ne (tgt := 10) hx hb dX7_about_5 (by decide) (fun c_1 => ?_) (fun c_1 => ?_)
  · skip
    have nc_1 := zb_ne0.mp c_1
    obtain ⟨pp, hpp, epp, xpp⟩ := inP_nat nc_1 (by omega)
    rw [epp] at hl
    refine lv_aload_n hx hb dX7_about_10 rfl (lv_at hl 0 rfl) ?_
    refine lv_iload_n hx hb dX7_about_11 rfl (lv_at hl 1 rfl) ?_
    have hPc := hP
    have hDc := hD
    have hFc := va_free (wc := (MW cI cZ a v su sl F)) hD hS hA [0, 1, 2, 3, 4, 5, 6, 7, 8, 9, 10, 11, 12] rfl
    refine va_callv (va_runV (As := [.int (nI pp)]) (rest := []) ⟨hx, hb, hml, hown, hts⟩ (c_X7_look l D cI cB cZ cP s.heap.size a v su sl F pp (pn pp) (by omega) ((hs3 pp hpp).2) ((hs3 pp hpp).1)) (cwV 1 hts gX7_about_X7_look rfl rfl rfl (by decide +kernel) ⟨Nat.le_of_ble_eq_true rfl, Nat.le_of_ble_eq_true rfl⟩) (pVQ (q0 := 0) hPc hDc hW0 EF.t rfl rfl) rfl rfl hl.1 rfl (lv_room (Nat.le_of_ble_eq_true rfl)) dX7_about_12 ⟨Nat.le_of_ble_eq_true rfl, Nat.le_of_ble_eq_true rfl⟩) hS (fun q _ h => hFc q h) hFc (fun u t H1 locs ht hvm hw hB hz1 hk1 hS => ?_)
    obtain ⟨X1_2, Y1_2⟩ := u
    obtain ⟨hP1, hD1⟩ := hB
    rw [ht] at hP1
    have hw_2 : ∀ j, j < (pn pp) → X1_2 j = pX (F 1) pp j ∧ Y1_2 j = pY (F 1) pp j := hw
    obtain ⟨hP, hD⟩ := va_join (wr := []) (w1 := (MW cI cZ a (upd v 7 (nI (pn pp))) su sl (updF (updF F 7 X1_2) 8 Y1_2))) hP hD [0, 1, 2, 3, 4, 5, 6, 7, 8, 9, 10, 11, 12] [] rfl rfl (by decide) (by decide) hk1 hFc hP1 hD1
    generalize H1 = H at hP hS ⊢
    have hP : va_P D vwCl (MW cI cZ a (upd v 7 (nI (pn pp))) su sl (updF (updF F 7 X1_2) 8 Y1_2)) H := hP
    have hD : va_D A (MW cI cZ a (upd v 7 (nI (pn pp))) su sl (updF (updF F 7 X1_2) 8 Y1_2)) := hD
    have hLK_pp : ∀ j, j < pn pp → X1_2 j = pX (F 1) pp j ∧ Y1_2 j = pY (F 1) pp j := hw_2
    have h8_pp := (hs3 pp hpp).2
    refine lv_iload_n hx hb dX7_about_15 rfl (lv_at hl 2 rfl) ?_
    by_cases c_3 : x = 0
    · skip
      refine lv_tableIn (off := 44) (tgt := 60) hx hb dX7_about_16 (by rw [c_3]; decide) (by rw [c_3]; decide) (by rw [c_3]; rfl) (by decide) ?_
      refine lv_aload_n hx hb dX7_about_60 rfl (lv_at hl 0 rfl) ?_
      refine va_get (D := D) (ci := 9) (v := .ref (a 1)) (C := RX7) (T := TX7) (N := 24) hx hb hts (by decide +kernel) hown hK hP 0 rfl rfl 0 (by decide) (hts (.fieldLink RX7 7 "LandDeedsModel" "state" "[I") (by decide +kernel)) (fun _ h9 => h9) rfl dX7_about_61 ?_
      refine lv_iconst (v := 0) hx hb dX7_about_64 (by decide) ?_
      refine lv_iload_n hx hb dX7_about_65 rfl (lv_at hl 1 rfl) ?_
      refine lv_iadd hx hb dX7_about_66 ?_
      refine u_eqi (show 0 + (nI pp) = nI pp from Int32.zero_add _) ?_
      refine u_iald hx hb hK hP 1 0 rfl rfl rfl ⟨by omega, by omega⟩ dX7_about_67 ?_
      rw [← hQ]
      have hP9 := hP
      have hD9 := hD
      exact W.iret (v := (F 1) pp) hx hb hr (fun t ht hW => ⟨⟨_, (upd v 7 (nI (pn pp)), su, sl, updF (updF F 7 X1_2) 8 Y1_2), rfl, ⟨by rw [show aAbout kk pn (pX (F 1)) (pY (F 1)) (F 1) x0 x = _ from (cif_t nc_1).trans (cif_t c_3)]; rw [xpp], ⟨rfl, rfl, rfl, rfl, rfl⟩⟩, by rw [ht]; exact hP9, hD9⟩, hS.F ht⟩) hS.2.2 dX7_about_68
    by_cases c_4 : x = 1
    · skip
      refine lv_tableIn (off := 53) (tgt := 69) hx hb dX7_about_16 (by rw [c_4]; decide) (by rw [c_4]; decide) (by rw [c_4]; rfl) (by decide) ?_
      refine lv_aload_n hx hb dX7_about_69 rfl (lv_at hl 0 rfl) ?_
      refine va_get (D := D) (ci := 9) (v := .int (nI (pn pp))) (C := RX7) (T := TX7) (N := 24) hx hb hts (by decide +kernel) hown hK hP 0 rfl rfl 7 (by decide) (hts (.fieldLink RX7 58 "LandDeedsModel" "calls" "I") (by decide +kernel)) (fun _ h9 => h9) rfl dX7_about_70 ?_
      rw [← hQ]
      have hP9 := hP
      have hD9 := hD
      exact W.iret (v := nI (pn pp)) hx hb hr (fun t ht hW => ⟨⟨_, (upd v 7 (nI (pn pp)), su, sl, updF (updF F 7 X1_2) 8 Y1_2), rfl, ⟨by rw [show aAbout kk pn (pX (F 1)) (pY (F 1)) (F 1) x0 x = _ from (cif_t nc_1).trans ((cif_f c_3).trans (cif_t c_4))]; rw [xpp], ⟨rfl, rfl, rfl, rfl, rfl⟩⟩, by rw [ht]; exact hP9, hD9⟩, hS.F ht⟩) hS.2.2 dX7_about_73
    by_cases c_5 : x = 2
    · skip
      refine lv_tableIn (off := 58) (tgt := 74) hx hb dX7_about_16 (by rw [c_5]; decide) (by rw [c_5]; decide) (by rw [c_5]; rfl) (by decide) ?_
      refine lv_aload_n hx hb dX7_about_74 rfl (lv_at hl 0 rfl) ?_
      have hPc := hP
      refine u_callSi (W.runV (As := []) (rest := []) ⟨hx, hb, hml, hown, hts⟩ (c_X7_twice l D cI cB cZ cP a v su sl F (pn pp) X1_2 Y1_2 (h8_pp)) (cwV 0 hts gX7_about_X7_twice rfl rfl rfl (by decide +kernel) ⟨Nat.le_of_ble_eq_true rfl, Nat.le_of_ble_eq_true rfl⟩) (pV (q0 := 0) hPc hW0 trivial rfl rfl) rfl rfl hl.1 rfl (lv_room (Nat.le_of_ble_eq_true rfl)) dX7_about_75 ⟨Nat.le_of_ble_eq_true rfl, Nat.le_of_ble_eq_true rfl⟩) ?_
      have hPc := hP.sub (ws' := []) [] rfl
      refine u_callSi (W.runS (As := [.int (isum (twt (pn pp) X1_2 Y1_2) (pn pp))]) (rest := []) ⟨hx, hb, hml, hown, hts⟩ (c_X7_size l D cI cB cZ cP (isum (twt (pn pp) X1_2 Y1_2) (pn pp)) ) (cwS 1 hts gX7_about_X7_size rfl rfl rfl (by decide +kernel) ⟨Nat.le_of_ble_eq_true rfl, Nat.le_of_ble_eq_true rfl⟩) (pS hPc hW0 trivial) rfl rfl hl.1 rfl (lv_room (Nat.le_of_ble_eq_true rfl)) dX7_about_78 ⟨Nat.le_of_ble_eq_true rfl, Nat.le_of_ble_eq_true rfl⟩) ?_
      rw [← hQ]
      have hP9 := hP
      have hD9 := hD
      exact W.iret (v := ab (isum (twt (pn pp) X1_2 Y1_2) (pn pp))) hx hb hr (fun t ht hW => ⟨⟨_, (upd v 7 (nI (pn pp)), su, sl, updF (updF F 7 X1_2) 8 Y1_2), rfl, ⟨by rw [show aAbout kk pn (pX (F 1)) (pY (F 1)) (F 1) x0 x = _ from (cif_t nc_1).trans ((cif_f c_3).trans ((cif_f c_4).trans (cif_t c_5)))]; rw [xpp, isum_congr (pn pp) (fun j hj => twt_congr hLK_pp j hj)], ⟨rfl, rfl, rfl, rfl, rfl⟩⟩, by rw [ht]; exact hP9, hD9⟩, hS.F ht⟩) hS.2.2 dX7_about_81
    by_cases c_6 : x = 3
    · skip
      refine lv_tableIn (off := 66) (tgt := 82) hx hb dX7_about_16 (by rw [c_6]; decide) (by rw [c_6]; decide) (by rw [c_6]; rfl) (by decide) ?_
      refine lv_aload_n hx hb dX7_about_82 rfl (lv_at hl 0 rfl) ?_
      have hPc := hP
      refine u_callSi (W.runV (As := []) (rest := []) ⟨hx, hb, hml, hown, hts⟩ (c_X7_twice l D cI cB cZ cP a v su sl F (pn pp) X1_2 Y1_2 (h8_pp)) (cwV 0 hts gX7_about_X7_twice rfl rfl rfl (by decide +kernel) ⟨Nat.le_of_ble_eq_true rfl, Nat.le_of_ble_eq_true rfl⟩) (pV (q0 := 0) hPc hW0 trivial rfl rfl) rfl rfl hl.1 rfl (lv_room (Nat.le_of_ble_eq_true rfl)) dX7_about_83 ⟨Nat.le_of_ble_eq_true rfl, Nat.le_of_ble_eq_true rfl⟩) ?_
      refine lv_if_le (tgt := 93) hx hb dX7_about_86 (by decide) (fun c_7 => ?_) (fun c_7 => ?_)
      · skip
        refine lv_iconst (v := 0) hx hb dX7_about_93 (by decide) ?_
        rw [← hQ]
        have hP9 := hP
        have hD9 := hD
        exact W.iret (v := 0) hx hb hr (fun t ht hW => ⟨⟨_, (upd v 7 (nI (pn pp)), su, sl, updF (updF F 7 X1_2) 8 Y1_2), rfl, ⟨by rw [show aAbout kk pn (pX (F 1)) (pY (F 1)) (F 1) x0 x = _ from (cif_t nc_1).trans ((cif_f c_3).trans ((cif_f c_4).trans ((cif_f c_5).trans (cif_t c_6))))]; rw [xpp, ← isum_congr (pn pp) (fun j hj => twt_congr hLK_pp j hj)]; exact zb_f (Int32.not_lt.mpr c_7), ⟨rfl, rfl, rfl, rfl, rfl⟩⟩, by rw [ht]; exact hP9, hD9⟩, hS.F ht⟩) hS.2.2 dX7_about_94
      · skip
        refine lv_iconst (v := 1) hx hb dX7_about_89 (by decide) ?_
        refine lv_goto (tgt := 94) hx hb dX7_about_90 (by decide) ?_
        rw [← hQ]
        have hP9 := hP
        have hD9 := hD
        exact W.iret (v := 1) hx hb hr (fun t ht hW => ⟨⟨_, (upd v 7 (nI (pn pp)), su, sl, updF (updF F 7 X1_2) 8 Y1_2), rfl, ⟨by rw [show aAbout kk pn (pX (F 1)) (pY (F 1)) (F 1) x0 x = _ from (cif_t nc_1).trans ((cif_f c_3).trans ((cif_f c_4).trans ((cif_f c_5).trans (cif_t c_6))))]; rw [xpp, ← isum_congr (pn pp) (fun j hj => twt_congr hLK_pp j hj)]; exact zb_t (Int32.not_le.mp c_7), ⟨rfl, rfl, rfl, rfl, rfl⟩⟩, by rw [ht]; exact hP9, hD9⟩, hS.F ht⟩) hS.2.2 dX7_about_94
    by_cases c_8 : x = 4
    · skip
      refine lv_tableIn (off := 79) (tgt := 95) hx hb dX7_about_16 (by rw [c_8]; decide) (by rw [c_8]; decide) (by rw [c_8]; rfl) (by decide) ?_
      refine lv_aload_n hx hb dX7_about_95 rfl (lv_at hl 0 rfl) ?_
      refine lv_iconst (v := 2) hx hb dX7_about_96 (by decide) ?_
      have hPc := hP
      refine u_callSi (W.runV (As := [.int 2]) (rest := []) ⟨hx, hb, hml, hown, hts⟩ (c_X7_postsOf l D cI cB cZ cP a v su sl F (pn pp) X1_2 Y1_2 2 (h8_pp) (Nat.le_refl _)) (cwV 1 hts gX7_about_X7_postsOf rfl rfl rfl (by decide +kernel) ⟨Nat.le_of_ble_eq_true rfl, Nat.le_of_ble_eq_true rfl⟩) (pV (q0 := 0) hPc hW0 trivial rfl rfl) rfl rfl hl.1 rfl (lv_room (Nat.le_of_ble_eq_true rfl)) dX7_about_97 ⟨Nat.le_of_ble_eq_true rfl, Nat.le_of_ble_eq_true rfl⟩) ?_
      rw [← hQ]
      have hP9 := hP
      have hD9 := hD
      exact W.iret (v := nI (cnt (fun z => lies (pn pp) X1_2 Y1_2 (qX z) (qY z) = 2) 1024)) hx hb hr (fun t ht hW => ⟨⟨_, (upd v 7 (nI (pn pp)), su, sl, updF (updF F 7 X1_2) 8 Y1_2), rfl, ⟨by rw [show aAbout kk pn (pX (F 1)) (pY (F 1)) (F 1) x0 x = _ from (cif_t nc_1).trans ((cif_f c_3).trans ((cif_f c_4).trans ((cif_f c_5).trans ((cif_f c_6).trans (cif_t c_8)))))]; rw [xpp]; exact congrArg nI (cnt_congr2 (fun j hj => by rw [lies_congr hLK_pp])), ⟨rfl, rfl, rfl, rfl, rfl⟩⟩, by rw [ht]; exact hP9, hD9⟩, hS.F ht⟩) hS.2.2 dX7_about_100
    by_cases c_9 : x = 5
    · skip
      refine lv_tableIn (off := 85) (tgt := 101) hx hb dX7_about_16 (by rw [c_9]; decide) (by rw [c_9]; decide) (by rw [c_9]; rfl) (by decide) ?_
      refine lv_aload_n hx hb dX7_about_101 rfl (lv_at hl 0 rfl) ?_
      refine lv_iconst (v := 1) hx hb dX7_about_102 (by decide) ?_
      have hPc := hP
      refine u_callSi (W.runV (As := [.int 1]) (rest := []) ⟨hx, hb, hml, hown, hts⟩ (c_X7_postsOf l D cI cB cZ cP a v su sl F (pn pp) X1_2 Y1_2 1 (h8_pp) (by decide)) (cwV 1 hts gX7_about_X7_postsOf rfl rfl rfl (by decide +kernel) ⟨Nat.le_of_ble_eq_true rfl, Nat.le_of_ble_eq_true rfl⟩) (pV (q0 := 0) hPc hW0 trivial rfl rfl) rfl rfl hl.1 rfl (lv_room (Nat.le_of_ble_eq_true rfl)) dX7_about_103 ⟨Nat.le_of_ble_eq_true rfl, Nat.le_of_ble_eq_true rfl⟩) ?_
      rw [← hQ]
      have hP9 := hP
      have hD9 := hD
      exact W.iret (v := nI (cnt (fun z => lies (pn pp) X1_2 Y1_2 (qX z) (qY z) = 1) 1024)) hx hb hr (fun t ht hW => ⟨⟨_, (upd v 7 (nI (pn pp)), su, sl, updF (updF F 7 X1_2) 8 Y1_2), rfl, ⟨by rw [show aAbout kk pn (pX (F 1)) (pY (F 1)) (F 1) x0 x = _ from (cif_t nc_1).trans ((cif_f c_3).trans ((cif_f c_4).trans ((cif_f c_5).trans ((cif_f c_6).trans ((cif_f c_8).trans (cif_t c_9))))))]; rw [xpp]; exact congrArg nI (cnt_congr2 (fun j hj => by rw [lies_congr hLK_pp])), ⟨rfl, rfl, rfl, rfl, rfl⟩⟩, by rw [ht]; exact hP9, hD9⟩, hS.F ht⟩) hS.2.2 dX7_about_106
    by_cases c_10 : x = 6
    · skip
      refine lv_tableIn (off := 91) (tgt := 107) hx hb dX7_about_16 (by rw [c_10]; decide) (by rw [c_10]; decide) (by rw [c_10]; rfl) (by decide) ?_
      refine lv_aload_n hx hb dX7_about_107 rfl (lv_at hl 0 rfl) ?_
      refine lv_iload_n hx hb dX7_about_108 rfl (lv_at hl 1 rfl) ?_
      have hPc := hP
      have hDc := hD
      have hFc := va_free (wc := (MW cI cZ a (upd v 7 (nI (pn pp))) su sl (updF (updF F 7 X1_2) 8 Y1_2))) hD hS hA [0, 1, 2, 3, 4, 5, 6, 7, 8, 9, 10, 11, 12] rfl
      refine va_calli (va_runV (As := [.int (nI pp)]) (rest := []) ⟨hx, hb, hml, hown, hts⟩ (c_X7_lostBy l D cI cB cZ cP H.size a (upd v 7 (nI (pn pp))) su sl (updF (updF F 7 X1_2) 8 Y1_2) kk pn pp (by first | assumption | omega) (by first | assumption | omega)) (cwV 1 hts gX7_about_X7_lostBy rfl rfl rfl (by decide +kernel) ⟨Nat.le_of_ble_eq_true rfl, Nat.le_of_ble_eq_true rfl⟩) (pVQ (q0 := 0) hPc hDc hW0 EF.t rfl rfl) rfl rfl hl.1 rfl (lv_room (Nat.le_of_ble_eq_true rfl)) dX7_about_109 ⟨Nat.le_of_ble_eq_true rfl, Nat.le_of_ble_eq_true rfl⟩) hS (fun q _ h => hFc q h) hFc (fun r_11 u t H1 locs ht hvm hw hB hz1 hk1 hS => ?_)
      obtain ⟨v1_11, su1_11, sl1_11, F1_11⟩ := u
      obtain ⟨hP1, hD1⟩ := hB
      rw [ht] at hP1
      have hw_11 : r_11 = aLost kk pn (pX ((updF (updF F 7 X1_2) 8 Y1_2) 1)) (pY ((updF (updF F 7 X1_2) 8 Y1_2) 1)) ((updF (updF F 7 X1_2) 8 Y1_2) 1) pp ∧ keepM (upd v 7 (nI (pn pp))) (updF (updF F 7 X1_2) 8 Y1_2) v1_11 F1_11 := hw
      obtain ⟨hP, hD⟩ := va_join (wr := []) (w1 := (MW cI cZ a v1_11 su1_11 sl1_11 F1_11)) hP hD [0, 1, 2, 3, 4, 5, 6, 7, 8, 9, 10, 11, 12] [] rfl rfl (by decide) (by decide) hk1 hFc hP1 hD1
      generalize H1 = H at hP hS ⊢
      have hP : va_P D vwCl (MW cI cZ a v1_11 su1_11 sl1_11 F1_11) H := hP
      have hD : va_D A (MW cI cZ a v1_11 su1_11 sl1_11 F1_11) := hD
      rw [← hQ]
      have hP9 := hP
      have hD9 := hD
      exact W.iret (v := r_11) hx hb hr (fun t ht hW => ⟨⟨_, (v1_11, su1_11, sl1_11, F1_11), rfl, ⟨by rw [show aAbout kk pn (pX (F 1)) (pY (F 1)) (F 1) x0 x = _ from (cif_t nc_1).trans ((cif_f c_3).trans ((cif_f c_4).trans ((cif_f c_5).trans ((cif_f c_6).trans ((cif_f c_8).trans ((cif_f c_9).trans (cif_t c_10))))))), xpp]; exact hw_11.1, ⟨hw_11.2.1, hw_11.2.2.1, hw_11.2.2.2.1, hw_11.2.2.2.2.1, hw_11.2.2.2.2.2⟩⟩, by rw [ht]; exact hP9, hD9⟩, hS.F ht⟩) hS.2.2 dX7_about_112
    refine lv_tableOut (tgt := 113) hx hb dX7_about_16 (by have := u_sw7 ‹¬ x = 0› ‹¬ x = 1› ‹¬ x = 2› ‹¬ x = 3› ‹¬ x = 4› ‹¬ x = 5› ‹¬ x = 6›; omega) (by decide) ?_
    refine lv_bipush (v := (-2)) hx hb dX7_about_113 (by decide) ?_
    rw [← hQ]
    have hP9 := hP
    have hD9 := hD
    exact W.iret (v := (-2)) hx hb hr (fun t ht hW => ⟨⟨_, (upd v 7 (nI (pn pp)), su, sl, updF (updF F 7 X1_2) 8 Y1_2), rfl, ⟨by rw [show aAbout kk pn (pX (F 1)) (pY (F 1)) (F 1) x0 x = _ from (cif_t nc_1).trans ((cif_f c_3).trans ((cif_f c_4).trans ((cif_f c_5).trans ((cif_f c_6).trans ((cif_f c_8).trans ((cif_f c_9).trans ((cif_f c_10))))))))], ⟨rfl, rfl, rfl, rfl, rfl⟩⟩, by rw [ht]; exact hP9, hD9⟩, hS.F ht⟩) hS.2.2 dX7_about_115
  · skip
    have nc_1 := zb_eq0.mp c_1
    refine lv_iconst (v := (-1)) hx hb dX7_about_8 (by decide) ?_
    rw [← hQ]
    have hP9 := hP
    have hD9 := hD
    exact W.iret (v := (-1)) hx hb hr (fun t ht hW => ⟨⟨_, (v, su, sl, F), rfl, ⟨(cif_f nc_1).symm, ⟨rfl, rfl, rfl, rfl, rfl⟩⟩, by rw [ht]; exact hP9, hD9⟩, hS.F ht⟩) hS.2.2 dX7_about_9

set_option maxHeartbeats 4000000 in
set_option maxRecDepth 100000 in
theorem c_X7_heldByMore (l : Launch) (D : va_G) (cI cB cZ cP : ClassId) (sz : Nat) (a : Nat → Nat) (v : Nat → Int32) (su sl : Int64) (F : Nat → Nat → Int32) (kk : Nat) (pn : Nat → Nat) (hSM : stM (F 1) kk pn) : Met l yX7_heldByMore wsX7_heldByMore ({ frames := 5, cells := 0, slots := 0, locals := 118 } : Room) (va_Pc [.ref (a 0)] (fun U => U.heap.size = sz ∧ va_P D vwCl (MW cI cZ a v su sl F) U.heap ∧ KW D cI cB cZ cP U ∧ va_D (fun _ => True) (MW cI cZ a v su sl F) ∧ EF (MW cI cZ a v su sl F) sz E0 U.heap)) (va_Qi (fun r (u : (Nat → Int32) × Int64 × Int64 × (Nat → Nat → Int32)) => match u with | (v1, su1, sl1, F1) => r = aMore kk pn (pX (F 1)) (pY (F 1)) ∧ keepM v F v1 F1) (fun (u : (Nat → Int32) × Int64 × Int64 × (Nat → Nat → Int32)) (t : State) => match u with | (v1, su1, sl1, F1) => va_P D vwCl (MW cI cZ a v1 su1 sl1 F1) t.heap ∧ va_D (va_A (MW cI cZ a v su sl F) sz) (MW cI cZ a v1 su1 sl1 F1)) (va_A (MW cI cZ a v su sl F) sz)) 0 0 (va_A (MW cI cZ a v su sl F) sz) := by
  refine Met.ofW (cc := cX7_heldByMore) (maxL := 3) (ret := (some .int)) (by decide) rfl ?_
  intro p e s m args below meth c s₁ B hml hv
  obtain ⟨rfl, hsz, hP, hW0, hD0, hE⟩ := hv
  have hx := B.exec
  have hb := B.bytes
  have hr := B.returns
  have hts := atoms_spec (ws := wsX7_heldByMore) B.pre
  have hown : s.vm.findClass RX7 = some m.cls := findClass_of_methodNamed B.named
  have hlocks := B.notSynchronized
  have hK := hW0.1
  subst hsz
  have hD := hD0.self (sz := s.heap.size)
  unfold EF at hE
  generalize hAe : va_A (MW cI cZ a v su sl F) s.heap.size = A at hD hE ⊢
  have hA : ∀ q : Nat, s.heap.size ≤ q → A q := fun q h => by rw [← hAe]; exact Or.inr h
  have hS : va_S A s.heap s.heap [] := va_S.rf
  have hl := lv_entry ([.ref (a 0)]) (n := 3) (Nat.le_of_ble_eq_true rfl)
  rw [lg_entry_eq]
  generalize (lg_sl ([.ref (a 0)]) ++ List.replicate (3 - (lg_sl ([.ref (a 0)])).length) Slot.unset).toArray = ls at hl ⊢
  have hl : lv_has ls 3 [(0, .ref (a 0))] := hl
  show W p l e ({ frames := 5, cells := 0, slots := 0, locals := 118 } : Room) s m ([.ref (a 0)] : List Value).toArray below meth c s.heap [] 0 0 _ (F0 m 0 ls [])
  refine u_genQ (fun Q hQ => ?_)
  obtain ⟨hs1, hs2, hs3⟩ := id hSM
  refine lv_iconst (v := 0) hx hb dX7_heldByMore_0 (by decide) ?_
  refine lv_istore_n (lv' := [(1, .int 0), (0, .ref (a 0))]) hx hb dX7_heldByMore_1 rfl hl (by decide) rfl (fun ls hl => ?_)
  have LOOP_2 : ∀ (fu : Nat) (z : Nat) (O : Nat → Int32) (hz : z ≤ 1024) (hO : ∀ j, j < z → O j = 0) (hn : 1024 - z < fu) (H : Heap) (locs : List Loc) (hP : va_P D vwCl (MW cI cZ a v su sl (updF F 11 O)) H) (hD : va_D A (MW cI cZ a v su sl (updF F 11 O))) (hS : va_S A s.heap H locs) (ls : Array Slot) (hl : lv_has ls 3 [(0, .ref (a 0)), (1, .int (nI z))]), W p l e ({ frames := 5, cells := 0, slots := 0, locals := 118 } : Room) s m ([.ref (a 0)] : List Value).toArray below meth c H locs 0 0 Q (F0 m 2 ls []) := by
    intro fu
    induction fu with
    | zero => intro z O hz hO hn H locs hP hD hS ls hl; exact absurd hn (Nat.not_lt_zero _)
    | succ fu ih_2 =>
      intro z O hz hO hn H locs hP hD hS ls hl
      refine lv_iload_n hx hb dX7_heldByMore_2 rfl (lv_at hl 1 rfl) ?_
      refine lv_sipush (v := 1024) hx hb dX7_heldByMore_3 (by decide) ?_
      refine lv_icmp_ge (tgt := 22) hx hb dX7_heldByMore_6 (by decide) (fun c_1 => ?_) (fun c_1 => ?_)
      · skip
        have nc_1 : 1024 ≤ z := (nI_leI (a := 1024) (b := z) (by omega) (by omega)).mp c_1
        refine lv_iconst (v := 0) hx hb dX7_heldByMore_22 (by decide) ?_
        refine lv_istore_n (lv' := [(1, .int 0), (0, .ref (a 0))]) hx hb dX7_heldByMore_23 rfl hl (by decide) rfl (fun ls hl => ?_)
        have LOOP_24 : ∀ (fu : Nat) (pp : Nat) (c1 : Int32) (X1 : Nat → Int32) (Y1 : Nat → Int32) (O1 : Nat → Int32) (hpp : pp ≤ kk) (hO1 : ∀ j, j < 1024 → O1 j = nI (cnt (fun q9 => hlp pn (pX (F 1)) (pY (F 1)) q9 j) pp)) (hn : kk - pp < fu) (H : Heap) (locs : List Loc) (hP : va_P D vwCl (MW cI cZ a (upd v 7 c1) su sl (updF (updF (updF F 7 X1) 8 Y1) 11 O1)) H) (hD : va_D A (MW cI cZ a (upd v 7 c1) su sl (updF (updF (updF F 7 X1) 8 Y1) 11 O1))) (hS : va_S A s.heap H locs) (ls : Array Slot) (hl : lv_has ls 3 [(0, .ref (a 0)), (1, .int (nI pp))]), W p l e ({ frames := 5, cells := 0, slots := 0, locals := 118 } : Room) s m ([.ref (a 0)] : List Value).toArray below meth c H locs 0 0 Q (F0 m 24 ls []) := by
          intro fu
          induction fu with
          | zero => intro pp c1 X1 Y1 O1 hpp hO1 hn H locs hP hD hS ls hl; exact absurd hn (Nat.not_lt_zero _)
          | succ fu ih_24 =>
            intro pp c1 X1 Y1 O1 hpp hO1 hn H locs hP hD hS ls hl
            refine lv_iload_n hx hb dX7_heldByMore_24 rfl (lv_at hl 1 rfl) ?_
            refine lv_aload_n hx hb dX7_heldByMore_25 rfl (lv_at hl 0 rfl) ?_
            refine va_get (D := D) (ci := 9) (v := .ref (a 1)) (C := RX7) (T := TX7) (N := 24) hx hb hts (by decide +kernel) hown hK hP 0 rfl rfl 0 (by decide) (hts (.fieldLink RX7 7 "LandDeedsModel" "state" "[I") (by decide +kernel)) (fun _ h9 => h9) rfl dX7_heldByMore_26 ?_
            refine lv_bipush (v := 108) hx hb dX7_heldByMore_29 (by decide) ?_
            refine u_iald hx hb hK hP 1 0 rfl rfl rfl ⟨by decide, by decide⟩ dX7_heldByMore_31 ?_
            refine u_eqi (show (F 1) 108 = nI kk from hs1) ?_
            refine lv_icmp_ge (tgt := 90) hx hb dX7_heldByMore_32 (by decide) (fun c_2 => ?_) (fun c_2 => ?_)
            · skip
              have nc_2 : kk ≤ pp := (nI_leI (a := kk) (b := pp) (by omega) (by omega)).mp c_2
              have hpk9 : pp = kk := by omega
              refine lv_iconst (v := 0) hx hb dX7_heldByMore_90 (by decide) ?_
              refine lv_istore_n (lv' := [(1, .int 0), (0, .ref (a 0))]) hx hb dX7_heldByMore_91 rfl hl (by decide) rfl (fun ls hl => ?_)
              refine lv_iconst (v := 0) hx hb dX7_heldByMore_92 (by decide) ?_
              refine lv_istore_n (lv' := [(2, .int 0), (1, .int 0), (0, .ref (a 0))]) hx hb dX7_heldByMore_93 rfl hl (by decide) rfl (fun ls hl => ?_)
              have LOOP_94 : ∀ (fu : Nat) (z : Nat) (hz : z ≤ 1024) (hn : 1024 - z < fu) (H : Heap) (locs : List Loc) (hP : va_P D vwCl (MW cI cZ a (upd v 7 c1) su sl (updF (updF (updF F 7 X1) 8 Y1) 11 O1)) H) (hD : va_D A (MW cI cZ a (upd v 7 c1) su sl (updF (updF (updF F 7 X1) 8 Y1) 11 O1))) (hS : va_S A s.heap H locs) (ls : Array Slot) (hl : lv_has ls 3 [(0, .ref (a 0)), (1, .int (nI (cnt (fun z => 1 < cnt (fun q9 => hlp pn (pX (F 1)) (pY (F 1)) q9 z) kk) z))), (2, .int (nI z))]), W p l e ({ frames := 5, cells := 0, slots := 0, locals := 118 } : Room) s m ([.ref (a 0)] : List Value).toArray below meth c H locs 0 0 Q (F0 m 94 ls []) := by
                intro fu
                induction fu with
                | zero => intro z hz hn H locs hP hD hS ls hl; exact absurd hn (Nat.not_lt_zero _)
                | succ fu ih_94 =>
                  intro z hz hn H locs hP hD hS ls hl
                  refine lv_iload_n hx hb dX7_heldByMore_94 rfl (lv_at hl 2 rfl) ?_
                  refine lv_sipush (v := 1024) hx hb dX7_heldByMore_95 (by decide) ?_
                  refine lv_icmp_ge (tgt := 125) hx hb dX7_heldByMore_98 (by decide) (fun c_3 => ?_) (fun c_3 => ?_)
                  · skip
                    have nc_3 : 1024 ≤ z := (nI_leI (a := 1024) (b := z) (by omega) (by omega)).mp c_3
                    refine lv_iload_n hx hb dX7_heldByMore_125 rfl (lv_at hl 1 rfl) ?_
                    rw [← hQ]
                    have hP9 := hP
                    have hD9 := hD
                    exact W.iret (v := nI (cnt (fun z => 1 < cnt (fun q9 => hlp pn (pX (F 1)) (pY (F 1)) q9 z) kk) z)) hx hb hr (fun t ht hW => ⟨⟨_, (upd v 7 c1, su, sl, updF (updF (updF F 7 X1) 8 Y1) 11 O1), rfl, ⟨by unfold aMore; rw [show z = 1024 by omega], ⟨rfl, rfl, rfl, rfl, rfl⟩⟩, by rw [ht]; exact hP9, hD9⟩, hS.F ht⟩) hS.2.2 dX7_heldByMore_126
                  · skip
                    have nc_3 : ¬ (1024 ≤ z) := fun h => c_3 ((nI_leI (a := 1024) (b := z) (by omega) (by omega)).mpr h)
                    have hcl9 := cnt_le (fun q9 => hlp pn (pX (F 1)) (pY (F 1)) q9 z) kk
                    refine lv_iload_n hx hb dX7_heldByMore_101 rfl (lv_at hl 1 rfl) ?_
                    refine lv_aload_n hx hb dX7_heldByMore_102 rfl (lv_at hl 0 rfl) ?_
                    refine va_get (D := D) (ci := 9) (v := .ref (a 11)) (C := RX7) (T := TX7) (N := 24) hx hb hts (by decide +kernel) hown hK hP 0 rfl rfl 21 (by decide) (hts (.fieldLink RX7 41 "LandDeedsModel" "lain" "[I") (by decide +kernel)) (fun _ h9 => h9) rfl dX7_heldByMore_103 ?_
                    refine lv_iload_n hx hb dX7_heldByMore_106 rfl (lv_at hl 2 rfl) ?_
                    refine u_iald hx hb hK hP 11 0 rfl rfl rfl ⟨by omega, by omega⟩ dX7_heldByMore_107 ?_
                    refine u_eqi (show O1 z = nI (cnt (fun q9 => hlp pn (pX (F 1)) (pY (F 1)) q9 z) kk) from by rw [← hpk9]; exact hO1 z (by omega)) ?_
                    refine lv_iconst (v := 1) hx hb dX7_heldByMore_108 (by decide) ?_
                    refine lv_icmp_le (tgt := 116) hx hb dX7_heldByMore_109 (by decide) (fun c_4 => ?_) (fun c_4 => ?_)
                    · skip
                      have nc_4 : cnt (fun q9 => hlp pn (pX (F 1)) (pY (F 1)) q9 z) kk ≤ 1 := (nI_leI (a := (cnt (fun q9 => hlp pn (pX (F 1)) (pY (F 1)) q9 z) kk)) (b := 1) (by omega) (by omega)).mp c_4
                      refine lv_iconst (v := 0) hx hb dX7_heldByMore_116 (by decide) ?_
                      refine lv_iadd hx hb dX7_heldByMore_117 ?_
                      refine u_eqi (show (nI (cnt (fun z => 1 < cnt (fun q9 => hlp pn (pX (F 1)) (pY (F 1)) q9 z) kk) z)) + 0 = nI (cnt (fun z => 1 < cnt (fun q9 => hlp pn (pX (F 1)) (pY (F 1)) q9 z) kk) z) from Int32.add_zero _) ?_
                      refine lv_istore_n (lv' := [(1, .int (nI (cnt (fun z => 1 < cnt (fun q9 => hlp pn (pX (F 1)) (pY (F 1)) q9 z) kk) z))), (0, .ref (a 0)), (2, .int (nI z))]) hx hb dX7_heldByMore_118 rfl hl (by decide) rfl (fun ls hl => ?_)
                      refine lv_iinc (v := nI (z + 1)) (lv' := [(2, .int (nI (z + 1))), (1, .int (nI (cnt (fun z => 1 < cnt (fun q9 => hlp pn (pX (F 1)) (pY (F 1)) q9 z) kk) z))), (0, .ref (a 0))]) hx hb dX7_heldByMore_119 hl (k := 2) rfl (nI_1 _) (by decide) rfl (fun ls hl => ?_)
                      refine lv_goto (tgt := 94) hx hb dX7_heldByMore_122 (by decide) ?_
                      exact ih_94 (z + 1) (by omega) (by omega) _ _ hP hD hS ls (by rw [cnt_f (P := fun z => 1 < cnt (fun q9 => hlp pn (pX (F 1)) (pY (F 1)) q9 z) kk) (show ¬ 1 < _ by omega)]; exact (lv_sub hl [2, 1, 0] rfl))
                    · skip
                      have nc_4 : ¬ (cnt (fun q9 => hlp pn (pX (F 1)) (pY (F 1)) q9 z) kk ≤ 1) := fun h => c_4 ((nI_leI (a := (cnt (fun q9 => hlp pn (pX (F 1)) (pY (F 1)) q9 z) kk)) (b := 1) (by omega) (by omega)).mpr h)
                      refine lv_iconst (v := 1) hx hb dX7_heldByMore_112 (by decide) ?_
                      refine lv_goto (tgt := 117) hx hb dX7_heldByMore_113 (by decide) ?_
                      refine lv_iadd hx hb dX7_heldByMore_117 ?_
                      refine u_eqi (show (nI (cnt (fun z => 1 < cnt (fun q9 => hlp pn (pX (F 1)) (pY (F 1)) q9 z) kk) z)) + 1 = nI (cnt (fun z => 1 < cnt (fun q9 => hlp pn (pX (F 1)) (pY (F 1)) q9 z) kk) z + 1) from nI_1 _) ?_
                      refine lv_istore_n (lv' := [(1, .int (nI (cnt (fun z => 1 < cnt (fun q9 => hlp pn (pX (F 1)) (pY (F 1)) q9 z) kk) z + 1))), (0, .ref (a 0)), (2, .int (nI z))]) hx hb dX7_heldByMore_118 rfl hl (by decide) rfl (fun ls hl => ?_)
                      refine lv_iinc (v := nI (z + 1)) (lv' := [(2, .int (nI (z + 1))), (1, .int (nI (cnt (fun z => 1 < cnt (fun q9 => hlp pn (pX (F 1)) (pY (F 1)) q9 z) kk) z + 1))), (0, .ref (a 0))]) hx hb dX7_heldByMore_119 hl (k := 2) rfl (nI_1 _) (by decide) rfl (fun ls hl => ?_)
                      refine lv_goto (tgt := 94) hx hb dX7_heldByMore_122 (by decide) ?_
                      exact ih_94 (z + 1) (by omega) (by omega) _ _ hP hD hS ls (by rw [cnt_t (P := fun z => 1 < cnt (fun q9 => hlp pn (pX (F 1)) (pY (F 1)) q9 z) kk) (show 1 < _ by omega)]; exact (lv_sub hl [2, 1, 0] rfl))
              exact LOOP_94 (1024 - 0 + 1) 0 (Nat.zero_le _) (Nat.lt_succ_self _) _ _ hP hD hS ls (lv_sub hl [2, 1, 0] rfl)
            · skip
              have nc_2 : ¬ (kk ≤ pp) := fun h => c_2 ((nI_leI (a := kk) (b := pp) (by omega) (by omega)).mpr h)
              have hpk8 : pp < kk := by omega
              refine lv_aload_n hx hb dX7_heldByMore_35 rfl (lv_at hl 0 rfl) ?_
              refine lv_iload_n hx hb dX7_heldByMore_36 rfl (lv_at hl 1 rfl) ?_
              have hPc := hP
              have hDc := hD
              have hFc := va_free (wc := (MW cI cZ a (upd v 7 c1) su sl (updF (updF (updF F 7 X1) 8 Y1) 11 O1))) hD hS hA [0, 1, 2, 3, 4, 5, 6, 7, 8, 9, 10, 11, 12] rfl
              refine va_callv (va_runV (As := [.int (nI pp)]) (rest := []) ⟨hx, hb, hml, hown, hts⟩ (c_X7_look l D cI cB cZ cP H.size a (upd v 7 c1) su sl (updF (updF (updF F 7 X1) 8 Y1) 11 O1) pp (pn pp) (by omega) ((hs3 pp hpk8).2) ((hs3 pp hpk8).1)) (cwV 1 hts gX7_heldByMore_X7_look rfl rfl rfl (by decide +kernel) ⟨Nat.le_of_ble_eq_true rfl, Nat.le_of_ble_eq_true rfl⟩) (pVQ (q0 := 0) hPc hDc hW0 EF.t rfl rfl) rfl rfl hl.1 rfl (lv_room (Nat.le_of_ble_eq_true rfl)) dX7_heldByMore_37 ⟨Nat.le_of_ble_eq_true rfl, Nat.le_of_ble_eq_true rfl⟩) hS (fun q _ h => hFc q h) hFc (fun u t H1 locs ht hvm hw hB hz1 hk1 hS => ?_)
              obtain ⟨X1_5, Y1_5⟩ := u
              obtain ⟨hP1, hD1⟩ := hB
              rw [ht] at hP1
              have hw_5 : ∀ j, j < (pn pp) → X1_5 j = pX ((updF (updF (updF F 7 X1) 8 Y1) 11 O1) 1) pp j ∧ Y1_5 j = pY ((updF (updF (updF F 7 X1) 8 Y1) 11 O1) 1) pp j := hw
              obtain ⟨hP, hD⟩ := va_join (wr := []) (w1 := (MW cI cZ a (upd v 7 (nI (pn pp))) su sl (updF (updF (updF F 7 X1_5) 8 Y1_5) 11 O1))) hP hD [0, 1, 2, 3, 4, 5, 6, 7, 8, 9, 10, 11, 12] [] rfl rfl (by decide) (by decide) hk1 hFc hP1 hD1
              generalize H1 = H at hP hS ⊢
              have hP : va_P D vwCl (MW cI cZ a (upd v 7 (nI (pn pp))) su sl (updF (updF (updF F 7 X1_5) 8 Y1_5) 11 O1)) H := hP
              have hD : va_D A (MW cI cZ a (upd v 7 (nI (pn pp))) su sl (updF (updF (updF F 7 X1_5) 8 Y1_5) 11 O1)) := hD
              have hw_LOOK : ∀ j, j < pn pp → X1_5 j = pX (F 1) pp j ∧ Y1_5 j = pY (F 1) pp j := hw_5
              refine lv_iconst (v := 0) hx hb dX7_heldByMore_40 (by decide) ?_
              refine lv_istore_n (lv' := [(2, .int 0), (0, .ref (a 0)), (1, .int (nI pp))]) hx hb dX7_heldByMore_41 rfl hl (by decide) rfl (fun ls hl => ?_)
              have LOOP_42 : ∀ (fu : Nat) (z : Nat) (O1 : Nat → Int32) (hz : z ≤ 1024) (hO1 : ∀ j, j < z → O1 j = nI (cnt (fun q9 => hlp pn (pX (F 1)) (pY (F 1)) q9 j) (pp + 1))) (hO2 : ∀ j, z ≤ j → j < 1024 → O1 j = nI (cnt (fun q9 => hlp pn (pX (F 1)) (pY (F 1)) q9 j) pp)) (hn : 1024 - z < fu) (H : Heap) (locs : List Loc) (hP : va_P D vwCl (MW cI cZ a (upd v 7 (nI (pn pp))) su sl (updF (updF (updF F 7 X1_5) 8 Y1_5) 11 O1)) H) (hD : va_D A (MW cI cZ a (upd v 7 (nI (pn pp))) su sl (updF (updF (updF F 7 X1_5) 8 Y1_5) 11 O1))) (hS : va_S A s.heap H locs) (ls : Array Slot) (hl : lv_has ls 3 [(0, .ref (a 0)), (1, .int (nI pp)), (2, .int (nI z))]), W p l e ({ frames := 5, cells := 0, slots := 0, locals := 118 } : Room) s m ([.ref (a 0)] : List Value).toArray below meth c H locs 0 0 Q (F0 m 42 ls []) := by
                intro fu
                induction fu with
                | zero => intro z O1 hz hO1 hO2 hn H locs hP hD hS ls hl; exact absurd hn (Nat.not_lt_zero _)
                | succ fu ih_42 =>
                  intro z O1 hz hO1 hO2 hn H locs hP hD hS ls hl
                  refine lv_iload_n hx hb dX7_heldByMore_42 rfl (lv_at hl 2 rfl) ?_
                  refine lv_sipush (v := 1024) hx hb dX7_heldByMore_43 (by decide) ?_
                  refine lv_icmp_ge (tgt := 84) hx hb dX7_heldByMore_46 (by decide) (fun c_6 => ?_) (fun c_6 => ?_)
                  · skip
                    have nc_6 : 1024 ≤ z := (nI_leI (a := 1024) (b := z) (by omega) (by omega)).mp c_6
                    refine lv_iinc (v := nI (pp + 1)) (lv' := [(1, .int (nI (pp + 1))), (0, .ref (a 0)), (2, .int (nI z))]) hx hb dX7_heldByMore_84 hl (k := 1) rfl (nI_1 _) (by decide) rfl (fun ls hl => ?_)
                    refine lv_goto (tgt := 24) hx hb dX7_heldByMore_87 (by decide) ?_
                    exact ih_24 (pp + 1) (nI (pn pp)) X1_5 Y1_5 O1 (by omega) (fun j h => hO1 j (by omega)) (by omega) _ _ hP hD hS ls (lv_sub hl [1, 0] rfl)
                  · skip
                    have nc_6 : ¬ (1024 ≤ z) := fun h => c_6 ((nI_leI (a := 1024) (b := z) (by omega) (by omega)).mpr h)
                    refine lv_aload_n hx hb dX7_heldByMore_49 rfl (lv_at hl 0 rfl) ?_
                    refine va_get (D := D) (ci := 9) (v := .ref (a 11)) (C := RX7) (T := TX7) (N := 24) hx hb hts (by decide +kernel) hown hK hP 0 rfl rfl 21 (by decide) (hts (.fieldLink RX7 41 "LandDeedsModel" "lain" "[I") (by decide +kernel)) (fun _ h9 => h9) rfl dX7_heldByMore_50 ?_
                    refine lv_iload_n hx hb dX7_heldByMore_53 rfl (lv_at hl 2 rfl) ?_
                    refine lv_dup2_11 hx hb dX7_heldByMore_54 rfl rfl ?_
                    refine u_iald hx hb hK hP 11 0 rfl rfl rfl ⟨by omega, by omega⟩ dX7_heldByMore_55 ?_
                    refine lv_aload_n hx hb dX7_heldByMore_56 rfl (lv_at hl 0 rfl) ?_
                    refine lv_iload_n hx hb dX7_heldByMore_57 rfl (lv_at hl 2 rfl) ?_
                    refine lv_bipush (v := 32) hx hb dX7_heldByMore_58 (by decide) ?_
                    refine lv_irem hx hb dX7_heldByMore_60 (by decide) ?_
                    refine u_eqi (show (nI z) - (nI z) / 32 * 32 = nI (z % 32) from (div32 (by omega)).2) ?_
                    refine lv_iload_n hx hb dX7_heldByMore_61 rfl (lv_at hl 2 rfl) ?_
                    refine lv_bipush (v := 32) hx hb dX7_heldByMore_62 (by decide) ?_
                    refine lv_idiv hx hb dX7_heldByMore_64 (by decide) ?_
                    refine u_eqi (show (nI z) / 32 = nI (z / 32) from (div32 (by omega)).1) ?_
                    have hPc := hP
                    refine u_callSi (W.runV (As := [.int (nI (z % 32)), .int (nI (z / 32))]) (rest := [.int (O1 z), .int (nI z), .ref (a 11)]) ⟨hx, hb, hml, hown, hts⟩ (c_X7_liesNow l D cI cB cZ cP a v su sl (updF F 11 O1) (pn pp) X1_5 Y1_5 (nI (z % 32)) (nI (z / 32)) ((hs3 pp hpk8).2)) (cwV 2 hts gX7_heldByMore_X7_liesNow rfl rfl rfl (by decide +kernel) ⟨Nat.le_of_ble_eq_true rfl, Nat.le_of_ble_eq_true rfl⟩) (pV (q0 := 0) hPc hW0 trivial rfl rfl) rfl rfl hl.1 rfl (lv_room (Nat.le_of_ble_eq_true rfl)) dX7_heldByMore_65 ⟨Nat.le_of_ble_eq_true rfl, Nat.le_of_ble_eq_true rfl⟩) ?_
                    have hle9 := lies_le (pn pp) X1_5 Y1_5 (nI (z % 32)) (nI (z / 32))
                    refine lv_if_le (tgt := 75) hx hb dX7_heldByMore_68 (by decide) (fun c_7 => ?_) (fun c_7 => ?_)
                    · skip
                      have nc_7 : lies (pn pp) X1_5 Y1_5 (nI (z % 32)) (nI (z / 32)) ≤ 0 := (nI_leI (a := (lies (pn pp) X1_5 Y1_5 (nI (z % 32)) (nI (z / 32)))) (b := 0) (by omega) (by omega)).mp c_7
                      have hheld : ¬ hlp pn (pX (F 1)) (pY (F 1)) pp z := by unfold hlp; rw [← lies_congr hw_LOOK]; unfold qX qY; omega
                      refine lv_iconst (v := 0) hx hb dX7_heldByMore_75 (by decide) ?_
                      refine lv_iadd hx hb dX7_heldByMore_76 ?_
                      refine u_iast hx hb hK hP hD hS 11 0 rfl rfl rfl ⟨by omega, by omega⟩ dX7_heldByMore_77 (fun H locs hP hD hS => ?_)
                      have hP : va_P D vwCl (MW cI cZ a (upd v 7 (nI (pn pp))) su sl (updF (updF (updF F 7 X1_5) 8 Y1_5) 11 (upd O1 z ((O1 z) + 0)))) H := hP
                      have hD : va_D A (MW cI cZ a (upd v 7 (nI (pn pp))) su sl (updF (updF (updF F 7 X1_5) 8 Y1_5) 11 (upd O1 z ((O1 z) + 0)))) := hD
                      refine lv_iinc (v := nI (z + 1)) (lv' := [(2, .int (nI (z + 1))), (0, .ref (a 0)), (1, .int (nI pp))]) hx hb dX7_heldByMore_78 hl (k := 2) rfl (nI_1 _) (by decide) rfl (fun ls hl => ?_)
                      refine lv_goto (tgt := 42) hx hb dX7_heldByMore_81 (by decide) ?_
                      exact ih_42 (z + 1) (upd O1 z ((O1 z) + 0)) (by omega) (lo_on hO1 (show _ = nI (cnt (fun q9 => hlp pn (pX (F 1)) (pY (F 1)) q9 z) (pp + 1)) by rw [hO2 z (by omega) (by omega), cnt_f (P := fun q9 => hlp pn (pX (F 1)) (pY (F 1)) q9 z) hheld]; exact Int32.add_zero _)) (lo_off hO2) (by omega) _ _ hP hD hS ls (lv_sub hl [1, 2, 0] rfl)
                    · skip
                      have nc_7 : ¬ (lies (pn pp) X1_5 Y1_5 (nI (z % 32)) (nI (z / 32)) ≤ 0) := fun h => c_7 ((nI_leI (a := (lies (pn pp) X1_5 Y1_5 (nI (z % 32)) (nI (z / 32)))) (b := 0) (by omega) (by omega)).mpr h)
                      have hheld : hlp pn (pX (F 1)) (pY (F 1)) pp z := by unfold hlp; rw [← lies_congr hw_LOOK]; unfold qX qY; omega
                      refine lv_iconst (v := 1) hx hb dX7_heldByMore_71 (by decide) ?_
                      refine lv_goto (tgt := 76) hx hb dX7_heldByMore_72 (by decide) ?_
                      refine lv_iadd hx hb dX7_heldByMore_76 ?_
                      refine u_iast hx hb hK hP hD hS 11 0 rfl rfl rfl ⟨by omega, by omega⟩ dX7_heldByMore_77 (fun H locs hP hD hS => ?_)
                      have hP : va_P D vwCl (MW cI cZ a (upd v 7 (nI (pn pp))) su sl (updF (updF (updF F 7 X1_5) 8 Y1_5) 11 (upd O1 z ((O1 z) + 1)))) H := hP
                      have hD : va_D A (MW cI cZ a (upd v 7 (nI (pn pp))) su sl (updF (updF (updF F 7 X1_5) 8 Y1_5) 11 (upd O1 z ((O1 z) + 1)))) := hD
                      refine lv_iinc (v := nI (z + 1)) (lv' := [(2, .int (nI (z + 1))), (0, .ref (a 0)), (1, .int (nI pp))]) hx hb dX7_heldByMore_78 hl (k := 2) rfl (nI_1 _) (by decide) rfl (fun ls hl => ?_)
                      refine lv_goto (tgt := 42) hx hb dX7_heldByMore_81 (by decide) ?_
                      exact ih_42 (z + 1) (upd O1 z ((O1 z) + 1)) (by omega) (lo_on hO1 (show _ = nI (cnt (fun q9 => hlp pn (pX (F 1)) (pY (F 1)) q9 z) (pp + 1)) by rw [hO2 z (by omega) (by omega), cnt_t (P := fun q9 => hlp pn (pX (F 1)) (pY (F 1)) q9 z) hheld]; exact nI_1 _)) (lo_off hO2) (by omega) _ _ hP hD hS ls (lv_sub hl [1, 2, 0] rfl)
              exact LOOP_42 (1024 - 0 + 1) 0 O1 (Nat.zero_le _) (fun j h => absurd h (Nat.not_lt_zero _)) (fun j _ h => hO1 j h) (Nat.lt_succ_self _) _ _ hP hD hS ls (lv_sub hl [1, 2, 0] rfl)
        exact LOOP_24 (kk - 0 + 1) 0 (v 7) (F 7) (F 8) O (Nat.zero_le _) (fun j h => hO j (by omega)) (Nat.lt_succ_self _) _ _ hP hD hS ls (lv_sub hl [1, 0] rfl)
      · skip
        have nc_1 : ¬ (1024 ≤ z) := fun h => c_1 ((nI_leI (a := 1024) (b := z) (by omega) (by omega)).mpr h)
        refine lv_aload_n hx hb dX7_heldByMore_9 rfl (lv_at hl 0 rfl) ?_
        refine va_get (D := D) (ci := 9) (v := .ref (a 11)) (C := RX7) (T := TX7) (N := 24) hx hb hts (by decide +kernel) hown hK hP 0 rfl rfl 21 (by decide) (hts (.fieldLink RX7 41 "LandDeedsModel" "lain" "[I") (by decide +kernel)) (fun _ h9 => h9) rfl dX7_heldByMore_10 ?_
        refine lv_iload_n hx hb dX7_heldByMore_13 rfl (lv_at hl 1 rfl) ?_
        refine lv_iconst (v := 0) hx hb dX7_heldByMore_14 (by decide) ?_
        refine u_iast hx hb hK hP hD hS 11 0 rfl rfl rfl ⟨by omega, by omega⟩ dX7_heldByMore_15 (fun H locs hP hD hS => ?_)
        have hP : va_P D vwCl (MW cI cZ a v su sl (updF F 11 (upd O z 0))) H := hP
        have hD : va_D A (MW cI cZ a v su sl (updF F 11 (upd O z 0))) := hD
        refine lv_iinc (v := nI (z + 1)) (lv' := [(1, .int (nI (z + 1))), (0, .ref (a 0))]) hx hb dX7_heldByMore_16 hl (k := 1) rfl (nI_1 _) (by decide) rfl (fun ls hl => ?_)
        refine lv_goto (tgt := 2) hx hb dX7_heldByMore_19 (by decide) ?_
        exact ih_2 (z + 1) (upd O z 0) (by omega) (upd_on (f := fun _ => 0) hO rfl) (by omega) _ _ hP hD hS ls (lv_sub hl [1, 0] rfl)
  exact LOOP_2 (1024 - 0 + 1) 0 (F 11) (Nat.zero_le _) (fun j h => absurd h (Nat.not_lt_zero _)) (Nat.lt_succ_self _) _ _ hP hD hS ls (lv_sub hl [1, 0] rfl)

set_option maxHeartbeats 4000000 in
set_option maxRecDepth 100000 in
theorem c_X7_common_ (l : Launch) (D : va_G) (cI cB cZ cP : ClassId) (sz : Nat) (a : Nat → Nat) (v : Nat → Int32) (su sl : Int64) (F : Nat → Nat → Int32) (kk : Nat) (pn : Nat → Nat) (x0 x1 x : Int32) (hSM : stM (F 1) kk pn) : Met l yX7_common_ wsX7_common_ ({ frames := 5, cells := 0, slots := 0, locals := 118 } : Room) (va_Pc [.ref (a 0), .int x0, .int x1, .int x] (fun U => U.heap.size = sz ∧ va_P D vwCl (MW cI cZ a v su sl F) U.heap ∧ KW D cI cB cZ cP U ∧ va_D (fun _ => True) (MW cI cZ a v su sl F) ∧ EF (MW cI cZ a v su sl F) sz E0 U.heap)) (va_Qi (fun r (u : (Nat → Int32) × Int64 × Int64 × (Nat → Nat → Int32)) => match u with | (v1, su1, sl1, F1) => r = aCommon kk pn (pX (F 1)) (pY (F 1)) x0 x1 x ∧ keepM v F v1 F1) (fun (u : (Nat → Int32) × Int64 × Int64 × (Nat → Nat → Int32)) (t : State) => match u with | (v1, su1, sl1, F1) => va_P D vwCl (MW cI cZ a v1 su1 sl1 F1) t.heap ∧ va_D (va_A (MW cI cZ a v su sl F) sz) (MW cI cZ a v1 su1 sl1 F1)) (va_A (MW cI cZ a v su sl F) sz)) 0 0 (va_A (MW cI cZ a v su sl F) sz) := by
  refine Met.ofW (cc := cX7_common_) (maxL := 7) (ret := (some .int)) (by decide) rfl ?_
  intro p e s m args below meth c s₁ B hml hv
  obtain ⟨rfl, hsz, hP, hW0, hD0, hE⟩ := hv
  have hx := B.exec
  have hb := B.bytes
  have hr := B.returns
  have hts := atoms_spec (ws := wsX7_common_) B.pre
  have hown : s.vm.findClass RX7 = some m.cls := findClass_of_methodNamed B.named
  have hlocks := B.notSynchronized
  have hK := hW0.1
  subst hsz
  have hD := hD0.self (sz := s.heap.size)
  unfold EF at hE
  generalize hAe : va_A (MW cI cZ a v su sl F) s.heap.size = A at hD hE ⊢
  have hA : ∀ q : Nat, s.heap.size ≤ q → A q := fun q h => by rw [← hAe]; exact Or.inr h
  have hS : va_S A s.heap s.heap [] := va_S.rf
  have hl := lv_entry ([.ref (a 0), .int x0, .int x1, .int x]) (n := 7) (Nat.le_of_ble_eq_true rfl)
  rw [lg_entry_eq]
  generalize (lg_sl ([.ref (a 0), .int x0, .int x1, .int x]) ++ List.replicate (7 - (lg_sl ([.ref (a 0), .int x0, .int x1, .int x])).length) Slot.unset).toArray = ls at hl ⊢
  have hl : lv_has ls 7 [(0, .ref (a 0)), (1, .int x0), (2, .int x1), (3, .int x)] := hl
  show W p l e ({ frames := 5, cells := 0, slots := 0, locals := 118 } : Room) s m ([.ref (a 0), .int x0, .int x1, .int x] : List Value).toArray below meth c s.heap [] 0 0 _ (F0 m 0 ls [])
  refine u_genQ (fun Q hQ => ?_)
  obtain ⟨hs1, hs2, hs3⟩ := id hSM
  refine lv_aload_n hx hb dX7_common__0 rfl (lv_at hl 0 rfl) ?_
  refine lv_iload_n hx hb dX7_common__1 rfl (lv_at hl 1 rfl) ?_
  have hPc := hP
  refine u_callSi (W.runV (As := [.int x0]) (rest := []) ⟨hx, hb, hml, hown, hts⟩ (c_X7_isPlot l D cI cB cZ cP a v su sl F x0 kk (hs2) (hs1)) (cwV 1 hts gX7_common__X7_isPlot rfl rfl rfl (by decide +kernel) ⟨Nat.le_of_ble_eq_true rfl, Nat.le_of_ble_eq_true rfl⟩) (pV (q0 := 0) hPc hW0 trivial rfl rfl) rfl rfl hl.1 rfl (lv_room (Nat.le_of_ble_eq_true rfl)) dX7_common__2 ⟨Nat.le_of_ble_eq_true rfl, Nat.le_of_ble_eq_true rfl⟩) ?_
  refine lv_if_eq (tgt := 16) hx hb dX7_common__5 (by decide) (fun c_1 => ?_) (fun c_1 => ?_)
  · skip
    have nc_1 := zb_eq0.mp c_1
    refine lv_iconst (v := (-1)) hx hb dX7_common__16 (by decide) ?_
    rw [← hQ]
    have hP9 := hP
    have hD9 := hD
    exact W.iret (v := (-1)) hx hb hr (fun t ht hW => ⟨⟨_, (v, su, sl, F), rfl, ⟨(cif_f (fun q => nc_1 q.1)).symm, ⟨rfl, rfl, rfl, rfl, rfl⟩⟩, by rw [ht]; exact hP9, hD9⟩, hS.F ht⟩) hS.2.2 dX7_common__17
  · skip
    have nc_1 := zb_ne0.mp c_1
    obtain ⟨pp, hpp, epp, xpp⟩ := inP_nat nc_1 (by omega)
    rw [epp] at hl
    refine lv_aload_n hx hb dX7_common__8 rfl (lv_at hl 0 rfl) ?_
    refine lv_iload_n hx hb dX7_common__9 rfl (lv_at hl 2 rfl) ?_
    have hPc := hP
    refine u_callSi (W.runV (As := [.int x1]) (rest := []) ⟨hx, hb, hml, hown, hts⟩ (c_X7_isPlot l D cI cB cZ cP a v su sl F x1 kk (hs2) (hs1)) (cwV 1 hts gX7_common__X7_isPlot rfl rfl rfl (by decide +kernel) ⟨Nat.le_of_ble_eq_true rfl, Nat.le_of_ble_eq_true rfl⟩) (pV (q0 := 0) hPc hW0 trivial rfl rfl) rfl rfl hl.1 rfl (lv_room (Nat.le_of_ble_eq_true rfl)) dX7_common__10 ⟨Nat.le_of_ble_eq_true rfl, Nat.le_of_ble_eq_true rfl⟩) ?_
    refine lv_if_ne (tgt := 18) hx hb dX7_common__13 (by decide) (fun c_2 => ?_) (fun c_2 => ?_)
    · skip
      have nc_2 := zb_ne0.mp c_2
      obtain ⟨qq, hqq, eqq, xqq⟩ := inP_nat nc_2 (by omega)
      rw [eqq] at hl
      refine lv_iload_n hx hb dX7_common__18 rfl (lv_at hl 3 rfl) ?_
      refine lv_iconst (v := 0) hx hb dX7_common__19 (by decide) ?_
      refine lv_iconst (v := 2) hx hb dX7_common__20 (by decide) ?_
      have hPc := hP.sub (ws' := []) [] rfl
      refine u_callSi (W.runS (As := [.int x, .int 0, .int 2]) (rest := []) ⟨hx, hb, hml, hown, hts⟩ (c_X7_in l D cI cB cZ cP x 0 2 ) (cwS 3 hts gX7_common__X7_in rfl rfl rfl (by decide +kernel) ⟨Nat.le_of_ble_eq_true rfl, Nat.le_of_ble_eq_true rfl⟩) (pS hPc hW0 trivial) rfl rfl hl.1 rfl (lv_room (Nat.le_of_ble_eq_true rfl)) dX7_common__21 ⟨Nat.le_of_ble_eq_true rfl, Nat.le_of_ble_eq_true rfl⟩) ?_
      refine lv_if_ne (tgt := 30) hx hb dX7_common__24 (by decide) (fun c_3 => ?_) (fun c_3 => ?_)
      · skip
        have nc_3 := zb_ne0.mp c_3
        have hw9 : 0 ≤ x.toInt ∧ x.toInt ≤ 2 := by have h9 := nc_3; rw [li_0, li_2] at h9; exact h9
        obtain ⟨ww, hww, eww, -⟩ := inP_nat (k := 3) (p := x) ⟨hw9.1, by have := hw9.2; omega⟩ (by decide)
        rw [eww] at hl
        refine lv_aload_n hx hb dX7_common__30 rfl (lv_at hl 0 rfl) ?_
        refine lv_iload_n hx hb dX7_common__31 rfl (lv_at hl 1 rfl) ?_
        have hPc := hP
        have hDc := hD
        have hFc := va_free (wc := (MW cI cZ a v su sl F)) hD hS hA [0, 1, 2, 3, 4, 5, 6, 7, 8, 9, 10, 11, 12] rfl
        refine va_callv (va_runV (As := [.int (nI pp)]) (rest := []) ⟨hx, hb, hml, hown, hts⟩ (c_X7_look l D cI cB cZ cP s.heap.size a v su sl F pp (pn pp) (by omega) ((hs3 pp hpp).2) ((hs3 pp hpp).1)) (cwV 1 hts gX7_common__X7_look rfl rfl rfl (by decide +kernel) ⟨Nat.le_of_ble_eq_true rfl, Nat.le_of_ble_eq_true rfl⟩) (pVQ (q0 := 0) hPc hDc hW0 EF.t rfl rfl) rfl rfl hl.1 rfl (lv_room (Nat.le_of_ble_eq_true rfl)) dX7_common__32 ⟨Nat.le_of_ble_eq_true rfl, Nat.le_of_ble_eq_true rfl⟩) hS (fun q _ h => hFc q h) hFc (fun u t H1 locs ht hvm hw hB hz1 hk1 hS => ?_)
        obtain ⟨X1_4, Y1_4⟩ := u
        obtain ⟨hP1, hD1⟩ := hB
        rw [ht] at hP1
        have hw_4 : ∀ j, j < (pn pp) → X1_4 j = pX (F 1) pp j ∧ Y1_4 j = pY (F 1) pp j := hw
        obtain ⟨hP, hD⟩ := va_join (wr := []) (w1 := (MW cI cZ a (upd v 7 (nI (pn pp))) su sl (updF (updF F 7 X1_4) 8 Y1_4))) hP hD [0, 1, 2, 3, 4, 5, 6, 7, 8, 9, 10, 11, 12] [] rfl rfl (by decide) (by decide) hk1 hFc hP1 hD1
        generalize H1 = H at hP hS ⊢
        have hP : va_P D vwCl (MW cI cZ a (upd v 7 (nI (pn pp))) su sl (updF (updF F 7 X1_4) 8 Y1_4)) H := hP
        have hD : va_D A (MW cI cZ a (upd v 7 (nI (pn pp))) su sl (updF (updF F 7 X1_4) 8 Y1_4)) := hD
        have hLK_pp : ∀ j, j < pn pp → X1_4 j = pX (F 1) pp j ∧ Y1_4 j = pY (F 1) pp j := hw_4
        have h8_pp := (hs3 pp hpp).2
        refine lv_iconst (v := 0) hx hb dX7_common__35 (by decide) ?_
        refine lv_istore (lv' := [(4, .int 0), (0, .ref (a 0)), (1, .int (nI pp)), (2, .int (nI qq)), (3, .int (nI ww))]) hx hb dX7_common__36 hl (by decide) rfl (fun ls hl => ?_)
        have LOOP_38 : ∀ (fu : Nat) (z : Nat) (O : Nat → Int32) (hz : z ≤ 1024) (hO : ∀ j, j < z → O j = nI (lies (pn pp) (pX (F 1) pp) (pY (F 1) pp) (qX j) (qY j))) (hn : 1024 - z < fu) (H : Heap) (locs : List Loc) (hP : va_P D vwCl (MW cI cZ a (upd v 7 (nI (pn pp))) su sl (updF (updF (updF F 7 X1_4) 8 Y1_4) 11 O)) H) (hD : va_D A (MW cI cZ a (upd v 7 (nI (pn pp))) su sl (updF (updF (updF F 7 X1_4) 8 Y1_4) 11 O))) (hS : va_S A s.heap H locs) (ls : Array Slot) (hl : lv_has ls 7 [(0, .ref (a 0)), (2, .int (nI qq)), (3, .int (nI ww)), (4, .int (nI z))]), W p l e ({ frames := 5, cells := 0, slots := 0, locals := 118 } : Room) s m ([.ref (a 0), .int x0, .int x1, .int x] : List Value).toArray below meth c H locs 0 0 Q (F0 m 38 ls []) := by
          intro fu
          induction fu with
          | zero => intro z O hz hO hn H locs hP hD hS ls hl; exact absurd hn (Nat.not_lt_zero _)
          | succ fu ih_38 =>
            intro z O hz hO hn H locs hP hD hS ls hl
            refine lv_iload hx hb dX7_common__38 (lv_at hl 3 rfl) ?_
            refine lv_sipush (v := 1024) hx hb dX7_common__40 (by decide) ?_
            refine lv_icmp_ge (tgt := 73) hx hb dX7_common__43 (by decide) (fun c_5 => ?_) (fun c_5 => ?_)
            · skip
              have nc_5 : 1024 ≤ z := (nI_leI (a := 1024) (b := z) (by omega) (by omega)).mp c_5
              refine lv_aload_n hx hb dX7_common__73 rfl (lv_at hl 0 rfl) ?_
              refine lv_iload_n hx hb dX7_common__74 rfl (lv_at hl 1 rfl) ?_
              have hPc := hP
              have hDc := hD
              have hFc := va_free (wc := (MW cI cZ a (upd v 7 (nI (pn pp))) su sl (updF (updF (updF F 7 X1_4) 8 Y1_4) 11 O))) hD hS hA [0, 1, 2, 3, 4, 5, 6, 7, 8, 9, 10, 11, 12] rfl
              refine va_callv (va_runV (As := [.int (nI qq)]) (rest := []) ⟨hx, hb, hml, hown, hts⟩ (c_X7_look l D cI cB cZ cP H.size a (upd v 7 (nI (pn pp))) su sl (updF (updF (updF F 7 X1_4) 8 Y1_4) 11 O) qq (pn qq) (by omega) ((hs3 qq hqq).2) ((hs3 qq hqq).1)) (cwV 1 hts gX7_common__X7_look rfl rfl rfl (by decide +kernel) ⟨Nat.le_of_ble_eq_true rfl, Nat.le_of_ble_eq_true rfl⟩) (pVQ (q0 := 0) hPc hDc hW0 EF.t rfl rfl) rfl rfl hl.1 rfl (lv_room (Nat.le_of_ble_eq_true rfl)) dX7_common__75 ⟨Nat.le_of_ble_eq_true rfl, Nat.le_of_ble_eq_true rfl⟩) hS (fun q _ h => hFc q h) hFc (fun u t H1 locs ht hvm hw hB hz1 hk1 hS => ?_)
              obtain ⟨X1_6, Y1_6⟩ := u
              obtain ⟨hP1, hD1⟩ := hB
              rw [ht] at hP1
              have hw_6 : ∀ j, j < (pn qq) → X1_6 j = pX ((updF (updF (updF F 7 X1_4) 8 Y1_4) 11 O) 1) qq j ∧ Y1_6 j = pY ((updF (updF (updF F 7 X1_4) 8 Y1_4) 11 O) 1) qq j := hw
              obtain ⟨hP, hD⟩ := va_join (wr := []) (w1 := (MW cI cZ a (upd v 7 (nI (pn qq))) su sl (updF (updF (updF F 7 X1_6) 8 Y1_6) 11 O))) hP hD [0, 1, 2, 3, 4, 5, 6, 7, 8, 9, 10, 11, 12] [] rfl rfl (by decide) (by decide) hk1 hFc hP1 hD1
              generalize H1 = H at hP hS ⊢
              have hP : va_P D vwCl (MW cI cZ a (upd v 7 (nI (pn qq))) su sl (updF (updF (updF F 7 X1_6) 8 Y1_6) 11 O)) H := hP
              have hD : va_D A (MW cI cZ a (upd v 7 (nI (pn qq))) su sl (updF (updF (updF F 7 X1_6) 8 Y1_6) 11 O)) := hD
              have hLK_qq : ∀ j, j < pn qq → X1_6 j = pX (F 1) qq j ∧ Y1_6 j = pY (F 1) qq j := hw_6
              have h8_qq := (hs3 qq hqq).2
              refine lv_iconst (v := 0) hx hb dX7_common__78 (by decide) ?_
              refine lv_istore (lv' := [(4, .int 0), (0, .ref (a 0)), (2, .int (nI qq)), (3, .int (nI ww))]) hx hb dX7_common__79 hl (by decide) rfl (fun ls hl => ?_)
              refine lv_iconst (v := 0) hx hb dX7_common__81 (by decide) ?_
              refine lv_istore (lv' := [(5, .int 0), (4, .int 0), (0, .ref (a 0)), (2, .int (nI qq)), (3, .int (nI ww))]) hx hb dX7_common__82 hl (by decide) rfl (fun ls hl => ?_)
              have LOOP_84 : ∀ (fu : Nat) (z : Nat) (hz8 : z ≤ 1024) (hn : 1024 - z < fu) (H : Heap) (locs : List Loc) (hP : va_P D vwCl (MW cI cZ a (upd v 7 (nI (pn qq))) su sl (updF (updF (updF F 7 X1_6) 8 Y1_6) 11 O)) H) (hD : va_D A (MW cI cZ a (upd v 7 (nI (pn qq))) su sl (updF (updF (updF F 7 X1_6) 8 Y1_6) 11 O))) (hS : va_S A s.heap H locs) (ls : Array Slot) (hl : lv_has ls 7 [(0, .ref (a 0)), (3, .int (nI ww)), (4, .int (nI (cnt (fun j => cmmn x (lies (pn qq) (pX (F 1) qq) (pY (F 1) qq) (qX j) (qY j)) (lies (pn pp) (pX (F 1) pp) (pY (F 1) pp) (qX j) (qY j))) z))), (5, .int (nI z))]), W p l e ({ frames := 5, cells := 0, slots := 0, locals := 118 } : Room) s m ([.ref (a 0), .int x0, .int x1, .int x] : List Value).toArray below meth c H locs 0 0 Q (F0 m 84 ls []) := by
                intro fu
                induction fu with
                | zero => intro z hz8 hn H locs hP hD hS ls hl; exact absurd hn (Nat.not_lt_zero _)
                | succ fu ih_84 =>
                  intro z hz8 hn H locs hP hD hS ls hl
                  refine lv_iload hx hb dX7_common__84 (lv_at hl 3 rfl) ?_
                  refine lv_sipush (v := 1024) hx hb dX7_common__86 (by decide) ?_
                  refine lv_icmp_ge (tgt := 187) hx hb dX7_common__89 (by decide) (fun c_7 => ?_) (fun c_7 => ?_)
                  · skip
                    have nc_7 : 1024 ≤ z := (nI_leI (a := 1024) (b := z) (by omega) (by omega)).mp c_7
                    refine lv_iload hx hb dX7_common__187 (lv_at hl 2 rfl) ?_
                    rw [← hQ]
                    have hP9 := hP
                    have hD9 := hD
                    exact W.iret (v := nI (cnt (fun j => cmmn x (lies (pn qq) (pX (F 1) qq) (pY (F 1) qq) (qX j) (qY j)) (lies (pn pp) (pX (F 1) pp) (pY (F 1) pp) (qX j) (qY j))) z)) hx hb hr (fun t ht hW => ⟨⟨_, (upd v 7 (nI (pn qq)), su, sl, updF (updF (updF F 7 X1_6) 8 Y1_6) 11 O), rfl, ⟨by rw [show aCommon kk pn (pX (F 1)) (pY (F 1)) x0 x1 x = _ from (cif_t ⟨nc_1, nc_2⟩).trans (cif_t hw9), xpp, xqq, show z = 1024 by omega], ⟨rfl, rfl, rfl, rfl, rfl⟩⟩, by rw [ht]; exact hP9, hD9⟩, hS.F ht⟩) hS.2.2 dX7_common__189
                  · skip
                    have nc_7 : ¬ (1024 ≤ z) := fun h => c_7 ((nI_leI (a := 1024) (b := z) (by omega) (by omega)).mpr h)
                    refine lv_aload_n hx hb dX7_common__92 rfl (lv_at hl 0 rfl) ?_
                    refine lv_iload hx hb dX7_common__93 (lv_at hl 3 rfl) ?_
                    refine lv_bipush (v := 32) hx hb dX7_common__95 (by decide) ?_
                    refine lv_irem hx hb dX7_common__97 (by decide) ?_
                    refine u_eqi (show (nI z) - (nI z) / 32 * 32 = nI (z % 32) from (div32 (by omega)).2) ?_
                    refine lv_iload hx hb dX7_common__98 (lv_at hl 3 rfl) ?_
                    refine lv_bipush (v := 32) hx hb dX7_common__100 (by decide) ?_
                    refine lv_idiv hx hb dX7_common__102 (by decide) ?_
                    refine u_eqi (show (nI z) / 32 = nI (z / 32) from (div32 (by omega)).1) ?_
                    have hPc := hP
                    refine u_callSi (W.runV (As := [.int (nI (z % 32)), .int (nI (z / 32))]) (rest := []) ⟨hx, hb, hml, hown, hts⟩ (c_X7_liesNow l D cI cB cZ cP a v su sl (updF F 11 O) (pn qq) X1_6 Y1_6 (nI (z % 32)) (nI (z / 32)) (h8_qq)) (cwV 2 hts gX7_common__X7_liesNow rfl rfl rfl (by decide +kernel) ⟨Nat.le_of_ble_eq_true rfl, Nat.le_of_ble_eq_true rfl⟩) (pV (q0 := 0) hPc hW0 trivial rfl rfl) rfl rfl hl.1 rfl (lv_room (Nat.le_of_ble_eq_true rfl)) dX7_common__103 ⟨Nat.le_of_ble_eq_true rfl, Nat.le_of_ble_eq_true rfl⟩) ?_
                    have hle9 := lies_le (pn qq) X1_6 Y1_6 (nI (z % 32)) (nI (z / 32))
                    have hle8 := lies_le (pn pp) (pX (F 1) pp) (pY (F 1) pp) (qX z) (qY z)
                    unfold qX qY at hle8
                    refine lv_istore (lv' := [(6, .int (nI (lies (pn qq) X1_6 Y1_6 (nI (z % 32)) (nI (z / 32))))), (0, .ref (a 0)), (3, .int (nI ww)), (4, .int (nI (cnt (fun j => cmmn x (lies (pn qq) (pX (F 1) qq) (pY (F 1) qq) (qX j) (qY j)) (lies (pn pp) (pX (F 1) pp) (pY (F 1) pp) (qX j) (qY j))) z))), (5, .int (nI z))]) hx hb dX7_common__106 hl (by decide) rfl (fun ls hl => ?_)
                    refine lv_iload hx hb dX7_common__108 (lv_at hl 3 rfl) ?_
                    refine lv_iload_n hx hb dX7_common__110 rfl (lv_at hl 2 rfl) ?_
                    refine lv_if_ne (tgt := 131) hx hb dX7_common__111 (by decide) (fun c_8 => ?_) (fun c_8 => ?_)
                    · skip
                      have nc_8 : ¬ (ww = 0) := fun h => c_8 ((nI_eq (a := ww) (b := 0) (by omega) (by omega)).mpr h)
                      refine lv_iload_n hx hb dX7_common__131 rfl (lv_at hl 2 rfl) ?_
                      refine lv_iconst (v := 1) hx hb dX7_common__132 (by decide) ?_
                      refine lv_icmp_ne (tgt := 153) hx hb dX7_common__133 (by decide) (fun c_9 => ?_) (fun c_9 => ?_)
                      · skip
                        have nc_9 : ¬ (ww = 1) := fun h => c_9 ((nI_eq (a := ww) (b := 1) (by omega) (by omega)).mpr h)
                        refine lv_iload_n hx hb dX7_common__153 rfl (lv_at hl 2 rfl) ?_
                        refine lv_iconst (v := 2) hx hb dX7_common__154 (by decide) ?_
                        refine lv_icmp_ne (tgt := 177) hx hb dX7_common__155 (by decide) (fun c_10 => ?_) (fun c_10 => ?_)
                        · skip
                          have nc_10 : ¬ (ww = 2) := fun h => c_10 ((nI_eq (a := ww) (b := 2) (by omega) (by omega)).mpr h)
                          have hcm : ¬ cmmn x (lies (pn qq) (pX (F 1) qq) (pY (F 1) qq) (qX z) (qY z)) (lies (pn pp) (pX (F 1) pp) (pY (F 1) pp) (qX z) (qY z)) := by rw [← lies_congr hLK_qq]; rw [eww, cmmn_n (by omega)]; unfold qX qY; omega
                          refine lv_iconst (v := 0) hx hb dX7_common__177 (by decide) ?_
                          refine lv_iadd hx hb dX7_common__178 ?_
                          refine u_eqi (show (nI (cnt (fun j => cmmn x (lies (pn qq) (pX (F 1) qq) (pY (F 1) qq) (qX j) (qY j)) (lies (pn pp) (pX (F 1) pp) (pY (F 1) pp) (qX j) (qY j))) z)) + 0 = nI (cnt (fun j => cmmn x (lies (pn qq) (pX (F 1) qq) (pY (F 1) qq) (qX j) (qY j)) (lies (pn pp) (pX (F 1) pp) (pY (F 1) pp) (qX j) (qY j))) z) from Int32.add_zero _) ?_
                          refine lv_istore (lv' := [(4, .int (nI (cnt (fun j => cmmn x (lies (pn qq) (pX (F 1) qq) (pY (F 1) qq) (qX j) (qY j)) (lies (pn pp) (pX (F 1) pp) (pY (F 1) pp) (qX j) (qY j))) z))), (6, .int (nI (lies (pn qq) X1_6 Y1_6 (nI (z % 32)) (nI (z / 32))))), (0, .ref (a 0)), (3, .int (nI ww)), (5, .int (nI z))]) hx hb dX7_common__179 hl (by decide) rfl (fun ls hl => ?_)
                          refine lv_iinc (v := nI (z + 1)) (lv' := [(5, .int (nI (z + 1))), (4, .int (nI (cnt (fun j => cmmn x (lies (pn qq) (pX (F 1) qq) (pY (F 1) qq) (qX j) (qY j)) (lies (pn pp) (pX (F 1) pp) (pY (F 1) pp) (qX j) (qY j))) z))), (6, .int (nI (lies (pn qq) X1_6 Y1_6 (nI (z % 32)) (nI (z / 32))))), (0, .ref (a 0)), (3, .int (nI ww))]) hx hb dX7_common__181 hl (k := 4) rfl (nI_1 _) (by decide) rfl (fun ls hl => ?_)
                          refine lv_goto (tgt := 84) hx hb dX7_common__184 (by decide) ?_
                          exact ih_84 (z + 1) (by omega) (by omega) _ _ hP hD hS ls (by rw [cnt_f (P := fun j => cmmn x (lies (pn qq) (pX (F 1) qq) (pY (F 1) qq) (qX j) (qY j)) (lies (pn pp) (pX (F 1) pp) (pY (F 1) pp) (qX j) (qY j))) hcm]; exact (lv_sub hl [3, 4, 1, 0] rfl))
                        · skip
                          have nc_10 : ww = 2 := (nI_eq (a := ww) (b := 2) (by omega) (by omega)).mp c_10
                          refine lv_iload hx hb dX7_common__158 (lv_at hl 0 rfl) ?_
                          refine lv_if_le (tgt := 177) hx hb dX7_common__160 (by decide) (fun c_11 => ?_) (fun c_11 => ?_)
                          · skip
                            have nc_11 : lies (pn qq) X1_6 Y1_6 (nI (z % 32)) (nI (z / 32)) ≤ 0 := (nI_leI (a := (lies (pn qq) X1_6 Y1_6 (nI (z % 32)) (nI (z / 32)))) (b := 0) (by omega) (by omega)).mp c_11
                            have hcm : ¬ cmmn x (lies (pn qq) (pX (F 1) qq) (pY (F 1) qq) (qX z) (qY z)) (lies (pn pp) (pX (F 1) pp) (pY (F 1) pp) (qX z) (qY z)) := by rw [← lies_congr hLK_qq]; rw [eww, cmmn_n (by omega)]; unfold qX qY; omega
                            refine lv_iconst (v := 0) hx hb dX7_common__177 (by decide) ?_
                            refine lv_iadd hx hb dX7_common__178 ?_
                            refine u_eqi (show (nI (cnt (fun j => cmmn x (lies (pn qq) (pX (F 1) qq) (pY (F 1) qq) (qX j) (qY j)) (lies (pn pp) (pX (F 1) pp) (pY (F 1) pp) (qX j) (qY j))) z)) + 0 = nI (cnt (fun j => cmmn x (lies (pn qq) (pX (F 1) qq) (pY (F 1) qq) (qX j) (qY j)) (lies (pn pp) (pX (F 1) pp) (pY (F 1) pp) (qX j) (qY j))) z) from Int32.add_zero _) ?_
                            refine lv_istore (lv' := [(4, .int (nI (cnt (fun j => cmmn x (lies (pn qq) (pX (F 1) qq) (pY (F 1) qq) (qX j) (qY j)) (lies (pn pp) (pX (F 1) pp) (pY (F 1) pp) (qX j) (qY j))) z))), (6, .int (nI (lies (pn qq) X1_6 Y1_6 (nI (z % 32)) (nI (z / 32))))), (0, .ref (a 0)), (3, .int (nI ww)), (5, .int (nI z))]) hx hb dX7_common__179 hl (by decide) rfl (fun ls hl => ?_)
                            refine lv_iinc (v := nI (z + 1)) (lv' := [(5, .int (nI (z + 1))), (4, .int (nI (cnt (fun j => cmmn x (lies (pn qq) (pX (F 1) qq) (pY (F 1) qq) (qX j) (qY j)) (lies (pn pp) (pX (F 1) pp) (pY (F 1) pp) (qX j) (qY j))) z))), (6, .int (nI (lies (pn qq) X1_6 Y1_6 (nI (z % 32)) (nI (z / 32))))), (0, .ref (a 0)), (3, .int (nI ww))]) hx hb dX7_common__181 hl (k := 4) rfl (nI_1 _) (by decide) rfl (fun ls hl => ?_)
                            refine lv_goto (tgt := 84) hx hb dX7_common__184 (by decide) ?_
                            exact ih_84 (z + 1) (by omega) (by omega) _ _ hP hD hS ls (by rw [cnt_f (P := fun j => cmmn x (lies (pn qq) (pX (F 1) qq) (pY (F 1) qq) (qX j) (qY j)) (lies (pn pp) (pX (F 1) pp) (pY (F 1) pp) (qX j) (qY j))) hcm]; exact (lv_sub hl [3, 4, 1, 0] rfl))
                          · skip
                            have nc_11 : ¬ (lies (pn qq) X1_6 Y1_6 (nI (z % 32)) (nI (z / 32)) ≤ 0) := fun h => c_11 ((nI_leI (a := (lies (pn qq) X1_6 Y1_6 (nI (z % 32)) (nI (z / 32)))) (b := 0) (by omega) (by omega)).mpr h)
                            refine lv_aload_n hx hb dX7_common__163 rfl (lv_at hl 1 rfl) ?_
                            refine va_get (D := D) (ci := 9) (v := .ref (a 11)) (C := RX7) (T := TX7) (N := 24) hx hb hts (by decide +kernel) hown hK hP 0 rfl rfl 21 (by decide) (hts (.fieldLink RX7 41 "LandDeedsModel" "lain" "[I") (by decide +kernel)) (fun _ h9 => h9) rfl dX7_common__164 ?_
                            refine lv_iload hx hb dX7_common__167 (lv_at hl 4 rfl) ?_
                            refine u_iald hx hb hK hP 11 0 rfl rfl rfl ⟨by omega, by omega⟩ dX7_common__169 ?_
                            refine u_eqi (show O z = nI (lies (pn pp) (pX (F 1) pp) (pY (F 1) pp) (nI (z % 32)) (nI (z / 32))) from hO z (by omega)) ?_
                            refine lv_if_le (tgt := 177) hx hb dX7_common__170 (by decide) (fun c_12 => ?_) (fun c_12 => ?_)
                            · skip
                              have nc_12 : lies (pn pp) (pX (F 1) pp) (pY (F 1) pp) (nI (z % 32)) (nI (z / 32)) ≤ 0 := (nI_leI (a := (lies (pn pp) (pX (F 1) pp) (pY (F 1) pp) (nI (z % 32)) (nI (z / 32)))) (b := 0) (by omega) (by omega)).mp c_12
                              have hcm : ¬ cmmn x (lies (pn qq) (pX (F 1) qq) (pY (F 1) qq) (qX z) (qY z)) (lies (pn pp) (pX (F 1) pp) (pY (F 1) pp) (qX z) (qY z)) := by rw [← lies_congr hLK_qq]; rw [eww, cmmn_n (by omega)]; unfold qX qY; omega
                              refine lv_iconst (v := 0) hx hb dX7_common__177 (by decide) ?_
                              refine lv_iadd hx hb dX7_common__178 ?_
                              refine u_eqi (show (nI (cnt (fun j => cmmn x (lies (pn qq) (pX (F 1) qq) (pY (F 1) qq) (qX j) (qY j)) (lies (pn pp) (pX (F 1) pp) (pY (F 1) pp) (qX j) (qY j))) z)) + 0 = nI (cnt (fun j => cmmn x (lies (pn qq) (pX (F 1) qq) (pY (F 1) qq) (qX j) (qY j)) (lies (pn pp) (pX (F 1) pp) (pY (F 1) pp) (qX j) (qY j))) z) from Int32.add_zero _) ?_
                              refine lv_istore (lv' := [(4, .int (nI (cnt (fun j => cmmn x (lies (pn qq) (pX (F 1) qq) (pY (F 1) qq) (qX j) (qY j)) (lies (pn pp) (pX (F 1) pp) (pY (F 1) pp) (qX j) (qY j))) z))), (6, .int (nI (lies (pn qq) X1_6 Y1_6 (nI (z % 32)) (nI (z / 32))))), (0, .ref (a 0)), (3, .int (nI ww)), (5, .int (nI z))]) hx hb dX7_common__179 hl (by decide) rfl (fun ls hl => ?_)
                              refine lv_iinc (v := nI (z + 1)) (lv' := [(5, .int (nI (z + 1))), (4, .int (nI (cnt (fun j => cmmn x (lies (pn qq) (pX (F 1) qq) (pY (F 1) qq) (qX j) (qY j)) (lies (pn pp) (pX (F 1) pp) (pY (F 1) pp) (qX j) (qY j))) z))), (6, .int (nI (lies (pn qq) X1_6 Y1_6 (nI (z % 32)) (nI (z / 32))))), (0, .ref (a 0)), (3, .int (nI ww))]) hx hb dX7_common__181 hl (k := 4) rfl (nI_1 _) (by decide) rfl (fun ls hl => ?_)
                              refine lv_goto (tgt := 84) hx hb dX7_common__184 (by decide) ?_
                              exact ih_84 (z + 1) (by omega) (by omega) _ _ hP hD hS ls (by rw [cnt_f (P := fun j => cmmn x (lies (pn qq) (pX (F 1) qq) (pY (F 1) qq) (qX j) (qY j)) (lies (pn pp) (pX (F 1) pp) (pY (F 1) pp) (qX j) (qY j))) hcm]; exact (lv_sub hl [3, 4, 1, 0] rfl))
                            · skip
                              have nc_12 : ¬ (lies (pn pp) (pX (F 1) pp) (pY (F 1) pp) (nI (z % 32)) (nI (z / 32)) ≤ 0) := fun h => c_12 ((nI_leI (a := (lies (pn pp) (pX (F 1) pp) (pY (F 1) pp) (nI (z % 32)) (nI (z / 32)))) (b := 0) (by omega) (by omega)).mpr h)
                              have hcm : cmmn x (lies (pn qq) (pX (F 1) qq) (pY (F 1) qq) (qX z) (qY z)) (lies (pn pp) (pX (F 1) pp) (pY (F 1) pp) (qX z) (qY z)) := by rw [← lies_congr hLK_qq]; rw [eww, cmmn_n (by omega)]; unfold qX qY; omega
                              refine lv_iconst (v := 1) hx hb dX7_common__173 (by decide) ?_
                              refine lv_goto (tgt := 178) hx hb dX7_common__174 (by decide) ?_
                              refine lv_iadd hx hb dX7_common__178 ?_
                              refine u_eqi (show (nI (cnt (fun j => cmmn x (lies (pn qq) (pX (F 1) qq) (pY (F 1) qq) (qX j) (qY j)) (lies (pn pp) (pX (F 1) pp) (pY (F 1) pp) (qX j) (qY j))) z)) + 1 = nI (cnt (fun j => cmmn x (lies (pn qq) (pX (F 1) qq) (pY (F 1) qq) (qX j) (qY j)) (lies (pn pp) (pX (F 1) pp) (pY (F 1) pp) (qX j) (qY j))) z + 1) from nI_1 _) ?_
                              refine lv_istore (lv' := [(4, .int (nI (cnt (fun j => cmmn x (lies (pn qq) (pX (F 1) qq) (pY (F 1) qq) (qX j) (qY j)) (lies (pn pp) (pX (F 1) pp) (pY (F 1) pp) (qX j) (qY j))) z + 1))), (6, .int (nI (lies (pn qq) X1_6 Y1_6 (nI (z % 32)) (nI (z / 32))))), (0, .ref (a 0)), (3, .int (nI ww)), (5, .int (nI z))]) hx hb dX7_common__179 hl (by decide) rfl (fun ls hl => ?_)
                              refine lv_iinc (v := nI (z + 1)) (lv' := [(5, .int (nI (z + 1))), (4, .int (nI (cnt (fun j => cmmn x (lies (pn qq) (pX (F 1) qq) (pY (F 1) qq) (qX j) (qY j)) (lies (pn pp) (pX (F 1) pp) (pY (F 1) pp) (qX j) (qY j))) z + 1))), (6, .int (nI (lies (pn qq) X1_6 Y1_6 (nI (z % 32)) (nI (z / 32))))), (0, .ref (a 0)), (3, .int (nI ww))]) hx hb dX7_common__181 hl (k := 4) rfl (nI_1 _) (by decide) rfl (fun ls hl => ?_)
                              refine lv_goto (tgt := 84) hx hb dX7_common__184 (by decide) ?_
                              exact ih_84 (z + 1) (by omega) (by omega) _ _ hP hD hS ls (by rw [cnt_t (P := fun j => cmmn x (lies (pn qq) (pX (F 1) qq) (pY (F 1) qq) (qX j) (qY j)) (lies (pn pp) (pX (F 1) pp) (pY (F 1) pp) (qX j) (qY j))) hcm]; exact (lv_sub hl [3, 4, 1, 0] rfl))
                      · skip
                        have nc_9 : ww = 1 := (nI_eq (a := ww) (b := 1) (by omega) (by omega)).mp c_9
                        refine lv_iload hx hb dX7_common__136 (lv_at hl 0 rfl) ?_
                        refine lv_iconst (v := 1) hx hb dX7_common__138 (by decide) ?_
                        refine lv_icmp_ne (tgt := 153) hx hb dX7_common__139 (by decide) (fun c_13 => ?_) (fun c_13 => ?_)
                        · skip
                          have nc_13 : ¬ (lies (pn qq) X1_6 Y1_6 (nI (z % 32)) (nI (z / 32)) = 1) := fun h => c_13 ((nI_eq (a := (lies (pn qq) X1_6 Y1_6 (nI (z % 32)) (nI (z / 32)))) (b := 1) (by omega) (by omega)).mpr h)
                          refine lv_iload_n hx hb dX7_common__153 rfl (lv_at hl 2 rfl) ?_
                          refine lv_iconst (v := 2) hx hb dX7_common__154 (by decide) ?_
                          refine lv_icmp_ne (tgt := 177) hx hb dX7_common__155 (by decide) (fun c_14 => ?_) (fun c_14 => ?_)
                          · skip
                            have nc_14 : ¬ (ww = 2) := fun h => c_14 ((nI_eq (a := ww) (b := 2) (by omega) (by omega)).mpr h)
                            have hcm : ¬ cmmn x (lies (pn qq) (pX (F 1) qq) (pY (F 1) qq) (qX z) (qY z)) (lies (pn pp) (pX (F 1) pp) (pY (F 1) pp) (qX z) (qY z)) := by rw [← lies_congr hLK_qq]; rw [eww, cmmn_n (by omega)]; unfold qX qY; omega
                            refine lv_iconst (v := 0) hx hb dX7_common__177 (by decide) ?_
                            refine lv_iadd hx hb dX7_common__178 ?_
                            refine u_eqi (show (nI (cnt (fun j => cmmn x (lies (pn qq) (pX (F 1) qq) (pY (F 1) qq) (qX j) (qY j)) (lies (pn pp) (pX (F 1) pp) (pY (F 1) pp) (qX j) (qY j))) z)) + 0 = nI (cnt (fun j => cmmn x (lies (pn qq) (pX (F 1) qq) (pY (F 1) qq) (qX j) (qY j)) (lies (pn pp) (pX (F 1) pp) (pY (F 1) pp) (qX j) (qY j))) z) from Int32.add_zero _) ?_
                            refine lv_istore (lv' := [(4, .int (nI (cnt (fun j => cmmn x (lies (pn qq) (pX (F 1) qq) (pY (F 1) qq) (qX j) (qY j)) (lies (pn pp) (pX (F 1) pp) (pY (F 1) pp) (qX j) (qY j))) z))), (6, .int (nI (lies (pn qq) X1_6 Y1_6 (nI (z % 32)) (nI (z / 32))))), (0, .ref (a 0)), (3, .int (nI ww)), (5, .int (nI z))]) hx hb dX7_common__179 hl (by decide) rfl (fun ls hl => ?_)
                            refine lv_iinc (v := nI (z + 1)) (lv' := [(5, .int (nI (z + 1))), (4, .int (nI (cnt (fun j => cmmn x (lies (pn qq) (pX (F 1) qq) (pY (F 1) qq) (qX j) (qY j)) (lies (pn pp) (pX (F 1) pp) (pY (F 1) pp) (qX j) (qY j))) z))), (6, .int (nI (lies (pn qq) X1_6 Y1_6 (nI (z % 32)) (nI (z / 32))))), (0, .ref (a 0)), (3, .int (nI ww))]) hx hb dX7_common__181 hl (k := 4) rfl (nI_1 _) (by decide) rfl (fun ls hl => ?_)
                            refine lv_goto (tgt := 84) hx hb dX7_common__184 (by decide) ?_
                            exact ih_84 (z + 1) (by omega) (by omega) _ _ hP hD hS ls (by rw [cnt_f (P := fun j => cmmn x (lies (pn qq) (pX (F 1) qq) (pY (F 1) qq) (qX j) (qY j)) (lies (pn pp) (pX (F 1) pp) (pY (F 1) pp) (qX j) (qY j))) hcm]; exact (lv_sub hl [3, 4, 1, 0] rfl))
                          · skip
                            have nc_14 : ww = 2 := (nI_eq (a := ww) (b := 2) (by omega) (by omega)).mp c_14
                            refine lv_iload hx hb dX7_common__158 (lv_at hl 0 rfl) ?_
                            refine lv_if_le (tgt := 177) hx hb dX7_common__160 (by decide) (fun c_15 => ?_) (fun c_15 => ?_)
                            · skip
                              have nc_15 : lies (pn qq) X1_6 Y1_6 (nI (z % 32)) (nI (z / 32)) ≤ 0 := (nI_leI (a := (lies (pn qq) X1_6 Y1_6 (nI (z % 32)) (nI (z / 32)))) (b := 0) (by omega) (by omega)).mp c_15
                              have hcm : ¬ cmmn x (lies (pn qq) (pX (F 1) qq) (pY (F 1) qq) (qX z) (qY z)) (lies (pn pp) (pX (F 1) pp) (pY (F 1) pp) (qX z) (qY z)) := by rw [← lies_congr hLK_qq]; rw [eww, cmmn_n (by omega)]; unfold qX qY; omega
                              refine lv_iconst (v := 0) hx hb dX7_common__177 (by decide) ?_
                              refine lv_iadd hx hb dX7_common__178 ?_
                              refine u_eqi (show (nI (cnt (fun j => cmmn x (lies (pn qq) (pX (F 1) qq) (pY (F 1) qq) (qX j) (qY j)) (lies (pn pp) (pX (F 1) pp) (pY (F 1) pp) (qX j) (qY j))) z)) + 0 = nI (cnt (fun j => cmmn x (lies (pn qq) (pX (F 1) qq) (pY (F 1) qq) (qX j) (qY j)) (lies (pn pp) (pX (F 1) pp) (pY (F 1) pp) (qX j) (qY j))) z) from Int32.add_zero _) ?_
                              refine lv_istore (lv' := [(4, .int (nI (cnt (fun j => cmmn x (lies (pn qq) (pX (F 1) qq) (pY (F 1) qq) (qX j) (qY j)) (lies (pn pp) (pX (F 1) pp) (pY (F 1) pp) (qX j) (qY j))) z))), (6, .int (nI (lies (pn qq) X1_6 Y1_6 (nI (z % 32)) (nI (z / 32))))), (0, .ref (a 0)), (3, .int (nI ww)), (5, .int (nI z))]) hx hb dX7_common__179 hl (by decide) rfl (fun ls hl => ?_)
                              refine lv_iinc (v := nI (z + 1)) (lv' := [(5, .int (nI (z + 1))), (4, .int (nI (cnt (fun j => cmmn x (lies (pn qq) (pX (F 1) qq) (pY (F 1) qq) (qX j) (qY j)) (lies (pn pp) (pX (F 1) pp) (pY (F 1) pp) (qX j) (qY j))) z))), (6, .int (nI (lies (pn qq) X1_6 Y1_6 (nI (z % 32)) (nI (z / 32))))), (0, .ref (a 0)), (3, .int (nI ww))]) hx hb dX7_common__181 hl (k := 4) rfl (nI_1 _) (by decide) rfl (fun ls hl => ?_)
                              refine lv_goto (tgt := 84) hx hb dX7_common__184 (by decide) ?_
                              exact ih_84 (z + 1) (by omega) (by omega) _ _ hP hD hS ls (by rw [cnt_f (P := fun j => cmmn x (lies (pn qq) (pX (F 1) qq) (pY (F 1) qq) (qX j) (qY j)) (lies (pn pp) (pX (F 1) pp) (pY (F 1) pp) (qX j) (qY j))) hcm]; exact (lv_sub hl [3, 4, 1, 0] rfl))
                            · skip
                              have nc_15 : ¬ (lies (pn qq) X1_6 Y1_6 (nI (z % 32)) (nI (z / 32)) ≤ 0) := fun h => c_15 ((nI_leI (a := (lies (pn qq) X1_6 Y1_6 (nI (z % 32)) (nI (z / 32)))) (b := 0) (by omega) (by omega)).mpr h)
                              refine lv_aload_n hx hb dX7_common__163 rfl (lv_at hl 1 rfl) ?_
                              refine va_get (D := D) (ci := 9) (v := .ref (a 11)) (C := RX7) (T := TX7) (N := 24) hx hb hts (by decide +kernel) hown hK hP 0 rfl rfl 21 (by decide) (hts (.fieldLink RX7 41 "LandDeedsModel" "lain" "[I") (by decide +kernel)) (fun _ h9 => h9) rfl dX7_common__164 ?_
                              refine lv_iload hx hb dX7_common__167 (lv_at hl 4 rfl) ?_
                              refine u_iald hx hb hK hP 11 0 rfl rfl rfl ⟨by omega, by omega⟩ dX7_common__169 ?_
                              refine u_eqi (show O z = nI (lies (pn pp) (pX (F 1) pp) (pY (F 1) pp) (nI (z % 32)) (nI (z / 32))) from hO z (by omega)) ?_
                              refine lv_if_le (tgt := 177) hx hb dX7_common__170 (by decide) (fun c_16 => ?_) (fun c_16 => ?_)
                              · skip
                                have nc_16 : lies (pn pp) (pX (F 1) pp) (pY (F 1) pp) (nI (z % 32)) (nI (z / 32)) ≤ 0 := (nI_leI (a := (lies (pn pp) (pX (F 1) pp) (pY (F 1) pp) (nI (z % 32)) (nI (z / 32)))) (b := 0) (by omega) (by omega)).mp c_16
                                have hcm : ¬ cmmn x (lies (pn qq) (pX (F 1) qq) (pY (F 1) qq) (qX z) (qY z)) (lies (pn pp) (pX (F 1) pp) (pY (F 1) pp) (qX z) (qY z)) := by rw [← lies_congr hLK_qq]; rw [eww, cmmn_n (by omega)]; unfold qX qY; omega
                                refine lv_iconst (v := 0) hx hb dX7_common__177 (by decide) ?_
                                refine lv_iadd hx hb dX7_common__178 ?_
                                refine u_eqi (show (nI (cnt (fun j => cmmn x (lies (pn qq) (pX (F 1) qq) (pY (F 1) qq) (qX j) (qY j)) (lies (pn pp) (pX (F 1) pp) (pY (F 1) pp) (qX j) (qY j))) z)) + 0 = nI (cnt (fun j => cmmn x (lies (pn qq) (pX (F 1) qq) (pY (F 1) qq) (qX j) (qY j)) (lies (pn pp) (pX (F 1) pp) (pY (F 1) pp) (qX j) (qY j))) z) from Int32.add_zero _) ?_
                                refine lv_istore (lv' := [(4, .int (nI (cnt (fun j => cmmn x (lies (pn qq) (pX (F 1) qq) (pY (F 1) qq) (qX j) (qY j)) (lies (pn pp) (pX (F 1) pp) (pY (F 1) pp) (qX j) (qY j))) z))), (6, .int (nI (lies (pn qq) X1_6 Y1_6 (nI (z % 32)) (nI (z / 32))))), (0, .ref (a 0)), (3, .int (nI ww)), (5, .int (nI z))]) hx hb dX7_common__179 hl (by decide) rfl (fun ls hl => ?_)
                                refine lv_iinc (v := nI (z + 1)) (lv' := [(5, .int (nI (z + 1))), (4, .int (nI (cnt (fun j => cmmn x (lies (pn qq) (pX (F 1) qq) (pY (F 1) qq) (qX j) (qY j)) (lies (pn pp) (pX (F 1) pp) (pY (F 1) pp) (qX j) (qY j))) z))), (6, .int (nI (lies (pn qq) X1_6 Y1_6 (nI (z % 32)) (nI (z / 32))))), (0, .ref (a 0)), (3, .int (nI ww))]) hx hb dX7_common__181 hl (k := 4) rfl (nI_1 _) (by decide) rfl (fun ls hl => ?_)
                                refine lv_goto (tgt := 84) hx hb dX7_common__184 (by decide) ?_
                                exact ih_84 (z + 1) (by omega) (by omega) _ _ hP hD hS ls (by rw [cnt_f (P := fun j => cmmn x (lies (pn qq) (pX (F 1) qq) (pY (F 1) qq) (qX j) (qY j)) (lies (pn pp) (pX (F 1) pp) (pY (F 1) pp) (qX j) (qY j))) hcm]; exact (lv_sub hl [3, 4, 1, 0] rfl))
                              · skip
                                have nc_16 : ¬ (lies (pn pp) (pX (F 1) pp) (pY (F 1) pp) (nI (z % 32)) (nI (z / 32)) ≤ 0) := fun h => c_16 ((nI_leI (a := (lies (pn pp) (pX (F 1) pp) (pY (F 1) pp) (nI (z % 32)) (nI (z / 32)))) (b := 0) (by omega) (by omega)).mpr h)
                                have hcm : cmmn x (lies (pn qq) (pX (F 1) qq) (pY (F 1) qq) (qX z) (qY z)) (lies (pn pp) (pX (F 1) pp) (pY (F 1) pp) (qX z) (qY z)) := by rw [← lies_congr hLK_qq]; rw [eww, cmmn_n (by omega)]; unfold qX qY; omega
                                refine lv_iconst (v := 1) hx hb dX7_common__173 (by decide) ?_
                                refine lv_goto (tgt := 178) hx hb dX7_common__174 (by decide) ?_
                                refine lv_iadd hx hb dX7_common__178 ?_
                                refine u_eqi (show (nI (cnt (fun j => cmmn x (lies (pn qq) (pX (F 1) qq) (pY (F 1) qq) (qX j) (qY j)) (lies (pn pp) (pX (F 1) pp) (pY (F 1) pp) (qX j) (qY j))) z)) + 1 = nI (cnt (fun j => cmmn x (lies (pn qq) (pX (F 1) qq) (pY (F 1) qq) (qX j) (qY j)) (lies (pn pp) (pX (F 1) pp) (pY (F 1) pp) (qX j) (qY j))) z + 1) from nI_1 _) ?_
                                refine lv_istore (lv' := [(4, .int (nI (cnt (fun j => cmmn x (lies (pn qq) (pX (F 1) qq) (pY (F 1) qq) (qX j) (qY j)) (lies (pn pp) (pX (F 1) pp) (pY (F 1) pp) (qX j) (qY j))) z + 1))), (6, .int (nI (lies (pn qq) X1_6 Y1_6 (nI (z % 32)) (nI (z / 32))))), (0, .ref (a 0)), (3, .int (nI ww)), (5, .int (nI z))]) hx hb dX7_common__179 hl (by decide) rfl (fun ls hl => ?_)
                                refine lv_iinc (v := nI (z + 1)) (lv' := [(5, .int (nI (z + 1))), (4, .int (nI (cnt (fun j => cmmn x (lies (pn qq) (pX (F 1) qq) (pY (F 1) qq) (qX j) (qY j)) (lies (pn pp) (pX (F 1) pp) (pY (F 1) pp) (qX j) (qY j))) z + 1))), (6, .int (nI (lies (pn qq) X1_6 Y1_6 (nI (z % 32)) (nI (z / 32))))), (0, .ref (a 0)), (3, .int (nI ww))]) hx hb dX7_common__181 hl (k := 4) rfl (nI_1 _) (by decide) rfl (fun ls hl => ?_)
                                refine lv_goto (tgt := 84) hx hb dX7_common__184 (by decide) ?_
                                exact ih_84 (z + 1) (by omega) (by omega) _ _ hP hD hS ls (by rw [cnt_t (P := fun j => cmmn x (lies (pn qq) (pX (F 1) qq) (pY (F 1) qq) (qX j) (qY j)) (lies (pn pp) (pX (F 1) pp) (pY (F 1) pp) (qX j) (qY j))) hcm]; exact (lv_sub hl [3, 4, 1, 0] rfl))
                        · skip
                          have nc_13 : lies (pn qq) X1_6 Y1_6 (nI (z % 32)) (nI (z / 32)) = 1 := (nI_eq (a := (lies (pn qq) X1_6 Y1_6 (nI (z % 32)) (nI (z / 32)))) (b := 1) (by omega) (by omega)).mp c_13
                          refine lv_aload_n hx hb dX7_common__142 rfl (lv_at hl 1 rfl) ?_
                          refine va_get (D := D) (ci := 9) (v := .ref (a 11)) (C := RX7) (T := TX7) (N := 24) hx hb hts (by decide +kernel) hown hK hP 0 rfl rfl 21 (by decide) (hts (.fieldLink RX7 41 "LandDeedsModel" "lain" "[I") (by decide +kernel)) (fun _ h9 => h9) rfl dX7_common__143 ?_
                          refine lv_iload hx hb dX7_common__146 (lv_at hl 4 rfl) ?_
                          refine u_iald hx hb hK hP 11 0 rfl rfl rfl ⟨by omega, by omega⟩ dX7_common__148 ?_
                          refine u_eqi (show O z = nI (lies (pn pp) (pX (F 1) pp) (pY (F 1) pp) (nI (z % 32)) (nI (z / 32))) from hO z (by omega)) ?_
                          refine lv_iconst (v := 1) hx hb dX7_common__149 (by decide) ?_
                          refine lv_icmp_eq (tgt := 173) hx hb dX7_common__150 (by decide) (fun c_17 => ?_) (fun c_17 => ?_)
                          · skip
                            have nc_17 : lies (pn pp) (pX (F 1) pp) (pY (F 1) pp) (nI (z % 32)) (nI (z / 32)) = 1 := (nI_eq (a := (lies (pn pp) (pX (F 1) pp) (pY (F 1) pp) (nI (z % 32)) (nI (z / 32)))) (b := 1) (by omega) (by omega)).mp c_17
                            have hcm : cmmn x (lies (pn qq) (pX (F 1) qq) (pY (F 1) qq) (qX z) (qY z)) (lies (pn pp) (pX (F 1) pp) (pY (F 1) pp) (qX z) (qY z)) := by rw [← lies_congr hLK_qq]; rw [eww, cmmn_n (by omega)]; unfold qX qY; omega
                            refine lv_iconst (v := 1) hx hb dX7_common__173 (by decide) ?_
                            refine lv_goto (tgt := 178) hx hb dX7_common__174 (by decide) ?_
                            refine lv_iadd hx hb dX7_common__178 ?_
                            refine u_eqi (show (nI (cnt (fun j => cmmn x (lies (pn qq) (pX (F 1) qq) (pY (F 1) qq) (qX j) (qY j)) (lies (pn pp) (pX (F 1) pp) (pY (F 1) pp) (qX j) (qY j))) z)) + 1 = nI (cnt (fun j => cmmn x (lies (pn qq) (pX (F 1) qq) (pY (F 1) qq) (qX j) (qY j)) (lies (pn pp) (pX (F 1) pp) (pY (F 1) pp) (qX j) (qY j))) z + 1) from nI_1 _) ?_
                            refine lv_istore (lv' := [(4, .int (nI (cnt (fun j => cmmn x (lies (pn qq) (pX (F 1) qq) (pY (F 1) qq) (qX j) (qY j)) (lies (pn pp) (pX (F 1) pp) (pY (F 1) pp) (qX j) (qY j))) z + 1))), (6, .int (nI (lies (pn qq) X1_6 Y1_6 (nI (z % 32)) (nI (z / 32))))), (0, .ref (a 0)), (3, .int (nI ww)), (5, .int (nI z))]) hx hb dX7_common__179 hl (by decide) rfl (fun ls hl => ?_)
                            refine lv_iinc (v := nI (z + 1)) (lv' := [(5, .int (nI (z + 1))), (4, .int (nI (cnt (fun j => cmmn x (lies (pn qq) (pX (F 1) qq) (pY (F 1) qq) (qX j) (qY j)) (lies (pn pp) (pX (F 1) pp) (pY (F 1) pp) (qX j) (qY j))) z + 1))), (6, .int (nI (lies (pn qq) X1_6 Y1_6 (nI (z % 32)) (nI (z / 32))))), (0, .ref (a 0)), (3, .int (nI ww))]) hx hb dX7_common__181 hl (k := 4) rfl (nI_1 _) (by decide) rfl (fun ls hl => ?_)
                            refine lv_goto (tgt := 84) hx hb dX7_common__184 (by decide) ?_
                            exact ih_84 (z + 1) (by omega) (by omega) _ _ hP hD hS ls (by rw [cnt_t (P := fun j => cmmn x (lies (pn qq) (pX (F 1) qq) (pY (F 1) qq) (qX j) (qY j)) (lies (pn pp) (pX (F 1) pp) (pY (F 1) pp) (qX j) (qY j))) hcm]; exact (lv_sub hl [3, 4, 1, 0] rfl))
                          · skip
                            have nc_17 : ¬ (lies (pn pp) (pX (F 1) pp) (pY (F 1) pp) (nI (z % 32)) (nI (z / 32)) = 1) := fun h => c_17 ((nI_eq (a := (lies (pn pp) (pX (F 1) pp) (pY (F 1) pp) (nI (z % 32)) (nI (z / 32)))) (b := 1) (by omega) (by omega)).mpr h)
                            refine lv_iload_n hx hb dX7_common__153 rfl (lv_at hl 2 rfl) ?_
                            refine lv_iconst (v := 2) hx hb dX7_common__154 (by decide) ?_
                            refine lv_icmp_ne (tgt := 177) hx hb dX7_common__155 (by decide) (fun c_18 => ?_) (fun c_18 => ?_)
                            · skip
                              have nc_18 : ¬ (ww = 2) := fun h => c_18 ((nI_eq (a := ww) (b := 2) (by omega) (by omega)).mpr h)
                              have hcm : ¬ cmmn x (lies (pn qq) (pX (F 1) qq) (pY (F 1) qq) (qX z) (qY z)) (lies (pn pp) (pX (F 1) pp) (pY (F 1) pp) (qX z) (qY z)) := by rw [← lies_congr hLK_qq]; rw [eww, cmmn_n (by omega)]; unfold qX qY; omega
                              refine lv_iconst (v := 0) hx hb dX7_common__177 (by decide) ?_
                              refine lv_iadd hx hb dX7_common__178 ?_
                              refine u_eqi (show (nI (cnt (fun j => cmmn x (lies (pn qq) (pX (F 1) qq) (pY (F 1) qq) (qX j) (qY j)) (lies (pn pp) (pX (F 1) pp) (pY (F 1) pp) (qX j) (qY j))) z)) + 0 = nI (cnt (fun j => cmmn x (lies (pn qq) (pX (F 1) qq) (pY (F 1) qq) (qX j) (qY j)) (lies (pn pp) (pX (F 1) pp) (pY (F 1) pp) (qX j) (qY j))) z) from Int32.add_zero _) ?_
                              refine lv_istore (lv' := [(4, .int (nI (cnt (fun j => cmmn x (lies (pn qq) (pX (F 1) qq) (pY (F 1) qq) (qX j) (qY j)) (lies (pn pp) (pX (F 1) pp) (pY (F 1) pp) (qX j) (qY j))) z))), (6, .int (nI (lies (pn qq) X1_6 Y1_6 (nI (z % 32)) (nI (z / 32))))), (0, .ref (a 0)), (3, .int (nI ww)), (5, .int (nI z))]) hx hb dX7_common__179 hl (by decide) rfl (fun ls hl => ?_)
                              refine lv_iinc (v := nI (z + 1)) (lv' := [(5, .int (nI (z + 1))), (4, .int (nI (cnt (fun j => cmmn x (lies (pn qq) (pX (F 1) qq) (pY (F 1) qq) (qX j) (qY j)) (lies (pn pp) (pX (F 1) pp) (pY (F 1) pp) (qX j) (qY j))) z))), (6, .int (nI (lies (pn qq) X1_6 Y1_6 (nI (z % 32)) (nI (z / 32))))), (0, .ref (a 0)), (3, .int (nI ww))]) hx hb dX7_common__181 hl (k := 4) rfl (nI_1 _) (by decide) rfl (fun ls hl => ?_)
                              refine lv_goto (tgt := 84) hx hb dX7_common__184 (by decide) ?_
                              exact ih_84 (z + 1) (by omega) (by omega) _ _ hP hD hS ls (by rw [cnt_f (P := fun j => cmmn x (lies (pn qq) (pX (F 1) qq) (pY (F 1) qq) (qX j) (qY j)) (lies (pn pp) (pX (F 1) pp) (pY (F 1) pp) (qX j) (qY j))) hcm]; exact (lv_sub hl [3, 4, 1, 0] rfl))
                            · skip
                              have nc_18 : ww = 2 := (nI_eq (a := ww) (b := 2) (by omega) (by omega)).mp c_18
                              refine lv_iload hx hb dX7_common__158 (lv_at hl 0 rfl) ?_
                              refine lv_if_le (tgt := 177) hx hb dX7_common__160 (by decide) (fun c_19 => ?_) (fun c_19 => ?_)
                              · skip
                                have nc_19 : lies (pn qq) X1_6 Y1_6 (nI (z % 32)) (nI (z / 32)) ≤ 0 := (nI_leI (a := (lies (pn qq) X1_6 Y1_6 (nI (z % 32)) (nI (z / 32)))) (b := 0) (by omega) (by omega)).mp c_19
                                have hcm : ¬ cmmn x (lies (pn qq) (pX (F 1) qq) (pY (F 1) qq) (qX z) (qY z)) (lies (pn pp) (pX (F 1) pp) (pY (F 1) pp) (qX z) (qY z)) := by rw [← lies_congr hLK_qq]; rw [eww, cmmn_n (by omega)]; unfold qX qY; omega
                                refine lv_iconst (v := 0) hx hb dX7_common__177 (by decide) ?_
                                refine lv_iadd hx hb dX7_common__178 ?_
                                refine u_eqi (show (nI (cnt (fun j => cmmn x (lies (pn qq) (pX (F 1) qq) (pY (F 1) qq) (qX j) (qY j)) (lies (pn pp) (pX (F 1) pp) (pY (F 1) pp) (qX j) (qY j))) z)) + 0 = nI (cnt (fun j => cmmn x (lies (pn qq) (pX (F 1) qq) (pY (F 1) qq) (qX j) (qY j)) (lies (pn pp) (pX (F 1) pp) (pY (F 1) pp) (qX j) (qY j))) z) from Int32.add_zero _) ?_
                                refine lv_istore (lv' := [(4, .int (nI (cnt (fun j => cmmn x (lies (pn qq) (pX (F 1) qq) (pY (F 1) qq) (qX j) (qY j)) (lies (pn pp) (pX (F 1) pp) (pY (F 1) pp) (qX j) (qY j))) z))), (6, .int (nI (lies (pn qq) X1_6 Y1_6 (nI (z % 32)) (nI (z / 32))))), (0, .ref (a 0)), (3, .int (nI ww)), (5, .int (nI z))]) hx hb dX7_common__179 hl (by decide) rfl (fun ls hl => ?_)
                                refine lv_iinc (v := nI (z + 1)) (lv' := [(5, .int (nI (z + 1))), (4, .int (nI (cnt (fun j => cmmn x (lies (pn qq) (pX (F 1) qq) (pY (F 1) qq) (qX j) (qY j)) (lies (pn pp) (pX (F 1) pp) (pY (F 1) pp) (qX j) (qY j))) z))), (6, .int (nI (lies (pn qq) X1_6 Y1_6 (nI (z % 32)) (nI (z / 32))))), (0, .ref (a 0)), (3, .int (nI ww))]) hx hb dX7_common__181 hl (k := 4) rfl (nI_1 _) (by decide) rfl (fun ls hl => ?_)
                                refine lv_goto (tgt := 84) hx hb dX7_common__184 (by decide) ?_
                                exact ih_84 (z + 1) (by omega) (by omega) _ _ hP hD hS ls (by rw [cnt_f (P := fun j => cmmn x (lies (pn qq) (pX (F 1) qq) (pY (F 1) qq) (qX j) (qY j)) (lies (pn pp) (pX (F 1) pp) (pY (F 1) pp) (qX j) (qY j))) hcm]; exact (lv_sub hl [3, 4, 1, 0] rfl))
                              · skip
                                have nc_19 : ¬ (lies (pn qq) X1_6 Y1_6 (nI (z % 32)) (nI (z / 32)) ≤ 0) := fun h => c_19 ((nI_leI (a := (lies (pn qq) X1_6 Y1_6 (nI (z % 32)) (nI (z / 32)))) (b := 0) (by omega) (by omega)).mpr h)
                                refine lv_aload_n hx hb dX7_common__163 rfl (lv_at hl 1 rfl) ?_
                                refine va_get (D := D) (ci := 9) (v := .ref (a 11)) (C := RX7) (T := TX7) (N := 24) hx hb hts (by decide +kernel) hown hK hP 0 rfl rfl 21 (by decide) (hts (.fieldLink RX7 41 "LandDeedsModel" "lain" "[I") (by decide +kernel)) (fun _ h9 => h9) rfl dX7_common__164 ?_
                                refine lv_iload hx hb dX7_common__167 (lv_at hl 4 rfl) ?_
                                refine u_iald hx hb hK hP 11 0 rfl rfl rfl ⟨by omega, by omega⟩ dX7_common__169 ?_
                                refine u_eqi (show O z = nI (lies (pn pp) (pX (F 1) pp) (pY (F 1) pp) (nI (z % 32)) (nI (z / 32))) from hO z (by omega)) ?_
                                refine lv_if_le (tgt := 177) hx hb dX7_common__170 (by decide) (fun c_20 => ?_) (fun c_20 => ?_)
                                · skip
                                  have nc_20 : lies (pn pp) (pX (F 1) pp) (pY (F 1) pp) (nI (z % 32)) (nI (z / 32)) ≤ 0 := (nI_leI (a := (lies (pn pp) (pX (F 1) pp) (pY (F 1) pp) (nI (z % 32)) (nI (z / 32)))) (b := 0) (by omega) (by omega)).mp c_20
                                  have hcm : ¬ cmmn x (lies (pn qq) (pX (F 1) qq) (pY (F 1) qq) (qX z) (qY z)) (lies (pn pp) (pX (F 1) pp) (pY (F 1) pp) (qX z) (qY z)) := by rw [← lies_congr hLK_qq]; rw [eww, cmmn_n (by omega)]; unfold qX qY; omega
                                  refine lv_iconst (v := 0) hx hb dX7_common__177 (by decide) ?_
                                  refine lv_iadd hx hb dX7_common__178 ?_
                                  refine u_eqi (show (nI (cnt (fun j => cmmn x (lies (pn qq) (pX (F 1) qq) (pY (F 1) qq) (qX j) (qY j)) (lies (pn pp) (pX (F 1) pp) (pY (F 1) pp) (qX j) (qY j))) z)) + 0 = nI (cnt (fun j => cmmn x (lies (pn qq) (pX (F 1) qq) (pY (F 1) qq) (qX j) (qY j)) (lies (pn pp) (pX (F 1) pp) (pY (F 1) pp) (qX j) (qY j))) z) from Int32.add_zero _) ?_
                                  refine lv_istore (lv' := [(4, .int (nI (cnt (fun j => cmmn x (lies (pn qq) (pX (F 1) qq) (pY (F 1) qq) (qX j) (qY j)) (lies (pn pp) (pX (F 1) pp) (pY (F 1) pp) (qX j) (qY j))) z))), (6, .int (nI (lies (pn qq) X1_6 Y1_6 (nI (z % 32)) (nI (z / 32))))), (0, .ref (a 0)), (3, .int (nI ww)), (5, .int (nI z))]) hx hb dX7_common__179 hl (by decide) rfl (fun ls hl => ?_)
                                  refine lv_iinc (v := nI (z + 1)) (lv' := [(5, .int (nI (z + 1))), (4, .int (nI (cnt (fun j => cmmn x (lies (pn qq) (pX (F 1) qq) (pY (F 1) qq) (qX j) (qY j)) (lies (pn pp) (pX (F 1) pp) (pY (F 1) pp) (qX j) (qY j))) z))), (6, .int (nI (lies (pn qq) X1_6 Y1_6 (nI (z % 32)) (nI (z / 32))))), (0, .ref (a 0)), (3, .int (nI ww))]) hx hb dX7_common__181 hl (k := 4) rfl (nI_1 _) (by decide) rfl (fun ls hl => ?_)
                                  refine lv_goto (tgt := 84) hx hb dX7_common__184 (by decide) ?_
                                  exact ih_84 (z + 1) (by omega) (by omega) _ _ hP hD hS ls (by rw [cnt_f (P := fun j => cmmn x (lies (pn qq) (pX (F 1) qq) (pY (F 1) qq) (qX j) (qY j)) (lies (pn pp) (pX (F 1) pp) (pY (F 1) pp) (qX j) (qY j))) hcm]; exact (lv_sub hl [3, 4, 1, 0] rfl))
                                · skip
                                  have nc_20 : ¬ (lies (pn pp) (pX (F 1) pp) (pY (F 1) pp) (nI (z % 32)) (nI (z / 32)) ≤ 0) := fun h => c_20 ((nI_leI (a := (lies (pn pp) (pX (F 1) pp) (pY (F 1) pp) (nI (z % 32)) (nI (z / 32)))) (b := 0) (by omega) (by omega)).mpr h)
                                  have hcm : cmmn x (lies (pn qq) (pX (F 1) qq) (pY (F 1) qq) (qX z) (qY z)) (lies (pn pp) (pX (F 1) pp) (pY (F 1) pp) (qX z) (qY z)) := by rw [← lies_congr hLK_qq]; rw [eww, cmmn_n (by omega)]; unfold qX qY; omega
                                  refine lv_iconst (v := 1) hx hb dX7_common__173 (by decide) ?_
                                  refine lv_goto (tgt := 178) hx hb dX7_common__174 (by decide) ?_
                                  refine lv_iadd hx hb dX7_common__178 ?_
                                  refine u_eqi (show (nI (cnt (fun j => cmmn x (lies (pn qq) (pX (F 1) qq) (pY (F 1) qq) (qX j) (qY j)) (lies (pn pp) (pX (F 1) pp) (pY (F 1) pp) (qX j) (qY j))) z)) + 1 = nI (cnt (fun j => cmmn x (lies (pn qq) (pX (F 1) qq) (pY (F 1) qq) (qX j) (qY j)) (lies (pn pp) (pX (F 1) pp) (pY (F 1) pp) (qX j) (qY j))) z + 1) from nI_1 _) ?_
                                  refine lv_istore (lv' := [(4, .int (nI (cnt (fun j => cmmn x (lies (pn qq) (pX (F 1) qq) (pY (F 1) qq) (qX j) (qY j)) (lies (pn pp) (pX (F 1) pp) (pY (F 1) pp) (qX j) (qY j))) z + 1))), (6, .int (nI (lies (pn qq) X1_6 Y1_6 (nI (z % 32)) (nI (z / 32))))), (0, .ref (a 0)), (3, .int (nI ww)), (5, .int (nI z))]) hx hb dX7_common__179 hl (by decide) rfl (fun ls hl => ?_)
                                  refine lv_iinc (v := nI (z + 1)) (lv' := [(5, .int (nI (z + 1))), (4, .int (nI (cnt (fun j => cmmn x (lies (pn qq) (pX (F 1) qq) (pY (F 1) qq) (qX j) (qY j)) (lies (pn pp) (pX (F 1) pp) (pY (F 1) pp) (qX j) (qY j))) z + 1))), (6, .int (nI (lies (pn qq) X1_6 Y1_6 (nI (z % 32)) (nI (z / 32))))), (0, .ref (a 0)), (3, .int (nI ww))]) hx hb dX7_common__181 hl (k := 4) rfl (nI_1 _) (by decide) rfl (fun ls hl => ?_)
                                  refine lv_goto (tgt := 84) hx hb dX7_common__184 (by decide) ?_
                                  exact ih_84 (z + 1) (by omega) (by omega) _ _ hP hD hS ls (by rw [cnt_t (P := fun j => cmmn x (lies (pn qq) (pX (F 1) qq) (pY (F 1) qq) (qX j) (qY j)) (lies (pn pp) (pX (F 1) pp) (pY (F 1) pp) (qX j) (qY j))) hcm]; exact (lv_sub hl [3, 4, 1, 0] rfl))
                    · skip
                      have nc_8 : ww = 0 := (nI_eq (a := ww) (b := 0) (by omega) (by omega)).mp c_8
                      refine lv_iload hx hb dX7_common__114 (lv_at hl 0 rfl) ?_
                      refine lv_iconst (v := 2) hx hb dX7_common__116 (by decide) ?_
                      refine lv_icmp_ne (tgt := 131) hx hb dX7_common__117 (by decide) (fun c_21 => ?_) (fun c_21 => ?_)
                      · skip
                        have nc_21 : ¬ (lies (pn qq) X1_6 Y1_6 (nI (z % 32)) (nI (z / 32)) = 2) := fun h => c_21 ((nI_eq (a := (lies (pn qq) X1_6 Y1_6 (nI (z % 32)) (nI (z / 32)))) (b := 2) (by omega) (by omega)).mpr h)
                        refine lv_iload_n hx hb dX7_common__131 rfl (lv_at hl 2 rfl) ?_
                        refine lv_iconst (v := 1) hx hb dX7_common__132 (by decide) ?_
                        refine lv_icmp_ne (tgt := 153) hx hb dX7_common__133 (by decide) (fun c_22 => ?_) (fun c_22 => ?_)
                        · skip
                          have nc_22 : ¬ (ww = 1) := fun h => c_22 ((nI_eq (a := ww) (b := 1) (by omega) (by omega)).mpr h)
                          refine lv_iload_n hx hb dX7_common__153 rfl (lv_at hl 2 rfl) ?_
                          refine lv_iconst (v := 2) hx hb dX7_common__154 (by decide) ?_
                          refine lv_icmp_ne (tgt := 177) hx hb dX7_common__155 (by decide) (fun c_23 => ?_) (fun c_23 => ?_)
                          · skip
                            have nc_23 : ¬ (ww = 2) := fun h => c_23 ((nI_eq (a := ww) (b := 2) (by omega) (by omega)).mpr h)
                            have hcm : ¬ cmmn x (lies (pn qq) (pX (F 1) qq) (pY (F 1) qq) (qX z) (qY z)) (lies (pn pp) (pX (F 1) pp) (pY (F 1) pp) (qX z) (qY z)) := by rw [← lies_congr hLK_qq]; rw [eww, cmmn_n (by omega)]; unfold qX qY; omega
                            refine lv_iconst (v := 0) hx hb dX7_common__177 (by decide) ?_
                            refine lv_iadd hx hb dX7_common__178 ?_
                            refine u_eqi (show (nI (cnt (fun j => cmmn x (lies (pn qq) (pX (F 1) qq) (pY (F 1) qq) (qX j) (qY j)) (lies (pn pp) (pX (F 1) pp) (pY (F 1) pp) (qX j) (qY j))) z)) + 0 = nI (cnt (fun j => cmmn x (lies (pn qq) (pX (F 1) qq) (pY (F 1) qq) (qX j) (qY j)) (lies (pn pp) (pX (F 1) pp) (pY (F 1) pp) (qX j) (qY j))) z) from Int32.add_zero _) ?_
                            refine lv_istore (lv' := [(4, .int (nI (cnt (fun j => cmmn x (lies (pn qq) (pX (F 1) qq) (pY (F 1) qq) (qX j) (qY j)) (lies (pn pp) (pX (F 1) pp) (pY (F 1) pp) (qX j) (qY j))) z))), (6, .int (nI (lies (pn qq) X1_6 Y1_6 (nI (z % 32)) (nI (z / 32))))), (0, .ref (a 0)), (3, .int (nI ww)), (5, .int (nI z))]) hx hb dX7_common__179 hl (by decide) rfl (fun ls hl => ?_)
                            refine lv_iinc (v := nI (z + 1)) (lv' := [(5, .int (nI (z + 1))), (4, .int (nI (cnt (fun j => cmmn x (lies (pn qq) (pX (F 1) qq) (pY (F 1) qq) (qX j) (qY j)) (lies (pn pp) (pX (F 1) pp) (pY (F 1) pp) (qX j) (qY j))) z))), (6, .int (nI (lies (pn qq) X1_6 Y1_6 (nI (z % 32)) (nI (z / 32))))), (0, .ref (a 0)), (3, .int (nI ww))]) hx hb dX7_common__181 hl (k := 4) rfl (nI_1 _) (by decide) rfl (fun ls hl => ?_)
                            refine lv_goto (tgt := 84) hx hb dX7_common__184 (by decide) ?_
                            exact ih_84 (z + 1) (by omega) (by omega) _ _ hP hD hS ls (by rw [cnt_f (P := fun j => cmmn x (lies (pn qq) (pX (F 1) qq) (pY (F 1) qq) (qX j) (qY j)) (lies (pn pp) (pX (F 1) pp) (pY (F 1) pp) (qX j) (qY j))) hcm]; exact (lv_sub hl [3, 4, 1, 0] rfl))
                          · skip
                            have nc_23 : ww = 2 := (nI_eq (a := ww) (b := 2) (by omega) (by omega)).mp c_23
                            refine lv_iload hx hb dX7_common__158 (lv_at hl 0 rfl) ?_
                            refine lv_if_le (tgt := 177) hx hb dX7_common__160 (by decide) (fun c_24 => ?_) (fun c_24 => ?_)
                            · skip
                              have nc_24 : lies (pn qq) X1_6 Y1_6 (nI (z % 32)) (nI (z / 32)) ≤ 0 := (nI_leI (a := (lies (pn qq) X1_6 Y1_6 (nI (z % 32)) (nI (z / 32)))) (b := 0) (by omega) (by omega)).mp c_24
                              have hcm : ¬ cmmn x (lies (pn qq) (pX (F 1) qq) (pY (F 1) qq) (qX z) (qY z)) (lies (pn pp) (pX (F 1) pp) (pY (F 1) pp) (qX z) (qY z)) := by rw [← lies_congr hLK_qq]; rw [eww, cmmn_n (by omega)]; unfold qX qY; omega
                              refine lv_iconst (v := 0) hx hb dX7_common__177 (by decide) ?_
                              refine lv_iadd hx hb dX7_common__178 ?_
                              refine u_eqi (show (nI (cnt (fun j => cmmn x (lies (pn qq) (pX (F 1) qq) (pY (F 1) qq) (qX j) (qY j)) (lies (pn pp) (pX (F 1) pp) (pY (F 1) pp) (qX j) (qY j))) z)) + 0 = nI (cnt (fun j => cmmn x (lies (pn qq) (pX (F 1) qq) (pY (F 1) qq) (qX j) (qY j)) (lies (pn pp) (pX (F 1) pp) (pY (F 1) pp) (qX j) (qY j))) z) from Int32.add_zero _) ?_
                              refine lv_istore (lv' := [(4, .int (nI (cnt (fun j => cmmn x (lies (pn qq) (pX (F 1) qq) (pY (F 1) qq) (qX j) (qY j)) (lies (pn pp) (pX (F 1) pp) (pY (F 1) pp) (qX j) (qY j))) z))), (6, .int (nI (lies (pn qq) X1_6 Y1_6 (nI (z % 32)) (nI (z / 32))))), (0, .ref (a 0)), (3, .int (nI ww)), (5, .int (nI z))]) hx hb dX7_common__179 hl (by decide) rfl (fun ls hl => ?_)
                              refine lv_iinc (v := nI (z + 1)) (lv' := [(5, .int (nI (z + 1))), (4, .int (nI (cnt (fun j => cmmn x (lies (pn qq) (pX (F 1) qq) (pY (F 1) qq) (qX j) (qY j)) (lies (pn pp) (pX (F 1) pp) (pY (F 1) pp) (qX j) (qY j))) z))), (6, .int (nI (lies (pn qq) X1_6 Y1_6 (nI (z % 32)) (nI (z / 32))))), (0, .ref (a 0)), (3, .int (nI ww))]) hx hb dX7_common__181 hl (k := 4) rfl (nI_1 _) (by decide) rfl (fun ls hl => ?_)
                              refine lv_goto (tgt := 84) hx hb dX7_common__184 (by decide) ?_
                              exact ih_84 (z + 1) (by omega) (by omega) _ _ hP hD hS ls (by rw [cnt_f (P := fun j => cmmn x (lies (pn qq) (pX (F 1) qq) (pY (F 1) qq) (qX j) (qY j)) (lies (pn pp) (pX (F 1) pp) (pY (F 1) pp) (qX j) (qY j))) hcm]; exact (lv_sub hl [3, 4, 1, 0] rfl))
                            · skip
                              have nc_24 : ¬ (lies (pn qq) X1_6 Y1_6 (nI (z % 32)) (nI (z / 32)) ≤ 0) := fun h => c_24 ((nI_leI (a := (lies (pn qq) X1_6 Y1_6 (nI (z % 32)) (nI (z / 32)))) (b := 0) (by omega) (by omega)).mpr h)
                              refine lv_aload_n hx hb dX7_common__163 rfl (lv_at hl 1 rfl) ?_
                              refine va_get (D := D) (ci := 9) (v := .ref (a 11)) (C := RX7) (T := TX7) (N := 24) hx hb hts (by decide +kernel) hown hK hP 0 rfl rfl 21 (by decide) (hts (.fieldLink RX7 41 "LandDeedsModel" "lain" "[I") (by decide +kernel)) (fun _ h9 => h9) rfl dX7_common__164 ?_
                              refine lv_iload hx hb dX7_common__167 (lv_at hl 4 rfl) ?_
                              refine u_iald hx hb hK hP 11 0 rfl rfl rfl ⟨by omega, by omega⟩ dX7_common__169 ?_
                              refine u_eqi (show O z = nI (lies (pn pp) (pX (F 1) pp) (pY (F 1) pp) (nI (z % 32)) (nI (z / 32))) from hO z (by omega)) ?_
                              refine lv_if_le (tgt := 177) hx hb dX7_common__170 (by decide) (fun c_25 => ?_) (fun c_25 => ?_)
                              · skip
                                have nc_25 : lies (pn pp) (pX (F 1) pp) (pY (F 1) pp) (nI (z % 32)) (nI (z / 32)) ≤ 0 := (nI_leI (a := (lies (pn pp) (pX (F 1) pp) (pY (F 1) pp) (nI (z % 32)) (nI (z / 32)))) (b := 0) (by omega) (by omega)).mp c_25
                                have hcm : ¬ cmmn x (lies (pn qq) (pX (F 1) qq) (pY (F 1) qq) (qX z) (qY z)) (lies (pn pp) (pX (F 1) pp) (pY (F 1) pp) (qX z) (qY z)) := by rw [← lies_congr hLK_qq]; rw [eww, cmmn_n (by omega)]; unfold qX qY; omega
                                refine lv_iconst (v := 0) hx hb dX7_common__177 (by decide) ?_
                                refine lv_iadd hx hb dX7_common__178 ?_
                                refine u_eqi (show (nI (cnt (fun j => cmmn x (lies (pn qq) (pX (F 1) qq) (pY (F 1) qq) (qX j) (qY j)) (lies (pn pp) (pX (F 1) pp) (pY (F 1) pp) (qX j) (qY j))) z)) + 0 = nI (cnt (fun j => cmmn x (lies (pn qq) (pX (F 1) qq) (pY (F 1) qq) (qX j) (qY j)) (lies (pn pp) (pX (F 1) pp) (pY (F 1) pp) (qX j) (qY j))) z) from Int32.add_zero _) ?_
                                refine lv_istore (lv' := [(4, .int (nI (cnt (fun j => cmmn x (lies (pn qq) (pX (F 1) qq) (pY (F 1) qq) (qX j) (qY j)) (lies (pn pp) (pX (F 1) pp) (pY (F 1) pp) (qX j) (qY j))) z))), (6, .int (nI (lies (pn qq) X1_6 Y1_6 (nI (z % 32)) (nI (z / 32))))), (0, .ref (a 0)), (3, .int (nI ww)), (5, .int (nI z))]) hx hb dX7_common__179 hl (by decide) rfl (fun ls hl => ?_)
                                refine lv_iinc (v := nI (z + 1)) (lv' := [(5, .int (nI (z + 1))), (4, .int (nI (cnt (fun j => cmmn x (lies (pn qq) (pX (F 1) qq) (pY (F 1) qq) (qX j) (qY j)) (lies (pn pp) (pX (F 1) pp) (pY (F 1) pp) (qX j) (qY j))) z))), (6, .int (nI (lies (pn qq) X1_6 Y1_6 (nI (z % 32)) (nI (z / 32))))), (0, .ref (a 0)), (3, .int (nI ww))]) hx hb dX7_common__181 hl (k := 4) rfl (nI_1 _) (by decide) rfl (fun ls hl => ?_)
                                refine lv_goto (tgt := 84) hx hb dX7_common__184 (by decide) ?_
                                exact ih_84 (z + 1) (by omega) (by omega) _ _ hP hD hS ls (by rw [cnt_f (P := fun j => cmmn x (lies (pn qq) (pX (F 1) qq) (pY (F 1) qq) (qX j) (qY j)) (lies (pn pp) (pX (F 1) pp) (pY (F 1) pp) (qX j) (qY j))) hcm]; exact (lv_sub hl [3, 4, 1, 0] rfl))
                              · skip
                                have nc_25 : ¬ (lies (pn pp) (pX (F 1) pp) (pY (F 1) pp) (nI (z % 32)) (nI (z / 32)) ≤ 0) := fun h => c_25 ((nI_leI (a := (lies (pn pp) (pX (F 1) pp) (pY (F 1) pp) (nI (z % 32)) (nI (z / 32)))) (b := 0) (by omega) (by omega)).mpr h)
                                have hcm : cmmn x (lies (pn qq) (pX (F 1) qq) (pY (F 1) qq) (qX z) (qY z)) (lies (pn pp) (pX (F 1) pp) (pY (F 1) pp) (qX z) (qY z)) := by rw [← lies_congr hLK_qq]; rw [eww, cmmn_n (by omega)]; unfold qX qY; omega
                                refine lv_iconst (v := 1) hx hb dX7_common__173 (by decide) ?_
                                refine lv_goto (tgt := 178) hx hb dX7_common__174 (by decide) ?_
                                refine lv_iadd hx hb dX7_common__178 ?_
                                refine u_eqi (show (nI (cnt (fun j => cmmn x (lies (pn qq) (pX (F 1) qq) (pY (F 1) qq) (qX j) (qY j)) (lies (pn pp) (pX (F 1) pp) (pY (F 1) pp) (qX j) (qY j))) z)) + 1 = nI (cnt (fun j => cmmn x (lies (pn qq) (pX (F 1) qq) (pY (F 1) qq) (qX j) (qY j)) (lies (pn pp) (pX (F 1) pp) (pY (F 1) pp) (qX j) (qY j))) z + 1) from nI_1 _) ?_
                                refine lv_istore (lv' := [(4, .int (nI (cnt (fun j => cmmn x (lies (pn qq) (pX (F 1) qq) (pY (F 1) qq) (qX j) (qY j)) (lies (pn pp) (pX (F 1) pp) (pY (F 1) pp) (qX j) (qY j))) z + 1))), (6, .int (nI (lies (pn qq) X1_6 Y1_6 (nI (z % 32)) (nI (z / 32))))), (0, .ref (a 0)), (3, .int (nI ww)), (5, .int (nI z))]) hx hb dX7_common__179 hl (by decide) rfl (fun ls hl => ?_)
                                refine lv_iinc (v := nI (z + 1)) (lv' := [(5, .int (nI (z + 1))), (4, .int (nI (cnt (fun j => cmmn x (lies (pn qq) (pX (F 1) qq) (pY (F 1) qq) (qX j) (qY j)) (lies (pn pp) (pX (F 1) pp) (pY (F 1) pp) (qX j) (qY j))) z + 1))), (6, .int (nI (lies (pn qq) X1_6 Y1_6 (nI (z % 32)) (nI (z / 32))))), (0, .ref (a 0)), (3, .int (nI ww))]) hx hb dX7_common__181 hl (k := 4) rfl (nI_1 _) (by decide) rfl (fun ls hl => ?_)
                                refine lv_goto (tgt := 84) hx hb dX7_common__184 (by decide) ?_
                                exact ih_84 (z + 1) (by omega) (by omega) _ _ hP hD hS ls (by rw [cnt_t (P := fun j => cmmn x (lies (pn qq) (pX (F 1) qq) (pY (F 1) qq) (qX j) (qY j)) (lies (pn pp) (pX (F 1) pp) (pY (F 1) pp) (qX j) (qY j))) hcm]; exact (lv_sub hl [3, 4, 1, 0] rfl))
                        · skip
                          have nc_22 : ww = 1 := (nI_eq (a := ww) (b := 1) (by omega) (by omega)).mp c_22
                          refine lv_iload hx hb dX7_common__136 (lv_at hl 0 rfl) ?_
                          refine lv_iconst (v := 1) hx hb dX7_common__138 (by decide) ?_
                          refine lv_icmp_ne (tgt := 153) hx hb dX7_common__139 (by decide) (fun c_26 => ?_) (fun c_26 => ?_)
                          · skip
                            have nc_26 : ¬ (lies (pn qq) X1_6 Y1_6 (nI (z % 32)) (nI (z / 32)) = 1) := fun h => c_26 ((nI_eq (a := (lies (pn qq) X1_6 Y1_6 (nI (z % 32)) (nI (z / 32)))) (b := 1) (by omega) (by omega)).mpr h)
                            refine lv_iload_n hx hb dX7_common__153 rfl (lv_at hl 2 rfl) ?_
                            refine lv_iconst (v := 2) hx hb dX7_common__154 (by decide) ?_
                            refine lv_icmp_ne (tgt := 177) hx hb dX7_common__155 (by decide) (fun c_27 => ?_) (fun c_27 => ?_)
                            · skip
                              have nc_27 : ¬ (ww = 2) := fun h => c_27 ((nI_eq (a := ww) (b := 2) (by omega) (by omega)).mpr h)
                              have hcm : ¬ cmmn x (lies (pn qq) (pX (F 1) qq) (pY (F 1) qq) (qX z) (qY z)) (lies (pn pp) (pX (F 1) pp) (pY (F 1) pp) (qX z) (qY z)) := by rw [← lies_congr hLK_qq]; rw [eww, cmmn_n (by omega)]; unfold qX qY; omega
                              refine lv_iconst (v := 0) hx hb dX7_common__177 (by decide) ?_
                              refine lv_iadd hx hb dX7_common__178 ?_
                              refine u_eqi (show (nI (cnt (fun j => cmmn x (lies (pn qq) (pX (F 1) qq) (pY (F 1) qq) (qX j) (qY j)) (lies (pn pp) (pX (F 1) pp) (pY (F 1) pp) (qX j) (qY j))) z)) + 0 = nI (cnt (fun j => cmmn x (lies (pn qq) (pX (F 1) qq) (pY (F 1) qq) (qX j) (qY j)) (lies (pn pp) (pX (F 1) pp) (pY (F 1) pp) (qX j) (qY j))) z) from Int32.add_zero _) ?_
                              refine lv_istore (lv' := [(4, .int (nI (cnt (fun j => cmmn x (lies (pn qq) (pX (F 1) qq) (pY (F 1) qq) (qX j) (qY j)) (lies (pn pp) (pX (F 1) pp) (pY (F 1) pp) (qX j) (qY j))) z))), (6, .int (nI (lies (pn qq) X1_6 Y1_6 (nI (z % 32)) (nI (z / 32))))), (0, .ref (a 0)), (3, .int (nI ww)), (5, .int (nI z))]) hx hb dX7_common__179 hl (by decide) rfl (fun ls hl => ?_)
                              refine lv_iinc (v := nI (z + 1)) (lv' := [(5, .int (nI (z + 1))), (4, .int (nI (cnt (fun j => cmmn x (lies (pn qq) (pX (F 1) qq) (pY (F 1) qq) (qX j) (qY j)) (lies (pn pp) (pX (F 1) pp) (pY (F 1) pp) (qX j) (qY j))) z))), (6, .int (nI (lies (pn qq) X1_6 Y1_6 (nI (z % 32)) (nI (z / 32))))), (0, .ref (a 0)), (3, .int (nI ww))]) hx hb dX7_common__181 hl (k := 4) rfl (nI_1 _) (by decide) rfl (fun ls hl => ?_)
                              refine lv_goto (tgt := 84) hx hb dX7_common__184 (by decide) ?_
                              exact ih_84 (z + 1) (by omega) (by omega) _ _ hP hD hS ls (by rw [cnt_f (P := fun j => cmmn x (lies (pn qq) (pX (F 1) qq) (pY (F 1) qq) (qX j) (qY j)) (lies (pn pp) (pX (F 1) pp) (pY (F 1) pp) (qX j) (qY j))) hcm]; exact (lv_sub hl [3, 4, 1, 0] rfl))
                            · skip
                              have nc_27 : ww = 2 := (nI_eq (a := ww) (b := 2) (by omega) (by omega)).mp c_27
                              refine lv_iload hx hb dX7_common__158 (lv_at hl 0 rfl) ?_
                              refine lv_if_le (tgt := 177) hx hb dX7_common__160 (by decide) (fun c_28 => ?_) (fun c_28 => ?_)
                              · skip
                                have nc_28 : lies (pn qq) X1_6 Y1_6 (nI (z % 32)) (nI (z / 32)) ≤ 0 := (nI_leI (a := (lies (pn qq) X1_6 Y1_6 (nI (z % 32)) (nI (z / 32)))) (b := 0) (by omega) (by omega)).mp c_28
                                have hcm : ¬ cmmn x (lies (pn qq) (pX (F 1) qq) (pY (F 1) qq) (qX z) (qY z)) (lies (pn pp) (pX (F 1) pp) (pY (F 1) pp) (qX z) (qY z)) := by rw [← lies_congr hLK_qq]; rw [eww, cmmn_n (by omega)]; unfold qX qY; omega
                                refine lv_iconst (v := 0) hx hb dX7_common__177 (by decide) ?_
                                refine lv_iadd hx hb dX7_common__178 ?_
                                refine u_eqi (show (nI (cnt (fun j => cmmn x (lies (pn qq) (pX (F 1) qq) (pY (F 1) qq) (qX j) (qY j)) (lies (pn pp) (pX (F 1) pp) (pY (F 1) pp) (qX j) (qY j))) z)) + 0 = nI (cnt (fun j => cmmn x (lies (pn qq) (pX (F 1) qq) (pY (F 1) qq) (qX j) (qY j)) (lies (pn pp) (pX (F 1) pp) (pY (F 1) pp) (qX j) (qY j))) z) from Int32.add_zero _) ?_
                                refine lv_istore (lv' := [(4, .int (nI (cnt (fun j => cmmn x (lies (pn qq) (pX (F 1) qq) (pY (F 1) qq) (qX j) (qY j)) (lies (pn pp) (pX (F 1) pp) (pY (F 1) pp) (qX j) (qY j))) z))), (6, .int (nI (lies (pn qq) X1_6 Y1_6 (nI (z % 32)) (nI (z / 32))))), (0, .ref (a 0)), (3, .int (nI ww)), (5, .int (nI z))]) hx hb dX7_common__179 hl (by decide) rfl (fun ls hl => ?_)
                                refine lv_iinc (v := nI (z + 1)) (lv' := [(5, .int (nI (z + 1))), (4, .int (nI (cnt (fun j => cmmn x (lies (pn qq) (pX (F 1) qq) (pY (F 1) qq) (qX j) (qY j)) (lies (pn pp) (pX (F 1) pp) (pY (F 1) pp) (qX j) (qY j))) z))), (6, .int (nI (lies (pn qq) X1_6 Y1_6 (nI (z % 32)) (nI (z / 32))))), (0, .ref (a 0)), (3, .int (nI ww))]) hx hb dX7_common__181 hl (k := 4) rfl (nI_1 _) (by decide) rfl (fun ls hl => ?_)
                                refine lv_goto (tgt := 84) hx hb dX7_common__184 (by decide) ?_
                                exact ih_84 (z + 1) (by omega) (by omega) _ _ hP hD hS ls (by rw [cnt_f (P := fun j => cmmn x (lies (pn qq) (pX (F 1) qq) (pY (F 1) qq) (qX j) (qY j)) (lies (pn pp) (pX (F 1) pp) (pY (F 1) pp) (qX j) (qY j))) hcm]; exact (lv_sub hl [3, 4, 1, 0] rfl))
                              · skip
                                have nc_28 : ¬ (lies (pn qq) X1_6 Y1_6 (nI (z % 32)) (nI (z / 32)) ≤ 0) := fun h => c_28 ((nI_leI (a := (lies (pn qq) X1_6 Y1_6 (nI (z % 32)) (nI (z / 32)))) (b := 0) (by omega) (by omega)).mpr h)
                                refine lv_aload_n hx hb dX7_common__163 rfl (lv_at hl 1 rfl) ?_
                                refine va_get (D := D) (ci := 9) (v := .ref (a 11)) (C := RX7) (T := TX7) (N := 24) hx hb hts (by decide +kernel) hown hK hP 0 rfl rfl 21 (by decide) (hts (.fieldLink RX7 41 "LandDeedsModel" "lain" "[I") (by decide +kernel)) (fun _ h9 => h9) rfl dX7_common__164 ?_
                                refine lv_iload hx hb dX7_common__167 (lv_at hl 4 rfl) ?_
                                refine u_iald hx hb hK hP 11 0 rfl rfl rfl ⟨by omega, by omega⟩ dX7_common__169 ?_
                                refine u_eqi (show O z = nI (lies (pn pp) (pX (F 1) pp) (pY (F 1) pp) (nI (z % 32)) (nI (z / 32))) from hO z (by omega)) ?_
                                refine lv_if_le (tgt := 177) hx hb dX7_common__170 (by decide) (fun c_29 => ?_) (fun c_29 => ?_)
                                · skip
                                  have nc_29 : lies (pn pp) (pX (F 1) pp) (pY (F 1) pp) (nI (z % 32)) (nI (z / 32)) ≤ 0 := (nI_leI (a := (lies (pn pp) (pX (F 1) pp) (pY (F 1) pp) (nI (z % 32)) (nI (z / 32)))) (b := 0) (by omega) (by omega)).mp c_29
                                  have hcm : ¬ cmmn x (lies (pn qq) (pX (F 1) qq) (pY (F 1) qq) (qX z) (qY z)) (lies (pn pp) (pX (F 1) pp) (pY (F 1) pp) (qX z) (qY z)) := by rw [← lies_congr hLK_qq]; rw [eww, cmmn_n (by omega)]; unfold qX qY; omega
                                  refine lv_iconst (v := 0) hx hb dX7_common__177 (by decide) ?_
                                  refine lv_iadd hx hb dX7_common__178 ?_
                                  refine u_eqi (show (nI (cnt (fun j => cmmn x (lies (pn qq) (pX (F 1) qq) (pY (F 1) qq) (qX j) (qY j)) (lies (pn pp) (pX (F 1) pp) (pY (F 1) pp) (qX j) (qY j))) z)) + 0 = nI (cnt (fun j => cmmn x (lies (pn qq) (pX (F 1) qq) (pY (F 1) qq) (qX j) (qY j)) (lies (pn pp) (pX (F 1) pp) (pY (F 1) pp) (qX j) (qY j))) z) from Int32.add_zero _) ?_
                                  refine lv_istore (lv' := [(4, .int (nI (cnt (fun j => cmmn x (lies (pn qq) (pX (F 1) qq) (pY (F 1) qq) (qX j) (qY j)) (lies (pn pp) (pX (F 1) pp) (pY (F 1) pp) (qX j) (qY j))) z))), (6, .int (nI (lies (pn qq) X1_6 Y1_6 (nI (z % 32)) (nI (z / 32))))), (0, .ref (a 0)), (3, .int (nI ww)), (5, .int (nI z))]) hx hb dX7_common__179 hl (by decide) rfl (fun ls hl => ?_)
                                  refine lv_iinc (v := nI (z + 1)) (lv' := [(5, .int (nI (z + 1))), (4, .int (nI (cnt (fun j => cmmn x (lies (pn qq) (pX (F 1) qq) (pY (F 1) qq) (qX j) (qY j)) (lies (pn pp) (pX (F 1) pp) (pY (F 1) pp) (qX j) (qY j))) z))), (6, .int (nI (lies (pn qq) X1_6 Y1_6 (nI (z % 32)) (nI (z / 32))))), (0, .ref (a 0)), (3, .int (nI ww))]) hx hb dX7_common__181 hl (k := 4) rfl (nI_1 _) (by decide) rfl (fun ls hl => ?_)
                                  refine lv_goto (tgt := 84) hx hb dX7_common__184 (by decide) ?_
                                  exact ih_84 (z + 1) (by omega) (by omega) _ _ hP hD hS ls (by rw [cnt_f (P := fun j => cmmn x (lies (pn qq) (pX (F 1) qq) (pY (F 1) qq) (qX j) (qY j)) (lies (pn pp) (pX (F 1) pp) (pY (F 1) pp) (qX j) (qY j))) hcm]; exact (lv_sub hl [3, 4, 1, 0] rfl))
                                · skip
                                  have nc_29 : ¬ (lies (pn pp) (pX (F 1) pp) (pY (F 1) pp) (nI (z % 32)) (nI (z / 32)) ≤ 0) := fun h => c_29 ((nI_leI (a := (lies (pn pp) (pX (F 1) pp) (pY (F 1) pp) (nI (z % 32)) (nI (z / 32)))) (b := 0) (by omega) (by omega)).mpr h)
                                  have hcm : cmmn x (lies (pn qq) (pX (F 1) qq) (pY (F 1) qq) (qX z) (qY z)) (lies (pn pp) (pX (F 1) pp) (pY (F 1) pp) (qX z) (qY z)) := by rw [← lies_congr hLK_qq]; rw [eww, cmmn_n (by omega)]; unfold qX qY; omega
                                  refine lv_iconst (v := 1) hx hb dX7_common__173 (by decide) ?_
                                  refine lv_goto (tgt := 178) hx hb dX7_common__174 (by decide) ?_
                                  refine lv_iadd hx hb dX7_common__178 ?_
                                  refine u_eqi (show (nI (cnt (fun j => cmmn x (lies (pn qq) (pX (F 1) qq) (pY (F 1) qq) (qX j) (qY j)) (lies (pn pp) (pX (F 1) pp) (pY (F 1) pp) (qX j) (qY j))) z)) + 1 = nI (cnt (fun j => cmmn x (lies (pn qq) (pX (F 1) qq) (pY (F 1) qq) (qX j) (qY j)) (lies (pn pp) (pX (F 1) pp) (pY (F 1) pp) (qX j) (qY j))) z + 1) from nI_1 _) ?_
                                  refine lv_istore (lv' := [(4, .int (nI (cnt (fun j => cmmn x (lies (pn qq) (pX (F 1) qq) (pY (F 1) qq) (qX j) (qY j)) (lies (pn pp) (pX (F 1) pp) (pY (F 1) pp) (qX j) (qY j))) z + 1))), (6, .int (nI (lies (pn qq) X1_6 Y1_6 (nI (z % 32)) (nI (z / 32))))), (0, .ref (a 0)), (3, .int (nI ww)), (5, .int (nI z))]) hx hb dX7_common__179 hl (by decide) rfl (fun ls hl => ?_)
                                  refine lv_iinc (v := nI (z + 1)) (lv' := [(5, .int (nI (z + 1))), (4, .int (nI (cnt (fun j => cmmn x (lies (pn qq) (pX (F 1) qq) (pY (F 1) qq) (qX j) (qY j)) (lies (pn pp) (pX (F 1) pp) (pY (F 1) pp) (qX j) (qY j))) z + 1))), (6, .int (nI (lies (pn qq) X1_6 Y1_6 (nI (z % 32)) (nI (z / 32))))), (0, .ref (a 0)), (3, .int (nI ww))]) hx hb dX7_common__181 hl (k := 4) rfl (nI_1 _) (by decide) rfl (fun ls hl => ?_)
                                  refine lv_goto (tgt := 84) hx hb dX7_common__184 (by decide) ?_
                                  exact ih_84 (z + 1) (by omega) (by omega) _ _ hP hD hS ls (by rw [cnt_t (P := fun j => cmmn x (lies (pn qq) (pX (F 1) qq) (pY (F 1) qq) (qX j) (qY j)) (lies (pn pp) (pX (F 1) pp) (pY (F 1) pp) (qX j) (qY j))) hcm]; exact (lv_sub hl [3, 4, 1, 0] rfl))
                          · skip
                            have nc_26 : lies (pn qq) X1_6 Y1_6 (nI (z % 32)) (nI (z / 32)) = 1 := (nI_eq (a := (lies (pn qq) X1_6 Y1_6 (nI (z % 32)) (nI (z / 32)))) (b := 1) (by omega) (by omega)).mp c_26
                            refine lv_aload_n hx hb dX7_common__142 rfl (lv_at hl 1 rfl) ?_
                            refine va_get (D := D) (ci := 9) (v := .ref (a 11)) (C := RX7) (T := TX7) (N := 24) hx hb hts (by decide +kernel) hown hK hP 0 rfl rfl 21 (by decide) (hts (.fieldLink RX7 41 "LandDeedsModel" "lain" "[I") (by decide +kernel)) (fun _ h9 => h9) rfl dX7_common__143 ?_
                            refine lv_iload hx hb dX7_common__146 (lv_at hl 4 rfl) ?_
                            refine u_iald hx hb hK hP 11 0 rfl rfl rfl ⟨by omega, by omega⟩ dX7_common__148 ?_
                            refine u_eqi (show O z = nI (lies (pn pp) (pX (F 1) pp) (pY (F 1) pp) (nI (z % 32)) (nI (z / 32))) from hO z (by omega)) ?_
                            refine lv_iconst (v := 1) hx hb dX7_common__149 (by decide) ?_
                            refine lv_icmp_eq (tgt := 173) hx hb dX7_common__150 (by decide) (fun c_30 => ?_) (fun c_30 => ?_)
                            · skip
                              have nc_30 : lies (pn pp) (pX (F 1) pp) (pY (F 1) pp) (nI (z % 32)) (nI (z / 32)) = 1 := (nI_eq (a := (lies (pn pp) (pX (F 1) pp) (pY (F 1) pp) (nI (z % 32)) (nI (z / 32)))) (b := 1) (by omega) (by omega)).mp c_30
                              have hcm : cmmn x (lies (pn qq) (pX (F 1) qq) (pY (F 1) qq) (qX z) (qY z)) (lies (pn pp) (pX (F 1) pp) (pY (F 1) pp) (qX z) (qY z)) := by rw [← lies_congr hLK_qq]; rw [eww, cmmn_n (by omega)]; unfold qX qY; omega
                              refine lv_iconst (v := 1) hx hb dX7_common__173 (by decide) ?_
                              refine lv_goto (tgt := 178) hx hb dX7_common__174 (by decide) ?_
                              refine lv_iadd hx hb dX7_common__178 ?_
                              refine u_eqi (show (nI (cnt (fun j => cmmn x (lies (pn qq) (pX (F 1) qq) (pY (F 1) qq) (qX j) (qY j)) (lies (pn pp) (pX (F 1) pp) (pY (F 1) pp) (qX j) (qY j))) z)) + 1 = nI (cnt (fun j => cmmn x (lies (pn qq) (pX (F 1) qq) (pY (F 1) qq) (qX j) (qY j)) (lies (pn pp) (pX (F 1) pp) (pY (F 1) pp) (qX j) (qY j))) z + 1) from nI_1 _) ?_
                              refine lv_istore (lv' := [(4, .int (nI (cnt (fun j => cmmn x (lies (pn qq) (pX (F 1) qq) (pY (F 1) qq) (qX j) (qY j)) (lies (pn pp) (pX (F 1) pp) (pY (F 1) pp) (qX j) (qY j))) z + 1))), (6, .int (nI (lies (pn qq) X1_6 Y1_6 (nI (z % 32)) (nI (z / 32))))), (0, .ref (a 0)), (3, .int (nI ww)), (5, .int (nI z))]) hx hb dX7_common__179 hl (by decide) rfl (fun ls hl => ?_)
                              refine lv_iinc (v := nI (z + 1)) (lv' := [(5, .int (nI (z + 1))), (4, .int (nI (cnt (fun j => cmmn x (lies (pn qq) (pX (F 1) qq) (pY (F 1) qq) (qX j) (qY j)) (lies (pn pp) (pX (F 1) pp) (pY (F 1) pp) (qX j) (qY j))) z + 1))), (6, .int (nI (lies (pn qq) X1_6 Y1_6 (nI (z % 32)) (nI (z / 32))))), (0, .ref (a 0)), (3, .int (nI ww))]) hx hb dX7_common__181 hl (k := 4) rfl (nI_1 _) (by decide) rfl (fun ls hl => ?_)
                              refine lv_goto (tgt := 84) hx hb dX7_common__184 (by decide) ?_
                              exact ih_84 (z + 1) (by omega) (by omega) _ _ hP hD hS ls (by rw [cnt_t (P := fun j => cmmn x (lies (pn qq) (pX (F 1) qq) (pY (F 1) qq) (qX j) (qY j)) (lies (pn pp) (pX (F 1) pp) (pY (F 1) pp) (qX j) (qY j))) hcm]; exact (lv_sub hl [3, 4, 1, 0] rfl))
                            · skip
                              have nc_30 : ¬ (lies (pn pp) (pX (F 1) pp) (pY (F 1) pp) (nI (z % 32)) (nI (z / 32)) = 1) := fun h => c_30 ((nI_eq (a := (lies (pn pp) (pX (F 1) pp) (pY (F 1) pp) (nI (z % 32)) (nI (z / 32)))) (b := 1) (by omega) (by omega)).mpr h)
                              refine lv_iload_n hx hb dX7_common__153 rfl (lv_at hl 2 rfl) ?_
                              refine lv_iconst (v := 2) hx hb dX7_common__154 (by decide) ?_
                              refine lv_icmp_ne (tgt := 177) hx hb dX7_common__155 (by decide) (fun c_31 => ?_) (fun c_31 => ?_)
                              · skip
                                have nc_31 : ¬ (ww = 2) := fun h => c_31 ((nI_eq (a := ww) (b := 2) (by omega) (by omega)).mpr h)
                                have hcm : ¬ cmmn x (lies (pn qq) (pX (F 1) qq) (pY (F 1) qq) (qX z) (qY z)) (lies (pn pp) (pX (F 1) pp) (pY (F 1) pp) (qX z) (qY z)) := by rw [← lies_congr hLK_qq]; rw [eww, cmmn_n (by omega)]; unfold qX qY; omega
                                refine lv_iconst (v := 0) hx hb dX7_common__177 (by decide) ?_
                                refine lv_iadd hx hb dX7_common__178 ?_
                                refine u_eqi (show (nI (cnt (fun j => cmmn x (lies (pn qq) (pX (F 1) qq) (pY (F 1) qq) (qX j) (qY j)) (lies (pn pp) (pX (F 1) pp) (pY (F 1) pp) (qX j) (qY j))) z)) + 0 = nI (cnt (fun j => cmmn x (lies (pn qq) (pX (F 1) qq) (pY (F 1) qq) (qX j) (qY j)) (lies (pn pp) (pX (F 1) pp) (pY (F 1) pp) (qX j) (qY j))) z) from Int32.add_zero _) ?_
                                refine lv_istore (lv' := [(4, .int (nI (cnt (fun j => cmmn x (lies (pn qq) (pX (F 1) qq) (pY (F 1) qq) (qX j) (qY j)) (lies (pn pp) (pX (F 1) pp) (pY (F 1) pp) (qX j) (qY j))) z))), (6, .int (nI (lies (pn qq) X1_6 Y1_6 (nI (z % 32)) (nI (z / 32))))), (0, .ref (a 0)), (3, .int (nI ww)), (5, .int (nI z))]) hx hb dX7_common__179 hl (by decide) rfl (fun ls hl => ?_)
                                refine lv_iinc (v := nI (z + 1)) (lv' := [(5, .int (nI (z + 1))), (4, .int (nI (cnt (fun j => cmmn x (lies (pn qq) (pX (F 1) qq) (pY (F 1) qq) (qX j) (qY j)) (lies (pn pp) (pX (F 1) pp) (pY (F 1) pp) (qX j) (qY j))) z))), (6, .int (nI (lies (pn qq) X1_6 Y1_6 (nI (z % 32)) (nI (z / 32))))), (0, .ref (a 0)), (3, .int (nI ww))]) hx hb dX7_common__181 hl (k := 4) rfl (nI_1 _) (by decide) rfl (fun ls hl => ?_)
                                refine lv_goto (tgt := 84) hx hb dX7_common__184 (by decide) ?_
                                exact ih_84 (z + 1) (by omega) (by omega) _ _ hP hD hS ls (by rw [cnt_f (P := fun j => cmmn x (lies (pn qq) (pX (F 1) qq) (pY (F 1) qq) (qX j) (qY j)) (lies (pn pp) (pX (F 1) pp) (pY (F 1) pp) (qX j) (qY j))) hcm]; exact (lv_sub hl [3, 4, 1, 0] rfl))
                              · skip
                                have nc_31 : ww = 2 := (nI_eq (a := ww) (b := 2) (by omega) (by omega)).mp c_31
                                refine lv_iload hx hb dX7_common__158 (lv_at hl 0 rfl) ?_
                                refine lv_if_le (tgt := 177) hx hb dX7_common__160 (by decide) (fun c_32 => ?_) (fun c_32 => ?_)
                                · skip
                                  have nc_32 : lies (pn qq) X1_6 Y1_6 (nI (z % 32)) (nI (z / 32)) ≤ 0 := (nI_leI (a := (lies (pn qq) X1_6 Y1_6 (nI (z % 32)) (nI (z / 32)))) (b := 0) (by omega) (by omega)).mp c_32
                                  have hcm : ¬ cmmn x (lies (pn qq) (pX (F 1) qq) (pY (F 1) qq) (qX z) (qY z)) (lies (pn pp) (pX (F 1) pp) (pY (F 1) pp) (qX z) (qY z)) := by rw [← lies_congr hLK_qq]; rw [eww, cmmn_n (by omega)]; unfold qX qY; omega
                                  refine lv_iconst (v := 0) hx hb dX7_common__177 (by decide) ?_
                                  refine lv_iadd hx hb dX7_common__178 ?_
                                  refine u_eqi (show (nI (cnt (fun j => cmmn x (lies (pn qq) (pX (F 1) qq) (pY (F 1) qq) (qX j) (qY j)) (lies (pn pp) (pX (F 1) pp) (pY (F 1) pp) (qX j) (qY j))) z)) + 0 = nI (cnt (fun j => cmmn x (lies (pn qq) (pX (F 1) qq) (pY (F 1) qq) (qX j) (qY j)) (lies (pn pp) (pX (F 1) pp) (pY (F 1) pp) (qX j) (qY j))) z) from Int32.add_zero _) ?_
                                  refine lv_istore (lv' := [(4, .int (nI (cnt (fun j => cmmn x (lies (pn qq) (pX (F 1) qq) (pY (F 1) qq) (qX j) (qY j)) (lies (pn pp) (pX (F 1) pp) (pY (F 1) pp) (qX j) (qY j))) z))), (6, .int (nI (lies (pn qq) X1_6 Y1_6 (nI (z % 32)) (nI (z / 32))))), (0, .ref (a 0)), (3, .int (nI ww)), (5, .int (nI z))]) hx hb dX7_common__179 hl (by decide) rfl (fun ls hl => ?_)
                                  refine lv_iinc (v := nI (z + 1)) (lv' := [(5, .int (nI (z + 1))), (4, .int (nI (cnt (fun j => cmmn x (lies (pn qq) (pX (F 1) qq) (pY (F 1) qq) (qX j) (qY j)) (lies (pn pp) (pX (F 1) pp) (pY (F 1) pp) (qX j) (qY j))) z))), (6, .int (nI (lies (pn qq) X1_6 Y1_6 (nI (z % 32)) (nI (z / 32))))), (0, .ref (a 0)), (3, .int (nI ww))]) hx hb dX7_common__181 hl (k := 4) rfl (nI_1 _) (by decide) rfl (fun ls hl => ?_)
                                  refine lv_goto (tgt := 84) hx hb dX7_common__184 (by decide) ?_
                                  exact ih_84 (z + 1) (by omega) (by omega) _ _ hP hD hS ls (by rw [cnt_f (P := fun j => cmmn x (lies (pn qq) (pX (F 1) qq) (pY (F 1) qq) (qX j) (qY j)) (lies (pn pp) (pX (F 1) pp) (pY (F 1) pp) (qX j) (qY j))) hcm]; exact (lv_sub hl [3, 4, 1, 0] rfl))
                                · skip
                                  have nc_32 : ¬ (lies (pn qq) X1_6 Y1_6 (nI (z % 32)) (nI (z / 32)) ≤ 0) := fun h => c_32 ((nI_leI (a := (lies (pn qq) X1_6 Y1_6 (nI (z % 32)) (nI (z / 32)))) (b := 0) (by omega) (by omega)).mpr h)
                                  refine lv_aload_n hx hb dX7_common__163 rfl (lv_at hl 1 rfl) ?_
                                  refine va_get (D := D) (ci := 9) (v := .ref (a 11)) (C := RX7) (T := TX7) (N := 24) hx hb hts (by decide +kernel) hown hK hP 0 rfl rfl 21 (by decide) (hts (.fieldLink RX7 41 "LandDeedsModel" "lain" "[I") (by decide +kernel)) (fun _ h9 => h9) rfl dX7_common__164 ?_
                                  refine lv_iload hx hb dX7_common__167 (lv_at hl 4 rfl) ?_
                                  refine u_iald hx hb hK hP 11 0 rfl rfl rfl ⟨by omega, by omega⟩ dX7_common__169 ?_
                                  refine u_eqi (show O z = nI (lies (pn pp) (pX (F 1) pp) (pY (F 1) pp) (nI (z % 32)) (nI (z / 32))) from hO z (by omega)) ?_
                                  refine lv_if_le (tgt := 177) hx hb dX7_common__170 (by decide) (fun c_33 => ?_) (fun c_33 => ?_)
                                  · skip
                                    have nc_33 : lies (pn pp) (pX (F 1) pp) (pY (F 1) pp) (nI (z % 32)) (nI (z / 32)) ≤ 0 := (nI_leI (a := (lies (pn pp) (pX (F 1) pp) (pY (F 1) pp) (nI (z % 32)) (nI (z / 32)))) (b := 0) (by omega) (by omega)).mp c_33
                                    have hcm : ¬ cmmn x (lies (pn qq) (pX (F 1) qq) (pY (F 1) qq) (qX z) (qY z)) (lies (pn pp) (pX (F 1) pp) (pY (F 1) pp) (qX z) (qY z)) := by rw [← lies_congr hLK_qq]; rw [eww, cmmn_n (by omega)]; unfold qX qY; omega
                                    refine lv_iconst (v := 0) hx hb dX7_common__177 (by decide) ?_
                                    refine lv_iadd hx hb dX7_common__178 ?_
                                    refine u_eqi (show (nI (cnt (fun j => cmmn x (lies (pn qq) (pX (F 1) qq) (pY (F 1) qq) (qX j) (qY j)) (lies (pn pp) (pX (F 1) pp) (pY (F 1) pp) (qX j) (qY j))) z)) + 0 = nI (cnt (fun j => cmmn x (lies (pn qq) (pX (F 1) qq) (pY (F 1) qq) (qX j) (qY j)) (lies (pn pp) (pX (F 1) pp) (pY (F 1) pp) (qX j) (qY j))) z) from Int32.add_zero _) ?_
                                    refine lv_istore (lv' := [(4, .int (nI (cnt (fun j => cmmn x (lies (pn qq) (pX (F 1) qq) (pY (F 1) qq) (qX j) (qY j)) (lies (pn pp) (pX (F 1) pp) (pY (F 1) pp) (qX j) (qY j))) z))), (6, .int (nI (lies (pn qq) X1_6 Y1_6 (nI (z % 32)) (nI (z / 32))))), (0, .ref (a 0)), (3, .int (nI ww)), (5, .int (nI z))]) hx hb dX7_common__179 hl (by decide) rfl (fun ls hl => ?_)
                                    refine lv_iinc (v := nI (z + 1)) (lv' := [(5, .int (nI (z + 1))), (4, .int (nI (cnt (fun j => cmmn x (lies (pn qq) (pX (F 1) qq) (pY (F 1) qq) (qX j) (qY j)) (lies (pn pp) (pX (F 1) pp) (pY (F 1) pp) (qX j) (qY j))) z))), (6, .int (nI (lies (pn qq) X1_6 Y1_6 (nI (z % 32)) (nI (z / 32))))), (0, .ref (a 0)), (3, .int (nI ww))]) hx hb dX7_common__181 hl (k := 4) rfl (nI_1 _) (by decide) rfl (fun ls hl => ?_)
                                    refine lv_goto (tgt := 84) hx hb dX7_common__184 (by decide) ?_
                                    exact ih_84 (z + 1) (by omega) (by omega) _ _ hP hD hS ls (by rw [cnt_f (P := fun j => cmmn x (lies (pn qq) (pX (F 1) qq) (pY (F 1) qq) (qX j) (qY j)) (lies (pn pp) (pX (F 1) pp) (pY (F 1) pp) (qX j) (qY j))) hcm]; exact (lv_sub hl [3, 4, 1, 0] rfl))
                                  · skip
                                    have nc_33 : ¬ (lies (pn pp) (pX (F 1) pp) (pY (F 1) pp) (nI (z % 32)) (nI (z / 32)) ≤ 0) := fun h => c_33 ((nI_leI (a := (lies (pn pp) (pX (F 1) pp) (pY (F 1) pp) (nI (z % 32)) (nI (z / 32)))) (b := 0) (by omega) (by omega)).mpr h)
                                    have hcm : cmmn x (lies (pn qq) (pX (F 1) qq) (pY (F 1) qq) (qX z) (qY z)) (lies (pn pp) (pX (F 1) pp) (pY (F 1) pp) (qX z) (qY z)) := by rw [← lies_congr hLK_qq]; rw [eww, cmmn_n (by omega)]; unfold qX qY; omega
                                    refine lv_iconst (v := 1) hx hb dX7_common__173 (by decide) ?_
                                    refine lv_goto (tgt := 178) hx hb dX7_common__174 (by decide) ?_
                                    refine lv_iadd hx hb dX7_common__178 ?_
                                    refine u_eqi (show (nI (cnt (fun j => cmmn x (lies (pn qq) (pX (F 1) qq) (pY (F 1) qq) (qX j) (qY j)) (lies (pn pp) (pX (F 1) pp) (pY (F 1) pp) (qX j) (qY j))) z)) + 1 = nI (cnt (fun j => cmmn x (lies (pn qq) (pX (F 1) qq) (pY (F 1) qq) (qX j) (qY j)) (lies (pn pp) (pX (F 1) pp) (pY (F 1) pp) (qX j) (qY j))) z + 1) from nI_1 _) ?_
                                    refine lv_istore (lv' := [(4, .int (nI (cnt (fun j => cmmn x (lies (pn qq) (pX (F 1) qq) (pY (F 1) qq) (qX j) (qY j)) (lies (pn pp) (pX (F 1) pp) (pY (F 1) pp) (qX j) (qY j))) z + 1))), (6, .int (nI (lies (pn qq) X1_6 Y1_6 (nI (z % 32)) (nI (z / 32))))), (0, .ref (a 0)), (3, .int (nI ww)), (5, .int (nI z))]) hx hb dX7_common__179 hl (by decide) rfl (fun ls hl => ?_)
                                    refine lv_iinc (v := nI (z + 1)) (lv' := [(5, .int (nI (z + 1))), (4, .int (nI (cnt (fun j => cmmn x (lies (pn qq) (pX (F 1) qq) (pY (F 1) qq) (qX j) (qY j)) (lies (pn pp) (pX (F 1) pp) (pY (F 1) pp) (qX j) (qY j))) z + 1))), (6, .int (nI (lies (pn qq) X1_6 Y1_6 (nI (z % 32)) (nI (z / 32))))), (0, .ref (a 0)), (3, .int (nI ww))]) hx hb dX7_common__181 hl (k := 4) rfl (nI_1 _) (by decide) rfl (fun ls hl => ?_)
                                    refine lv_goto (tgt := 84) hx hb dX7_common__184 (by decide) ?_
                                    exact ih_84 (z + 1) (by omega) (by omega) _ _ hP hD hS ls (by rw [cnt_t (P := fun j => cmmn x (lies (pn qq) (pX (F 1) qq) (pY (F 1) qq) (qX j) (qY j)) (lies (pn pp) (pX (F 1) pp) (pY (F 1) pp) (qX j) (qY j))) hcm]; exact (lv_sub hl [3, 4, 1, 0] rfl))
                      · skip
                        have nc_21 : lies (pn qq) X1_6 Y1_6 (nI (z % 32)) (nI (z / 32)) = 2 := (nI_eq (a := (lies (pn qq) X1_6 Y1_6 (nI (z % 32)) (nI (z / 32)))) (b := 2) (by omega) (by omega)).mp c_21
                        refine lv_aload_n hx hb dX7_common__120 rfl (lv_at hl 1 rfl) ?_
                        refine va_get (D := D) (ci := 9) (v := .ref (a 11)) (C := RX7) (T := TX7) (N := 24) hx hb hts (by decide +kernel) hown hK hP 0 rfl rfl 21 (by decide) (hts (.fieldLink RX7 41 "LandDeedsModel" "lain" "[I") (by decide +kernel)) (fun _ h9 => h9) rfl dX7_common__121 ?_
                        refine lv_iload hx hb dX7_common__124 (lv_at hl 4 rfl) ?_
                        refine u_iald hx hb hK hP 11 0 rfl rfl rfl ⟨by omega, by omega⟩ dX7_common__126 ?_
                        refine u_eqi (show O z = nI (lies (pn pp) (pX (F 1) pp) (pY (F 1) pp) (nI (z % 32)) (nI (z / 32))) from hO z (by omega)) ?_
                        refine lv_iconst (v := 2) hx hb dX7_common__127 (by decide) ?_
                        refine lv_icmp_eq (tgt := 173) hx hb dX7_common__128 (by decide) (fun c_34 => ?_) (fun c_34 => ?_)
                        · skip
                          have nc_34 : lies (pn pp) (pX (F 1) pp) (pY (F 1) pp) (nI (z % 32)) (nI (z / 32)) = 2 := (nI_eq (a := (lies (pn pp) (pX (F 1) pp) (pY (F 1) pp) (nI (z % 32)) (nI (z / 32)))) (b := 2) (by omega) (by omega)).mp c_34
                          have hcm : cmmn x (lies (pn qq) (pX (F 1) qq) (pY (F 1) qq) (qX z) (qY z)) (lies (pn pp) (pX (F 1) pp) (pY (F 1) pp) (qX z) (qY z)) := by rw [← lies_congr hLK_qq]; rw [eww, cmmn_n (by omega)]; unfold qX qY; omega
                          refine lv_iconst (v := 1) hx hb dX7_common__173 (by decide) ?_
                          refine lv_goto (tgt := 178) hx hb dX7_common__174 (by decide) ?_
                          refine lv_iadd hx hb dX7_common__178 ?_
                          refine u_eqi (show (nI (cnt (fun j => cmmn x (lies (pn qq) (pX (F 1) qq) (pY (F 1) qq) (qX j) (qY j)) (lies (pn pp) (pX (F 1) pp) (pY (F 1) pp) (qX j) (qY j))) z)) + 1 = nI (cnt (fun j => cmmn x (lies (pn qq) (pX (F 1) qq) (pY (F 1) qq) (qX j) (qY j)) (lies (pn pp) (pX (F 1) pp) (pY (F 1) pp) (qX j) (qY j))) z + 1) from nI_1 _) ?_
                          refine lv_istore (lv' := [(4, .int (nI (cnt (fun j => cmmn x (lies (pn qq) (pX (F 1) qq) (pY (F 1) qq) (qX j) (qY j)) (lies (pn pp) (pX (F 1) pp) (pY (F 1) pp) (qX j) (qY j))) z + 1))), (6, .int (nI (lies (pn qq) X1_6 Y1_6 (nI (z % 32)) (nI (z / 32))))), (0, .ref (a 0)), (3, .int (nI ww)), (5, .int (nI z))]) hx hb dX7_common__179 hl (by decide) rfl (fun ls hl => ?_)
                          refine lv_iinc (v := nI (z + 1)) (lv' := [(5, .int (nI (z + 1))), (4, .int (nI (cnt (fun j => cmmn x (lies (pn qq) (pX (F 1) qq) (pY (F 1) qq) (qX j) (qY j)) (lies (pn pp) (pX (F 1) pp) (pY (F 1) pp) (qX j) (qY j))) z + 1))), (6, .int (nI (lies (pn qq) X1_6 Y1_6 (nI (z % 32)) (nI (z / 32))))), (0, .ref (a 0)), (3, .int (nI ww))]) hx hb dX7_common__181 hl (k := 4) rfl (nI_1 _) (by decide) rfl (fun ls hl => ?_)
                          refine lv_goto (tgt := 84) hx hb dX7_common__184 (by decide) ?_
                          exact ih_84 (z + 1) (by omega) (by omega) _ _ hP hD hS ls (by rw [cnt_t (P := fun j => cmmn x (lies (pn qq) (pX (F 1) qq) (pY (F 1) qq) (qX j) (qY j)) (lies (pn pp) (pX (F 1) pp) (pY (F 1) pp) (qX j) (qY j))) hcm]; exact (lv_sub hl [3, 4, 1, 0] rfl))
                        · skip
                          have nc_34 : ¬ (lies (pn pp) (pX (F 1) pp) (pY (F 1) pp) (nI (z % 32)) (nI (z / 32)) = 2) := fun h => c_34 ((nI_eq (a := (lies (pn pp) (pX (F 1) pp) (pY (F 1) pp) (nI (z % 32)) (nI (z / 32)))) (b := 2) (by omega) (by omega)).mpr h)
                          refine lv_iload_n hx hb dX7_common__131 rfl (lv_at hl 2 rfl) ?_
                          refine lv_iconst (v := 1) hx hb dX7_common__132 (by decide) ?_
                          refine lv_icmp_ne (tgt := 153) hx hb dX7_common__133 (by decide) (fun c_35 => ?_) (fun c_35 => ?_)
                          · skip
                            have nc_35 : ¬ (ww = 1) := fun h => c_35 ((nI_eq (a := ww) (b := 1) (by omega) (by omega)).mpr h)
                            refine lv_iload_n hx hb dX7_common__153 rfl (lv_at hl 2 rfl) ?_
                            refine lv_iconst (v := 2) hx hb dX7_common__154 (by decide) ?_
                            refine lv_icmp_ne (tgt := 177) hx hb dX7_common__155 (by decide) (fun c_36 => ?_) (fun c_36 => ?_)
                            · skip
                              have nc_36 : ¬ (ww = 2) := fun h => c_36 ((nI_eq (a := ww) (b := 2) (by omega) (by omega)).mpr h)
                              have hcm : ¬ cmmn x (lies (pn qq) (pX (F 1) qq) (pY (F 1) qq) (qX z) (qY z)) (lies (pn pp) (pX (F 1) pp) (pY (F 1) pp) (qX z) (qY z)) := by rw [← lies_congr hLK_qq]; rw [eww, cmmn_n (by omega)]; unfold qX qY; omega
                              refine lv_iconst (v := 0) hx hb dX7_common__177 (by decide) ?_
                              refine lv_iadd hx hb dX7_common__178 ?_
                              refine u_eqi (show (nI (cnt (fun j => cmmn x (lies (pn qq) (pX (F 1) qq) (pY (F 1) qq) (qX j) (qY j)) (lies (pn pp) (pX (F 1) pp) (pY (F 1) pp) (qX j) (qY j))) z)) + 0 = nI (cnt (fun j => cmmn x (lies (pn qq) (pX (F 1) qq) (pY (F 1) qq) (qX j) (qY j)) (lies (pn pp) (pX (F 1) pp) (pY (F 1) pp) (qX j) (qY j))) z) from Int32.add_zero _) ?_
                              refine lv_istore (lv' := [(4, .int (nI (cnt (fun j => cmmn x (lies (pn qq) (pX (F 1) qq) (pY (F 1) qq) (qX j) (qY j)) (lies (pn pp) (pX (F 1) pp) (pY (F 1) pp) (qX j) (qY j))) z))), (6, .int (nI (lies (pn qq) X1_6 Y1_6 (nI (z % 32)) (nI (z / 32))))), (0, .ref (a 0)), (3, .int (nI ww)), (5, .int (nI z))]) hx hb dX7_common__179 hl (by decide) rfl (fun ls hl => ?_)
                              refine lv_iinc (v := nI (z + 1)) (lv' := [(5, .int (nI (z + 1))), (4, .int (nI (cnt (fun j => cmmn x (lies (pn qq) (pX (F 1) qq) (pY (F 1) qq) (qX j) (qY j)) (lies (pn pp) (pX (F 1) pp) (pY (F 1) pp) (qX j) (qY j))) z))), (6, .int (nI (lies (pn qq) X1_6 Y1_6 (nI (z % 32)) (nI (z / 32))))), (0, .ref (a 0)), (3, .int (nI ww))]) hx hb dX7_common__181 hl (k := 4) rfl (nI_1 _) (by decide) rfl (fun ls hl => ?_)
                              refine lv_goto (tgt := 84) hx hb dX7_common__184 (by decide) ?_
                              exact ih_84 (z + 1) (by omega) (by omega) _ _ hP hD hS ls (by rw [cnt_f (P := fun j => cmmn x (lies (pn qq) (pX (F 1) qq) (pY (F 1) qq) (qX j) (qY j)) (lies (pn pp) (pX (F 1) pp) (pY (F 1) pp) (qX j) (qY j))) hcm]; exact (lv_sub hl [3, 4, 1, 0] rfl))
                            · skip
                              have nc_36 : ww = 2 := (nI_eq (a := ww) (b := 2) (by omega) (by omega)).mp c_36
                              refine lv_iload hx hb dX7_common__158 (lv_at hl 0 rfl) ?_
                              refine lv_if_le (tgt := 177) hx hb dX7_common__160 (by decide) (fun c_37 => ?_) (fun c_37 => ?_)
                              · skip
                                have nc_37 : lies (pn qq) X1_6 Y1_6 (nI (z % 32)) (nI (z / 32)) ≤ 0 := (nI_leI (a := (lies (pn qq) X1_6 Y1_6 (nI (z % 32)) (nI (z / 32)))) (b := 0) (by omega) (by omega)).mp c_37
                                have hcm : ¬ cmmn x (lies (pn qq) (pX (F 1) qq) (pY (F 1) qq) (qX z) (qY z)) (lies (pn pp) (pX (F 1) pp) (pY (F 1) pp) (qX z) (qY z)) := by rw [← lies_congr hLK_qq]; rw [eww, cmmn_n (by omega)]; unfold qX qY; omega
                                refine lv_iconst (v := 0) hx hb dX7_common__177 (by decide) ?_
                                refine lv_iadd hx hb dX7_common__178 ?_
                                refine u_eqi (show (nI (cnt (fun j => cmmn x (lies (pn qq) (pX (F 1) qq) (pY (F 1) qq) (qX j) (qY j)) (lies (pn pp) (pX (F 1) pp) (pY (F 1) pp) (qX j) (qY j))) z)) + 0 = nI (cnt (fun j => cmmn x (lies (pn qq) (pX (F 1) qq) (pY (F 1) qq) (qX j) (qY j)) (lies (pn pp) (pX (F 1) pp) (pY (F 1) pp) (qX j) (qY j))) z) from Int32.add_zero _) ?_
                                refine lv_istore (lv' := [(4, .int (nI (cnt (fun j => cmmn x (lies (pn qq) (pX (F 1) qq) (pY (F 1) qq) (qX j) (qY j)) (lies (pn pp) (pX (F 1) pp) (pY (F 1) pp) (qX j) (qY j))) z))), (6, .int (nI (lies (pn qq) X1_6 Y1_6 (nI (z % 32)) (nI (z / 32))))), (0, .ref (a 0)), (3, .int (nI ww)), (5, .int (nI z))]) hx hb dX7_common__179 hl (by decide) rfl (fun ls hl => ?_)
                                refine lv_iinc (v := nI (z + 1)) (lv' := [(5, .int (nI (z + 1))), (4, .int (nI (cnt (fun j => cmmn x (lies (pn qq) (pX (F 1) qq) (pY (F 1) qq) (qX j) (qY j)) (lies (pn pp) (pX (F 1) pp) (pY (F 1) pp) (qX j) (qY j))) z))), (6, .int (nI (lies (pn qq) X1_6 Y1_6 (nI (z % 32)) (nI (z / 32))))), (0, .ref (a 0)), (3, .int (nI ww))]) hx hb dX7_common__181 hl (k := 4) rfl (nI_1 _) (by decide) rfl (fun ls hl => ?_)
                                refine lv_goto (tgt := 84) hx hb dX7_common__184 (by decide) ?_
                                exact ih_84 (z + 1) (by omega) (by omega) _ _ hP hD hS ls (by rw [cnt_f (P := fun j => cmmn x (lies (pn qq) (pX (F 1) qq) (pY (F 1) qq) (qX j) (qY j)) (lies (pn pp) (pX (F 1) pp) (pY (F 1) pp) (qX j) (qY j))) hcm]; exact (lv_sub hl [3, 4, 1, 0] rfl))
                              · skip
                                have nc_37 : ¬ (lies (pn qq) X1_6 Y1_6 (nI (z % 32)) (nI (z / 32)) ≤ 0) := fun h => c_37 ((nI_leI (a := (lies (pn qq) X1_6 Y1_6 (nI (z % 32)) (nI (z / 32)))) (b := 0) (by omega) (by omega)).mpr h)
                                refine lv_aload_n hx hb dX7_common__163 rfl (lv_at hl 1 rfl) ?_
                                refine va_get (D := D) (ci := 9) (v := .ref (a 11)) (C := RX7) (T := TX7) (N := 24) hx hb hts (by decide +kernel) hown hK hP 0 rfl rfl 21 (by decide) (hts (.fieldLink RX7 41 "LandDeedsModel" "lain" "[I") (by decide +kernel)) (fun _ h9 => h9) rfl dX7_common__164 ?_
                                refine lv_iload hx hb dX7_common__167 (lv_at hl 4 rfl) ?_
                                refine u_iald hx hb hK hP 11 0 rfl rfl rfl ⟨by omega, by omega⟩ dX7_common__169 ?_
                                refine u_eqi (show O z = nI (lies (pn pp) (pX (F 1) pp) (pY (F 1) pp) (nI (z % 32)) (nI (z / 32))) from hO z (by omega)) ?_
                                refine lv_if_le (tgt := 177) hx hb dX7_common__170 (by decide) (fun c_38 => ?_) (fun c_38 => ?_)
                                · skip
                                  have nc_38 : lies (pn pp) (pX (F 1) pp) (pY (F 1) pp) (nI (z % 32)) (nI (z / 32)) ≤ 0 := (nI_leI (a := (lies (pn pp) (pX (F 1) pp) (pY (F 1) pp) (nI (z % 32)) (nI (z / 32)))) (b := 0) (by omega) (by omega)).mp c_38
                                  have hcm : ¬ cmmn x (lies (pn qq) (pX (F 1) qq) (pY (F 1) qq) (qX z) (qY z)) (lies (pn pp) (pX (F 1) pp) (pY (F 1) pp) (qX z) (qY z)) := by rw [← lies_congr hLK_qq]; rw [eww, cmmn_n (by omega)]; unfold qX qY; omega
                                  refine lv_iconst (v := 0) hx hb dX7_common__177 (by decide) ?_
                                  refine lv_iadd hx hb dX7_common__178 ?_
                                  refine u_eqi (show (nI (cnt (fun j => cmmn x (lies (pn qq) (pX (F 1) qq) (pY (F 1) qq) (qX j) (qY j)) (lies (pn pp) (pX (F 1) pp) (pY (F 1) pp) (qX j) (qY j))) z)) + 0 = nI (cnt (fun j => cmmn x (lies (pn qq) (pX (F 1) qq) (pY (F 1) qq) (qX j) (qY j)) (lies (pn pp) (pX (F 1) pp) (pY (F 1) pp) (qX j) (qY j))) z) from Int32.add_zero _) ?_
                                  refine lv_istore (lv' := [(4, .int (nI (cnt (fun j => cmmn x (lies (pn qq) (pX (F 1) qq) (pY (F 1) qq) (qX j) (qY j)) (lies (pn pp) (pX (F 1) pp) (pY (F 1) pp) (qX j) (qY j))) z))), (6, .int (nI (lies (pn qq) X1_6 Y1_6 (nI (z % 32)) (nI (z / 32))))), (0, .ref (a 0)), (3, .int (nI ww)), (5, .int (nI z))]) hx hb dX7_common__179 hl (by decide) rfl (fun ls hl => ?_)
                                  refine lv_iinc (v := nI (z + 1)) (lv' := [(5, .int (nI (z + 1))), (4, .int (nI (cnt (fun j => cmmn x (lies (pn qq) (pX (F 1) qq) (pY (F 1) qq) (qX j) (qY j)) (lies (pn pp) (pX (F 1) pp) (pY (F 1) pp) (qX j) (qY j))) z))), (6, .int (nI (lies (pn qq) X1_6 Y1_6 (nI (z % 32)) (nI (z / 32))))), (0, .ref (a 0)), (3, .int (nI ww))]) hx hb dX7_common__181 hl (k := 4) rfl (nI_1 _) (by decide) rfl (fun ls hl => ?_)
                                  refine lv_goto (tgt := 84) hx hb dX7_common__184 (by decide) ?_
                                  exact ih_84 (z + 1) (by omega) (by omega) _ _ hP hD hS ls (by rw [cnt_f (P := fun j => cmmn x (lies (pn qq) (pX (F 1) qq) (pY (F 1) qq) (qX j) (qY j)) (lies (pn pp) (pX (F 1) pp) (pY (F 1) pp) (qX j) (qY j))) hcm]; exact (lv_sub hl [3, 4, 1, 0] rfl))
                                · skip
                                  have nc_38 : ¬ (lies (pn pp) (pX (F 1) pp) (pY (F 1) pp) (nI (z % 32)) (nI (z / 32)) ≤ 0) := fun h => c_38 ((nI_leI (a := (lies (pn pp) (pX (F 1) pp) (pY (F 1) pp) (nI (z % 32)) (nI (z / 32)))) (b := 0) (by omega) (by omega)).mpr h)
                                  have hcm : cmmn x (lies (pn qq) (pX (F 1) qq) (pY (F 1) qq) (qX z) (qY z)) (lies (pn pp) (pX (F 1) pp) (pY (F 1) pp) (qX z) (qY z)) := by rw [← lies_congr hLK_qq]; rw [eww, cmmn_n (by omega)]; unfold qX qY; omega
                                  refine lv_iconst (v := 1) hx hb dX7_common__173 (by decide) ?_
                                  refine lv_goto (tgt := 178) hx hb dX7_common__174 (by decide) ?_
                                  refine lv_iadd hx hb dX7_common__178 ?_
                                  refine u_eqi (show (nI (cnt (fun j => cmmn x (lies (pn qq) (pX (F 1) qq) (pY (F 1) qq) (qX j) (qY j)) (lies (pn pp) (pX (F 1) pp) (pY (F 1) pp) (qX j) (qY j))) z)) + 1 = nI (cnt (fun j => cmmn x (lies (pn qq) (pX (F 1) qq) (pY (F 1) qq) (qX j) (qY j)) (lies (pn pp) (pX (F 1) pp) (pY (F 1) pp) (qX j) (qY j))) z + 1) from nI_1 _) ?_
                                  refine lv_istore (lv' := [(4, .int (nI (cnt (fun j => cmmn x (lies (pn qq) (pX (F 1) qq) (pY (F 1) qq) (qX j) (qY j)) (lies (pn pp) (pX (F 1) pp) (pY (F 1) pp) (qX j) (qY j))) z + 1))), (6, .int (nI (lies (pn qq) X1_6 Y1_6 (nI (z % 32)) (nI (z / 32))))), (0, .ref (a 0)), (3, .int (nI ww)), (5, .int (nI z))]) hx hb dX7_common__179 hl (by decide) rfl (fun ls hl => ?_)
                                  refine lv_iinc (v := nI (z + 1)) (lv' := [(5, .int (nI (z + 1))), (4, .int (nI (cnt (fun j => cmmn x (lies (pn qq) (pX (F 1) qq) (pY (F 1) qq) (qX j) (qY j)) (lies (pn pp) (pX (F 1) pp) (pY (F 1) pp) (qX j) (qY j))) z + 1))), (6, .int (nI (lies (pn qq) X1_6 Y1_6 (nI (z % 32)) (nI (z / 32))))), (0, .ref (a 0)), (3, .int (nI ww))]) hx hb dX7_common__181 hl (k := 4) rfl (nI_1 _) (by decide) rfl (fun ls hl => ?_)
                                  refine lv_goto (tgt := 84) hx hb dX7_common__184 (by decide) ?_
                                  exact ih_84 (z + 1) (by omega) (by omega) _ _ hP hD hS ls (by rw [cnt_t (P := fun j => cmmn x (lies (pn qq) (pX (F 1) qq) (pY (F 1) qq) (qX j) (qY j)) (lies (pn pp) (pX (F 1) pp) (pY (F 1) pp) (qX j) (qY j))) hcm]; exact (lv_sub hl [3, 4, 1, 0] rfl))
                          · skip
                            have nc_35 : ww = 1 := (nI_eq (a := ww) (b := 1) (by omega) (by omega)).mp c_35
                            refine lv_iload hx hb dX7_common__136 (lv_at hl 0 rfl) ?_
                            refine lv_iconst (v := 1) hx hb dX7_common__138 (by decide) ?_
                            refine lv_icmp_ne (tgt := 153) hx hb dX7_common__139 (by decide) (fun c_39 => ?_) (fun c_39 => ?_)
                            · skip
                              have nc_39 : ¬ (lies (pn qq) X1_6 Y1_6 (nI (z % 32)) (nI (z / 32)) = 1) := fun h => c_39 ((nI_eq (a := (lies (pn qq) X1_6 Y1_6 (nI (z % 32)) (nI (z / 32)))) (b := 1) (by omega) (by omega)).mpr h)
                              refine lv_iload_n hx hb dX7_common__153 rfl (lv_at hl 2 rfl) ?_
                              refine lv_iconst (v := 2) hx hb dX7_common__154 (by decide) ?_
                              refine lv_icmp_ne (tgt := 177) hx hb dX7_common__155 (by decide) (fun c_40 => ?_) (fun c_40 => ?_)
                              · skip
                                have nc_40 : ¬ (ww = 2) := fun h => c_40 ((nI_eq (a := ww) (b := 2) (by omega) (by omega)).mpr h)
                                have hcm : ¬ cmmn x (lies (pn qq) (pX (F 1) qq) (pY (F 1) qq) (qX z) (qY z)) (lies (pn pp) (pX (F 1) pp) (pY (F 1) pp) (qX z) (qY z)) := by rw [← lies_congr hLK_qq]; rw [eww, cmmn_n (by omega)]; unfold qX qY; omega
                                refine lv_iconst (v := 0) hx hb dX7_common__177 (by decide) ?_
                                refine lv_iadd hx hb dX7_common__178 ?_
                                refine u_eqi (show (nI (cnt (fun j => cmmn x (lies (pn qq) (pX (F 1) qq) (pY (F 1) qq) (qX j) (qY j)) (lies (pn pp) (pX (F 1) pp) (pY (F 1) pp) (qX j) (qY j))) z)) + 0 = nI (cnt (fun j => cmmn x (lies (pn qq) (pX (F 1) qq) (pY (F 1) qq) (qX j) (qY j)) (lies (pn pp) (pX (F 1) pp) (pY (F 1) pp) (qX j) (qY j))) z) from Int32.add_zero _) ?_
                                refine lv_istore (lv' := [(4, .int (nI (cnt (fun j => cmmn x (lies (pn qq) (pX (F 1) qq) (pY (F 1) qq) (qX j) (qY j)) (lies (pn pp) (pX (F 1) pp) (pY (F 1) pp) (qX j) (qY j))) z))), (6, .int (nI (lies (pn qq) X1_6 Y1_6 (nI (z % 32)) (nI (z / 32))))), (0, .ref (a 0)), (3, .int (nI ww)), (5, .int (nI z))]) hx hb dX7_common__179 hl (by decide) rfl (fun ls hl => ?_)
                                refine lv_iinc (v := nI (z + 1)) (lv' := [(5, .int (nI (z + 1))), (4, .int (nI (cnt (fun j => cmmn x (lies (pn qq) (pX (F 1) qq) (pY (F 1) qq) (qX j) (qY j)) (lies (pn pp) (pX (F 1) pp) (pY (F 1) pp) (qX j) (qY j))) z))), (6, .int (nI (lies (pn qq) X1_6 Y1_6 (nI (z % 32)) (nI (z / 32))))), (0, .ref (a 0)), (3, .int (nI ww))]) hx hb dX7_common__181 hl (k := 4) rfl (nI_1 _) (by decide) rfl (fun ls hl => ?_)
                                refine lv_goto (tgt := 84) hx hb dX7_common__184 (by decide) ?_
                                exact ih_84 (z + 1) (by omega) (by omega) _ _ hP hD hS ls (by rw [cnt_f (P := fun j => cmmn x (lies (pn qq) (pX (F 1) qq) (pY (F 1) qq) (qX j) (qY j)) (lies (pn pp) (pX (F 1) pp) (pY (F 1) pp) (qX j) (qY j))) hcm]; exact (lv_sub hl [3, 4, 1, 0] rfl))
                              · skip
                                have nc_40 : ww = 2 := (nI_eq (a := ww) (b := 2) (by omega) (by omega)).mp c_40
                                refine lv_iload hx hb dX7_common__158 (lv_at hl 0 rfl) ?_
                                refine lv_if_le (tgt := 177) hx hb dX7_common__160 (by decide) (fun c_41 => ?_) (fun c_41 => ?_)
                                · skip
                                  have nc_41 : lies (pn qq) X1_6 Y1_6 (nI (z % 32)) (nI (z / 32)) ≤ 0 := (nI_leI (a := (lies (pn qq) X1_6 Y1_6 (nI (z % 32)) (nI (z / 32)))) (b := 0) (by omega) (by omega)).mp c_41
                                  have hcm : ¬ cmmn x (lies (pn qq) (pX (F 1) qq) (pY (F 1) qq) (qX z) (qY z)) (lies (pn pp) (pX (F 1) pp) (pY (F 1) pp) (qX z) (qY z)) := by rw [← lies_congr hLK_qq]; rw [eww, cmmn_n (by omega)]; unfold qX qY; omega
                                  refine lv_iconst (v := 0) hx hb dX7_common__177 (by decide) ?_
                                  refine lv_iadd hx hb dX7_common__178 ?_
                                  refine u_eqi (show (nI (cnt (fun j => cmmn x (lies (pn qq) (pX (F 1) qq) (pY (F 1) qq) (qX j) (qY j)) (lies (pn pp) (pX (F 1) pp) (pY (F 1) pp) (qX j) (qY j))) z)) + 0 = nI (cnt (fun j => cmmn x (lies (pn qq) (pX (F 1) qq) (pY (F 1) qq) (qX j) (qY j)) (lies (pn pp) (pX (F 1) pp) (pY (F 1) pp) (qX j) (qY j))) z) from Int32.add_zero _) ?_
                                  refine lv_istore (lv' := [(4, .int (nI (cnt (fun j => cmmn x (lies (pn qq) (pX (F 1) qq) (pY (F 1) qq) (qX j) (qY j)) (lies (pn pp) (pX (F 1) pp) (pY (F 1) pp) (qX j) (qY j))) z))), (6, .int (nI (lies (pn qq) X1_6 Y1_6 (nI (z % 32)) (nI (z / 32))))), (0, .ref (a 0)), (3, .int (nI ww)), (5, .int (nI z))]) hx hb dX7_common__179 hl (by decide) rfl (fun ls hl => ?_)
                                  refine lv_iinc (v := nI (z + 1)) (lv' := [(5, .int (nI (z + 1))), (4, .int (nI (cnt (fun j => cmmn x (lies (pn qq) (pX (F 1) qq) (pY (F 1) qq) (qX j) (qY j)) (lies (pn pp) (pX (F 1) pp) (pY (F 1) pp) (qX j) (qY j))) z))), (6, .int (nI (lies (pn qq) X1_6 Y1_6 (nI (z % 32)) (nI (z / 32))))), (0, .ref (a 0)), (3, .int (nI ww))]) hx hb dX7_common__181 hl (k := 4) rfl (nI_1 _) (by decide) rfl (fun ls hl => ?_)
                                  refine lv_goto (tgt := 84) hx hb dX7_common__184 (by decide) ?_
                                  exact ih_84 (z + 1) (by omega) (by omega) _ _ hP hD hS ls (by rw [cnt_f (P := fun j => cmmn x (lies (pn qq) (pX (F 1) qq) (pY (F 1) qq) (qX j) (qY j)) (lies (pn pp) (pX (F 1) pp) (pY (F 1) pp) (qX j) (qY j))) hcm]; exact (lv_sub hl [3, 4, 1, 0] rfl))
                                · skip
                                  have nc_41 : ¬ (lies (pn qq) X1_6 Y1_6 (nI (z % 32)) (nI (z / 32)) ≤ 0) := fun h => c_41 ((nI_leI (a := (lies (pn qq) X1_6 Y1_6 (nI (z % 32)) (nI (z / 32)))) (b := 0) (by omega) (by omega)).mpr h)
                                  refine lv_aload_n hx hb dX7_common__163 rfl (lv_at hl 1 rfl) ?_
                                  refine va_get (D := D) (ci := 9) (v := .ref (a 11)) (C := RX7) (T := TX7) (N := 24) hx hb hts (by decide +kernel) hown hK hP 0 rfl rfl 21 (by decide) (hts (.fieldLink RX7 41 "LandDeedsModel" "lain" "[I") (by decide +kernel)) (fun _ h9 => h9) rfl dX7_common__164 ?_
                                  refine lv_iload hx hb dX7_common__167 (lv_at hl 4 rfl) ?_
                                  refine u_iald hx hb hK hP 11 0 rfl rfl rfl ⟨by omega, by omega⟩ dX7_common__169 ?_
                                  refine u_eqi (show O z = nI (lies (pn pp) (pX (F 1) pp) (pY (F 1) pp) (nI (z % 32)) (nI (z / 32))) from hO z (by omega)) ?_
                                  refine lv_if_le (tgt := 177) hx hb dX7_common__170 (by decide) (fun c_42 => ?_) (fun c_42 => ?_)
                                  · skip
                                    have nc_42 : lies (pn pp) (pX (F 1) pp) (pY (F 1) pp) (nI (z % 32)) (nI (z / 32)) ≤ 0 := (nI_leI (a := (lies (pn pp) (pX (F 1) pp) (pY (F 1) pp) (nI (z % 32)) (nI (z / 32)))) (b := 0) (by omega) (by omega)).mp c_42
                                    have hcm : ¬ cmmn x (lies (pn qq) (pX (F 1) qq) (pY (F 1) qq) (qX z) (qY z)) (lies (pn pp) (pX (F 1) pp) (pY (F 1) pp) (qX z) (qY z)) := by rw [← lies_congr hLK_qq]; rw [eww, cmmn_n (by omega)]; unfold qX qY; omega
                                    refine lv_iconst (v := 0) hx hb dX7_common__177 (by decide) ?_
                                    refine lv_iadd hx hb dX7_common__178 ?_
                                    refine u_eqi (show (nI (cnt (fun j => cmmn x (lies (pn qq) (pX (F 1) qq) (pY (F 1) qq) (qX j) (qY j)) (lies (pn pp) (pX (F 1) pp) (pY (F 1) pp) (qX j) (qY j))) z)) + 0 = nI (cnt (fun j => cmmn x (lies (pn qq) (pX (F 1) qq) (pY (F 1) qq) (qX j) (qY j)) (lies (pn pp) (pX (F 1) pp) (pY (F 1) pp) (qX j) (qY j))) z) from Int32.add_zero _) ?_
                                    refine lv_istore (lv' := [(4, .int (nI (cnt (fun j => cmmn x (lies (pn qq) (pX (F 1) qq) (pY (F 1) qq) (qX j) (qY j)) (lies (pn pp) (pX (F 1) pp) (pY (F 1) pp) (qX j) (qY j))) z))), (6, .int (nI (lies (pn qq) X1_6 Y1_6 (nI (z % 32)) (nI (z / 32))))), (0, .ref (a 0)), (3, .int (nI ww)), (5, .int (nI z))]) hx hb dX7_common__179 hl (by decide) rfl (fun ls hl => ?_)
                                    refine lv_iinc (v := nI (z + 1)) (lv' := [(5, .int (nI (z + 1))), (4, .int (nI (cnt (fun j => cmmn x (lies (pn qq) (pX (F 1) qq) (pY (F 1) qq) (qX j) (qY j)) (lies (pn pp) (pX (F 1) pp) (pY (F 1) pp) (qX j) (qY j))) z))), (6, .int (nI (lies (pn qq) X1_6 Y1_6 (nI (z % 32)) (nI (z / 32))))), (0, .ref (a 0)), (3, .int (nI ww))]) hx hb dX7_common__181 hl (k := 4) rfl (nI_1 _) (by decide) rfl (fun ls hl => ?_)
                                    refine lv_goto (tgt := 84) hx hb dX7_common__184 (by decide) ?_
                                    exact ih_84 (z + 1) (by omega) (by omega) _ _ hP hD hS ls (by rw [cnt_f (P := fun j => cmmn x (lies (pn qq) (pX (F 1) qq) (pY (F 1) qq) (qX j) (qY j)) (lies (pn pp) (pX (F 1) pp) (pY (F 1) pp) (qX j) (qY j))) hcm]; exact (lv_sub hl [3, 4, 1, 0] rfl))
                                  · skip
                                    have nc_42 : ¬ (lies (pn pp) (pX (F 1) pp) (pY (F 1) pp) (nI (z % 32)) (nI (z / 32)) ≤ 0) := fun h => c_42 ((nI_leI (a := (lies (pn pp) (pX (F 1) pp) (pY (F 1) pp) (nI (z % 32)) (nI (z / 32)))) (b := 0) (by omega) (by omega)).mpr h)
                                    have hcm : cmmn x (lies (pn qq) (pX (F 1) qq) (pY (F 1) qq) (qX z) (qY z)) (lies (pn pp) (pX (F 1) pp) (pY (F 1) pp) (qX z) (qY z)) := by rw [← lies_congr hLK_qq]; rw [eww, cmmn_n (by omega)]; unfold qX qY; omega
                                    refine lv_iconst (v := 1) hx hb dX7_common__173 (by decide) ?_
                                    refine lv_goto (tgt := 178) hx hb dX7_common__174 (by decide) ?_
                                    refine lv_iadd hx hb dX7_common__178 ?_
                                    refine u_eqi (show (nI (cnt (fun j => cmmn x (lies (pn qq) (pX (F 1) qq) (pY (F 1) qq) (qX j) (qY j)) (lies (pn pp) (pX (F 1) pp) (pY (F 1) pp) (qX j) (qY j))) z)) + 1 = nI (cnt (fun j => cmmn x (lies (pn qq) (pX (F 1) qq) (pY (F 1) qq) (qX j) (qY j)) (lies (pn pp) (pX (F 1) pp) (pY (F 1) pp) (qX j) (qY j))) z + 1) from nI_1 _) ?_
                                    refine lv_istore (lv' := [(4, .int (nI (cnt (fun j => cmmn x (lies (pn qq) (pX (F 1) qq) (pY (F 1) qq) (qX j) (qY j)) (lies (pn pp) (pX (F 1) pp) (pY (F 1) pp) (qX j) (qY j))) z + 1))), (6, .int (nI (lies (pn qq) X1_6 Y1_6 (nI (z % 32)) (nI (z / 32))))), (0, .ref (a 0)), (3, .int (nI ww)), (5, .int (nI z))]) hx hb dX7_common__179 hl (by decide) rfl (fun ls hl => ?_)
                                    refine lv_iinc (v := nI (z + 1)) (lv' := [(5, .int (nI (z + 1))), (4, .int (nI (cnt (fun j => cmmn x (lies (pn qq) (pX (F 1) qq) (pY (F 1) qq) (qX j) (qY j)) (lies (pn pp) (pX (F 1) pp) (pY (F 1) pp) (qX j) (qY j))) z + 1))), (6, .int (nI (lies (pn qq) X1_6 Y1_6 (nI (z % 32)) (nI (z / 32))))), (0, .ref (a 0)), (3, .int (nI ww))]) hx hb dX7_common__181 hl (k := 4) rfl (nI_1 _) (by decide) rfl (fun ls hl => ?_)
                                    refine lv_goto (tgt := 84) hx hb dX7_common__184 (by decide) ?_
                                    exact ih_84 (z + 1) (by omega) (by omega) _ _ hP hD hS ls (by rw [cnt_t (P := fun j => cmmn x (lies (pn qq) (pX (F 1) qq) (pY (F 1) qq) (qX j) (qY j)) (lies (pn pp) (pX (F 1) pp) (pY (F 1) pp) (qX j) (qY j))) hcm]; exact (lv_sub hl [3, 4, 1, 0] rfl))
                            · skip
                              have nc_39 : lies (pn qq) X1_6 Y1_6 (nI (z % 32)) (nI (z / 32)) = 1 := (nI_eq (a := (lies (pn qq) X1_6 Y1_6 (nI (z % 32)) (nI (z / 32)))) (b := 1) (by omega) (by omega)).mp c_39
                              refine lv_aload_n hx hb dX7_common__142 rfl (lv_at hl 1 rfl) ?_
                              refine va_get (D := D) (ci := 9) (v := .ref (a 11)) (C := RX7) (T := TX7) (N := 24) hx hb hts (by decide +kernel) hown hK hP 0 rfl rfl 21 (by decide) (hts (.fieldLink RX7 41 "LandDeedsModel" "lain" "[I") (by decide +kernel)) (fun _ h9 => h9) rfl dX7_common__143 ?_
                              refine lv_iload hx hb dX7_common__146 (lv_at hl 4 rfl) ?_
                              refine u_iald hx hb hK hP 11 0 rfl rfl rfl ⟨by omega, by omega⟩ dX7_common__148 ?_
                              refine u_eqi (show O z = nI (lies (pn pp) (pX (F 1) pp) (pY (F 1) pp) (nI (z % 32)) (nI (z / 32))) from hO z (by omega)) ?_
                              refine lv_iconst (v := 1) hx hb dX7_common__149 (by decide) ?_
                              refine lv_icmp_eq (tgt := 173) hx hb dX7_common__150 (by decide) (fun c_43 => ?_) (fun c_43 => ?_)
                              · skip
                                have nc_43 : lies (pn pp) (pX (F 1) pp) (pY (F 1) pp) (nI (z % 32)) (nI (z / 32)) = 1 := (nI_eq (a := (lies (pn pp) (pX (F 1) pp) (pY (F 1) pp) (nI (z % 32)) (nI (z / 32)))) (b := 1) (by omega) (by omega)).mp c_43
                                have hcm : cmmn x (lies (pn qq) (pX (F 1) qq) (pY (F 1) qq) (qX z) (qY z)) (lies (pn pp) (pX (F 1) pp) (pY (F 1) pp) (qX z) (qY z)) := by rw [← lies_congr hLK_qq]; rw [eww, cmmn_n (by omega)]; unfold qX qY; omega
                                refine lv_iconst (v := 1) hx hb dX7_common__173 (by decide) ?_
                                refine lv_goto (tgt := 178) hx hb dX7_common__174 (by decide) ?_
                                refine lv_iadd hx hb dX7_common__178 ?_
                                refine u_eqi (show (nI (cnt (fun j => cmmn x (lies (pn qq) (pX (F 1) qq) (pY (F 1) qq) (qX j) (qY j)) (lies (pn pp) (pX (F 1) pp) (pY (F 1) pp) (qX j) (qY j))) z)) + 1 = nI (cnt (fun j => cmmn x (lies (pn qq) (pX (F 1) qq) (pY (F 1) qq) (qX j) (qY j)) (lies (pn pp) (pX (F 1) pp) (pY (F 1) pp) (qX j) (qY j))) z + 1) from nI_1 _) ?_
                                refine lv_istore (lv' := [(4, .int (nI (cnt (fun j => cmmn x (lies (pn qq) (pX (F 1) qq) (pY (F 1) qq) (qX j) (qY j)) (lies (pn pp) (pX (F 1) pp) (pY (F 1) pp) (qX j) (qY j))) z + 1))), (6, .int (nI (lies (pn qq) X1_6 Y1_6 (nI (z % 32)) (nI (z / 32))))), (0, .ref (a 0)), (3, .int (nI ww)), (5, .int (nI z))]) hx hb dX7_common__179 hl (by decide) rfl (fun ls hl => ?_)
                                refine lv_iinc (v := nI (z + 1)) (lv' := [(5, .int (nI (z + 1))), (4, .int (nI (cnt (fun j => cmmn x (lies (pn qq) (pX (F 1) qq) (pY (F 1) qq) (qX j) (qY j)) (lies (pn pp) (pX (F 1) pp) (pY (F 1) pp) (qX j) (qY j))) z + 1))), (6, .int (nI (lies (pn qq) X1_6 Y1_6 (nI (z % 32)) (nI (z / 32))))), (0, .ref (a 0)), (3, .int (nI ww))]) hx hb dX7_common__181 hl (k := 4) rfl (nI_1 _) (by decide) rfl (fun ls hl => ?_)
                                refine lv_goto (tgt := 84) hx hb dX7_common__184 (by decide) ?_
                                exact ih_84 (z + 1) (by omega) (by omega) _ _ hP hD hS ls (by rw [cnt_t (P := fun j => cmmn x (lies (pn qq) (pX (F 1) qq) (pY (F 1) qq) (qX j) (qY j)) (lies (pn pp) (pX (F 1) pp) (pY (F 1) pp) (qX j) (qY j))) hcm]; exact (lv_sub hl [3, 4, 1, 0] rfl))
                              · skip
                                have nc_43 : ¬ (lies (pn pp) (pX (F 1) pp) (pY (F 1) pp) (nI (z % 32)) (nI (z / 32)) = 1) := fun h => c_43 ((nI_eq (a := (lies (pn pp) (pX (F 1) pp) (pY (F 1) pp) (nI (z % 32)) (nI (z / 32)))) (b := 1) (by omega) (by omega)).mpr h)
                                refine lv_iload_n hx hb dX7_common__153 rfl (lv_at hl 2 rfl) ?_
                                refine lv_iconst (v := 2) hx hb dX7_common__154 (by decide) ?_
                                refine lv_icmp_ne (tgt := 177) hx hb dX7_common__155 (by decide) (fun c_44 => ?_) (fun c_44 => ?_)
                                · skip
                                  have nc_44 : ¬ (ww = 2) := fun h => c_44 ((nI_eq (a := ww) (b := 2) (by omega) (by omega)).mpr h)
                                  have hcm : ¬ cmmn x (lies (pn qq) (pX (F 1) qq) (pY (F 1) qq) (qX z) (qY z)) (lies (pn pp) (pX (F 1) pp) (pY (F 1) pp) (qX z) (qY z)) := by rw [← lies_congr hLK_qq]; rw [eww, cmmn_n (by omega)]; unfold qX qY; omega
                                  refine lv_iconst (v := 0) hx hb dX7_common__177 (by decide) ?_
                                  refine lv_iadd hx hb dX7_common__178 ?_
                                  refine u_eqi (show (nI (cnt (fun j => cmmn x (lies (pn qq) (pX (F 1) qq) (pY (F 1) qq) (qX j) (qY j)) (lies (pn pp) (pX (F 1) pp) (pY (F 1) pp) (qX j) (qY j))) z)) + 0 = nI (cnt (fun j => cmmn x (lies (pn qq) (pX (F 1) qq) (pY (F 1) qq) (qX j) (qY j)) (lies (pn pp) (pX (F 1) pp) (pY (F 1) pp) (qX j) (qY j))) z) from Int32.add_zero _) ?_
                                  refine lv_istore (lv' := [(4, .int (nI (cnt (fun j => cmmn x (lies (pn qq) (pX (F 1) qq) (pY (F 1) qq) (qX j) (qY j)) (lies (pn pp) (pX (F 1) pp) (pY (F 1) pp) (qX j) (qY j))) z))), (6, .int (nI (lies (pn qq) X1_6 Y1_6 (nI (z % 32)) (nI (z / 32))))), (0, .ref (a 0)), (3, .int (nI ww)), (5, .int (nI z))]) hx hb dX7_common__179 hl (by decide) rfl (fun ls hl => ?_)
                                  refine lv_iinc (v := nI (z + 1)) (lv' := [(5, .int (nI (z + 1))), (4, .int (nI (cnt (fun j => cmmn x (lies (pn qq) (pX (F 1) qq) (pY (F 1) qq) (qX j) (qY j)) (lies (pn pp) (pX (F 1) pp) (pY (F 1) pp) (qX j) (qY j))) z))), (6, .int (nI (lies (pn qq) X1_6 Y1_6 (nI (z % 32)) (nI (z / 32))))), (0, .ref (a 0)), (3, .int (nI ww))]) hx hb dX7_common__181 hl (k := 4) rfl (nI_1 _) (by decide) rfl (fun ls hl => ?_)
                                  refine lv_goto (tgt := 84) hx hb dX7_common__184 (by decide) ?_
                                  exact ih_84 (z + 1) (by omega) (by omega) _ _ hP hD hS ls (by rw [cnt_f (P := fun j => cmmn x (lies (pn qq) (pX (F 1) qq) (pY (F 1) qq) (qX j) (qY j)) (lies (pn pp) (pX (F 1) pp) (pY (F 1) pp) (qX j) (qY j))) hcm]; exact (lv_sub hl [3, 4, 1, 0] rfl))
                                · skip
                                  have nc_44 : ww = 2 := (nI_eq (a := ww) (b := 2) (by omega) (by omega)).mp c_44
                                  refine lv_iload hx hb dX7_common__158 (lv_at hl 0 rfl) ?_
                                  refine lv_if_le (tgt := 177) hx hb dX7_common__160 (by decide) (fun c_45 => ?_) (fun c_45 => ?_)
                                  · skip
                                    have nc_45 : lies (pn qq) X1_6 Y1_6 (nI (z % 32)) (nI (z / 32)) ≤ 0 := (nI_leI (a := (lies (pn qq) X1_6 Y1_6 (nI (z % 32)) (nI (z / 32)))) (b := 0) (by omega) (by omega)).mp c_45
                                    have hcm : ¬ cmmn x (lies (pn qq) (pX (F 1) qq) (pY (F 1) qq) (qX z) (qY z)) (lies (pn pp) (pX (F 1) pp) (pY (F 1) pp) (qX z) (qY z)) := by rw [← lies_congr hLK_qq]; rw [eww, cmmn_n (by omega)]; unfold qX qY; omega
                                    refine lv_iconst (v := 0) hx hb dX7_common__177 (by decide) ?_
                                    refine lv_iadd hx hb dX7_common__178 ?_
                                    refine u_eqi (show (nI (cnt (fun j => cmmn x (lies (pn qq) (pX (F 1) qq) (pY (F 1) qq) (qX j) (qY j)) (lies (pn pp) (pX (F 1) pp) (pY (F 1) pp) (qX j) (qY j))) z)) + 0 = nI (cnt (fun j => cmmn x (lies (pn qq) (pX (F 1) qq) (pY (F 1) qq) (qX j) (qY j)) (lies (pn pp) (pX (F 1) pp) (pY (F 1) pp) (qX j) (qY j))) z) from Int32.add_zero _) ?_
                                    refine lv_istore (lv' := [(4, .int (nI (cnt (fun j => cmmn x (lies (pn qq) (pX (F 1) qq) (pY (F 1) qq) (qX j) (qY j)) (lies (pn pp) (pX (F 1) pp) (pY (F 1) pp) (qX j) (qY j))) z))), (6, .int (nI (lies (pn qq) X1_6 Y1_6 (nI (z % 32)) (nI (z / 32))))), (0, .ref (a 0)), (3, .int (nI ww)), (5, .int (nI z))]) hx hb dX7_common__179 hl (by decide) rfl (fun ls hl => ?_)
                                    refine lv_iinc (v := nI (z + 1)) (lv' := [(5, .int (nI (z + 1))), (4, .int (nI (cnt (fun j => cmmn x (lies (pn qq) (pX (F 1) qq) (pY (F 1) qq) (qX j) (qY j)) (lies (pn pp) (pX (F 1) pp) (pY (F 1) pp) (qX j) (qY j))) z))), (6, .int (nI (lies (pn qq) X1_6 Y1_6 (nI (z % 32)) (nI (z / 32))))), (0, .ref (a 0)), (3, .int (nI ww))]) hx hb dX7_common__181 hl (k := 4) rfl (nI_1 _) (by decide) rfl (fun ls hl => ?_)
                                    refine lv_goto (tgt := 84) hx hb dX7_common__184 (by decide) ?_
                                    exact ih_84 (z + 1) (by omega) (by omega) _ _ hP hD hS ls (by rw [cnt_f (P := fun j => cmmn x (lies (pn qq) (pX (F 1) qq) (pY (F 1) qq) (qX j) (qY j)) (lies (pn pp) (pX (F 1) pp) (pY (F 1) pp) (qX j) (qY j))) hcm]; exact (lv_sub hl [3, 4, 1, 0] rfl))
                                  · skip
                                    have nc_45 : ¬ (lies (pn qq) X1_6 Y1_6 (nI (z % 32)) (nI (z / 32)) ≤ 0) := fun h => c_45 ((nI_leI (a := (lies (pn qq) X1_6 Y1_6 (nI (z % 32)) (nI (z / 32)))) (b := 0) (by omega) (by omega)).mpr h)
                                    refine lv_aload_n hx hb dX7_common__163 rfl (lv_at hl 1 rfl) ?_
                                    refine va_get (D := D) (ci := 9) (v := .ref (a 11)) (C := RX7) (T := TX7) (N := 24) hx hb hts (by decide +kernel) hown hK hP 0 rfl rfl 21 (by decide) (hts (.fieldLink RX7 41 "LandDeedsModel" "lain" "[I") (by decide +kernel)) (fun _ h9 => h9) rfl dX7_common__164 ?_
                                    refine lv_iload hx hb dX7_common__167 (lv_at hl 4 rfl) ?_
                                    refine u_iald hx hb hK hP 11 0 rfl rfl rfl ⟨by omega, by omega⟩ dX7_common__169 ?_
                                    refine u_eqi (show O z = nI (lies (pn pp) (pX (F 1) pp) (pY (F 1) pp) (nI (z % 32)) (nI (z / 32))) from hO z (by omega)) ?_
                                    refine lv_if_le (tgt := 177) hx hb dX7_common__170 (by decide) (fun c_46 => ?_) (fun c_46 => ?_)
                                    · skip
                                      have nc_46 : lies (pn pp) (pX (F 1) pp) (pY (F 1) pp) (nI (z % 32)) (nI (z / 32)) ≤ 0 := (nI_leI (a := (lies (pn pp) (pX (F 1) pp) (pY (F 1) pp) (nI (z % 32)) (nI (z / 32)))) (b := 0) (by omega) (by omega)).mp c_46
                                      have hcm : ¬ cmmn x (lies (pn qq) (pX (F 1) qq) (pY (F 1) qq) (qX z) (qY z)) (lies (pn pp) (pX (F 1) pp) (pY (F 1) pp) (qX z) (qY z)) := by rw [← lies_congr hLK_qq]; rw [eww, cmmn_n (by omega)]; unfold qX qY; omega
                                      refine lv_iconst (v := 0) hx hb dX7_common__177 (by decide) ?_
                                      refine lv_iadd hx hb dX7_common__178 ?_
                                      refine u_eqi (show (nI (cnt (fun j => cmmn x (lies (pn qq) (pX (F 1) qq) (pY (F 1) qq) (qX j) (qY j)) (lies (pn pp) (pX (F 1) pp) (pY (F 1) pp) (qX j) (qY j))) z)) + 0 = nI (cnt (fun j => cmmn x (lies (pn qq) (pX (F 1) qq) (pY (F 1) qq) (qX j) (qY j)) (lies (pn pp) (pX (F 1) pp) (pY (F 1) pp) (qX j) (qY j))) z) from Int32.add_zero _) ?_
                                      refine lv_istore (lv' := [(4, .int (nI (cnt (fun j => cmmn x (lies (pn qq) (pX (F 1) qq) (pY (F 1) qq) (qX j) (qY j)) (lies (pn pp) (pX (F 1) pp) (pY (F 1) pp) (qX j) (qY j))) z))), (6, .int (nI (lies (pn qq) X1_6 Y1_6 (nI (z % 32)) (nI (z / 32))))), (0, .ref (a 0)), (3, .int (nI ww)), (5, .int (nI z))]) hx hb dX7_common__179 hl (by decide) rfl (fun ls hl => ?_)
                                      refine lv_iinc (v := nI (z + 1)) (lv' := [(5, .int (nI (z + 1))), (4, .int (nI (cnt (fun j => cmmn x (lies (pn qq) (pX (F 1) qq) (pY (F 1) qq) (qX j) (qY j)) (lies (pn pp) (pX (F 1) pp) (pY (F 1) pp) (qX j) (qY j))) z))), (6, .int (nI (lies (pn qq) X1_6 Y1_6 (nI (z % 32)) (nI (z / 32))))), (0, .ref (a 0)), (3, .int (nI ww))]) hx hb dX7_common__181 hl (k := 4) rfl (nI_1 _) (by decide) rfl (fun ls hl => ?_)
                                      refine lv_goto (tgt := 84) hx hb dX7_common__184 (by decide) ?_
                                      exact ih_84 (z + 1) (by omega) (by omega) _ _ hP hD hS ls (by rw [cnt_f (P := fun j => cmmn x (lies (pn qq) (pX (F 1) qq) (pY (F 1) qq) (qX j) (qY j)) (lies (pn pp) (pX (F 1) pp) (pY (F 1) pp) (qX j) (qY j))) hcm]; exact (lv_sub hl [3, 4, 1, 0] rfl))
                                    · skip
                                      have nc_46 : ¬ (lies (pn pp) (pX (F 1) pp) (pY (F 1) pp) (nI (z % 32)) (nI (z / 32)) ≤ 0) := fun h => c_46 ((nI_leI (a := (lies (pn pp) (pX (F 1) pp) (pY (F 1) pp) (nI (z % 32)) (nI (z / 32)))) (b := 0) (by omega) (by omega)).mpr h)
                                      have hcm : cmmn x (lies (pn qq) (pX (F 1) qq) (pY (F 1) qq) (qX z) (qY z)) (lies (pn pp) (pX (F 1) pp) (pY (F 1) pp) (qX z) (qY z)) := by rw [← lies_congr hLK_qq]; rw [eww, cmmn_n (by omega)]; unfold qX qY; omega
                                      refine lv_iconst (v := 1) hx hb dX7_common__173 (by decide) ?_
                                      refine lv_goto (tgt := 178) hx hb dX7_common__174 (by decide) ?_
                                      refine lv_iadd hx hb dX7_common__178 ?_
                                      refine u_eqi (show (nI (cnt (fun j => cmmn x (lies (pn qq) (pX (F 1) qq) (pY (F 1) qq) (qX j) (qY j)) (lies (pn pp) (pX (F 1) pp) (pY (F 1) pp) (qX j) (qY j))) z)) + 1 = nI (cnt (fun j => cmmn x (lies (pn qq) (pX (F 1) qq) (pY (F 1) qq) (qX j) (qY j)) (lies (pn pp) (pX (F 1) pp) (pY (F 1) pp) (qX j) (qY j))) z + 1) from nI_1 _) ?_
                                      refine lv_istore (lv' := [(4, .int (nI (cnt (fun j => cmmn x (lies (pn qq) (pX (F 1) qq) (pY (F 1) qq) (qX j) (qY j)) (lies (pn pp) (pX (F 1) pp) (pY (F 1) pp) (qX j) (qY j))) z + 1))), (6, .int (nI (lies (pn qq) X1_6 Y1_6 (nI (z % 32)) (nI (z / 32))))), (0, .ref (a 0)), (3, .int (nI ww)), (5, .int (nI z))]) hx hb dX7_common__179 hl (by decide) rfl (fun ls hl => ?_)
                                      refine lv_iinc (v := nI (z + 1)) (lv' := [(5, .int (nI (z + 1))), (4, .int (nI (cnt (fun j => cmmn x (lies (pn qq) (pX (F 1) qq) (pY (F 1) qq) (qX j) (qY j)) (lies (pn pp) (pX (F 1) pp) (pY (F 1) pp) (qX j) (qY j))) z + 1))), (6, .int (nI (lies (pn qq) X1_6 Y1_6 (nI (z % 32)) (nI (z / 32))))), (0, .ref (a 0)), (3, .int (nI ww))]) hx hb dX7_common__181 hl (k := 4) rfl (nI_1 _) (by decide) rfl (fun ls hl => ?_)
                                      refine lv_goto (tgt := 84) hx hb dX7_common__184 (by decide) ?_
                                      exact ih_84 (z + 1) (by omega) (by omega) _ _ hP hD hS ls (by rw [cnt_t (P := fun j => cmmn x (lies (pn qq) (pX (F 1) qq) (pY (F 1) qq) (qX j) (qY j)) (lies (pn pp) (pX (F 1) pp) (pY (F 1) pp) (qX j) (qY j))) hcm]; exact (lv_sub hl [3, 4, 1, 0] rfl))
              exact LOOP_84 (1024 - 0 + 1) 0 (Nat.zero_le _) (Nat.lt_succ_self _) _ _ hP hD hS ls (lv_sub hl [2, 4, 1, 0] rfl)
            · skip
              have nc_5 : ¬ (1024 ≤ z) := fun h => c_5 ((nI_leI (a := 1024) (b := z) (by omega) (by omega)).mpr h)
              refine lv_aload_n hx hb dX7_common__46 rfl (lv_at hl 0 rfl) ?_
              refine va_get (D := D) (ci := 9) (v := .ref (a 11)) (C := RX7) (T := TX7) (N := 24) hx hb hts (by decide +kernel) hown hK hP 0 rfl rfl 21 (by decide) (hts (.fieldLink RX7 41 "LandDeedsModel" "lain" "[I") (by decide +kernel)) (fun _ h9 => h9) rfl dX7_common__47 ?_
              refine lv_iload hx hb dX7_common__50 (lv_at hl 3 rfl) ?_
              refine lv_aload_n hx hb dX7_common__52 rfl (lv_at hl 0 rfl) ?_
              refine lv_iload hx hb dX7_common__53 (lv_at hl 3 rfl) ?_
              refine lv_bipush (v := 32) hx hb dX7_common__55 (by decide) ?_
              refine lv_irem hx hb dX7_common__57 (by decide) ?_
              refine u_eqi (show (nI z) - (nI z) / 32 * 32 = nI (z % 32) from (div32 (by omega)).2) ?_
              refine lv_iload hx hb dX7_common__58 (lv_at hl 3 rfl) ?_
              refine lv_bipush (v := 32) hx hb dX7_common__60 (by decide) ?_
              refine lv_idiv hx hb dX7_common__62 (by decide) ?_
              refine u_eqi (show (nI z) / 32 = nI (z / 32) from (div32 (by omega)).1) ?_
              have hPc := hP
              refine u_callSi (W.runV (As := [.int (nI (z % 32)), .int (nI (z / 32))]) (rest := [.int (nI z), .ref (a 11)]) ⟨hx, hb, hml, hown, hts⟩ (c_X7_liesNow l D cI cB cZ cP a v su sl (updF F 11 O) (pn pp) X1_4 Y1_4 (nI (z % 32)) (nI (z / 32)) (h8_pp)) (cwV 2 hts gX7_common__X7_liesNow rfl rfl rfl (by decide +kernel) ⟨Nat.le_of_ble_eq_true rfl, Nat.le_of_ble_eq_true rfl⟩) (pV (q0 := 0) hPc hW0 trivial rfl rfl) rfl rfl hl.1 rfl (lv_room (Nat.le_of_ble_eq_true rfl)) dX7_common__63 ⟨Nat.le_of_ble_eq_true rfl, Nat.le_of_ble_eq_true rfl⟩) ?_
              refine u_iast hx hb hK hP hD hS 11 0 rfl rfl rfl ⟨by omega, by omega⟩ dX7_common__66 (fun H locs hP hD hS => ?_)
              have hP : va_P D vwCl (MW cI cZ a (upd v 7 (nI (pn pp))) su sl (updF (updF (updF F 7 X1_4) 8 Y1_4) 11 (upd O z (nI (lies (pn pp) X1_4 Y1_4 (nI (z % 32)) (nI (z / 32))))))) H := hP
              have hD : va_D A (MW cI cZ a (upd v 7 (nI (pn pp))) su sl (updF (updF (updF F 7 X1_4) 8 Y1_4) 11 (upd O z (nI (lies (pn pp) X1_4 Y1_4 (nI (z % 32)) (nI (z / 32))))))) := hD
              refine lv_iinc (v := nI (z + 1)) (lv' := [(4, .int (nI (z + 1))), (0, .ref (a 0)), (2, .int (nI qq)), (3, .int (nI ww))]) hx hb dX7_common__67 hl (k := 3) rfl (nI_1 _) (by decide) rfl (fun ls hl => ?_)
              refine lv_goto (tgt := 38) hx hb dX7_common__70 (by decide) ?_
              exact ih_38 (z + 1) (upd O z (nI (lies (pn pp) X1_4 Y1_4 (nI (z % 32)) (nI (z / 32))))) (by omega) (upd_on (f := fun j => nI (lies (pn pp) (pX (F 1) pp) (pY (F 1) pp) (qX j) (qY j))) hO (congrArg nI (lies_congr hLK_pp _ _))) (by omega) _ _ hP hD hS ls (lv_sub hl [1, 2, 3, 0] rfl)
        exact LOOP_38 (1024 - 0 + 1) 0 (F 11) (Nat.zero_le _) (fun j h => absurd h (Nat.not_lt_zero _)) (Nat.lt_succ_self _) _ _ hP hD hS ls (lv_sub hl [1, 3, 4, 0] rfl)
      · skip
        have nc_3 := zb_eq0.mp c_3
        have hw9 : ¬ (0 ≤ x.toInt ∧ x.toInt ≤ 2) := by have h9 := nc_3; rw [li_0, li_2] at h9; exact h9
        refine lv_bipush (v := (-2)) hx hb dX7_common__27 (by decide) ?_
        rw [← hQ]
        have hP9 := hP
        have hD9 := hD
        exact W.iret (v := (-2)) hx hb hr (fun t ht hW => ⟨⟨_, (v, su, sl, F), rfl, ⟨((cif_t ⟨nc_1, nc_2⟩).trans (cif_f hw9)).symm, ⟨rfl, rfl, rfl, rfl, rfl⟩⟩, by rw [ht]; exact hP9, hD9⟩, hS.F ht⟩) hS.2.2 dX7_common__29
    · skip
      have nc_2 := zb_eq0.mp c_2
      refine lv_iconst (v := (-1)) hx hb dX7_common__16 (by decide) ?_
      rw [← hQ]
      have hP9 := hP
      have hD9 := hD
      exact W.iret (v := (-1)) hx hb hr (fun t ht hW => ⟨⟨_, (v, su, sl, F), rfl, ⟨(cif_f (fun q => nc_2 q.2)).symm, ⟨rfl, rfl, rfl, rfl, rfl⟩⟩, by rw [ht]; exact hP9, hD9⟩, hS.F ht⟩) hS.2.2 dX7_common__17

