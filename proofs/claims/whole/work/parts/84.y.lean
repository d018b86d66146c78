set_option maxHeartbeats 4000000 in
set_option maxRecDepth 100000 in
theorem c_X6_west (l : Launch) (D : va_G) (cI cB cZ cP : ClassId) (sz : Nat) (h0 tx es i1 i2 wa ra : Nat) (kp : Int32) (ap ay k : Nat) (lo : Int32) (fp : Nat → Option Nat) (Pl : Nat → Option PD) (pn : PN) (PX PY : PF) (u0 w0 : Int64) (x0 x y : Int32) (hk : k ≤ 6) (hPL : PLok Pl fp k pn PX PY) : Met l yX6_west wsX6_west ({ frames := 4, cells := 0, slots := 0, locals := 108 } : Room) (va_Pc [.ref h0, .int x0, .int x, .int y] (fun U => U.heap.size = sz ∧ va_P D vwCl [(h0, .inr (8, [.ref tx, .ref es, .ref i1, .ref i2, .ref wa, .ref ra, .int kp])), (es, .inr (2, [.ref ap, .ref ay, .int (nI k), .int lo])), (ap, .inl (cP, 6, .inr (.inr (.inr (.inr fp))))), (ra, .inr (5, [.long u0, .long w0]))] U.heap ∧ KW D cI cB cZ cP U ∧ va_D (fun _ => True) [(h0, .inr (8, [.ref tx, .ref es, .ref i1, .ref i2, .ref wa, .ref ra, .int kp])), (es, .inr (2, [.ref ap, .ref ay, .int (nI k), .int lo])), (ap, .inl (cP, 6, .inr (.inr (.inr (.inr fp))))), (ra, .inr (5, [.long u0, .long w0]))] ∧ EF [(h0, .inr (8, [.ref tx, .ref es, .ref i1, .ref i2, .ref wa, .ref ra, .int kp])), (es, .inr (2, [.ref ap, .ref ay, .int (nI k), .int lo])), (ap, .inl (cP, 6, .inr (.inr (.inr (.inr fp))))), (ra, .inr (5, [.long u0, .long w0]))] sz (PLA D cI cB Pl) U.heap)) (va_Ql (fun r (u : Int64 × Int64) => match u with | (u1, w1) => r = aWest k pn PX PY x0 x y) (fun (u : Int64 × Int64) (t : State) => match u with | (u1, w1) => va_P D vwCl [(h0, .inr (8, [.ref tx, .ref es, .ref i1, .ref i2, .ref wa, .ref ra, .int kp])), (es, .inr (2, [.ref ap, .ref ay, .int (nI k), .int lo])), (ap, .inl (cP, 6, .inr (.inr (.inr (.inr fp))))), (ra, .inr (5, [.long u1, .long w1]))] t.heap ∧ va_D (va_A [(h0, .inr (8, [.ref tx, .ref es, .ref i1, .ref i2, .ref wa, .ref ra, .int kp])), (es, .inr (2, [.ref ap, .ref ay, .int (nI k), .int lo])), (ap, .inl (cP, 6, .inr (.inr (.inr (.inr fp))))), (ra, .inr (5, [.long u0, .long w0]))] sz) [(h0, .inr (8, [.ref tx, .ref es, .ref i1, .ref i2, .ref wa, .ref ra, .int kp])), (es, .inr (2, [.ref ap, .ref ay, .int (nI k), .int lo])), (ap, .inl (cP, 6, .inr (.inr (.inr (.inr fp))))), (ra, .inr (5, [.long u1, .long w1]))]) (va_A [(h0, .inr (8, [.ref tx, .ref es, .ref i1, .ref i2, .ref wa, .ref ra, .int kp])), (es, .inr (2, [.ref ap, .ref ay, .int (nI k), .int lo])), (ap, .inl (cP, 6, .inr (.inr (.inr (.inr fp))))), (ra, .inr (5, [.long u0, .long w0]))] sz)) 0 0 (va_A [(h0, .inr (8, [.ref tx, .ref es, .ref i1, .ref i2, .ref wa, .ref ra, .int kp])), (es, .inr (2, [.ref ap, .ref ay, .int (nI k), .int lo])), (ap, .inl (cP, 6, .inr (.inr (.inr (.inr fp))))), (ra, .inr (5, [.long u0, .long w0]))] sz) := by
  refine Met.ofW (cc := cX6_west) (maxL := 5) (ret := (some .long)) (by decide) rfl ?_
  intro p e s m args below meth c s₁ B hml hv
  obtain ⟨rfl, hsz, hP, hW0, hD0, hE⟩ := hv
  have hx := B.exec
  have hb := B.bytes
  have hr := B.returns
  have hts := atoms_spec (ws := wsX6_west) B.pre
  have hown : s.vm.findClass RX6 = some m.cls := findClass_of_methodNamed B.named
  have hlocks := B.notSynchronized
  have hK := hW0.1
  subst hsz
  have hD := hD0.self (sz := s.heap.size)
  unfold EF at hE
  generalize hAe : va_A [(h0, .inr (8, [.ref tx, .ref es, .ref i1, .ref i2, .ref wa, .ref ra, .int kp])), (es, .inr (2, [.ref ap, .ref ay, .int (nI k), .int lo])), (ap, .inl (cP, 6, .inr (.inr (.inr (.inr fp))))), (ra, .inr (5, [.long u0, .long w0]))] s.heap.size = A at hD hE ⊢
  have hA : ∀ q : Nat, s.heap.size ≤ q → A q := fun q h => by rw [← hAe]; exact Or.inr h
  have hS : va_S A s.heap s.heap [] := va_S.rf
  have hl := lv_entry ([.ref h0, .int x0, .int x, .int y]) (n := 5) (Nat.le_of_ble_eq_true rfl)
  rw [lg_entry_eq]
  generalize (lg_sl ([.ref h0, .int x0, .int x, .int y]) ++ List.replicate (5 - (lg_sl ([.ref h0, .int x0, .int x, .int y])).length) Slot.unset).toArray = ls at hl ⊢
  have hl : lv_has ls 5 [(0, .ref h0), (1, .int x0), (2, .int x), (3, .int y)] := hl
  show W p l e ({ frames := 4, cells := 0, slots := 0, locals := 108 } : Room) s m ([.ref h0, .int x0, .int x, .int y] : List Value).toArray below meth c s.heap [] 0 0 _ (F0 m 0 ls [])
  refine u_genQ (fun Q hQ => ?_)
  by_cases hin9 : inP k x0
  · skip
    obtain ⟨j0, hj0, xe0, xi0⟩ := inP_nat hin9 (by omega)
    rw [xe0] at hl
    obtain ⟨a0, ⟨ad, nn0, G, wt0⟩, hf0, hpl0, en0, hn30, hn80, hG0, hst0, ew0, hRw0, hLt0, hpp0⟩ := hPL j0 hj0
    have en0 : nn0 = pn j0 := en0
    subst en0
    have ew0 : wt0 = wrt (pn j0) (PX j0) (PY j0) (pn j0) := ew0
    subst ew0
    have hG0 : ∀ j, j < pn j0 → G 0 j = PX j0 j ∧ G 1 j = PY j0 j := hG0
    have hEx : ∀ H1 : Heap, (∀ q : Nat, q < s.heap.size → ¬ A q → H1[q]? = s.heap[q]?) → va_P D vwCl [(a0, .inr (4, [.ref (ad 1), .ref (ad 2), .ref (ad 3), .ref (ad 4), .ref (ad 5)])), (ad 1, .inr (3, [.ref (ad 6), .ref (ad 7), .int (nI (pn j0))])), (ad 6, .inl (cI, (pn j0), .inl (G 0))), (ad 7, .inl (cI, (pn j0), .inl (G 1))), (ad 2, .inr (0, [.ref (ad 8), .int 0, .int 0, .int 0])), (ad 8, .inl (cB, ((wrt (pn j0) (PX j0) (PY j0) (pn j0)).length), .inl (G 2))), (ad 3, .inl (cI, 32, .inl (G 3))), (ad 4, .inl (cI, 32, .inl (G 4))), (ad 5, .inl (cI, 32, .inl (G 5)))] H1 := fun H1 q9 => hE H1 q9 a0 _ hpl0
    refine lv_aload_n hx hb dX6_west_0 rfl (lv_at hl 0 rfl) ?_
    refine va_get (D := D) (ci := 8) (v := .ref es) (C := RX6) (T := TX6) (N := 7) hx hb hts (by decide +kernel) hown hK hP 0 rfl rfl 1 (by decide) (hts (.fieldLink RX6 19 "LandDeeds" "estate" "LLandDeeds$Estate;") (by decide +kernel)) (fun _ h9 => h9) rfl dX6_west_1 ?_
    refine lv_iload_n hx hb dX6_west_4 rfl (lv_at hl 1 rfl) ?_
    have hPc := hP.sub (ws' := [(es, .inr (2, [.ref ap, .ref ay, .int (nI k), .int lo])), (ap, .inl (cP, 6, .inr (.inr (.inr (.inr fp)))))]) [1, 2] rfl
    refine u_callSr (W.runV (As := [.int (nI j0)]) (rest := []) ⟨hx, hb, hml, hown, hts⟩ (c_X0_plotAt l D cI cB cZ cP es ap ay k lo fp j0 a0 (hk) (hj0) (hf0)) (cwV 1 hts gX6_west_X0_plotAt rfl rfl rfl (by decide +kernel) ⟨Nat.le_of_ble_eq_true rfl, Nat.le_of_ble_eq_true rfl⟩) (pV (q0 := 0) hPc hW0 trivial rfl rfl) rfl rfl hl.1 rfl (lv_room (Nat.le_of_ble_eq_true rfl)) dX6_west_5 ⟨Nat.le_of_ble_eq_true rfl, Nat.le_of_ble_eq_true rfl⟩) ?_
    refine lv_astore (lv' := [(4, .ref a0), (0, .ref h0), (1, .int (nI j0)), (2, .int x), (3, .int y)]) hx hb dX6_west_8 hl (by decide) rfl (fun ls hl => ?_)
    refine lv_aload hx hb dX6_west_10 (lv_at hl 0 rfl) ?_
    refine lv_ifnonnull (tgt := 19) hx hb dX6_west_12 (by decide) ?_
    refine lv_iload_n hx hb dX6_west_19 rfl (lv_at hl 3 rfl) ?_
    have hPc := hP.sub (ws' := []) [] rfl
    refine u_callSi (W.runS (As := [.int x]) (rest := []) ⟨hx, hb, hml, hown, hts⟩ (c_X6_isPlace l D cI cB cZ cP x ) (cwS 1 hts gX6_west_X6_isPlace rfl rfl rfl (by decide +kernel) ⟨Nat.le_of_ble_eq_true rfl, Nat.le_of_ble_eq_true rfl⟩) (pS hPc hW0 trivial) rfl rfl hl.1 rfl (lv_room (Nat.le_of_ble_eq_true rfl)) dX6_west_20 ⟨Nat.le_of_ble_eq_true rfl, Nat.le_of_ble_eq_true rfl⟩) ?_
    refine lv_if_eq (tgt := 35) hx hb dX6_west_23 (by decide) (fun c_1 => ?_) (fun c_1 => ?_)
    · skip
      have nc_1 := zb_eq0.mp c_1
      have nc9 := nc_1
      refine lv_ldc2 (v := (-2)) hx hb hown (hts (.constantLong RX6 186 (-2)) (by decide +kernel)) dX6_west_35 ?_
      rw [← hQ]
      have hP9 := hP
      have hD9 := hD
      exact W.lret (v := (-2)) hx hb hr (fun t ht hW => ⟨⟨_, (u0, w0), rfl, ((cif_t hin9).trans (cif_f (fun q9 => nc9 q9.1))).symm, by rw [ht]; exact hP9, hD9⟩, hS.F ht⟩) hS.2.2 dX6_west_38
    · skip
      have nc_1 := zb_ne0.mp c_1
      have hx31 : b31 x := nc_1
      refine lv_iload_n hx hb dX6_west_26 rfl (lv_at hl 4 rfl) ?_
      refine lv_if_lt (tgt := 35) hx hb dX6_west_27 (by decide) (fun c_2 => ?_) (fun c_2 => ?_)
      · skip
        refine lv_ldc2 (v := (-2)) hx hb hown (hts (.constantLong RX6 186 (-2)) (by decide +kernel)) dX6_west_35 ?_
        rw [← hQ]
        have hP9 := hP
        have hD9 := hD
        exact W.lret (v := (-2)) hx hb hr (fun t ht hW => ⟨⟨_, (u0, w0), rfl, ((cif_t hin9).trans (cif_f (fun q9 => by have q1 := q9.1; have q2 := q9.2; first | exact nc9 q1 | (simp only [Int32.lt_iff_toInt_lt, Int32.le_iff_toInt_le, li_0, li_1] at c_2; omega)))).symm, by rw [ht]; exact hP9, hD9⟩, hS.F ht⟩) hS.2.2 dX6_west_38
      · skip
        refine lv_iload_n hx hb dX6_west_30 rfl (lv_at hl 4 rfl) ?_
        refine lv_iconst (v := 1) hx hb dX6_west_31 (by decide) ?_
        refine lv_icmp_le (tgt := 39) hx hb dX6_west_32 (by decide) (fun c_3 => ?_) (fun c_3 => ?_)
        · skip
          refine lv_aload hx hb dX6_west_39 (lv_at hl 0 rfl) ?_
          refine va_get (D := D) (ci := 4) (v := .ref (ad 1)) (C := RX2) (T := TX2) (N := 5) hx hb hts (by decide +kernel) hown hK (hEx _ hS.2.1) 0 rfl rfl 0 (by decide) (hts (.fieldLink RX6 135 "LandDeeds$Plot" "outline" "LLandDeeds$Outline;") (by decide +kernel)) (fun _ h9 => h9) rfl dX6_west_41 ?_
          refine lv_iload_n hx hb dX6_west_44 rfl (lv_at hl 3 rfl) ?_
          refine lv_aload_n hx hb dX6_west_45 rfl (lv_at hl 1 rfl) ?_
          refine va_get (D := D) (ci := 8) (v := .ref ra) (C := RX6) (T := TX6) (N := 7) hx hb hts (by decide +kernel) hown hK hP 0 rfl rfl 5 (by decide) (hts (.fieldLink RX6 39 "LandDeeds" "area" "LLandDeeds$Ratio;") (by decide +kernel)) (fun _ h9 => h9) rfl dX6_west_46 ?_
          have hPc := hP.sub (ws' := [(ra, .inr (5, [.long u0, .long w0]))]) [3] rfl
          have hDc := hD.sub (ws' := [(ra, .inr (5, [.long u0, .long w0]))]) [3] (by decide) rfl
          have hFc := va_free (wc := [(ra, .inr (5, [.long u0, .long w0]))]) hD hS hA [3] rfl
          refine va_callv (va_runV (As := [.int x, .ref ra]) (rest := []) ⟨hx, hb, hml, hown, hts⟩ (c_X1_measureWest_x l D cI cB cZ cP s.heap.size (ad 1) (ad 6) (ad 7) (pn j0) (G 0) (G 1) ra x u0 w0 (hn80) (fun z hz => by rw [(hG0 z hz).1, (hG0 z hz).2]; exact (hst0.1 z hz).1) (hx31)) (cwV 2 hts gX6_west_X1_measureWest rfl rfl rfl (by decide +kernel) ⟨Nat.le_of_ble_eq_true rfl, Nat.le_of_ble_eq_true rfl⟩) (pVQX (q0 := 1) hPc hDc hW0 (EF.sub (fun H1 q9 => (hEx H1 q9).sub [1, 2, 3] rfl) hS.1 hS.2.1 hFc) (hEx _ hS.2.1) rfl rfl) rfl rfl hl.1 rfl (lv_room (Nat.le_of_ble_eq_true rfl)) dX6_west_49 ⟨Nat.le_of_ble_eq_true rfl, Nat.le_of_ble_eq_true rfl⟩) hS (fun q _ h => hFc q h) hFc (fun u t H1 locs ht hvm hw hB hz1 hk1 hS => ?_)
          obtain ⟨hP1, hD1⟩ := hB
          rw [ht] at hP1
          have hw_4 : True := hw
          obtain ⟨hP, hD⟩ := va_join (wr := [(h0, .inr (8, [.ref tx, .ref es, .ref i1, .ref i2, .ref wa, .ref ra, .int kp])), (es, .inr (2, [.ref ap, .ref ay, .int (nI k), .int lo])), (ap, .inl (cP, 6, .inr (.inr (.inr (.inr fp)))))]) (w1 := [(ra, .inr (5, [.long (lN (rsum (cT (pn j0) (G 0) (G 1) x) (pn j0)).num.natAbs), .long (lN (rsum (cT (pn j0) (G 0) (G 1) x) (pn j0)).den)]))]) hP hD [3] [0, 1, 2] rfl rfl (by decide) (by decide) hk1 hFc hP1 hD1
          generalize H1 = H at hP hS ⊢
          have hP := hP.sub (ws' := [(h0, .inr (8, [.ref tx, .ref es, .ref i1, .ref i2, .ref wa, .ref ra, .int kp])), (es, .inr (2, [.ref ap, .ref ay, .int (nI k), .int lo])), (ap, .inl (cP, 6, .inr (.inr (.inr (.inr fp))))), (ra, .inr (5, [.long (lN (rsum (cT (pn j0) (G 0) (G 1) x) (pn j0)).num.natAbs), .long (lN (rsum (cT (pn j0) (G 0) (G 1) x) (pn j0)).den)]))]) [0, 1, 2, 3] rfl
          have hD := hD.sub (ws' := [(h0, .inr (8, [.ref tx, .ref es, .ref i1, .ref i2, .ref wa, .ref ra, .int kp])), (es, .inr (2, [.ref ap, .ref ay, .int (nI k), .int lo])), (ap, .inl (cP, 6, .inr (.inr (.inr (.inr fp))))), (ra, .inr (5, [.long (lN (rsum (cT (pn j0) (G 0) (G 1) x) (pn j0)).num.natAbs), .long (lN (rsum (cT (pn j0) (G 0) (G 1) x) (pn j0)).den)]))]) [0, 1, 2, 3] (by decide) rfl
          refine lv_iload_n hx hb dX6_west_52 rfl (lv_at hl 4 rfl) ?_
          refine lv_if_ne (tgt := 66) hx hb dX6_west_53 (by decide) (fun c_5 => ?_) (fun c_5 => ?_)
          · skip
            refine lv_aload_n hx hb dX6_west_66 rfl (lv_at hl 1 rfl) ?_
            refine va_get (D := D) (ci := 8) (v := .ref ra) (C := RX6) (T := TX6) (N := 7) hx hb hts (by decide +kernel) hown hK hP 0 rfl rfl 5 (by decide) (hts (.fieldLink RX6 39 "LandDeeds" "area" "LLandDeeds$Ratio;") (by decide +kernel)) (fun _ h9 => h9) rfl dX6_west_67 ?_
            refine va_get (D := D) (ci := 5) (v := .long (lN (rsum (cT (pn j0) (G 0) (G 1) x) (pn j0)).den)) (C := RX3) (T := TX3) (N := 2) hx hb hts (by decide +kernel) hown hK hP 3 rfl rfl 1 (by decide) (hts (.fieldLink RX6 196 "LandDeeds$Ratio" "lower" "J") (by decide +kernel)) (fun _ h9 => h9) rfl dX6_west_70 ?_
            rw [← hQ]
            have hP9 := hP
            have hD9 := hD
            exact W.lret (v := lN (rsum (cT (pn j0) (G 0) (G 1) x) (pn j0)).den) hx hb hr (fun t ht hW => ⟨⟨_, (lN (rsum (cT (pn j0) (G 0) (G 1) x) (pn j0)).num.natAbs, lN (rsum (cT (pn j0) (G 0) (G 1) x) (pn j0)).den), rfl, (west_cls hG0 hn30 hn80 hst0 hx31).2.trans ((aWest_t hin9 xi0 ⟨hx31, by simp only [Int32.lt_iff_toInt_lt, Int32.le_iff_toInt_le, li_0, li_1] at c_2 c_3; omega⟩).2 c_5), by rw [ht]; exact hP9, hD9⟩, hS.F ht⟩) hS.2.2 dX6_west_73
          · skip
            refine lv_aload_n hx hb dX6_west_56 rfl (lv_at hl 1 rfl) ?_
            refine va_get (D := D) (ci := 8) (v := .ref ra) (C := RX6) (T := TX6) (N := 7) hx hb hts (by decide +kernel) hown hK hP 0 rfl rfl 5 (by decide) (hts (.fieldLink RX6 39 "LandDeeds" "area" "LLandDeeds$Ratio;") (by decide +kernel)) (fun _ h9 => h9) rfl dX6_west_57 ?_
            refine va_get (D := D) (ci := 5) (v := .long (lN (rsum (cT (pn j0) (G 0) (G 1) x) (pn j0)).num.natAbs)) (C := RX3) (T := TX3) (N := 2) hx hb hts (by decide +kernel) hown hK hP 3 rfl rfl 0 (by decide) (hts (.fieldLink RX6 192 "LandDeeds$Ratio" "upper" "J") (by decide +kernel)) (fun _ h9 => h9) rfl dX6_west_60 ?_
            refine lv_goto (tgt := 73) hx hb dX6_west_63 (by decide) ?_
            rw [← hQ]
            have hP9 := hP
            have hD9 := hD
            exact W.lret (v := lN (rsum (cT (pn j0) (G 0) (G 1) x) (pn j0)).num.natAbs) hx hb hr (fun t ht hW => ⟨⟨_, (lN (rsum (cT (pn j0) (G 0) (G 1) x) (pn j0)).num.natAbs, lN (rsum (cT (pn j0) (G 0) (G 1) x) (pn j0)).den), rfl, (west_cls hG0 hn30 hn80 hst0 hx31).1.trans ((aWest_t hin9 xi0 ⟨hx31, by simp only [Int32.lt_iff_toInt_lt, Int32.le_iff_toInt_le, li_0, li_1] at c_2 c_3; omega⟩).1 c_5), by rw [ht]; exact hP9, hD9⟩, hS.F ht⟩) hS.2.2 dX6_west_73
        · skip
          refine lv_ldc2 (v := (-2)) hx hb hown (hts (.constantLong RX6 186 (-2)) (by decide +kernel)) dX6_west_35 ?_
          rw [← hQ]
          have hP9 := hP
          have hD9 := hD
          exact W.lret (v := (-2)) hx hb hr (fun t ht hW => ⟨⟨_, (u0, w0), rfl, ((cif_t hin9).trans (cif_f (fun q9 => by have q1 := q9.1; have q2 := q9.2; first | exact nc9 q1 | (simp only [Int32.lt_iff_toInt_lt, Int32.le_iff_toInt_le, li_0, li_1] at c_2 c_3; omega)))).symm, by rw [ht]; exact hP9, hD9⟩, hS.F ht⟩) hS.2.2 dX6_west_38
  · skip
    refine lv_aload_n hx hb dX6_west_0 rfl (lv_at hl 0 rfl) ?_
    refine va_get (D := D) (ci := 8) (v := .ref es) (C := RX6) (T := TX6) (N := 7) hx hb hts (by decide +kernel) hown hK hP 0 rfl rfl 1 (by decide) (hts (.fieldLink RX6 19 "LandDeeds" "estate" "LLandDeeds$Estate;") (by decide +kernel)) (fun _ h9 => h9) rfl dX6_west_1 ?_
    refine lv_iload_n hx hb dX6_west_4 rfl (lv_at hl 1 rfl) ?_
    have hPc := hP.sub (ws' := [(es, .inr (2, [.ref ap, .ref ay, .int (nI k), .int lo])), (ap, .inl (cP, 6, .inr (.inr (.inr (.inr fp)))))]) [1, 2] rfl
    refine u_callSn (W.runV (As := [.int x0]) (rest := []) ⟨hx, hb, hml, hown, hts⟩ (c_X0_plotAt_no l D cI cB cZ cP es ap ay k lo fp x0 (hk) (hin9)) (cwV 1 hts gX6_west_X0_plotAt rfl rfl rfl (by decide +kernel) ⟨Nat.le_of_ble_eq_true rfl, Nat.le_of_ble_eq_true rfl⟩) (pV (q0 := 0) hPc hW0 trivial rfl rfl) rfl rfl hl.1 rfl (lv_room (Nat.le_of_ble_eq_true rfl)) dX6_west_5 ⟨Nat.le_of_ble_eq_true rfl, Nat.le_of_ble_eq_true rfl⟩) ?_
    refine lv_astoreN (lv' := [(4, .null), (0, .ref h0), (1, .int x0), (2, .int x), (3, .int y)]) hx hb dX6_west_8 hl (by decide) rfl (fun ls hl => ?_)
    refine lv_aloadN hx hb dX6_west_10 (lv_at hl 0 rfl) ?_
    refine lv_ifnonnullN hx hb dX6_west_12 ?_
    refine lv_ldc2 (v := (-1)) hx hb hown (hts (.constantLong RX6 181 (-1)) (by decide +kernel)) dX6_west_15 ?_
    rw [← hQ]
    have hP9 := hP
    have hD9 := hD
    exact W.lret (v := (-1)) hx hb hr (fun t ht hW => ⟨⟨_, (u0, w0), rfl, (cif_f hin9).symm, by rw [ht]; exact hP9, hD9⟩, hS.F ht⟩) hS.2.2 dX6_west_18

set_option maxHeartbeats 4000000 in
set_option maxRecDepth 100000 in
theorem c_X6_line (l : Launch) (D : va_G) (cI cB cZ cP : ClassId) (sz : Nat) (h0 tx es i1 i2 wa ra : Nat) (kp : Int32) (ap ay k : Nat) (lo : Int32) (fp : Nat → Option Nat) (Pl : Nat → Option PD) (pn : PN) (PX PY : PF) (u0 w0 : Int64) (x0 y : Int32) (hk : k ≤ 6) (hPL : PLok Pl fp k pn PX PY) : Met l yX6_line wsX6_line ({ frames := 4, cells := 0, slots := 0, locals := 108 } : Room) (va_Pc [.ref h0, .int x0, .int y] (fun U => U.heap.size = sz ∧ va_P D vwCl [(h0, .inr (8, [.ref tx, .ref es, .ref i1, .ref i2, .ref wa, .ref ra, .int kp])), (es, .inr (2, [.ref ap, .ref ay, .int (nI k), .int lo])), (ap, .inl (cP, 6, .inr (.inr (.inr (.inr fp))))), (ra, .inr (5, [.long u0, .long w0]))] U.heap ∧ KW D cI cB cZ cP U ∧ va_D (fun _ => True) [(h0, .inr (8, [.ref tx, .ref es, .ref i1, .ref i2, .ref wa, .ref ra, .int kp])), (es, .inr (2, [.ref ap, .ref ay, .int (nI k), .int lo])), (ap, .inl (cP, 6, .inr (.inr (.inr (.inr fp))))), (ra, .inr (5, [.long u0, .long w0]))] ∧ EF [(h0, .inr (8, [.ref tx, .ref es, .ref i1, .ref i2, .ref wa, .ref ra, .int kp])), (es, .inr (2, [.ref ap, .ref ay, .int (nI k), .int lo])), (ap, .inl (cP, 6, .inr (.inr (.inr (.inr fp))))), (ra, .inr (5, [.long u0, .long w0]))] sz (PLA D cI cB Pl) U.heap)) (va_Qi (fun r (u : Int64 × Int64) => match u with | (u1, w1) => r = aLine k pn PX PY x0 y) (fun (u : Int64 × Int64) (t : State) => match u with | (u1, w1) => va_P D vwCl [(h0, .inr (8, [.ref tx, .ref es, .ref i1, .ref i2, .ref wa, .ref ra, .int kp])), (es, .inr (2, [.ref ap, .ref ay, .int (nI k), .int lo])), (ap, .inl (cP, 6, .inr (.inr (.inr (.inr fp))))), (ra, .inr (5, [.long u1, .long w1]))] t.heap ∧ va_D (va_A [(h0, .inr (8, [.ref tx, .ref es, .ref i1, .ref i2, .ref wa, .ref ra, .int kp])), (es, .inr (2, [.ref ap, .ref ay, .int (nI k), .int lo])), (ap, .inl (cP, 6, .inr (.inr (.inr (.inr fp))))), (ra, .inr (5, [.long u0, .long w0]))] sz) [(h0, .inr (8, [.ref tx, .ref es, .ref i1, .ref i2, .ref wa, .ref ra, .int kp])), (es, .inr (2, [.ref ap, .ref ay, .int (nI k), .int lo])), (ap, .inl (cP, 6, .inr (.inr (.inr (.inr fp))))), (ra, .inr (5, [.long u1, .long w1]))]) (va_A [(h0, .inr (8, [.ref tx, .ref es, .ref i1, .ref i2, .ref wa, .ref ra, .int kp])), (es, .inr (2, [.ref ap, .ref ay, .int (nI k), .int lo])), (ap, .inl (cP, 6, .inr (.inr (.inr (.inr fp))))), (ra, .inr (5, [.long u0, .long w0]))] sz)) 0 0 (va_A [(h0, .inr (8, [.ref tx, .ref es, .ref i1, .ref i2, .ref wa, .ref ra, .int kp])), (es, .inr (2, [.ref ap, .ref ay, .int (nI k), .int lo])), (ap, .inl (cP, 6, .inr (.inr (.inr (.inr fp))))), (ra, .inr (5, [.long u0, .long w0]))] sz) := by
  refine Met.ofW (cc := cX6_line) (maxL := 5) (ret := (some .int)) (by decide) rfl ?_
  intro p e s m args below meth c s₁ B hml hv
  obtain ⟨rfl, hsz, hP, hW0, hD0, hE⟩ := hv
  have hx := B.exec
  have hb := B.bytes
  have hr := B.returns
  have hts := atoms_spec (ws := wsX6_line) B.pre
  have hown : s.vm.findClass RX6 = some m.cls := findClass_of_methodNamed B.named
  have hlocks := B.notSynchronized
  have hK := hW0.1
  subst hsz
  have hD := hD0.self (sz := s.heap.size)
  unfold EF at hE
  generalize hAe : va_A [(h0, .inr (8, [.ref tx, .ref es, .ref i1, .ref i2, .ref wa, .ref ra, .int kp])), (es, .inr (2, [.ref ap, .ref ay, .int (nI k), .int lo])), (ap, .inl (cP, 6, .inr (.inr (.inr (.inr fp))))), (ra, .inr (5, [.long u0, .long w0]))] s.heap.size = A at hD hE ⊢
  have hA : ∀ q : Nat, s.heap.size ≤ q → A q := fun q h => by rw [← hAe]; exact Or.inr h
  have hS : va_S A s.heap s.heap [] := va_S.rf
  have hl := lv_entry ([.ref h0, .int x0, .int y]) (n := 5) (Nat.le_of_ble_eq_true rfl)
  rw [lg_entry_eq]
  generalize (lg_sl ([.ref h0, .int x0, .int y]) ++ List.replicate (5 - (lg_sl ([.ref h0, .int x0, .int y])).length) Slot.unset).toArray = ls at hl ⊢
  have hl : lv_has ls 5 [(0, .ref h0), (1, .int x0), (2, .int y)] := hl
  show W p l e ({ frames := 4, cells := 0, slots := 0, locals := 108 } : Room) s m ([.ref h0, .int x0, .int y] : List Value).toArray below meth c s.heap [] 0 0 _ (F0 m 0 ls [])
  refine u_genQ (fun Q hQ => ?_)
  by_cases hin9 : inP k x0
  · skip
    obtain ⟨j0, hj0, xe0, xi0⟩ := inP_nat hin9 (by omega)
    rw [xe0] at hl
    obtain ⟨a0, ⟨ad, nn0, G, wt0⟩, hf0, hpl0, en0, hn30, hn80, hG0, hst0, ew0, hRw0, hLt0, hpp0⟩ := hPL j0 hj0
    have en0 : nn0 = pn j0 := en0
    subst en0
    have ew0 : wt0 = wrt (pn j0) (PX j0) (PY j0) (pn j0) := ew0
    subst ew0
    have hG0 : ∀ j, j < pn j0 → G 0 j = PX j0 j ∧ G 1 j = PY j0 j := hG0
    have hEx : ∀ H1 : Heap, (∀ q : Nat, q < s.heap.size → ¬ A q → H1[q]? = s.heap[q]?) → va_P D vwCl [(a0, .inr (4, [.ref (ad 1), .ref (ad 2), .ref (ad 3), .ref (ad 4), .ref (ad 5)])), (ad 1, .inr (3, [.ref (ad 6), .ref (ad 7), .int (nI (pn j0))])), (ad 6, .inl (cI, (pn j0), .inl (G 0))), (ad 7, .inl (cI, (pn j0), .inl (G 1))), (ad 2, .inr (0, [.ref (ad 8), .int 0, .int 0, .int 0])), (ad 8, .inl (cB, ((wrt (pn j0) (PX j0) (PY j0) (pn j0)).length), .inl (G 2))), (ad 3, .inl (cI, 32, .inl (G 3))), (ad 4, .inl (cI, 32, .inl (G 4))), (ad 5, .inl (cI, 32, .inl (G 5)))] H1 := fun H1 q9 => hE H1 q9 a0 _ hpl0
    refine lv_aload_n hx hb dX6_line_0 rfl (lv_at hl 0 rfl) ?_
    refine va_get (D := D) (ci := 8) (v := .ref es) (C := RX6) (T := TX6) (N := 7) hx hb hts (by decide +kernel) hown hK hP 0 rfl rfl 1 (by decide) (hts (.fieldLink RX6 19 "LandDeeds" "estate" "LLandDeeds$Estate;") (by decide +kernel)) (fun _ h9 => h9) rfl dX6_line_1 ?_
    refine lv_iload_n hx hb dX6_line_4 rfl (lv_at hl 1 rfl) ?_
    have hPc := hP.sub (ws' := [(es, .inr (2, [.ref ap, .ref ay, .int (nI k), .int lo])), (ap, .inl (cP, 6, .inr (.inr (.inr (.inr fp)))))]) [1, 2] rfl
    refine u_callSr (W.runV (As := [.int (nI j0)]) (rest := []) ⟨hx, hb, hml, hown, hts⟩ (c_X0_plotAt l D cI cB cZ cP es ap ay k lo fp j0 a0 (hk) (hj0) (hf0)) (cwV 1 hts gX6_line_X0_plotAt rfl rfl rfl (by decide +kernel) ⟨Nat.le_of_ble_eq_true rfl, Nat.le_of_ble_eq_true rfl⟩) (pV (q0 := 0) hPc hW0 trivial rfl rfl) rfl rfl hl.1 rfl (lv_room (Nat.le_of_ble_eq_true rfl)) dX6_line_5 ⟨Nat.le_of_ble_eq_true rfl, Nat.le_of_ble_eq_true rfl⟩) ?_
    refine lv_astore_n (lv' := [(3, .ref a0), (0, .ref h0), (1, .int (nI j0)), (2, .int y)]) hx hb dX6_line_8 rfl hl (by decide) rfl (fun ls hl => ?_)
    refine lv_aload_n hx hb dX6_line_9 rfl (lv_at hl 0 rfl) ?_
    refine lv_ifnonnull (tgt := 15) hx hb dX6_line_10 (by decide) ?_
    refine lv_iload_n hx hb dX6_line_15 rfl (lv_at hl 3 rfl) ?_
    refine lv_iconst (v := 1) hx hb dX6_line_16 (by decide) ?_
    refine lv_icmp_lt (tgt := 27) hx hb dX6_line_17 (by decide) (fun c_1 => ?_) (fun c_1 => ?_)
    · skip
      refine lv_bipush (v := (-2)) hx hb dX6_line_27 (by decide) ?_
      rw [← hQ]
      have hP9 := hP
      have hD9 := hD
      exact W.iret (v := (-2)) hx hb hr (fun t ht hW => ⟨⟨_, (u0, w0), rfl, ((cif_t hin9).trans (cif_f (by simp only [Int32.lt_iff_toInt_lt, Int32.le_iff_toInt_le, ← Int32.toInt_inj, li_0, li_1, li_2, li_3, li_4, li_5, li_6, li_7, li_8, li_9, li_10, li_12, li_20, li_31, li_32, li_33, li_47, li_48, li_49, li_57, li_59, li_60, li_101, li_108, li_109, li_110, li_115, li_119, li_126, li_999, li_1000, li_1023, li_1024, li_2000, li_m1, li_m6] at c_1 ⊢; omega))).symm, by rw [ht]; exact hP9, hD9⟩, hS.F ht⟩) hS.2.2 dX6_line_29
    · skip
      refine lv_iload_n hx hb dX6_line_20 rfl (lv_at hl 3 rfl) ?_
      refine lv_sipush (v := 2000) hx hb dX6_line_21 (by decide) ?_
      refine lv_icmp_le (tgt := 30) hx hb dX6_line_24 (by decide) (fun c_2 => ?_) (fun c_2 => ?_)
      · skip
        refine lv_iconst (v := 0) hx hb dX6_line_30 (by decide) ?_
        refine lv_istore (lv' := [(4, .int 0), (3, .ref a0), (0, .ref h0), (1, .int (nI j0)), (2, .int y)]) hx hb dX6_line_31 hl (by decide) rfl (fun ls hl => ?_)
        have LOOP_33 : ∀ (fu : Nat) (z : Nat) (u1 : Int64) (w1 : Int64) (hz : z ≤ 32) (hL : aLine k pn PX PY x0 y = lst (enough (pn j0) (PX j0) (PY j0) y) z (32 - z)) (hn : 32 - z < fu) (H : Heap) (locs : List Loc) (hP : va_P D vwCl [(h0, .inr (8, [.ref tx, .ref es, .ref i1, .ref i2, .ref wa, .ref ra, .int kp])), (es, .inr (2, [.ref ap, .ref ay, .int (nI k), .int lo])), (ap, .inl (cP, 6, .inr (.inr (.inr (.inr fp))))), (ra, .inr (5, [.long u1, .long w1]))] H) (hD : va_D A [(h0, .inr (8, [.ref tx, .ref es, .ref i1, .ref i2, .ref wa, .ref ra, .int kp])), (es, .inr (2, [.ref ap, .ref ay, .int (nI k), .int lo])), (ap, .inl (cP, 6, .inr (.inr (.inr (.inr fp))))), (ra, .inr (5, [.long u1, .long w1]))]) (hS : va_S A s.heap H locs) (ls : Array Slot) (hl : lv_has ls 5 [(0, .ref h0), (2, .int y), (3, .ref a0), (4, .int (nI z))]), W p l e ({ frames := 4, cells := 0, slots := 0, locals := 108 } : Room) s m ([.ref h0, .int x0, .int y] : List Value).toArray below meth c H locs 0 0 Q (F0 m 33 ls []) := by
          intro fu
          induction fu with
          | zero => intro z u1 w1 hz hL hn H locs hP hD hS ls hl; exact absurd hn (Nat.not_lt_zero _)
          | succ fu ih_33 =>
            intro z u1 w1 hz hL hn H locs hP hD hS ls hl
            refine lv_iload hx hb dX6_line_33 (lv_at hl 3 rfl) ?_
            refine lv_bipush (v := 32) hx hb dX6_line_35 (by decide) ?_
            refine lv_icmp_ge (tgt := 83) hx hb dX6_line_37 (by decide) (fun c_3 => ?_) (fun c_3 => ?_)
            · skip
              have nc_3 : 32 ≤ z := (nI_leI (a := 32) (b := z) (by omega) (by omega)).mp c_3
              refine lv_bipush (v := (-6)) hx hb dX6_line_83 (by decide) ?_
              rw [← hQ]
              have hP9 := hP
              have hD9 := hD
              exact W.iret (v := (-6)) hx hb hr (fun t ht hW => ⟨⟨_, (u1, w1), rfl, by rw [hL, show z = 32 by omega]; rfl, by rw [ht]; exact hP9, hD9⟩, hS.F ht⟩) hS.2.2 dX6_line_85
            · skip
              have nc_3 : ¬ (32 ≤ z) := fun h => c_3 ((nI_leI (a := 32) (b := z) (by omega) (by omega)).mpr h)
              have hz8 : z < 32 := by omega
              have hb31 : b31 (nI z) := by unfold b31; rw [nI_toInt (by omega)]; omega
              refine lv_aload_n hx hb dX6_line_40 rfl (lv_at hl 2 rfl) ?_
              refine va_get (D := D) (ci := 4) (v := .ref (ad 1)) (C := RX2) (T := TX2) (N := 5) hx hb hts (by decide +kernel) hown hK (hEx _ hS.2.1) 0 rfl rfl 0 (by decide) (hts (.fieldLink RX6 135 "LandDeeds$Plot" "outline" "LLandDeeds$Outline;") (by decide +kernel)) (fun _ h9 => h9) rfl dX6_line_41 ?_
              refine lv_iload hx hb dX6_line_44 (lv_at hl 3 rfl) ?_
              refine lv_aload_n hx hb dX6_line_46 rfl (lv_at hl 0 rfl) ?_
              refine va_get (D := D) (ci := 8) (v := .ref ra) (C := RX6) (T := TX6) (N := 7) hx hb hts (by decide +kernel) hown hK hP 0 rfl rfl 5 (by decide) (hts (.fieldLink RX6 39 "LandDeeds" "area" "LLandDeeds$Ratio;") (by decide +kernel)) (fun _ h9 => h9) rfl dX6_line_47 ?_
              have hPc := hP.sub (ws' := [(ra, .inr (5, [.long u1, .long w1]))]) [3] rfl
              have hDc := hD.sub (ws' := [(ra, .inr (5, [.long u1, .long w1]))]) [3] (by decide) rfl
              have hFc := va_free (wc := [(ra, .inr (5, [.long u1, .long w1]))]) hD hS hA [3] rfl
              refine va_callv (va_runV (As := [.int (nI z), .ref ra]) (rest := []) ⟨hx, hb, hml, hown, hts⟩ (c_X1_measureWest_x l D cI cB cZ cP H.size (ad 1) (ad 6) (ad 7) (pn j0) (G 0) (G 1) ra (nI z) u1 w1 (hn80) (fun z hz => by rw [(hG0 z hz).1, (hG0 z hz).2]; exact (hst0.1 z hz).1) (hb31)) (cwV 2 hts gX6_line_X1_measureWest rfl rfl rfl (by decide +kernel) ⟨Nat.le_of_ble_eq_true rfl, Nat.le_of_ble_eq_true rfl⟩) (pVQX (q0 := 1) hPc hDc hW0 (EF.sub (fun H1 q9 => (hEx H1 q9).sub [1, 2, 3] rfl) hS.1 hS.2.1 hFc) (hEx _ hS.2.1) rfl rfl) rfl rfl hl.1 rfl (lv_room (Nat.le_of_ble_eq_true rfl)) dX6_line_50 ⟨Nat.le_of_ble_eq_true rfl, Nat.le_of_ble_eq_true rfl⟩) hS (fun q _ h => hFc q h) hFc (fun u t H1 locs ht hvm hw hB hz1 hk1 hS => ?_)
              obtain ⟨hP1, hD1⟩ := hB
              rw [ht] at hP1
              have hw_4 : True := hw
              obtain ⟨hP, hD⟩ := va_join (wr := [(h0, .inr (8, [.ref tx, .ref es, .ref i1, .ref i2, .ref wa, .ref ra, .int kp])), (es, .inr (2, [.ref ap, .ref ay, .int (nI k), .int lo])), (ap, .inl (cP, 6, .inr (.inr (.inr (.inr fp)))))]) (w1 := [(ra, .inr (5, [.long (lN (rsum (cT (pn j0) (G 0) (G 1) (nI z)) (pn j0)).num.natAbs), .long (lN (rsum (cT (pn j0) (G 0) (G 1) (nI z)) (pn j0)).den)]))]) hP hD [3] [0, 1, 2] rfl rfl (by decide) (by decide) hk1 hFc hP1 hD1
              generalize H1 = H at hP hS ⊢
              have hP := hP.sub (ws' := [(h0, .inr (8, [.ref tx, .ref es, .ref i1, .ref i2, .ref wa, .ref ra, .int kp])), (es, .inr (2, [.ref ap, .ref ay, .int (nI k), .int lo])), (ap, .inl (cP, 6, .inr (.inr (.inr (.inr fp))))), (ra, .inr (5, [.long (lN (rsum (cT (pn j0) (G 0) (G 1) (nI z)) (pn j0)).num.natAbs), .long (lN (rsum (cT (pn j0) (G 0) (G 1) (nI z)) (pn j0)).den)]))]) [0, 1, 2, 3] rfl
              have hD := hD.sub (ws' := [(h0, .inr (8, [.ref tx, .ref es, .ref i1, .ref i2, .ref wa, .ref ra, .int kp])), (es, .inr (2, [.ref ap, .ref ay, .int (nI k), .int lo])), (ap, .inl (cP, 6, .inr (.inr (.inr (.inr fp))))), (ra, .inr (5, [.long (lN (rsum (cT (pn j0) (G 0) (G 1) (nI z)) (pn j0)).num.natAbs), .long (lN (rsum (cT (pn j0) (G 0) (G 1) (nI z)) (pn j0)).den)]))]) [0, 1, 2, 3] (by decide) rfl
              have hwc9 := west_cls hG0 hn30 hn80 hst0 hb31
              rw [hwc9.1, hwc9.2] at hP hD
              refine lv_aload_n hx hb dX6_line_53 rfl (lv_at hl 0 rfl) ?_
              refine va_get (D := D) (ci := 8) (v := .ref ra) (C := RX6) (T := TX6) (N := 7) hx hb hts (by decide +kernel) hown hK hP 0 rfl rfl 5 (by decide) (hts (.fieldLink RX6 39 "LandDeeds" "area" "LLandDeeds$Ratio;") (by decide +kernel)) (fun _ h9 => h9) rfl dX6_line_54 ?_
              refine va_get (D := D) (ci := 5) (v := .long (lI (wQ (pn j0) (PX j0) (PY j0) (nI z)).num)) (C := RX3) (T := TX3) (N := 2) hx hb hts (by decide +kernel) hown hK hP 3 rfl rfl 0 (by decide) (hts (.fieldLink RX6 192 "LandDeeds$Ratio" "upper" "J") (by decide +kernel)) (fun _ h9 => h9) rfl dX6_line_57 ?_
              refine lv_iload_n hx hb dX6_line_60 rfl (lv_at hl 1 rfl) ?_
              refine lv_i2l hx hb dX6_line_61 rfl ?_
              refine lv_aload_n hx hb dX6_line_62 rfl (lv_at hl 0 rfl) ?_
              refine va_get (D := D) (ci := 8) (v := .ref ra) (C := RX6) (T := TX6) (N := 7) hx hb hts (by decide +kernel) hown hK hP 0 rfl rfl 5 (by decide) (hts (.fieldLink RX6 39 "LandDeeds" "area" "LLandDeeds$Ratio;") (by decide +kernel)) (fun _ h9 => h9) rfl dX6_line_63 ?_
              refine va_get (D := D) (ci := 5) (v := .long (lN (wQ (pn j0) (PX j0) (PY j0) (nI z)).den)) (C := RX3) (T := TX3) (N := 2) hx hb hts (by decide +kernel) hown hK hP 3 rfl rfl 1 (by decide) (hts (.fieldLink RX6 196 "LandDeeds$Ratio" "lower" "J") (by decide +kernel)) (fun _ h9 => h9) rfl dX6_line_66 ?_
              refine lv_lmul hx hb dX6_line_69 ?_
              refine W.lcmp hx hb dX6_line_70 ?_
              refine lv_if_lt (tgt := 77) hx hb dX6_line_71 (by decide) (fun c_5 => ?_) (fun c_5 => ?_)
              · skip
                have nc_5 := (lg_cmp_lt _ _).mp c_5
                refine lv_iinc (v := nI (z + 1)) (lv' := [(4, .int (nI (z + 1))), (0, .ref h0), (2, .int y), (3, .ref a0)]) hx hb dX6_line_77 hl (k := 3) rfl (nI_1 _) (by decide) rfl (fun ls hl => ?_)
                refine lv_goto (tgt := 33) hx hb dX6_line_80 (by decide) ?_
                exact ih_33 (z + 1) (lI (wQ (pn j0) (PX j0) (PY j0) (nI z)).num) (lN (wQ (pn j0) (PX j0) (PY j0) (nI z)).den) (by omega) (lst_no hz8 (fun q9 => q9 nc_5) hL) (by omega) _ _ hP hD hS ls (lv_sub hl [1, 2, 3, 0] rfl)
              · skip
                have nc_5 := fun h => c_5 ((lg_cmp_lt _ _).mpr h)
                refine lv_iload hx hb dX6_line_74 (lv_at hl 3 rfl) ?_
                rw [← hQ]
                have hP9 := hP
                have hD9 := hD
                exact W.iret (v := nI z) hx hb hr (fun t ht hW => ⟨⟨_, (lI (wQ (pn j0) (PX j0) (PY j0) (nI z)).num, lN (wQ (pn j0) (PX j0) (PY j0) (nI z)).den), rfl, lst_yes hz8 nc_5 hL, by rw [ht]; exact hP9, hD9⟩, hS.F ht⟩) hS.2.2 dX6_line_76
        exact LOOP_33 (32 - 0 + 1) 0 u0 w0 (Nat.zero_le _) (aLine_t hin9 xi0 (by simp only [Int32.lt_iff_toInt_lt, Int32.le_iff_toInt_le, ← Int32.toInt_inj, li_0, li_1, li_2, li_3, li_4, li_5, li_6, li_7, li_8, li_9, li_10, li_12, li_20, li_31, li_32, li_33, li_47, li_48, li_49, li_57, li_59, li_60, li_101, li_108, li_109, li_110, li_115, li_119, li_126, li_999, li_1000, li_1023, li_1024, li_2000, li_m1, li_m6] at c_1 c_2 ⊢; omega)) (Nat.lt_succ_self _) _ _ hP hD hS ls (lv_sub hl [2, 4, 1, 0] rfl)
      · skip
        refine lv_bipush (v := (-2)) hx hb dX6_line_27 (by decide) ?_
        rw [← hQ]
        have hP9 := hP
        have hD9 := hD
        exact W.iret (v := (-2)) hx hb hr (fun t ht hW => ⟨⟨_, (u0, w0), rfl, ((cif_t hin9).trans (cif_f (by simp only [Int32.lt_iff_toInt_lt, Int32.le_iff_toInt_le, ← Int32.toInt_inj, li_0, li_1, li_2, li_3, li_4, li_5, li_6, li_7, li_8, li_9, li_10, li_12, li_20, li_31, li_32, li_33, li_47, li_48, li_49, li_57, li_59, li_60, li_101, li_108, li_109, li_110, li_115, li_119, li_126, li_999, li_1000, li_1023, li_1024, li_2000, li_m1, li_m6] at c_1 c_2 ⊢; omega))).symm, by rw [ht]; exact hP9, hD9⟩, hS.F ht⟩) hS.2.2 dX6_line_29
  · skip
    refine lv_aload_n hx hb dX6_line_0 rfl (lv_at hl 0 rfl) ?_
    refine va_get (D := D) (ci := 8) (v := .ref es) (C := RX6) (T := TX6) (N := 7) hx hb hts (by decide +kernel) hown hK hP 0 rfl rfl 1 (by decide) (hts (.fieldLink RX6 19 "LandDeeds" "estate" "LLandDeeds$Estate;") (by decide +kernel)) (fun _ h9 => h9) rfl dX6_line_1 ?_
    refine lv_iload_n hx hb dX6_line_4 rfl (lv_at hl 1 rfl) ?_
    have hPc := hP.sub (ws' := [(es, .inr (2, [.ref ap, .ref ay, .int (nI k), .int lo])), (ap, .inl (cP, 6, .inr (.inr (.inr (.inr fp)))))]) [1, 2] rfl
    refine u_callSn (W.runV (As := [.int x0]) (rest := []) ⟨hx, hb, hml, hown, hts⟩ (c_X0_plotAt_no l D cI cB cZ cP es ap ay k lo fp x0 (hk) (hin9)) (cwV 1 hts gX6_line_X0_plotAt rfl rfl rfl (by decide +kernel) ⟨Nat.le_of_ble_eq_true rfl, Nat.le_of_ble_eq_true rfl⟩) (pV (q0 := 0) hPc hW0 trivial rfl rfl) rfl rfl hl.1 rfl (lv_room (Nat.le_of_ble_eq_true rfl)) dX6_line_5 ⟨Nat.le_of_ble_eq_true rfl, Nat.le_of_ble_eq_true rfl⟩) ?_
    refine lv_astore_nN (lv' := [(3, .null), (0, .ref h0), (1, .int x0), (2, .int y)]) hx hb dX6_line_8 rfl hl (by decide) rfl (fun ls hl => ?_)
    refine lv_aload_nN hx hb dX6_line_9 rfl (lv_at hl 0 rfl) ?_
    refine lv_ifnonnullN hx hb dX6_line_10 ?_
    refine lv_iconst (v := (-1)) hx hb dX6_line_13 (by decide) ?_
    rw [← hQ]
    have hP9 := hP
    have hD9 := hD
    exact W.iret (v := (-1)) hx hb hr (fun t ht hW => ⟨⟨_, (u0, w0), rfl, (cif_f hin9).symm, by rw [ht]; exact hP9, hD9⟩, hS.F ht⟩) hS.2.2 dX6_line_14

set_option maxHeartbeats 4000000 in
set_option maxRecDepth 100000 in
theorem c_X6_gap (l : Launch) (D : va_G) (cI cB cZ cP : ClassId) (sz : Nat) (h0 tx es i1 i2 wa ra : Nat) (kp : Int32) (ao af : Nat) (gq ps gg gm fx fy : Int32) (O Tt : Nat → Int32) (ap ay k : Nat) (lo : Int32) (fp : Nat → Option Nat) (Pl : Nat → Option PD) (pn : PN) (PX PY : PF) (x : Int32) (hk : k ≤ 6) (hPL : PLok Pl fp k pn PX PY) : Met l yX6_gap wsX6_gap ({ frames := 6, cells := 0, slots := 0, locals := 134 } : Room) (va_Pc [.ref h0, .int x] (fun U => U.heap.size = sz ∧ va_P D vwCl [(h0, .inr (8, [.ref tx, .ref es, .ref i1, .ref i2, .ref wa, .ref ra, .int kp])), (wa, .inr (7, [.ref ao, .ref af, .int gq, .int ps, .int gg, .int gm, .int fx, .int fy])), (ao, .inl (cI, 32, .inl O)), (af, .inl (cI, 1024, .inl Tt)), (es, .inr (2, [.ref ap, .ref ay, .int (nI k), .int lo])), (ap, .inl (cP, 6, .inr (.inr (.inr (.inr fp)))))] U.heap ∧ KW D cI cB cZ cP U ∧ va_D (fun _ => True) [(h0, .inr (8, [.ref tx, .ref es, .ref i1, .ref i2, .ref wa, .ref ra, .int kp])), (wa, .inr (7, [.ref ao, .ref af, .int gq, .int ps, .int gg, .int gm, .int fx, .int fy])), (ao, .inl (cI, 32, .inl O)), (af, .inl (cI, 1024, .inl Tt)), (es, .inr (2, [.ref ap, .ref ay, .int (nI k), .int lo])), (ap, .inl (cP, 6, .inr (.inr (.inr (.inr fp)))))] ∧ EF [(h0, .inr (8, [.ref tx, .ref es, .ref i1, .ref i2, .ref wa, .ref ra, .int kp])), (wa, .inr (7, [.ref ao, .ref af, .int gq, .int ps, .int gg, .int gm, .int fx, .int fy])), (ao, .inl (cI, 32, .inl O)), (af, .inl (cI, 1024, .inl Tt)), (es, .inr (2, [.ref ap, .ref ay, .int (nI k), .int lo])), (ap, .inl (cP, 6, .inr (.inr (.inr (.inr fp)))))] sz (PLA D cI cB Pl) U.heap)) (va_Qi (fun r (u : Int32 × Int32 × Int32 × Int32 × Int32 × Int32 × (Nat → Int32) × (Nat → Int32)) => match u with | (gq1, ps1, gg1, gm1, fx1, fy1, O1, T1) => r = aGap (free_ k pn PX PY) x) (fun (u : Int32 × Int32 × Int32 × Int32 × Int32 × Int32 × (Nat → Int32) × (Nat → Int32)) (t : State) => match u with | (gq1, ps1, gg1, gm1, fx1, fy1, O1, T1) => va_P D vwCl [(h0, .inr (8, [.ref tx, .ref es, .ref i1, .ref i2, .ref wa, .ref ra, .int kp])), (wa, .inr (7, [.ref ao, .ref af, .int gq1, .int ps1, .int gg1, .int gm1, .int fx1, .int fy1])), (ao, .inl (cI, 32, .inl O1)), (af, .inl (cI, 1024, .inl T1)), (es, .inr (2, [.ref ap, .ref ay, .int (nI k), .int lo])), (ap, .inl (cP, 6, .inr (.inr (.inr (.inr fp)))))] t.heap ∧ va_D (va_A [(h0, .inr (8, [.ref tx, .ref es, .ref i1, .ref i2, .ref wa, .ref ra, .int kp])), (wa, .inr (7, [.ref ao, .ref af, .int gq, .int ps, .int gg, .int gm, .int fx, .int fy])), (ao, .inl (cI, 32, .inl O)), (af, .inl (cI, 1024, .inl Tt)), (es, .inr (2, [.ref ap, .ref ay, .int (nI k), .int lo])), (ap, .inl (cP, 6, .inr (.inr (.inr (.inr fp)))))] sz) [(h0, .inr (8, [.ref tx, .ref es, .ref i1, .ref i2, .ref wa, .ref ra, .int kp])), (wa, .inr (7, [.ref ao, .ref af, .int gq1, .int ps1, .int gg1, .int gm1, .int fx1, .int fy1])), (ao, .inl (cI, 32, .inl O1)), (af, .inl (cI, 1024, .inl T1)), (es, .inr (2, [.ref ap, .ref ay, .int (nI k), .int lo])), (ap, .inl (cP, 6, .inr (.inr (.inr (.inr fp)))))]) (va_A [(h0, .inr (8, [.ref tx, .ref es, .ref i1, .ref i2, .ref wa, .ref ra, .int kp])), (wa, .inr (7, [.ref ao, .ref af, .int gq, .int ps, .int gg, .int gm, .int fx, .int fy])), (ao, .inl (cI, 32, .inl O)), (af, .inl (cI, 1024, .inl Tt)), (es, .inr (2, [.ref ap, .ref ay, .int (nI k), .int lo])), (ap, .inl (cP, 6, .inr (.inr (.inr (.inr fp)))))] sz)) 0 0 (va_A [(h0, .inr (8, [.ref tx, .ref es, .ref i1, .ref i2, .ref wa, .ref ra, .int kp])), (wa, .inr (7, [.ref ao, .ref af, .int gq, .int ps, .int gg, .int gm, .int fx, .int fy])), (ao, .inl (cI, 32, .inl O)), (af, .inl (cI, 1024, .inl Tt)), (es, .inr (2, [.ref ap, .ref ay, .int (nI k), .int lo])), (ap, .inl (cP, 6, .inr (.inr (.inr (.inr fp)))))] sz) := by
  refine Met.ofW (cc := cX6_gap) (maxL := 2) (ret := (some .int)) (by decide) rfl ?_
  intro p e s m args below meth c s₁ B hml hv
  obtain ⟨rfl, hsz, hP, hW0, hD0, hE⟩ := hv
  have hx := B.exec
  have hb := B.bytes
  have hr := B.returns
  have hts := atoms_spec (ws := wsX6_gap) B.pre
  have hown : s.vm.findClass RX6 = some m.cls := findClass_of_methodNamed B.named
  have hlocks := B.notSynchronized
  have hK := hW0.1
  subst hsz
  have hD := hD0.self (sz := s.heap.size)
  unfold EF at hE
  generalize hAe : va_A [(h0, .inr (8, [.ref tx, .ref es, .ref i1, .ref i2, .ref wa, .ref ra, .int kp])), (wa, .inr (7, [.ref ao, .ref af, .int gq, .int ps, .int gg, .int gm, .int fx, .int fy])), (ao, .inl (cI, 32, .inl O)), (af, .inl (cI, 1024, .inl Tt)), (es, .inr (2, [.ref ap, .ref ay, .int (nI k), .int lo])), (ap, .inl (cP, 6, .inr (.inr (.inr (.inr fp)))))] s.heap.size = A at hD hE ⊢
  have hA : ∀ q : Nat, s.heap.size ≤ q → A q := fun q h => by rw [← hAe]; exact Or.inr h
  have hS : va_S A s.heap s.heap [] := va_S.rf
  have hl := lv_entry ([.ref h0, .int x]) (n := 2) (Nat.le_of_ble_eq_true rfl)
  rw [lg_entry_eq]
  generalize (lg_sl ([.ref h0, .int x]) ++ List.replicate (2 - (lg_sl ([.ref h0, .int x])).length) Slot.unset).toArray = ls at hl ⊢
  have hl : lv_has ls 2 [(0, .ref h0), (1, .int x)] := hl
  show W p l e ({ frames := 6, cells := 0, slots := 0, locals := 134 } : Room) s m ([.ref h0, .int x] : List Value).toArray below meth c s.heap [] 0 0 _ (F0 m 0 ls [])
  refine u_genQ (fun Q hQ => ?_)
  refine lv_iload_n hx hb dX6_gap_0 rfl (lv_at hl 1 rfl) ?_
  refine lv_if_lt (tgt := 9) hx hb dX6_gap_1 (by decide) (fun c_1 => ?_) (fun c_1 => ?_)
  · skip
    refine lv_bipush (v := (-2)) hx hb dX6_gap_9 (by decide) ?_
    rw [← hQ]
    have hP9 := hP
    have hD9 := hD
    exact W.iret (v := (-2)) hx hb hr (fun t ht hW => ⟨⟨_, (gq, ps, gg, gm, fx, fy, O, Tt), rfl, (cif_f (by simp only [Int32.lt_iff_toInt_lt, Int32.le_iff_toInt_le, ← Int32.toInt_inj, li_0, li_1, li_2, li_3, li_4, li_5, li_6, li_7, li_8, li_9, li_10, li_12, li_20, li_31, li_32, li_33, li_47, li_48, li_49, li_57, li_59, li_60, li_101, li_108, li_109, li_110, li_115, li_119, li_126, li_999, li_1000, li_1023, li_1024, li_2000, li_m1, li_m6] at c_1 ⊢; omega)).symm, by rw [ht]; exact hP9, hD9⟩, hS.F ht⟩) hS.2.2 dX6_gap_11
  · skip
    refine lv_iload_n hx hb dX6_gap_4 rfl (lv_at hl 1 rfl) ?_
    refine lv_iconst (v := 4) hx hb dX6_gap_5 (by decide) ?_
    refine lv_icmp_le (tgt := 12) hx hb dX6_gap_6 (by decide) (fun c_2 => ?_) (fun c_2 => ?_)
    · skip
      refine lv_aload_n hx hb dX6_gap_12 rfl (lv_at hl 0 rfl) ?_
      refine va_get (D := D) (ci := 8) (v := .ref wa) (C := RX6) (T := TX6) (N := 7) hx hb hts (by decide +kernel) hown hK hP 0 rfl rfl 4 (by decide) (hts (.fieldLink RX6 32 "LandDeeds" "wastes" "LLandDeeds$Wastes;") (by decide +kernel)) (fun _ h9 => h9) rfl dX6_gap_13 ?_
      refine lv_aload_n hx hb dX6_gap_16 rfl (lv_at hl 0 rfl) ?_
      refine va_get (D := D) (ci := 8) (v := .ref es) (C := RX6) (T := TX6) (N := 7) hx hb hts (by decide +kernel) hown hK hP 0 rfl rfl 1 (by decide) (hts (.fieldLink RX6 19 "LandDeeds" "estate" "LLandDeeds$Estate;") (by decide +kernel)) (fun _ h9 => h9) rfl dX6_gap_17 ?_
      have hPc := hP.sub (ws' := [(wa, .inr (7, [.ref ao, .ref af, .int gq, .int ps, .int gg, .int gm, .int fx, .int fy])), (ao, .inl (cI, 32, .inl O)), (af, .inl (cI, 1024, .inl Tt)), (es, .inr (2, [.ref ap, .ref ay, .int (nI k), .int lo])), (ap, .inl (cP, 6, .inr (.inr (.inr (.inr fp)))))]) [1, 2, 3, 4, 5] rfl
      have hDc := hD.sub (ws' := [(wa, .inr (7, [.ref ao, .ref af, .int gq, .int ps, .int gg, .int gm, .int fx, .int fy])), (ao, .inl (cI, 32, .inl O)), (af, .inl (cI, 1024, .inl Tt)), (es, .inr (2, [.ref ap, .ref ay, .int (nI k), .int lo])), (ap, .inl (cP, 6, .inr (.inr (.inr (.inr fp)))))]) [1, 2, 3, 4, 5] (by decide) rfl
      have hFc := va_free (wc := [(wa, .inr (7, [.ref ao, .ref af, .int gq, .int ps, .int gg, .int gm, .int fx, .int fy])), (ao, .inl (cI, 32, .inl O)), (af, .inl (cI, 1024, .inl Tt)), (es, .inr (2, [.ref ap, .ref ay, .int (nI k), .int lo])), (ap, .inl (cP, 6, .inr (.inr (.inr (.inr fp)))))]) hD hS hA [1, 2, 3, 4, 5] rfl
      refine va_callv (va_runV (As := [.ref es]) (rest := []) ⟨hx, hb, hml, hown, hts⟩ (c_X5_survey l D cI cB cZ cP s.heap.size wa ao af gq ps gg gm fx fy O Tt es ap ay k lo fp (hdP Pl fp) (free_ k pn PX PY) (hk) (free_cls hPL)) (cwV 1 hts gX6_gap_X5_survey rfl rfl rfl (by decide +kernel) ⟨Nat.le_of_ble_eq_true rfl, Nat.le_of_ble_eq_true rfl⟩) (pVQ (q0 := 0) hPc hDc hW0 (EF.sub (fun H1 q9 => PO_of hPL (hE H1 q9)) hS.1 hS.2.1 hFc) rfl rfl) rfl rfl hl.1 rfl (lv_room (Nat.le_of_ble_eq_true rfl)) dX6_gap_20 ⟨Nat.le_of_ble_eq_true rfl, Nat.le_of_ble_eq_true rfl⟩) hS (fun q _ h => hFc q h) hFc (fun u t H1 locs ht hvm hw hB hz1 hk1 hS => ?_)
      obtain ⟨m1_3, O1_3, T1_3⟩ := u
      obtain ⟨hP1, hD1⟩ := hB
      rw [ht] at hP1
      have hw_3 : True := hw
      obtain ⟨hP, hD⟩ := va_join (wr := [(h0, .inr (8, [.ref tx, .ref es, .ref i1, .ref i2, .ref wa, .ref ra, .int kp]))]) (w1 := [(wa, .inr (7, [.ref ao, .ref af, .int m1_3, .int (nI (cnt2 (fun y x => bit ((fun y => orr (fun _ => True) (fun z => (hdP Pl fp) z y) k ^^^ (-1)) y) x) 32)), .int (nI (gpS (free_ k pn PX PY) 1024).2.2.1), .int (nI (gpS (free_ k pn PX PY) 1024).2.2.2.1), .int (fX (gpS (free_ k pn PX PY) 1024).2.2.2.2), .int (fY (gpS (free_ k pn PX PY) 1024).2.2.2.2)])), (ao, .inl (cI, 32, .inl O1_3)), (af, .inl (cI, 1024, .inl T1_3)), (es, .inr (2, [.ref ap, .ref ay, .int (nI k), .int lo])), (ap, .inl (cP, 6, .inr (.inr (.inr (.inr fp)))))]) hP hD [1, 2, 3, 4, 5] [0] rfl rfl (by decide) (by decide) hk1 hFc hP1 hD1
      generalize H1 = H at hP hS ⊢
      have hP := hP.sub (ws' := [(h0, .inr (8, [.ref tx, .ref es, .ref i1, .ref i2, .ref wa, .ref ra, .int kp])), (wa, .inr (7, [.ref ao, .ref af, .int m1_3, .int (nI (cnt2 (fun y x => bit ((fun y => orr (fun _ => True) (fun z => (hdP Pl fp) z y) k ^^^ (-1)) y) x) 32)), .int (nI (gpS (free_ k pn PX PY) 1024).2.2.1), .int (nI (gpS (free_ k pn PX PY) 1024).2.2.2.1), .int (fX (gpS (free_ k pn PX PY) 1024).2.2.2.2), .int (fY (gpS (free_ k pn PX PY) 1024).2.2.2.2)])), (ao, .inl (cI, 32, .inl O1_3)), (af, .inl (cI, 1024, .inl T1_3)), (es, .inr (2, [.ref ap, .ref ay, .int (nI k), .int lo])), (ap, .inl (cP, 6, .inr (.inr (.inr (.inr fp)))))]) [0, 1, 2, 3, 4, 5] rfl
      have hD := hD.sub (ws' := [(h0, .inr (8, [.ref tx, .ref es, .ref i1, .ref i2, .ref wa, .ref ra, .int kp])), (wa, .inr (7, [.ref ao, .ref af, .int m1_3, .int (nI (cnt2 (fun y x => bit ((fun y => orr (fun _ => True) (fun z => (hdP Pl fp) z y) k ^^^ (-1)) y) x) 32)), .int (nI (gpS (free_ k pn PX PY) 1024).2.2.1), .int (nI (gpS (free_ k pn PX PY) 1024).2.2.2.1), .int (fX (gpS (free_ k pn PX PY) 1024).2.2.2.2), .int (fY (gpS (free_ k pn PX PY) 1024).2.2.2.2)])), (ao, .inl (cI, 32, .inl O1_3)), (af, .inl (cI, 1024, .inl T1_3)), (es, .inr (2, [.ref ap, .ref ay, .int (nI k), .int lo])), (ap, .inl (cP, 6, .inr (.inr (.inr (.inr fp)))))]) [0, 1, 2, 3, 4, 5] (by decide) rfl
      refine lv_iload_n hx hb dX6_gap_23 rfl (lv_at hl 1 rfl) ?_
      by_cases c_4 : x = 0
      · skip
        refine lv_tableIn (off := 32) (tgt := 56) hx hb dX6_gap_24 (by rw [c_4]; decide) (by rw [c_4]; decide) (by rw [c_4]; rfl) (by decide) ?_
        refine lv_aload_n hx hb dX6_gap_56 rfl (lv_at hl 0 rfl) ?_
        refine va_get (D := D) (ci := 8) (v := .ref wa) (C := RX6) (T := TX6) (N := 7) hx hb hts (by decide +kernel) hown hK hP 0 rfl rfl 4 (by decide) (hts (.fieldLink RX6 32 "LandDeeds" "wastes" "LLandDeeds$Wastes;") (by decide +kernel)) (fun _ h9 => h9) rfl dX6_gap_57 ?_
        refine va_get (D := D) (ci := 7) (v := .int (nI (cnt2 (fun y x => bit ((fun y => orr (fun _ => True) (fun z => (hdP Pl fp) z y) k ^^^ (-1)) y) x) 32))) (C := RX5) (T := TX5) (N := 8) hx hb hts (by decide +kernel) hown hK hP 1 rfl rfl 3 (by decide) (hts (.fieldLink RX6 214 "LandDeeds$Wastes" "posts" "I") (by decide +kernel)) (fun _ h9 => h9) rfl dX6_gap_60 ?_
        rw [← hQ]
        have hP9 := hP
        have hD9 := hD
        exact W.iret (v := nI (cnt2 (fun y x => bit ((fun y => orr (fun _ => True) (fun z => (hdP Pl fp) z y) k ^^^ (-1)) y) x) 32)) hx hb hr (fun t ht hW => ⟨⟨_, (m1_3, nI (cnt2 (fun y x => bit ((fun y => orr (fun _ => True) (fun z => (hdP Pl fp) z y) k ^^^ (-1)) y) x) 32), nI (gpS (free_ k pn PX PY) 1024).2.2.1, nI (gpS (free_ k pn PX PY) 1024).2.2.2.1, fX (gpS (free_ k pn PX PY) 1024).2.2.2.2, fY (gpS (free_ k pn PX PY) 1024).2.2.2.2, O1_3, T1_3), rfl, (gap_cls hPL x (by simp only [Int32.lt_iff_toInt_lt, Int32.le_iff_toInt_le, ← Int32.toInt_inj, li_0, li_1, li_2, li_3, li_4, li_5, li_6, li_7, li_8, li_9, li_10, li_12, li_20, li_31, li_32, li_33, li_47, li_48, li_49, li_57, li_59, li_60, li_101, li_108, li_109, li_110, li_115, li_119, li_126, li_999, li_1000, li_1023, li_1024, li_2000, li_m1, li_m6] at c_1 c_2 ⊢; omega)).1 c_4, by rw [ht]; exact hP9, hD9⟩, hS.F ht⟩) hS.2.2 dX6_gap_63
      by_cases c_5 : x = 1
      · skip
        refine lv_tableIn (off := 40) (tgt := 64) hx hb dX6_gap_24 (by rw [c_5]; decide) (by rw [c_5]; decide) (by rw [c_5]; rfl) (by decide) ?_
        refine lv_aload_n hx hb dX6_gap_64 rfl (lv_at hl 0 rfl) ?_
        refine va_get (D := D) (ci := 8) (v := .ref wa) (C := RX6) (T := TX6) (N := 7) hx hb hts (by decide +kernel) hown hK hP 0 rfl rfl 4 (by decide) (hts (.fieldLink RX6 32 "LandDeeds" "wastes" "LLandDeeds$Wastes;") (by decide +kernel)) (fun _ h9 => h9) rfl dX6_gap_65 ?_
        refine va_get (D := D) (ci := 7) (v := .int (nI (gpS (free_ k pn PX PY) 1024).2.2.1)) (C := RX5) (T := TX5) (N := 8) hx hb hts (by decide +kernel) hown hK hP 1 rfl rfl 4 (by decide) (hts (.fieldLink RX6 217 "LandDeeds$Wastes" "gaps" "I") (by decide +kernel)) (fun _ h9 => h9) rfl dX6_gap_68 ?_
        rw [← hQ]
        have hP9 := hP
        have hD9 := hD
        exact W.iret (v := nI (gpS (free_ k pn PX PY) 1024).2.2.1) hx hb hr (fun t ht hW => ⟨⟨_, (m1_3, nI (cnt2 (fun y x => bit ((fun y => orr (fun _ => True) (fun z => (hdP Pl fp) z y) k ^^^ (-1)) y) x) 32), nI (gpS (free_ k pn PX PY) 1024).2.2.1, nI (gpS (free_ k pn PX PY) 1024).2.2.2.1, fX (gpS (free_ k pn PX PY) 1024).2.2.2.2, fY (gpS (free_ k pn PX PY) 1024).2.2.2.2, O1_3, T1_3), rfl, (gap_cls hPL x (by simp only [Int32.lt_iff_toInt_lt, Int32.le_iff_toInt_le, ← Int32.toInt_inj, li_0, li_1, li_2, li_3, li_4, li_5, li_6, li_7, li_8, li_9, li_10, li_12, li_20, li_31, li_32, li_33, li_47, li_48, li_49, li_57, li_59, li_60, li_101, li_108, li_109, li_110, li_115, li_119, li_126, li_999, li_1000, li_1023, li_1024, li_2000, li_m1, li_m6] at c_1 c_2 ⊢; omega)).2.1 c_5, by rw [ht]; exact hP9, hD9⟩, hS.F ht⟩) hS.2.2 dX6_gap_71
      by_cases c_6 : x = 2
      · skip
        refine lv_tableIn (off := 48) (tgt := 72) hx hb dX6_gap_24 (by rw [c_6]; decide) (by rw [c_6]; decide) (by rw [c_6]; rfl) (by decide) ?_
        refine lv_aload_n hx hb dX6_gap_72 rfl (lv_at hl 0 rfl) ?_
        refine va_get (D := D) (ci := 8) (v := .ref wa) (C := RX6) (T := TX6) (N := 7) hx hb hts (by decide +kernel) hown hK hP 0 rfl rfl 4 (by decide) (hts (.fieldLink RX6 32 "LandDeeds" "wastes" "LLandDeeds$Wastes;") (by decide +kernel)) (fun _ h9 => h9) rfl dX6_gap_73 ?_
        refine va_get (D := D) (ci := 7) (v := .int (nI (gpS (free_ k pn PX PY) 1024).2.2.2.1)) (C := RX5) (T := TX5) (N := 8) hx hb hts (by decide +kernel) hown hK hP 1 rfl rfl 5 (by decide) (hts (.fieldLink RX6 220 "LandDeeds$Wastes" "greatest" "I") (by decide +kernel)) (fun _ h9 => h9) rfl dX6_gap_76 ?_
        rw [← hQ]
        have hP9 := hP
        have hD9 := hD
        exact W.iret (v := nI (gpS (free_ k pn PX PY) 1024).2.2.2.1) hx hb hr (fun t ht hW => ⟨⟨_, (m1_3, nI (cnt2 (fun y x => bit ((fun y => orr (fun _ => True) (fun z => (hdP Pl fp) z y) k ^^^ (-1)) y) x) 32), nI (gpS (free_ k pn PX PY) 1024).2.2.1, nI (gpS (free_ k pn PX PY) 1024).2.2.2.1, fX (gpS (free_ k pn PX PY) 1024).2.2.2.2, fY (gpS (free_ k pn PX PY) 1024).2.2.2.2, O1_3, T1_3), rfl, (gap_cls hPL x (by simp only [Int32.lt_iff_toInt_lt, Int32.le_iff_toInt_le, ← Int32.toInt_inj, li_0, li_1, li_2, li_3, li_4, li_5, li_6, li_7, li_8, li_9, li_10, li_12, li_20, li_31, li_32, li_33, li_47, li_48, li_49, li_57, li_59, li_60, li_101, li_108, li_109, li_110, li_115, li_119, li_126, li_999, li_1000, li_1023, li_1024, li_2000, li_m1, li_m6] at c_1 c_2 ⊢; omega)).2.2.1 c_6, by rw [ht]; exact hP9, hD9⟩, hS.F ht⟩) hS.2.2 dX6_gap_79
      by_cases c_7 : x = 3
      · skip
        refine lv_tableIn (off := 56) (tgt := 80) hx hb dX6_gap_24 (by rw [c_7]; decide) (by rw [c_7]; decide) (by rw [c_7]; rfl) (by decide) ?_
        refine lv_aload_n hx hb dX6_gap_80 rfl (lv_at hl 0 rfl) ?_
        refine va_get (D := D) (ci := 8) (v := .ref wa) (C := RX6) (T := TX6) (N := 7) hx hb hts (by decide +kernel) hown hK hP 0 rfl rfl 4 (by decide) (hts (.fieldLink RX6 32 "LandDeeds" "wastes" "LLandDeeds$Wastes;") (by decide +kernel)) (fun _ h9 => h9) rfl dX6_gap_81 ?_
        refine va_get (D := D) (ci := 7) (v := .int (fX (gpS (free_ k pn PX PY) 1024).2.2.2.2)) (C := RX5) (T := TX5) (N := 8) hx hb hts (by decide +kernel) hown hK hP 1 rfl rfl 6 (by decide) (hts (.fieldLink RX6 223 "LandDeeds$Wastes" "firstX" "I") (by decide +kernel)) (fun _ h9 => h9) rfl dX6_gap_84 ?_
        rw [← hQ]
        have hP9 := hP
        have hD9 := hD
        exact W.iret (v := fX (gpS (free_ k pn PX PY) 1024).2.2.2.2) hx hb hr (fun t ht hW => ⟨⟨_, (m1_3, nI (cnt2 (fun y x => bit ((fun y => orr (fun _ => True) (fun z => (hdP Pl fp) z y) k ^^^ (-1)) y) x) 32), nI (gpS (free_ k pn PX PY) 1024).2.2.1, nI (gpS (free_ k pn PX PY) 1024).2.2.2.1, fX (gpS (free_ k pn PX PY) 1024).2.2.2.2, fY (gpS (free_ k pn PX PY) 1024).2.2.2.2, O1_3, T1_3), rfl, (gap_cls hPL x (by simp only [Int32.lt_iff_toInt_lt, Int32.le_iff_toInt_le, ← Int32.toInt_inj, li_0, li_1, li_2, li_3, li_4, li_5, li_6, li_7, li_8, li_9, li_10, li_12, li_20, li_31, li_32, li_33, li_47, li_48, li_49, li_57, li_59, li_60, li_101, li_108, li_109, li_110, li_115, li_119, li_126, li_999, li_1000, li_1023, li_1024, li_2000, li_m1, li_m6] at c_1 c_2 ⊢; omega)).2.2.2.1 c_7, by rw [ht]; exact hP9, hD9⟩, hS.F ht⟩) hS.2.2 dX6_gap_87
      refine lv_tableOut (tgt := 88) hx hb dX6_gap_24 (by have := u_sw4 ‹¬ x = 0› ‹¬ x = 1› ‹¬ x = 2› ‹¬ x = 3›; omega) (by decide) ?_
      refine lv_aload_n hx hb dX6_gap_88 rfl (lv_at hl 0 rfl) ?_
      refine va_get (D := D) (ci := 8) (v := .ref wa) (C := RX6) (T := TX6) (N := 7) hx hb hts (by decide +kernel) hown hK hP 0 rfl rfl 4 (by decide) (hts (.fieldLink RX6 32 "LandDeeds" "wastes" "LLandDeeds$Wastes;") (by decide +kernel)) (fun _ h9 => h9) rfl dX6_gap_89 ?_
      refine va_get (D := D) (ci := 7) (v := .int (fY (gpS (free_ k pn PX PY) 1024).2.2.2.2)) (C := RX5) (T := TX5) (N := 8) hx hb hts (by decide +kernel) hown hK hP 1 rfl rfl 7 (by decide) (hts (.fieldLink RX6 226 "LandDeeds$Wastes" "firstY" "I") (by decide +kernel)) (fun _ h9 => h9) rfl dX6_gap_92 ?_
      rw [← hQ]
      have hP9 := hP
      have hD9 := hD
      exact W.iret (v := fY (gpS (free_ k pn PX PY) 1024).2.2.2.2) hx hb hr (fun t ht hW => ⟨⟨_, (m1_3, nI (cnt2 (fun y x => bit ((fun y => orr (fun _ => True) (fun z => (hdP Pl fp) z y) k ^^^ (-1)) y) x) 32), nI (gpS (free_ k pn PX PY) 1024).2.2.1, nI (gpS (free_ k pn PX PY) 1024).2.2.2.1, fX (gpS (free_ k pn PX PY) 1024).2.2.2.2, fY (gpS (free_ k pn PX PY) 1024).2.2.2.2, O1_3, T1_3), rfl, (gap_cls hPL x (by simp only [Int32.lt_iff_toInt_lt, Int32.le_iff_toInt_le, ← Int32.toInt_inj, li_0, li_1, li_2, li_3, li_4, li_5, li_6, li_7, li_8, li_9, li_10, li_12, li_20, li_31, li_32, li_33, li_47, li_48, li_49, li_57, li_59, li_60, li_101, li_108, li_109, li_110, li_115, li_119, li_126, li_999, li_1000, li_1023, li_1024, li_2000, li_m1, li_m6] at c_1 c_2 ⊢; omega)).2.2.2.2 c_4 c_5 c_6 c_7, by rw [ht]; exact hP9, hD9⟩, hS.F ht⟩) hS.2.2 dX6_gap_95
    · skip
      refine lv_bipush (v := (-2)) hx hb dX6_gap_9 (by decide) ?_
      rw [← hQ]
      have hP9 := hP
      have hD9 := hD
      exact W.iret (v := (-2)) hx hb hr (fun t ht hW => ⟨⟨_, (gq, ps, gg, gm, fx, fy, O, Tt), rfl, (cif_f (by simp only [Int32.lt_iff_toInt_lt, Int32.le_iff_toInt_le, ← Int32.toInt_inj, li_0, li_1, li_2, li_3, li_4, li_5, li_6, li_7, li_8, li_9, li_10, li_12, li_20, li_31, li_32, li_33, li_47, li_48, li_49, li_57, li_59, li_60, li_101, li_108, li_109, li_110, li_115, li_119, li_126, li_999, li_1000, li_1023, li_1024, li_2000, li_m1, li_m6] at c_1 c_2 ⊢; omega)).symm, by rw [ht]; exact hP9, hD9⟩, hS.F ht⟩) hS.2.2 dX6_gap_11

set_option maxHeartbeats 4000000 in
set_option maxRecDepth 100000 in
theorem c_X6_imageAt_0 (l : Launch) (D : va_G) (cI cB cZ cP : ClassId) (h0 tx es i1 i2 wa ra : Nat) (kp : Int32) : Met l yX6_imageAt wsX6_imageAt ({ frames := 0, cells := 0, slots := 0, locals := 0 } : Room) (va_Pc [.ref h0, .int 0] (fun U => va_P D vwCl [(h0, .inr (8, [.ref tx, .ref es, .ref i1, .ref i2, .ref wa, .ref ra, .int kp]))] U.heap ∧ KW D cI cB cZ cP U ∧ E0 U.heap)) (va_Sq (fun r => r = some i1)) 0 0 (fun _ => False) := by
  refine Met.ofW (cc := cX6_imageAt) (maxL := 2) (ret := (some (.object "LandDeeds$Estate"))) (by decide) rfl ?_
  intro p e s m args below meth c s₁ B hml hv
  obtain ⟨rfl, hP, hW0, hE⟩ := hv
  have hx := B.exec
  have hb := B.bytes
  have hr := B.returns
  have hts := atoms_spec (ws := wsX6_imageAt) B.pre
  have hown : s.vm.findClass RX6 = some m.cls := findClass_of_methodNamed B.named
  have hlocks := B.notSynchronized
  have hK := hW0.1
  have hl := lv_entry ([.ref h0, .int 0]) (n := 2) (Nat.le_of_ble_eq_true rfl)
  rw [lg_entry_eq]
  generalize (lg_sl ([.ref h0, .int 0]) ++ List.replicate (2 - (lg_sl ([.ref h0, .int 0])).length) Slot.unset).toArray = ls at hl ⊢
  have hl : lv_has ls 2 [(0, .ref h0), (1, .int 0)] := hl
  show W p l e ({ frames := 0, cells := 0, slots := 0, locals := 0 } : Room) s m ([.ref h0, .int 0] : List Value).toArray below meth c s.heap [] 0 0 _ (F0 m 0 ls [])
  refine u_genQ (fun Q hQ => ?_)
  refine lv_iload_n hx hb dX6_imageAt_0 rfl (lv_at hl 1 rfl) ?_
  refine lv_if_ne (tgt := 11) hx hb dX6_imageAt_1 (by decide) (fun c_1 => ?_) (fun c_1 => ?_)
  · skip
    exact absurd rfl c_1
  · skip
    refine lv_aload_n hx hb dX6_imageAt_4 rfl (lv_at hl 0 rfl) ?_
    refine va_get (D := D) (ci := 8) (v := .ref i1) (C := RX6) (T := TX6) (N := 7) hx hb hts (by decide +kernel) hown hK hP 0 rfl rfl 2 (by decide) (hts (.fieldLink RX6 23 "LandDeeds" "firstImage" "LLandDeeds$Estate;") (by decide +kernel)) (fun _ h9 => h9) rfl dX6_imageAt_5 ?_
    refine lv_goto (tgt := 15) hx hb dX6_imageAt_8 (by decide) ?_
    rw [← hQ]
    exact W.aret (v := .ref i1) hx hb hr (Or.inl ⟨_, rfl⟩) (Or.inr ⟨_, rfl⟩) (fun t ht hW => ⟨some i1, rfl, rfl, ht⟩) (fun q h => absurd h List.not_mem_nil) dX6_imageAt_15

set_option maxHeartbeats 4000000 in
set_option maxRecDepth 100000 in
theorem c_X6_imageAt_1 (l : Launch) (D : va_G) (cI cB cZ cP : ClassId) (h0 tx es i1 i2 wa ra : Nat) (kp : Int32) : Met l yX6_imageAt wsX6_imageAt ({ frames := 0, cells := 0, slots := 0, locals := 0 } : Room) (va_Pc [.ref h0, .int 1] (fun U => va_P D vwCl [(h0, .inr (8, [.ref tx, .ref es, .ref i1, .ref i2, .ref wa, .ref ra, .int kp]))] U.heap ∧ KW D cI cB cZ cP U ∧ E0 U.heap)) (va_Sq (fun r => r = some i2)) 0 0 (fun _ => False) := by
  refine Met.ofW (cc := cX6_imageAt) (maxL := 2) (ret := (some (.object "LandDeeds$Estate"))) (by decide) rfl ?_
  intro p e s m args below meth c s₁ B hml hv
  obtain ⟨rfl, hP, hW0, hE⟩ := hv
  have hx := B.exec
  have hb := B.bytes
  have hr := B.returns
  have hts := atoms_spec (ws := wsX6_imageAt) B.pre
  have hown : s.vm.findClass RX6 = some m.cls := findClass_of_methodNamed B.named
  have hlocks := B.notSynchronized
  have hK := hW0.1
  have hl := lv_entry ([.ref h0, .int 1]) (n := 2) (Nat.le_of_ble_eq_true rfl)
  rw [lg_entry_eq]
  generalize (lg_sl ([.ref h0, .int 1]) ++ List.replicate (2 - (lg_sl ([.ref h0, .int 1])).length) Slot.unset).toArray = ls at hl ⊢
  have hl : lv_has ls 2 [(0, .ref h0), (1, .int 1)] := hl
  show W p l e ({ frames := 0, cells := 0, slots := 0, locals := 0 } : Room) s m ([.ref h0, .int 1] : List Value).toArray below meth c s.heap [] 0 0 _ (F0 m 0 ls [])
  refine u_genQ (fun Q hQ => ?_)
  refine lv_iload_n hx hb dX6_imageAt_0 rfl (lv_at hl 1 rfl) ?_
  refine lv_if_ne (tgt := 11) hx hb dX6_imageAt_1 (by decide) (fun c_1 => ?_) (fun c_1 => ?_)
  · skip
    refine lv_aload_n hx hb dX6_imageAt_11 rfl (lv_at hl 0 rfl) ?_
    refine va_get (D := D) (ci := 8) (v := .ref i2) (C := RX6) (T := TX6) (N := 7) hx hb hts (by decide +kernel) hown hK hP 0 rfl rfl 3 (by decide) (hts (.fieldLink RX6 26 "LandDeeds" "secondImage" "LLandDeeds$Estate;") (by decide +kernel)) (fun _ h9 => h9) rfl dX6_imageAt_12 ?_
    rw [← hQ]
    exact W.aret (v := .ref i2) hx hb hr (Or.inl ⟨_, rfl⟩) (Or.inr ⟨_, rfl⟩) (fun t ht hW => ⟨some i2, rfl, rfl, ht⟩) (fun q h => absurd h List.not_mem_nil) dX6_imageAt_15
  · skip
    exact absurd c_1 (by decide)

set_option maxHeartbeats 4000000 in
set_option maxRecDepth 100000 in
theorem c_X6_image_0 (l : Launch) (D : va_G) (cI cB cZ cP : ClassId) (sz : Nat) (h0 tx es i1 i2 wa ra : Nat) (kp : Int32) (ap ay k : Nat) (lo : Int32) (fp : Nat → Option Nat) (yr : Nat → Int32) (ap1 ay1 k1 : Nat) (lo1 : Int32) (fp1 : Nat → Option Nat) (yr1 : Nat → Int32) (Pl : Nat → Option PD) (hFP : FPin Pl fp) : Met l yX6_image wsX6_image ({ frames := 1, cells := 0, slots := 0, locals := 22 } : Room) (va_Pc [.ref h0, .int 0] (fun U => U.heap.size = sz ∧ va_P D vwCl [(h0, .inr (8, [.ref tx, .ref es, .ref i1, .ref i2, .ref wa, .ref ra, .int kp])), (es, .inr (2, [.ref ap, .ref ay, .int (nI k), .int lo])), (ap, .inl (cP, 6, .inr (.inr (.inr (.inr fp))))), (ay, .inl (cI, 6, .inl yr)), (i1, .inr (2, [.ref ap1, .ref ay1, .int (nI k1), .int lo1])), (ap1, .inl (cP, 6, .inr (.inr (.inr (.inr fp1))))), (ay1, .inl (cI, 6, .inl yr1))] U.heap ∧ KW D cI cB cZ cP U ∧ va_D (fun _ => True) [(h0, .inr (8, [.ref tx, .ref es, .ref i1, .ref i2, .ref wa, .ref ra, .int kp])), (es, .inr (2, [.ref ap, .ref ay, .int (nI k), .int lo])), (ap, .inl (cP, 6, .inr (.inr (.inr (.inr fp))))), (ay, .inl (cI, 6, .inl yr)), (i1, .inr (2, [.ref ap1, .ref ay1, .int (nI k1), .int lo1])), (ap1, .inl (cP, 6, .inr (.inr (.inr (.inr fp1))))), (ay1, .inl (cI, 6, .inl yr1))] ∧ EF [(h0, .inr (8, [.ref tx, .ref es, .ref i1, .ref i2, .ref wa, .ref ra, .int kp])), (es, .inr (2, [.ref ap, .ref ay, .int (nI k), .int lo])), (ap, .inl (cP, 6, .inr (.inr (.inr (.inr fp))))), (ay, .inl (cI, 6, .inl yr)), (i1, .inr (2, [.ref ap1, .ref ay1, .int (nI k1), .int lo1])), (ap1, .inl (cP, 6, .inr (.inr (.inr (.inr fp1))))), (ay1, .inl (cI, 6, .inl yr1))] sz (PLA D cI cB Pl) U.heap)) (va_Qi (fun r (_ : Unit) => r = 1) (fun (_ : Unit) (t : State) => va_P D vwCl [(h0, .inr (8, [.ref tx, .ref es, .ref i1, .ref i2, .ref wa, .ref ra, .int (kp ||| ((1 : Int32) <<< ((0 : Int32) &&& 31)))])), (es, .inr (2, [.ref ap, .ref ay, .int (nI k), .int lo])), (ap, .inl (cP, 6, .inr (.inr (.inr (.inr fp))))), (ay, .inl (cI, 6, .inl yr)), (i1, .inr (2, [.ref ap1, .ref ay1, .int (nI k), .int lo])), (ap1, .inl (cP, 6, .inr (.inr (.inr (.inr (cpy fp fp1 6)))))), (ay1, .inl (cI, 6, .inl (cpy yr yr1 6)))] t.heap ∧ va_D (va_A [(h0, .inr (8, [.ref tx, .ref es, .ref i1, .ref i2, .ref wa, .ref ra, .int kp])), (es, .inr (2, [.ref ap, .ref ay, .int (nI k), .int lo])), (ap, .inl (cP, 6, .inr (.inr (.inr (.inr fp))))), (ay, .inl (cI, 6, .inl yr)), (i1, .inr (2, [.ref ap1, .ref ay1, .int (nI k1), .int lo1])), (ap1, .inl (cP, 6, .inr (.inr (.inr (.inr fp1))))), (ay1, .inl (cI, 6, .inl yr1))] sz) [(h0, .inr (8, [.ref tx, .ref es, .ref i1, .ref i2, .ref wa, .ref ra, .int (kp ||| ((1 : Int32) <<< ((0 : Int32) &&& 31)))])), (es, .inr (2, [.ref ap, .ref ay, .int (nI k), .int lo])), (ap, .inl (cP, 6, .inr (.inr (.inr (.inr fp))))), (ay, .inl (cI, 6, .inl yr)), (i1, .inr (2, [.ref ap1, .ref ay1, .int (nI k), .int lo])), (ap1, .inl (cP, 6, .inr (.inr (.inr (.inr (cpy fp fp1 6)))))), (ay1, .inl (cI, 6, .inl (cpy yr yr1 6)))]) (va_A [(h0, .inr (8, [.ref tx, .ref es, .ref i1, .ref i2, .ref wa, .ref ra, .int kp])), (es, .inr (2, [.ref ap, .ref ay, .int (nI k), .int lo])), (ap, .inl (cP, 6, .inr (.inr (.inr (.inr fp))))), (ay, .inl (cI, 6, .inl yr)), (i1, .inr (2, [.ref ap1, .ref ay1, .int (nI k1), .int lo1])), (ap1, .inl (cP, 6, .inr (.inr (.inr (.inr fp1))))), (ay1, .inl (cI, 6, .inl yr1))] sz)) 0 0 (va_A [(h0, .inr (8, [.ref tx, .ref es, .ref i1, .ref i2, .ref wa, .ref ra, .int kp])), (es, .inr (2, [.ref ap, .ref ay, .int (nI k), .int lo])), (ap, .inl (cP, 6, .inr (.inr (.inr (.inr fp))))), (ay, .inl (cI, 6, .inl yr)), (i1, .inr (2, [.ref ap1, .ref ay1, .int (nI k1), .int lo1])), (ap1, .inl (cP, 6, .inr (.inr (.inr (.inr fp1))))), (ay1, .inl (cI, 6, .inl yr1))] sz) := by
  refine Met.ofW (cc := cX6_image) (maxL := 2) (ret := (some .int)) (by decide) rfl ?_
  intro p e s m args below meth c s₁ B hml hv
  obtain ⟨rfl, hsz, hP, hW0, hD0, hE⟩ := hv
  have hx := B.exec
  have hb := B.bytes
  have hr := B.returns
  have hts := atoms_spec (ws := wsX6_image) B.pre
  have hown : s.vm.findClass RX6 = some m.cls := findClass_of_methodNamed B.named
  have hlocks := B.notSynchronized
  have hK := hW0.1
  subst hsz
  have hD := hD0.self (sz := s.heap.size)
  unfold EF at hE
  generalize hAe : va_A [(h0, .inr (8, [.ref tx, .ref es, .ref i1, .ref i2, .ref wa, .ref ra, .int kp])), (es, .inr (2, [.ref ap, .ref ay, .int (nI k), .int lo])), (ap, .inl (cP, 6, .inr (.inr (.inr (.inr fp))))), (ay, .inl (cI, 6, .inl yr)), (i1, .inr (2, [.ref ap1, .ref ay1, .int (nI k1), .int lo1])), (ap1, .inl (cP, 6, .inr (.inr (.inr (.inr fp1))))), (ay1, .inl (cI, 6, .inl yr1))] s.heap.size = A at hD hE ⊢
  have hA : ∀ q : Nat, s.heap.size ≤ q → A q := fun q h => by rw [← hAe]; exact Or.inr h
  have hS : va_S A s.heap s.heap [] := va_S.rf
  have hl := lv_entry ([.ref h0, .int 0]) (n := 2) (Nat.le_of_ble_eq_true rfl)
  rw [lg_entry_eq]
  generalize (lg_sl ([.ref h0, .int 0]) ++ List.replicate (2 - (lg_sl ([.ref h0, .int 0])).length) Slot.unset).toArray = ls at hl ⊢
  have hl : lv_has ls 2 [(0, .ref h0), (1, .int 0)] := hl
  show W p l e ({ frames := 1, cells := 0, slots := 0, locals := 22 } : Room) s m ([.ref h0, .int 0] : List Value).toArray below meth c s.heap [] 0 0 _ (F0 m 0 ls [])
  refine u_genQ (fun Q hQ => ?_)
  refine lv_iload_n hx hb dX6_image_0 rfl (lv_at hl 1 rfl) ?_
  refine lv_if_lt (tgt := 9) hx hb dX6_image_1 (by decide) (fun c_1 => ?_) (fun c_1 => ?_)
  · skip
    exact absurd c_1 (by decide)
  · skip
    refine lv_iload_n hx hb dX6_image_4 rfl (lv_at hl 1 rfl) ?_
    refine lv_iconst (v := 1) hx hb dX6_image_5 (by decide) ?_
    refine lv_icmp_le (tgt := 12) hx hb dX6_image_6 (by decide) (fun c_2 => ?_) (fun c_2 => ?_)
    · skip
      refine lv_aload_n hx hb dX6_image_12 rfl (lv_at hl 0 rfl) ?_
      refine lv_iload_n hx hb dX6_image_13 rfl (lv_at hl 1 rfl) ?_
      have hPc := hP.sub (ws' := [(h0, .inr (8, [.ref tx, .ref es, .ref i1, .ref i2, .ref wa, .ref ra, .int kp]))]) [0] rfl
      refine u_callSr (W.runV (As := [.int 0]) (rest := []) ⟨hx, hb, hml, hown, hts⟩ (c_X6_imageAt_0 l D cI cB cZ cP h0 tx es i1 i2 wa ra kp ) (cwV 1 hts gX6_image_X6_imageAt rfl rfl rfl (by decide +kernel) ⟨Nat.le_of_ble_eq_true rfl, Nat.le_of_ble_eq_true rfl⟩) (pV (q0 := 0) hPc hW0 trivial rfl rfl) rfl rfl hl.1 rfl (lv_room (Nat.le_of_ble_eq_true rfl)) dX6_image_14 ⟨Nat.le_of_ble_eq_true rfl, Nat.le_of_ble_eq_true rfl⟩) ?_
      refine lv_aload_n hx hb dX6_image_17 rfl (lv_at hl 0 rfl) ?_
      refine va_get (D := D) (ci := 8) (v := .ref es) (C := RX6) (T := TX6) (N := 7) hx hb hts (by decide +kernel) hown hK hP 0 rfl rfl 1 (by decide) (hts (.fieldLink RX6 19 "LandDeeds" "estate" "LLandDeeds$Estate;") (by decide +kernel)) (fun _ h9 => h9) rfl dX6_image_18 ?_
      have hPc := hP.sub (ws' := [(i1, .inr (2, [.ref ap1, .ref ay1, .int (nI k1), .int lo1])), (ap1, .inl (cP, 6, .inr (.inr (.inr (.inr fp1))))), (ay1, .inl (cI, 6, .inl yr1)), (es, .inr (2, [.ref ap, .ref ay, .int (nI k), .int lo])), (ap, .inl (cP, 6, .inr (.inr (.inr (.inr fp))))), (ay, .inl (cI, 6, .inl yr))]) [4, 5, 6, 1, 2, 3] rfl
      have hDc := hD.sub (ws' := [(i1, .inr (2, [.ref ap1, .ref ay1, .int (nI k1), .int lo1])), (ap1, .inl (cP, 6, .inr (.inr (.inr (.inr fp1))))), (ay1, .inl (cI, 6, .inl yr1)), (es, .inr (2, [.ref ap, .ref ay, .int (nI k), .int lo])), (ap, .inl (cP, 6, .inr (.inr (.inr (.inr fp))))), (ay, .inl (cI, 6, .inl yr))]) [4, 5, 6, 1, 2, 3] (by decide) rfl
      have hFc := va_free (wc := [(i1, .inr (2, [.ref ap1, .ref ay1, .int (nI k1), .int lo1])), (ap1, .inl (cP, 6, .inr (.inr (.inr (.inr fp1))))), (ay1, .inl (cI, 6, .inl yr1)), (es, .inr (2, [.ref ap, .ref ay, .int (nI k), .int lo])), (ap, .inl (cP, 6, .inr (.inr (.inr (.inr fp))))), (ay, .inl (cI, 6, .inl yr))]) hD hS hA [4, 5, 6, 1, 2, 3] rfl
      refine va_callv (va_runV (As := [.ref es]) (rest := []) ⟨hx, hb, hml, hown, hts⟩ (c_X0_become l D cI cB cZ cP s.heap.size i1 ap1 ay1 k1 lo1 yr1 fp1 es ap ay k lo yr fp ) (cwV 1 hts gX6_image_X0_become rfl rfl rfl (by decide +kernel) ⟨Nat.le_of_ble_eq_true rfl, Nat.le_of_ble_eq_true rfl⟩) (pVQ (q0 := 0) hPc hDc hW0 (EF.sub (fun H1 q9 => EP_of hFP (hE H1 q9)) hS.1 hS.2.1 hFc) rfl rfl) rfl rfl hl.1 rfl (lv_room (Nat.le_of_ble_eq_true rfl)) dX6_image_21 ⟨Nat.le_of_ble_eq_true rfl, Nat.le_of_ble_eq_true rfl⟩) hS (fun q _ h => hFc q h) hFc (fun u t H1 locs ht hvm hw hB hz1 hk1 hS => ?_)
      obtain ⟨hP1, hD1⟩ := hB
      rw [ht] at hP1
      have hw_3 : True := hw
      obtain ⟨hP, hD⟩ := va_join (wr := [(h0, .inr (8, [.ref tx, .ref es, .ref i1, .ref i2, .ref wa, .ref ra, .int kp]))]) (w1 := [(i1, .inr (2, [.ref ap1, .ref ay1, .int (nI k), .int lo])), (ap1, .inl (cP, 6, .inr (.inr (.inr (.inr (cpy fp fp1 6)))))), (ay1, .inl (cI, 6, .inl (cpy yr yr1 6))), (es, .inr (2, [.ref ap, .ref ay, .int (nI k), .int lo])), (ap, .inl (cP, 6, .inr (.inr (.inr (.inr fp))))), (ay, .inl (cI, 6, .inl yr))]) hP hD [4, 5, 6, 1, 2, 3] [0] rfl rfl (by decide) (by decide) hk1 hFc hP1 hD1
      generalize H1 = H at hP hS ⊢
      have hP := hP.sub (ws' := [(h0, .inr (8, [.ref tx, .ref es, .ref i1, .ref i2, .ref wa, .ref ra, .int kp])), (es, .inr (2, [.ref ap, .ref ay, .int (nI k), .int lo])), (ap, .inl (cP, 6, .inr (.inr (.inr (.inr fp))))), (ay, .inl (cI, 6, .inl yr)), (i1, .inr (2, [.ref ap1, .ref ay1, .int (nI k), .int lo])), (ap1, .inl (cP, 6, .inr (.inr (.inr (.inr (cpy fp fp1 6)))))), (ay1, .inl (cI, 6, .inl (cpy yr yr1 6)))]) [0, 4, 5, 6, 1, 2, 3] rfl
      have hD := hD.sub (ws' := [(h0, .inr (8, [.ref tx, .ref es, .ref i1, .ref i2, .ref wa, .ref ra, .int kp])), (es, .inr (2, [.ref ap, .ref ay, .int (nI k), .int lo])), (ap, .inl (cP, 6, .inr (.inr (.inr (.inr fp))))), (ay, .inl (cI, 6, .inl yr)), (i1, .inr (2, [.ref ap1, .ref ay1, .int (nI k), .int lo])), (ap1, .inl (cP, 6, .inr (.inr (.inr (.inr (cpy fp fp1 6)))))), (ay1, .inl (cI, 6, .inl (cpy yr yr1 6)))]) [0, 4, 5, 6, 1, 2, 3] (by decide) rfl
      refine lv_aload_n hx hb dX6_image_24 rfl (lv_at hl 0 rfl) ?_
      refine lv_dup hx hb dX6_image_25 rfl ?_
      refine va_get (D := D) (ci := 8) (v := .int kp) (C := RX6) (T := TX6) (N := 7) hx hb hts (by decide +kernel) hown hK hP 0 rfl rfl 6 (by decide) (hts (.fieldLink RX6 232 "LandDeeds" "keptImages" "I") (by decide +kernel)) (fun _ h9 => h9) rfl dX6_image_26 ?_
      refine lv_iconst (v := 1) hx hb dX6_image_29 (by decide) ?_
      refine lv_iload_n hx hb dX6_image_30 rfl (lv_at hl 1 rfl) ?_
      refine lv_ishl hx hb dX6_image_31 ?_
      refine u_eqi (show (1 : Int32) <<< (0 &&& 31) = (1 : Int32) <<< ((0 : Int32) &&& 31) from rfl) ?_
      refine lv_ior hx hb dX6_image_32 ?_
      refine va_put (D := D) (ci := 8) (v := .int (kp ||| ((1 : Int32) <<< ((0 : Int32) &&& 31)))) (ty := .int) (C := RX6) (T := TX6) (N := 7) hx hb hts (by decide +kernel) tyX6 tyX6_ok nmX6 hown hK hP hD hS 0 rfl rfl 6 (by decide) (hts (.fieldLink RX6 232 "LandDeeds" "keptImages" "I") (by decide +kernel)) (fun _ h9 => h9) rfl (by decide +kernel) rfl rfl (Nat.le_of_ble_eq_true rfl) dX6_image_33 (fun H locs hP hD hS => ?_)
      have hP : va_P D vwCl [(h0, .inr (8, [.ref tx, .ref es, .ref i1, .ref i2, .ref wa, .ref ra, .int (kp ||| ((1 : Int32) <<< ((0 : Int32) &&& 31)))])), (es, .inr (2, [.ref ap, .ref ay, .int (nI k), .int lo])), (ap, .inl (cP, 6, .inr (.inr (.inr (.inr fp))))), (ay, .inl (cI, 6, .inl yr)), (i1, .inr (2, [.ref ap1, .ref ay1, .int (nI k), .int lo])), (ap1, .inl (cP, 6, .inr (.inr (.inr (.inr (cpy fp fp1 6)))))), (ay1, .inl (cI, 6, .inl (cpy yr yr1 6)))] H := hP
      have hD : va_D A [(h0, .inr (8, [.ref tx, .ref es, .ref i1, .ref i2, .ref wa, .ref ra, .int (kp ||| ((1 : Int32) <<< ((0 : Int32) &&& 31)))])), (es, .inr (2, [.ref ap, .ref ay, .int (nI k), .int lo])), (ap, .inl (cP, 6, .inr (.inr (.inr (.inr fp))))), (ay, .inl (cI, 6, .inl yr)), (i1, .inr (2, [.ref ap1, .ref ay1, .int (nI k), .int lo])), (ap1, .inl (cP, 6, .inr (.inr (.inr (.inr (cpy fp fp1 6)))))), (ay1, .inl (cI, 6, .inl (cpy yr yr1 6)))] := hD
      refine lv_iconst (v := 1) hx hb dX6_image_36 (by decide) ?_
      rw [← hQ]
      have hP9 := hP
      have hD9 := hD
      exact W.iret (v := 1) hx hb hr (fun t ht hW => ⟨⟨_, (), rfl, rfl, by rw [ht]; exact hP9, hD9⟩, hS.F ht⟩) hS.2.2 dX6_image_37
    · skip
      exact absurd (by decide) c_2

set_option maxHeartbeats 4000000 in
set_option maxRecDepth 100000 in
theorem c_X6_restore_0 (l : Launch) (D : va_G) (cI cB cZ cP : ClassId) (sz : Nat) (h0 tx es i1 i2 wa ra : Nat) (kp : Int32) (ap ay k : Nat) (lo : Int32) (fp : Nat → Option Nat) (yr : Nat → Int32) (ap1 ay1 k1 : Nat) (lo1 : Int32) (fp1 : Nat → Option Nat) (yr1 : Nat → Int32) (Pl : Nat → Option PD) (hFP : FPin Pl fp1) : Met l yX6_restore wsX6_restore ({ frames := 1, cells := 0, slots := 0, locals := 22 } : Room) (va_Pc [.ref h0, .int 0] (fun U => U.heap.size = sz ∧ va_P D vwCl [(h0, .inr (8, [.ref tx, .ref es, .ref i1, .ref i2, .ref wa, .ref ra, .int kp])), (es, .inr (2, [.ref ap, .ref ay, .int (nI k), .int lo])), (ap, .inl (cP, 6, .inr (.inr (.inr (.inr fp))))), (ay, .inl (cI, 6, .inl yr)), (i1, .inr (2, [.ref ap1, .ref ay1, .int (nI k1), .int lo1])), (ap1, .inl (cP, 6, .inr (.inr (.inr (.inr fp1))))), (ay1, .inl (cI, 6, .inl yr1))] U.heap ∧ KW D cI cB cZ cP U ∧ va_D (fun _ => True) [(h0, .inr (8, [.ref tx, .ref es, .ref i1, .ref i2, .ref wa, .ref ra, .int kp])), (es, .inr (2, [.ref ap, .ref ay, .int (nI k), .int lo])), (ap, .inl (cP, 6, .inr (.inr (.inr (.inr fp))))), (ay, .inl (cI, 6, .inl yr)), (i1, .inr (2, [.ref ap1, .ref ay1, .int (nI k1), .int lo1])), (ap1, .inl (cP, 6, .inr (.inr (.inr (.inr fp1))))), (ay1, .inl (cI, 6, .inl yr1))] ∧ EF [(h0, .inr (8, [.ref tx, .ref es, .ref i1, .ref i2, .ref wa, .ref ra, .int kp])), (es, .inr (2, [.ref ap, .ref ay, .int (nI k), .int lo])), (ap, .inl (cP, 6, .inr (.inr (.inr (.inr fp))))), (ay, .inl (cI, 6, .inl yr)), (i1, .inr (2, [.ref ap1, .ref ay1, .int (nI k1), .int lo1])), (ap1, .inl (cP, 6, .inr (.inr (.inr (.inr fp1))))), (ay1, .inl (cI, 6, .inl yr1))] sz (PLA D cI cB Pl) U.heap)) (va_Qi (fun r (u : Nat × Int32 × (Nat → Option Nat) × (Nat → Int32)) => match u with | (kz, loz, fpz, yrz) => (kp &&& ((1 : Int32) <<< ((0 : Int32) &&& 31)) = 0 ∧ r = -3 ∧ kz = k ∧ loz = lo ∧ fpz = fp ∧ yrz = yr) ∨ (¬ kp &&& ((1 : Int32) <<< ((0 : Int32) &&& 31)) = 0 ∧ r = 1 ∧ kz = k1 ∧ loz = lo1 ∧ fpz = cpy fp1 fp 6 ∧ yrz = cpy yr1 yr 6)) (fun (u : Nat × Int32 × (Nat → Option Nat) × (Nat → Int32)) (t : State) => match u with | (kz, loz, fpz, yrz) => va_P D vwCl [(h0, .inr (8, [.ref tx, .ref es, .ref i1, .ref i2, .ref wa, .ref ra, .int kp])), (es, .inr (2, [.ref ap, .ref ay, .int (nI kz), .int loz])), (ap, .inl (cP, 6, .inr (.inr (.inr (.inr fpz))))), (ay, .inl (cI, 6, .inl yrz)), (i1, .inr (2, [.ref ap1, .ref ay1, .int (nI k1), .int lo1])), (ap1, .inl (cP, 6, .inr (.inr (.inr (.inr fp1))))), (ay1, .inl (cI, 6, .inl yr1))] t.heap ∧ va_D (va_A [(h0, .inr (8, [.ref tx, .ref es, .ref i1, .ref i2, .ref wa, .ref ra, .int kp])), (es, .inr (2, [.ref ap, .ref ay, .int (nI k), .int lo])), (ap, .inl (cP, 6, .inr (.inr (.inr (.inr fp))))), (ay, .inl (cI, 6, .inl yr)), (i1, .inr (2, [.ref ap1, .ref ay1, .int (nI k1), .int lo1])), (ap1, .inl (cP, 6, .inr (.inr (.inr (.inr fp1))))), (ay1, .inl (cI, 6, .inl yr1))] sz) [(h0, .inr (8, [.ref tx, .ref es, .ref i1, .ref i2, .ref wa, .ref ra, .int kp])), (es, .inr (2, [.ref ap, .ref ay, .int (nI kz), .int loz])), (ap, .inl (cP, 6, .inr (.inr (.inr (.inr fpz))))), (ay, .inl (cI, 6, .inl yrz)), (i1, .inr (2, [.ref ap1, .ref ay1, .int (nI k1), .int lo1])), (ap1, .inl (cP, 6, .inr (.inr (.inr (.inr fp1))))), (ay1, .inl (cI, 6, .inl yr1))]) (va_A [(h0, .inr (8, [.ref tx, .ref es, .ref i1, .ref i2, .ref wa, .ref ra, .int kp])), (es, .inr (2, [.ref ap, .ref ay, .int (nI k), .int lo])), (ap, .inl (cP, 6, .inr (.inr (.inr (.inr fp))))), (ay, .inl (cI, 6, .inl yr)), (i1, .inr (2, [.ref ap1, .ref ay1, .int (nI k1), .int lo1])), (ap1, .inl (cP, 6, .inr (.inr (.inr (.inr fp1))))), (ay1, .inl (cI, 6, .inl yr1))] sz)) 0 0 (va_A [(h0, .inr (8, [.ref tx, .ref es, .ref i1, .ref i2, .ref wa, .ref ra, .int kp])), (es, .inr (2, [.ref ap, .ref ay, .int (nI k), .int lo])), (ap, .inl (cP, 6, .inr (.inr (.inr (.inr fp))))), (ay, .inl (cI, 6, .inl yr)), (i1, .inr (2, [.ref ap1, .ref ay1, .int (nI k1), .int lo1])), (ap1, .inl (cP, 6, .inr (.inr (.inr (.inr fp1))))), (ay1, .inl (cI, 6, .inl yr1))] sz) := by
  refine Met.ofW (cc := cX6_restore) (maxL := 2) (ret := (some .int)) (by decide) rfl ?_
  intro p e s m args below meth c s₁ B hml hv
  obtain ⟨rfl, hsz, hP, hW0, hD0, hE⟩ := hv
  have hx := B.exec
  have hb := B.bytes
  have hr := B.returns
  have hts := atoms_spec (ws := wsX6_restore) B.pre
  have hown : s.vm.findClass RX6 = some m.cls := findClass_of_methodNamed B.named
  have hlocks := B.notSynchronized
  have hK := hW0.1
  subst hsz
  have hD := hD0.self (sz := s.heap.size)
  unfold EF at hE
  generalize hAe : va_A [(h0, .inr (8, [.ref tx, .ref es, .ref i1, .ref i2, .ref wa, .ref ra, .int kp])), (es, .inr (2, [.ref ap, .ref ay, .int (nI k), .int lo])), (ap, .inl (cP, 6, .inr (.inr (.inr (.inr fp))))), (ay, .inl (cI, 6, .inl yr)), (i1, .inr (2, [.ref ap1, .ref ay1, .int (nI k1), .int lo1])), (ap1, .inl (cP, 6, .inr (.inr (.inr (.inr fp1))))), (ay1, .inl (cI, 6, .inl yr1))] s.heap.size = A at hD hE ⊢
  have hA : ∀ q : Nat, s.heap.size ≤ q → A q := fun q h => by rw [← hAe]; exact Or.inr h
  have hS : va_S A s.heap s.heap [] := va_S.rf
  have hl := lv_entry ([.ref h0, .int 0]) (n := 2) (Nat.le_of_ble_eq_true rfl)
  rw [lg_entry_eq]
  generalize (lg_sl ([.ref h0, .int 0]) ++ List.replicate (2 - (lg_sl ([.ref h0, .int 0])).length) Slot.unset).toArray = ls at hl ⊢
  have hl : lv_has ls 2 [(0, .ref h0), (1, .int 0)] := hl
  show W p l e ({ frames := 1, cells := 0, slots := 0, locals := 22 } : Room) s m ([.ref h0, .int 0] : List Value).toArray below meth c s.heap [] 0 0 _ (F0 m 0 ls [])
  refine u_genQ (fun Q hQ => ?_)
  refine lv_iload_n hx hb dX6_restore_0 rfl (lv_at hl 1 rfl) ?_
  refine lv_if_lt (tgt := 9) hx hb dX6_restore_1 (by decide) (fun c_1 => ?_) (fun c_1 => ?_)
  · skip
    exact absurd c_1 (by decide)
  · skip
    refine lv_iload_n hx hb dX6_restore_4 rfl (lv_at hl 1 rfl) ?_
    refine lv_iconst (v := 1) hx hb dX6_restore_5 (by decide) ?_
    refine lv_icmp_le (tgt := 12) hx hb dX6_restore_6 (by decide) (fun c_2 => ?_) (fun c_2 => ?_)
    · skip
      refine lv_aload_n hx hb dX6_restore_12 rfl (lv_at hl 0 rfl) ?_
      refine va_get (D := D) (ci := 8) (v := .int kp) (C := RX6) (T := TX6) (N := 7) hx hb hts (by decide +kernel) hown hK hP 0 rfl rfl 6 (by decide) (hts (.fieldLink RX6 232 "LandDeeds" "keptImages" "I") (by decide +kernel)) (fun _ h9 => h9) rfl dX6_restore_13 ?_
      refine lv_iconst (v := 1) hx hb dX6_restore_16 (by decide) ?_
      refine lv_iload_n hx hb dX6_restore_17 rfl (lv_at hl 1 rfl) ?_
      refine lv_ishl hx hb dX6_restore_18 ?_
      refine u_eqi (show (1 : Int32) <<< (0 &&& 31) = (1 : Int32) <<< ((0 : Int32) &&& 31) from rfl) ?_
      refine lv_iand hx hb dX6_restore_19 ?_
      refine lv_if_ne (tgt := 26) hx hb dX6_restore_20 (by decide) (fun c_3 => ?_) (fun c_3 => ?_)
      · skip
        refine lv_aload_n hx hb dX6_restore_26 rfl (lv_at hl 0 rfl) ?_
        refine va_get (D := D) (ci := 8) (v := .ref es) (C := RX6) (T := TX6) (N := 7) hx hb hts (by decide +kernel) hown hK hP 0 rfl rfl 1 (by decide) (hts (.fieldLink RX6 19 "LandDeeds" "estate" "LLandDeeds$Estate;") (by decide +kernel)) (fun _ h9 => h9) rfl dX6_restore_27 ?_
        refine lv_aload_n hx hb dX6_restore_30 rfl (lv_at hl 0 rfl) ?_
        refine lv_iload_n hx hb dX6_restore_31 rfl (lv_at hl 1 rfl) ?_
        have hPc := hP.sub (ws' := [(h0, .inr (8, [.ref tx, .ref es, .ref i1, .ref i2, .ref wa, .ref ra, .int kp]))]) [0] rfl
        refine u_callSr (W.runV (As := [.int 0]) (rest := [.ref es]) ⟨hx, hb, hml, hown, hts⟩ (c_X6_imageAt_0 l D cI cB cZ cP h0 tx es i1 i2 wa ra kp ) (cwV 1 hts gX6_restore_X6_imageAt rfl rfl rfl (by decide +kernel) ⟨Nat.le_of_ble_eq_true rfl, Nat.le_of_ble_eq_true rfl⟩) (pV (q0 := 0) hPc hW0 trivial rfl rfl) rfl rfl hl.1 rfl (lv_room (Nat.le_of_ble_eq_true rfl)) dX6_restore_32 ⟨Nat.le_of_ble_eq_true rfl, Nat.le_of_ble_eq_true rfl⟩) ?_
        have hPc := hP.sub (ws' := [(es, .inr (2, [.ref ap, .ref ay, .int (nI k), .int lo])), (ap, .inl (cP, 6, .inr (.inr (.inr (.inr fp))))), (ay, .inl (cI, 6, .inl yr)), (i1, .inr (2, [.ref ap1, .ref ay1, .int (nI k1), .int lo1])), (ap1, .inl (cP, 6, .inr (.inr (.inr (.inr fp1))))), (ay1, .inl (cI, 6, .inl yr1))]) [1, 2, 3, 4, 5, 6] rfl
        have hDc := hD.sub (ws' := [(es, .inr (2, [.ref ap, .ref ay, .int (nI k), .int lo])), (ap, .inl (cP, 6, .inr (.inr (.inr (.inr fp))))), (ay, .inl (cI, 6, .inl yr)), (i1, .inr (2, [.ref ap1, .ref ay1, .int (nI k1), .int lo1])), (ap1, .inl (cP, 6, .inr (.inr (.inr (.inr fp1))))), (ay1, .inl (cI, 6, .inl yr1))]) [1, 2, 3, 4, 5, 6] (by decide) rfl
        have hFc := va_free (wc := [(es, .inr (2, [.ref ap, .ref ay, .int (nI k), .int lo])), (ap, .inl (cP, 6, .inr (.inr (.inr (.inr fp))))), (ay, .inl (cI, 6, .inl yr)), (i1, .inr (2, [.ref ap1, .ref ay1, .int (nI k1), .int lo1])), (ap1, .inl (cP, 6, .inr (.inr (.inr (.inr fp1))))), (ay1, .inl (cI, 6, .inl yr1))]) hD hS hA [1, 2, 3, 4, 5, 6] rfl
        refine va_callv (va_runV (As := [.ref i1]) (rest := []) ⟨hx, hb, hml, hown, hts⟩ (c_X0_become l D cI cB cZ cP s.heap.size es ap ay k lo yr fp i1 ap1 ay1 k1 lo1 yr1 fp1 ) (cwV 1 hts gX6_restore_X0_become rfl rfl rfl (by decide +kernel) ⟨Nat.le_of_ble_eq_true rfl, Nat.le_of_ble_eq_true rfl⟩) (pVQ (q0 := 0) hPc hDc hW0 (EF.sub (fun H1 q9 => EP_of hFP (hE H1 q9)) hS.1 hS.2.1 hFc) rfl rfl) rfl rfl hl.1 rfl (lv_room (Nat.le_of_ble_eq_true rfl)) dX6_restore_35 ⟨Nat.le_of_ble_eq_true rfl, Nat.le_of_ble_eq_true rfl⟩) hS (fun q _ h => hFc q h) hFc (fun u t H1 locs ht hvm hw hB hz1 hk1 hS => ?_)
        obtain ⟨hP1, hD1⟩ := hB
        rw [ht] at hP1
        have hw_4 : True := hw
        obtain ⟨hP, hD⟩ := va_join (wr := [(h0, .inr (8, [.ref tx, .ref es, .ref i1, .ref i2, .ref wa, .ref ra, .int kp]))]) (w1 := [(es, .inr (2, [.ref ap, .ref ay, .int (nI k1), .int lo1])), (ap, .inl (cP, 6, .inr (.inr (.inr (.inr (cpy fp1 fp 6)))))), (ay, .inl (cI, 6, .inl (cpy yr1 yr 6))), (i1, .inr (2, [.ref ap1, .ref ay1, .int (nI k1), .int lo1])), (ap1, .inl (cP, 6, .inr (.inr (.inr (.inr fp1))))), (ay1, .inl (cI, 6, .inl yr1))]) hP hD [1, 2, 3, 4, 5, 6] [0] rfl rfl (by decide) (by decide) hk1 hFc hP1 hD1
        generalize H1 = H at hP hS ⊢
        have hP := hP.sub (ws' := [(h0, .inr (8, [.ref tx, .ref es, .ref i1, .ref i2, .ref wa, .ref ra, .int kp])), (es, .inr (2, [.ref ap, .ref ay, .int (nI k1), .int lo1])), (ap, .inl (cP, 6, .inr (.inr (.inr (.inr (cpy fp1 fp 6)))))), (ay, .inl (cI, 6, .inl (cpy yr1 yr 6))), (i1, .inr (2, [.ref ap1, .ref ay1, .int (nI k1), .int lo1])), (ap1, .inl (cP, 6, .inr (.inr (.inr (.inr fp1))))), (ay1, .inl (cI, 6, .inl yr1))]) [0, 1, 2, 3, 4, 5, 6] rfl
        have hD := hD.sub (ws' := [(h0, .inr (8, [.ref tx, .ref es, .ref i1, .ref i2, .ref wa, .ref ra, .int kp])), (es, .inr (2, [.ref ap, .ref ay, .int (nI k1), .int lo1])), (ap, .inl (cP, 6, .inr (.inr (.inr (.inr (cpy fp1 fp 6)))))), (ay, .inl (cI, 6, .inl (cpy yr1 yr 6))), (i1, .inr (2, [.ref ap1, .ref ay1, .int (nI k1), .int lo1])), (ap1, .inl (cP, 6, .inr (.inr (.inr (.inr fp1))))), (ay1, .inl (cI, 6, .inl yr1))]) [0, 1, 2, 3, 4, 5, 6] (by decide) rfl
        refine lv_iconst (v := 1) hx hb dX6_restore_38 (by decide) ?_
        rw [← hQ]
        have hP9 := hP
        have hD9 := hD
        exact W.iret (v := 1) hx hb hr (fun t ht hW => ⟨⟨_, (k1, lo1, cpy fp1 fp 6, cpy yr1 yr 6), rfl, Or.inr ⟨c_3, rfl, rfl, rfl, rfl, rfl⟩, by rw [ht]; exact hP9, hD9⟩, hS.F ht⟩) hS.2.2 dX6_restore_39
      · skip
        refine lv_bipush (v := (-3)) hx hb dX6_restore_23 (by decide) ?_
        rw [← hQ]
        have hP9 := hP
        have hD9 := hD
        exact W.iret (v := (-3)) hx hb hr (fun t ht hW => ⟨⟨_, (k, lo, fp, yr), rfl, Or.inl ⟨c_3, rfl, rfl, rfl, rfl, rfl⟩, by rw [ht]; exact hP9, hD9⟩, hS.F ht⟩) hS.2.2 dX6_restore_25
    · skip
      exact absurd (by decide) c_2

set_option maxHeartbeats 4000000 in
set_option maxRecDepth 100000 in
theorem c_X6_image_1 (l : Launch) (D : va_G) (cI cB cZ cP : ClassId) (sz : Nat) (h0 tx es i1 i2 wa ra : Nat) (kp : Int32) (ap ay k : Nat) (lo : Int32) (fp : Nat → Option Nat) (yr : Nat → Int32) (ap2 ay2 k2 : Nat) (lo2 : Int32) (fp2 : Nat → Option Nat) (yr2 : Nat → Int32) (Pl : Nat → Option PD) (hFP : FPin Pl fp) : Met l yX6_image wsX6_image ({ frames := 1, cells := 0, slots := 0, locals := 22 } : Room) (va_Pc [.ref h0, .int 1] (fun U => U.heap.size = sz ∧ va_P D vwCl [(h0, .inr (8, [.ref tx, .ref es, .ref i1, .ref i2, .ref wa, .ref ra, .int kp])), (es, .inr (2, [.ref ap, .ref ay, .int (nI k), .int lo])), (ap, .inl (cP, 6, .inr (.inr (.inr (.inr fp))))), (ay, .inl (cI, 6, .inl yr)), (i2, .inr (2, [.ref ap2, .ref ay2, .int (nI k2), .int lo2])), (ap2, .inl (cP, 6, .inr (.inr (.inr (.inr fp2))))), (ay2, .inl (cI, 6, .inl yr2))] U.heap ∧ KW D cI cB cZ cP U ∧ va_D (fun _ => True) [(h0, .inr (8, [.ref tx, .ref es, .ref i1, .ref i2, .ref wa, .ref ra, .int kp])), (es, .inr (2, [.ref ap, .ref ay, .int (nI k), .int lo])), (ap, .inl (cP, 6, .inr (.inr (.inr (.inr fp))))), (ay, .inl (cI, 6, .inl yr)), (i2, .inr (2, [.ref ap2, .ref ay2, .int (nI k2), .int lo2])), (ap2, .inl (cP, 6, .inr (.inr (.inr (.inr fp2))))), (ay2, .inl (cI, 6, .inl yr2))] ∧ EF [(h0, .inr (8, [.ref tx, .ref es, .ref i1, .ref i2, .ref wa, .ref ra, .int kp])), (es, .inr (2, [.ref ap, .ref ay, .int (nI k), .int lo])), (ap, .inl (cP, 6, .inr (.inr (.inr (.inr fp))))), (ay, .inl (cI, 6, .inl yr)), (i2, .inr (2, [.ref ap2, .ref ay2, .int (nI k2), .int lo2])), (ap2, .inl (cP, 6, .inr (.inr (.inr (.inr fp2))))), (ay2, .inl (cI, 6, .inl yr2))] sz (PLA D cI cB Pl) U.heap)) (va_Qi (fun r (_ : Unit) => r = 1) (fun (_ : Unit) (t : State) => va_P D vwCl [(h0, .inr (8, [.ref tx, .ref es, .ref i1, .ref i2, .ref wa, .ref ra, .int (kp ||| ((1 : Int32) <<< ((1 : Int32) &&& 31)))])), (es, .inr (2, [.ref ap, .ref ay, .int (nI k), .int lo])), (ap, .inl (cP, 6, .inr (.inr (.inr (.inr fp))))), (ay, .inl (cI, 6, .inl yr)), (i2, .inr (2, [.ref ap2, .ref ay2, .int (nI k), .int lo])), (ap2, .inl (cP, 6, .inr (.inr (.inr (.inr (cpy fp fp2 6)))))), (ay2, .inl (cI, 6, .inl (cpy yr yr2 6)))] t.heap ∧ va_D (va_A [(h0, .inr (8, [.ref tx, .ref es, .ref i1, .ref i2, .ref wa, .ref ra, .int kp])), (es, .inr (2, [.ref ap, .ref ay, .int (nI k), .int lo])), (ap, .inl (cP, 6, .inr (.inr (.inr (.inr fp))))), (ay, .inl (cI, 6, .inl yr)), (i2, .inr (2, [.ref ap2, .ref ay2, .int (nI k2), .int lo2])), (ap2, .inl (cP, 6, .inr (.inr (.inr (.inr fp2))))), (ay2, .inl (cI, 6, .inl yr2))] sz) [(h0, .inr (8, [.ref tx, .ref es, .ref i1, .ref i2, .ref wa, .ref ra, .int (kp ||| ((1 : Int32) <<< ((1 : Int32) &&& 31)))])), (es, .inr (2, [.ref ap, .ref ay, .int (nI k), .int lo])), (ap, .inl (cP, 6, .inr (.inr (.inr (.inr fp))))), (ay, .inl (cI, 6, .inl yr)), (i2, .inr (2, [.ref ap2, .ref ay2, .int (nI k), .int lo])), (ap2, .inl (cP, 6, .inr (.inr (.inr (.inr (cpy fp fp2 6)))))), (ay2, .inl (cI, 6, .inl (cpy yr yr2 6)))]) (va_A [(h0, .inr (8, [.ref tx, .ref es, .ref i1, .ref i2, .ref wa, .ref ra, .int kp])), (es, .inr (2, [.ref ap, .ref ay, .int (nI k), .int lo])), (ap, .inl (cP, 6, .inr (.inr (.inr (.inr fp))))), (ay, .inl (cI, 6, .inl yr)), (i2, .inr (2, [.ref ap2, .ref ay2, .int (nI k2), .int lo2])), (ap2, .inl (cP, 6, .inr (.inr (.inr (.inr fp2))))), (ay2, .inl (cI, 6, .inl yr2))] sz)) 0 0 (va_A [(h0, .inr (8, [.ref tx, .ref es, .ref i1, .ref i2, .ref wa, .ref ra, .int kp])), (es, .inr (2, [.ref ap, .ref ay, .int (nI k), .int lo])), (ap, .inl (cP, 6, .inr (.inr (.inr (.inr fp))))), (ay, .inl (cI, 6, .inl yr)), (i2, .inr (2, [.ref ap2, .ref ay2, .int (nI k2), .int lo2])), (ap2, .inl (cP, 6, .inr (.inr (.inr (.inr fp2))))), (ay2, .inl (cI, 6, .inl yr2))] sz) := by
  refine Met.ofW (cc := cX6_image) (maxL := 2) (ret := (some .int)) (by decide) rfl ?_
  intro p e s m args below meth c s₁ B hml hv
  obtain ⟨rfl, hsz, hP, hW0, hD0, hE⟩ := hv
  have hx := B.exec
  have hb := B.bytes
  have hr := B.returns
  have hts := atoms_spec (ws := wsX6_image) B.pre
  have hown : s.vm.findClass RX6 = some m.cls := findClass_of_methodNamed B.named
  have hlocks := B.notSynchronized
  have hK := hW0.1
  subst hsz
  have hD := hD0.self (sz := s.heap.size)
  unfold EF at hE
  generalize hAe : va_A [(h0, .inr (8, [.ref tx, .ref es, .ref i1, .ref i2, .ref wa, .ref ra, .int kp])), (es, .inr (2, [.ref ap, .ref ay, .int (nI k), .int lo])), (ap, .inl (cP, 6, .inr (.inr (.inr (.inr fp))))), (ay, .inl (cI, 6, .inl yr)), (i2, .inr (2, [.ref ap2, .ref ay2, .int (nI k2), .int lo2])), (ap2, .inl (cP, 6, .inr (.inr (.inr (.inr fp2))))), (ay2, .inl (cI, 6, .inl yr2))] s.heap.size = A at hD hE ⊢
  have hA : ∀ q : Nat, s.heap.size ≤ q → A q := fun q h => by rw [← hAe]; exact Or.inr h
  have hS : va_S A s.heap s.heap [] := va_S.rf
  have hl := lv_entry ([.ref h0, .int 1]) (n := 2) (Nat.le_of_ble_eq_true rfl)
  rw [lg_entry_eq]
  generalize (lg_sl ([.ref h0, .int 1]) ++ List.replicate (2 - (lg_sl ([.ref h0, .int 1])).length) Slot.unset).toArray = ls at hl ⊢
  have hl : lv_has ls 2 [(0, .ref h0), (1, .int 1)] := hl
  show W p l e ({ frames := 1, cells := 0, slots := 0, locals := 22 } : Room) s m ([.ref h0, .int 1] : List Value).toArray below meth c s.heap [] 0 0 _ (F0 m 0 ls [])
  refine u_genQ (fun Q hQ => ?_)
  refine lv_iload_n hx hb dX6_image_0 rfl (lv_at hl 1 rfl) ?_
  refine lv_if_lt (tgt := 9) hx hb dX6_image_1 (by decide) (fun c_1 => ?_) (fun c_1 => ?_)
  · skip
    exact absurd c_1 (by decide)
  · skip
    refine lv_iload_n hx hb dX6_image_4 rfl (lv_at hl 1 rfl) ?_
    refine lv_iconst (v := 1) hx hb dX6_image_5 (by decide) ?_
    refine lv_icmp_le (tgt := 12) hx hb dX6_image_6 (by decide) (fun c_2 => ?_) (fun c_2 => ?_)
    · skip
      refine lv_aload_n hx hb dX6_image_12 rfl (lv_at hl 0 rfl) ?_
      refine lv_iload_n hx hb dX6_image_13 rfl (lv_at hl 1 rfl) ?_
      have hPc := hP.sub (ws' := [(h0, .inr (8, [.ref tx, .ref es, .ref i1, .ref i2, .ref wa, .ref ra, .int kp]))]) [0] rfl
      refine u_callSr (W.runV (As := [.int 1]) (rest := []) ⟨hx, hb, hml, hown, hts⟩ (c_X6_imageAt_1 l D cI cB cZ cP h0 tx es i1 i2 wa ra kp ) (cwV 1 hts gX6_image_X6_imageAt rfl rfl rfl (by decide +kernel) ⟨Nat.le_of_ble_eq_true rfl, Nat.le_of_ble_eq_true rfl⟩) (pV (q0 := 0) hPc hW0 trivial rfl rfl) rfl rfl hl.1 rfl (lv_room (Nat.le_of_ble_eq_true rfl)) dX6_image_14 ⟨Nat.le_of_ble_eq_true rfl, Nat.le_of_ble_eq_true rfl⟩) ?_
      refine lv_aload_n hx hb dX6_image_17 rfl (lv_at hl 0 rfl) ?_
      refine va_get (D := D) (ci := 8) (v := .ref es) (C := RX6) (T := TX6) (N := 7) hx hb hts (by decide +kernel) hown hK hP 0 rfl rfl 1 (by decide) (hts (.fieldLink RX6 19 "LandDeeds" "estate" "LLandDeeds$Estate;") (by decide +kernel)) (fun _ h9 => h9) rfl dX6_image_18 ?_
      have hPc := hP.sub (ws' := [(i2, .inr (2, [.ref ap2, .ref ay2, .int (nI k2), .int lo2])), (ap2, .inl (cP, 6, .inr (.inr (.inr (.inr fp2))))), (ay2, .inl (cI, 6, .inl yr2)), (es, .inr (2, [.ref ap, .ref ay, .int (nI k), .int lo])), (ap, .inl (cP, 6, .inr (.inr (.inr (.inr fp))))), (ay, .inl (cI, 6, .inl yr))]) [4, 5, 6, 1, 2, 3] rfl
      have hDc := hD.sub (ws' := [(i2, .inr (2, [.ref ap2, .ref ay2, .int (nI k2), .int lo2])), (ap2, .inl (cP, 6, .inr (.inr (.inr (.inr fp2))))), (ay2, .inl (cI, 6, .inl yr2)), (es, .inr (2, [.ref ap, .ref ay, .int (nI k), .int lo])), (ap, .inl (cP, 6, .inr (.inr (.inr (.inr fp))))), (ay, .inl (cI, 6, .inl yr))]) [4, 5, 6, 1, 2, 3] (by decide) rfl
      have hFc := va_free (wc := [(i2, .inr (2, [.ref ap2, .ref ay2, .int (nI k2), .int lo2])), (ap2, .inl (cP, 6, .inr (.inr (.inr (.inr fp2))))), (ay2, .inl (cI, 6, .inl yr2)), (es, .inr (2, [.ref ap, .ref ay, .int (nI k), .int lo])), (ap, .inl (cP, 6, .inr (.inr (.inr (.inr fp))))), (ay, .inl (cI, 6, .inl yr))]) hD hS hA [4, 5, 6, 1, 2, 3] rfl
      refine va_callv (va_runV (As := [.ref es]) (rest := []) ⟨hx, hb, hml, hown, hts⟩ (c_X0_become l D cI cB cZ cP s.heap.size i2 ap2 ay2 k2 lo2 yr2 fp2 es ap ay k lo yr fp ) (cwV 1 hts gX6_image_X0_become rfl rfl rfl (by decide +kernel) ⟨Nat.le_of_ble_eq_true rfl, Nat.le_of_ble_eq_true rfl⟩) (pVQ (q0 := 0) hPc hDc hW0 (EF.sub (fun H1 q9 => EP_of hFP (hE H1 q9)) hS.1 hS.2.1 hFc) rfl rfl) rfl rfl hl.1 rfl (lv_room (Nat.le_of_ble_eq_true rfl)) dX6_image_21 ⟨Nat.le_of_ble_eq_true rfl, Nat.le_of_ble_eq_true rfl⟩) hS (fun q _ h => hFc q h) hFc (fun u t H1 locs ht hvm hw hB hz1 hk1 hS => ?_)
      obtain ⟨hP1, hD1⟩ := hB
      rw [ht] at hP1
      have hw_3 : True := hw
      obtain ⟨hP, hD⟩ := va_join (wr := [(h0, .inr (8, [.ref tx, .ref es, .ref i1, .ref i2, .ref wa, .ref ra, .int kp]))]) (w1 := [(i2, .inr (2, [.ref ap2, .ref ay2, .int (nI k), .int lo])), (ap2, .inl (cP, 6, .inr (.inr (.inr (.inr (cpy fp fp2 6)))))), (ay2, .inl (cI, 6, .inl (cpy yr yr2 6))), (es, .inr (2, [.ref ap, .ref ay, .int (nI k), .int lo])), (ap, .inl (cP, 6, .inr (.inr (.inr (.inr fp))))), (ay, .inl (cI, 6, .inl yr))]) hP hD [4, 5, 6, 1, 2, 3] [0] rfl rfl (by decide) (by decide) hk1 hFc hP1 hD1
      generalize H1 = H at hP hS ⊢
      have hP := hP.sub (ws' := [(h0, .inr (8, [.ref tx, .ref es, .ref i1, .ref i2, .ref wa, .ref ra, .int kp])), (es, .inr (2, [.ref ap, .ref ay, .int (nI k), .int lo])), (ap, .inl (cP, 6, .inr (.inr (.inr (.inr fp))))), (ay, .inl (cI, 6, .inl yr)), (i2, .inr (2, [.ref ap2, .ref ay2, .int (nI k), .int lo])), (ap2, .inl (cP, 6, .inr (.inr (.inr (.inr (cpy fp fp2 6)))))), (ay2, .inl (cI, 6, .inl (cpy yr yr2 6)))]) [0, 4, 5, 6, 1, 2, 3] rfl
      have hD := hD.sub (ws' := [(h0, .inr (8, [.ref tx, .ref es, .ref i1, .ref i2, .ref wa, .ref ra, .int kp])), (es, .inr (2, [.ref ap, .ref ay, .int (nI k), .int lo])), (ap, .inl (cP, 6, .inr (.inr (.inr (.inr fp))))), (ay, .inl (cI, 6, .inl yr)), (i2, .inr (2, [.ref ap2, .ref ay2, .int (nI k), .int lo])), (ap2, .inl (cP, 6, .inr (.inr (.inr (.inr (cpy fp fp2 6)))))), (ay2, .inl (cI, 6, .inl (cpy yr yr2 6)))]) [0, 4, 5, 6, 1, 2, 3] (by decide) rfl
      refine lv_aload_n hx hb dX6_image_24 rfl (lv_at hl 0 rfl) ?_
      refine lv_dup hx hb dX6_image_25 rfl ?_
      refine va_get (D := D) (ci := 8) (v := .int kp) (C := RX6) (T := TX6) (N := 7) hx hb hts (by decide +kernel) hown hK hP 0 rfl rfl 6 (by decide) (hts (.fieldLink RX6 232 "LandDeeds" "keptImages" "I") (by decide +kernel)) (fun _ h9 => h9) rfl dX6_image_26 ?_
      refine lv_iconst (v := 1) hx hb dX6_image_29 (by decide) ?_
      refine lv_iload_n hx hb dX6_image_30 rfl (lv_at hl 1 rfl) ?_
      refine lv_ishl hx hb dX6_image_31 ?_
      refine u_eqi (show (1 : Int32) <<< (1 &&& 31) = (1 : Int32) <<< ((1 : Int32) &&& 31) from rfl) ?_
      refine lv_ior hx hb dX6_image_32 ?_
      refine va_put (D := D) (ci := 8) (v := .int (kp ||| ((1 : Int32) <<< ((1 : Int32) &&& 31)))) (ty := .int) (C := RX6) (T := TX6) (N := 7) hx hb hts (by decide +kernel) tyX6 tyX6_ok nmX6 hown hK hP hD hS 0 rfl rfl 6 (by decide) (hts (.fieldLink RX6 232 "LandDeeds" "keptImages" "I") (by decide +kernel)) (fun _ h9 => h9) rfl (by decide +kernel) rfl rfl (Nat.le_of_ble_eq_true rfl) dX6_image_33 (fun H locs hP hD hS => ?_)
      have hP : va_P D vwCl [(h0, .inr (8, [.ref tx, .ref es, .ref i1, .ref i2, .ref wa, .ref ra, .int (kp ||| ((1 : Int32) <<< ((1 : Int32) &&& 31)))])), (es, .inr (2, [.ref ap, .ref ay, .int (nI k), .int lo])), (ap, .inl (cP, 6, .inr (.inr (.inr (.inr fp))))), (ay, .inl (cI, 6, .inl yr)), (i2, .inr (2, [.ref ap2, .ref ay2, .int (nI k), .int lo])), (ap2, .inl (cP, 6, .inr (.inr (.inr (.inr (cpy fp fp2 6)))))), (ay2, .inl (cI, 6, .inl (cpy yr yr2 6)))] H := hP
      have hD : va_D A [(h0, .inr (8, [.ref tx, .ref es, .ref i1, .ref i2, .ref wa, .ref ra, .int (kp ||| ((1 : Int32) <<< ((1 : Int32) &&& 31)))])), (es, .inr (2, [.ref ap, .ref ay, .int (nI k), .int lo])), (ap, .inl (cP, 6, .inr (.inr (.inr (.inr fp))))), (ay, .inl (cI, 6, .inl yr)), (i2, .inr (2, [.ref ap2, .ref ay2, .int (nI k), .int lo])), (ap2, .inl (cP, 6, .inr (.inr (.inr (.inr (cpy fp fp2 6)))))), (ay2, .inl (cI, 6, .inl (cpy yr yr2 6)))] := hD
      refine lv_iconst (v := 1) hx hb dX6_image_36 (by decide) ?_
      rw [← hQ]
      have hP9 := hP
      have hD9 := hD
      exact W.iret (v := 1) hx hb hr (fun t ht hW => ⟨⟨_, (), rfl, rfl, by rw [ht]; exact hP9, hD9⟩, hS.F ht⟩) hS.2.2 dX6_image_37
    · skip
      exact absurd (by decide) c_2

set_option maxHeartbeats 4000000 in
set_option maxRecDepth 100000 in
theorem c_X6_restore_1 (l : Launch) (D : va_G) (cI cB cZ cP : ClassId) (sz : Nat) (h0 tx es i1 i2 wa ra : Nat) (kp : Int32) (ap ay k : Nat) (lo : Int32) (fp : Nat → Option Nat) (yr : Nat → Int32) (ap2 ay2 k2 : Nat) (lo2 : Int32) (fp2 : Nat → Option Nat) (yr2 : Nat → Int32) (Pl : Nat → Option PD) (hFP : FPin Pl fp2) : Met l yX6_restore wsX6_restore ({ frames := 1, cells := 0, slots := 0, locals := 22 } : Room) (va_Pc [.ref h0, .int 1] (fun U => U.heap.size = sz ∧ va_P D vwCl [(h0, .inr (8, [.ref tx, .ref es, .ref i1, .ref i2, .ref wa, .ref ra, .int kp])), (es, .inr (2, [.ref ap, .ref ay, .int (nI k), .int lo])), (ap, .inl (cP, 6, .inr (.inr (.inr (.inr fp))))), (ay, .inl (cI, 6, .inl yr)), (i2, .inr (2, [.ref ap2, .ref ay2, .int (nI k2), .int lo2])), (ap2, .inl (cP, 6, .inr (.inr (.inr (.inr fp2))))), (ay2, .inl (cI, 6, .inl yr2))] U.heap ∧ KW D cI cB cZ cP U ∧ va_D (fun _ => True) [(h0, .inr (8, [.ref tx, .ref es, .ref i1, .ref i2, .ref wa, .ref ra, .int kp])), (es, .inr (2, [.ref ap, .ref ay, .int (nI k), .int lo])), (ap, .inl (cP, 6, .inr (.inr (.inr (.inr fp))))), (ay, .inl (cI, 6, .inl yr)), (i2, .inr (2, [.ref ap2, .ref ay2, .int (nI k2), .int lo2])), (ap2, .inl (cP, 6, .inr (.inr (.inr (.inr fp2))))), (ay2, .inl (cI, 6, .inl yr2))] ∧ EF [(h0, .inr (8, [.ref tx, .ref es, .ref i1, .ref i2, .ref wa, .ref ra, .int kp])), (es, .inr (2, [.ref ap, .ref ay, .int (nI k), .int lo])), (ap, .inl (cP, 6, .inr (.inr (.inr (.inr fp))))), (ay, .inl (cI, 6, .inl yr)), (i2, .inr (2, [.ref ap2, .ref ay2, .int (nI k2), .int lo2])), (ap2, .inl (cP, 6, .inr (.inr (.inr (.inr fp2))))), (ay2, .inl (cI, 6, .inl yr2))] sz (PLA D cI cB Pl) U.heap)) (va_Qi (fun r (u : Nat × Int32 × (Nat → Option Nat) × (Nat → Int32)) => match u with | (kz, loz, fpz, yrz) => (kp &&& ((1 : Int32) <<< ((1 : Int32) &&& 31)) = 0 ∧ r = -3 ∧ kz = k ∧ loz = lo ∧ fpz = fp ∧ yrz = yr) ∨ (¬ kp &&& ((1 : Int32) <<< ((1 : Int32) &&& 31)) = 0 ∧ r = 1 ∧ kz = k2 ∧ loz = lo2 ∧ fpz = cpy fp2 fp 6 ∧ yrz = cpy yr2 yr 6)) (fun (u : Nat × Int32 × (Nat → Option Nat) × (Nat → Int32)) (t : State) => match u with | (kz, loz, fpz, yrz) => va_P D vwCl [(h0, .inr (8, [.ref tx, .ref es, .ref i1, .ref i2, .ref wa, .ref ra, .int kp])), (es, .inr (2, [.ref ap, .ref ay, .int (nI kz), .int loz])), (ap, .inl (cP, 6, .inr (.inr (.inr (.inr fpz))))), (ay, .inl (cI, 6, .inl yrz)), (i2, .inr (2, [.ref ap2, .ref ay2, .int (nI k2), .int lo2])), (ap2, .inl (cP, 6, .inr (.inr (.inr (.inr fp2))))), (ay2, .inl (cI, 6, .inl yr2))] t.heap ∧ va_D (va_A [(h0, .inr (8, [.ref tx, .ref es, .ref i1, .ref i2, .ref wa, .ref ra, .int kp])), (es, .inr (2, [.ref ap, .ref ay, .int (nI k), .int lo])), (ap, .inl (cP, 6, .inr (.inr (.inr (.inr fp))))), (ay, .inl (cI, 6, .inl yr)), (i2, .inr (2, [.ref ap2, .ref ay2, .int (nI k2), .int lo2])), (ap2, .inl (cP, 6, .inr (.inr (.inr (.inr fp2))))), (ay2, .inl (cI, 6, .inl yr2))] sz) [(h0, .inr (8, [.ref tx, .ref es, .ref i1, .ref i2, .ref wa, .ref ra, .int kp])), (es, .inr (2, [.ref ap, .ref ay, .int (nI kz), .int loz])), (ap, .inl (cP, 6, .inr (.inr (.inr (.inr fpz))))), (ay, .inl (cI, 6, .inl yrz)), (i2, .inr (2, [.ref ap2, .ref ay2, .int (nI k2), .int lo2])), (ap2, .inl (cP, 6, .inr (.inr (.inr (.inr fp2))))), (ay2, .inl (cI, 6, .inl yr2))]) (va_A [(h0, .inr (8, [.ref tx, .ref es, .ref i1, .ref i2, .ref wa, .ref ra, .int kp])), (es, .inr (2, [.ref ap, .ref ay, .int (nI k), .int lo])), (ap, .inl (cP, 6, .inr (.inr (.inr (.inr fp))))), (ay, .inl (cI, 6, .inl yr)), (i2, .inr (2, [.ref ap2, .ref ay2, .int (nI k2), .int lo2])), (ap2, .inl (cP, 6, .inr (.inr (.inr (.inr fp2))))), (ay2, .inl (cI, 6, .inl yr2))] sz)) 0 0 (va_A [(h0, .inr (8, [.ref tx, .ref es, .ref i1, .ref i2, .ref wa, .ref ra, .int kp])), (es, .inr (2, [.ref ap, .ref ay, .int (nI k), .int lo])), (ap, .inl (cP, 6, .inr (.inr (.inr (.inr fp))))), (ay, .inl (cI, 6, .inl yr)), (i2, .inr (2, [.ref ap2, .ref ay2, .int (nI k2), .int lo2])), (ap2, .inl (cP, 6, .inr (.inr (.inr (.inr fp2))))), (ay2, .inl (cI, 6, .inl yr2))] sz) := by
  refine Met.ofW (cc := cX6_restore) (maxL := 2) (ret := (some .int)) (by decide) rfl ?_
  intro p e s m args below meth c s₁ B hml hv
  obtain ⟨rfl, hsz, hP, hW0, hD0, hE⟩ := hv
  have hx := B.exec
  have hb := B.bytes
  have hr := B.returns
  have hts := atoms_spec (ws := wsX6_restore) B.pre
  have hown : s.vm.findClass RX6 = some m.cls := findClass_of_methodNamed B.named
  have hlocks := B.notSynchronized
  have hK := hW0.1
  subst hsz
  have hD := hD0.self (sz := s.heap.size)
  unfold EF at hE
  generalize hAe : va_A [(h0, .inr (8, [.ref tx, .ref es, .ref i1, .ref i2, .ref wa, .ref ra, .int kp])), (es, .inr (2, [.ref ap, .ref ay, .int (nI k), .int lo])), (ap, .inl (cP, 6, .inr (.inr (.inr (.inr fp))))), (ay, .inl (cI, 6, .inl yr)), (i2, .inr (2, [.ref ap2, .ref ay2, .int (nI k2), .int lo2])), (ap2, .inl (cP, 6, .inr (.inr (.inr (.inr fp2))))), (ay2, .inl (cI, 6, .inl yr2))] s.heap.size = A at hD hE ⊢
  have hA : ∀ q : Nat, s.heap.size ≤ q → A q := fun q h => by rw [← hAe]; exact Or.inr h
  have hS : va_S A s.heap s.heap [] := va_S.rf
  have hl := lv_entry ([.ref h0, .int 1]) (n := 2) (Nat.le_of_ble_eq_true rfl)
  rw [lg_entry_eq]
  generalize (lg_sl ([.ref h0, .int 1]) ++ List.replicate (2 - (lg_sl ([.ref h0, .int 1])).length) Slot.unset).toArray = ls at hl ⊢
  have hl : lv_has ls 2 [(0, .ref h0), (1, .int 1)] := hl
  show W p l e ({ frames := 1, cells := 0, slots := 0, locals := 22 } : Room) s m ([.ref h0, .int 1] : List Value).toArray below meth c s.heap [] 0 0 _ (F0 m 0 ls [])
  refine u_genQ (fun Q hQ => ?_)
  refine lv_iload_n hx hb dX6_restore_0 rfl (lv_at hl 1 rfl) ?_
  refine lv_if_lt (tgt := 9) hx hb dX6_restore_1 (by decide) (fun c_1 => ?_) (fun c_1 => ?_)
  · skip
    exact absurd c_1 (by decide)
  · skip
    refine lv_iload_n hx hb dX6_restore_4 rfl (lv_at hl 1 rfl) ?_
    refine lv_iconst (v := 1) hx hb dX6_restore_5 (by decide) ?_
    refine lv_icmp_le (tgt := 12) hx hb dX6_restore_6 (by decide) (fun c_2 => ?_) (fun c_2 => ?_)
    · skip
      refine lv_aload_n hx hb dX6_restore_12 rfl (lv_at hl 0 rfl) ?_
      refine va_get (D := D) (ci := 8) (v := .int kp) (C := RX6) (T := TX6) (N := 7) hx hb hts (by decide +kernel) hown hK hP 0 rfl rfl 6 (by decide) (hts (.fieldLink RX6 232 "LandDeeds" "keptImages" "I") (by decide +kernel)) (fun _ h9 => h9) rfl dX6_restore_13 ?_
      refine lv_iconst (v := 1) hx hb dX6_restore_16 (by decide) ?_
      refine lv_iload_n hx hb dX6_restore_17 rfl (lv_at hl 1 rfl) ?_
      refine lv_ishl hx hb dX6_restore_18 ?_
      refine u_eqi (show (1 : Int32) <<< (1 &&& 31) = (1 : Int32) <<< ((1 : Int32) &&& 31) from rfl) ?_
      refine lv_iand hx hb dX6_restore_19 ?_
      refine lv_if_ne (tgt := 26) hx hb dX6_restore_20 (by decide) (fun c_3 => ?_) (fun c_3 => ?_)
      · skip
        refine lv_aload_n hx hb dX6_restore_26 rfl (lv_at hl 0 rfl) ?_
        refine va_get (D := D) (ci := 8) (v := .ref es) (C := RX6) (T := TX6) (N := 7) hx hb hts (by decide +kernel) hown hK hP 0 rfl rfl 1 (by decide) (hts (.fieldLink RX6 19 "LandDeeds" "estate" "LLandDeeds$Estate;") (by decide +kernel)) (fun _ h9 => h9) rfl dX6_restore_27 ?_
        refine lv_aload_n hx hb dX6_restore_30 rfl (lv_at hl 0 rfl) ?_
        refine lv_iload_n hx hb dX6_restore_31 rfl (lv_at hl 1 rfl) ?_
        have hPc := hP.sub (ws' := [(h0, .inr (8, [.ref tx, .ref es, .ref i1, .ref i2, .ref wa, .ref ra, .int kp]))]) [0] rfl
        refine u_callSr (W.runV (As := [.int 1]) (rest := [.ref es]) ⟨hx, hb, hml, hown, hts⟩ (c_X6_imageAt_1 l D cI cB cZ cP h0 tx es i1 i2 wa ra kp ) (cwV 1 hts gX6_restore_X6_imageAt rfl rfl rfl (by decide +kernel) ⟨Nat.le_of_ble_eq_true rfl, Nat.le_of_ble_eq_true rfl⟩) (pV (q0 := 0) hPc hW0 trivial rfl rfl) rfl rfl hl.1 rfl (lv_room (Nat.le_of_ble_eq_true rfl)) dX6_restore_32 ⟨Nat.le_of_ble_eq_true rfl, Nat.le_of_ble_eq_true rfl⟩) ?_
        have hPc := hP.sub (ws' := [(es, .inr (2, [.ref ap, .ref ay, .int (nI k), .int lo])), (ap, .inl (cP, 6, .inr (.inr (.inr (.inr fp))))), (ay, .inl (cI, 6, .inl yr)), (i2, .inr (2, [.ref ap2, .ref ay2, .int (nI k2), .int lo2])), (ap2, .inl (cP, 6, .inr (.inr (.inr (.inr fp2))))), (ay2, .inl (cI, 6, .inl yr2))]) [1, 2, 3, 4, 5, 6] rfl
        have hDc := hD.sub (ws' := [(es, .inr (2, [.ref ap, .ref ay, .int (nI k), .int lo])), (ap, .inl (cP, 6, .inr (.inr (.inr (.inr fp))))), (ay, .inl (cI, 6, .inl yr)), (i2, .inr (2, [.ref ap2, .ref ay2, .int (nI k2), .int lo2])), (ap2, .inl (cP, 6, .inr (.inr (.inr (.inr fp2))))), (ay2, .inl (cI, 6, .inl yr2))]) [1, 2, 3, 4, 5, 6] (by decide) rfl
        have hFc := va_free (wc := [(es, .inr (2, [.ref ap, .ref ay, .int (nI k), .int lo])), (ap, .inl (cP, 6, .inr (.inr (.inr (.inr fp))))), (ay, .inl (cI, 6, .inl yr)), (i2, .inr (2, [.ref ap2, .ref ay2, .int (nI k2), .int lo2])), (ap2, .inl (cP, 6, .inr (.inr (.inr (.inr fp2))))), (ay2, .inl (cI, 6, .inl yr2))]) hD hS hA [1, 2, 3, 4, 5, 6] rfl
        refine va_callv (va_runV (As := [.ref i2]) (rest := []) ⟨hx, hb, hml, hown, hts⟩ (c_X0_become l D cI cB cZ cP s.heap.size es ap ay k lo yr fp i2 ap2 ay2 k2 lo2 yr2 fp2 ) (cwV 1 hts gX6_restore_X0_become rfl rfl rfl (by decide +kernel) ⟨Nat.le_of_ble_eq_true rfl, Nat.le_of_ble_eq_true rfl⟩) (pVQ (q0 := 0) hPc hDc hW0 (EF.sub (fun H1 q9 => EP_of hFP (hE H1 q9)) hS.1 hS.2.1 hFc) rfl rfl) rfl rfl hl.1 rfl (lv_room (Nat.le_of_ble_eq_true rfl)) dX6_restore_35 ⟨Nat.le_of_ble_eq_true rfl, Nat.le_of_ble_eq_true rfl⟩) hS (fun q _ h => hFc q h) hFc (fun u t H1 locs ht hvm hw hB hz1 hk1 hS => ?_)
        obtain ⟨hP1, hD1⟩ := hB
        rw [ht] at hP1
        have hw_4 : True := hw
        obtain ⟨hP, hD⟩ := va_join (wr := [(h0, .inr (8, [.ref tx, .ref es, .ref i1, .ref i2, .ref wa, .ref ra, .int kp]))]) (w1 := [(es, .inr (2, [.ref ap, .ref ay, .int (nI k2), .int lo2])), (ap, .inl (cP, 6, .inr (.inr (.inr (.inr (cpy fp2 fp 6)))))), (ay, .inl (cI, 6, .inl (cpy yr2 yr 6))), (i2, .inr (2, [.ref ap2, .ref ay2, .int (nI k2), .int lo2])), (ap2, .inl (cP, 6, .inr (.inr (.inr (.inr fp2))))), (ay2, .inl (cI, 6, .inl yr2))]) hP hD [1, 2, 3, 4, 5, 6] [0] rfl rfl (by decide) (by decide) hk1 hFc hP1 hD1
        generalize H1 = H at hP hS ⊢
        have hP := hP.sub (ws' := [(h0, .inr (8, [.ref tx, .ref es, .ref i1, .ref i2, .ref wa, .ref ra, .int kp])), (es, .inr (2, [.ref ap, .ref ay, .int (nI k2), .int lo2])), (ap, .inl (cP, 6, .inr (.inr (.inr (.inr (cpy fp2 fp 6)))))), (ay, .inl (cI, 6, .inl (cpy yr2 yr 6))), (i2, .inr (2, [.ref ap2, .ref ay2, .int (nI k2), .int lo2])), (ap2, .inl (cP, 6, .inr (.inr (.inr (.inr fp2))))), (ay2, .inl (cI, 6, .inl yr2))]) [0, 1, 2, 3, 4, 5, 6] rfl
        have hD := hD.sub (ws' := [(h0, .inr (8, [.ref tx, .ref es, .ref i1, .ref i2, .ref wa, .ref ra, .int kp])), (es, .inr (2, [.ref ap, .ref ay, .int (nI k2), .int lo2])), (ap, .inl (cP, 6, .inr (.inr (.inr (.inr (cpy fp2 fp 6)))))), (ay, .inl (cI, 6, .inl (cpy yr2 yr 6))), (i2, .inr (2, [.ref ap2, .ref ay2, .int (nI k2), .int lo2])), (ap2, .inl (cP, 6, .inr (.inr (.inr (.inr fp2))))), (ay2, .inl (cI, 6, .inl yr2))]) [0, 1, 2, 3, 4, 5, 6] (by decide) rfl
        refine lv_iconst (v := 1) hx hb dX6_restore_38 (by decide) ?_
        rw [← hQ]
        have hP9 := hP
        have hD9 := hD
        exact W.iret (v := 1) hx hb hr (fun t ht hW => ⟨⟨_, (k2, lo2, cpy fp2 fp 6, cpy yr2 yr 6), rfl, Or.inr ⟨c_3, rfl, rfl, rfl, rfl, rfl⟩, by rw [ht]; exact hP9, hD9⟩, hS.F ht⟩) hS.2.2 dX6_restore_39
      · skip
        refine lv_bipush (v := (-3)) hx hb dX6_restore_23 (by decide) ?_
        rw [← hQ]
        have hP9 := hP
        have hD9 := hD
        exact W.iret (v := (-3)) hx hb hr (fun t ht hW => ⟨⟨_, (k, lo, fp, yr), rfl, Or.inl ⟨c_3, rfl, rfl, rfl, rfl, rfl⟩, by rw [ht]; exact hP9, hD9⟩, hS.F ht⟩) hS.2.2 dX6_restore_25
    · skip
      exact absurd (by decide) c_2

set_option maxHeartbeats 4000000 in
set_option maxRecDepth 100000 in
theorem c_X6_image_no (l : Launch) (D : va_G) (cI cB cZ cP : ClassId) (h0 : Nat) (x : Int32) (hno : ¬ (0 ≤ x.toInt ∧ x.toInt ≤ 1)) : Met l yX6_image wsX6_image ({ frames := 0, cells := 0, slots := 0, locals := 0 } : Room) (va_Pc [.ref h0, .int x] (fun U => va_P D vwCl [] U.heap ∧ KW D cI cB cZ cP U ∧ E0 U.heap)) (vp_Si (fun r => r = (-2))) 0 0 (fun _ => False) := by
  refine Met.ofW (cc := cX6_image) (maxL := 2) (ret := (some .int)) (by decide) rfl ?_
  intro p e s m args below meth c s₁ B hml hv
  obtain ⟨rfl, hP, hW0, hE⟩ := hv
  have hx := B.exec
  have hb := B.bytes
  have hr := B.returns
  have hts := atoms_spec (ws := wsX6_image) B.pre
  have hown : s.vm.findClass RX6 = some m.cls := findClass_of_methodNamed B.named
  have hlocks := B.notSynchronized
  have hK := hW0.1
  have hl := lv_entry ([.ref h0, .int x]) (n := 2) (Nat.le_of_ble_eq_true rfl)
  rw [lg_entry_eq]
  generalize (lg_sl ([.ref h0, .int x]) ++ List.replicate (2 - (lg_sl ([.ref h0, .int x])).length) Slot.unset).toArray = ls at hl ⊢
  have hl : lv_has ls 2 [(0, .ref h0), (1, .int x)] := hl
  show W p l e ({ frames := 0, cells := 0, slots := 0, locals := 0 } : Room) s m ([.ref h0, .int x] : List Value).toArray below meth c s.heap [] 0 0 _ (F0 m 0 ls [])
  refine u_genQ (fun Q hQ => ?_)
  refine lv_iload_n hx hb dX6_image_0 rfl (lv_at hl 1 rfl) ?_
  refine lv_if_lt (tgt := 9) hx hb dX6_image_1 (by decide) (fun c_1 => ?_) (fun c_1 => ?_)
  · skip
    refine lv_bipush (v := (-2)) hx hb dX6_image_9 (by decide) ?_
    rw [← hQ]
    exact W.iret (v := (-2)) hx hb hr (fun t ht hW => ⟨_, rfl, rfl, ht⟩) (fun q h => absurd h List.not_mem_nil) dX6_image_11
  · skip
    refine lv_iload_n hx hb dX6_image_4 rfl (lv_at hl 1 rfl) ?_
    refine lv_iconst (v := 1) hx hb dX6_image_5 (by decide) ?_
    refine lv_icmp_le (tgt := 12) hx hb dX6_image_6 (by decide) (fun c_2 => ?_) (fun c_2 => ?_)
    · skip
      exact absurd (show 0 ≤ x.toInt ∧ x.toInt ≤ 1 from (by simp only [Int32.lt_iff_toInt_lt, Int32.le_iff_toInt_le, ← Int32.toInt_inj, li_0, li_1, li_2, li_3, li_4, li_5, li_6, li_7, li_8, li_9, li_10, li_12, li_20, li_31, li_32, li_33, li_47, li_48, li_49, li_57, li_59, li_60, li_101, li_108, li_109, li_110, li_115, li_119, li_126, li_999, li_1000, li_1023, li_1024, li_2000, li_m1, li_m6] at c_1 c_2 ⊢; omega)) hno
    · skip
      refine lv_bipush (v := (-2)) hx hb dX6_image_9 (by decide) ?_
      rw [← hQ]
      exact W.iret (v := (-2)) hx hb hr (fun t ht hW => ⟨_, rfl, rfl, ht⟩) (fun q h => absurd h List.not_mem_nil) dX6_image_11

set_option maxHeartbeats 4000000 in
set_option maxRecDepth 100000 in
theorem c_X6_restore_no (l : Launch) (D : va_G) (cI cB cZ cP : ClassId) (h0 : Nat) (x : Int32) (hno : ¬ (0 ≤ x.toInt ∧ x.toInt ≤ 1)) : Met l yX6_restore wsX6_restore ({ frames := 0, cells := 0, slots := 0, locals := 0 } : Room) (va_Pc [.ref h0, .int x] (fun U => va_P D vwCl [] U.heap ∧ KW D cI cB cZ cP U ∧ E0 U.heap)) (vp_Si (fun r => r = (-2))) 0 0 (fun _ => False) := by
  refine Met.ofW (cc := cX6_restore) (maxL := 2) (ret := (some .int)) (by decide) rfl ?_
  intro p e s m args below meth c s₁ B hml hv
  obtain ⟨rfl, hP, hW0, hE⟩ := hv
  have hx := B.exec
  have hb := B.bytes
  have hr := B.returns
  have hts := atoms_spec (ws := wsX6_restore) B.pre
  have hown : s.vm.findClass RX6 = some m.cls := findClass_of_methodNamed B.named
  have hlocks := B.notSynchronized
  have hK := hW0.1
  have hl := lv_entry ([.ref h0, .int x]) (n := 2) (Nat.le_of_ble_eq_true rfl)
  rw [lg_entry_eq]
  generalize (lg_sl ([.ref h0, .int x]) ++ List.replicate (2 - (lg_sl ([.ref h0, .int x])).length) Slot.unset).toArray = ls at hl ⊢
  have hl : lv_has ls 2 [(0, .ref h0), (1, .int x)] := hl
  show W p l e ({ frames := 0, cells := 0, slots := 0, locals := 0 } : Room) s m ([.ref h0, .int x] : List Value).toArray below meth c s.heap [] 0 0 _ (F0 m 0 ls [])
  refine u_genQ (fun Q hQ => ?_)
  refine lv_iload_n hx hb dX6_restore_0 rfl (lv_at hl 1 rfl) ?_
  refine lv_if_lt (tgt := 9) hx hb dX6_restore_1 (by decide) (fun c_1 => ?_) (fun c_1 => ?_)
  · skip
    refine lv_bipush (v := (-2)) hx hb dX6_restore_9 (by decide) ?_
    rw [← hQ]
    exact W.iret (v := (-2)) hx hb hr (fun t ht hW => ⟨_, rfl, rfl, ht⟩) (fun q h => absurd h List.not_mem_nil) dX6_restore_11
  · skip
    refine lv_iload_n hx hb dX6_restore_4 rfl (lv_at hl 1 rfl) ?_
    refine lv_iconst (v := 1) hx hb dX6_restore_5 (by decide) ?_
    refine lv_icmp_le (tgt := 12) hx hb dX6_restore_6 (by decide) (fun c_2 => ?_) (fun c_2 => ?_)
    · skip
      exact absurd (show 0 ≤ x.toInt ∧ x.toInt ≤ 1 from (by simp only [Int32.lt_iff_toInt_lt, Int32.le_iff_toInt_le, ← Int32.toInt_inj, li_0, li_1, li_2, li_3, li_4, li_5, li_6, li_7, li_8, li_9, li_10, li_12, li_20, li_31, li_32, li_33, li_47, li_48, li_49, li_57, li_59, li_60, li_101, li_108, li_109, li_110, li_115, li_119, li_126, li_999, li_1000, li_1023, li_1024, li_2000, li_m1, li_m6] at c_1 c_2 ⊢; omega)) hno
    · skip
      refine lv_bipush (v := (-2)) hx hb dX6_restore_9 (by decide) ?_
      rw [← hQ]
      exact W.iret (v := (-2)) hx hb hr (fun t ht hW => ⟨_, rfl, rfl, ht⟩) (fun q h => absurd h List.not_mem_nil) dX6_restore_11

