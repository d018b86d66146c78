set_option maxHeartbeats 4000000 in
set_option maxRecDepth 100000 in
theorem c_X6_greatestDivisor (l : Launch) (D : va_G) (cI cB cZ cP : ClassId) (ga gb : Nat) (hga : ga < 2 ^ 57) (hgb : gb < 2 ^ 40) : Met l yX6_greatestDivisor wsX6_greatestDivisor ({ frames := 0, cells := 0, slots := 0, locals := 0 } : Room) (va_Pc [.long (lN ga), .long (lN gb)] (fun U => va_P D vwCl [] U.heap ∧ KW D cI cB cZ cP U ∧ E0 U.heap)) (vp_Sl (fun r => r = lN (Nat.gcd ga gb))) 0 0 (fun _ => False) := by
  refine Met.ofW (cc := cX6_greatestDivisor) (maxL := 11) (ret := (some .long)) (by decide) rfl ?_
  intro p e s m args below meth c s₁ B hml hv
  obtain ⟨rfl, hP, hW0, hE⟩ := hv
  have hx := B.exec
  have hb := B.bytes
  have hr := B.returns
  have hts := atoms_spec (ws := wsX6_greatestDivisor) B.pre
  have hown : s.vm.findClass RX6 = some m.cls := findClass_of_methodNamed B.named
  have hlocks := B.notSynchronized
  have hK := hW0.1
  have hl := lv_entry ([.long (lN ga), .long (lN gb)]) (n := 11) (Nat.le_of_ble_eq_true rfl)
  rw [lg_entry_eq]
  generalize (lg_sl ([.long (lN ga), .long (lN gb)]) ++ List.replicate (11 - (lg_sl ([.long (lN ga), .long (lN gb)])).length) Slot.unset).toArray = ls at hl ⊢
  have hl : lv_has ls 11 [(0, .long (lN ga)), (2, .long (lN gb))] := hl
  show W p l e ({ frames := 0, cells := 0, slots := 0, locals := 0 } : Room) s m ([.long (lN ga), .long (lN gb)] : List Value).toArray below meth c s.heap [] 0 0 _ (F0 m 0 ls [])
  refine u_genQ (fun Q hQ => ?_)
  refine lv_lload_n hx hb dX6_greatestDivisor_0 rfl (lv_at hl 0 rfl) ?_
  refine lv_lstore (lv' := [(4, .long (lN ga)), (0, .long (lN ga)), (2, .long (lN gb))]) hx hb dX6_greatestDivisor_1 hl (by decide) rfl (fun ls hl => ?_)
  refine lv_lload_n hx hb dX6_greatestDivisor_3 rfl (lv_at hl 2 rfl) ?_
  refine lv_lstore (lv' := [(6, .long (lN gb)), (4, .long (lN ga)), (0, .long (lN ga)), (2, .long (lN gb))]) hx hb dX6_greatestDivisor_4 hl (by decide) rfl (fun ls hl => ?_)
  refine lv_iconst (v := 0) hx hb dX6_greatestDivisor_6 (by decide) ?_
  refine lv_istore (lv' := [(8, .int 0), (6, .long (lN gb)), (4, .long (lN ga)), (0, .long (lN ga)), (2, .long (lN gb))]) hx hb dX6_greatestDivisor_7 hl (by decide) rfl (fun ls hl => ?_)
  have LOOP_9 : ∀ (fu : Nat) (ix : Nat) (gp : Nat) (gq : Nat) (hI : gcI ga gb ix gp gq) (hix : ix ≤ 100) (hn : 100 - ix < fu) (ls : Array Slot) (hl : lv_has ls 11 [(4, .long (lN gp)), (6, .long (lN gq)), (8, .int (nI ix))]), W p l e ({ frames := 0, cells := 0, slots := 0, locals := 0 } : Room) s m ([.long (lN ga), .long (lN gb)] : List Value).toArray below meth c s.heap [] 0 0 Q (F0 m 9 ls []) := by
    intro fu
    induction fu with
    | zero => intro ix gp gq hI hix hn ls hl; exact absurd hn (Nat.not_lt_zero _)
    | succ fu ih_9 =>
      intro ix gp gq hI hix hn ls hl
      refine lv_iload hx hb dX6_greatestDivisor_9 (lv_at hl 2 rfl) ?_
      refine lv_bipush (v := 100) hx hb dX6_greatestDivisor_11 (by decide) ?_
      refine lv_icmp_ge (tgt := 44) hx hb dX6_greatestDivisor_13 (by decide) (fun c_1 => ?_) (fun c_1 => ?_)
      · skip
        have nc_1 : 100 ≤ ix := (nI_leI (a := 100) (b := ix) (by omega) (by omega)).mp c_1
        have hq0 : gq = 0 := gcI_end hI (by omega)
        refine lv_lload hx hb dX6_greatestDivisor_44 (lv_at hl 0 rfl) ?_
        rw [← hQ]
        exact W.lret (v := lN gp) hx hb hr (fun t ht hW => ⟨_, rfl, (gcI_gcd hI hq0), ht⟩) (fun q h => absurd h List.not_mem_nil) dX6_greatestDivisor_46
      · skip
        have nc_1 : ¬ (100 ≤ ix) := fun h => c_1 ((nI_leI (a := 100) (b := ix) (by omega) (by omega)).mpr h)
        refine lv_lload hx hb dX6_greatestDivisor_16 (lv_at hl 1 rfl) ?_
        refine lv_lconst (v := 0) hx hb dX6_greatestDivisor_18 (by decide) ?_
        refine W.lcmp hx hb dX6_greatestDivisor_19 ?_
        refine lv_if_eq (tgt := 44) hx hb dX6_greatestDivisor_20 (by decide) (fun c_2 => ?_) (fun c_2 => ?_)
        · skip
          have nc_2 := (lg_cmp_eq _ _).mp c_2
          have hq0 : gq = 0 := lN_eq0 (gcI_b hI).2 nc_2
          refine lv_lload hx hb dX6_greatestDivisor_44 (lv_at hl 0 rfl) ?_
          rw [← hQ]
          exact W.lret (v := lN gp) hx hb hr (fun t ht hW => ⟨_, rfl, (gcI_gcd hI hq0), ht⟩) (fun q h => absurd h List.not_mem_nil) dX6_greatestDivisor_46
        · skip
          have nc_2 := fun h => c_2 ((lg_cmp_eq _ _).mpr h)
          have hq0 : ¬ gq = 0 := fun q => nc_2 (by rw [q]; rfl)
          refine lv_lload hx hb dX6_greatestDivisor_23 (lv_at hl 0 rfl) ?_
          refine lv_lload hx hb dX6_greatestDivisor_25 (lv_at hl 1 rfl) ?_
          refine lv_lrem hx hb dX6_greatestDivisor_27 (fun q => hq0 (lN_eq0 (gcI_b hI).2 q)) ?_
          refine u_eql (show (lN gp) - (lN gp) / (lN gq) * (lN gq) = lN (gp % gq) from lrem_eq hq0 (gcI_b hI).1 (gcI_b hI).2) ?_
          refine lv_lstore (lv' := [(9, .long (lN (gp % gq))), (4, .long (lN gp)), (6, .long (lN gq)), (8, .int (nI ix))]) hx hb dX6_greatestDivisor_28 hl (by decide) rfl (fun ls hl => ?_)
          refine lv_lload hx hb dX6_greatestDivisor_30 (lv_at hl 2 rfl) ?_
          refine lv_lstore (lv' := [(4, .long (lN gq)), (9, .long (lN (gp % gq))), (6, .long (lN gq)), (8, .int (nI ix))]) hx hb dX6_greatestDivisor_32 hl (by decide) rfl (fun ls hl => ?_)
          refine lv_lload hx hb dX6_greatestDivisor_34 (lv_at hl 1 rfl) ?_
          refine lv_lstore (lv' := [(6, .long (lN (gp % gq))), (4, .long (lN gq)), (9, .long (lN (gp % gq))), (8, .int (nI ix))]) hx hb dX6_greatestDivisor_36 hl (by decide) rfl (fun ls hl => ?_)
          refine lv_iinc (v := nI (ix + 1)) (lv' := [(8, .int (nI (ix + 1))), (6, .long (lN (gp % gq))), (4, .long (lN gq)), (9, .long (lN (gp % gq)))]) hx hb dX6_greatestDivisor_38 hl (k := 3) rfl (nI_1 _) (by decide) rfl (fun ls hl => ?_)
          refine lv_goto (tgt := 9) hx hb dX6_greatestDivisor_41 (by decide) ?_
          exact ih_9 (ix + 1) gq (gp % gq) (gcI_s hI hq0) (by omega) (by omega) ls (lv_sub hl [2, 1, 0] rfl)
  exact LOOP_9 (100 - 0 + 1) 0 ga gb (gcI_0 hga hgb) (Nat.zero_le _) (Nat.lt_succ_self _) ls (lv_sub hl [2, 1, 0] rfl)

set_option maxHeartbeats 4000000 in
set_option maxRecDepth 100000 in
theorem c_X3_add (l : Launch) (D : va_G) (cI cB cZ cP : ClassId) (sz : Nat) (h0 : Nat) (UU u2 : Int) (LL l2 : Nat) (hL0 : 0 < LL) (hl0 : 0 < l2) (hNb : (UU * l2 + u2 * LL).natAbs < 2 ^ 57) (hMb : LL * l2 < 2 ^ 40) : Met l yX3_add wsX3_add ({ frames := 1, cells := 0, slots := 0, locals := 30 } : Room) (va_Pc [.ref h0, .long (lI u2), .long (lN l2)] (fun U => U.heap.size = sz ∧ va_P D vwCl [(h0, .inr (5, [.long (lI UU), .long (lN LL)]))] U.heap ∧ KW D cI cB cZ cP U ∧ va_D (fun _ => True) [(h0, .inr (5, [.long (lI UU), .long (lN LL)]))] ∧ EF [(h0, .inr (5, [.long (lI UU), .long (lN LL)]))] sz E0 U.heap)) (va_Qv (fun (_ : Unit) => True) (fun (_ : Unit) (t : State) => va_P D vwCl [(h0, .inr (5, [.long (lI (ratU UU LL u2 l2)), .long (lN (ratL UU LL u2 l2))]))] t.heap ∧ va_D (va_A [(h0, .inr (5, [.long (lI UU), .long (lN LL)]))] sz) [(h0, .inr (5, [.long (lI (ratU UU LL u2 l2)), .long (lN (ratL UU LL u2 l2))]))]) (va_A [(h0, .inr (5, [.long (lI UU), .long (lN LL)]))] sz)) 0 0 (va_A [(h0, .inr (5, [.long (lI UU), .long (lN LL)]))] sz) := by
  refine Met.ofW (cc := cX3_add) (maxL := 7) (ret := none) (by decide) rfl ?_
  intro p e s m args below meth c s₁ B hml hv
  obtain ⟨rfl, hsz, hP, hW0, hD0, hE⟩ := hv
  have hx := B.exec
  have hb := B.bytes
  have hr := B.returns
  have hts := atoms_spec (ws := wsX3_add) B.pre
  have hown : s.vm.findClass RX3 = some m.cls := findClass_of_methodNamed B.named
  have hlocks := B.notSynchronized
  have hK := hW0.1
  subst hsz
  have hD := hD0.self (sz := s.heap.size)
  unfold EF at hE
  generalize hAe : va_A [(h0, .inr (5, [.long (lI UU), .long (lN LL)]))] s.heap.size = A at hD hE ⊢
  have hA : ∀ q : Nat, s.heap.size ≤ q → A q := fun q h => by rw [← hAe]; exact Or.inr h
  have hS : va_S A s.heap s.heap [] := va_S.rf
  have hl := lv_entry ([.ref h0, .long (lI u2), .long (lN l2)]) (n := 7) (Nat.le_of_ble_eq_true rfl)
  rw [lg_entry_eq]
  generalize (lg_sl ([.ref h0, .long (lI u2), .long (lN l2)]) ++ List.replicate (7 - (lg_sl ([.ref h0, .long (lI u2), .long (lN l2)])).length) Slot.unset).toArray = ls at hl ⊢
  have hl : lv_has ls 7 [(0, .ref h0), (1, .long (lI u2)), (3, .long (lN l2))] := hl
  show W p l e ({ frames := 1, cells := 0, slots := 0, locals := 30 } : Room) s m ([.ref h0, .long (lI u2), .long (lN l2)] : List Value).toArray below meth c s.heap [] 0 0 _ (F0 m 0 ls [])
  refine u_genQ (fun Q hQ => ?_)
  refine lv_aload_n hx hb dX3_add_0 rfl (lv_at hl 0 rfl) ?_
  refine lv_aload_n hx hb dX3_add_1 rfl (lv_at hl 0 rfl) ?_
  refine va_get (D := D) (ci := 5) (v := .long (lI UU)) (C := RX3) (T := TX3) (N := 2) hx hb hts (by decide +kernel) hown hK hP 0 rfl rfl 0 (by decide) (hts (.fieldLink RX3 13 "LandDeeds$Ratio" "upper" "J") (by decide +kernel)) (fun _ h9 => h9) rfl dX3_add_2 ?_
  refine lv_lload_n hx hb dX3_add_5 rfl (lv_at hl 2 rfl) ?_
  refine lv_lmul hx hb dX3_add_6 ?_
  refine u_eql (show (lI UU) * (lN l2) = lI (UU * l2) from lI_mulN _ _) ?_
  refine lv_lload_n hx hb dX3_add_7 rfl (lv_at hl 1 rfl) ?_
  refine lv_aload_n hx hb dX3_add_8 rfl (lv_at hl 0 rfl) ?_
  refine va_get (D := D) (ci := 5) (v := .long (lN LL)) (C := RX3) (T := TX3) (N := 2) hx hb hts (by decide +kernel) hown hK hP 0 rfl rfl 1 (by decide) (hts (.fieldLink RX3 7 "LandDeeds$Ratio" "lower" "J") (by decide +kernel)) (fun _ h9 => h9) rfl dX3_add_9 ?_
  refine lv_lmul hx hb dX3_add_12 ?_
  refine u_eql (show (lI u2) * (lN LL) = lI (u2 * LL) from lI_mulN _ _) ?_
  refine lv_ladd hx hb dX3_add_13 ?_
  refine u_eql (show (lI (UU * l2)) + (lI (u2 * LL)) = lI (UU * l2 + u2 * LL) from (Int64.ofInt_add _ _).symm) ?_
  refine va_put (D := D) (ci := 5) (v := .long (lI (UU * l2 + u2 * LL))) (ty := .long) (C := RX3) (T := TX3) (N := 2) hx hb hts (by decide +kernel) tyX3 tyX3_ok nmX3 hown hK hP hD hS 0 rfl rfl 0 (by decide) (hts (.fieldLink RX3 13 "LandDeeds$Ratio" "upper" "J") (by decide +kernel)) (fun _ h9 => h9) rfl (by decide +kernel) rfl rfl (Nat.le_of_ble_eq_true rfl) dX3_add_14 (fun H locs hP hD hS => ?_)
  have hP : va_P D vwCl [(h0, .inr (5, [.long (lI (UU * l2 + u2 * LL)), .long (lN LL)]))] H := hP
  have hD : va_D A [(h0, .inr (5, [.long (lI (UU * l2 + u2 * LL)), .long (lN LL)]))] := hD
  refine lv_aload_n hx hb dX3_add_17 rfl (lv_at hl 0 rfl) ?_
  refine lv_aload_n hx hb dX3_add_18 rfl (lv_at hl 0 rfl) ?_
  refine va_get (D := D) (ci := 5) (v := .long (lN LL)) (C := RX3) (T := TX3) (N := 2) hx hb hts (by decide +kernel) hown hK hP 0 rfl rfl 1 (by decide) (hts (.fieldLink RX3 7 "LandDeeds$Ratio" "lower" "J") (by decide +kernel)) (fun _ h9 => h9) rfl dX3_add_19 ?_
  refine lv_lload_n hx hb dX3_add_22 rfl (lv_at hl 2 rfl) ?_
  refine lv_lmul hx hb dX3_add_23 ?_
  refine u_eql (show (lN LL) * (lN l2) = lN (LL * l2) from lN_mul _ _) ?_
  refine va_put (D := D) (ci := 5) (v := .long (lN (LL * l2))) (ty := .long) (C := RX3) (T := TX3) (N := 2) hx hb hts (by decide +kernel) tyX3 tyX3_ok nmX3 hown hK hP hD hS 0 rfl rfl 1 (by decide) (hts (.fieldLink RX3 7 "LandDeeds$Ratio" "lower" "J") (by decide +kernel)) (fun _ h9 => h9) rfl (by decide +kernel) rfl rfl (Nat.le_of_ble_eq_true rfl) dX3_add_24 (fun H locs hP hD hS => ?_)
  have hP : va_P D vwCl [(h0, .inr (5, [.long (lI (UU * l2 + u2 * LL)), .long (lN (LL * l2))]))] H := hP
  have hD : va_D A [(h0, .inr (5, [.long (lI (UU * l2 + u2 * LL)), .long (lN (LL * l2))]))] := hD
  refine lv_aload_n hx hb dX3_add_27 rfl (lv_at hl 0 rfl) ?_
  refine va_get (D := D) (ci := 5) (v := .long (lI (UU * l2 + u2 * LL))) (C := RX3) (T := TX3) (N := 2) hx hb hts (by decide +kernel) hown hK hP 0 rfl rfl 0 (by decide) (hts (.fieldLink RX3 13 "LandDeeds$Ratio" "upper" "J") (by decide +kernel)) (fun _ h9 => h9) rfl dX3_add_28 ?_
  refine va_mabs_long hx hb (by rw [hml]; exact hl.1.symm) hown (hts (.methodLink RX3 16 Lib.MathLoose.abs_long.x) (by decide +kernel)) (hts (.static Lib.MathLoose.abs_long.x) (by decide +kernel)) (hts (.initialized "java/lang/Math") (by decide +kernel)) (hts (.code Lib.MathLoose.abs_long.x Lib.MathLoose.abs_long.code 2 (some .long)) (by decide +kernel)) (Nat.le_of_ble_eq_true rfl) (Nat.le_of_ble_eq_true rfl) (Nat.zero_le _) (Nat.zero_le _) dX3_add_31 ?_
  refine u_eql (show abL (lI (UU * l2 + u2 * LL)) = lN (UU * l2 + u2 * LL).natAbs from abL_t hNb) ?_
  refine lv_aload_n hx hb dX3_add_34 rfl (lv_at hl 0 rfl) ?_
  refine va_get (D := D) (ci := 5) (v := .long (lN (LL * l2))) (C := RX3) (T := TX3) (N := 2) hx hb hts (by decide +kernel) hown hK hP 0 rfl rfl 1 (by decide) (hts (.fieldLink RX3 7 "LandDeeds$Ratio" "lower" "J") (by decide +kernel)) (fun _ h9 => h9) rfl dX3_add_35 ?_
  have hPc := hP.sub (ws' := []) [] rfl
  refine u_callSl (va_runSN (As := [.long (lN (UU * l2 + u2 * LL).natAbs), .long (lN (LL * l2))]) (rest := []) ⟨hx, hb, hml, hown, hts⟩ (c_X6_greatestDivisor l D cI cB cZ cP ((UU * l2 + u2 * LL).natAbs) (LL * l2) (by first | assumption | omega) (by first | assumption | omega)) ⟨va_cnB 2 hts gX3_add_X6_greatestDivisor_n22 rfl rfl rfl (hW0.n_RX3_22) (hts (.initialized RX6) (by decide +kernel)) (by decide +kernel) ⟨Nat.le_of_ble_eq_true rfl, Nat.le_of_ble_eq_true rfl⟩, (hts (.static yX6_greatestDivisor) (by decide +kernel)), trivial⟩ (pS hPc hW0 trivial) rfl rfl hl.1 rfl (lv_room (Nat.le_of_ble_eq_true rfl)) dX3_add_38 ⟨Nat.le_of_ble_eq_true rfl, Nat.le_of_ble_eq_true rfl⟩).run ?_
  refine lv_lstore (lv' := [(5, .long (lN (Nat.gcd ((UU * l2 + u2 * LL).natAbs) (LL * l2)))), (0, .ref h0), (1, .long (lI u2)), (3, .long (lN l2))]) hx hb dX3_add_41 hl (by decide) rfl (fun ls hl => ?_)
  refine lv_lload hx hb dX3_add_43 (lv_at hl 0 rfl) ?_
  refine lv_lconst (v := 1) hx hb dX3_add_45 (by decide) ?_
  refine W.lcmp hx hb dX3_add_46 ?_
  refine lv_if_le (tgt := 72) hx hb dX3_add_47 (by decide) (fun c_1 => ?_) (fun c_1 => ?_)
  · skip
    have nc_1 := (lg_cmp_le _ _).mp c_1
    have hg1 := gcd_1 hL0 hl0 (U := UU) (u2 := u2) nc_1
    rw [show lI (UU * l2 + u2 * LL) = lI (ratU UU LL u2 l2) from hg1.1, show lN (LL * l2) = lN (ratL UU LL u2 l2) from hg1.2] at hP hD
    rw [← hQ]
    have hP9 := hP
    have hD9 := hD
    exact W.vret hx hb hr (fun t ht hW => ⟨⟨(), rfl, trivial, by rw [ht]; exact hP9, hD9⟩, hS.F ht⟩) hS.2.2 dX3_add_72
  · skip
    have nc_1 := fun h => c_1 ((lg_cmp_le _ _).mpr h)
    refine lv_aload_n hx hb dX3_add_50 rfl (lv_at hl 1 rfl) ?_
    refine lv_dup hx hb dX3_add_51 rfl ?_
    refine va_get (D := D) (ci := 5) (v := .long (lI (UU * l2 + u2 * LL))) (C := RX3) (T := TX3) (N := 2) hx hb hts (by decide +kernel) hown hK hP 0 rfl rfl 0 (by decide) (hts (.fieldLink RX3 13 "LandDeeds$Ratio" "upper" "J") (by decide +kernel)) (fun _ h9 => h9) rfl dX3_add_52 ?_
    refine lv_lload hx hb dX3_add_55 (lv_at hl 0 rfl) ?_
    refine lv_ldiv hx hb dX3_add_57 (gcd_ne hL0 hl0 hMb) ?_
    refine u_eql (show (lI (UU * l2 + u2 * LL)) / (lN (Nat.gcd ((UU * l2 + u2 * LL).natAbs) (LL * l2))) = lI (ratU UU LL u2 l2) from div_U hL0 hl0 hNb) ?_
    refine va_put (D := D) (ci := 5) (v := .long (lI (ratU UU LL u2 l2))) (ty := .long) (C := RX3) (T := TX3) (N := 2) hx hb hts (by decide +kernel) tyX3 tyX3_ok nmX3 hown hK hP hD hS 0 rfl rfl 0 (by decide) (hts (.fieldLink RX3 13 "LandDeeds$Ratio" "upper" "J") (by decide +kernel)) (fun _ h9 => h9) rfl (by decide +kernel) rfl rfl (Nat.le_of_ble_eq_true rfl) dX3_add_58 (fun H locs hP hD hS => ?_)
    have hP : va_P D vwCl [(h0, .inr (5, [.long (lI (ratU UU LL u2 l2)), .long (lN (LL * l2))]))] H := hP
    have hD : va_D A [(h0, .inr (5, [.long (lI (ratU UU LL u2 l2)), .long (lN (LL * l2))]))] := hD
    refine lv_aload_n hx hb dX3_add_61 rfl (lv_at hl 1 rfl) ?_
    refine lv_dup hx hb dX3_add_62 rfl ?_
    refine va_get (D := D) (ci := 5) (v := .long (lN (LL * l2))) (C := RX3) (T := TX3) (N := 2) hx hb hts (by decide +kernel) hown hK hP 0 rfl rfl 1 (by decide) (hts (.fieldLink RX3 7 "LandDeeds$Ratio" "lower" "J") (by decide +kernel)) (fun _ h9 => h9) rfl dX3_add_63 ?_
    refine lv_lload hx hb dX3_add_66 (lv_at hl 0 rfl) ?_
    refine lv_ldiv hx hb dX3_add_68 (gcd_ne hL0 hl0 hMb) ?_
    refine u_eql (show (lN (LL * l2)) / (lN (Nat.gcd ((UU * l2 + u2 * LL).natAbs) (LL * l2))) = lN (ratL UU LL u2 l2) from div_L hL0 hl0 hMb hNb) ?_
    refine va_put (D := D) (ci := 5) (v := .long (lN (ratL UU LL u2 l2))) (ty := .long) (C := RX3) (T := TX3) (N := 2) hx hb hts (by decide +kernel) tyX3 tyX3_ok nmX3 hown hK hP hD hS 0 rfl rfl 1 (by decide) (hts (.fieldLink RX3 7 "LandDeeds$Ratio" "lower" "J") (by decide +kernel)) (fun _ h9 => h9) rfl (by decide +kernel) rfl rfl (Nat.le_of_ble_eq_true rfl) dX3_add_69 (fun H locs hP hD hS => ?_)
    have hP : va_P D vwCl [(h0, .inr (5, [.long (lI (ratU UU LL u2 l2)), .long (lN (ratL UU LL u2 l2))]))] H := hP
    have hD : va_D A [(h0, .inr (5, [.long (lI (ratU UU LL u2 l2)), .long (lN (ratL UU LL u2 l2))]))] := hD
    rw [← hQ]
    have hP9 := hP
    have hD9 := hD
    exact W.vret hx hb hr (fun t ht hW => ⟨⟨(), rfl, trivial, by rw [ht]; exact hP9, hD9⟩, hS.F ht⟩) hS.2.2 dX3_add_72

