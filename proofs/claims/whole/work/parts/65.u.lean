set_option maxHeartbeats 4000000 in
set_option maxRecDepth 100000 in
theorem c_X7_common (l : Launch) (D : va_G) (cI cB cZ cP : ClassId) (NN : Int) (gb : Nat) (hga : NN.natAbs < 2 ^ 57) (hgb : gb < 2 ^ 40) : Met l yX7_common wsX7_common ({ frames := 0, cells := 0, slots := 0, locals := 0 } : Room) (va_Pc [.long (lI NN), .long (lN gb)] (fun U => va_P D vwCl [] U.heap ∧ KW D cI cB cZ cP U ∧ E0 U.heap)) (vp_Sl (fun r => r = lN (Nat.gcd NN.natAbs gb))) 0 0 (fun _ => False) := by
  refine Met.ofW (cc := cX7_common) (maxL := 11) (ret := (some .long)) (by decide) rfl ?_
  intro p e s m args below meth c s₁ B hml hv
  obtain ⟨rfl, hP, hW0, hE⟩ := hv
  have hx := B.exec
  have hb := B.bytes
  have hr := B.returns
  have hts := atoms_spec (ws := wsX7_common) B.pre
  have hown : s.vm.findClass RX7 = some m.cls := findClass_of_methodNamed B.named
  have hlocks := B.notSynchronized
  have hK := hW0.1
  have hl := lv_entry ([.long (lI NN), .long (lN gb)]) (n := 11) (Nat.le_of_ble_eq_true rfl)
  rw [lg_entry_eq]
  generalize (lg_sl ([.long (lI NN), .long (lN gb)]) ++ List.replicate (11 - (lg_sl ([.long (lI NN), .long (lN gb)])).length) Slot.unset).toArray = ls at hl ⊢
  have hl : lv_has ls 11 [(0, .long (lI NN)), (2, .long (lN gb))] := hl
  show W p l e ({ frames := 0, cells := 0, slots := 0, locals := 0 } : Room) s m ([.long (lI NN), .long (lN gb)] : List Value).toArray below meth c s.heap [] 0 0 _ (F0 m 0 ls [])
  refine u_genQ (fun Q hQ => ?_)
  refine lv_lload_n hx hb dX7_common_0 rfl (lv_at hl 0 rfl) ?_
  refine lv_lconst (v := 0) hx hb dX7_common_1 (by decide) ?_
  refine W.lcmp hx hb dX7_common_2 ?_
  refine lv_if_ge (tgt := 11) hx hb dX7_common_3 (by decide) (fun c_1 => ?_) (fun c_1 => ?_)
  · skip
    have nc_1 := (lg_cmp_ge _ _).mp c_1
    refine lv_lload_n hx hb dX7_common_11 rfl (lv_at hl 0 rfl) ?_
    refine u_eql (show lI NN = lN NN.natAbs from pos_t hga nc_1) ?_
    refine lv_lstore (lv' := [(4, .long (lN NN.natAbs)), (0, .long (lI NN)), (2, .long (lN gb))]) hx hb dX7_common_12 hl (by decide) rfl (fun ls hl => ?_)
    refine lv_lload_n hx hb dX7_common_14 rfl (lv_at hl 2 rfl) ?_
    refine lv_lstore (lv' := [(6, .long (lN gb)), (4, .long (lN NN.natAbs)), (0, .long (lI NN)), (2, .long (lN gb))]) hx hb dX7_common_15 hl (by decide) rfl (fun ls hl => ?_)
    refine lv_iconst (v := 0) hx hb dX7_common_17 (by decide) ?_
    refine lv_istore (lv' := [(8, .int 0), (6, .long (lN gb)), (4, .long (lN NN.natAbs)), (0, .long (lI NN)), (2, .long (lN gb))]) hx hb dX7_common_18 hl (by decide) rfl (fun ls hl => ?_)
    have LOOP_20 : ∀ (fu : Nat) (ix : Nat) (gp : Nat) (gq : Nat) (hI : gcI NN.natAbs gb ix gp gq) (hix : ix ≤ 200) (hn : 200 - ix < fu) (ls : Array Slot) (hl : lv_has ls 11 [(4, .long (lN gp)), (6, .long (lN gq)), (8, .int (nI ix))]), W p l e ({ frames := 0, cells := 0, slots := 0, locals := 0 } : Room) s m ([.long (lI NN), .long (lN gb)] : List Value).toArray below meth c s.heap [] 0 0 Q (F0 m 20 ls []) := by
      intro fu
      induction fu with
      | zero => intro ix gp gq hI hix hn ls hl; exact absurd hn (Nat.not_lt_zero _)
      | succ fu ih_20 =>
        intro ix gp gq hI hix hn ls hl
        refine lv_iload hx hb dX7_common_20 (lv_at hl 2 rfl) ?_
        refine lv_sipush (v := 200) hx hb dX7_common_22 (by decide) ?_
        refine lv_icmp_ge (tgt := 56) hx hb dX7_common_25 (by decide) (fun c_2 => ?_) (fun c_2 => ?_)
        · skip
          have nc_2 : 200 ≤ ix := (nI_leI (a := 200) (b := ix) (by omega) (by omega)).mp c_2
          have hq0 : gq = 0 := gcI_end hI (by omega)
          refine lv_lload hx hb dX7_common_56 (lv_at hl 0 rfl) ?_
          rw [← hQ]
          exact W.lret (v := lN gp) hx hb hr (fun t ht hW => ⟨_, rfl, (gcI_gcd hI hq0), ht⟩) (fun q h => absurd h List.not_mem_nil) dX7_common_58
        · skip
          have nc_2 : ¬ (200 ≤ ix) := fun h => c_2 ((nI_leI (a := 200) (b := ix) (by omega) (by omega)).mpr h)
          refine lv_lload hx hb dX7_common_28 (lv_at hl 1 rfl) ?_
          refine lv_lconst (v := 0) hx hb dX7_common_30 (by decide) ?_
          refine W.lcmp hx hb dX7_common_31 ?_
          refine lv_if_eq (tgt := 56) hx hb dX7_common_32 (by decide) (fun c_3 => ?_) (fun c_3 => ?_)
          · skip
            have nc_3 := (lg_cmp_eq _ _).mp c_3
            have hq0 : gq = 0 := lN_eq0 (gcI_b hI).2 nc_3
            refine lv_lload hx hb dX7_common_56 (lv_at hl 0 rfl) ?_
            rw [← hQ]
            exact W.lret (v := lN gp) hx hb hr (fun t ht hW => ⟨_, rfl, (gcI_gcd hI hq0), ht⟩) (fun q h => absurd h List.not_mem_nil) dX7_common_58
          · skip
            have nc_3 := fun h => c_3 ((lg_cmp_eq _ _).mpr h)
            have hq0 : ¬ gq = 0 := fun q => nc_3 (by rw [q]; rfl)
            refine lv_lload hx hb dX7_common_35 (lv_at hl 0 rfl) ?_
            refine lv_lload hx hb dX7_common_37 (lv_at hl 1 rfl) ?_
            refine lv_lrem hx hb dX7_common_39 (fun q => hq0 (lN_eq0 (gcI_b hI).2 q)) ?_
            refine u_eql (show (lN gp) - (lN gp) / (lN gq) * (lN gq) = lN (gp % gq) from lrem_eq hq0 (gcI_b hI).1 (gcI_b hI).2) ?_
            refine lv_lstore (lv' := [(9, .long (lN (gp % gq))), (4, .long (lN gp)), (6, .long (lN gq)), (8, .int (nI ix))]) hx hb dX7_common_40 hl (by decide) rfl (fun ls hl => ?_)
            refine lv_lload hx hb dX7_common_42 (lv_at hl 2 rfl) ?_
            refine lv_lstore (lv' := [(4, .long (lN gq)), (9, .long (lN (gp % gq))), (6, .long (lN gq)), (8, .int (nI ix))]) hx hb dX7_common_44 hl (by decide) rfl (fun ls hl => ?_)
            refine lv_lload hx hb dX7_common_46 (lv_at hl 1 rfl) ?_
            refine lv_lstore (lv' := [(6, .long (lN (gp % gq))), (4, .long (lN gq)), (9, .long (lN (gp % gq))), (8, .int (nI ix))]) hx hb dX7_common_48 hl (by decide) rfl (fun ls hl => ?_)
            refine lv_iinc (v := nI (ix + 1)) (lv' := [(8, .int (nI (ix + 1))), (6, .long (lN (gp % gq))), (4, .long (lN gq)), (9, .long (lN (gp % gq)))]) hx hb dX7_common_50 hl (k := 3) rfl (nI_1 _) (by decide) rfl (fun ls hl => ?_)
            refine lv_goto (tgt := 20) hx hb dX7_common_53 (by decide) ?_
            exact ih_20 (ix + 1) gq (gp % gq) (gcI_s hI hq0) (by omega) (by omega) ls (lv_sub hl [2, 1, 0] rfl)
    exact LOOP_20 (200 - 0 + 1) 0 NN.natAbs gb (gcI_0 hga hgb) (Nat.zero_le _) (Nat.lt_succ_self _) ls (lv_sub hl [2, 1, 0] rfl)
  · skip
    have nc_1 := fun h => c_1 ((lg_cmp_ge _ _).mpr h)
    refine lv_lload_n hx hb dX7_common_6 rfl (lv_at hl 0 rfl) ?_
    refine lv_lneg hx hb dX7_common_7 ?_
    refine lv_goto (tgt := 12) hx hb dX7_common_8 (by decide) ?_
    refine u_eql (show -(lI NN) = lN NN.natAbs from neg_t hga nc_1) ?_
    refine lv_lstore (lv' := [(4, .long (lN NN.natAbs)), (0, .long (lI NN)), (2, .long (lN gb))]) hx hb dX7_common_12 hl (by decide) rfl (fun ls hl => ?_)
    refine lv_lload_n hx hb dX7_common_14 rfl (lv_at hl 2 rfl) ?_
    refine lv_lstore (lv' := [(6, .long (lN gb)), (4, .long (lN NN.natAbs)), (0, .long (lI NN)), (2, .long (lN gb))]) hx hb dX7_common_15 hl (by decide) rfl (fun ls hl => ?_)
    refine lv_iconst (v := 0) hx hb dX7_common_17 (by decide) ?_
    refine lv_istore (lv' := [(8, .int 0), (6, .long (lN gb)), (4, .long (lN NN.natAbs)), (0, .long (lI NN)), (2, .long (lN gb))]) hx hb dX7_common_18 hl (by decide) rfl (fun ls hl => ?_)
    have LOOP_20 : ∀ (fu : Nat) (ix : Nat) (gp : Nat) (gq : Nat) (hI : gcI NN.natAbs gb ix gp gq) (hix : ix ≤ 200) (hn : 200 - ix < fu) (ls : Array Slot) (hl : lv_has ls 11 [(4, .long (lN gp)), (6, .long (lN gq)), (8, .int (nI ix))]), W p l e ({ frames := 0, cells := 0, slots := 0, locals := 0 } : Room) s m ([.long (lI NN), .long (lN gb)] : List Value).toArray below meth c s.heap [] 0 0 Q (F0 m 20 ls []) := by
      intro fu
      induction fu with
      | zero => intro ix gp gq hI hix hn ls hl; exact absurd hn (Nat.not_lt_zero _)
      | succ fu ih_20 =>
        intro ix gp gq hI hix hn ls hl
        refine lv_iload hx hb dX7_common_20 (lv_at hl 2 rfl) ?_
        refine lv_sipush (v := 200) hx hb dX7_common_22 (by decide) ?_
        refine lv_icmp_ge (tgt := 56) hx hb dX7_common_25 (by decide) (fun c_4 => ?_) (fun c_4 => ?_)
        · skip
          have nc_4 : 200 ≤ ix := (nI_leI (a := 200) (b := ix) (by omega) (by omega)).mp c_4
          have hq0 : gq = 0 := gcI_end hI (by omega)
          refine lv_lload hx hb dX7_common_56 (lv_at hl 0 rfl) ?_
          rw [← hQ]
          exact W.lret (v := lN gp) hx hb hr (fun t ht hW => ⟨_, rfl, (gcI_gcd hI hq0), ht⟩) (fun q h => absurd h List.not_mem_nil) dX7_common_58
        · skip
          have nc_4 : ¬ (200 ≤ ix) := fun h => c_4 ((nI_leI (a := 200) (b := ix) (by omega) (by omega)).mpr h)
          refine lv_lload hx hb dX7_common_28 (lv_at hl 1 rfl) ?_
          refine lv_lconst (v := 0) hx hb dX7_common_30 (by decide) ?_
          refine W.lcmp hx hb dX7_common_31 ?_
          refine lv_if_eq (tgt := 56) hx hb dX7_common_32 (by decide) (fun c_5 => ?_) (fun c_5 => ?_)
          · skip
            have nc_5 := (lg_cmp_eq _ _).mp c_5
            have hq0 : gq = 0 := lN_eq0 (gcI_b hI).2 nc_5
            refine lv_lload hx hb dX7_common_56 (lv_at hl 0 rfl) ?_
            rw [← hQ]
            exact W.lret (v := lN gp) hx hb hr (fun t ht hW => ⟨_, rfl, (gcI_gcd hI hq0), ht⟩) (fun q h => absurd h List.not_mem_nil) dX7_common_58
          · skip
            have nc_5 := fun h => c_5 ((lg_cmp_eq _ _).mpr h)
            have hq0 : ¬ gq = 0 := fun q => nc_5 (by rw [q]; rfl)
            refine lv_lload hx hb dX7_common_35 (lv_at hl 0 rfl) ?_
            refine lv_lload hx hb dX7_common_37 (lv_at hl 1 rfl) ?_
            refine lv_lrem hx hb dX7_common_39 (fun q => hq0 (lN_eq0 (gcI_b hI).2 q)) ?_
            refine u_eql (show (lN gp) - (lN gp) / (lN gq) * (lN gq) = lN (gp % gq) from lrem_eq hq0 (gcI_b hI).1 (gcI_b hI).2) ?_
            refine lv_lstore (lv' := [(9, .long (lN (gp % gq))), (4, .long (lN gp)), (6, .long (lN gq)), (8, .int (nI ix))]) hx hb dX7_common_40 hl (by decide) rfl (fun ls hl => ?_)
            refine lv_lload hx hb dX7_common_42 (lv_at hl 2 rfl) ?_
            refine lv_lstore (lv' := [(4, .long (lN gq)), (9, .long (lN (gp % gq))), (6, .long (lN gq)), (8, .int (nI ix))]) hx hb dX7_common_44 hl (by decide) rfl (fun ls hl => ?_)
            refine lv_lload hx hb dX7_common_46 (lv_at hl 1 rfl) ?_
            refine lv_lstore (lv' := [(6, .long (lN (gp % gq))), (4, .long (lN gq)), (9, .long (lN (gp % gq))), (8, .int (nI ix))]) hx hb dX7_common_48 hl (by decide) rfl (fun ls hl => ?_)
            refine lv_iinc (v := nI (ix + 1)) (lv' := [(8, .int (nI (ix + 1))), (6, .long (lN (gp % gq))), (4, .long (lN gq)), (9, .long (lN (gp % gq)))]) hx hb dX7_common_50 hl (k := 3) rfl (nI_1 _) (by decide) rfl (fun ls hl => ?_)
            refine lv_goto (tgt := 20) hx hb dX7_common_53 (by decide) ?_
            exact ih_20 (ix + 1) gq (gp % gq) (gcI_s hI hq0) (by omega) (by omega) ls (lv_sub hl [2, 1, 0] rfl)
    exact LOOP_20 (200 - 0 + 1) 0 NN.natAbs gb (gcI_0 hga hgb) (Nat.zero_le _) (Nat.lt_succ_self _) ls (lv_sub hl [2, 1, 0] rfl)

set_option maxHeartbeats 4000000 in
set_option maxRecDepth 100000 in
theorem c_X7_add (l : Launch) (D : va_G) (cI cB cZ cP : ClassId) (sz : Nat) (a : Nat → Nat) (v : Nat → Int32) (F : Nat → Nat → Int32) (qq : Rat) (u2 : Int) (l2 : Nat) (hl0 : 0 < l2) (hNb : (qq.num * l2 + u2 * qq.den).natAbs < 2 ^ 57) (hMb : qq.den * l2 < 2 ^ 40) : Met l yX7_add wsX7_add ({ frames := 1, cells := 0, slots := 0, locals := 30 } : Room) (va_Pc [.ref (a 0), .long (lI u2), .long (lN l2)] (fun U => U.heap.size = sz ∧ va_P D vwCl (MW cI cZ a v (lI qq.num) (lN qq.den) F) U.heap ∧ KW D cI cB cZ cP U ∧ va_D (fun _ => True) (MW cI cZ a v (lI qq.num) (lN qq.den) F) ∧ EF (MW cI cZ a v (lI qq.num) (lN qq.den) F) sz E0 U.heap)) (va_Qv (fun (_ : Unit) => True) (fun (_ : Unit) (t : State) => va_P D vwCl (MW cI cZ a v (lI (qq + mkRat u2 l2).num) (lN (qq + mkRat u2 l2).den) F) t.heap ∧ va_D (va_A (MW cI cZ a v (lI qq.num) (lN qq.den) F) sz) (MW cI cZ a v (lI (qq + mkRat u2 l2).num) (lN (qq + mkRat u2 l2).den) F)) (va_A (MW cI cZ a v (lI qq.num) (lN qq.den) F) sz)) 0 0 (va_A (MW cI cZ a v (lI qq.num) (lN qq.den) F) sz) := by
  refine Met.ofW (cc := cX7_add) (maxL := 11) (ret := none) (by decide) rfl ?_
  intro p e s m args below meth c s₁ B hml hv
  obtain ⟨rfl, hsz, hP, hW0, hD0, hE⟩ := hv
  have hx := B.exec
  have hb := B.bytes
  have hr := B.returns
  have hts := atoms_spec (ws := wsX7_add) B.pre
  have hown : s.vm.findClass RX7 = some m.cls := findClass_of_methodNamed B.named
  have hlocks := B.notSynchronized
  have hK := hW0.1
  subst hsz
  have hD := hD0.self (sz := s.heap.size)
  unfold EF at hE
  generalize hAe : va_A (MW cI cZ a v (lI qq.num) (lN qq.den) F) s.heap.size = A at hD hE ⊢
  have hA : ∀ q : Nat, s.heap.size ≤ q → A q := fun q h => by rw [← hAe]; exact Or.inr h
  have hS : va_S A s.heap s.heap [] := va_S.rf
  have hl := lv_entry ([.ref (a 0), .long (lI u2), .long (lN l2)]) (n := 11) (Nat.le_of_ble_eq_true rfl)
  rw [lg_entry_eq]
  generalize (lg_sl ([.ref (a 0), .long (lI u2), .long (lN l2)]) ++ List.replicate (11 - (lg_sl ([.ref (a 0), .long (lI u2), .long (lN l2)])).length) Slot.unset).toArray = ls at hl ⊢
  have hl : lv_has ls 11 [(0, .ref (a 0)), (1, .long (lI u2)), (3, .long (lN l2))] := hl
  show W p l e ({ frames := 1, cells := 0, slots := 0, locals := 30 } : Room) s m ([.ref (a 0), .long (lI u2), .long (lN l2)] : List Value).toArray below meth c s.heap [] 0 0 _ (F0 m 0 ls [])
  refine u_genQ (fun Q hQ => ?_)
  have hd0 := qq.den_pos
  refine lv_aload_n hx hb dX7_add_0 rfl (lv_at hl 0 rfl) ?_
  refine va_get (D := D) (ci := 9) (v := .long (lI qq.num)) (C := RX7) (T := TX7) (N := 24) hx hb hts (by decide +kernel) hown hK hP 0 rfl rfl 19 (by decide) (hts (.fieldLink RX7 175 "LandDeedsModel" "sumUp" "J") (by decide +kernel)) (fun _ h9 => h9) rfl dX7_add_1 ?_
  refine lv_lload_n hx hb dX7_add_4 rfl (lv_at hl 2 rfl) ?_
  refine lv_lmul hx hb dX7_add_5 ?_
  refine u_eql (show (lI qq.num) * (lN l2) = lI (qq.num * l2) from lI_mulN _ _) ?_
  refine lv_lload_n hx hb dX7_add_6 rfl (lv_at hl 1 rfl) ?_
  refine lv_aload_n hx hb dX7_add_7 rfl (lv_at hl 0 rfl) ?_
  refine va_get (D := D) (ci := 9) (v := .long (lN qq.den)) (C := RX7) (T := TX7) (N := 24) hx hb hts (by decide +kernel) hown hK hP 0 rfl rfl 20 (by decide) (hts (.fieldLink RX7 179 "LandDeedsModel" "sumLow" "J") (by decide +kernel)) (fun _ h9 => h9) rfl dX7_add_8 ?_
  refine lv_lmul hx hb dX7_add_11 ?_
  refine u_eql (show (lI u2) * (lN qq.den) = lI (u2 * qq.den) from lI_mulN _ _) ?_
  refine lv_ladd hx hb dX7_add_12 ?_
  refine u_eql (show (lI (qq.num * l2)) + (lI (u2 * qq.den)) = lI (qq.num * l2 + u2 * qq.den) from (Int64.ofInt_add _ _).symm) ?_
  refine lv_lstore (lv' := [(5, .long (lI (qq.num * l2 + u2 * qq.den))), (0, .ref (a 0)), (1, .long (lI u2)), (3, .long (lN l2))]) hx hb dX7_add_13 hl (by decide) rfl (fun ls hl => ?_)
  refine lv_aload_n hx hb dX7_add_15 rfl (lv_at hl 1 rfl) ?_
  refine va_get (D := D) (ci := 9) (v := .long (lN qq.den)) (C := RX7) (T := TX7) (N := 24) hx hb hts (by decide +kernel) hown hK hP 0 rfl rfl 20 (by decide) (hts (.fieldLink RX7 179 "LandDeedsModel" "sumLow" "J") (by decide +kernel)) (fun _ h9 => h9) rfl dX7_add_16 ?_
  refine lv_lload_n hx hb dX7_add_19 rfl (lv_at hl 3 rfl) ?_
  refine lv_lmul hx hb dX7_add_20 ?_
  refine u_eql (show (lN qq.den) * (lN l2) = lN (qq.den * l2) from lN_mul _ _) ?_
  refine lv_lstore (lv' := [(7, .long (lN (qq.den * l2))), (5, .long (lI (qq.num * l2 + u2 * qq.den))), (0, .ref (a 0)), (1, .long (lI u2)), (3, .long (lN l2))]) hx hb dX7_add_21 hl (by decide) rfl (fun ls hl => ?_)
  refine lv_lload hx hb dX7_add_23 (lv_at hl 1 rfl) ?_
  refine lv_lload hx hb dX7_add_25 (lv_at hl 0 rfl) ?_
  have hPc := hP.sub (ws' := []) [] rfl
  refine u_callSl (W.runS (As := [.long (lI (qq.num * l2 + u2 * qq.den)), .long (lN (qq.den * l2))]) (rest := []) ⟨hx, hb, hml, hown, hts⟩ (c_X7_common l D cI cB cZ cP (qq.num * l2 + u2 * qq.den) (qq.den * l2) (hNb) (hMb)) (cwS 2 hts gX7_add_X7_common rfl rfl rfl (by decide +kernel) ⟨Nat.le_of_ble_eq_true rfl, Nat.le_of_ble_eq_true rfl⟩) (pS hPc hW0 trivial) rfl rfl hl.1 rfl (lv_room (Nat.le_of_ble_eq_true rfl)) dX7_add_27 ⟨Nat.le_of_ble_eq_true rfl, Nat.le_of_ble_eq_true rfl⟩) ?_
  refine lv_lstore (lv' := [(9, .long (lN (Nat.gcd (qq.num * l2 + u2 * qq.den).natAbs (qq.den * l2)))), (7, .long (lN (qq.den * l2))), (5, .long (lI (qq.num * l2 + u2 * qq.den))), (0, .ref (a 0)), (1, .long (lI u2)), (3, .long (lN l2))]) hx hb dX7_add_30 hl (by decide) rfl (fun ls hl => ?_)
  refine lv_aload_n hx hb dX7_add_32 rfl (lv_at hl 3 rfl) ?_
  refine lv_lload hx hb dX7_add_33 (lv_at hl 2 rfl) ?_
  refine lv_lload hx hb dX7_add_35 (lv_at hl 0 rfl) ?_
  refine lv_ldiv hx hb dX7_add_37 (gcd_ne hd0 hl0 hMb) ?_
  refine u_eql (show (lI (qq.num * l2 + u2 * qq.den)) / (lN (Nat.gcd (qq.num * l2 + u2 * qq.den).natAbs (qq.den * l2))) = lI (qq + mkRat u2 l2).num from (div_U hd0 hl0 hNb).trans (congrArg lI (ratU_q qq u2 hl0))) ?_
  refine va_put (D := D) (ci := 9) (v := .long (lI (qq + mkRat u2 l2).num)) (ty := .long) (C := RX7) (T := TX7) (N := 24) hx hb hts (by decide +kernel) tyX7 tyX7_ok nmX7 hown hK hP hD hS 0 rfl rfl 19 (by decide) (hts (.fieldLink RX7 175 "LandDeedsModel" "sumUp" "J") (by decide +kernel)) (fun _ h9 => h9) rfl (by decide +kernel) rfl rfl (Nat.le_of_ble_eq_true rfl) dX7_add_38 (fun H locs hP hD hS => ?_)
  have hP : va_P D vwCl (MW cI cZ a v (lI (qq + mkRat u2 l2).num) (lN qq.den) F) H := hP
  have hD : va_D A (MW cI cZ a v (lI (qq + mkRat u2 l2).num) (lN qq.den) F) := hD
  refine lv_aload_n hx hb dX7_add_41 rfl (lv_at hl 3 rfl) ?_
  refine lv_lload hx hb dX7_add_42 (lv_at hl 1 rfl) ?_
  refine lv_lload hx hb dX7_add_44 (lv_at hl 0 rfl) ?_
  refine lv_ldiv hx hb dX7_add_46 (gcd_ne hd0 hl0 hMb) ?_
  refine u_eql (show (lN (qq.den * l2)) / (lN (Nat.gcd (qq.num * l2 + u2 * qq.den).natAbs (qq.den * l2))) = lN (qq + mkRat u2 l2).den from (div_L hd0 hl0 hMb hNb).trans (congrArg lN (ratL_q qq u2 hl0))) ?_
  refine va_put (D := D) (ci := 9) (v := .long (lN (qq + mkRat u2 l2).den)) (ty := .long) (C := RX7) (T := TX7) (N := 24) hx hb hts (by decide +kernel) tyX7 tyX7_ok nmX7 hown hK hP hD hS 0 rfl rfl 20 (by decide) (hts (.fieldLink RX7 179 "LandDeedsModel" "sumLow" "J") (by decide +kernel)) (fun _ h9 => h9) rfl (by decide +kernel) rfl rfl (Nat.le_of_ble_eq_true rfl) dX7_add_47 (fun H locs hP hD hS => ?_)
  have hP : va_P D vwCl (MW cI cZ a v (lI (qq + mkRat u2 l2).num) (lN (qq + mkRat u2 l2).den) F) H := hP
  have hD : va_D A (MW cI cZ a v (lI (qq + mkRat u2 l2).num) (lN (qq + mkRat u2 l2).den) F) := hD
  rw [← hQ]
  have hP9 := hP
  have hD9 := hD
  exact W.vret hx hb hr (fun t ht hW => ⟨⟨(), rfl, trivial, by rw [ht]; exact hP9, hD9⟩, hS.F ht⟩) hS.2.2 dX7_add_50

set_option maxHeartbeats 4000000 in
set_option maxRecDepth 100000 in
theorem c_X7_addSide (l : Launch) (D : va_G) (cI cB cZ cP : ClassId) (sz : Nat) (a : Nat → Nat) (v : Nat → Int32) (F : Nat → Nat → Int32) (nn : Nat) (X Y : Nat → Int32) (qq : Rat) (k k8 : Nat) (cl : Int32) (hn8 : nn ≤ 8) (hk : k < nn) (hp : ∀ z, z < nn → isP (X z) (Y z)) (hc : b31 cl) (hq : qB k8 qq) (hk8 : k8 < 8) : Met l yX7_addSide wsX7_addSide ({ frames := 2, cells := 0, slots := 0, locals := 60 } : Room) (va_Pc [.ref (a 0), .int (nI k), .int cl] (fun U => U.heap.size = sz ∧ va_P D vwCl (MW cI cZ a (upd v 7 (nI nn)) (lI qq.num) (lN qq.den) (updF (updF F 7 X) 8 Y)) U.heap ∧ KW D cI cB cZ cP U ∧ va_D (fun _ => True) (MW cI cZ a (upd v 7 (nI nn)) (lI qq.num) (lN qq.den) (updF (updF F 7 X) 8 Y)) ∧ EF (MW cI cZ a (upd v 7 (nI nn)) (lI qq.num) (lN qq.den) (updF (updF F 7 X) 8 Y)) sz E0 U.heap)) (va_Qv (fun (_ : Unit) => True) (fun (_ : Unit) (t : State) => va_P D vwCl (MW cI cZ a (upd v 7 (nI nn)) (lI (qq + mT nn X Y cl k).num) (lN (qq + mT nn X Y cl k).den) (updF (updF F 7 X) 8 Y)) t.heap ∧ va_D (va_A (MW cI cZ a (upd v 7 (nI nn)) (lI qq.num) (lN qq.den) (updF (updF F 7 X) 8 Y)) sz) (MW cI cZ a (upd v 7 (nI nn)) (lI (qq + mT nn X Y cl k).num) (lN (qq + mT nn X Y cl k).den) (updF (updF F 7 X) 8 Y))) (va_A (MW cI cZ a (upd v 7 (nI nn)) (lI qq.num) (lN qq.den) (updF (updF F 7 X) 8 Y)) sz)) 0 0 (va_A (MW cI cZ a (upd v 7 (nI nn)) (lI qq.num) (lN qq.den) (updF (updF F 7 X) 8 Y)) sz) := by
  refine Met.ofW (cc := cX7_addSide) (maxL := 6) (ret := none) (by decide) rfl ?_
  intro p e s m args below meth c s₁ B hml hv
  obtain ⟨rfl, hsz, hP, hW0, hD0, hE⟩ := hv
  have hx := B.exec
  have hb := B.bytes
  have hr := B.returns
  have hts := atoms_spec (ws := wsX7_addSide) B.pre
  have hown : s.vm.findClass RX7 = some m.cls := findClass_of_methodNamed B.named
  have hlocks := B.notSynchronized
  have hK := hW0.1
  subst hsz
  have hD := hD0.self (sz := s.heap.size)
  unfold EF at hE
  generalize hAe : va_A (MW cI cZ a (upd v 7 (nI nn)) (lI qq.num) (lN qq.den) (updF (updF F 7 X) 8 Y)) s.heap.size = A at hD hE ⊢
  have hA : ∀ q : Nat, s.heap.size ≤ q → A q := fun q h => by rw [← hAe]; exact Or.inr h
  have hS : va_S A s.heap s.heap [] := va_S.rf
  have hl := lv_entry ([.ref (a 0), .int (nI k), .int cl]) (n := 6) (Nat.le_of_ble_eq_true rfl)
  rw [lg_entry_eq]
  generalize (lg_sl ([.ref (a 0), .int (nI k), .int cl]) ++ List.replicate (6 - (lg_sl ([.ref (a 0), .int (nI k), .int cl])).length) Slot.unset).toArray = ls at hl ⊢
  have hl : lv_has ls 6 [(0, .ref (a 0)), (1, .int (nI k)), (2, .int cl)] := hl
  show W p l e ({ frames := 2, cells := 0, slots := 0, locals := 60 } : Room) s m ([.ref (a 0), .int (nI k), .int cl] : List Value).toArray below meth c s.heap [] 0 0 _ (F0 m 0 ls [])
  refine u_genQ (fun Q hQ => ?_)
  have hnx := nxt_lt hk
  have p1 := hp k hk
  have p2 := hp _ hnx
  have hb9 := mT_b (n := nn) (X := X) (Y := Y) (c := cl) (k := k) ⟨p1.1, p1.2.1⟩ ⟨p2.1, p2.2.1⟩ ⟨p1.2.2.1, p1.2.2.2⟩ ⟨p2.2.2.1, p2.2.2.2⟩ hc
  refine lv_aload_n hx hb dX7_addSide_0 rfl (lv_at hl 0 rfl) ?_
  refine va_get (D := D) (ci := 9) (v := .ref (a 7)) (C := RX7) (T := TX7) (N := 24) hx hb hts (by decide +kernel) hown hK hP 0 rfl rfl 11 (by decide) (hts (.fieldLink RX7 29 "LandDeedsModel" "cx" "[I") (by decide +kernel)) (fun _ h9 => h9) rfl dX7_addSide_1 ?_
  refine lv_iload_n hx hb dX7_addSide_4 rfl (lv_at hl 1 rfl) ?_
  refine u_iald hx hb hK hP 7 0 rfl rfl rfl ⟨by omega, by omega⟩ dX7_addSide_5 ?_
  refine lv_aload_n hx hb dX7_addSide_6 rfl (lv_at hl 0 rfl) ?_
  refine va_get (D := D) (ci := 9) (v := .ref (a 7)) (C := RX7) (T := TX7) (N := 24) hx hb hts (by decide +kernel) hown hK hP 0 rfl rfl 11 (by decide) (hts (.fieldLink RX7 29 "LandDeedsModel" "cx" "[I") (by decide +kernel)) (fun _ h9 => h9) rfl dX7_addSide_7 ?_
  refine lv_aload_n hx hb dX7_addSide_10 rfl (lv_at hl 0 rfl) ?_
  refine lv_iload_n hx hb dX7_addSide_11 rfl (lv_at hl 1 rfl) ?_
  have hPc := hP
  refine u_callSi (W.runV (As := [.int (nI k)]) (rest := [.ref (a 7), .int (X k)]) ⟨hx, hb, hml, hown, hts⟩ (c_X7_next l D cI cB cZ cP a v (lI qq.num) (lN qq.den) F nn X Y k (by first | assumption | omega) (by first | assumption | omega)) (cwV 1 hts gX7_addSide_X7_next rfl rfl rfl (by decide +kernel) ⟨Nat.le_of_ble_eq_true rfl, Nat.le_of_ble_eq_true rfl⟩) (pV (q0 := 0) hPc hW0 trivial rfl rfl) rfl rfl hl.1 rfl (lv_room (Nat.le_of_ble_eq_true rfl)) dX7_addSide_12 ⟨Nat.le_of_ble_eq_true rfl, Nat.le_of_ble_eq_true rfl⟩) ?_
  refine u_iald hx hb hK hP 7 0 rfl rfl rfl ⟨by omega, by omega⟩ dX7_addSide_15 ?_
  refine lv_icmp_ge (tgt := 28) hx hb dX7_addSide_16 (by decide) (fun c_1 => ?_) (fun c_1 => ?_)
  · skip
    have q16 : X (nxt nn k) ≤ X k := c_1
    refine lv_aload_n hx hb dX7_addSide_28 rfl (lv_at hl 0 rfl) ?_
    refine va_get (D := D) (ci := 9) (v := .ref (a 7)) (C := RX7) (T := TX7) (N := 24) hx hb hts (by decide +kernel) hown hK hP 0 rfl rfl 11 (by decide) (hts (.fieldLink RX7 29 "LandDeedsModel" "cx" "[I") (by decide +kernel)) (fun _ h9 => h9) rfl dX7_addSide_29 ?_
    refine lv_aload_n hx hb dX7_addSide_32 rfl (lv_at hl 0 rfl) ?_
    refine lv_iload_n hx hb dX7_addSide_33 rfl (lv_at hl 1 rfl) ?_
    have hPc := hP
    refine u_callSi (W.runV (As := [.int (nI k)]) (rest := [.ref (a 7)]) ⟨hx, hb, hml, hown, hts⟩ (c_X7_next l D cI cB cZ cP a v (lI qq.num) (lN qq.den) F nn X Y k (by first | assumption | omega) (by first | assumption | omega)) (cwV 1 hts gX7_addSide_X7_next rfl rfl rfl (by decide +kernel) ⟨Nat.le_of_ble_eq_true rfl, Nat.le_of_ble_eq_true rfl⟩) (pV (q0 := 0) hPc hW0 trivial rfl rfl) rfl rfl hl.1 rfl (lv_room (Nat.le_of_ble_eq_true rfl)) dX7_addSide_34 ⟨Nat.le_of_ble_eq_true rfl, Nat.le_of_ble_eq_true rfl⟩) ?_
    refine u_iald hx hb hK hP 7 0 rfl rfl rfl ⟨by omega, by omega⟩ dX7_addSide_37 ?_
    refine u_eqi (show X (nxt nn k) = lo_ nn X k from by unfold lo_; rw [if_pos q16]) ?_
    refine lv_istore_n (lv' := [(3, .int (lo_ nn X k)), (0, .ref (a 0)), (1, .int (nI k)), (2, .int cl)]) hx hb dX7_addSide_38 rfl hl (by decide) rfl (fun ls hl => ?_)
    refine lv_aload_n hx hb dX7_addSide_39 rfl (lv_at hl 1 rfl) ?_
    refine va_get (D := D) (ci := 9) (v := .ref (a 7)) (C := RX7) (T := TX7) (N := 24) hx hb hts (by decide +kernel) hown hK hP 0 rfl rfl 11 (by decide) (hts (.fieldLink RX7 29 "LandDeedsModel" "cx" "[I") (by decide +kernel)) (fun _ h9 => h9) rfl dX7_addSide_40 ?_
    refine lv_iload_n hx hb dX7_addSide_43 rfl (lv_at hl 2 rfl) ?_
    refine u_iald hx hb hK hP 7 0 rfl rfl rfl ⟨by omega, by omega⟩ dX7_addSide_44 ?_
    refine lv_aload_n hx hb dX7_addSide_45 rfl (lv_at hl 1 rfl) ?_
    refine va_get (D := D) (ci := 9) (v := .ref (a 7)) (C := RX7) (T := TX7) (N := 24) hx hb hts (by decide +kernel) hown hK hP 0 rfl rfl 11 (by decide) (hts (.fieldLink RX7 29 "LandDeedsModel" "cx" "[I") (by decide +kernel)) (fun _ h9 => h9) rfl dX7_addSide_46 ?_
    refine lv_aload_n hx hb dX7_addSide_49 rfl (lv_at hl 1 rfl) ?_
    refine lv_iload_n hx hb dX7_addSide_50 rfl (lv_at hl 2 rfl) ?_
    have hPc := hP
    refine u_callSi (W.runV (As := [.int (nI k)]) (rest := [.ref (a 7), .int (X k)]) ⟨hx, hb, hml, hown, hts⟩ (c_X7_next l D cI cB cZ cP a v (lI qq.num) (lN qq.den) F nn X Y k (by first | assumption | omega) (by first | assumption | omega)) (cwV 1 hts gX7_addSide_X7_next rfl rfl rfl (by decide +kernel) ⟨Nat.le_of_ble_eq_true rfl, Nat.le_of_ble_eq_true rfl⟩) (pV (q0 := 0) hPc hW0 trivial rfl rfl) rfl rfl hl.1 rfl (lv_room (Nat.le_of_ble_eq_true rfl)) dX7_addSide_51 ⟨Nat.le_of_ble_eq_true rfl, Nat.le_of_ble_eq_true rfl⟩) ?_
    refine u_iald hx hb hK hP 7 0 rfl rfl rfl ⟨by omega, by omega⟩ dX7_addSide_54 ?_
    refine lv_icmp_ge (tgt := 71) hx hb dX7_addSide_55 (by decide) (fun c_2 => ?_) (fun c_2 => ?_)
    · skip
      refine lv_aload_n hx hb dX7_addSide_71 rfl (lv_at hl 1 rfl) ?_
      refine va_get (D := D) (ci := 9) (v := .ref (a 7)) (C := RX7) (T := TX7) (N := 24) hx hb hts (by decide +kernel) hown hK hP 0 rfl rfl 11 (by decide) (hts (.fieldLink RX7 29 "LandDeedsModel" "cx" "[I") (by decide +kernel)) (fun _ h9 => h9) rfl dX7_addSide_72 ?_
      refine lv_iload_n hx hb dX7_addSide_75 rfl (lv_at hl 2 rfl) ?_
      refine u_iald hx hb hK hP 7 0 rfl rfl rfl ⟨by omega, by omega⟩ dX7_addSide_76 ?_
      refine u_eqi (show X k = hi_ nn X k from by unfold hi_; rw [if_pos q16]) ?_
      refine lv_istore (lv' := [(4, .int (hi_ nn X k)), (3, .int (lo_ nn X k)), (0, .ref (a 0)), (1, .int (nI k)), (2, .int cl)]) hx hb dX7_addSide_77 hl (by decide) rfl (fun ls hl => ?_)
      refine lv_aload_n hx hb dX7_addSide_79 rfl (lv_at hl 2 rfl) ?_
      refine va_get (D := D) (ci := 9) (v := .ref (a 8)) (C := RX7) (T := TX7) (N := 24) hx hb hts (by decide +kernel) hown hK hP 0 rfl rfl 12 (by decide) (hts (.fieldLink RX7 32 "LandDeedsModel" "cy" "[I") (by decide +kernel)) (fun _ h9 => h9) rfl dX7_addSide_80 ?_
      refine lv_aload_n hx hb dX7_addSide_83 rfl (lv_at hl 2 rfl) ?_
      refine lv_iload_n hx hb dX7_addSide_84 rfl (lv_at hl 3 rfl) ?_
      have hPc := hP
      refine u_callSi (W.runV (As := [.int (nI k)]) (rest := [.ref (a 8)]) ⟨hx, hb, hml, hown, hts⟩ (c_X7_next l D cI cB cZ cP a v (lI qq.num) (lN qq.den) F nn X Y k (by first | assumption | omega) (by first | assumption | omega)) (cwV 1 hts gX7_addSide_X7_next rfl rfl rfl (by decide +kernel) ⟨Nat.le_of_ble_eq_true rfl, Nat.le_of_ble_eq_true rfl⟩) (pV (q0 := 0) hPc hW0 trivial rfl rfl) rfl rfl hl.1 rfl (lv_room (Nat.le_of_ble_eq_true rfl)) dX7_addSide_85 ⟨Nat.le_of_ble_eq_true rfl, Nat.le_of_ble_eq_true rfl⟩) ?_
      refine u_iald hx hb hK hP 8 0 rfl rfl rfl ⟨by omega, by omega⟩ dX7_addSide_88 ?_
      refine lv_aload_n hx hb dX7_addSide_89 rfl (lv_at hl 2 rfl) ?_
      refine va_get (D := D) (ci := 9) (v := .ref (a 8)) (C := RX7) (T := TX7) (N := 24) hx hb hts (by decide +kernel) hown hK hP 0 rfl rfl 12 (by decide) (hts (.fieldLink RX7 32 "LandDeedsModel" "cy" "[I") (by decide +kernel)) (fun _ h9 => h9) rfl dX7_addSide_90 ?_
      refine lv_iload_n hx hb dX7_addSide_93 rfl (lv_at hl 3 rfl) ?_
      refine u_iald hx hb hK hP 8 0 rfl rfl rfl ⟨by omega, by omega⟩ dX7_addSide_94 ?_
      refine lv_isub hx hb dX7_addSide_95 ?_
      refine lv_istore (lv' := [(5, .int ((Y (nxt nn k)) - (Y k))), (4, .int (hi_ nn X k)), (3, .int (lo_ nn X k)), (0, .ref (a 0)), (1, .int (nI k)), (2, .int cl)]) hx hb dX7_addSide_96 hl (by decide) rfl (fun ls hl => ?_)
      refine lv_iload hx hb dX7_addSide_98 (lv_at hl 1 rfl) ?_
      refine lv_iload_n hx hb dX7_addSide_100 rfl (lv_at hl 5 rfl) ?_
      refine lv_icmp_gt (tgt := 120) hx hb dX7_addSide_101 (by decide) (fun c_3 => ?_) (fun c_3 => ?_)
      · skip
        refine lv_iload_n hx hb dX7_addSide_120 rfl (lv_at hl 2 rfl) ?_
        refine lv_iload_n hx hb dX7_addSide_121 rfl (lv_at hl 5 rfl) ?_
        refine lv_icmp_lt (tgt := 140) hx hb dX7_addSide_122 (by decide) (fun c_4 => ?_) (fun c_4 => ?_)
        · skip
          refine lv_aload_n hx hb dX7_addSide_140 rfl (lv_at hl 3 rfl) ?_
          refine lv_iload hx hb dX7_addSide_141 (lv_at hl 0 rfl) ?_
          refine lv_iconst (v := 2) hx hb dX7_addSide_143 (by decide) ?_
          refine lv_iload_n hx hb dX7_addSide_144 rfl (lv_at hl 5 rfl) ?_
          refine lv_imul hx hb dX7_addSide_145 ?_
          refine lv_iload hx hb dX7_addSide_146 (lv_at hl 1 rfl) ?_
          refine lv_imul hx hb dX7_addSide_148 ?_
          refine lv_iload_n hx hb dX7_addSide_149 rfl (lv_at hl 5 rfl) ?_
          refine lv_iload_n hx hb dX7_addSide_150 rfl (lv_at hl 5 rfl) ?_
          refine lv_imul hx hb dX7_addSide_151 ?_
          refine lv_isub hx hb dX7_addSide_152 ?_
          refine lv_iload_n hx hb dX7_addSide_153 rfl (lv_at hl 2 rfl) ?_
          refine lv_iload_n hx hb dX7_addSide_154 rfl (lv_at hl 2 rfl) ?_
          refine lv_imul hx hb dX7_addSide_155 ?_
          refine lv_isub hx hb dX7_addSide_156 ?_
          refine lv_imul hx hb dX7_addSide_157 ?_
          refine lv_i2l hx hb dX7_addSide_158 rfl ?_
          refine u_eql (show (((Y (nxt nn k)) - (Y k)) * ((((2 * cl) * (hi_ nn X k)) - (cl * cl)) - ((lo_ nn X k) * (lo_ nn X k)))).toInt64 = lI (mU nn X Y cl k).toInt from (i2l_t _).trans (congrArg (fun z : Int32 => lI z.toInt) (show _ = mU nn X Y cl k from by unfold mU; rw [if_neg (Int32.not_le.mpr c_3), if_neg (Int32.not_le.mpr c_4)]))) ?_
          refine lv_iload hx hb dX7_addSide_159 (lv_at hl 1 rfl) ?_
          refine lv_iload_n hx hb dX7_addSide_161 rfl (lv_at hl 2 rfl) ?_
          refine lv_isub hx hb dX7_addSide_162 ?_
          refine lv_i2l hx hb dX7_addSide_163 rfl ?_
          refine u_eql (show ((hi_ nn X k) - (lo_ nn X k)).toInt64 = lN (mL nn X cl k).toInt.toNat from (show _ = (mL nn X cl k).toInt64 from by unfold mL; rw [if_neg (Int32.not_le.mpr c_3), if_neg (Int32.not_le.mpr c_4)]).trans (i2l_n hb9.2.2.2)) ?_
          have hPc := hP
          have hDc := hD
          have hFc := va_free (wc := (MW cI cZ a (upd v 7 (nI nn)) (lI qq.num) (lN qq.den) (updF (updF F 7 X) 8 Y))) hD hS hA [0, 1, 2, 3, 4, 5, 6, 7, 8, 9, 10, 11, 12] rfl
          refine va_callv (va_runV (As := [.long (lI (mU nn X Y cl k).toInt), .long (lN (mL nn X cl k).toInt.toNat)]) (rest := []) ⟨hx, hb, hml, hown, hts⟩ (c_X7_add l D cI cB cZ cP s.heap.size a (upd v 7 (nI nn)) (updF (updF F 7 X) 8 Y) qq ((mU nn X Y cl k).toInt) ((mL nn X cl k).toInt.toNat) (hb9.1) ((qB_fit hq hk8 hb9.2.1 hb9.2.2.1).2.1) ((qB_fit hq hk8 hb9.2.1 hb9.2.2.1).2.2)) (cwV 2 hts gX7_addSide_X7_add rfl rfl rfl (by decide +kernel) ⟨Nat.le_of_ble_eq_true rfl, Nat.le_of_ble_eq_true rfl⟩) (pVQ (q0 := 0) hPc hDc hW0 EF.t rfl rfl) rfl rfl hl.1 rfl (lv_room (Nat.le_of_ble_eq_true rfl)) dX7_addSide_164 ⟨Nat.le_of_ble_eq_true rfl, Nat.le_of_ble_eq_true rfl⟩) hS (fun q _ h => hFc q h) hFc (fun u t H1 locs ht hvm hw hB hz1 hk1 hS => ?_)
          obtain ⟨hP1, hD1⟩ := hB
          rw [ht] at hP1
          have hw_5 : True := hw
          obtain ⟨hP, hD⟩ := va_join (wr := []) (w1 := (MW cI cZ a (upd v 7 (nI nn)) (lI (qq + mkRat ((mU nn X Y cl k).toInt) ((mL nn X cl k).toInt.toNat)).num) (lN (qq + mkRat ((mU nn X Y cl k).toInt) ((mL nn X cl k).toInt.toNat)).den) (updF (updF F 7 X) 8 Y))) hP hD [0, 1, 2, 3, 4, 5, 6, 7, 8, 9, 10, 11, 12] [] rfl rfl (by decide) (by decide) hk1 hFc hP1 hD1
          generalize H1 = H at hP hS ⊢
          have hP : va_P D vwCl (MW cI cZ a (upd v 7 (nI nn)) (lI (qq + mkRat ((mU nn X Y cl k).toInt) ((mL nn X cl k).toInt.toNat)).num) (lN (qq + mkRat ((mU nn X Y cl k).toInt) ((mL nn X cl k).toInt.toNat)).den) (updF (updF F 7 X) 8 Y)) H := hP
          have hD : va_D A (MW cI cZ a (upd v 7 (nI nn)) (lI (qq + mkRat ((mU nn X Y cl k).toInt) ((mL nn X cl k).toInt.toNat)).num) (lN (qq + mkRat ((mU nn X Y cl k).toInt) ((mL nn X cl k).toInt.toNat)).den) (updF (updF F 7 X) 8 Y)) := hD
          rw [← hQ]
          have hP9 := hP
          have hD9 := hD
          exact W.vret hx hb hr (fun t ht hW => ⟨⟨(), rfl, trivial, by rw [ht]; exact hP9, hD9⟩, hS.F ht⟩) hS.2.2 dX7_addSide_167
        · skip
          refine lv_aload_n hx hb dX7_addSide_125 rfl (lv_at hl 3 rfl) ?_
          refine lv_iload hx hb dX7_addSide_126 (lv_at hl 0 rfl) ?_
          refine lv_iconst (v := 2) hx hb dX7_addSide_128 (by decide) ?_
          refine lv_imul hx hb dX7_addSide_129 ?_
          refine lv_iload_n hx hb dX7_addSide_130 rfl (lv_at hl 5 rfl) ?_
          refine lv_imul hx hb dX7_addSide_131 ?_
          refine lv_i2l hx hb dX7_addSide_132 rfl ?_
          refine u_eql (show ((((Y (nxt nn k)) - (Y k)) * 2) * cl).toInt64 = lI (mU nn X Y cl k).toInt from (i2l_t _).trans (congrArg (fun z : Int32 => lI z.toInt) (show _ = mU nn X Y cl k from by unfold mU; rw [if_neg (Int32.not_le.mpr c_3), if_pos (Int32.not_lt.mp c_4)]))) ?_
          refine lv_lconst (v := 1) hx hb dX7_addSide_133 (by decide) ?_
          refine u_eql (show (1 : Int64) = lN (mL nn X cl k).toInt.toNat from by rw [show mL nn X cl k = 1 from by unfold mL; rw [if_neg (Int32.not_le.mpr c_3), if_pos (Int32.not_lt.mp c_4)]]; rfl) ?_
          have hPc := hP
          have hDc := hD
          have hFc := va_free (wc := (MW cI cZ a (upd v 7 (nI nn)) (lI qq.num) (lN qq.den) (updF (updF F 7 X) 8 Y))) hD hS hA [0, 1, 2, 3, 4, 5, 6, 7, 8, 9, 10, 11, 12] rfl
          refine va_callv (va_runV (As := [.long (lI (mU nn X Y cl k).toInt), .long (lN (mL nn X cl k).toInt.toNat)]) (rest := []) ⟨hx, hb, hml, hown, hts⟩ (c_X7_add l D cI cB cZ cP s.heap.size a (upd v 7 (nI nn)) (updF (updF F 7 X) 8 Y) qq ((mU nn X Y cl k).toInt) ((mL nn X cl k).toInt.toNat) (hb9.1) ((qB_fit hq hk8 hb9.2.1 hb9.2.2.1).2.1) ((qB_fit hq hk8 hb9.2.1 hb9.2.2.1).2.2)) (cwV 2 hts gX7_addSide_X7_add rfl rfl rfl (by decide +kernel) ⟨Nat.le_of_ble_eq_true rfl, Nat.le_of_ble_eq_true rfl⟩) (pVQ (q0 := 0) hPc hDc hW0 EF.t rfl rfl) rfl rfl hl.1 rfl (lv_room (Nat.le_of_ble_eq_true rfl)) dX7_addSide_134 ⟨Nat.le_of_ble_eq_true rfl, Nat.le_of_ble_eq_true rfl⟩) hS (fun q _ h => hFc q h) hFc (fun u t H1 locs ht hvm hw hB hz1 hk1 hS => ?_)
          obtain ⟨hP1, hD1⟩ := hB
          rw [ht] at hP1
          have hw_6 : True := hw
          obtain ⟨hP, hD⟩ := va_join (wr := []) (w1 := (MW cI cZ a (upd v 7 (nI nn)) (lI (qq + mkRat ((mU nn X Y cl k).toInt) ((mL nn X cl k).toInt.toNat)).num) (lN (qq + mkRat ((mU nn X Y cl k).toInt) ((mL nn X cl k).toInt.toNat)).den) (updF (updF F 7 X) 8 Y))) hP hD [0, 1, 2, 3, 4, 5, 6, 7, 8, 9, 10, 11, 12] [] rfl rfl (by decide) (by decide) hk1 hFc hP1 hD1
          generalize H1 = H at hP hS ⊢
          have hP : va_P D vwCl (MW cI cZ a (upd v 7 (nI nn)) (lI (qq + mkRat ((mU nn X Y cl k).toInt) ((mL nn X cl k).toInt.toNat)).num) (lN (qq + mkRat ((mU nn X Y cl k).toInt) ((mL nn X cl k).toInt.toNat)).den) (updF (updF F 7 X) 8 Y)) H := hP
          have hD : va_D A (MW cI cZ a (upd v 7 (nI nn)) (lI (qq + mkRat ((mU nn X Y cl k).toInt) ((mL nn X cl k).toInt.toNat)).num) (lN (qq + mkRat ((mU nn X Y cl k).toInt) ((mL nn X cl k).toInt.toNat)).den) (updF (updF F 7 X) 8 Y)) := hD
          refine lv_goto (tgt := 167) hx hb dX7_addSide_137 (by decide) ?_
          rw [← hQ]
          have hP9 := hP
          have hD9 := hD
          exact W.vret hx hb hr (fun t ht hW => ⟨⟨(), rfl, trivial, by rw [ht]; exact hP9, hD9⟩, hS.F ht⟩) hS.2.2 dX7_addSide_167
      · skip
        refine lv_aload_n hx hb dX7_addSide_104 rfl (lv_at hl 3 rfl) ?_
        refine lv_iload hx hb dX7_addSide_105 (lv_at hl 0 rfl) ?_
        refine lv_iload_n hx hb dX7_addSide_107 rfl (lv_at hl 2 rfl) ?_
        refine lv_iload hx hb dX7_addSide_108 (lv_at hl 1 rfl) ?_
        refine lv_iadd hx hb dX7_addSide_110 ?_
        refine lv_imul hx hb dX7_addSide_111 ?_
        refine lv_i2l hx hb dX7_addSide_112 rfl ?_
        refine u_eql (show (((Y (nxt nn k)) - (Y k)) * ((lo_ nn X k) + (hi_ nn X k))).toInt64 = lI (mU nn X Y cl k).toInt from (i2l_t _).trans (congrArg (fun z : Int32 => lI z.toInt) (show _ = mU nn X Y cl k from by unfold mU; rw [if_pos (Int32.not_lt.mp c_3)]))) ?_
        refine lv_lconst (v := 1) hx hb dX7_addSide_113 (by decide) ?_
        refine u_eql (show (1 : Int64) = lN (mL nn X cl k).toInt.toNat from by rw [show mL nn X cl k = 1 from by unfold mL; rw [if_pos (Int32.not_lt.mp c_3)]]; rfl) ?_
        have hPc := hP
        have hDc := hD
        have hFc := va_free (wc := (MW cI cZ a (upd v 7 (nI nn)) (lI qq.num) (lN qq.den) (updF (updF F 7 X) 8 Y))) hD hS hA [0, 1, 2, 3, 4, 5, 6, 7, 8, 9, 10, 11, 12] rfl
        refine va_callv (va_runV (As := [.long (lI (mU nn X Y cl k).toInt), .long (lN (mL nn X cl k).toInt.toNat)]) (rest := []) ⟨hx, hb, hml, hown, hts⟩ (c_X7_add l D cI cB cZ cP s.heap.size a (upd v 7 (nI nn)) (updF (updF F 7 X) 8 Y) qq ((mU nn X Y cl k).toInt) ((mL nn X cl k).toInt.toNat) (hb9.1) ((qB_fit hq hk8 hb9.2.1 hb9.2.2.1).2.1) ((qB_fit hq hk8 hb9.2.1 hb9.2.2.1).2.2)) (cwV 2 hts gX7_addSide_X7_add rfl rfl rfl (by decide +kernel) ⟨Nat.le_of_ble_eq_true rfl, Nat.le_of_ble_eq_true rfl⟩) (pVQ (q0 := 0) hPc hDc hW0 EF.t rfl rfl) rfl rfl hl.1 rfl (lv_room (Nat.le_of_ble_eq_true rfl)) dX7_addSide_114 ⟨Nat.le_of_ble_eq_true rfl, Nat.le_of_ble_eq_true rfl⟩) hS (fun q _ h => hFc q h) hFc (fun u t H1 locs ht hvm hw hB hz1 hk1 hS => ?_)
        obtain ⟨hP1, hD1⟩ := hB
        rw [ht] at hP1
        have hw_7 : True := hw
        obtain ⟨hP, hD⟩ := va_join (wr := []) (w1 := (MW cI cZ a (upd v 7 (nI nn)) (lI (qq + mkRat ((mU nn X Y cl k).toInt) ((mL nn X cl k).toInt.toNat)).num) (lN (qq + mkRat ((mU nn X Y cl k).toInt) ((mL nn X cl k).toInt.toNat)).den) (updF (updF F 7 X) 8 Y))) hP hD [0, 1, 2, 3, 4, 5, 6, 7, 8, 9, 10, 11, 12] [] rfl rfl (by decide) (by decide) hk1 hFc hP1 hD1
        generalize H1 = H at hP hS ⊢
        have hP : va_P D vwCl (MW cI cZ a (upd v 7 (nI nn)) (lI (qq + mkRat ((mU nn X Y cl k).toInt) ((mL nn X cl k).toInt.toNat)).num) (lN (qq + mkRat ((mU nn X Y cl k).toInt) ((mL nn X cl k).toInt.toNat)).den) (updF (updF F 7 X) 8 Y)) H := hP
        have hD : va_D A (MW cI cZ a (upd v 7 (nI nn)) (lI (qq + mkRat ((mU nn X Y cl k).toInt) ((mL nn X cl k).toInt.toNat)).num) (lN (qq + mkRat ((mU nn X Y cl k).toInt) ((mL nn X cl k).toInt.toNat)).den) (updF (updF F 7 X) 8 Y)) := hD
        refine lv_goto (tgt := 167) hx hb dX7_addSide_117 (by decide) ?_
        rw [← hQ]
        have hP9 := hP
        have hD9 := hD
        exact W.vret hx hb hr (fun t ht hW => ⟨⟨(), rfl, trivial, by rw [ht]; exact hP9, hD9⟩, hS.F ht⟩) hS.2.2 dX7_addSide_167
    · skip
      exact absurd c_1 c_2
  · skip
    have q16 : ¬ X (nxt nn k) ≤ X k := c_1
    refine lv_aload_n hx hb dX7_addSide_19 rfl (lv_at hl 0 rfl) ?_
    refine va_get (D := D) (ci := 9) (v := .ref (a 7)) (C := RX7) (T := TX7) (N := 24) hx hb hts (by decide +kernel) hown hK hP 0 rfl rfl 11 (by decide) (hts (.fieldLink RX7 29 "LandDeedsModel" "cx" "[I") (by decide +kernel)) (fun _ h9 => h9) rfl dX7_addSide_20 ?_
    refine lv_iload_n hx hb dX7_addSide_23 rfl (lv_at hl 1 rfl) ?_
    refine u_iald hx hb hK hP 7 0 rfl rfl rfl ⟨by omega, by omega⟩ dX7_addSide_24 ?_
    refine lv_goto (tgt := 38) hx hb dX7_addSide_25 (by decide) ?_
    refine u_eqi (show X k = lo_ nn X k from by unfold lo_; rw [if_neg q16]) ?_
    refine lv_istore_n (lv' := [(3, .int (lo_ nn X k)), (0, .ref (a 0)), (1, .int (nI k)), (2, .int cl)]) hx hb dX7_addSide_38 rfl hl (by decide) rfl (fun ls hl => ?_)
    refine lv_aload_n hx hb dX7_addSide_39 rfl (lv_at hl 1 rfl) ?_
    refine va_get (D := D) (ci := 9) (v := .ref (a 7)) (C := RX7) (T := TX7) (N := 24) hx hb hts (by decide +kernel) hown hK hP 0 rfl rfl 11 (by decide) (hts (.fieldLink RX7 29 "LandDeedsModel" "cx" "[I") (by decide +kernel)) (fun _ h9 => h9) rfl dX7_addSide_40 ?_
    refine lv_iload_n hx hb dX7_addSide_43 rfl (lv_at hl 2 rfl) ?_
    refine u_iald hx hb hK hP 7 0 rfl rfl rfl ⟨by omega, by omega⟩ dX7_addSide_44 ?_
    refine lv_aload_n hx hb dX7_addSide_45 rfl (lv_at hl 1 rfl) ?_
    refine va_get (D := D) (ci := 9) (v := .ref (a 7)) (C := RX7) (T := TX7) (N := 24) hx hb hts (by decide +kernel) hown hK hP 0 rfl rfl 11 (by decide) (hts (.fieldLink RX7 29 "LandDeedsModel" "cx" "[I") (by decide +kernel)) (fun _ h9 => h9) rfl dX7_addSide_46 ?_
    refine lv_aload_n hx hb dX7_addSide_49 rfl (lv_at hl 1 rfl) ?_
    refine lv_iload_n hx hb dX7_addSide_50 rfl (lv_at hl 2 rfl) ?_
    have hPc := hP
    refine u_callSi (W.runV (As := [.int (nI k)]) (rest := [.ref (a 7), .int (X k)]) ⟨hx, hb, hml, hown, hts⟩ (c_X7_next l D cI cB cZ cP a v (lI qq.num) (lN qq.den) F nn X Y k (by first | assumption | omega) (by first | assumption | omega)) (cwV 1 hts gX7_addSide_X7_next rfl rfl rfl (by decide +kernel) ⟨Nat.le_of_ble_eq_true rfl, Nat.le_of_ble_eq_true rfl⟩) (pV (q0 := 0) hPc hW0 trivial rfl rfl) rfl rfl hl.1 rfl (lv_room (Nat.le_of_ble_eq_true rfl)) dX7_addSide_51 ⟨Nat.le_of_ble_eq_true rfl, Nat.le_of_ble_eq_true rfl⟩) ?_
    refine u_iald hx hb hK hP 7 0 rfl rfl rfl ⟨by omega, by omega⟩ dX7_addSide_54 ?_
    refine lv_icmp_ge (tgt := 71) hx hb dX7_addSide_55 (by decide) (fun c_8 => ?_) (fun c_8 => ?_)
    · skip
      exact absurd c_8 c_1
    · skip
      refine lv_aload_n hx hb dX7_addSide_58 rfl (lv_at hl 1 rfl) ?_
      refine va_get (D := D) (ci := 9) (v := .ref (a 7)) (C := RX7) (T := TX7) (N := 24) hx hb hts (by decide +kernel) hown hK hP 0 rfl rfl 11 (by decide) (hts (.fieldLink RX7 29 "LandDeedsModel" "cx" "[I") (by decide +kernel)) (fun _ h9 => h9) rfl dX7_addSide_59 ?_
      refine lv_aload_n hx hb dX7_addSide_62 rfl (lv_at hl 1 rfl) ?_
      refine lv_iload_n hx hb dX7_addSide_63 rfl (lv_at hl 2 rfl) ?_
      have hPc := hP
      refine u_callSi (W.runV (As := [.int (nI k)]) (rest := [.ref (a 7)]) ⟨hx, hb, hml, hown, hts⟩ (c_X7_next l D cI cB cZ cP a v (lI qq.num) (lN qq.den) F nn X Y k (by first | assumption | omega) (by first | assumption | omega)) (cwV 1 hts gX7_addSide_X7_next rfl rfl rfl (by decide +kernel) ⟨Nat.le_of_ble_eq_true rfl, Nat.le_of_ble_eq_true rfl⟩) (pV (q0 := 0) hPc hW0 trivial rfl rfl) rfl rfl hl.1 rfl (lv_room (Nat.le_of_ble_eq_true rfl)) dX7_addSide_64 ⟨Nat.le_of_ble_eq_true rfl, Nat.le_of_ble_eq_true rfl⟩) ?_
      refine u_iald hx hb hK hP 7 0 rfl rfl rfl ⟨by omega, by omega⟩ dX7_addSide_67 ?_
      refine lv_goto (tgt := 77) hx hb dX7_addSide_68 (by decide) ?_
      refine u_eqi (show X (nxt nn k) = hi_ nn X k from by unfold hi_; rw [if_neg q16]) ?_
      refine lv_istore (lv' := [(4, .int (hi_ nn X k)), (3, .int (lo_ nn X k)), (0, .ref (a 0)), (1, .int (nI k)), (2, .int cl)]) hx hb dX7_addSide_77 hl (by decide) rfl (fun ls hl => ?_)
      refine lv_aload_n hx hb dX7_addSide_79 rfl (lv_at hl 2 rfl) ?_
      refine va_get (D := D) (ci := 9) (v := .ref (a 8)) (C := RX7) (T := TX7) (N := 24) hx hb hts (by decide +kernel) hown hK hP 0 rfl rfl 12 (by decide) (hts (.fieldLink RX7 32 "LandDeedsModel" "cy" "[I") (by decide +kernel)) (fun _ h9 => h9) rfl dX7_addSide_80 ?_
      refine lv_aload_n hx hb dX7_addSide_83 rfl (lv_at hl 2 rfl) ?_
      refine lv_iload_n hx hb dX7_addSide_84 rfl (lv_at hl 3 rfl) ?_
      have hPc := hP
      refine u_callSi (W.runV (As := [.int (nI k)]) (rest := [.ref (a 8)]) ⟨hx, hb, hml, hown, hts⟩ (c_X7_next l D cI cB cZ cP a v (lI qq.num) (lN qq.den) F nn X Y k (by first | assumption | omega) (by first | assumption | omega)) (cwV 1 hts gX7_addSide_X7_next rfl rfl rfl (by decide +kernel) ⟨Nat.le_of_ble_eq_true rfl, Nat.le_of_ble_eq_true rfl⟩) (pV (q0 := 0) hPc hW0 trivial rfl rfl) rfl rfl hl.1 rfl (lv_room (Nat.le_of_ble_eq_true rfl)) dX7_addSide_85 ⟨Nat.le_of_ble_eq_true rfl, Nat.le_of_ble_eq_true rfl⟩) ?_
      refine u_iald hx hb hK hP 8 0 rfl rfl rfl ⟨by omega, by omega⟩ dX7_addSide_88 ?_
      refine lv_aload_n hx hb dX7_addSide_89 rfl (lv_at hl 2 rfl) ?_
      refine va_get (D := D) (ci := 9) (v := .ref (a 8)) (C := RX7) (T := TX7) (N := 24) hx hb hts (by decide +kernel) hown hK hP 0 rfl rfl 12 (by decide) (hts (.fieldLink RX7 32 "LandDeedsModel" "cy" "[I") (by decide +kernel)) (fun _ h9 => h9) rfl dX7_addSide_90 ?_
      refine lv_iload_n hx hb dX7_addSide_93 rfl (lv_at hl 3 rfl) ?_
      refine u_iald hx hb hK hP 8 0 rfl rfl rfl ⟨by omega, by omega⟩ dX7_addSide_94 ?_
      refine lv_isub hx hb dX7_addSide_95 ?_
      refine lv_istore (lv' := [(5, .int ((Y (nxt nn k)) - (Y k))), (4, .int (hi_ nn X k)), (3, .int (lo_ nn X k)), (0, .ref (a 0)), (1, .int (nI k)), (2, .int cl)]) hx hb dX7_addSide_96 hl (by decide) rfl (fun ls hl => ?_)
      refine lv_iload hx hb dX7_addSide_98 (lv_at hl 1 rfl) ?_
      refine lv_iload_n hx hb dX7_addSide_100 rfl (lv_at hl 5 rfl) ?_
      refine lv_icmp_gt (tgt := 120) hx hb dX7_addSide_101 (by decide) (fun c_9 => ?_) (fun c_9 => ?_)
      · skip
        refine lv_iload_n hx hb dX7_addSide_120 rfl (lv_at hl 2 rfl) ?_
        refine lv_iload_n hx hb dX7_addSide_121 rfl (lv_at hl 5 rfl) ?_
        refine lv_icmp_lt (tgt := 140) hx hb dX7_addSide_122 (by decide) (fun c_10 => ?_) (fun c_10 => ?_)
        · skip
          refine lv_aload_n hx hb dX7_addSide_140 rfl (lv_at hl 3 rfl) ?_
          refine lv_iload hx hb dX7_addSide_141 (lv_at hl 0 rfl) ?_
          refine lv_iconst (v := 2) hx hb dX7_addSide_143 (by decide) ?_
          refine lv_iload_n hx hb dX7_addSide_144 rfl (lv_at hl 5 rfl) ?_
          refine lv_imul hx hb dX7_addSide_145 ?_
          refine lv_iload hx hb dX7_addSide_146 (lv_at hl 1 rfl) ?_
          refine lv_imul hx hb dX7_addSide_148 ?_
          refine lv_iload_n hx hb dX7_addSide_149 rfl (lv_at hl 5 rfl) ?_
          refine lv_iload_n hx hb dX7_addSide_150 rfl (lv_at hl 5 rfl) ?_
          refine lv_imul hx hb dX7_addSide_151 ?_
          refine lv_isub hx hb dX7_addSide_152 ?_
          refine lv_iload_n hx hb dX7_addSide_153 rfl (lv_at hl 2 rfl) ?_
          refine lv_iload_n hx hb dX7_addSide_154 rfl (lv_at hl 2 rfl) ?_
          refine lv_imul hx hb dX7_addSide_155 ?_
          refine lv_isub hx hb dX7_addSide_156 ?_
          refine lv_imul hx hb dX7_addSide_157 ?_
          refine lv_i2l hx hb dX7_addSide_158 rfl ?_
          refine u_eql (show (((Y (nxt nn k)) - (Y k)) * ((((2 * cl) * (hi_ nn X k)) - (cl * cl)) - ((lo_ nn X k) * (lo_ nn X k)))).toInt64 = lI (mU nn X Y cl k).toInt from (i2l_t _).trans (congrArg (fun z : Int32 => lI z.toInt) (show _ = mU nn X Y cl k from by unfold mU; rw [if_neg (Int32.not_le.mpr c_9), if_neg (Int32.not_le.mpr c_10)]))) ?_
          refine lv_iload hx hb dX7_addSide_159 (lv_at hl 1 rfl) ?_
          refine lv_iload_n hx hb dX7_addSide_161 rfl (lv_at hl 2 rfl) ?_
          refine lv_isub hx hb dX7_addSide_162 ?_
          refine lv_i2l hx hb dX7_addSide_163 rfl ?_
          refine u_eql (show ((hi_ nn X k) - (lo_ nn X k)).toInt64 = lN (mL nn X cl k).toInt.toNat from (show _ = (mL nn X cl k).toInt64 from by unfold mL; rw [if_neg (Int32.not_le.mpr c_9), if_neg (Int32.not_le.mpr c_10)]).trans (i2l_n hb9.2.2.2)) ?_
          have hPc := hP
          have hDc := hD
          have hFc := va_free (wc := (MW cI cZ a (upd v 7 (nI nn)) (lI qq.num) (lN qq.den) (updF (updF F 7 X) 8 Y))) hD hS hA [0, 1, 2, 3, 4, 5, 6, 7, 8, 9, 10, 11, 12] rfl
          refine va_callv (va_runV (As := [.long (lI (mU nn X Y cl k).toInt), .long (lN (mL nn X cl k).toInt.toNat)]) (rest := []) ⟨hx, hb, hml, hown, hts⟩ (c_X7_add l D cI cB cZ cP s.heap.size a (upd v 7 (nI nn)) (updF (updF F 7 X) 8 Y) qq ((mU nn X Y cl k).toInt) ((mL nn X cl k).toInt.toNat) (hb9.1) ((qB_fit hq hk8 hb9.2.1 hb9.2.2.1).2.1) ((qB_fit hq hk8 hb9.2.1 hb9.2.2.1).2.2)) (cwV 2 hts gX7_addSide_X7_add rfl rfl rfl (by decide +kernel) ⟨Nat.le_of_ble_eq_true rfl, Nat.le_of_ble_eq_true rfl⟩) (pVQ (q0 := 0) hPc hDc hW0 EF.t rfl rfl) rfl rfl hl.1 rfl (lv_room (Nat.le_of_ble_eq_true rfl)) dX7_addSide_164 ⟨Nat.le_of_ble_eq_true rfl, Nat.le_of_ble_eq_true rfl⟩) hS (fun q _ h => hFc q h) hFc (fun u t H1 locs ht hvm hw hB hz1 hk1 hS => ?_)
          obtain ⟨hP1, hD1⟩ := hB
          rw [ht] at hP1
          have hw_11 : True := hw
          obtain ⟨hP, hD⟩ := va_join (wr := []) (w1 := (MW cI cZ a (upd v 7 (nI nn)) (lI (qq + mkRat ((mU nn X Y cl k).toInt) ((mL nn X cl k).toInt.toNat)).num) (lN (qq + mkRat ((mU nn X Y cl k).toInt) ((mL nn X cl k).toInt.toNat)).den) (updF (updF F 7 X) 8 Y))) hP hD [0, 1, 2, 3, 4, 5, 6, 7, 8, 9, 10, 11, 12] [] rfl rfl (by decide) (by decide) hk1 hFc hP1 hD1
          generalize H1 = H at hP hS ⊢
          have hP : va_P D vwCl (MW cI cZ a (upd v 7 (nI nn)) (lI (qq + mkRat ((mU nn X Y cl k).toInt) ((mL nn X cl k).toInt.toNat)).num) (lN (qq + mkRat ((mU nn X Y cl k).toInt) ((mL nn X cl k).toInt.toNat)).den) (updF (updF F 7 X) 8 Y)) H := hP
          have hD : va_D A (MW cI cZ a (upd v 7 (nI nn)) (lI (qq + mkRat ((mU nn X Y cl k).toInt) ((mL nn X cl k).toInt.toNat)).num) (lN (qq + mkRat ((mU nn X Y cl k).toInt) ((mL nn X cl k).toInt.toNat)).den) (updF (updF F 7 X) 8 Y)) := hD
          rw [← hQ]
          have hP9 := hP
          have hD9 := hD
          exact W.vret hx hb hr (fun t ht hW => ⟨⟨(), rfl, trivial, by rw [ht]; exact hP9, hD9⟩, hS.F ht⟩) hS.2.2 dX7_addSide_167
        · skip
          refine lv_aload_n hx hb dX7_addSide_125 rfl (lv_at hl 3 rfl) ?_
          refine lv_iload hx hb dX7_addSide_126 (lv_at hl 0 rfl) ?_
          refine lv_iconst (v := 2) hx hb dX7_addSide_128 (by decide) ?_
          refine lv_imul hx hb dX7_addSide_129 ?_
          refine lv_iload_n hx hb dX7_addSide_130 rfl (lv_at hl 5 rfl) ?_
          refine lv_imul hx hb dX7_addSide_131 ?_
          refine lv_i2l hx hb dX7_addSide_132 rfl ?_
          refine u_eql (show ((((Y (nxt nn k)) - (Y k)) * 2) * cl).toInt64 = lI (mU nn X Y cl k).toInt from (i2l_t _).trans (congrArg (fun z : Int32 => lI z.toInt) (show _ = mU nn X Y cl k from by unfold mU; rw [if_neg (Int32.not_le.mpr c_9), if_pos (Int32.not_lt.mp c_10)]))) ?_
          refine lv_lconst (v := 1) hx hb dX7_addSide_133 (by decide) ?_
          refine u_eql (show (1 : Int64) = lN (mL nn X cl k).toInt.toNat from by rw [show mL nn X cl k = 1 from by unfold mL; rw [if_neg (Int32.not_le.mpr c_9), if_pos (Int32.not_lt.mp c_10)]]; rfl) ?_
          have hPc := hP
          have hDc := hD
          have hFc := va_free (wc := (MW cI cZ a (upd v 7 (nI nn)) (lI qq.num) (lN qq.den) (updF (updF F 7 X) 8 Y))) hD hS hA [0, 1, 2, 3, 4, 5, 6, 7, 8, 9, 10, 11, 12] rfl
          refine va_callv (va_runV (As := [.long (lI (mU nn X Y cl k).toInt), .long (lN (mL nn X cl k).toInt.toNat)]) (rest := []) ⟨hx, hb, hml, hown, hts⟩ (c_X7_add l D cI cB cZ cP s.heap.size a (upd v 7 (nI nn)) (updF (updF F 7 X) 8 Y) qq ((mU nn X Y cl k).toInt) ((mL nn X cl k).toInt.toNat) (hb9.1) ((qB_fit hq hk8 hb9.2.1 hb9.2.2.1).2.1) ((qB_fit hq hk8 hb9.2.1 hb9.2.2.1).2.2)) (cwV 2 hts gX7_addSide_X7_add rfl rfl rfl (by decide +kernel) ⟨Nat.le_of_ble_eq_true rfl, Nat.le_of_ble_eq_true rfl⟩) (pVQ (q0 := 0) hPc hDc hW0 EF.t rfl rfl) rfl rfl hl.1 rfl (lv_room (Nat.le_of_ble_eq_true rfl)) dX7_addSide_134 ⟨Nat.le_of_ble_eq_true rfl, Nat.le_of_ble_eq_true rfl⟩) hS (fun q _ h => hFc q h) hFc (fun u t H1 locs ht hvm hw hB hz1 hk1 hS => ?_)
          obtain ⟨hP1, hD1⟩ := hB
          rw [ht] at hP1
          have hw_12 : True := hw
          obtain ⟨hP, hD⟩ := va_join (wr := []) (w1 := (MW cI cZ a (upd v 7 (nI nn)) (lI (qq + mkRat ((mU nn X Y cl k).toInt) ((mL nn X cl k).toInt.toNat)).num) (lN (qq + mkRat ((mU nn X Y cl k).toInt) ((mL nn X cl k).toInt.toNat)).den) (updF (updF F 7 X) 8 Y))) hP hD [0, 1, 2, 3, 4, 5, 6, 7, 8, 9, 10, 11, 12] [] rfl rfl (by decide) (by decide) hk1 hFc hP1 hD1
          generalize H1 = H at hP hS ⊢
          have hP : va_P D vwCl (MW cI cZ a (upd v 7 (nI nn)) (lI (qq + mkRat ((mU nn X Y cl k).toInt) ((mL nn X cl k).toInt.toNat)).num) (lN (qq + mkRat ((mU nn X Y cl k).toInt) ((mL nn X cl k).toInt.toNat)).den) (updF (updF F 7 X) 8 Y)) H := hP
          have hD : va_D A (MW cI cZ a (upd v 7 (nI nn)) (lI (qq + mkRat ((mU nn X Y cl k).toInt) ((mL nn X cl k).toInt.toNat)).num) (lN (qq + mkRat ((mU nn X Y cl k).toInt) ((mL nn X cl k).toInt.toNat)).den) (updF (updF F 7 X) 8 Y)) := hD
          refine lv_goto (tgt := 167) hx hb dX7_addSide_137 (by decide) ?_
          rw [← hQ]
          have hP9 := hP
          have hD9 := hD
          exact W.vret hx hb hr (fun t ht hW => ⟨⟨(), rfl, trivial, by rw [ht]; exact hP9, hD9⟩, hS.F ht⟩) hS.2.2 dX7_addSide_167
      · skip
        refine lv_aload_n hx hb dX7_addSide_104 rfl (lv_at hl 3 rfl) ?_
        refine lv_iload hx hb dX7_addSide_105 (lv_at hl 0 rfl) ?_
        refine lv_iload_n hx hb dX7_addSide_107 rfl (lv_at hl 2 rfl) ?_
        refine lv_iload hx hb dX7_addSide_108 (lv_at hl 1 rfl) ?_
        refine lv_iadd hx hb dX7_addSide_110 ?_
        refine lv_imul hx hb dX7_addSide_111 ?_
        refine lv_i2l hx hb dX7_addSide_112 rfl ?_
        refine u_eql (show (((Y (nxt nn k)) - (Y k)) * ((lo_ nn X k) + (hi_ nn X k))).toInt64 = lI (mU nn X Y cl k).toInt from (i2l_t _).trans (congrArg (fun z : Int32 => lI z.toInt) (show _ = mU nn X Y cl k from by unfold mU; rw [if_pos (Int32.not_lt.mp c_9)]))) ?_
        refine lv_lconst (v := 1) hx hb dX7_addSide_113 (by decide) ?_
        refine u_eql (show (1 : Int64) = lN (mL nn X cl k).toInt.toNat from by rw [show mL nn X cl k = 1 from by unfold mL; rw [if_pos (Int32.not_lt.mp c_9)]]; rfl) ?_
        have hPc := hP
        have hDc := hD
        have hFc := va_free (wc := (MW cI cZ a (upd v 7 (nI nn)) (lI qq.num) (lN qq.den) (updF (updF F 7 X) 8 Y))) hD hS hA [0, 1, 2, 3, 4, 5, 6, 7, 8, 9, 10, 11, 12] rfl
        refine va_callv (va_runV (As := [.long (lI (mU nn X Y cl k).toInt), .long (lN (mL nn X cl k).toInt.toNat)]) (rest := []) ⟨hx, hb, hml, hown, hts⟩ (c_X7_add l D cI cB cZ cP s.heap.size a (upd v 7 (nI nn)) (updF (updF F 7 X) 8 Y) qq ((mU nn X Y cl k).toInt) ((mL nn X cl k).toInt.toNat) (hb9.1) ((qB_fit hq hk8 hb9.2.1 hb9.2.2.1).2.1) ((qB_fit hq hk8 hb9.2.1 hb9.2.2.1).2.2)) (cwV 2 hts gX7_addSide_X7_add rfl rfl rfl (by decide +kernel) ⟨Nat.le_of_ble_eq_true rfl, Nat.le_of_ble_eq_true rfl⟩) (pVQ (q0 := 0) hPc hDc hW0 EF.t rfl rfl) rfl rfl hl.1 rfl (lv_room (Nat.le_of_ble_eq_true rfl)) dX7_addSide_114 ⟨Nat.le_of_ble_eq_true rfl, Nat.le_of_ble_eq_true rfl⟩) hS (fun q _ h => hFc q h) hFc (fun u t H1 locs ht hvm hw hB hz1 hk1 hS => ?_)
        obtain ⟨hP1, hD1⟩ := hB
        rw [ht] at hP1
        have hw_13 : True := hw
        obtain ⟨hP, hD⟩ := va_join (wr := []) (w1 := (MW cI cZ a (upd v 7 (nI nn)) (lI (qq + mkRat ((mU nn X Y cl k).toInt) ((mL nn X cl k).toInt.toNat)).num) (lN (qq + mkRat ((mU nn X Y cl k).toInt) ((mL nn X cl k).toInt.toNat)).den) (updF (updF F 7 X) 8 Y))) hP hD [0, 1, 2, 3, 4, 5, 6, 7, 8, 9, 10, 11, 12] [] rfl rfl (by decide) (by decide) hk1 hFc hP1 hD1
        generalize H1 = H at hP hS ⊢
        have hP : va_P D vwCl (MW cI cZ a (upd v 7 (nI nn)) (lI (qq + mkRat ((mU nn X Y cl k).toInt) ((mL nn X cl k).toInt.toNat)).num) (lN (qq + mkRat ((mU nn X Y cl k).toInt) ((mL nn X cl k).toInt.toNat)).den) (updF (updF F 7 X) 8 Y)) H := hP
        have hD : va_D A (MW cI cZ a (upd v 7 (nI nn)) (lI (qq + mkRat ((mU nn X Y cl k).toInt) ((mL nn X cl k).toInt.toNat)).num) (lN (qq + mkRat ((mU nn X Y cl k).toInt) ((mL nn X cl k).toInt.toNat)).den) (updF (updF F 7 X) 8 Y)) := hD
        refine lv_goto (tgt := 167) hx hb dX7_addSide_117 (by decide) ?_
        rw [← hQ]
        have hP9 := hP
        have hD9 := hD
        exact W.vret hx hb hr (fun t ht hW => ⟨⟨(), rfl, trivial, by rw [ht]; exact hP9, hD9⟩, hS.F ht⟩) hS.2.2 dX7_addSide_167

set_option maxHeartbeats 4000000 in
set_option maxRecDepth 100000 in
theorem c_X7_layWest (l : Launch) (D : va_G) (cI cB cZ cP : ClassId) (sz : Nat) (a : Nat → Nat) (v : Nat → Int32) (su sl : Int64) (F : Nat → Nat → Int32) (nn : Nat) (X Y : Nat → Int32) (cl : Int32) (hn8 : nn ≤ 8) (hp : ∀ z, z < nn → isP (X z) (Y z)) (hc : b31 cl) : Met l yX7_layWest wsX7_layWest ({ frames := 3, cells := 0, slots := 0, locals := 85 } : Room) (va_Pc [.ref (a 0), .int cl] (fun U => U.heap.size = sz ∧ va_P D vwCl (MW cI cZ a (upd v 7 (nI nn)) su sl (updF (updF F 7 X) 8 Y)) U.heap ∧ KW D cI cB cZ cP U ∧ va_D (fun _ => True) (MW cI cZ a (upd v 7 (nI nn)) su sl (updF (updF F 7 X) 8 Y)) ∧ EF (MW cI cZ a (upd v 7 (nI nn)) su sl (updF (updF F 7 X) 8 Y)) sz E0 U.heap)) (va_Qv (fun (_ : Unit) => True) (fun (_ : Unit) (t : State) => va_P D vwCl (MW cI cZ a (upd v 7 (nI nn)) (lI (wQ nn X Y cl).num) (lN (wQ nn X Y cl).den) (updF (updF F 7 X) 8 Y)) t.heap ∧ va_D (va_A (MW cI cZ a (upd v 7 (nI nn)) su sl (updF (updF F 7 X) 8 Y)) sz) (MW cI cZ a (upd v 7 (nI nn)) (lI (wQ nn X Y cl).num) (lN (wQ nn X Y cl).den) (updF (updF F 7 X) 8 Y))) (va_A (MW cI cZ a (upd v 7 (nI nn)) su sl (updF (updF F 7 X) 8 Y)) sz)) 0 0 (va_A (MW cI cZ a (upd v 7 (nI nn)) su sl (updF (updF F 7 X) 8 Y)) sz) := by
  refine Met.ofW (cc := cX7_layWest) (maxL := 3) (ret := none) (by decide) rfl ?_
  intro p e s m args below meth c s₁ B hml hv
  obtain ⟨rfl, hsz, hP, hW0, hD0, hE⟩ := hv
  have hx := B.exec
  have hb := B.bytes
  have hr := B.returns
  have hts := atoms_spec (ws := wsX7_layWest) B.pre
  have hown : s.vm.findClass RX7 = some m.cls := findClass_of_methodNamed B.named
  have hlocks := B.notSynchronized
  have hK := hW0.1
  subst hsz
  have hD := hD0.self (sz := s.heap.size)
  unfold EF at hE
  generalize hAe : va_A (MW cI cZ a (upd v 7 (nI nn)) su sl (updF (updF F 7 X) 8 Y)) s.heap.size = A at hD hE ⊢
  have hA : ∀ q : Nat, s.heap.size ≤ q → A q := fun q h => by rw [← hAe]; exact Or.inr h
  have hS : va_S A s.heap s.heap [] := va_S.rf
  have hl := lv_entry ([.ref (a 0), .int cl]) (n := 3) (Nat.le_of_ble_eq_true rfl)
  rw [lg_entry_eq]
  generalize (lg_sl ([.ref (a 0), .int cl]) ++ List.replicate (3 - (lg_sl ([.ref (a 0), .int cl])).length) Slot.unset).toArray = ls at hl ⊢
  have hl : lv_has ls 3 [(0, .ref (a 0)), (1, .int cl)] := hl
  show W p l e ({ frames := 3, cells := 0, slots := 0, locals := 85 } : Room) s m ([.ref (a 0), .int cl] : List Value).toArray below meth c s.heap [] 0 0 _ (F0 m 0 ls [])
  refine u_genQ (fun Q hQ => ?_)
  refine lv_aload_n hx hb dX7_layWest_0 rfl (lv_at hl 0 rfl) ?_
  refine lv_lconst (v := 0) hx hb dX7_layWest_1 (by decide) ?_
  refine u_eql (show (0 : Int64) = lI (rsum (mT nn X Y cl) 0).num from rfl) ?_
  refine va_put (D := D) (ci := 9) (v := .long (lI (rsum (mT nn X Y cl) 0).num)) (ty := .long) (C := RX7) (T := TX7) (N := 24) hx hb hts (by decide +kernel) tyX7 tyX7_ok nmX7 hown hK hP hD hS 0 rfl rfl 19 (by decide) (hts (.fieldLink RX7 175 "LandDeedsModel" "sumUp" "J") (by decide +kernel)) (fun _ h9 => h9) rfl (by decide +kernel) rfl rfl (Nat.le_of_ble_eq_true rfl) dX7_layWest_2 (fun H locs hP hD hS => ?_)
  have hP : va_P D vwCl (MW cI cZ a (upd v 7 (nI nn)) (lI (rsum (mT nn X Y cl) 0).num) sl (updF (updF F 7 X) 8 Y)) H := hP
  have hD : va_D A (MW cI cZ a (upd v 7 (nI nn)) (lI (rsum (mT nn X Y cl) 0).num) sl (updF (updF F 7 X) 8 Y)) := hD
  refine lv_aload_n hx hb dX7_layWest_5 rfl (lv_at hl 0 rfl) ?_
  refine lv_lconst (v := 1) hx hb dX7_layWest_6 (by decide) ?_
  refine u_eql (show (1 : Int64) = lN (rsum (mT nn X Y cl) 0).den from rfl) ?_
  refine va_put (D := D) (ci := 9) (v := .long (lN (rsum (mT nn X Y cl) 0).den)) (ty := .long) (C := RX7) (T := TX7) (N := 24) hx hb hts (by decide +kernel) tyX7 tyX7_ok nmX7 hown hK hP hD hS 0 rfl rfl 20 (by decide) (hts (.fieldLink RX7 179 "LandDeedsModel" "sumLow" "J") (by decide +kernel)) (fun _ h9 => h9) rfl (by decide +kernel) rfl rfl (Nat.le_of_ble_eq_true rfl) dX7_layWest_7 (fun H locs hP hD hS => ?_)
  have hP : va_P D vwCl (MW cI cZ a (upd v 7 (nI nn)) (lI (rsum (mT nn X Y cl) 0).num) (lN (rsum (mT nn X Y cl) 0).den) (updF (updF F 7 X) 8 Y)) H := hP
  have hD : va_D A (MW cI cZ a (upd v 7 (nI nn)) (lI (rsum (mT nn X Y cl) 0).num) (lN (rsum (mT nn X Y cl) 0).den) (updF (updF F 7 X) 8 Y)) := hD
  refine lv_iconst (v := 0) hx hb dX7_layWest_10 (by decide) ?_
  refine lv_istore_n (lv' := [(2, .int 0), (0, .ref (a 0)), (1, .int cl)]) hx hb dX7_layWest_11 rfl hl (by decide) rfl (fun ls hl => ?_)
  have LOOP_12 : ∀ (fu : Nat) (z : Nat) (hz : z ≤ nn) (hn : nn - z < fu) (H : Heap) (locs : List Loc) (hP : va_P D vwCl (MW cI cZ a (upd v 7 (nI nn)) (lI (rsum (mT nn X Y cl) z).num) (lN (rsum (mT nn X Y cl) z).den) (updF (updF F 7 X) 8 Y)) H) (hD : va_D A (MW cI cZ a (upd v 7 (nI nn)) (lI (rsum (mT nn X Y cl) z).num) (lN (rsum (mT nn X Y cl) z).den) (updF (updF F 7 X) 8 Y))) (hS : va_S A s.heap H locs) (ls : Array Slot) (hl : lv_has ls 3 [(0, .ref (a 0)), (1, .int cl), (2, .int (nI z))]), W p l e ({ frames := 3, cells := 0, slots := 0, locals := 85 } : Room) s m ([.ref (a 0), .int cl] : List Value).toArray below meth c H locs 0 0 Q (F0 m 12 ls []) := by
    intro fu
    induction fu with
    | zero => intro z hz hn H locs hP hD hS ls hl; exact absurd hn (Nat.not_lt_zero _)
    | succ fu ih_12 =>
      intro z hz hn H locs hP hD hS ls hl
      refine lv_iload_n hx hb dX7_layWest_12 rfl (lv_at hl 2 rfl) ?_
      refine lv_aload_n hx hb dX7_layWest_13 rfl (lv_at hl 0 rfl) ?_
      refine va_get (D := D) (ci := 9) (v := .int (nI nn)) (C := RX7) (T := TX7) (N := 24) hx hb hts (by decide +kernel) hown hK hP 0 rfl rfl 7 (by decide) (hts (.fieldLink RX7 58 "LandDeedsModel" "calls" "I") (by decide +kernel)) (fun _ h9 => h9) rfl dX7_layWest_14 ?_
      refine lv_icmp_ge (tgt := 32) hx hb dX7_layWest_17 (by decide) (fun c_1 => ?_) (fun c_1 => ?_)
      · skip
        have nc_1 : nn ≤ z := (nI_leI (a := nn) (b := z) (by omega) (by omega)).mp c_1
        obtain rfl : nn = z := by omega
        refine lv_aload_n hx hb dX7_layWest_32 rfl (lv_at hl 0 rfl) ?_
        refine lv_aload_n hx hb dX7_layWest_33 rfl (lv_at hl 0 rfl) ?_
        have hPc := hP
        refine u_callSi (W.runV (As := []) (rest := [.ref (a 0)]) ⟨hx, hb, hml, hown, hts⟩ (c_X7_twice l D cI cB cZ cP a v (lI (rsum (mT nn X Y cl) nn).num) (lN (rsum (mT nn X Y cl) nn).den) F nn X Y (by first | assumption | omega)) (cwV 0 hts gX7_layWest_X7_twice rfl rfl rfl (by decide +kernel) ⟨Nat.le_of_ble_eq_true rfl, Nat.le_of_ble_eq_true rfl⟩) (pV (q0 := 0) hPc hW0 trivial rfl rfl) rfl rfl hl.1 rfl (lv_room (Nat.le_of_ble_eq_true rfl)) dX7_layWest_34 ⟨Nat.le_of_ble_eq_true rfl, Nat.le_of_ble_eq_true rfl⟩) ?_
        refine lv_if_ge (tgt := 48) hx hb dX7_layWest_37 (by decide) (fun c_2 => ?_) (fun c_2 => ?_)
        · skip
          refine lv_aload_n hx hb dX7_layWest_48 rfl (lv_at hl 0 rfl) ?_
          refine va_get (D := D) (ci := 9) (v := .long (lI (rsum (mT nn X Y cl) nn).num)) (C := RX7) (T := TX7) (N := 24) hx hb hts (by decide +kernel) hown hK hP 0 rfl rfl 19 (by decide) (hts (.fieldLink RX7 175 "LandDeedsModel" "sumUp" "J") (by decide +kernel)) (fun _ h9 => h9) rfl dX7_layWest_49 ?_
          have hwq : wQ nn X Y cl = (rsum (mT nn X Y cl) nn) := by unfold wQ; rw [if_pos c_2]; rfl
          refine u_eql (show lI (rsum (mT nn X Y cl) nn).num = lI (wQ nn X Y cl).num from by rw [hwq]) ?_
          refine va_put (D := D) (ci := 9) (v := .long (lI (wQ nn X Y cl).num)) (ty := .long) (C := RX7) (T := TX7) (N := 24) hx hb hts (by decide +kernel) tyX7 tyX7_ok nmX7 hown hK hP hD hS 0 rfl rfl 19 (by decide) (hts (.fieldLink RX7 175 "LandDeedsModel" "sumUp" "J") (by decide +kernel)) (fun _ h9 => h9) rfl (by decide +kernel) rfl rfl (Nat.le_of_ble_eq_true rfl) dX7_layWest_52 (fun H locs hP hD hS => ?_)
          have hP : va_P D vwCl (MW cI cZ a (upd v 7 (nI nn)) (lI (wQ nn X Y cl).num) (lN (rsum (mT nn X Y cl) nn).den) (updF (updF F 7 X) 8 Y)) H := hP
          have hD : va_D A (MW cI cZ a (upd v 7 (nI nn)) (lI (wQ nn X Y cl).num) (lN (rsum (mT nn X Y cl) nn).den) (updF (updF F 7 X) 8 Y)) := hD
          rw [show lN (rsum (mT nn X Y cl) nn).den = lN (wQ nn X Y cl).den from congrArg lN (congrArg Rat.den hwq).symm] at hP hD
          rw [← hQ]
          have hP9 := hP
          have hD9 := hD
          exact W.vret hx hb hr (fun t ht hW => ⟨⟨(), rfl, trivial, by rw [ht]; exact hP9, hD9⟩, hS.F ht⟩) hS.2.2 dX7_layWest_55
        · skip
          refine lv_aload_n hx hb dX7_layWest_40 rfl (lv_at hl 0 rfl) ?_
          refine va_get (D := D) (ci := 9) (v := .long (lI (rsum (mT nn X Y cl) nn).num)) (C := RX7) (T := TX7) (N := 24) hx hb hts (by decide +kernel) hown hK hP 0 rfl rfl 19 (by decide) (hts (.fieldLink RX7 175 "LandDeedsModel" "sumUp" "J") (by decide +kernel)) (fun _ h9 => h9) rfl dX7_layWest_41 ?_
          refine lv_lneg hx hb dX7_layWest_44 ?_
          refine lv_goto (tgt := 52) hx hb dX7_layWest_45 (by decide) ?_
          have hwq : wQ nn X Y cl = -(rsum (mT nn X Y cl) nn) := by unfold wQ; rw [if_neg c_2]; rfl
          refine u_eql (show -(lI (rsum (mT nn X Y cl) nn).num) = lI (wQ nn X Y cl).num from by rw [hwq]; exact (Int64.ofInt_neg _).symm) ?_
          refine va_put (D := D) (ci := 9) (v := .long (lI (wQ nn X Y cl).num)) (ty := .long) (C := RX7) (T := TX7) (N := 24) hx hb hts (by decide +kernel) tyX7 tyX7_ok nmX7 hown hK hP hD hS 0 rfl rfl 19 (by decide) (hts (.fieldLink RX7 175 "LandDeedsModel" "sumUp" "J") (by decide +kernel)) (fun _ h9 => h9) rfl (by decide +kernel) rfl rfl (Nat.le_of_ble_eq_true rfl) dX7_layWest_52 (fun H locs hP hD hS => ?_)
          have hP : va_P D vwCl (MW cI cZ a (upd v 7 (nI nn)) (lI (wQ nn X Y cl).num) (lN (rsum (mT nn X Y cl) nn).den) (updF (updF F 7 X) 8 Y)) H := hP
          have hD : va_D A (MW cI cZ a (upd v 7 (nI nn)) (lI (wQ nn X Y cl).num) (lN (rsum (mT nn X Y cl) nn).den) (updF (updF F 7 X) 8 Y)) := hD
          rw [show lN (rsum (mT nn X Y cl) nn).den = lN (wQ nn X Y cl).den from congrArg lN (congrArg Rat.den hwq).symm] at hP hD
          rw [← hQ]
          have hP9 := hP
          have hD9 := hD
          exact W.vret hx hb hr (fun t ht hW => ⟨⟨(), rfl, trivial, by rw [ht]; exact hP9, hD9⟩, hS.F ht⟩) hS.2.2 dX7_layWest_55
      · skip
        have nc_1 : ¬ (nn ≤ z) := fun h => c_1 ((nI_leI (a := nn) (b := z) (by omega) (by omega)).mpr h)
        have hz8 : z < nn := by omega
        refine lv_aload_n hx hb dX7_layWest_20 rfl (lv_at hl 0 rfl) ?_
        refine lv_iload_n hx hb dX7_layWest_21 rfl (lv_at hl 2 rfl) ?_
        refine lv_iload_n hx hb dX7_layWest_22 rfl (lv_at hl 1 rfl) ?_
        have hPc := hP
        have hDc := hD
        have hFc := va_free (wc := (MW cI cZ a (upd v 7 (nI nn)) (lI (rsum (mT nn X Y cl) z).num) (lN (rsum (mT nn X Y cl) z).den) (updF (updF F 7 X) 8 Y))) hD hS hA [0, 1, 2, 3, 4, 5, 6, 7, 8, 9, 10, 11, 12] rfl
        refine va_callv (va_runV (As := [.int (nI z), .int cl]) (rest := []) ⟨hx, hb, hml, hown, hts⟩ (c_X7_addSide l D cI cB cZ cP H.size a v F nn X Y (rsum (mT nn X Y cl) z) z z cl (by first | assumption | omega) (hz8) (by first | assumption | omega) (by first | assumption | omega) (qB_sum hn8 hp hc z (by omega)) (by omega)) (cwV 2 hts gX7_layWest_X7_addSide rfl rfl rfl (by decide +kernel) ⟨Nat.le_of_ble_eq_true rfl, Nat.le_of_ble_eq_true rfl⟩) (pVQ (q0 := 0) hPc hDc hW0 EF.t rfl rfl) rfl rfl hl.1 rfl (lv_room (Nat.le_of_ble_eq_true rfl)) dX7_layWest_23 ⟨Nat.le_of_ble_eq_true rfl, Nat.le_of_ble_eq_true rfl⟩) hS (fun q _ h => hFc q h) hFc (fun u t H1 locs ht hvm hw hB hz1 hk1 hS => ?_)
        obtain ⟨hP1, hD1⟩ := hB
        rw [ht] at hP1
        have hw_3 : True := hw
        obtain ⟨hP, hD⟩ := va_join (wr := []) (w1 := (MW cI cZ a (upd v 7 (nI nn)) (lI ((rsum (mT nn X Y cl) z) + mT nn X Y cl z).num) (lN ((rsum (mT nn X Y cl) z) + mT nn X Y cl z).den) (updF (updF F 7 X) 8 Y))) hP hD [0, 1, 2, 3, 4, 5, 6, 7, 8, 9, 10, 11, 12] [] rfl rfl (by decide) (by decide) hk1 hFc hP1 hD1
        generalize H1 = H at hP hS ⊢
        have hP : va_P D vwCl (MW cI cZ a (upd v 7 (nI nn)) (lI ((rsum (mT nn X Y cl) z) + mT nn X Y cl z).num) (lN ((rsum (mT nn X Y cl) z) + mT nn X Y cl z).den) (updF (updF F 7 X) 8 Y)) H := hP
        have hD : va_D A (MW cI cZ a (upd v 7 (nI nn)) (lI ((rsum (mT nn X Y cl) z) + mT nn X Y cl z).num) (lN ((rsum (mT nn X Y cl) z) + mT nn X Y cl z).den) (updF (updF F 7 X) 8 Y)) := hD
        refine lv_iinc (v := nI (z + 1)) (lv' := [(2, .int (nI (z + 1))), (0, .ref (a 0)), (1, .int cl)]) hx hb dX7_layWest_26 hl (k := 2) rfl (nI_1 _) (by decide) rfl (fun ls hl => ?_)
        refine lv_goto (tgt := 12) hx hb dX7_layWest_29 (by decide) ?_
        exact ih_12 (z + 1) (by omega) (by omega) _ _ hP hD hS ls (lv_sub hl [1, 2, 0] rfl)
  exact LOOP_12 (nn - 0 + 1) 0 (Nat.zero_le _) (Nat.lt_succ_self _) _ _ hP hD hS ls (lv_sub hl [1, 2, 0] rfl)

set_option maxHeartbeats 4000000 in
set_option maxRecDepth 100000 in
theorem c_X7_west (l : Launch) (D : va_G) (cI cB cZ cP : ClassId) (sz : Nat) (a : Nat → Nat) (v : Nat → Int32) (su sl : Int64) (F : Nat → Nat → Int32) (kk : Nat) (pn : Nat → Nat) (x0 x y : Int32) (hSM : stM (F 1) kk pn) (hPP : ∀ p9, p9 < kk → stn (pn p9) (pX (F 1) p9) (pY (F 1) p9)) : Met l yX7_west wsX7_west ({ frames := 4, cells := 0, slots := 0, locals := 107 } : Room) (va_Pc [.ref (a 0), .int x0, .int x, .int y] (fun U => U.heap.size = sz ∧ va_P D vwCl (MW cI cZ a v su sl F) U.heap ∧ KW D cI cB cZ cP U ∧ va_D (fun _ => True) (MW cI cZ a v su sl F) ∧ EF (MW cI cZ a v su sl F) sz E0 U.heap)) (va_Ql (fun r (u : (Nat → Int32) × Int64 × Int64 × (Nat → Nat → Int32)) => match u with | (v1, su1, sl1, F1) => r = aWest kk pn (pX (F 1)) (pY (F 1)) x0 x y ∧ keepM v F v1 F1) (fun (u : (Nat → Int32) × Int64 × Int64 × (Nat → Nat → Int32)) (t : State) => match u with | (v1, su1, sl1, F1) => va_P D vwCl (MW cI cZ a v1 su1 sl1 F1) t.heap ∧ va_D (va_A (MW cI cZ a v su sl F) sz) (MW cI cZ a v1 su1 sl1 F1)) (va_A (MW cI cZ a v su sl F) sz)) 0 0 (va_A (MW cI cZ a v su sl F) sz) := by
  refine Met.ofW (cc := cX7_west) (maxL := 4) (ret := (some .long)) (by decide) rfl ?_
  intro p e s m args below meth c s₁ B hml hv
  obtain ⟨rfl, hsz, hP, hW0, hD0, hE⟩ := hv
  have hx := B.exec
  have hb := B.bytes
  have hr := B.returns
  have hts := atoms_spec (ws := wsX7_west) B.pre
  have hown : s.vm.findClass RX7 = some m.cls := findClass_of_methodNamed B.named
  have hlocks := B.notSynchronized
  have hK := hW0.1
  subst hsz
  have hD := hD0.self (sz := s.heap.size)
  unfold EF at hE
  generalize hAe : va_A (MW cI cZ a v su sl F) s.heap.size = A at hD hE ⊢
  have hA : ∀ q : Nat, s.heap.size ≤ q → A q := fun q h => by rw [← hAe]; exact Or.inr h
  have hS : va_S A s.heap s.heap [] := va_S.rf
  have hl := lv_entry ([.ref (a 0), .int x0, .int x, .int y]) (n := 4) (Nat.le_of_ble_eq_true rfl)
  rw [lg_entry_eq]
  generalize (lg_sl ([.ref (a 0), .int x0, .int x, .int y]) ++ List.replicate (4 - (lg_sl ([.ref (a 0), .int x0, .int x, .int y])).length) Slot.unset).toArray = ls at hl ⊢
  have hl : lv_has ls 4 [(0, .ref (a 0)), (1, .int x0), (2, .int x), (3, .int y)] := hl
  show W p l e ({ frames := 4, cells := 0, slots := 0, locals := 107 } : Room) s m ([.ref (a 0), .int x0, .int x, .int y] : List Value).toArray below meth c s.heap [] 0 0 _ (F0 m 0 ls [])
  refine u_genQ (fun Q hQ => ?_)
  obtain ⟨hs1, hs2, hs3⟩ := id hSM
  refine lv_aload_n hx hb dX7_west_0 rfl (lv_at hl 0 rfl) ?_
  refine lv_iload_n hx hb dX7_west_1 rfl (lv_at hl 1 rfl) ?_
  have hPc := hP
  refine u_callSi (W.runV (As := [.int x0]) (rest := []) ⟨hx, hb, hml, hown, hts⟩ (c_X7_isPlot l D cI cB cZ cP a v su sl F x0 kk (hs2) (hs1)) (cwV 1 hts gX7_west_X7_isPlot rfl rfl rfl (by decide +kernel) ⟨Nat.le_of_ble_eq_true rfl, Nat.le_of_ble_eq_true rfl⟩) (pV (q0 := 0) hPc hW0 trivial rfl rfl) rfl rfl hl.1 rfl (lv_room (Nat.le_of_ble_eq_true rfl)) dX7_west_2 ⟨Nat.le_of_ble_eq_true rfl, Nat.le_of_ble_eq_true rfl⟩) ?_
  refine lv_if_ne (tgt := 12) hx hb dX7_west_5 (by decide) (fun c_1 => ?_) (fun c_1 => ?_)
  · skip
    have nc_1 := zb_ne0.mp c_1
    obtain ⟨pp, hpp, epp, xpp⟩ := inP_nat nc_1 (by omega)
    rw [epp] at hl
    refine lv_iload_n hx hb dX7_west_12 rfl (lv_at hl 2 rfl) ?_
    refine lv_iconst (v := 0) hx hb dX7_west_13 (by decide) ?_
    refine lv_bipush (v := 31) hx hb dX7_west_14 (by decide) ?_
    have hPc := hP.sub (ws' := []) [] rfl
    refine u_callSi (W.runS (As := [.int x, .int 0, .int 31]) (rest := []) ⟨hx, hb, hml, hown, hts⟩ (c_X7_in l D cI cB cZ cP x 0 31 ) (cwS 3 hts gX7_west_X7_in rfl rfl rfl (by decide +kernel) ⟨Nat.le_of_ble_eq_true rfl, Nat.le_of_ble_eq_true rfl⟩) (pS hPc hW0 trivial) rfl rfl hl.1 rfl (lv_room (Nat.le_of_ble_eq_true rfl)) dX7_west_16 ⟨Nat.le_of_ble_eq_true rfl, Nat.le_of_ble_eq_true rfl⟩) ?_
    refine lv_if_eq (tgt := 31) hx hb dX7_west_19 (by decide) (fun c_2 => ?_) (fun c_2 => ?_)
    · skip
      have nc_2 := zb_eq0.mp c_2
      have hwn : ¬ ((0 ≤ x.toInt ∧ x.toInt ≤ 31) ∧ 0 ≤ y.toInt ∧ y.toInt ≤ 1) := fun q => nc_2 (by rw [li_0, li_31]; exact q.1)
      refine lv_ldc2 (v := (-2)) hx hb hown (hts (.constantLong RX7 195 (-2)) (by decide +kernel)) dX7_west_31 ?_
      rw [← hQ]
      have hP9 := hP
      have hD9 := hD
      exact W.lret (v := (-2)) hx hb hr (fun t ht hW => ⟨⟨_, (v, su, sl, F), rfl, ⟨((cif_t nc_1).trans (cif_f hwn)).symm, ⟨rfl, rfl, rfl, rfl, rfl⟩⟩, by rw [ht]; exact hP9, hD9⟩, hS.F ht⟩) hS.2.2 dX7_west_34
    · skip
      have nc_2 := zb_ne0.mp c_2
      have hc9 : b31 x := by have h9 := nc_2; rw [li_0, li_31] at h9; exact h9
      refine lv_iload_n hx hb dX7_west_22 rfl (lv_at hl 3 rfl) ?_
      refine lv_iconst (v := 0) hx hb dX7_west_23 (by decide) ?_
      refine lv_iconst (v := 1) hx hb dX7_west_24 (by decide) ?_
      have hPc := hP.sub (ws' := []) [] rfl
      refine u_callSi (W.runS (As := [.int y, .int 0, .int 1]) (rest := []) ⟨hx, hb, hml, hown, hts⟩ (c_X7_in l D cI cB cZ cP y 0 1 ) (cwS 3 hts gX7_west_X7_in rfl rfl rfl (by decide +kernel) ⟨Nat.le_of_ble_eq_true rfl, Nat.le_of_ble_eq_true rfl⟩) (pS hPc hW0 trivial) rfl rfl hl.1 rfl (lv_room (Nat.le_of_ble_eq_true rfl)) dX7_west_25 ⟨Nat.le_of_ble_eq_true rfl, Nat.le_of_ble_eq_true rfl⟩) ?_
      refine lv_if_ne (tgt := 35) hx hb dX7_west_28 (by decide) (fun c_3 => ?_) (fun c_3 => ?_)
      · skip
        have nc_3 := zb_ne0.mp c_3
        have hw9 : 0 ≤ y.toInt ∧ y.toInt ≤ 1 := by have h9 := nc_3; rw [li_0, li_1] at h9; exact h9
        refine lv_aload_n hx hb dX7_west_35 rfl (lv_at hl 0 rfl) ?_
        refine lv_iload_n hx hb dX7_west_36 rfl (lv_at hl 1 rfl) ?_
        have hPc := hP
        have hDc := hD
        have hFc := va_free (wc := (MW cI cZ a v su sl F)) hD hS hA [0, 1, 2, 3, 4, 5, 6, 7, 8, 9, 10, 11, 12] rfl
        refine va_callv (va_runV (As := [.int (nI pp)]) (rest := []) ⟨hx, hb, hml, hown, hts⟩ (c_X7_look l D cI cB cZ cP s.heap.size a v su sl F pp (pn pp) (by omega) ((hs3 pp hpp).2) ((hs3 pp hpp).1)) (cwV 1 hts gX7_west_X7_look rfl rfl rfl (by decide +kernel) ⟨Nat.le_of_ble_eq_true rfl, Nat.le_of_ble_eq_true rfl⟩) (pVQ (q0 := 0) hPc hDc hW0 EF.t rfl rfl) rfl rfl hl.1 rfl (lv_room (Nat.le_of_ble_eq_true rfl)) dX7_west_37 ⟨Nat.le_of_ble_eq_true rfl, Nat.le_of_ble_eq_true rfl⟩) hS (fun q _ h => hFc q h) hFc (fun u t H1 locs ht hvm hw hB hz1 hk1 hS => ?_)
        obtain ⟨X1_4, Y1_4⟩ := u
        obtain ⟨hP1, hD1⟩ := hB
        rw [ht] at hP1
        have hw_4 : ∀ j, j < (pn pp) → X1_4 j = pX (F 1) pp j ∧ Y1_4 j = pY (F 1) pp j := hw
        obtain ⟨hP, hD⟩ := va_join (wr := []) (w1 := (MW cI cZ a (upd v 7 (nI (pn pp))) su sl (updF (updF F 7 X1_4) 8 Y1_4))) hP hD [0, 1, 2, 3, 4, 5, 6, 7, 8, 9, 10, 11, 12] [] rfl rfl (by decide) (by decide) hk1 hFc hP1 hD1
        generalize H1 = H at hP hS ⊢
        have hP : va_P D vwCl (MW cI cZ a (upd v 7 (nI (pn pp))) su sl (updF (updF F 7 X1_4) 8 Y1_4)) H := hP
        have hD : va_D A (MW cI cZ a (upd v 7 (nI (pn pp))) su sl (updF (updF F 7 X1_4) 8 Y1_4)) := hD
        have hLK_pp : ∀ j, j < pn pp → X1_4 j = pX (F 1) pp j ∧ Y1_4 j = pY (F 1) pp j := hw_4
        have h8_pp := (hs3 pp hpp).2
        refine lv_aload_n hx hb dX7_west_40 rfl (lv_at hl 0 rfl) ?_
        refine lv_iload_n hx hb dX7_west_41 rfl (lv_at hl 2 rfl) ?_
        have hPc := hP
        have hDc := hD
        have hFc := va_free (wc := (MW cI cZ a (upd v 7 (nI (pn pp))) su sl (updF (updF F 7 X1_4) 8 Y1_4))) hD hS hA [0, 1, 2, 3, 4, 5, 6, 7, 8, 9, 10, 11, 12] rfl
        refine va_callv (va_runV (As := [.int x]) (rest := []) ⟨hx, hb, hml, hown, hts⟩ (c_X7_layWest l D cI cB cZ cP H.size a v su sl F (pn pp) X1_4 Y1_4 x (h8_pp) (fun z hz => by rw [(hLK_pp z hz).1, (hLK_pp z hz).2]; exact ((hPP pp hpp).1 z hz).1) (hc9)) (cwV 1 hts gX7_west_X7_layWest rfl rfl rfl (by decide +kernel) ⟨Nat.le_of_ble_eq_true rfl, Nat.le_of_ble_eq_true rfl⟩) (pVQ (q0 := 0) hPc hDc hW0 EF.t rfl rfl) rfl rfl hl.1 rfl (lv_room (Nat.le_of_ble_eq_true rfl)) dX7_west_42 ⟨Nat.le_of_ble_eq_true rfl, Nat.le_of_ble_eq_true rfl⟩) hS (fun q _ h => hFc q h) hFc (fun u t H1 locs ht hvm hw hB hz1 hk1 hS => ?_)
        obtain ⟨hP1, hD1⟩ := hB
        rw [ht] at hP1
        have hw_5 : True := hw
        obtain ⟨hP, hD⟩ := va_join (wr := []) (w1 := (MW cI cZ a (upd v 7 (nI (pn pp))) (lI (wQ (pn pp) X1_4 Y1_4 x).num) (lN (wQ (pn pp) X1_4 Y1_4 x).den) (updF (updF F 7 X1_4) 8 Y1_4))) hP hD [0, 1, 2, 3, 4, 5, 6, 7, 8, 9, 10, 11, 12] [] rfl rfl (by decide) (by decide) hk1 hFc hP1 hD1
        generalize H1 = H at hP hS ⊢
        have hP : va_P D vwCl (MW cI cZ a (upd v 7 (nI (pn pp))) (lI (wQ (pn pp) X1_4 Y1_4 x).num) (lN (wQ (pn pp) X1_4 Y1_4 x).den) (updF (updF F 7 X1_4) 8 Y1_4)) H := hP
        have hD : va_D A (MW cI cZ a (upd v 7 (nI (pn pp))) (lI (wQ (pn pp) X1_4 Y1_4 x).num) (lN (wQ (pn pp) X1_4 Y1_4 x).den) (updF (updF F 7 X1_4) 8 Y1_4)) := hD
        refine lv_iload_n hx hb dX7_west_45 rfl (lv_at hl 3 rfl) ?_
        refine lv_if_ne (tgt := 56) hx hb dX7_west_46 (by decide) (fun c_6 => ?_) (fun c_6 => ?_)
        · skip
          refine lv_aload_n hx hb dX7_west_56 rfl (lv_at hl 0 rfl) ?_
          refine va_get (D := D) (ci := 9) (v := .long (lN (wQ (pn pp) X1_4 Y1_4 x).den)) (C := RX7) (T := TX7) (N := 24) hx hb hts (by decide +kernel) hown hK hP 0 rfl rfl 20 (by decide) (hts (.fieldLink RX7 179 "LandDeedsModel" "sumLow" "J") (by decide +kernel)) (fun _ h9 => h9) rfl dX7_west_57 ?_
          rw [← hQ]
          have hP9 := hP
          have hD9 := hD
          exact W.lret (v := lN (wQ (pn pp) X1_4 Y1_4 x).den) hx hb hr (fun t ht hW => ⟨⟨_, (upd v 7 (nI (pn pp)), lI (wQ (pn pp) X1_4 Y1_4 x).num, lN (wQ (pn pp) X1_4 Y1_4 x).den, updF (updF F 7 X1_4) 8 Y1_4), rfl, ⟨by rw [show aWest kk pn (pX (F 1)) (pY (F 1)) x0 x y = _ from (cif_t nc_1).trans (cif_t ⟨hc9, hw9⟩), xpp, ← wQ_congr hLK_pp, cif_f c_6], ⟨rfl, rfl, rfl, rfl, rfl⟩⟩, by rw [ht]; exact hP9, hD9⟩, hS.F ht⟩) hS.2.2 dX7_west_60
        · skip
          refine lv_aload_n hx hb dX7_west_49 rfl (lv_at hl 0 rfl) ?_
          refine va_get (D := D) (ci := 9) (v := .long (lI (wQ (pn pp) X1_4 Y1_4 x).num)) (C := RX7) (T := TX7) (N := 24) hx hb hts (by decide +kernel) hown hK hP 0 rfl rfl 19 (by decide) (hts (.fieldLink RX7 175 "LandDeedsModel" "sumUp" "J") (by decide +kernel)) (fun _ h9 => h9) rfl dX7_west_50 ?_
          refine lv_goto (tgt := 60) hx hb dX7_west_53 (by decide) ?_
          rw [← hQ]
          have hP9 := hP
          have hD9 := hD
          exact W.lret (v := lI (wQ (pn pp) X1_4 Y1_4 x).num) hx hb hr (fun t ht hW => ⟨⟨_, (upd v 7 (nI (pn pp)), lI (wQ (pn pp) X1_4 Y1_4 x).num, lN (wQ (pn pp) X1_4 Y1_4 x).den, updF (updF F 7 X1_4) 8 Y1_4), rfl, ⟨by rw [show aWest kk pn (pX (F 1)) (pY (F 1)) x0 x y = _ from (cif_t nc_1).trans (cif_t ⟨hc9, hw9⟩), xpp, ← wQ_congr hLK_pp, cif_t c_6], ⟨rfl, rfl, rfl, rfl, rfl⟩⟩, by rw [ht]; exact hP9, hD9⟩, hS.F ht⟩) hS.2.2 dX7_west_60
      · skip
        have nc_3 := zb_eq0.mp c_3
        have hwn : ¬ ((0 ≤ x.toInt ∧ x.toInt ≤ 31) ∧ 0 ≤ y.toInt ∧ y.toInt ≤ 1) := fun q => nc_3 (by rw [li_0, li_1]; exact q.2)
        refine lv_ldc2 (v := (-2)) hx hb hown (hts (.constantLong RX7 195 (-2)) (by decide +kernel)) dX7_west_31 ?_
        rw [← hQ]
        have hP9 := hP
        have hD9 := hD
        exact W.lret (v := (-2)) hx hb hr (fun t ht hW => ⟨⟨_, (v, su, sl, F), rfl, ⟨((cif_t nc_1).trans (cif_f hwn)).symm, ⟨rfl, rfl, rfl, rfl, rfl⟩⟩, by rw [ht]; exact hP9, hD9⟩, hS.F ht⟩) hS.2.2 dX7_west_34
  · skip
    have nc_1 := zb_eq0.mp c_1
    refine lv_ldc2 (v := (-1)) hx hb hown (hts (.constantLong RX7 193 (-1)) (by decide +kernel)) dX7_west_8 ?_
    rw [← hQ]
    have hP9 := hP
    have hD9 := hD
    exact W.lret (v := (-1)) hx hb hr (fun t ht hW => ⟨⟨_, (v, su, sl, F), rfl, ⟨(cif_f nc_1).symm, ⟨rfl, rfl, rfl, rfl, rfl⟩⟩, by rw [ht]; exact hP9, hD9⟩, hS.F ht⟩) hS.2.2 dX7_west_11

set_option maxHeartbeats 4000000 in
set_option maxRecDepth 100000 in
theorem c_X7_line (l : Launch) (D : va_G) (cI cB cZ cP : ClassId) (sz : Nat) (a : Nat → Nat) (v : Nat → Int32) (su sl : Int64) (F : Nat → Nat → Int32) (kk : Nat) (pn : Nat → Nat) (x0 y : Int32) (hSM : stM (F 1) kk pn) (hPP : ∀ p9, p9 < kk → stn (pn p9) (pX (F 1) p9) (pY (F 1) p9)) : Met l yX7_line wsX7_line ({ frames := 4, cells := 0, slots := 0, locals := 107 } : Room) (va_Pc [.ref (a 0), .int x0, .int y] (fun U => U.heap.size = sz ∧ va_P D vwCl (MW cI cZ a v su sl F) U.heap ∧ KW D cI cB cZ cP U ∧ va_D (fun _ => True) (MW cI cZ a v su sl F) ∧ EF (MW cI cZ a v su sl F) sz E0 U.heap)) (va_Qi (fun r (u : (Nat → Int32) × Int64 × Int64 × (Nat → Nat → Int32)) => match u with | (v1, su1, sl1, F1) => r = aLine kk pn (pX (F 1)) (pY (F 1)) x0 y ∧ keepM v F v1 F1) (fun (u : (Nat → Int32) × Int64 × Int64 × (Nat → Nat → Int32)) (t : State) => match u with | (v1, su1, sl1, F1) => va_P D vwCl (MW cI cZ a v1 su1 sl1 F1) t.heap ∧ va_D (va_A (MW cI cZ a v su sl F) sz) (MW cI cZ a v1 su1 sl1 F1)) (va_A (MW cI cZ a v su sl F) sz)) 0 0 (va_A (MW cI cZ a v su sl F) sz) := by
  refine Met.ofW (cc := cX7_line) (maxL := 4) (ret := (some .int)) (by decide) rfl ?_
  intro p e s m args below meth c s₁ B hml hv
  obtain ⟨rfl, hsz, hP, hW0, hD0, hE⟩ := hv
  have hx := B.exec
  have hb := B.bytes
  have hr := B.returns
  have hts := atoms_spec (ws := wsX7_line) B.pre
  have hown : s.vm.findClass RX7 = some m.cls := findClass_of_methodNamed B.named
  have hlocks := B.notSynchronized
  have hK := hW0.1
  subst hsz
  have hD := hD0.self (sz := s.heap.size)
  unfold EF at hE
  generalize hAe : va_A (MW cI cZ a v su sl F) s.heap.size = A at hD hE ⊢
  have hA : ∀ q : Nat, s.heap.size ≤ q → A q := fun q h => by rw [← hAe]; exact Or.inr h
  have hS : va_S A s.heap s.heap [] := va_S.rf
  have hl := lv_entry ([.ref (a 0), .int x0, .int y]) (n := 4) (Nat.le_of_ble_eq_true rfl)
  rw [lg_entry_eq]
  generalize (lg_sl ([.ref (a 0), .int x0, .int y]) ++ List.replicate (4 - (lg_sl ([.ref (a 0), .int x0, .int y])).length) Slot.unset).toArray = ls at hl ⊢
  have hl : lv_has ls 4 [(0, .ref (a 0)), (1, .int x0), (2, .int y)] := hl
  show W p l e ({ frames := 4, cells := 0, slots := 0, locals := 107 } : Room) s m ([.ref (a 0), .int x0, .int y] : List Value).toArray below meth c s.heap [] 0 0 _ (F0 m 0 ls [])
  refine u_genQ (fun Q hQ => ?_)
  obtain ⟨hs1, hs2, hs3⟩ := id hSM
  refine lv_aload_n hx hb dX7_line_0 rfl (lv_at hl 0 rfl) ?_
  refine lv_iload_n hx hb dX7_line_1 rfl (lv_at hl 1 rfl) ?_
  have hPc := hP
  refine u_callSi (W.runV (As := [.int x0]) (rest := []) ⟨hx, hb, hml, hown, hts⟩ (c_X7_isPlot l D cI cB cZ cP a v su sl F x0 kk (hs2) (hs1)) (cwV 1 hts gX7_line_X7_isPlot rfl rfl rfl (by decide +kernel) ⟨Nat.le_of_ble_eq_true rfl, Nat.le_of_ble_eq_true rfl⟩) (pV (q0 := 0) hPc hW0 trivial rfl rfl) rfl rfl hl.1 rfl (lv_room (Nat.le_of_ble_eq_true rfl)) dX7_line_2 ⟨Nat.le_of_ble_eq_true rfl, Nat.le_of_ble_eq_true rfl⟩) ?_
  refine lv_if_ne (tgt := 10) hx hb dX7_line_5 (by decide) (fun c_1 => ?_) (fun c_1 => ?_)
  · skip
    have nc_1 := zb_ne0.mp c_1
    obtain ⟨pp, hpp, epp, xpp⟩ := inP_nat nc_1 (by omega)
    rw [epp] at hl
    refine lv_iload_n hx hb dX7_line_10 rfl (lv_at hl 2 rfl) ?_
    refine lv_iconst (v := 1) hx hb dX7_line_11 (by decide) ?_
    refine lv_sipush (v := 2000) hx hb dX7_line_12 (by decide) ?_
    have hPc := hP.sub (ws' := []) [] rfl
    refine u_callSi (W.runS (As := [.int y, .int 1, .int 2000]) (rest := []) ⟨hx, hb, hml, hown, hts⟩ (c_X7_in l D cI cB cZ cP y 1 2000 ) (cwS 3 hts gX7_line_X7_in rfl rfl rfl (by decide +kernel) ⟨Nat.le_of_ble_eq_true rfl, Nat.le_of_ble_eq_true rfl⟩) (pS hPc hW0 trivial) rfl rfl hl.1 rfl (lv_room (Nat.le_of_ble_eq_true rfl)) dX7_line_15 ⟨Nat.le_of_ble_eq_true rfl, Nat.le_of_ble_eq_true rfl⟩) ?_
    refine lv_if_ne (tgt := 24) hx hb dX7_line_18 (by decide) (fun c_2 => ?_) (fun c_2 => ?_)
    · skip
      have nc_2 := zb_ne0.mp c_2
      have hw9 : 1 ≤ y.toInt ∧ y.toInt ≤ 2000 := by have h9 := nc_2; rw [li_1, li_2000] at h9; exact h9
      refine lv_aload_n hx hb dX7_line_24 rfl (lv_at hl 0 rfl) ?_
      refine lv_iload_n hx hb dX7_line_25 rfl (lv_at hl 1 rfl) ?_
      have hPc := hP
      have hDc := hD
      have hFc := va_free (wc := (MW cI cZ a v su sl F)) hD hS hA [0, 1, 2, 3, 4, 5, 6, 7, 8, 9, 10, 11, 12] rfl
      refine va_callv (va_runV (As := [.int (nI pp)]) (rest := []) ⟨hx, hb, hml, hown, hts⟩ (c_X7_look l D cI cB cZ cP s.heap.size a v su sl F pp (pn pp) (by omega) ((hs3 pp hpp).2) ((hs3 pp hpp).1)) (cwV 1 hts gX7_line_X7_look rfl rfl rfl (by decide +kernel) ⟨Nat.le_of_ble_eq_true rfl, Nat.le_of_ble_eq_true rfl⟩) (pVQ (q0 := 0) hPc hDc hW0 EF.t rfl rfl) rfl rfl hl.1 rfl (lv_room (Nat.le_of_ble_eq_true rfl)) dX7_line_26 ⟨Nat.le_of_ble_eq_true rfl, Nat.le_of_ble_eq_true rfl⟩) hS (fun q _ h => hFc q h) hFc (fun u t H1 locs ht hvm hw hB hz1 hk1 hS => ?_)
      obtain ⟨X1_3, Y1_3⟩ := u
      obtain ⟨hP1, hD1⟩ := hB
      rw [ht] at hP1
      have hw_3 : ∀ j, j < (pn pp) → X1_3 j = pX (F 1) pp j ∧ Y1_3 j = pY (F 1) pp j := hw
      obtain ⟨hP, hD⟩ := va_join (wr := []) (w1 := (MW cI cZ a (upd v 7 (nI (pn pp))) su sl (updF (updF F 7 X1_3) 8 Y1_3))) hP hD [0, 1, 2, 3, 4, 5, 6, 7, 8, 9, 10, 11, 12] [] rfl rfl (by decide) (by decide) hk1 hFc hP1 hD1
      generalize H1 = H at hP hS ⊢
      have hP : va_P D vwCl (MW cI cZ a (upd v 7 (nI (pn pp))) su sl (updF (updF F 7 X1_3) 8 Y1_3)) H := hP
      have hD : va_D A (MW cI cZ a (upd v 7 (nI (pn pp))) su sl (updF (updF F 7 X1_3) 8 Y1_3)) := hD
      have hLK_pp : ∀ j, j < pn pp → X1_3 j = pX (F 1) pp j ∧ Y1_3 j = pY (F 1) pp j := hw_3
      have h8_pp := (hs3 pp hpp).2
      refine lv_iconst (v := 0) hx hb dX7_line_29 (by decide) ?_
      refine lv_istore_n (lv' := [(3, .int 0), (0, .ref (a 0)), (1, .int (nI pp)), (2, .int y)]) hx hb dX7_line_30 rfl hl (by decide) rfl (fun ls hl => ?_)
      have LOOP_31 : ∀ (fu : Nat) (z : Nat) (su1 : Int64) (sl1 : Int64) (hz : z ≤ 32) (hL : lst (enough (pn pp) X1_3 Y1_3 y) 0 32 = lst (enough (pn pp) X1_3 Y1_3 y) z (32 - z)) (hn : 32 - z < fu) (H : Heap) (locs : List Loc) (hP : va_P D vwCl (MW cI cZ a (upd v 7 (nI (pn pp))) su1 sl1 (updF (updF F 7 X1_3) 8 Y1_3)) H) (hD : va_D A (MW cI cZ a (upd v 7 (nI (pn pp))) su1 sl1 (updF (updF F 7 X1_3) 8 Y1_3))) (hS : va_S A s.heap H locs) (ls : Array Slot) (hl : lv_has ls 4 [(0, .ref (a 0)), (2, .int y), (3, .int (nI z))]), W p l e ({ frames := 4, cells := 0, slots := 0, locals := 107 } : Room) s m ([.ref (a 0), .int x0, .int y] : List Value).toArray below meth c H locs 0 0 Q (F0 m 31 ls []) := by
        intro fu
        induction fu with
        | zero => intro z su1 sl1 hz hL hn H locs hP hD hS ls hl; exact absurd hn (Nat.not_lt_zero _)
        | succ fu ih_31 =>
          intro z su1 sl1 hz hL hn H locs hP hD hS ls hl
          refine lv_iload_n hx hb dX7_line_31 rfl (lv_at hl 2 rfl) ?_
          refine lv_bipush (v := 32) hx hb dX7_line_32 (by decide) ?_
          refine lv_icmp_ge (tgt := 65) hx hb dX7_line_34 (by decide) (fun c_4 => ?_) (fun c_4 => ?_)
          · skip
            have nc_4 : 32 ≤ z := (nI_leI (a := 32) (b := z) (by omega) (by omega)).mp c_4
            refine lv_bipush (v := (-6)) hx hb dX7_line_65 (by decide) ?_
            rw [← hQ]
            have hP9 := hP
            have hD9 := hD
            exact W.iret (v := (-6)) hx hb hr (fun t ht hW => ⟨⟨_, (upd v 7 (nI (pn pp)), su1, sl1, updF (updF F 7 X1_3) 8 Y1_3), rfl, ⟨by rw [show aLine kk pn (pX (F 1)) (pY (F 1)) x0 y = _ from (cif_t nc_1).trans (cif_t hw9), xpp, lst_congr 32 0 (fun j _ _ => by unfold enough; rw [← wQ_congr hLK_pp] : ∀ j, 0 ≤ j → j < 0 + 32 → (enough (pn pp) (pX (F 1) pp) (pY (F 1) pp) y j ↔ enough (pn pp) X1_3 Y1_3 y j))]; rw [hL, show z = 32 by omega]; rfl, ⟨rfl, rfl, rfl, rfl, rfl⟩⟩, by rw [ht]; exact hP9, hD9⟩, hS.F ht⟩) hS.2.2 dX7_line_67
          · skip
            have nc_4 : ¬ (32 ≤ z) := fun h => c_4 ((nI_leI (a := 32) (b := z) (by omega) (by omega)).mpr h)
            have hz8 : z < 32 := by omega
            have hc9 : b31 (nI z) := by unfold b31; rw [nI_toInt (by omega)]; omega
            refine lv_aload_n hx hb dX7_line_37 rfl (lv_at hl 0 rfl) ?_
            refine lv_iload_n hx hb dX7_line_38 rfl (lv_at hl 2 rfl) ?_
            have hPc := hP
            have hDc := hD
            have hFc := va_free (wc := (MW cI cZ a (upd v 7 (nI (pn pp))) su1 sl1 (updF (updF F 7 X1_3) 8 Y1_3))) hD hS hA [0, 1, 2, 3, 4, 5, 6, 7, 8, 9, 10, 11, 12] rfl
            refine va_callv (va_runV (As := [.int (nI z)]) (rest := []) ⟨hx, hb, hml, hown, hts⟩ (c_X7_layWest l D cI cB cZ cP H.size a v su1 sl1 F (pn pp) X1_3 Y1_3 (nI z) (h8_pp) (fun z hz => by rw [(hLK_pp z hz).1, (hLK_pp z hz).2]; exact ((hPP pp hpp).1 z hz).1) (hc9)) (cwV 1 hts gX7_line_X7_layWest rfl rfl rfl (by decide +kernel) ⟨Nat.le_of_ble_eq_true rfl, Nat.le_of_ble_eq_true rfl⟩) (pVQ (q0 := 0) hPc hDc hW0 EF.t rfl rfl) rfl rfl hl.1 rfl (lv_room (Nat.le_of_ble_eq_true rfl)) dX7_line_39 ⟨Nat.le_of_ble_eq_true rfl, Nat.le_of_ble_eq_true rfl⟩) hS (fun q _ h => hFc q h) hFc (fun u t H1 locs ht hvm hw hB hz1 hk1 hS => ?_)
            obtain ⟨hP1, hD1⟩ := hB
            rw [ht] at hP1
            have hw_5 : True := hw
            obtain ⟨hP, hD⟩ := va_join (wr := []) (w1 := (MW cI cZ a (upd v 7 (nI (pn pp))) (lI (wQ (pn pp) X1_3 Y1_3 (nI z)).num) (lN (wQ (pn pp) X1_3 Y1_3 (nI z)).den) (updF (updF F 7 X1_3) 8 Y1_3))) hP hD [0, 1, 2, 3, 4, 5, 6, 7, 8, 9, 10, 11, 12] [] rfl rfl (by decide) (by decide) hk1 hFc hP1 hD1
            generalize H1 = H at hP hS ⊢
            have hP : va_P D vwCl (MW cI cZ a (upd v 7 (nI (pn pp))) (lI (wQ (pn pp) X1_3 Y1_3 (nI z)).num) (lN (wQ (pn pp) X1_3 Y1_3 (nI z)).den) (updF (updF F 7 X1_3) 8 Y1_3)) H := hP
            have hD : va_D A (MW cI cZ a (upd v 7 (nI (pn pp))) (lI (wQ (pn pp) X1_3 Y1_3 (nI z)).num) (lN (wQ (pn pp) X1_3 Y1_3 (nI z)).den) (updF (updF F 7 X1_3) 8 Y1_3)) := hD
            refine lv_aload_n hx hb dX7_line_42 rfl (lv_at hl 0 rfl) ?_
            refine va_get (D := D) (ci := 9) (v := .long (lI (wQ (pn pp) X1_3 Y1_3 (nI z)).num)) (C := RX7) (T := TX7) (N := 24) hx hb hts (by decide +kernel) hown hK hP 0 rfl rfl 19 (by decide) (hts (.fieldLink RX7 175 "LandDeedsModel" "sumUp" "J") (by decide +kernel)) (fun _ h9 => h9) rfl dX7_line_43 ?_
            refine lv_iload_n hx hb dX7_line_46 rfl (lv_at hl 1 rfl) ?_
            refine lv_i2l hx hb dX7_line_47 rfl ?_
            refine lv_aload_n hx hb dX7_line_48 rfl (lv_at hl 0 rfl) ?_
            refine va_get (D := D) (ci := 9) (v := .long (lN (wQ (pn pp) X1_3 Y1_3 (nI z)).den)) (C := RX7) (T := TX7) (N := 24) hx hb hts (by decide +kernel) hown hK hP 0 rfl rfl 20 (by decide) (hts (.fieldLink RX7 179 "LandDeedsModel" "sumLow" "J") (by decide +kernel)) (fun _ h9 => h9) rfl dX7_line_49 ?_
            refine lv_lmul hx hb dX7_line_52 ?_
            refine W.lcmp hx hb dX7_line_53 ?_
            refine lv_if_lt (tgt := 59) hx hb dX7_line_54 (by decide) (fun c_6 => ?_) (fun c_6 => ?_)
            · skip
              have nc_6 := (lg_cmp_lt _ _).mp c_6
              refine lv_iinc (v := nI (z + 1)) (lv' := [(3, .int (nI (z + 1))), (0, .ref (a 0)), (2, .int y)]) hx hb dX7_line_59 hl (k := 2) rfl (nI_1 _) (by decide) rfl (fun ls hl => ?_)
              refine lv_goto (tgt := 31) hx hb dX7_line_62 (by decide) ?_
              exact ih_31 (z + 1) (lI (wQ (pn pp) X1_3 Y1_3 (nI z)).num) (lN (wQ (pn pp) X1_3 Y1_3 (nI z)).den) (by omega) (lst_no hz8 (fun q => q nc_6) hL) (by omega) _ _ hP hD hS ls (lv_sub hl [1, 2, 0] rfl)
            · skip
              have nc_6 := fun h => c_6 ((lg_cmp_lt _ _).mpr h)
              refine lv_iload_n hx hb dX7_line_57 rfl (lv_at hl 2 rfl) ?_
              rw [← hQ]
              have hP9 := hP
              have hD9 := hD
              exact W.iret (v := nI z) hx hb hr (fun t ht hW => ⟨⟨_, (upd v 7 (nI (pn pp)), lI (wQ (pn pp) X1_3 Y1_3 (nI z)).num, lN (wQ (pn pp) X1_3 Y1_3 (nI z)).den, updF (updF F 7 X1_3) 8 Y1_3), rfl, ⟨by rw [show aLine kk pn (pX (F 1)) (pY (F 1)) x0 y = _ from (cif_t nc_1).trans (cif_t hw9), xpp, lst_congr 32 0 (fun j _ _ => by unfold enough; rw [← wQ_congr hLK_pp] : ∀ j, 0 ≤ j → j < 0 + 32 → (enough (pn pp) (pX (F 1) pp) (pY (F 1) pp) y j ↔ enough (pn pp) X1_3 Y1_3 y j))]; exact lst_yes hz8 nc_6 hL, ⟨rfl, rfl, rfl, rfl, rfl⟩⟩, by rw [ht]; exact hP9, hD9⟩, hS.F ht⟩) hS.2.2 dX7_line_58
      exact LOOP_31 (32 - 0 + 1) 0 su sl (Nat.zero_le _) (rfl) (Nat.lt_succ_self _) _ _ hP hD hS ls (lv_sub hl [1, 3, 0] rfl)
    · skip
      have nc_2 := zb_eq0.mp c_2
      have hw9 : ¬ (1 ≤ y.toInt ∧ y.toInt ≤ 2000) := by have h9 := nc_2; rw [li_1, li_2000] at h9; exact h9
      refine lv_bipush (v := (-2)) hx hb dX7_line_21 (by decide) ?_
      rw [← hQ]
      have hP9 := hP
      have hD9 := hD
      exact W.iret (v := (-2)) hx hb hr (fun t ht hW => ⟨⟨_, (v, su, sl, F), rfl, ⟨((cif_t nc_1).trans (cif_f hw9)).symm, ⟨rfl, rfl, rfl, rfl, rfl⟩⟩, by rw [ht]; exact hP9, hD9⟩, hS.F ht⟩) hS.2.2 dX7_line_23
  · skip
    have nc_1 := zb_eq0.mp c_1
    refine lv_iconst (v := (-1)) hx hb dX7_line_8 (by decide) ?_
    rw [← hQ]
    have hP9 := hP
    have hD9 := hD
    exact W.iret (v := (-1)) hx hb hr (fun t ht hW => ⟨⟨_, (v, su, sl, F), rfl, ⟨(cif_f nc_1).symm, ⟨rfl, rfl, rfl, rfl, rfl⟩⟩, by rw [ht]; exact hP9, hD9⟩, hS.F ht⟩) hS.2.2 dX7_line_9

