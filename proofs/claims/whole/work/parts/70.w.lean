set_option maxHeartbeats 4000000 in
set_option maxRecDepth 100000 in
theorem c_X1_addBelow (l : Launch) (D : va_G) (cI cB cZ cP : ClassId) (sz : Nat) (h0 ax ay nn : Nat) (X Y : Nat → Int32) (h1 fr to_ k8 : Nat) (cl tm : Int32) (qq : Rat) (hn8 : nn ≤ 8) (hfr : fr < nn) (hto : to_ < nn) (p1 : isP (X fr) (Y fr)) (p2 : isP (X to_) (Y to_)) (hc : b31 cl) (ht : tm = 1 ∨ tm = -1) (hq : qB k8 qq) (hk8 : k8 < 8) : Met l yX1_addBelow wsX1_addBelow ({ frames := 2, cells := 0, slots := 0, locals := 56 } : Room) (va_Pc [.ref h0, .int (nI fr), .int (nI to_), .int cl, .ref h1, .int tm] (fun U => U.heap.size = sz ∧ va_P D vwCl [(h0, .inr (3, [.ref ax, .ref ay, .int (nI nn)])), (ax, .inl (cI, nn, .inl X)), (ay, .inl (cI, nn, .inl Y)), (h1, .inr (5, [.long (lI qq.num), .long (lN qq.den)]))] U.heap ∧ KW D cI cB cZ cP U ∧ va_D (fun _ => True) [(h0, .inr (3, [.ref ax, .ref ay, .int (nI nn)])), (ax, .inl (cI, nn, .inl X)), (ay, .inl (cI, nn, .inl Y)), (h1, .inr (5, [.long (lI qq.num), .long (lN qq.den)]))] ∧ EF [(h0, .inr (3, [.ref ax, .ref ay, .int (nI nn)])), (ax, .inl (cI, nn, .inl X)), (ay, .inl (cI, nn, .inl Y)), (h1, .inr (5, [.long (lI qq.num), .long (lN qq.den)]))] sz E0 U.heap)) (va_Qv (fun (_ : Unit) => True) (fun (_ : Unit) (t : State) => va_P D vwCl [(h0, .inr (3, [.ref ax, .ref ay, .int (nI nn)])), (ax, .inl (cI, nn, .inl X)), (ay, .inl (cI, nn, .inl Y)), (h1, .inr (5, [.long (lI (qq + bT X Y fr to_ cl tm).num), .long (lN (qq + bT X Y fr to_ cl tm).den)]))] t.heap ∧ va_D (va_A [(h0, .inr (3, [.ref ax, .ref ay, .int (nI nn)])), (ax, .inl (cI, nn, .inl X)), (ay, .inl (cI, nn, .inl Y)), (h1, .inr (5, [.long (lI qq.num), .long (lN qq.den)]))] sz) [(h0, .inr (3, [.ref ax, .ref ay, .int (nI nn)])), (ax, .inl (cI, nn, .inl X)), (ay, .inl (cI, nn, .inl Y)), (h1, .inr (5, [.long (lI (qq + bT X Y fr to_ cl tm).num), .long (lN (qq + bT X Y fr to_ cl tm).den)]))]) (va_A [(h0, .inr (3, [.ref ax, .ref ay, .int (nI nn)])), (ax, .inl (cI, nn, .inl X)), (ay, .inl (cI, nn, .inl Y)), (h1, .inr (5, [.long (lI qq.num), .long (lN qq.den)]))] sz)) 0 0 (va_A [(h0, .inr (3, [.ref ax, .ref ay, .int (nI nn)])), (ax, .inl (cI, nn, .inl X)), (ay, .inl (cI, nn, .inl Y)), (h1, .inr (5, [.long (lI qq.num), .long (lN qq.den)]))] sz) := by
  refine Met.ofW (cc := cX1_addBelow) (maxL := 9) (ret := none) (by decide) rfl ?_
  intro p e s m args below meth c s₁ B hml hv
  obtain ⟨rfl, hsz, hP, hW0, hD0, hE⟩ := hv
  have hx := B.exec
  have hb := B.bytes
  have hr := B.returns
  have hts := atoms_spec (ws := wsX1_addBelow) B.pre
  have hown : s.vm.findClass RX1 = some m.cls := findClass_of_methodNamed B.named
  have hlocks := B.notSynchronized
  have hK := hW0.1
  subst hsz
  have hD := hD0.self (sz := s.heap.size)
  unfold EF at hE
  generalize hAe : va_A [(h0, .inr (3, [.ref ax, .ref ay, .int (nI nn)])), (ax, .inl (cI, nn, .inl X)), (ay, .inl (cI, nn, .inl Y)), (h1, .inr (5, [.long (lI qq.num), .long (lN qq.den)]))] s.heap.size = A at hD hE ⊢
  have hA : ∀ q : Nat, s.heap.size ≤ q → A q := fun q h => by rw [← hAe]; exact Or.inr h
  have hS : va_S A s.heap s.heap [] := va_S.rf
  have hl := lv_entry ([.ref h0, .int (nI fr), .int (nI to_), .int cl, .ref h1, .int tm]) (n := 9) (Nat.le_of_ble_eq_true rfl)
  rw [lg_entry_eq]
  generalize (lg_sl ([.ref h0, .int (nI fr), .int (nI to_), .int cl, .ref h1, .int tm]) ++ List.replicate (9 - (lg_sl ([.ref h0, .int (nI fr), .int (nI to_), .int cl, .ref h1, .int tm])).length) Slot.unset).toArray = ls at hl ⊢
  have hl : lv_has ls 9 [(0, .ref h0), (1, .int (nI fr)), (2, .int (nI to_)), (3, .int cl), (4, .ref h1), (5, .int tm)] := hl
  show W p l e ({ frames := 2, cells := 0, slots := 0, locals := 56 } : Room) s m ([.ref h0, .int (nI fr), .int (nI to_), .int cl, .ref h1, .int tm] : List Value).toArray below meth c s.heap [] 0 0 _ (F0 m 0 ls [])
  refine u_genQ (fun Q hQ => ?_)
  refine lv_aload_n hx hb dX1_addBelow_0 rfl (lv_at hl 0 rfl) ?_
  refine va_get (D := D) (ci := 3) (v := .ref ax) (C := RX1) (T := TX1) (N := 3) hx hb hts (by decide +kernel) hown hK hP 0 rfl rfl 0 (by decide) (hts (.fieldLink RX1 7 "LandDeeds$Outline" "xs" "[I") (by decide +kernel)) (fun _ h9 => h9) rfl dX1_addBelow_1 ?_
  refine lv_iload_n hx hb dX1_addBelow_4 rfl (lv_at hl 2 rfl) ?_
  refine u_iald hx hb hK hP 1 0 rfl rfl rfl ⟨by omega, by omega⟩ dX1_addBelow_5 ?_
  refine lv_aload_n hx hb dX1_addBelow_6 rfl (lv_at hl 0 rfl) ?_
  refine va_get (D := D) (ci := 3) (v := .ref ax) (C := RX1) (T := TX1) (N := 3) hx hb hts (by decide +kernel) hown hK hP 0 rfl rfl 0 (by decide) (hts (.fieldLink RX1 7 "LandDeeds$Outline" "xs" "[I") (by decide +kernel)) (fun _ h9 => h9) rfl dX1_addBelow_7 ?_
  refine lv_iload_n hx hb dX1_addBelow_10 rfl (lv_at hl 1 rfl) ?_
  refine u_iald hx hb hK hP 1 0 rfl rfl rfl ⟨by omega, by omega⟩ dX1_addBelow_11 ?_
  refine lv_isub hx hb dX1_addBelow_12 ?_
  refine u_eqi (show (X to_) - (X fr) = bB X fr to_ from rfl) ?_
  refine lv_istore (lv' := [(6, .int (bB X fr to_)), (0, .ref h0), (1, .int (nI fr)), (2, .int (nI to_)), (3, .int cl), (4, .ref h1), (5, .int tm)]) hx hb dX1_addBelow_13 hl (by decide) rfl (fun ls hl => ?_)
  refine lv_iload_n hx hb dX1_addBelow_15 rfl (lv_at hl 4 rfl) ?_
  refine lv_aload_n hx hb dX1_addBelow_16 rfl (lv_at hl 1 rfl) ?_
  refine va_get (D := D) (ci := 3) (v := .ref ax) (C := RX1) (T := TX1) (N := 3) hx hb hts (by decide +kernel) hown hK hP 0 rfl rfl 0 (by decide) (hts (.fieldLink RX1 7 "LandDeeds$Outline" "xs" "[I") (by decide +kernel)) (fun _ h9 => h9) rfl dX1_addBelow_17 ?_
  refine lv_iload_n hx hb dX1_addBelow_20 rfl (lv_at hl 3 rfl) ?_
  refine u_iald hx hb hK hP 1 0 rfl rfl rfl ⟨by omega, by omega⟩ dX1_addBelow_21 ?_
  refine va_mmin hx hb (by rw [hml]; exact hl.1.symm) hown (hts (.methodLink RX1 16 Lib.Math.min.name) (by decide +kernel)) (hts (.static Lib.Math.min.name) (by decide +kernel)) (hts (.initialized "java/lang/Math") (by decide +kernel)) (hts (.code Lib.Math.min.name Lib.Math.min.code 2 (some .int)) (by decide +kernel)) (Nat.le_of_ble_eq_true rfl) (Nat.le_of_ble_eq_true rfl) (Nat.zero_le _) (Nat.zero_le _) dX1_addBelow_22 ?_
  refine lv_aload_n hx hb dX1_addBelow_25 rfl (lv_at hl 1 rfl) ?_
  refine va_get (D := D) (ci := 3) (v := .ref ax) (C := RX1) (T := TX1) (N := 3) hx hb hts (by decide +kernel) hown hK hP 0 rfl rfl 0 (by decide) (hts (.fieldLink RX1 7 "LandDeeds$Outline" "xs" "[I") (by decide +kernel)) (fun _ h9 => h9) rfl dX1_addBelow_26 ?_
  refine lv_iload_n hx hb dX1_addBelow_29 rfl (lv_at hl 2 rfl) ?_
  refine u_iald hx hb hK hP 1 0 rfl rfl rfl ⟨by omega, by omega⟩ dX1_addBelow_30 ?_
  refine lv_isub hx hb dX1_addBelow_31 ?_
  refine u_eqi (show (mn cl (X to_)) - (X fr) = bR X fr to_ cl from rfl) ?_
  refine lv_istore (lv' := [(7, .int (bR X fr to_ cl)), (6, .int (bB X fr to_)), (0, .ref h0), (1, .int (nI fr)), (2, .int (nI to_)), (3, .int cl), (4, .ref h1), (5, .int tm)]) hx hb dX1_addBelow_32 hl (by decide) rfl (fun ls hl => ?_)
  refine lv_iload hx hb dX1_addBelow_34 (lv_at hl 1 rfl) ?_
  refine lv_if_le (tgt := 91) hx hb dX1_addBelow_36 (by decide) (fun c_1 => ?_) (fun c_1 => ?_)
  · skip
    have hb0 : qq + bT X Y fr to_ cl tm = qq := by rw [show bT X Y fr to_ cl tm = _ from cif_f (fun q => by have q1 := q.1; have q2 := q.2; simp only [Int32.le_iff_toInt_le, li_0] at c_1; first | exact absurd q1 (by unfold bB; omega) | exact absurd q2 (by unfold bR; omega)), Rat.add_zero]
    rw [show lI qq.num = lI (qq + bT X Y fr to_ cl tm).num by rw [hb0], show lN qq.den = lN (qq + bT X Y fr to_ cl tm).den by rw [hb0]] at hP hD
    rw [← hQ]
    have hP9 := hP
    have hD9 := hD
    exact W.vret hx hb hr (fun t ht hW => ⟨⟨(), rfl, trivial, by rw [ht]; exact hP9, hD9⟩, hS.F ht⟩) hS.2.2 dX1_addBelow_91
  · skip
    have hB9 : 0 < (bB X fr to_).toInt := by have h9 := c_1; rw [Int32.le_iff_toInt_le, li_0] at h9; exact Int.not_le.mp h9
    refine lv_iload hx hb dX1_addBelow_39 (lv_at hl 0 rfl) ?_
    refine lv_if_le (tgt := 91) hx hb dX1_addBelow_41 (by decide) (fun c_2 => ?_) (fun c_2 => ?_)
    · skip
      have hb0 : qq + bT X Y fr to_ cl tm = qq := by rw [show bT X Y fr to_ cl tm = _ from cif_f (fun q => by have q1 := q.1; have q2 := q.2; simp only [Int32.le_iff_toInt_le, li_0] at c_1 c_2; first | exact absurd q1 (by unfold bB; omega) | exact absurd q2 (by unfold bR; omega)), Rat.add_zero]
      rw [show lI qq.num = lI (qq + bT X Y fr to_ cl tm).num by rw [hb0], show lN qq.den = lN (qq + bT X Y fr to_ cl tm).den by rw [hb0]] at hP hD
      rw [← hQ]
      have hP9 := hP
      have hD9 := hD
      exact W.vret hx hb hr (fun t ht hW => ⟨⟨(), rfl, trivial, by rw [ht]; exact hP9, hD9⟩, hS.F ht⟩) hS.2.2 dX1_addBelow_91
    · skip
      have hR9 : 0 < (bR X fr to_ cl).toInt := by have h9 := c_2; rw [Int32.le_iff_toInt_le, li_0] at h9; exact Int.not_le.mp h9
      have hb9 := bT_b p1 p2 hc ht hB9 hR9
      refine lv_aload_n hx hb dX1_addBelow_44 rfl (lv_at hl 2 rfl) ?_
      refine va_get (D := D) (ci := 3) (v := .ref ay) (C := RX1) (T := TX1) (N := 3) hx hb hts (by decide +kernel) hown hK hP 0 rfl rfl 1 (by decide) (hts (.fieldLink RX1 13 "LandDeeds$Outline" "ys" "[I") (by decide +kernel)) (fun _ h9 => h9) rfl dX1_addBelow_45 ?_
      refine lv_iload_n hx hb dX1_addBelow_48 rfl (lv_at hl 4 rfl) ?_
      refine u_iald hx hb hK hP 2 0 rfl rfl rfl ⟨by omega, by omega⟩ dX1_addBelow_49 ?_
      refine lv_aload_n hx hb dX1_addBelow_50 rfl (lv_at hl 2 rfl) ?_
      refine va_get (D := D) (ci := 3) (v := .ref ay) (C := RX1) (T := TX1) (N := 3) hx hb hts (by decide +kernel) hown hK hP 0 rfl rfl 1 (by decide) (hts (.fieldLink RX1 13 "LandDeeds$Outline" "ys" "[I") (by decide +kernel)) (fun _ h9 => h9) rfl dX1_addBelow_51 ?_
      refine lv_iload_n hx hb dX1_addBelow_54 rfl (lv_at hl 3 rfl) ?_
      refine u_iald hx hb hK hP 2 0 rfl rfl rfl ⟨by omega, by omega⟩ dX1_addBelow_55 ?_
      refine lv_isub hx hb dX1_addBelow_56 ?_
      refine lv_istore (lv' := [(8, .int ((Y to_) - (Y fr))), (7, .int (bR X fr to_ cl)), (6, .int (bB X fr to_)), (0, .ref h0), (1, .int (nI fr)), (2, .int (nI to_)), (3, .int cl), (4, .ref h1), (5, .int tm)]) hx hb dX1_addBelow_57 hl (by decide) rfl (fun ls hl => ?_)
      refine lv_aload hx hb dX1_addBelow_59 (lv_at hl 7 rfl) ?_
      refine lv_iload hx hb dX1_addBelow_61 (lv_at hl 8 rfl) ?_
      refine lv_iload hx hb dX1_addBelow_63 (lv_at hl 1 rfl) ?_
      refine lv_imul hx hb dX1_addBelow_65 ?_
      refine lv_iconst (v := 2) hx hb dX1_addBelow_66 (by decide) ?_
      refine lv_aload_n hx hb dX1_addBelow_67 rfl (lv_at hl 3 rfl) ?_
      refine va_get (D := D) (ci := 3) (v := .ref ay) (C := RX1) (T := TX1) (N := 3) hx hb hts (by decide +kernel) hown hK hP 0 rfl rfl 1 (by decide) (hts (.fieldLink RX1 13 "LandDeeds$Outline" "ys" "[I") (by decide +kernel)) (fun _ h9 => h9) rfl dX1_addBelow_68 ?_
      refine lv_iload_n hx hb dX1_addBelow_71 rfl (lv_at hl 4 rfl) ?_
      refine u_iald hx hb hK hP 2 0 rfl rfl rfl ⟨by omega, by omega⟩ dX1_addBelow_72 ?_
      refine lv_imul hx hb dX1_addBelow_73 ?_
      refine lv_iload hx hb dX1_addBelow_74 (lv_at hl 2 rfl) ?_
      refine lv_imul hx hb dX1_addBelow_76 ?_
      refine lv_iload hx hb dX1_addBelow_77 (lv_at hl 0 rfl) ?_
      refine lv_iload hx hb dX1_addBelow_79 (lv_at hl 1 rfl) ?_
      refine lv_imul hx hb dX1_addBelow_81 ?_
      refine lv_iadd hx hb dX1_addBelow_82 ?_
      refine lv_imul hx hb dX1_addBelow_83 ?_
      refine lv_i2l hx hb dX1_addBelow_84 rfl ?_
      refine u_eql (show ((tm * (bR X fr to_ cl)) * (((2 * (Y fr)) * (bB X fr to_)) + (((Y to_) - (Y fr)) * (bR X fr to_ cl)))).toInt64 = lI (bU X Y fr to_ cl tm).toInt from i2l_t (bU X Y fr to_ cl tm)) ?_
      refine lv_iload hx hb dX1_addBelow_85 (lv_at hl 2 rfl) ?_
      refine lv_i2l hx hb dX1_addBelow_87 rfl ?_
      refine u_eql (show (bB X fr to_).toInt64 = lN (bB X fr to_).toInt.toNat from i2l_n (Int.le_of_lt hB9)) ?_
      have hPc := hP.sub (ws' := [(h1, .inr (5, [.long (lI qq.num), .long (lN qq.den)]))]) [3] rfl
      have hDc := hD.sub (ws' := [(h1, .inr (5, [.long (lI qq.num), .long (lN qq.den)]))]) [3] (by decide) rfl
      have hFc := va_free (wc := [(h1, .inr (5, [.long (lI qq.num), .long (lN qq.den)]))]) hD hS hA [3] rfl
      refine va_callv (va_runV (As := [.long (lI (bU X Y fr to_ cl tm).toInt), .long (lN (bB X fr to_).toInt.toNat)]) (rest := []) ⟨hx, hb, hml, hown, hts⟩ (c_X3_add l D cI cB cZ cP s.heap.size h1 qq.num ((bU X Y fr to_ cl tm).toInt) qq.den ((bB X fr to_).toInt.toNat) (qq.den_pos) (hb9.1) ((qB_fit hq hk8 hb9.2.1 hb9.2.2).2.1) ((qB_fit hq hk8 hb9.2.1 hb9.2.2).2.2)) (cwV 2 hts gX1_addBelow_X3_add rfl rfl rfl (by decide +kernel) ⟨Nat.le_of_ble_eq_true rfl, Nat.le_of_ble_eq_true rfl⟩) (pVQ (q0 := 0) hPc hDc hW0 EF.t rfl rfl) rfl rfl hl.1 rfl (lv_room (Nat.le_of_ble_eq_true rfl)) dX1_addBelow_88 ⟨Nat.le_of_ble_eq_true rfl, Nat.le_of_ble_eq_true rfl⟩) hS (fun q _ h => hFc q h) hFc (fun u t H1 locs ht hvm hw hB hz1 hk1 hS => ?_)
      obtain ⟨hP1, hD1⟩ := hB
      rw [ht] at hP1
      have hw_3 : True := hw
      obtain ⟨hP, hD⟩ := va_join (wr := [(h0, .inr (3, [.ref ax, .ref ay, .int (nI nn)])), (ax, .inl (cI, nn, .inl X)), (ay, .inl (cI, nn, .inl Y))]) (w1 := [(h1, .inr (5, [.long (lI (ratU qq.num qq.den ((bU X Y fr to_ cl tm).toInt) ((bB X fr to_).toInt.toNat))), .long (lN (ratL qq.num qq.den ((bU X Y fr to_ cl tm).toInt) ((bB X fr to_).toInt.toNat)))]))]) hP hD [3] [0, 1, 2] rfl rfl (by decide) (by decide) hk1 hFc hP1 hD1
      generalize H1 = H at hP hS ⊢
      have hP := hP.sub (ws' := [(h0, .inr (3, [.ref ax, .ref ay, .int (nI nn)])), (ax, .inl (cI, nn, .inl X)), (ay, .inl (cI, nn, .inl Y)), (h1, .inr (5, [.long (lI (ratU qq.num qq.den ((bU X Y fr to_ cl tm).toInt) ((bB X fr to_).toInt.toNat))), .long (lN (ratL qq.num qq.den ((bU X Y fr to_ cl tm).toInt) ((bB X fr to_).toInt.toNat)))]))]) [0, 1, 2, 3] rfl
      have hD := hD.sub (ws' := [(h0, .inr (3, [.ref ax, .ref ay, .int (nI nn)])), (ax, .inl (cI, nn, .inl X)), (ay, .inl (cI, nn, .inl Y)), (h1, .inr (5, [.long (lI (ratU qq.num qq.den ((bU X Y fr to_ cl tm).toInt) ((bB X fr to_).toInt.toNat))), .long (lN (ratL qq.num qq.den ((bU X Y fr to_ cl tm).toInt) ((bB X fr to_).toInt.toNat)))]))]) [0, 1, 2, 3] (by decide) rfl
      have hb1 : bT X Y fr to_ cl tm = mkRat (bU X Y fr to_ cl tm).toInt (bB X fr to_).toInt.toNat := cif_t ⟨hB9, hR9⟩
      rw [ratU_q qq _ hb9.1, ratL_q qq _ hb9.1, ← hb1] at hP hD
      rw [← hQ]
      have hP9 := hP
      have hD9 := hD
      exact W.vret hx hb hr (fun t ht hW => ⟨⟨(), rfl, trivial, by rw [ht]; exact hP9, hD9⟩, hS.F ht⟩) hS.2.2 dX1_addBelow_91

set_option maxHeartbeats 4000000 in
set_option maxRecDepth 100000 in
theorem c_X1_measureWest (l : Launch) (D : va_G) (cI cB cZ cP : ClassId) (sz : Nat) (h0 ax ay nn : Nat) (X Y : Nat → Int32) (h1 : Nat) (cl : Int32) (u0 w0 : Int64) (hn8 : nn ≤ 8) (hp : ∀ z, z < nn → isP (X z) (Y z)) (hc : b31 cl) : Met l yX1_measureWest wsX1_measureWest ({ frames := 3, cells := 0, slots := 0, locals := 84 } : Room) (va_Pc [.ref h0, .int cl, .ref h1] (fun U => U.heap.size = sz ∧ va_P D vwCl [(h0, .inr (3, [.ref ax, .ref ay, .int (nI nn)])), (ax, .inl (cI, nn, .inl X)), (ay, .inl (cI, nn, .inl Y)), (h1, .inr (5, [.long u0, .long w0]))] U.heap ∧ KW D cI cB cZ cP U ∧ va_D (fun _ => True) [(h0, .inr (3, [.ref ax, .ref ay, .int (nI nn)])), (ax, .inl (cI, nn, .inl X)), (ay, .inl (cI, nn, .inl Y)), (h1, .inr (5, [.long u0, .long w0]))] ∧ EF [(h0, .inr (3, [.ref ax, .ref ay, .int (nI nn)])), (ax, .inl (cI, nn, .inl X)), (ay, .inl (cI, nn, .inl Y)), (h1, .inr (5, [.long u0, .long w0]))] sz E0 U.heap)) (va_Qv (fun (_ : Unit) => True) (fun (_ : Unit) (t : State) => va_P D vwCl [(h0, .inr (3, [.ref ax, .ref ay, .int (nI nn)])), (ax, .inl (cI, nn, .inl X)), (ay, .inl (cI, nn, .inl Y)), (h1, .inr (5, [.long (lN (rsum (cT nn X Y cl) nn).num.natAbs), .long (lN (rsum (cT nn X Y cl) nn).den)]))] t.heap ∧ va_D (va_A [(h0, .inr (3, [.ref ax, .ref ay, .int (nI nn)])), (ax, .inl (cI, nn, .inl X)), (ay, .inl (cI, nn, .inl Y)), (h1, .inr (5, [.long u0, .long w0]))] sz) [(h0, .inr (3, [.ref ax, .ref ay, .int (nI nn)])), (ax, .inl (cI, nn, .inl X)), (ay, .inl (cI, nn, .inl Y)), (h1, .inr (5, [.long (lN (rsum (cT nn X Y cl) nn).num.natAbs), .long (lN (rsum (cT nn X Y cl) nn).den)]))]) (va_A [(h0, .inr (3, [.ref ax, .ref ay, .int (nI nn)])), (ax, .inl (cI, nn, .inl X)), (ay, .inl (cI, nn, .inl Y)), (h1, .inr (5, [.long u0, .long w0]))] sz)) 0 0 (va_A [(h0, .inr (3, [.ref ax, .ref ay, .int (nI nn)])), (ax, .inl (cI, nn, .inl X)), (ay, .inl (cI, nn, .inl Y)), (h1, .inr (5, [.long u0, .long w0]))] sz) := by
  refine Met.ofW (cc := cX1_measureWest) (maxL := 5) (ret := none) (by decide) rfl ?_
  intro p e s m args below meth c s₁ B hml hv
  obtain ⟨rfl, hsz, hP, hW0, hD0, hE⟩ := hv
  have hx := B.exec
  have hb := B.bytes
  have hr := B.returns
  have hts := atoms_spec (ws := wsX1_measureWest) B.pre
  have hown : s.vm.findClass RX1 = some m.cls := findClass_of_methodNamed B.named
  have hlocks := B.notSynchronized
  have hK := hW0.1
  subst hsz
  have hD := hD0.self (sz := s.heap.size)
  unfold EF at hE
  generalize hAe : va_A [(h0, .inr (3, [.ref ax, .ref ay, .int (nI nn)])), (ax, .inl (cI, nn, .inl X)), (ay, .inl (cI, nn, .inl Y)), (h1, .inr (5, [.long u0, .long w0]))] s.heap.size = A at hD hE ⊢
  have hA : ∀ q : Nat, s.heap.size ≤ q → A q := fun q h => by rw [← hAe]; exact Or.inr h
  have hS : va_S A s.heap s.heap [] := va_S.rf
  have hl := lv_entry ([.ref h0, .int cl, .ref h1]) (n := 5) (Nat.le_of_ble_eq_true rfl)
  rw [lg_entry_eq]
  generalize (lg_sl ([.ref h0, .int cl, .ref h1]) ++ List.replicate (5 - (lg_sl ([.ref h0, .int cl, .ref h1])).length) Slot.unset).toArray = ls at hl ⊢
  have hl : lv_has ls 5 [(0, .ref h0), (1, .int cl), (2, .ref h1)] := hl
  show W p l e ({ frames := 3, cells := 0, slots := 0, locals := 84 } : Room) s m ([.ref h0, .int cl, .ref h1] : List Value).toArray below meth c s.heap [] 0 0 _ (F0 m 0 ls [])
  refine u_genQ (fun Q hQ => ?_)
  refine lv_aload_n hx hb dX1_measureWest_0 rfl (lv_at hl 2 rfl) ?_
  have hPc := hP.sub (ws' := [(h1, .inr (5, [.long u0, .long w0]))]) [3] rfl
  have hDc := hD.sub (ws' := [(h1, .inr (5, [.long u0, .long w0]))]) [3] (by decide) rfl
  have hFc := va_free (wc := [(h1, .inr (5, [.long u0, .long w0]))]) hD hS hA [3] rfl
  refine va_callv (va_runV (As := []) (rest := []) ⟨hx, hb, hml, hown, hts⟩ (c_X3_clear l D cI cB cZ cP s.heap.size h1 u0 w0 ) (cwV 0 hts gX1_measureWest_X3_clear rfl rfl rfl (by decide +kernel) ⟨Nat.le_of_ble_eq_true rfl, Nat.le_of_ble_eq_true rfl⟩) (pVQ (q0 := 0) hPc hDc hW0 EF.t rfl rfl) rfl rfl hl.1 rfl (lv_room (Nat.le_of_ble_eq_true rfl)) dX1_measureWest_1 ⟨Nat.le_of_ble_eq_true rfl, Nat.le_of_ble_eq_true rfl⟩) hS (fun q _ h => hFc q h) hFc (fun u t H1 locs ht hvm hw hB hz1 hk1 hS => ?_)
  obtain ⟨hP1, hD1⟩ := hB
  rw [ht] at hP1
  have hw_1 : True := hw
  obtain ⟨hP, hD⟩ := va_join (wr := [(h0, .inr (3, [.ref ax, .ref ay, .int (nI nn)])), (ax, .inl (cI, nn, .inl X)), (ay, .inl (cI, nn, .inl Y))]) (w1 := [(h1, .inr (5, [.long 0, .long 1]))]) hP hD [3] [0, 1, 2] rfl rfl (by decide) (by decide) hk1 hFc hP1 hD1
  generalize H1 = H at hP hS ⊢
  have hP := hP.sub (ws' := [(h0, .inr (3, [.ref ax, .ref ay, .int (nI nn)])), (ax, .inl (cI, nn, .inl X)), (ay, .inl (cI, nn, .inl Y)), (h1, .inr (5, [.long 0, .long 1]))]) [0, 1, 2, 3] rfl
  have hD := hD.sub (ws' := [(h0, .inr (3, [.ref ax, .ref ay, .int (nI nn)])), (ax, .inl (cI, nn, .inl X)), (ay, .inl (cI, nn, .inl Y)), (h1, .inr (5, [.long 0, .long 1]))]) [0, 1, 2, 3] (by decide) rfl
  rw [show (0 : Int64) = lI (rsum (cT nn X Y cl) 0).num from rfl, show (1 : Int64) = lN (rsum (cT nn X Y cl) 0).den from rfl] at hP hD
  refine lv_iconst (v := 0) hx hb dX1_measureWest_4 (by decide) ?_
  refine lv_istore_n (lv' := [(3, .int 0), (0, .ref h0), (1, .int cl), (2, .ref h1)]) hx hb dX1_measureWest_5 rfl hl (by decide) rfl (fun ls hl => ?_)
  have LOOP_6 : ∀ (fu : Nat) (z : Nat) (hz : z ≤ nn) (hn : nn - z < fu) (H : Heap) (locs : List Loc) (hP : va_P D vwCl [(h0, .inr (3, [.ref ax, .ref ay, .int (nI nn)])), (ax, .inl (cI, nn, .inl X)), (ay, .inl (cI, nn, .inl Y)), (h1, .inr (5, [.long (lI (rsum (cT nn X Y cl) z).num), .long (lN (rsum (cT nn X Y cl) z).den)]))] H) (hD : va_D A [(h0, .inr (3, [.ref ax, .ref ay, .int (nI nn)])), (ax, .inl (cI, nn, .inl X)), (ay, .inl (cI, nn, .inl Y)), (h1, .inr (5, [.long (lI (rsum (cT nn X Y cl) z).num), .long (lN (rsum (cT nn X Y cl) z).den)]))]) (hS : va_S A s.heap H locs) (ls : Array Slot) (hl : lv_has ls 5 [(0, .ref h0), (1, .int cl), (2, .ref h1), (3, .int (nI z))]), W p l e ({ frames := 3, cells := 0, slots := 0, locals := 84 } : Room) s m ([.ref h0, .int cl, .ref h1] : List Value).toArray below meth c H locs 0 0 Q (F0 m 6 ls []) := by
    intro fu
    induction fu with
    | zero => intro z hz hn H locs hP hD hS ls hl; exact absurd hn (Nat.not_lt_zero _)
    | succ fu ih_6 =>
      intro z hz hn H locs hP hD hS ls hl
      refine lv_iload_n hx hb dX1_measureWest_6 rfl (lv_at hl 3 rfl) ?_
      refine lv_aload_n hx hb dX1_measureWest_7 rfl (lv_at hl 0 rfl) ?_
      refine va_get (D := D) (ci := 3) (v := .int (nI nn)) (C := RX1) (T := TX1) (N := 3) hx hb hts (by decide +kernel) hown hK hP 0 rfl rfl 2 (by decide) (hts (.fieldLink RX1 22 "LandDeeds$Outline" "corners" "I") (by decide +kernel)) (fun _ h9 => h9) rfl dX1_measureWest_8 ?_
      refine lv_icmp_ge (tgt := 66) hx hb dX1_measureWest_11 (by decide) (fun c_2 => ?_) (fun c_2 => ?_)
      · skip
        have nc_2 : nn ≤ z := (nI_leI (a := nn) (b := z) (by omega) (by omega)).mp c_2
        obtain rfl : nn = z := by omega
        refine lv_aload_n hx hb dX1_measureWest_66 rfl (lv_at hl 2 rfl) ?_
        have hPc := hP.sub (ws' := [(h1, .inr (5, [.long (lI (rsum (cT nn X Y cl) nn).num), .long (lN (rsum (cT nn X Y cl) nn).den)]))]) [3] rfl
        have hDc := hD.sub (ws' := [(h1, .inr (5, [.long (lI (rsum (cT nn X Y cl) nn).num), .long (lN (rsum (cT nn X Y cl) nn).den)]))]) [3] (by decide) rfl
        have hFc := va_free (wc := [(h1, .inr (5, [.long (lI (rsum (cT nn X Y cl) nn).num), .long (lN (rsum (cT nn X Y cl) nn).den)]))]) hD hS hA [3] rfl
        refine va_callv (va_runV (As := []) (rest := []) ⟨hx, hb, hml, hown, hts⟩ (c_X3_dropSign l D cI cB cZ cP H.size h1 (lI (rsum (cT nn X Y cl) nn).num) (lN (rsum (cT nn X Y cl) nn).den) ) (cwV 0 hts gX1_measureWest_X3_dropSign rfl rfl rfl (by decide +kernel) ⟨Nat.le_of_ble_eq_true rfl, Nat.le_of_ble_eq_true rfl⟩) (pVQ (q0 := 0) hPc hDc hW0 EF.t rfl rfl) rfl rfl hl.1 rfl (lv_room (Nat.le_of_ble_eq_true rfl)) dX1_measureWest_67 ⟨Nat.le_of_ble_eq_true rfl, Nat.le_of_ble_eq_true rfl⟩) hS (fun q _ h => hFc q h) hFc (fun u t H1 locs ht hvm hw hB hz1 hk1 hS => ?_)
        obtain ⟨hP1, hD1⟩ := hB
        rw [ht] at hP1
        have hw_3 : True := hw
        obtain ⟨hP, hD⟩ := va_join (wr := [(h0, .inr (3, [.ref ax, .ref ay, .int (nI nn)])), (ax, .inl (cI, nn, .inl X)), (ay, .inl (cI, nn, .inl Y))]) (w1 := [(h1, .inr (5, [.long (abL (lI (rsum (cT nn X Y cl) nn).num)), .long (lN (rsum (cT nn X Y cl) nn).den)]))]) hP hD [3] [0, 1, 2] rfl rfl (by decide) (by decide) hk1 hFc hP1 hD1
        generalize H1 = H at hP hS ⊢
        have hP := hP.sub (ws' := [(h0, .inr (3, [.ref ax, .ref ay, .int (nI nn)])), (ax, .inl (cI, nn, .inl X)), (ay, .inl (cI, nn, .inl Y)), (h1, .inr (5, [.long (abL (lI (rsum (cT nn X Y cl) nn).num)), .long (lN (rsum (cT nn X Y cl) nn).den)]))]) [0, 1, 2, 3] rfl
        have hD := hD.sub (ws' := [(h0, .inr (3, [.ref ax, .ref ay, .int (nI nn)])), (ax, .inl (cI, nn, .inl X)), (ay, .inl (cI, nn, .inl Y)), (h1, .inr (5, [.long (abL (lI (rsum (cT nn X Y cl) nn).num)), .long (lN (rsum (cT nn X Y cl) nn).den)]))]) [0, 1, 2, 3] (by decide) rfl
        rw [abL_t (qB_abs (qB_cT hn8 hp hc nn (Nat.le_refl _)) hn8)] at hP hD
        rw [← hQ]
        have hP9 := hP
        have hD9 := hD
        exact W.vret hx hb hr (fun t ht hW => ⟨⟨(), rfl, trivial, by rw [ht]; exact hP9, hD9⟩, hS.F ht⟩) hS.2.2 dX1_measureWest_70
      · skip
        have nc_2 : ¬ (nn ≤ z) := fun h => c_2 ((nI_leI (a := nn) (b := z) (by omega) (by omega)).mpr h)
        have hz8 : z < nn := by omega
        have hnx := nxt_lt hz8
        refine lv_aload_n hx hb dX1_measureWest_14 rfl (lv_at hl 0 rfl) ?_
        refine lv_iload_n hx hb dX1_measureWest_15 rfl (lv_at hl 3 rfl) ?_
        have hPc := hP.sub (ws' := [(h0, .inr (3, [.ref ax, .ref ay, .int (nI nn)]))]) [0] rfl
        refine u_callSi (W.runV (As := [.int (nI z)]) (rest := []) ⟨hx, hb, hml, hown, hts⟩ (c_X1_next l D cI cB cZ cP h0 ax ay nn z (by first | assumption | omega) (by first | assumption | omega)) (cwV 1 hts gX1_measureWest_X1_next rfl rfl rfl (by decide +kernel) ⟨Nat.le_of_ble_eq_true rfl, Nat.le_of_ble_eq_true rfl⟩) (pV (q0 := 0) hPc hW0 trivial rfl rfl) rfl rfl hl.1 rfl (lv_room (Nat.le_of_ble_eq_true rfl)) dX1_measureWest_16 ⟨Nat.le_of_ble_eq_true rfl, Nat.le_of_ble_eq_true rfl⟩) ?_
        refine lv_istore (lv' := [(4, .int (nI (nxt nn z))), (0, .ref h0), (1, .int cl), (2, .ref h1), (3, .int (nI z))]) hx hb dX1_measureWest_19 hl (by decide) rfl (fun ls hl => ?_)
        refine lv_aload_n hx hb dX1_measureWest_21 rfl (lv_at hl 1 rfl) ?_
        refine va_get (D := D) (ci := 3) (v := .ref ax) (C := RX1) (T := TX1) (N := 3) hx hb hts (by decide +kernel) hown hK hP 0 rfl rfl 0 (by decide) (hts (.fieldLink RX1 7 "LandDeeds$Outline" "xs" "[I") (by decide +kernel)) (fun _ h9 => h9) rfl dX1_measureWest_22 ?_
        refine lv_iload_n hx hb dX1_measureWest_25 rfl (lv_at hl 4 rfl) ?_
        refine u_iald hx hb hK hP 1 0 rfl rfl rfl ⟨by omega, by omega⟩ dX1_measureWest_26 ?_
        refine lv_aload_n hx hb dX1_measureWest_27 rfl (lv_at hl 1 rfl) ?_
        refine va_get (D := D) (ci := 3) (v := .ref ax) (C := RX1) (T := TX1) (N := 3) hx hb hts (by decide +kernel) hown hK hP 0 rfl rfl 0 (by decide) (hts (.fieldLink RX1 7 "LandDeeds$Outline" "xs" "[I") (by decide +kernel)) (fun _ h9 => h9) rfl dX1_measureWest_28 ?_
        refine lv_iload hx hb dX1_measureWest_31 (lv_at hl 0 rfl) ?_
        refine u_iald hx hb hK hP 1 0 rfl rfl rfl ⟨by omega, by omega⟩ dX1_measureWest_33 ?_
        refine lv_icmp_ge (tgt := 50) hx hb dX1_measureWest_34 (by decide) (fun c_4 => ?_) (fun c_4 => ?_)
        · skip
          have q34 : X (nxt nn z) ≤ X z := c_4
          refine lv_aload_n hx hb dX1_measureWest_50 rfl (lv_at hl 1 rfl) ?_
          refine lv_iload hx hb dX1_measureWest_51 (lv_at hl 0 rfl) ?_
          refine lv_iload_n hx hb dX1_measureWest_53 rfl (lv_at hl 4 rfl) ?_
          refine lv_iload_n hx hb dX1_measureWest_54 rfl (lv_at hl 2 rfl) ?_
          refine lv_aload_n hx hb dX1_measureWest_55 rfl (lv_at hl 3 rfl) ?_
          refine lv_iconst (v := (-1)) hx hb dX1_measureWest_56 (by decide) ?_
          have hPc := hP.sub (ws' := [(h0, .inr (3, [.ref ax, .ref ay, .int (nI nn)])), (ax, .inl (cI, nn, .inl X)), (ay, .inl (cI, nn, .inl Y)), (h1, .inr (5, [.long (lI (rsum (cT nn X Y cl) z).num), .long (lN (rsum (cT nn X Y cl) z).den)]))]) [0, 1, 2, 3] rfl
          have hDc := hD.sub (ws' := [(h0, .inr (3, [.ref ax, .ref ay, .int (nI nn)])), (ax, .inl (cI, nn, .inl X)), (ay, .inl (cI, nn, .inl Y)), (h1, .inr (5, [.long (lI (rsum (cT nn X Y cl) z).num), .long (lN (rsum (cT nn X Y cl) z).den)]))]) [0, 1, 2, 3] (by decide) rfl
          have hFc := va_free (wc := [(h0, .inr (3, [.ref ax, .ref ay, .int (nI nn)])), (ax, .inl (cI, nn, .inl X)), (ay, .inl (cI, nn, .inl Y)), (h1, .inr (5, [.long (lI (rsum (cT nn X Y cl) z).num), .long (lN (rsum (cT nn X Y cl) z).den)]))]) hD hS hA [0, 1, 2, 3] rfl
          refine va_callv (va_runV (As := [.int (nI (nxt nn z)), .int (nI z), .int cl, .ref h1, .int (-1)]) (rest := []) ⟨hx, hb, hml, hown, hts⟩ (c_X1_addBelow l D cI cB cZ cP H.size h0 ax ay nn X Y h1 (nxt nn z) z z cl (-1) (rsum (cT nn X Y cl) z) (by first | assumption | omega) (hnx) (hz8) (hp _ hnx) (hp _ hz8) (by first | assumption | omega) (Or.inr rfl) (qB_cT hn8 hp hc z (by omega)) (by omega)) (cwV 5 hts gX1_measureWest_X1_addBelow rfl rfl rfl (by decide +kernel) ⟨Nat.le_of_ble_eq_true rfl, Nat.le_of_ble_eq_true rfl⟩) (pVQ (q0 := 0) hPc hDc hW0 EF.t rfl rfl) rfl rfl hl.1 rfl (lv_room (Nat.le_of_ble_eq_true rfl)) dX1_measureWest_57 ⟨Nat.le_of_ble_eq_true rfl, Nat.le_of_ble_eq_true rfl⟩) hS (fun q _ h => hFc q h) hFc (fun u t H1 locs ht hvm hw hB hz1 hk1 hS => ?_)
          obtain ⟨hP1, hD1⟩ := hB
          rw [ht] at hP1
          have hw_5 : True := hw
          obtain ⟨hP, hD⟩ := va_join (wr := []) (w1 := [(h0, .inr (3, [.ref ax, .ref ay, .int (nI nn)])), (ax, .inl (cI, nn, .inl X)), (ay, .inl (cI, nn, .inl Y)), (h1, .inr (5, [.long (lI ((rsum (cT nn X Y cl) z) + bT X Y (nxt nn z) z cl (-1)).num), .long (lN ((rsum (cT nn X Y cl) z) + bT X Y (nxt nn z) z cl (-1)).den)]))]) hP hD [0, 1, 2, 3] [] rfl rfl (by decide) (by decide) hk1 hFc hP1 hD1
          generalize H1 = H at hP hS ⊢
          have hP := hP.sub (ws' := [(h0, .inr (3, [.ref ax, .ref ay, .int (nI nn)])), (ax, .inl (cI, nn, .inl X)), (ay, .inl (cI, nn, .inl Y)), (h1, .inr (5, [.long (lI ((rsum (cT nn X Y cl) z) + bT X Y (nxt nn z) z cl (-1)).num), .long (lN ((rsum (cT nn X Y cl) z) + bT X Y (nxt nn z) z cl (-1)).den)]))]) [0, 1, 2, 3] rfl
          have hD := hD.sub (ws' := [(h0, .inr (3, [.ref ax, .ref ay, .int (nI nn)])), (ax, .inl (cI, nn, .inl X)), (ay, .inl (cI, nn, .inl Y)), (h1, .inr (5, [.long (lI ((rsum (cT nn X Y cl) z) + bT X Y (nxt nn z) z cl (-1)).num), .long (lN ((rsum (cT nn X Y cl) z) + bT X Y (nxt nn z) z cl (-1)).den)]))]) [0, 1, 2, 3] (by decide) rfl
          rw [show rsum (cT nn X Y cl) z + bT X Y (nxt nn z) z cl (-1) = rsum (cT nn X Y cl) (z + 1) from by show _ = _ + cT nn X Y cl z; rw [show cT nn X Y cl z = _ from cif_t q34]] at hP hD
          refine lv_iinc (v := nI (z + 1)) (lv' := [(3, .int (nI (z + 1))), (4, .int (nI (nxt nn z))), (0, .ref h0), (1, .int cl), (2, .ref h1)]) hx hb dX1_measureWest_60 hl (k := 4) rfl (nI_1 _) (by decide) rfl (fun ls hl => ?_)
          refine lv_goto (tgt := 6) hx hb dX1_measureWest_63 (by decide) ?_
          exact ih_6 (z + 1) (by omega) (by omega) _ _ hP hD hS ls (lv_sub hl [2, 3, 4, 0] rfl)
        · skip
          have q34 : ¬ X (nxt nn z) ≤ X z := c_4
          refine lv_aload_n hx hb dX1_measureWest_37 rfl (lv_at hl 1 rfl) ?_
          refine lv_iload_n hx hb dX1_measureWest_38 rfl (lv_at hl 4 rfl) ?_
          refine lv_iload hx hb dX1_measureWest_39 (lv_at hl 0 rfl) ?_
          refine lv_iload_n hx hb dX1_measureWest_41 rfl (lv_at hl 2 rfl) ?_
          refine lv_aload_n hx hb dX1_measureWest_42 rfl (lv_at hl 3 rfl) ?_
          refine lv_iconst (v := 1) hx hb dX1_measureWest_43 (by decide) ?_
          have hPc := hP.sub (ws' := [(h0, .inr (3, [.ref ax, .ref ay, .int (nI nn)])), (ax, .inl (cI, nn, .inl X)), (ay, .inl (cI, nn, .inl Y)), (h1, .inr (5, [.long (lI (rsum (cT nn X Y cl) z).num), .long (lN (rsum (cT nn X Y cl) z).den)]))]) [0, 1, 2, 3] rfl
          have hDc := hD.sub (ws' := [(h0, .inr (3, [.ref ax, .ref ay, .int (nI nn)])), (ax, .inl (cI, nn, .inl X)), (ay, .inl (cI, nn, .inl Y)), (h1, .inr (5, [.long (lI (rsum (cT nn X Y cl) z).num), .long (lN (rsum (cT nn X Y cl) z).den)]))]) [0, 1, 2, 3] (by decide) rfl
          have hFc := va_free (wc := [(h0, .inr (3, [.ref ax, .ref ay, .int (nI nn)])), (ax, .inl (cI, nn, .inl X)), (ay, .inl (cI, nn, .inl Y)), (h1, .inr (5, [.long (lI (rsum (cT nn X Y cl) z).num), .long (lN (rsum (cT nn X Y cl) z).den)]))]) hD hS hA [0, 1, 2, 3] rfl
          refine va_callv (va_runV (As := [.int (nI z), .int (nI (nxt nn z)), .int cl, .ref h1, .int 1]) (rest := []) ⟨hx, hb, hml, hown, hts⟩ (c_X1_addBelow l D cI cB cZ cP H.size h0 ax ay nn X Y h1 z (nxt nn z) z cl 1 (rsum (cT nn X Y cl) z) (by first | assumption | omega) (hz8) (hnx) (hp _ hz8) (hp _ hnx) (by first | assumption | omega) (Or.inl rfl) (qB_cT hn8 hp hc z (by omega)) (by omega)) (cwV 5 hts gX1_measureWest_X1_addBelow rfl rfl rfl (by decide +kernel) ⟨Nat.le_of_ble_eq_true rfl, Nat.le_of_ble_eq_true rfl⟩) (pVQ (q0 := 0) hPc hDc hW0 EF.t rfl rfl) rfl rfl hl.1 rfl (lv_room (Nat.le_of_ble_eq_true rfl)) dX1_measureWest_44 ⟨Nat.le_of_ble_eq_true rfl, Nat.le_of_ble_eq_true rfl⟩) hS (fun q _ h => hFc q h) hFc (fun u t H1 locs ht hvm hw hB hz1 hk1 hS => ?_)
          obtain ⟨hP1, hD1⟩ := hB
          rw [ht] at hP1
          have hw_6 : True := hw
          obtain ⟨hP, hD⟩ := va_join (wr := []) (w1 := [(h0, .inr (3, [.ref ax, .ref ay, .int (nI nn)])), (ax, .inl (cI, nn, .inl X)), (ay, .inl (cI, nn, .inl Y)), (h1, .inr (5, [.long (lI ((rsum (cT nn X Y cl) z) + bT X Y z (nxt nn z) cl 1).num), .long (lN ((rsum (cT nn X Y cl) z) + bT X Y z (nxt nn z) cl 1).den)]))]) hP hD [0, 1, 2, 3] [] rfl rfl (by decide) (by decide) hk1 hFc hP1 hD1
          generalize H1 = H at hP hS ⊢
          have hP := hP.sub (ws' := [(h0, .inr (3, [.ref ax, .ref ay, .int (nI nn)])), (ax, .inl (cI, nn, .inl X)), (ay, .inl (cI, nn, .inl Y)), (h1, .inr (5, [.long (lI ((rsum (cT nn X Y cl) z) + bT X Y z (nxt nn z) cl 1).num), .long (lN ((rsum (cT nn X Y cl) z) + bT X Y z (nxt nn z) cl 1).den)]))]) [0, 1, 2, 3] rfl
          have hD := hD.sub (ws' := [(h0, .inr (3, [.ref ax, .ref ay, .int (nI nn)])), (ax, .inl (cI, nn, .inl X)), (ay, .inl (cI, nn, .inl Y)), (h1, .inr (5, [.long (lI ((rsum (cT nn X Y cl) z) + bT X Y z (nxt nn z) cl 1).num), .long (lN ((rsum (cT nn X Y cl) z) + bT X Y z (nxt nn z) cl 1).den)]))]) [0, 1, 2, 3] (by decide) rfl
          rw [show rsum (cT nn X Y cl) z + bT X Y z (nxt nn z) cl 1 = rsum (cT nn X Y cl) (z + 1) from by show _ = _ + cT nn X Y cl z; rw [show cT nn X Y cl z = _ from cif_f q34]] at hP hD
          refine lv_goto (tgt := 60) hx hb dX1_measureWest_47 (by decide) ?_
          refine lv_iinc (v := nI (z + 1)) (lv' := [(3, .int (nI (z + 1))), (4, .int (nI (nxt nn z))), (0, .ref h0), (1, .int cl), (2, .ref h1)]) hx hb dX1_measureWest_60 hl (k := 4) rfl (nI_1 _) (by decide) rfl (fun ls hl => ?_)
          refine lv_goto (tgt := 6) hx hb dX1_measureWest_63 (by decide) ?_
          exact ih_6 (z + 1) (by omega) (by omega) _ _ hP hD hS ls (lv_sub hl [2, 3, 4, 0] rfl)
  exact LOOP_6 (nn - 0 + 1) 0 (Nat.zero_le _) (Nat.lt_succ_self _) _ _ hP hD hS ls (lv_sub hl [1, 2, 3, 0] rfl)

set_option maxHeartbeats 4000000 in
set_option maxRecDepth 100000 in
theorem c_X1_init (l : Launch) (D : va_G) (cI cB cZ cP : ClassId) (sz : Nat) (h0 ax ay nn : Nat) (X Y : Nat → Int32) (hn8 : nn ≤ 8) : Met l yX1_init wsX1_init ({ frames := 1, cells := 0, slots := 0, locals := 14 } : Room) (va_Pc [.ref h0, .ref ax, .ref ay] (fun U => U.heap.size = sz ∧ va_P D vwCl [(h0, .inr (3, [.null, .null, .int 0])), (ax, .inl (cI, nn, .inl X)), (ay, .inl (cI, nn, .inl Y))] U.heap ∧ KW D cI cB cZ cP U ∧ va_D (fun _ => True) [(h0, .inr (3, [.null, .null, .int 0])), (ax, .inl (cI, nn, .inl X)), (ay, .inl (cI, nn, .inl Y))] ∧ EF [(h0, .inr (3, [.null, .null, .int 0])), (ax, .inl (cI, nn, .inl X)), (ay, .inl (cI, nn, .inl Y))] sz E0 U.heap)) (va_Qv (fun (_ : Unit) => True) (fun (_ : Unit) (t : State) => va_P D vwCl [(h0, .inr (3, [.ref ax, .ref ay, .int (nI nn)])), (ax, .inl (cI, nn, .inl X)), (ay, .inl (cI, nn, .inl Y))] t.heap ∧ va_D (va_A [(h0, .inr (3, [.null, .null, .int 0])), (ax, .inl (cI, nn, .inl X)), (ay, .inl (cI, nn, .inl Y))] sz) [(h0, .inr (3, [.ref ax, .ref ay, .int (nI nn)])), (ax, .inl (cI, nn, .inl X)), (ay, .inl (cI, nn, .inl Y))]) (va_A [(h0, .inr (3, [.null, .null, .int 0])), (ax, .inl (cI, nn, .inl X)), (ay, .inl (cI, nn, .inl Y))] sz)) 0 0 (va_A [(h0, .inr (3, [.null, .null, .int 0])), (ax, .inl (cI, nn, .inl X)), (ay, .inl (cI, nn, .inl Y))] sz) := by
  refine Met.ofW (cc := cX1_init) (maxL := 3) (ret := none) (by decide) rfl ?_
  intro p e s m args below meth c s₁ B hml hv
  obtain ⟨rfl, hsz, hP, hW0, hD0, hE⟩ := hv
  have hx := B.exec
  have hb := B.bytes
  have hr := B.returns
  have hts := atoms_spec (ws := wsX1_init) B.pre
  have hown : s.vm.findClass RX1 = some m.cls := findClass_of_methodNamed B.named
  have hlocks := B.notSynchronized
  have hK := hW0.1
  have hin : meth.name = "<init>" := (name_of_methodNamed B.named B.method).1
  subst hsz
  have hD := hD0.self (sz := s.heap.size)
  unfold EF at hE
  generalize hAe : va_A [(h0, .inr (3, [.null, .null, .int 0])), (ax, .inl (cI, nn, .inl X)), (ay, .inl (cI, nn, .inl Y))] s.heap.size = A at hD hE ⊢
  have hA : ∀ q : Nat, s.heap.size ≤ q → A q := fun q h => by rw [← hAe]; exact Or.inr h
  have hS : va_S A s.heap s.heap [] := va_S.rf
  have hl := lv_entry ([.ref h0, .ref ax, .ref ay]) (n := 3) (Nat.le_of_ble_eq_true rfl)
  rw [lg_entry_eq]
  generalize (lg_sl ([.ref h0, .ref ax, .ref ay]) ++ List.replicate (3 - (lg_sl ([.ref h0, .ref ax, .ref ay])).length) Slot.unset).toArray = ls at hl ⊢
  have hl : lv_has ls 3 [(0, .ref h0), (1, .ref ax), (2, .ref ay)] := hl
  show W p l e ({ frames := 1, cells := 0, slots := 0, locals := 14 } : Room) s m ([.ref h0, .ref ax, .ref ay] : List Value).toArray below meth c s.heap [] 0 0 _ (F0 m 0 ls [])
  refine u_genQ (fun Q hQ => ?_)
  refine lv_aload_n hx hb dX1_init_0 rfl (lv_at hl 0 rfl) ?_
  refine W.objInit hx hb hown (hts (.methodLink RX1 1 objectInit) (by decide +kernel)) (hts (.instanceMethod objectInit) (by decide +kernel)) (hts (.code objectInit ⟨#[0xb1]⟩ 1 none) (by decide +kernel)) rfl (by rw [hml]; exact hl.1) rfl dX1_init_1 (Nat.le_of_ble_eq_true rfl) (Nat.le_of_ble_eq_true rfl) ?_
  refine W.eq (g2 := F0 m 4 ls []) rfl ?_
  refine lv_aload_n hx hb dX1_init_4 rfl (lv_at hl 0 rfl) ?_
  refine lv_aload_n hx hb dX1_init_5 rfl (lv_at hl 1 rfl) ?_
  refine va_putF (D := D) (ci := 3) (v := .ref ax) (ty := .array .int) (C := RX1) (T := TX1) (N := 3) hx hb hts (by decide +kernel) tyX1 tyX1_ok nmX1 hown hK hP hD hS 0 rfl rfl 0 (by decide) (hts (.fieldLink RX1 7 "LandDeeds$Outline" "xs" "[I") (by decide +kernel)) (fun _ h9 => h9) rfl hin rfl (by decide +kernel) rfl rfl (Nat.le_of_ble_eq_true rfl) dX1_init_6 (fun H locs hP hD hS => ?_)
  have hP : va_P D vwCl [(h0, .inr (3, [.ref ax, .null, .int 0])), (ax, .inl (cI, nn, .inl X)), (ay, .inl (cI, nn, .inl Y))] H := hP
  have hD : va_D A [(h0, .inr (3, [.ref ax, .null, .int 0])), (ax, .inl (cI, nn, .inl X)), (ay, .inl (cI, nn, .inl Y))] := hD
  refine lv_aload_n hx hb dX1_init_9 rfl (lv_at hl 0 rfl) ?_
  refine lv_aload_n hx hb dX1_init_10 rfl (lv_at hl 2 rfl) ?_
  refine va_putF (D := D) (ci := 3) (v := .ref ay) (ty := .array .int) (C := RX1) (T := TX1) (N := 3) hx hb hts (by decide +kernel) tyX1 tyX1_ok nmX1 hown hK hP hD hS 0 rfl rfl 1 (by decide) (hts (.fieldLink RX1 13 "LandDeeds$Outline" "ys" "[I") (by decide +kernel)) (fun _ h9 => h9) rfl hin rfl (by decide +kernel) rfl rfl (Nat.le_of_ble_eq_true rfl) dX1_init_11 (fun H locs hP hD hS => ?_)
  have hP : va_P D vwCl [(h0, .inr (3, [.ref ax, .ref ay, .int 0])), (ax, .inl (cI, nn, .inl X)), (ay, .inl (cI, nn, .inl Y))] H := hP
  have hD : va_D A [(h0, .inr (3, [.ref ax, .ref ay, .int 0])), (ax, .inl (cI, nn, .inl X)), (ay, .inl (cI, nn, .inl Y))] := hD
  refine lv_aload_n hx hb dX1_init_14 rfl (lv_at hl 0 rfl) ?_
  refine lv_aload_n hx hb dX1_init_15 rfl (lv_at hl 1 rfl) ?_
  refine va_alen (v := nI nn) hx hb hK hP 1 0 rfl rfl rfl dX1_init_16 ?_
  refine lv_aload_n hx hb dX1_init_17 rfl (lv_at hl 2 rfl) ?_
  refine va_alen (v := nI nn) hx hb hK hP 2 0 rfl rfl rfl dX1_init_18 ?_
  refine va_mmin hx hb (by rw [hml]; exact hl.1.symm) hown (hts (.methodLink RX1 16 Lib.Math.min.name) (by decide +kernel)) (hts (.static Lib.Math.min.name) (by decide +kernel)) (hts (.initialized "java/lang/Math") (by decide +kernel)) (hts (.code Lib.Math.min.name Lib.Math.min.code 2 (some .int)) (by decide +kernel)) (Nat.le_of_ble_eq_true rfl) (Nat.le_of_ble_eq_true rfl) (Nat.zero_le _) (Nat.zero_le _) dX1_init_19 ?_
  refine u_eqi (show mn (nI nn) (nI nn) = nI nn from by unfold mn; rw [if_neg (Int32.lt_irrefl)]) ?_
  refine va_putF (D := D) (ci := 3) (v := .int (nI nn)) (ty := .int) (C := RX1) (T := TX1) (N := 3) hx hb hts (by decide +kernel) tyX1 tyX1_ok nmX1 hown hK hP hD hS 0 rfl rfl 2 (by decide) (hts (.fieldLink RX1 22 "LandDeeds$Outline" "corners" "I") (by decide +kernel)) (fun _ h9 => h9) rfl hin rfl (by decide +kernel) rfl rfl (Nat.le_of_ble_eq_true rfl) dX1_init_22 (fun H locs hP hD hS => ?_)
  have hP : va_P D vwCl [(h0, .inr (3, [.ref ax, .ref ay, .int (nI nn)])), (ax, .inl (cI, nn, .inl X)), (ay, .inl (cI, nn, .inl Y))] H := hP
  have hD : va_D A [(h0, .inr (3, [.ref ax, .ref ay, .int (nI nn)])), (ax, .inl (cI, nn, .inl X)), (ay, .inl (cI, nn, .inl Y))] := hD
  rw [← hQ]
  have hP9 := hP
  have hD9 := hD
  exact W.vret hx hb hr (fun t ht hW => ⟨⟨(), rfl, trivial, by rw [ht]; exact hP9, hD9⟩, hS.F ht⟩) hS.2.2 dX1_init_25

set_option maxHeartbeats 4000000 in
set_option maxRecDepth 100000 in
theorem c_X5_find (l : Launch) (D : va_G) (cI cB cZ cP : ClassId) (sz : Nat) (h0 ao af no : Nat) (ps gg gm fx fy : Int32) (O T : Nat → Int32) (x y : Int32) (hno : isP x y → bt O (at_ x y) → no < 1024) (hno2 : no ≤ 1024) : Met l yX5_find wsX5_find ({ frames := 2, cells := 0, slots := 0, locals := 41 } : Room) (va_Pc [.ref h0, .int x, .int y] (fun U => U.heap.size = sz ∧ va_P D vwCl [(h0, .inr (7, [.ref ao, .ref af, .int (nI no), .int ps, .int gg, .int gm, .int fx, .int fy])), (ao, .inl (cI, 32, .inl O)), (af, .inl (cI, 1024, .inl T))] U.heap ∧ KW D cI cB cZ cP U ∧ va_D (fun _ => True) [(h0, .inr (7, [.ref ao, .ref af, .int (nI no), .int ps, .int gg, .int gm, .int fx, .int fy])), (ao, .inl (cI, 32, .inl O)), (af, .inl (cI, 1024, .inl T))] ∧ EF [(h0, .inr (7, [.ref ao, .ref af, .int (nI no), .int ps, .int gg, .int gm, .int fx, .int fy])), (ao, .inl (cI, 32, .inl O)), (af, .inl (cI, 1024, .inl T))] sz E0 U.heap)) (va_Qv (fun (u : Nat × (Nat → Int32) × (Nat → Int32)) => match u with | (n1, O1, T1) => FD x y O T O1 T1 no n1) (fun (u : Nat × (Nat → Int32) × (Nat → Int32)) (t : State) => match u with | (n1, O1, T1) => va_P D vwCl [(h0, .inr (7, [.ref ao, .ref af, .int (nI n1), .int ps, .int gg, .int gm, .int fx, .int fy])), (ao, .inl (cI, 32, .inl O1)), (af, .inl (cI, 1024, .inl T1))] t.heap ∧ va_D (va_A [(h0, .inr (7, [.ref ao, .ref af, .int (nI no), .int ps, .int gg, .int gm, .int fx, .int fy])), (ao, .inl (cI, 32, .inl O)), (af, .inl (cI, 1024, .inl T))] sz) [(h0, .inr (7, [.ref ao, .ref af, .int (nI n1), .int ps, .int gg, .int gm, .int fx, .int fy])), (ao, .inl (cI, 32, .inl O1)), (af, .inl (cI, 1024, .inl T1))]) (va_A [(h0, .inr (7, [.ref ao, .ref af, .int (nI no), .int ps, .int gg, .int gm, .int fx, .int fy])), (ao, .inl (cI, 32, .inl O)), (af, .inl (cI, 1024, .inl T))] sz)) 0 0 (va_A [(h0, .inr (7, [.ref ao, .ref af, .int (nI no), .int ps, .int gg, .int gm, .int fx, .int fy])), (ao, .inl (cI, 32, .inl O)), (af, .inl (cI, 1024, .inl T))] sz) := by
  refine Met.ofW (cc := cX5_find) (maxL := 3) (ret := none) (by decide) rfl ?_
  intro p e s m args below meth c s₁ B hml hv
  obtain ⟨rfl, hsz, hP, hW0, hD0, hE⟩ := hv
  have hx := B.exec
  have hb := B.bytes
  have hr := B.returns
  have hts := atoms_spec (ws := wsX5_find) B.pre
  have hown : s.vm.findClass RX5 = some m.cls := findClass_of_methodNamed B.named
  have hlocks := B.notSynchronized
  have hK := hW0.1
  subst hsz
  have hD := hD0.self (sz := s.heap.size)
  unfold EF at hE
  generalize hAe : va_A [(h0, .inr (7, [.ref ao, .ref af, .int (nI no), .int ps, .int gg, .int gm, .int fx, .int fy])), (ao, .inl (cI, 32, .inl O)), (af, .inl (cI, 1024, .inl T))] s.heap.size = A at hD hE ⊢
  have hA : ∀ q : Nat, s.heap.size ≤ q → A q := fun q h => by rw [← hAe]; exact Or.inr h
  have hS : va_S A s.heap s.heap [] := va_S.rf
  have hl := lv_entry ([.ref h0, .int x, .int y]) (n := 3) (Nat.le_of_ble_eq_true rfl)
  rw [lg_entry_eq]
  generalize (lg_sl ([.ref h0, .int x, .int y]) ++ List.replicate (3 - (lg_sl ([.ref h0, .int x, .int y])).length) Slot.unset).toArray = ls at hl ⊢
  have hl : lv_has ls 3 [(0, .ref h0), (1, .int x), (2, .int y)] := hl
  show W p l e ({ frames := 2, cells := 0, slots := 0, locals := 41 } : Room) s m ([.ref h0, .int x, .int y] : List Value).toArray below meth c s.heap [] 0 0 _ (F0 m 0 ls [])
  refine u_genQ (fun Q hQ => ?_)
  refine lv_iload_n hx hb dX5_find_0 rfl (lv_at hl 1 rfl) ?_
  refine lv_iload_n hx hb dX5_find_1 rfl (lv_at hl 2 rfl) ?_
  have hPc := hP.sub (ws' := []) [] rfl
  refine u_callSi (va_runSN (As := [.int x, .int y]) (rest := []) ⟨hx, hb, hml, hown, hts⟩ (c_X6_isPost l D cI cB cZ cP x y ) ⟨va_cnB 2 hts gX5_find_X6_isPost_n63 rfl rfl rfl (hW0.n_RX5_63) (hts (.initialized RX6) (by decide +kernel)) (by decide +kernel) ⟨Nat.le_of_ble_eq_true rfl, Nat.le_of_ble_eq_true rfl⟩, (hts (.static yX6_isPost) (by decide +kernel)), trivial⟩ (pS hPc hW0 trivial) rfl rfl hl.1 rfl (lv_room (Nat.le_of_ble_eq_true rfl)) dX5_find_2 ⟨Nat.le_of_ble_eq_true rfl, Nat.le_of_ble_eq_true rfl⟩).run ?_
  refine lv_if_eq (tgt := 79) hx hb dX5_find_5 (by decide) (fun c_1 => ?_) (fun c_1 => ?_)
  · skip
    have nc_1 := zb_eq0.mp c_1
    rw [← hQ]
    have hP9 := hP
    have hD9 := hD
    exact W.vret hx hb hr (fun t ht hW => ⟨⟨(no, O, T), rfl, Or.inr ⟨fun q => nc_1 q.1, rfl, rfl, rfl⟩, by rw [ht]; exact hP9, hD9⟩, hS.F ht⟩) hS.2.2 dX5_find_79
  · skip
    have nc_1 := zb_ne0.mp c_1
    obtain ⟨xx, hxx, exx⟩ := isP_x nc_1
    obtain ⟨yy, hyy, eyy⟩ := isP_y nc_1
    have eat : at_ x y = 32 * yy + xx := by unfold at_; rw [exx, eyy, ix_nI (by omega), ix_nI (by omega)]
    have ebt : bt O (at_ x y) ↔ bit (O yy) xx := by rw [eat]; unfold bt; rw [show (32 * yy + xx) / 32 = yy by omega, show (32 * yy + xx) % 32 = xx by omega]
    rw [exx, eyy] at hl
    refine lv_aload_n hx hb dX5_find_8 rfl (lv_at hl 0 rfl) ?_
    refine va_get (D := D) (ci := 7) (v := .ref ao) (C := RX5) (T := TX5) (N := 8) hx hb hts (by decide +kernel) hown hK hP 0 rfl rfl 0 (by decide) (hts (.fieldLink RX5 9 "LandDeeds$Wastes" "open" "[I") (by decide +kernel)) (fun _ h9 => h9) rfl dX5_find_9 ?_
    refine lv_iload_n hx hb dX5_find_12 rfl (lv_at hl 2 rfl) ?_
    refine u_iald hx hb hK hP 1 0 rfl rfl rfl ⟨by omega, by omega⟩ dX5_find_13 ?_
    refine lv_iload_n hx hb dX5_find_14 rfl (lv_at hl 1 rfl) ?_
    have hPc := hP.sub (ws' := []) [] rfl
    refine u_callSi (va_runSN (As := [.int (O yy), .int (nI xx)]) (rest := []) ⟨hx, hb, hml, hown, hts⟩ (c_X6_isIn l D cI cB cZ cP (O yy) (nI xx) ) ⟨va_cnB 2 hts gX5_find_X6_isIn_n45 rfl rfl rfl (hW0.n_RX5_45) (hts (.initialized RX6) (by decide +kernel)) (by decide +kernel) ⟨Nat.le_of_ble_eq_true rfl, Nat.le_of_ble_eq_true rfl⟩, (hts (.static yX6_isIn) (by decide +kernel)), trivial⟩ (pS hPc hW0 trivial) rfl rfl hl.1 rfl (lv_room (Nat.le_of_ble_eq_true rfl)) dX5_find_15 ⟨Nat.le_of_ble_eq_true rfl, Nat.le_of_ble_eq_true rfl⟩).run ?_
    refine lv_if_eq (tgt := 79) hx hb dX5_find_18 (by decide) (fun c_2 => ?_) (fun c_2 => ?_)
    · skip
      have nc_2 := zb_eq0.mp c_2
      have hbn : ¬ bt O (at_ x y) := fun q => nc_2 ((isIn_bit hxx).mpr (ebt.mp q))
      rw [← hQ]
      have hP9 := hP
      have hD9 := hD
      exact W.vret hx hb hr (fun t ht hW => ⟨⟨(no, O, T), rfl, Or.inr ⟨fun q => hbn q.2, rfl, rfl, rfl⟩, by rw [ht]; exact hP9, hD9⟩, hS.F ht⟩) hS.2.2 dX5_find_79
    · skip
      have nc_2 := zb_ne0.mp c_2
      have hby : bt O (at_ x y) := ebt.mpr ((isIn_bit hxx).mp nc_2)
      have hno9 := hno nc_1 hby
      refine lv_aload_n hx hb dX5_find_21 rfl (lv_at hl 0 rfl) ?_
      refine va_get (D := D) (ci := 7) (v := .int (nI no)) (C := RX5) (T := TX5) (N := 8) hx hb hts (by decide +kernel) hown hK hP 0 rfl rfl 2 (by decide) (hts (.fieldLink RX5 57 "LandDeeds$Wastes" "foundSize" "I") (by decide +kernel)) (fun _ h9 => h9) rfl dX5_find_22 ?_
      refine lv_if_lt (tgt := 79) hx hb dX5_find_25 (by decide) (fun c_3 => ?_) (fun c_3 => ?_)
      · skip
        have nc_3 : no < 0 := (nI_ltI (a := no) (b := 0) (by omega) (by omega)).mp c_3
        exact absurd nc_3 (by omega)
      · skip
        have nc_3 : ¬ (no < 0) := fun h => c_3 ((nI_ltI (a := no) (b := 0) (by omega) (by omega)).mpr h)
        refine lv_aload_n hx hb dX5_find_28 rfl (lv_at hl 0 rfl) ?_
        refine va_get (D := D) (ci := 7) (v := .int (nI no)) (C := RX5) (T := TX5) (N := 8) hx hb hts (by decide +kernel) hown hK hP 0 rfl rfl 2 (by decide) (hts (.fieldLink RX5 57 "LandDeeds$Wastes" "foundSize" "I") (by decide +kernel)) (fun _ h9 => h9) rfl dX5_find_29 ?_
        refine lv_aload_n hx hb dX5_find_32 rfl (lv_at hl 0 rfl) ?_
        refine va_get (D := D) (ci := 7) (v := .ref af) (C := RX5) (T := TX5) (N := 8) hx hb hts (by decide +kernel) hown hK hP 0 rfl rfl 1 (by decide) (hts (.fieldLink RX5 15 "LandDeeds$Wastes" "found" "[I") (by decide +kernel)) (fun _ h9 => h9) rfl dX5_find_33 ?_
        refine va_alen (v := 1024) hx hb hK hP 2 0 rfl rfl rfl dX5_find_36 ?_
        refine lv_icmp_ge (tgt := 79) hx hb dX5_find_37 (by decide) (fun c_4 => ?_) (fun c_4 => ?_)
        · skip
          have nc_4 : 1024 ≤ no := (nI_leI (a := 1024) (b := no) (by omega) (by omega)).mp c_4
          exact absurd nc_4 (by omega)
        · skip
          have nc_4 : ¬ (1024 ≤ no) := fun h => c_4 ((nI_leI (a := 1024) (b := no) (by omega) (by omega)).mpr h)
          refine lv_aload_n hx hb dX5_find_40 rfl (lv_at hl 0 rfl) ?_
          refine va_get (D := D) (ci := 7) (v := .ref ao) (C := RX5) (T := TX5) (N := 8) hx hb hts (by decide +kernel) hown hK hP 0 rfl rfl 0 (by decide) (hts (.fieldLink RX5 9 "LandDeeds$Wastes" "open" "[I") (by decide +kernel)) (fun _ h9 => h9) rfl dX5_find_41 ?_
          refine lv_iload_n hx hb dX5_find_44 rfl (lv_at hl 2 rfl) ?_
          refine lv_dup2_11 hx hb dX5_find_45 rfl rfl ?_
          refine u_iald hx hb hK hP 1 0 rfl rfl rfl ⟨by omega, by omega⟩ dX5_find_46 ?_
          refine lv_iconst (v := 1) hx hb dX5_find_47 (by decide) ?_
          refine lv_iload_n hx hb dX5_find_48 rfl (lv_at hl 1 rfl) ?_
          refine lv_ishl hx hb dX5_find_49 ?_
          refine lv_iconst (v := (-1)) hx hb dX5_find_50 (by decide) ?_
          refine lv_ixor hx hb dX5_find_51 ?_
          refine lv_iand hx hb dX5_find_52 ?_
          refine u_iast hx hb hK hP hD hS 1 0 rfl rfl rfl ⟨by omega, by omega⟩ dX5_find_53 (fun H locs hP hD hS => ?_)
          have hP : va_P D vwCl [(h0, .inr (7, [.ref ao, .ref af, .int (nI no), .int ps, .int gg, .int gm, .int fx, .int fy])), (ao, .inl (cI, 32, .inl (upd O yy ((O yy) &&& ((1 <<< ((nI xx) &&& 31)) ^^^ (-1)))))), (af, .inl (cI, 1024, .inl T))] H := hP
          have hD : va_D A [(h0, .inr (7, [.ref ao, .ref af, .int (nI no), .int ps, .int gg, .int gm, .int fx, .int fy])), (ao, .inl (cI, 32, .inl (upd O yy ((O yy) &&& ((1 <<< ((nI xx) &&& 31)) ^^^ (-1)))))), (af, .inl (cI, 1024, .inl T))] := hD
          refine lv_aload_n hx hb dX5_find_54 rfl (lv_at hl 0 rfl) ?_
          refine va_get (D := D) (ci := 7) (v := .ref af) (C := RX5) (T := TX5) (N := 8) hx hb hts (by decide +kernel) hown hK hP 0 rfl rfl 1 (by decide) (hts (.fieldLink RX5 15 "LandDeeds$Wastes" "found" "[I") (by decide +kernel)) (fun _ h9 => h9) rfl dX5_find_55 ?_
          refine lv_aload_n hx hb dX5_find_58 rfl (lv_at hl 0 rfl) ?_
          refine va_get (D := D) (ci := 7) (v := .int (nI no)) (C := RX5) (T := TX5) (N := 8) hx hb hts (by decide +kernel) hown hK hP 0 rfl rfl 2 (by decide) (hts (.fieldLink RX5 57 "LandDeeds$Wastes" "foundSize" "I") (by decide +kernel)) (fun _ h9 => h9) rfl dX5_find_59 ?_
          refine lv_iload_n hx hb dX5_find_62 rfl (lv_at hl 2 rfl) ?_
          refine lv_bipush (v := 32) hx hb dX5_find_63 (by decide) ?_
          refine lv_imul hx hb dX5_find_65 ?_
          refine u_eqi (show (nI yy) * 32 = nI (yy * 32) from nI_m yy 32) ?_
          refine lv_iload_n hx hb dX5_find_66 rfl (lv_at hl 1 rfl) ?_
          refine lv_iadd hx hb dX5_find_67 ?_
          refine u_eqi (show (nI (yy * 32)) + (nI xx) = nI (yy * 32 + xx) from nI_add _ _) ?_
          refine u_iast hx hb hK hP hD hS 2 0 rfl rfl rfl ⟨by omega, by omega⟩ dX5_find_68 (fun H locs hP hD hS => ?_)
          have hP : va_P D vwCl [(h0, .inr (7, [.ref ao, .ref af, .int (nI no), .int ps, .int gg, .int gm, .int fx, .int fy])), (ao, .inl (cI, 32, .inl (upd O yy ((O yy) &&& ((1 <<< ((nI xx) &&& 31)) ^^^ (-1)))))), (af, .inl (cI, 1024, .inl (upd T no (nI (yy * 32 + xx)))))] H := hP
          have hD : va_D A [(h0, .inr (7, [.ref ao, .ref af, .int (nI no), .int ps, .int gg, .int gm, .int fx, .int fy])), (ao, .inl (cI, 32, .inl (upd O yy ((O yy) &&& ((1 <<< ((nI xx) &&& 31)) ^^^ (-1)))))), (af, .inl (cI, 1024, .inl (upd T no (nI (yy * 32 + xx)))))] := hD
          refine lv_aload_n hx hb dX5_find_69 rfl (lv_at hl 0 rfl) ?_
          refine lv_dup hx hb dX5_find_70 rfl ?_
          refine va_get (D := D) (ci := 7) (v := .int (nI no)) (C := RX5) (T := TX5) (N := 8) hx hb hts (by decide +kernel) hown hK hP 0 rfl rfl 2 (by decide) (hts (.fieldLink RX5 57 "LandDeeds$Wastes" "foundSize" "I") (by decide +kernel)) (fun _ h9 => h9) rfl dX5_find_71 ?_
          refine lv_iconst (v := 1) hx hb dX5_find_74 (by decide) ?_
          refine lv_iadd hx hb dX5_find_75 ?_
          refine u_eqi (show (nI no) + 1 = nI (no + 1) from nI_1 no) ?_
          refine va_put (D := D) (ci := 7) (v := .int (nI (no + 1))) (ty := .int) (C := RX5) (T := TX5) (N := 8) hx hb hts (by decide +kernel) tyX5 tyX5_ok nmX5 hown hK hP hD hS 0 rfl rfl 2 (by decide) (hts (.fieldLink RX5 57 "LandDeeds$Wastes" "foundSize" "I") (by decide +kernel)) (fun _ h9 => h9) rfl (by decide +kernel) rfl rfl (Nat.le_of_ble_eq_true rfl) dX5_find_76 (fun H locs hP hD hS => ?_)
          have hP : va_P D vwCl [(h0, .inr (7, [.ref ao, .ref af, .int (nI (no + 1)), .int ps, .int gg, .int gm, .int fx, .int fy])), (ao, .inl (cI, 32, .inl (upd O yy ((O yy) &&& ((1 <<< ((nI xx) &&& 31)) ^^^ (-1)))))), (af, .inl (cI, 1024, .inl (upd T no (nI (yy * 32 + xx)))))] H := hP
          have hD : va_D A [(h0, .inr (7, [.ref ao, .ref af, .int (nI (no + 1)), .int ps, .int gg, .int gm, .int fx, .int fy])), (ao, .inl (cI, 32, .inl (upd O yy ((O yy) &&& ((1 <<< ((nI xx) &&& 31)) ^^^ (-1)))))), (af, .inl (cI, 1024, .inl (upd T no (nI (yy * 32 + xx)))))] := hD
          rw [← hQ]
          have hP9 := hP
          have hD9 := hD
          exact W.vret hx hb hr (fun t ht hW => ⟨⟨(no + 1, upd O yy ((O yy) &&& ((1 <<< ((nI xx) &&& 31)) ^^^ (-1))), upd T no (nI (yy * 32 + xx))), rfl, Or.inl ⟨nc_1, hby, fun j hj => by rw [eat]; exact bt_clr hxx hyy j hj, by rw [eat, Nat.mul_comm], rfl⟩, by rw [ht]; exact hP9, hD9⟩, hS.F ht⟩) hS.2.2 dX5_find_79

set_option maxHeartbeats 4000000 in
set_option maxRecDepth 100000 in
theorem c_X5_walkGap (l : Launch) (D : va_G) (cI cB cZ cP : ClassId) (sz : Nat) (h0 ao af : Nat) (n0 ps gg gm fx fy : Int32) (O T : Nat → Int32) (Rr : Nat → Prop) (xx yy : Nat) (hO : ∀ j, (j < 1024 ∧ bt O j) ↔ Rr j) (hxx : xx < 32) (hyy : yy < 32) (hRi : Rr (32 * yy + xx)) : Met l yX5_walkGap wsX5_walkGap ({ frames := 3, cells := 0, slots := 0, locals := 63 } : Room) (va_Pc [.ref h0, .int (nI xx), .int (nI yy)] (fun U => U.heap.size = sz ∧ va_P D vwCl [(h0, .inr (7, [.ref ao, .ref af, .int n0, .int ps, .int gg, .int gm, .int fx, .int fy])), (ao, .inl (cI, 32, .inl O)), (af, .inl (cI, 1024, .inl T))] U.heap ∧ KW D cI cB cZ cP U ∧ va_D (fun _ => True) [(h0, .inr (7, [.ref ao, .ref af, .int n0, .int ps, .int gg, .int gm, .int fx, .int fy])), (ao, .inl (cI, 32, .inl O)), (af, .inl (cI, 1024, .inl T))] ∧ EF [(h0, .inr (7, [.ref ao, .ref af, .int n0, .int ps, .int gg, .int gm, .int fx, .int fy])), (ao, .inl (cI, 32, .inl O)), (af, .inl (cI, 1024, .inl T))] sz E0 U.heap)) (va_Qi (fun r (u : Nat × (Nat → Int32) × (Nat → Int32)) => match u with | (n1, O1, T1) => r = nI (cnt (conn Rr (32 * yy + xx)) 1024) ∧ ∀ j, (j < 1024 ∧ bt O1 j) ↔ (Rr j ∧ ¬ conn Rr (32 * yy + xx) j)) (fun (u : Nat × (Nat → Int32) × (Nat → Int32)) (t : State) => match u with | (n1, O1, T1) => va_P D vwCl [(h0, .inr (7, [.ref ao, .ref af, .int (nI n1), .int ps, .int gg, .int gm, .int fx, .int fy])), (ao, .inl (cI, 32, .inl O1)), (af, .inl (cI, 1024, .inl T1))] t.heap ∧ va_D (va_A [(h0, .inr (7, [.ref ao, .ref af, .int n0, .int ps, .int gg, .int gm, .int fx, .int fy])), (ao, .inl (cI, 32, .inl O)), (af, .inl (cI, 1024, .inl T))] sz) [(h0, .inr (7, [.ref ao, .ref af, .int (nI n1), .int ps, .int gg, .int gm, .int fx, .int fy])), (ao, .inl (cI, 32, .inl O1)), (af, .inl (cI, 1024, .inl T1))]) (va_A [(h0, .inr (7, [.ref ao, .ref af, .int n0, .int ps, .int gg, .int gm, .int fx, .int fy])), (ao, .inl (cI, 32, .inl O)), (af, .inl (cI, 1024, .inl T))] sz)) 0 0 (va_A [(h0, .inr (7, [.ref ao, .ref af, .int n0, .int ps, .int gg, .int gm, .int fx, .int fy])), (ao, .inl (cI, 32, .inl O)), (af, .inl (cI, 1024, .inl T))] sz) := by
  refine Met.ofW (cc := cX5_walkGap) (maxL := 6) (ret := (some .int)) (by decide) rfl ?_
  intro p e s m args below meth c s₁ B hml hv
  obtain ⟨rfl, hsz, hP, hW0, hD0, hE⟩ := hv
  have hx := B.exec
  have hb := B.bytes
  have hr := B.returns
  have hts := atoms_spec (ws := wsX5_walkGap) B.pre
  have hown : s.vm.findClass RX5 = some m.cls := findClass_of_methodNamed B.named
  have hlocks := B.notSynchronized
  have hK := hW0.1
  subst hsz
  have hD := hD0.self (sz := s.heap.size)
  unfold EF at hE
  generalize hAe : va_A [(h0, .inr (7, [.ref ao, .ref af, .int n0, .int ps, .int gg, .int gm, .int fx, .int fy])), (ao, .inl (cI, 32, .inl O)), (af, .inl (cI, 1024, .inl T))] s.heap.size = A at hD hE ⊢
  have hA : ∀ q : Nat, s.heap.size ≤ q → A q := fun q h => by rw [← hAe]; exact Or.inr h
  have hS : va_S A s.heap s.heap [] := va_S.rf
  have hl := lv_entry ([.ref h0, .int (nI xx), .int (nI yy)]) (n := 6) (Nat.le_of_ble_eq_true rfl)
  rw [lg_entry_eq]
  generalize (lg_sl ([.ref h0, .int (nI xx), .int (nI yy)]) ++ List.replicate (6 - (lg_sl ([.ref h0, .int (nI xx), .int (nI yy)])).length) Slot.unset).toArray = ls at hl ⊢
  have hl : lv_has ls 6 [(0, .ref h0), (1, .int (nI xx)), (2, .int (nI yy))] := hl
  show W p l e ({ frames := 3, cells := 0, slots := 0, locals := 63 } : Room) s m ([.ref h0, .int (nI xx), .int (nI yy)] : List Value).toArray below meth c s.heap [] 0 0 _ (F0 m 0 ls [])
  refine u_genQ (fun Q hQ => ?_)
  have eat0 : at_ (nI xx) (nI yy) = 32 * yy + xx := at_xy hxx hyy
  have hpi : isP (nI xx) (nI yy) := by unfold isP; rw [nI_toInt (by omega), nI_toInt (by omega)]; omega
  refine lv_aload_n hx hb dX5_walkGap_0 rfl (lv_at hl 0 rfl) ?_
  refine lv_iconst (v := 0) hx hb dX5_walkGap_1 (by decide) ?_
  refine va_put (D := D) (ci := 7) (v := .int 0) (ty := .int) (C := RX5) (T := TX5) (N := 8) hx hb hts (by decide +kernel) tyX5 tyX5_ok nmX5 hown hK hP hD hS 0 rfl rfl 2 (by decide) (hts (.fieldLink RX5 57 "LandDeeds$Wastes" "foundSize" "I") (by decide +kernel)) (fun _ h9 => h9) rfl (by decide +kernel) rfl rfl (Nat.le_of_ble_eq_true rfl) dX5_walkGap_2 (fun H locs hP hD hS => ?_)
  have hP : va_P D vwCl [(h0, .inr (7, [.ref ao, .ref af, .int 0, .int ps, .int gg, .int gm, .int fx, .int fy])), (ao, .inl (cI, 32, .inl O)), (af, .inl (cI, 1024, .inl T))] H := hP
  have hD : va_D A [(h0, .inr (7, [.ref ao, .ref af, .int 0, .int ps, .int gg, .int gm, .int fx, .int fy])), (ao, .inl (cI, 32, .inl O)), (af, .inl (cI, 1024, .inl T))] := hD
  refine lv_aload_n hx hb dX5_walkGap_5 rfl (lv_at hl 0 rfl) ?_
  refine lv_iload_n hx hb dX5_walkGap_6 rfl (lv_at hl 1 rfl) ?_
  refine lv_iload_n hx hb dX5_walkGap_7 rfl (lv_at hl 2 rfl) ?_
  have hPc := hP.sub (ws' := [(h0, .inr (7, [.ref ao, .ref af, .int (nI 0), .int ps, .int gg, .int gm, .int fx, .int fy])), (ao, .inl (cI, 32, .inl O)), (af, .inl (cI, 1024, .inl T))]) [0, 1, 2] rfl
  have hDc := hD.sub (ws' := [(h0, .inr (7, [.ref ao, .ref af, .int (nI 0), .int ps, .int gg, .int gm, .int fx, .int fy])), (ao, .inl (cI, 32, .inl O)), (af, .inl (cI, 1024, .inl T))]) [0, 1, 2] (by decide) rfl
  have hFc := va_free (wc := [(h0, .inr (7, [.ref ao, .ref af, .int (nI 0), .int ps, .int gg, .int gm, .int fx, .int fy])), (ao, .inl (cI, 32, .inl O)), (af, .inl (cI, 1024, .inl T))]) hD hS hA [0, 1, 2] rfl
  refine va_callv (va_runV (As := [.int (nI xx), .int (nI yy)]) (rest := []) ⟨hx, hb, hml, hown, hts⟩ (c_X5_find l D cI cB cZ cP H.size h0 ao af 0 ps gg gm fx fy O T (nI xx) (nI yy) (fun _ _ => by decide) (by decide)) (cwV 2 hts gX5_walkGap_X5_find rfl rfl rfl (by decide +kernel) ⟨Nat.le_of_ble_eq_true rfl, Nat.le_of_ble_eq_true rfl⟩) (pVQ (q0 := 0) hPc hDc hW0 EF.t rfl rfl) rfl rfl hl.1 rfl (lv_room (Nat.le_of_ble_eq_true rfl)) dX5_walkGap_8 ⟨Nat.le_of_ble_eq_true rfl, Nat.le_of_ble_eq_true rfl⟩) hS (fun q _ h => hFc q h) hFc (fun u t H1 locs ht hvm hw hB hz1 hk1 hS => ?_)
  obtain ⟨n1_1, O1_1, T1_1⟩ := u
  obtain ⟨hP1, hD1⟩ := hB
  rw [ht] at hP1
  have hw_1 : FD (nI xx) (nI yy) O T O1_1 T1_1 0 n1_1 := hw
  obtain ⟨hP, hD⟩ := va_join (wr := []) (w1 := [(h0, .inr (7, [.ref ao, .ref af, .int (nI n1_1), .int ps, .int gg, .int gm, .int fx, .int fy])), (ao, .inl (cI, 32, .inl O1_1)), (af, .inl (cI, 1024, .inl T1_1))]) hP hD [0, 1, 2] [] rfl rfl (by decide) (by decide) hk1 hFc hP1 hD1
  generalize H1 = H at hP hS ⊢
  have hP := hP.sub (ws' := [(h0, .inr (7, [.ref ao, .ref af, .int (nI n1_1), .int ps, .int gg, .int gm, .int fx, .int fy])), (ao, .inl (cI, 32, .inl O1_1)), (af, .inl (cI, 1024, .inl T1_1))]) [0, 1, 2] rfl
  have hD := hD.sub (ws' := [(h0, .inr (7, [.ref ao, .ref af, .int (nI n1_1), .int ps, .int gg, .int gm, .int fx, .int fy])), (ao, .inl (cI, 32, .inl O1_1)), (af, .inl (cI, 1024, .inl T1_1))]) [0, 1, 2] (by decide) rfl
  have hFM := FC_find (FC_0 (T := T) hO) (fun _ q => by rw [eat0]; exact conn.rf hRi) hw_1
  have hN0 : ¬ bt O1_1 (32 * yy + xx) := by have h9 := FC_did hpi (by rw [eat0]; exact ((hO _).mpr hRi).2) hw_1; rw [eat0] at h9; exact h9
  have hFM9 : FC Rr (32 * yy + xx) O1_1 T1_1 n1_1 0 (fun _ => False) := ⟨Fl_no hFM.1.1 (fun j a9 _ => a9.elim), hFM.1.2⟩
  refine lv_iconst (v := 0) hx hb dX5_walkGap_11 (by decide) ?_
  refine lv_istore_n (lv' := [(3, .int 0), (0, .ref h0), (1, .int (nI xx)), (2, .int (nI yy))]) hx hb dX5_walkGap_12 rfl hl (by decide) rfl (fun ls hl => ?_)
  have LOOP_13 : ∀ (fu : Nat) (z : Nat) (no : Nat) (O1 : Nat → Int32) (T1 : Nat → Int32) (hM0 : FC Rr (32 * yy + xx) O1 T1 no z (fun _ => False)) (hN0 : ¬ bt O1 (32 * yy + xx)) (hn : 1024 - z < fu) (H : Heap) (locs : List Loc) (hP : va_P D vwCl [(h0, .inr (7, [.ref ao, .ref af, .int (nI no), .int ps, .int gg, .int gm, .int fx, .int fy])), (ao, .inl (cI, 32, .inl O1)), (af, .inl (cI, 1024, .inl T1))] H) (hD : va_D A [(h0, .inr (7, [.ref ao, .ref af, .int (nI no), .int ps, .int gg, .int gm, .int fx, .int fy])), (ao, .inl (cI, 32, .inl O1)), (af, .inl (cI, 1024, .inl T1))]) (hS : va_S A s.heap H locs) (ls : Array Slot) (hl : lv_has ls 6 [(0, .ref h0), (3, .int (nI z))]), W p l e ({ frames := 3, cells := 0, slots := 0, locals := 63 } : Room) s m ([.ref h0, .int (nI xx), .int (nI yy)] : List Value).toArray below meth c H locs 0 0 Q (F0 m 13 ls []) := by
    intro fu
    induction fu with
    | zero => intro z no O1 T1 hM0 hN0 hn H locs hP hD hS ls hl; exact absurd hn (Nat.not_lt_zero _)
    | succ fu ih_13 =>
      intro z no O1 T1 hM0 hN0 hn H locs hP hD hS ls hl
      refine lv_iload_n hx hb dX5_walkGap_13 rfl (lv_at hl 1 rfl) ?_
      have hno1 : no ≤ 1024 := Fl_le hM0.1
      have hzno : z ≤ no := hM0.2.2
      refine lv_aload_n hx hb dX5_walkGap_14 rfl (lv_at hl 0 rfl) ?_
      refine va_get (D := D) (ci := 7) (v := .int (nI no)) (C := RX5) (T := TX5) (N := 8) hx hb hts (by decide +kernel) hown hK hP 0 rfl rfl 2 (by decide) (hts (.fieldLink RX5 57 "LandDeeds$Wastes" "foundSize" "I") (by decide +kernel)) (fun _ h9 => h9) rfl dX5_walkGap_15 ?_
      refine lv_icmp_ge (tgt := 98) hx hb dX5_walkGap_18 (by decide) (fun c_2 => ?_) (fun c_2 => ?_)
      · skip
        have nc_2 : no ≤ z := (nI_leI (a := no) (b := z) (by omega) (by omega)).mp c_2
        have hzn : z = no := by have := hM0.2.2; omega
        refine lv_aload_n hx hb dX5_walkGap_98 rfl (lv_at hl 0 rfl) ?_
        refine va_get (D := D) (ci := 7) (v := .int (nI no)) (C := RX5) (T := TX5) (N := 8) hx hb hts (by decide +kernel) hown hK hP 0 rfl rfl 2 (by decide) (hts (.fieldLink RX5 57 "LandDeeds$Wastes" "foundSize" "I") (by decide +kernel)) (fun _ h9 => h9) rfl dX5_walkGap_99 ?_
        rw [← hQ]
        have hP9 := hP
        have hD9 := hD
        exact W.iret (v := nI no) hx hb hr (fun t ht hW => ⟨⟨_, (no, O1, T1), rfl, FC_end hM0 hzn hRi hN0, by rw [ht]; exact hP9, hD9⟩, hS.F ht⟩) hS.2.2 dX5_walkGap_102
      · skip
        have nc_2 : ¬ (no ≤ z) := fun h => c_2 ((nI_leI (a := no) (b := z) (by omega) (by omega)).mpr h)
        have hkz0 : z < no := by omega
        have hT0 : T1 z = T1 z := rfl
        refine lv_iload_n hx hb dX5_walkGap_21 rfl (lv_at hl 1 rfl) ?_
        refine lv_aload_n hx hb dX5_walkGap_22 rfl (lv_at hl 0 rfl) ?_
        refine va_get (D := D) (ci := 7) (v := .ref af) (C := RX5) (T := TX5) (N := 8) hx hb hts (by decide +kernel) hown hK hP 0 rfl rfl 1 (by decide) (hts (.fieldLink RX5 15 "LandDeeds$Wastes" "found" "[I") (by decide +kernel)) (fun _ h9 => h9) rfl dX5_walkGap_23 ?_
        refine va_alen (v := 1024) hx hb hK hP 2 0 rfl rfl rfl dX5_walkGap_26 ?_
        refine lv_icmp_ge (tgt := 98) hx hb dX5_walkGap_27 (by decide) (fun c_3 => ?_) (fun c_3 => ?_)
        · skip
          have nc_3 : 1024 ≤ z := (nI_leI (a := 1024) (b := z) (by omega) (by omega)).mp c_3
          exact absurd nc_3 (by omega)
        · skip
          have nc_3 : ¬ (1024 ≤ z) := fun h => c_3 ((nI_leI (a := 1024) (b := z) (by omega) (by omega)).mpr h)
          refine lv_aload_n hx hb dX5_walkGap_30 rfl (lv_at hl 0 rfl) ?_
          refine va_get (D := D) (ci := 7) (v := .ref af) (C := RX5) (T := TX5) (N := 8) hx hb hts (by decide +kernel) hown hK hP 0 rfl rfl 1 (by decide) (hts (.fieldLink RX5 15 "LandDeeds$Wastes" "found" "[I") (by decide +kernel)) (fun _ h9 => h9) rfl dX5_walkGap_31 ?_
          refine lv_iload_n hx hb dX5_walkGap_34 rfl (lv_at hl 1 rfl) ?_
          refine u_iald hx hb hK hP 2 0 rfl rfl rfl ⟨by omega, by omega⟩ dX5_walkGap_35 ?_
          refine u_eqi (show T1 z = nI (ix (T1 z)) from (hM0.2.1 z hkz0).1) ?_
          refine lv_bipush (v := 32) hx hb dX5_walkGap_36 (by decide) ?_
          refine lv_irem hx hb dX5_walkGap_38 (by decide) ?_
          refine u_eqi (show (nI (ix (T1 z))) - (nI (ix (T1 z))) / 32 * 32 = nI (ix (T1 z) % 32) from (div32 (hM0.2.1 z hkz0).2).2) ?_
          refine lv_istore (lv' := [(4, .int (nI (ix (T1 z) % 32))), (0, .ref h0), (3, .int (nI z))]) hx hb dX5_walkGap_39 hl (by decide) rfl (fun ls hl => ?_)
          refine lv_aload_n hx hb dX5_walkGap_41 rfl (lv_at hl 1 rfl) ?_
          refine va_get (D := D) (ci := 7) (v := .ref af) (C := RX5) (T := TX5) (N := 8) hx hb hts (by decide +kernel) hown hK hP 0 rfl rfl 1 (by decide) (hts (.fieldLink RX5 15 "LandDeeds$Wastes" "found" "[I") (by decide +kernel)) (fun _ h9 => h9) rfl dX5_walkGap_42 ?_
          refine lv_iload_n hx hb dX5_walkGap_45 rfl (lv_at hl 2 rfl) ?_
          refine u_iald hx hb hK hP 2 0 rfl rfl rfl ⟨by omega, by omega⟩ dX5_walkGap_46 ?_
          refine u_eqi (show T1 z = nI (ix (T1 z)) from (hM0.2.1 z hkz0).1) ?_
          refine lv_bipush (v := 32) hx hb dX5_walkGap_47 (by decide) ?_
          refine lv_idiv hx hb dX5_walkGap_49 (by decide) ?_
          refine u_eqi (show (nI (ix (T1 z))) / 32 = nI (ix (T1 z) / 32) from (div32 (hM0.2.1 z hkz0).2).1) ?_
          refine lv_istore (lv' := [(5, .int (nI (ix (T1 z) / 32))), (4, .int (nI (ix (T1 z) % 32))), (0, .ref h0), (3, .int (nI z))]) hx hb dX5_walkGap_50 hl (by decide) rfl (fun ls hl => ?_)
          refine lv_aload_n hx hb dX5_walkGap_52 rfl (lv_at hl 2 rfl) ?_
          refine lv_iload hx hb dX5_walkGap_53 (lv_at hl 1 rfl) ?_
          refine lv_iload hx hb dX5_walkGap_55 (lv_at hl 0 rfl) ?_
          refine lv_iconst (v := 1) hx hb dX5_walkGap_57 (by decide) ?_
          refine lv_iadd hx hb dX5_walkGap_58 ?_
          have hPc := hP.sub (ws' := [(h0, .inr (7, [.ref ao, .ref af, .int (nI no), .int ps, .int gg, .int gm, .int fx, .int fy])), (ao, .inl (cI, 32, .inl O1)), (af, .inl (cI, 1024, .inl T1))]) [0, 1, 2] rfl
          have hDc := hD.sub (ws' := [(h0, .inr (7, [.ref ao, .ref af, .int (nI no), .int ps, .int gg, .int gm, .int fx, .int fy])), (ao, .inl (cI, 32, .inl O1)), (af, .inl (cI, 1024, .inl T1))]) [0, 1, 2] (by decide) rfl
          have hFc := va_free (wc := [(h0, .inr (7, [.ref ao, .ref af, .int (nI no), .int ps, .int gg, .int gm, .int fx, .int fy])), (ao, .inl (cI, 32, .inl O1)), (af, .inl (cI, 1024, .inl T1))]) hD hS hA [0, 1, 2] rfl
          refine va_callv (va_runV (As := [.int (nI (ix (T1 z) % 32)), .int ((nI (ix (T1 z) / 32)) + 1)]) (rest := []) ⟨hx, hb, hml, hown, hts⟩ (c_X5_find l D cI cB cZ cP H.size h0 ao af no ps gg gm fx fy O1 T1 (nI (ix (T1 z) % 32)) ((nI (ix (T1 z) / 32)) + 1) (fun q1 q2 => FC_lt hM0 (at_lt q1) q2) (Fl_le hM0.1)) (cwV 2 hts gX5_walkGap_X5_find rfl rfl rfl (by decide +kernel) ⟨Nat.le_of_ble_eq_true rfl, Nat.le_of_ble_eq_true rfl⟩) (pVQ (q0 := 0) hPc hDc hW0 EF.t rfl rfl) rfl rfl hl.1 rfl (lv_room (Nat.le_of_ble_eq_true rfl)) dX5_walkGap_59 ⟨Nat.le_of_ble_eq_true rfl, Nat.le_of_ble_eq_true rfl⟩) hS (fun q _ h => hFc q h) hFc (fun u t H1 locs ht hvm hw hB hz1 hk1 hS => ?_)
          obtain ⟨n1_4, O1_4, T1_4⟩ := u
          obtain ⟨hP1, hD1⟩ := hB
          rw [ht] at hP1
          have hw_4 : FD (nI (ix (T1 z) % 32)) ((nI (ix (T1 z) / 32)) + 1) O1 T1 O1_4 T1_4 no n1_4 := hw
          obtain ⟨hP, hD⟩ := va_join (wr := []) (w1 := [(h0, .inr (7, [.ref ao, .ref af, .int (nI n1_4), .int ps, .int gg, .int gm, .int fx, .int fy])), (ao, .inl (cI, 32, .inl O1_4)), (af, .inl (cI, 1024, .inl T1_4))]) hP hD [0, 1, 2] [] rfl rfl (by decide) (by decide) hk1 hFc hP1 hD1
          generalize H1 = H at hP hS ⊢
          have hP := hP.sub (ws' := [(h0, .inr (7, [.ref ao, .ref af, .int (nI n1_4), .int ps, .int gg, .int gm, .int fx, .int fy])), (ao, .inl (cI, 32, .inl O1_4)), (af, .inl (cI, 1024, .inl T1_4))]) [0, 1, 2] rfl
          have hD := hD.sub (ws' := [(h0, .inr (7, [.ref ao, .ref af, .int (nI n1_4), .int ps, .int gg, .int gm, .int fx, .int fy])), (ao, .inl (cI, 32, .inl O1_4)), (af, .inl (cI, 1024, .inl T1_4))]) [0, 1, 2] (by decide) rfl
          have hS1 := FC_find hM0 (FC_conn hM0 hkz0 (by rw [hT0]; exact Or.inr (Or.inr (Or.inl ⟨rfl, rfl⟩)))) hw_4
          have hM1 := hS1.1
          have hT1 : T1_4 z = T1 z := (hS1.2.1 z hkz0).trans hT0
          have hkz1 : z < n1_4 := by have := hS1.2.2; omega
          have hN1 : ¬ bt O1_4 (32 * yy + xx) := FC_keep (by omega) hN0 hw_4
          refine lv_aload_n hx hb dX5_walkGap_62 rfl (lv_at hl 2 rfl) ?_
          refine lv_iload hx hb dX5_walkGap_63 (lv_at hl 1 rfl) ?_
          refine lv_iload hx hb dX5_walkGap_65 (lv_at hl 0 rfl) ?_
          refine lv_iconst (v := 1) hx hb dX5_walkGap_67 (by decide) ?_
          refine lv_isub hx hb dX5_walkGap_68 ?_
          have hPc := hP.sub (ws' := [(h0, .inr (7, [.ref ao, .ref af, .int (nI n1_4), .int ps, .int gg, .int gm, .int fx, .int fy])), (ao, .inl (cI, 32, .inl O1_4)), (af, .inl (cI, 1024, .inl T1_4))]) [0, 1, 2] rfl
          have hDc := hD.sub (ws' := [(h0, .inr (7, [.ref ao, .ref af, .int (nI n1_4), .int ps, .int gg, .int gm, .int fx, .int fy])), (ao, .inl (cI, 32, .inl O1_4)), (af, .inl (cI, 1024, .inl T1_4))]) [0, 1, 2] (by decide) rfl
          have hFc := va_free (wc := [(h0, .inr (7, [.ref ao, .ref af, .int (nI n1_4), .int ps, .int gg, .int gm, .int fx, .int fy])), (ao, .inl (cI, 32, .inl O1_4)), (af, .inl (cI, 1024, .inl T1_4))]) hD hS hA [0, 1, 2] rfl
          refine va_callv (va_runV (As := [.int (nI (ix (T1 z) % 32)), .int ((nI (ix (T1 z) / 32)) - 1)]) (rest := []) ⟨hx, hb, hml, hown, hts⟩ (c_X5_find l D cI cB cZ cP H.size h0 ao af n1_4 ps gg gm fx fy O1_4 T1_4 (nI (ix (T1 z) % 32)) ((nI (ix (T1 z) / 32)) - 1) (fun q1 q2 => FC_lt hM1 (at_lt q1) q2) (Fl_le hM1.1)) (cwV 2 hts gX5_walkGap_X5_find rfl rfl rfl (by decide +kernel) ⟨Nat.le_of_ble_eq_true rfl, Nat.le_of_ble_eq_true rfl⟩) (pVQ (q0 := 0) hPc hDc hW0 EF.t rfl rfl) rfl rfl hl.1 rfl (lv_room (Nat.le_of_ble_eq_true rfl)) dX5_walkGap_69 ⟨Nat.le_of_ble_eq_true rfl, Nat.le_of_ble_eq_true rfl⟩) hS (fun q _ h => hFc q h) hFc (fun u t H1 locs ht hvm hw hB hz1 hk1 hS => ?_)
          obtain ⟨n1_5, O1_5, T1_5⟩ := u
          obtain ⟨hP1, hD1⟩ := hB
          rw [ht] at hP1
          have hw_5 : FD (nI (ix (T1 z) % 32)) ((nI (ix (T1 z) / 32)) - 1) O1_4 T1_4 O1_5 T1_5 n1_4 n1_5 := hw
          obtain ⟨hP, hD⟩ := va_join (wr := []) (w1 := [(h0, .inr (7, [.ref ao, .ref af, .int (nI n1_5), .int ps, .int gg, .int gm, .int fx, .int fy])), (ao, .inl (cI, 32, .inl O1_5)), (af, .inl (cI, 1024, .inl T1_5))]) hP hD [0, 1, 2] [] rfl rfl (by decide) (by decide) hk1 hFc hP1 hD1
          generalize H1 = H at hP hS ⊢
          have hP := hP.sub (ws' := [(h0, .inr (7, [.ref ao, .ref af, .int (nI n1_5), .int ps, .int gg, .int gm, .int fx, .int fy])), (ao, .inl (cI, 32, .inl O1_5)), (af, .inl (cI, 1024, .inl T1_5))]) [0, 1, 2] rfl
          have hD := hD.sub (ws' := [(h0, .inr (7, [.ref ao, .ref af, .int (nI n1_5), .int ps, .int gg, .int gm, .int fx, .int fy])), (ao, .inl (cI, 32, .inl O1_5)), (af, .inl (cI, 1024, .inl T1_5))]) [0, 1, 2] (by decide) rfl
          have hS2 := FC_find hM1 (FC_conn hM1 hkz1 (by rw [hT1]; exact Or.inr (Or.inr (Or.inr ⟨rfl, rfl⟩)))) hw_5
          have hM2 := hS2.1
          have hT2 : T1_5 z = T1 z := (hS2.2.1 z hkz1).trans hT1
          have hkz2 : z < n1_5 := by have := hS2.2.2; omega
          have hN2 : ¬ bt O1_5 (32 * yy + xx) := FC_keep (by omega) hN1 hw_5
          refine lv_aload_n hx hb dX5_walkGap_72 rfl (lv_at hl 2 rfl) ?_
          refine lv_iload hx hb dX5_walkGap_73 (lv_at hl 1 rfl) ?_
          refine lv_iconst (v := 1) hx hb dX5_walkGap_75 (by decide) ?_
          refine lv_iadd hx hb dX5_walkGap_76 ?_
          refine lv_iload hx hb dX5_walkGap_77 (lv_at hl 0 rfl) ?_
          have hPc := hP.sub (ws' := [(h0, .inr (7, [.ref ao, .ref af, .int (nI n1_5), .int ps, .int gg, .int gm, .int fx, .int fy])), (ao, .inl (cI, 32, .inl O1_5)), (af, .inl (cI, 1024, .inl T1_5))]) [0, 1, 2] rfl
          have hDc := hD.sub (ws' := [(h0, .inr (7, [.ref ao, .ref af, .int (nI n1_5), .int ps, .int gg, .int gm, .int fx, .int fy])), (ao, .inl (cI, 32, .inl O1_5)), (af, .inl (cI, 1024, .inl T1_5))]) [0, 1, 2] (by decide) rfl
          have hFc := va_free (wc := [(h0, .inr (7, [.ref ao, .ref af, .int (nI n1_5), .int ps, .int gg, .int gm, .int fx, .int fy])), (ao, .inl (cI, 32, .inl O1_5)), (af, .inl (cI, 1024, .inl T1_5))]) hD hS hA [0, 1, 2] rfl
          refine va_callv (va_runV (As := [.int ((nI (ix (T1 z) % 32)) + 1), .int (nI (ix (T1 z) / 32))]) (rest := []) ⟨hx, hb, hml, hown, hts⟩ (c_X5_find l D cI cB cZ cP H.size h0 ao af n1_5 ps gg gm fx fy O1_5 T1_5 ((nI (ix (T1 z) % 32)) + 1) (nI (ix (T1 z) / 32)) (fun q1 q2 => FC_lt hM2 (at_lt q1) q2) (Fl_le hM2.1)) (cwV 2 hts gX5_walkGap_X5_find rfl rfl rfl (by decide +kernel) ⟨Nat.le_of_ble_eq_true rfl, Nat.le_of_ble_eq_true rfl⟩) (pVQ (q0 := 0) hPc hDc hW0 EF.t rfl rfl) rfl rfl hl.1 rfl (lv_room (Nat.le_of_ble_eq_true rfl)) dX5_walkGap_79 ⟨Nat.le_of_ble_eq_true rfl, Nat.le_of_ble_eq_true rfl⟩) hS (fun q _ h => hFc q h) hFc (fun u t H1 locs ht hvm hw hB hz1 hk1 hS => ?_)
          obtain ⟨n1_6, O1_6, T1_6⟩ := u
          obtain ⟨hP1, hD1⟩ := hB
          rw [ht] at hP1
          have hw_6 : FD ((nI (ix (T1 z) % 32)) + 1) (nI (ix (T1 z) / 32)) O1_5 T1_5 O1_6 T1_6 n1_5 n1_6 := hw
          obtain ⟨hP, hD⟩ := va_join (wr := []) (w1 := [(h0, .inr (7, [.ref ao, .ref af, .int (nI n1_6), .int ps, .int gg, .int gm, .int fx, .int fy])), (ao, .inl (cI, 32, .inl O1_6)), (af, .inl (cI, 1024, .inl T1_6))]) hP hD [0, 1, 2] [] rfl rfl (by decide) (by decide) hk1 hFc hP1 hD1
          generalize H1 = H at hP hS ⊢
          have hP := hP.sub (ws' := [(h0, .inr (7, [.ref ao, .ref af, .int (nI n1_6), .int ps, .int gg, .int gm, .int fx, .int fy])), (ao, .inl (cI, 32, .inl O1_6)), (af, .inl (cI, 1024, .inl T1_6))]) [0, 1, 2] rfl
          have hD := hD.sub (ws' := [(h0, .inr (7, [.ref ao, .ref af, .int (nI n1_6), .int ps, .int gg, .int gm, .int fx, .int fy])), (ao, .inl (cI, 32, .inl O1_6)), (af, .inl (cI, 1024, .inl T1_6))]) [0, 1, 2] (by decide) rfl
          have hS3 := FC_find hM2 (FC_conn hM2 hkz2 (by rw [hT2]; exact Or.inl ⟨rfl, rfl⟩)) hw_6
          have hM3 := hS3.1
          have hT3 : T1_6 z = T1 z := (hS3.2.1 z hkz2).trans hT2
          have hkz3 : z < n1_6 := by have := hS3.2.2; omega
          have hN3 : ¬ bt O1_6 (32 * yy + xx) := FC_keep (by omega) hN2 hw_6
          refine lv_aload_n hx hb dX5_walkGap_82 rfl (lv_at hl 2 rfl) ?_
          refine lv_iload hx hb dX5_walkGap_83 (lv_at hl 1 rfl) ?_
          refine lv_iconst (v := 1) hx hb dX5_walkGap_85 (by decide) ?_
          refine lv_isub hx hb dX5_walkGap_86 ?_
          refine lv_iload hx hb dX5_walkGap_87 (lv_at hl 0 rfl) ?_
          have hPc := hP.sub (ws' := [(h0, .inr (7, [.ref ao, .ref af, .int (nI n1_6), .int ps, .int gg, .int gm, .int fx, .int fy])), (ao, .inl (cI, 32, .inl O1_6)), (af, .inl (cI, 1024, .inl T1_6))]) [0, 1, 2] rfl
          have hDc := hD.sub (ws' := [(h0, .inr (7, [.ref ao, .ref af, .int (nI n1_6), .int ps, .int gg, .int gm, .int fx, .int fy])), (ao, .inl (cI, 32, .inl O1_6)), (af, .inl (cI, 1024, .inl T1_6))]) [0, 1, 2] (by decide) rfl
          have hFc := va_free (wc := [(h0, .inr (7, [.ref ao, .ref af, .int (nI n1_6), .int ps, .int gg, .int gm, .int fx, .int fy])), (ao, .inl (cI, 32, .inl O1_6)), (af, .inl (cI, 1024, .inl T1_6))]) hD hS hA [0, 1, 2] rfl
          refine va_callv (va_runV (As := [.int ((nI (ix (T1 z) % 32)) - 1), .int (nI (ix (T1 z) / 32))]) (rest := []) ⟨hx, hb, hml, hown, hts⟩ (c_X5_find l D cI cB cZ cP H.size h0 ao af n1_6 ps gg gm fx fy O1_6 T1_6 ((nI (ix (T1 z) % 32)) - 1) (nI (ix (T1 z) / 32)) (fun q1 q2 => FC_lt hM3 (at_lt q1) q2) (Fl_le hM3.1)) (cwV 2 hts gX5_walkGap_X5_find rfl rfl rfl (by decide +kernel) ⟨Nat.le_of_ble_eq_true rfl, Nat.le_of_ble_eq_true rfl⟩) (pVQ (q0 := 0) hPc hDc hW0 EF.t rfl rfl) rfl rfl hl.1 rfl (lv_room (Nat.le_of_ble_eq_true rfl)) dX5_walkGap_89 ⟨Nat.le_of_ble_eq_true rfl, Nat.le_of_ble_eq_true rfl⟩) hS (fun q _ h => hFc q h) hFc (fun u t H1 locs ht hvm hw hB hz1 hk1 hS => ?_)
          obtain ⟨n1_7, O1_7, T1_7⟩ := u
          obtain ⟨hP1, hD1⟩ := hB
          rw [ht] at hP1
          have hw_7 : FD ((nI (ix (T1 z) % 32)) - 1) (nI (ix (T1 z) / 32)) O1_6 T1_6 O1_7 T1_7 n1_6 n1_7 := hw
          obtain ⟨hP, hD⟩ := va_join (wr := []) (w1 := [(h0, .inr (7, [.ref ao, .ref af, .int (nI n1_7), .int ps, .int gg, .int gm, .int fx, .int fy])), (ao, .inl (cI, 32, .inl O1_7)), (af, .inl (cI, 1024, .inl T1_7))]) hP hD [0, 1, 2] [] rfl rfl (by decide) (by decide) hk1 hFc hP1 hD1
          generalize H1 = H at hP hS ⊢
          have hP := hP.sub (ws' := [(h0, .inr (7, [.ref ao, .ref af, .int (nI n1_7), .int ps, .int gg, .int gm, .int fx, .int fy])), (ao, .inl (cI, 32, .inl O1_7)), (af, .inl (cI, 1024, .inl T1_7))]) [0, 1, 2] rfl
          have hD := hD.sub (ws' := [(h0, .inr (7, [.ref ao, .ref af, .int (nI n1_7), .int ps, .int gg, .int gm, .int fx, .int fy])), (ao, .inl (cI, 32, .inl O1_7)), (af, .inl (cI, 1024, .inl T1_7))]) [0, 1, 2] (by decide) rfl
          have hS4 := FC_find hM3 (FC_conn hM3 hkz3 (by rw [hT3]; exact Or.inr (Or.inl ⟨rfl, rfl⟩))) hw_7
          have hM4 := hS4.1
          have hT4 : T1_7 z = T1 z := (hS4.2.1 z hkz3).trans hT3
          have hkz4 : z < n1_7 := by have := hS4.2.2; omega
          have hN4 : ¬ bt O1_7 (32 * yy + xx) := FC_keep (by omega) hN3 hw_7
          refine lv_iinc (v := nI (z + 1)) (lv' := [(3, .int (nI (z + 1))), (5, .int (nI (ix (T1 z) / 32))), (4, .int (nI (ix (T1 z) % 32))), (0, .ref h0)]) hx hb dX5_walkGap_92 hl (k := 3) rfl (nI_1 _) (by decide) rfl (fun ls hl => ?_)
          refine lv_goto (tgt := 13) hx hb dX5_walkGap_95 (by decide) ?_
          exact ih_13 (z + 1) n1_7 O1_7 T1_7 (FC_nx hM4 hkz4 (fun j hj => ((hO j).mpr hj).1) (by rw [hT4]; intro j hj; rcases hj with q | q | q | q; exact Or.inl (Or.inr q); exact Or.inr q; exact Or.inl (Or.inl (Or.inl (Or.inr q))); exact Or.inl (Or.inl (Or.inr q)))) (hN4) (by omega) _ _ hP hD hS ls (lv_sub hl [3, 0] rfl)
  exact LOOP_13 (1024 - 0 + 1) 0 n1_1 O1_1 T1_1 (hFM9) (hN0) (Nat.lt_succ_self _) _ _ hP hD hS ls (lv_sub hl [1, 0] rfl)

set_option maxHeartbeats 4000000 in
set_option maxRecDepth 100000 in
theorem c_X5_enterGap (l : Launch) (D : va_G) (cI cB cZ cP : ClassId) (sz : Nat) (h0 ao af gc gn : Nat) (n0 ps fx fy : Int32) (O T : Nat → Int32) (Rr : Nat → Prop) (xx yy : Nat) (hO : ∀ j, (j < 1024 ∧ bt O j) ↔ Rr j) (hxx : xx < 32) (hyy : yy < 32) (hRi : Rr (32 * yy + xx)) (hgn : gn ≤ 1024) : Met l yX5_enterGap wsX5_enterGap ({ frames := 4, cells := 0, slots := 0, locals := 88 } : Room) (va_Pc [.ref h0, .int (nI xx), .int (nI yy)] (fun U => U.heap.size = sz ∧ va_P D vwCl [(h0, .inr (7, [.ref ao, .ref af, .int n0, .int ps, .int (nI gc), .int (nI gn), .int fx, .int fy])), (ao, .inl (cI, 32, .inl O)), (af, .inl (cI, 1024, .inl T))] U.heap ∧ KW D cI cB cZ cP U ∧ va_D (fun _ => True) [(h0, .inr (7, [.ref ao, .ref af, .int n0, .int ps, .int (nI gc), .int (nI gn), .int fx, .int fy])), (ao, .inl (cI, 32, .inl O)), (af, .inl (cI, 1024, .inl T))] ∧ EF [(h0, .inr (7, [.ref ao, .ref af, .int n0, .int ps, .int (nI gc), .int (nI gn), .int fx, .int fy])), (ao, .inl (cI, 32, .inl O)), (af, .inl (cI, 1024, .inl T))] sz E0 U.heap)) (va_Qv (fun (u : Nat × (Nat → Int32) × (Nat → Int32) × Nat × Int32 × Int32) => match u with | (n1, O1, T1, gn1, fx1, fy1) => (∀ j, (j < 1024 ∧ bt O1 j) ↔ (Rr j ∧ ¬ conn Rr (32 * yy + xx) j)) ∧ ((gn < cnt (conn Rr (32 * yy + xx)) 1024 ∧ gn1 = cnt (conn Rr (32 * yy + xx)) 1024 ∧ fx1 = nI xx ∧ fy1 = nI yy) ∨ (¬ gn < cnt (conn Rr (32 * yy + xx)) 1024 ∧ gn1 = gn ∧ fx1 = fx ∧ fy1 = fy))) (fun (u : Nat × (Nat → Int32) × (Nat → Int32) × Nat × Int32 × Int32) (t : State) => match u with | (n1, O1, T1, gn1, fx1, fy1) => va_P D vwCl [(h0, .inr (7, [.ref ao, .ref af, .int (nI n1), .int ps, .int (nI (gc + 1)), .int (nI gn1), .int fx1, .int fy1])), (ao, .inl (cI, 32, .inl O1)), (af, .inl (cI, 1024, .inl T1))] t.heap ∧ va_D (va_A [(h0, .inr (7, [.ref ao, .ref af, .int n0, .int ps, .int (nI gc), .int (nI gn), .int fx, .int fy])), (ao, .inl (cI, 32, .inl O)), (af, .inl (cI, 1024, .inl T))] sz) [(h0, .inr (7, [.ref ao, .ref af, .int (nI n1), .int ps, .int (nI (gc + 1)), .int (nI gn1), .int fx1, .int fy1])), (ao, .inl (cI, 32, .inl O1)), (af, .inl (cI, 1024, .inl T1))]) (va_A [(h0, .inr (7, [.ref ao, .ref af, .int n0, .int ps, .int (nI gc), .int (nI gn), .int fx, .int fy])), (ao, .inl (cI, 32, .inl O)), (af, .inl (cI, 1024, .inl T))] sz)) 0 0 (va_A [(h0, .inr (7, [.ref ao, .ref af, .int n0, .int ps, .int (nI gc), .int (nI gn), .int fx, .int fy])), (ao, .inl (cI, 32, .inl O)), (af, .inl (cI, 1024, .inl T))] sz) := by
  refine Met.ofW (cc := cX5_enterGap) (maxL := 4) (ret := none) (by decide) rfl ?_
  intro p e s m args below meth c s₁ B hml hv
  obtain ⟨rfl, hsz, hP, hW0, hD0, hE⟩ := hv
  have hx := B.exec
  have hb := B.bytes
  have hr := B.returns
  have hts := atoms_spec (ws := wsX5_enterGap) B.pre
  have hown : s.vm.findClass RX5 = some m.cls := findClass_of_methodNamed B.named
  have hlocks := B.notSynchronized
  have hK := hW0.1
  subst hsz
  have hD := hD0.self (sz := s.heap.size)
  unfold EF at hE
  generalize hAe : va_A [(h0, .inr (7, [.ref ao, .ref af, .int n0, .int ps, .int (nI gc), .int (nI gn), .int fx, .int fy])), (ao, .inl (cI, 32, .inl O)), (af, .inl (cI, 1024, .inl T))] s.heap.size = A at hD hE ⊢
  have hA : ∀ q : Nat, s.heap.size ≤ q → A q := fun q h => by rw [← hAe]; exact Or.inr h
  have hS : va_S A s.heap s.heap [] := va_S.rf
  have hl := lv_entry ([.ref h0, .int (nI xx), .int (nI yy)]) (n := 4) (Nat.le_of_ble_eq_true rfl)
  rw [lg_entry_eq]
  generalize (lg_sl ([.ref h0, .int (nI xx), .int (nI yy)]) ++ List.replicate (4 - (lg_sl ([.ref h0, .int (nI xx), .int (nI yy)])).length) Slot.unset).toArray = ls at hl ⊢
  have hl : lv_has ls 4 [(0, .ref h0), (1, .int (nI xx)), (2, .int (nI yy))] := hl
  show W p l e ({ frames := 4, cells := 0, slots := 0, locals := 88 } : Room) s m ([.ref h0, .int (nI xx), .int (nI yy)] : List Value).toArray below meth c s.heap [] 0 0 _ (F0 m 0 ls [])
  refine u_genQ (fun Q hQ => ?_)
  refine lv_aload_n hx hb dX5_enterGap_0 rfl (lv_at hl 0 rfl) ?_
  refine lv_iload_n hx hb dX5_enterGap_1 rfl (lv_at hl 1 rfl) ?_
  refine lv_iload_n hx hb dX5_enterGap_2 rfl (lv_at hl 2 rfl) ?_
  have hPc := hP.sub (ws' := [(h0, .inr (7, [.ref ao, .ref af, .int n0, .int ps, .int (nI gc), .int (nI gn), .int fx, .int fy])), (ao, .inl (cI, 32, .inl O)), (af, .inl (cI, 1024, .inl T))]) [0, 1, 2] rfl
  have hDc := hD.sub (ws' := [(h0, .inr (7, [.ref ao, .ref af, .int n0, .int ps, .int (nI gc), .int (nI gn), .int fx, .int fy])), (ao, .inl (cI, 32, .inl O)), (af, .inl (cI, 1024, .inl T))]) [0, 1, 2] (by decide) rfl
  have hFc := va_free (wc := [(h0, .inr (7, [.ref ao, .ref af, .int n0, .int ps, .int (nI gc), .int (nI gn), .int fx, .int fy])), (ao, .inl (cI, 32, .inl O)), (af, .inl (cI, 1024, .inl T))]) hD hS hA [0, 1, 2] rfl
  refine va_calli (va_runV (As := [.int (nI xx), .int (nI yy)]) (rest := []) ⟨hx, hb, hml, hown, hts⟩ (c_X5_walkGap l D cI cB cZ cP s.heap.size h0 ao af n0 ps (nI gc) (nI gn) fx fy O T Rr xx yy (by first | assumption | omega) (by first | assumption | omega) (by first | assumption | omega) (by first | assumption | omega)) (cwV 2 hts gX5_enterGap_X5_walkGap rfl rfl rfl (by decide +kernel) ⟨Nat.le_of_ble_eq_true rfl, Nat.le_of_ble_eq_true rfl⟩) (pVQ (q0 := 0) hPc hDc hW0 EF.t rfl rfl) rfl rfl hl.1 rfl (lv_room (Nat.le_of_ble_eq_true rfl)) dX5_enterGap_3 ⟨Nat.le_of_ble_eq_true rfl, Nat.le_of_ble_eq_true rfl⟩) hS (fun q _ h => hFc q h) hFc (fun r_1 u t H1 locs ht hvm hw hB hz1 hk1 hS => ?_)
  obtain ⟨n1_1, O1_1, T1_1⟩ := u
  obtain ⟨hP1, hD1⟩ := hB
  rw [ht] at hP1
  have hw_1 : r_1 = nI (cnt (conn Rr (32 * yy + xx)) 1024) ∧ ∀ j, (j < 1024 ∧ bt O1_1 j) ↔ (Rr j ∧ ¬ conn Rr (32 * yy + xx) j) := hw
  obtain ⟨hP, hD⟩ := va_join (wr := []) (w1 := [(h0, .inr (7, [.ref ao, .ref af, .int (nI n1_1), .int ps, .int (nI gc), .int (nI gn), .int fx, .int fy])), (ao, .inl (cI, 32, .inl O1_1)), (af, .inl (cI, 1024, .inl T1_1))]) hP hD [0, 1, 2] [] rfl rfl (by decide) (by decide) hk1 hFc hP1 hD1
  generalize H1 = H at hP hS ⊢
  have hP := hP.sub (ws' := [(h0, .inr (7, [.ref ao, .ref af, .int (nI n1_1), .int ps, .int (nI gc), .int (nI gn), .int fx, .int fy])), (ao, .inl (cI, 32, .inl O1_1)), (af, .inl (cI, 1024, .inl T1_1))]) [0, 1, 2] rfl
  have hD := hD.sub (ws' := [(h0, .inr (7, [.ref ao, .ref af, .int (nI n1_1), .int ps, .int (nI gc), .int (nI gn), .int fx, .int fy])), (ao, .inl (cI, 32, .inl O1_1)), (af, .inl (cI, 1024, .inl T1_1))]) [0, 1, 2] (by decide) rfl
  refine u_eqi (show r_1 = nI (cnt (conn Rr (32 * yy + xx)) 1024) from hw_1.1) ?_
  have hcn : cnt (conn Rr (32 * yy + xx)) 1024 ≤ 1024 := cnt_le _ _
  refine lv_istore_n (lv' := [(3, .int (nI (cnt (conn Rr (32 * yy + xx)) 1024))), (0, .ref h0), (1, .int (nI xx)), (2, .int (nI yy))]) hx hb dX5_enterGap_6 rfl hl (by decide) rfl (fun ls hl => ?_)
  refine lv_aload_n hx hb dX5_enterGap_7 rfl (lv_at hl 1 rfl) ?_
  refine lv_dup hx hb dX5_enterGap_8 rfl ?_
  refine va_get (D := D) (ci := 7) (v := .int (nI gc)) (C := RX5) (T := TX5) (N := 8) hx hb hts (by decide +kernel) hown hK hP 0 rfl rfl 4 (by decide) (hts (.fieldLink RX5 33 "LandDeeds$Wastes" "gaps" "I") (by decide +kernel)) (fun _ h9 => h9) rfl dX5_enterGap_9 ?_
  refine lv_iconst (v := 1) hx hb dX5_enterGap_12 (by decide) ?_
  refine lv_iadd hx hb dX5_enterGap_13 ?_
  refine u_eqi (show (nI gc) + 1 = nI (gc + 1) from nI_1 gc) ?_
  refine va_put (D := D) (ci := 7) (v := .int (nI (gc + 1))) (ty := .int) (C := RX5) (T := TX5) (N := 8) hx hb hts (by decide +kernel) tyX5 tyX5_ok nmX5 hown hK hP hD hS 0 rfl rfl 4 (by decide) (hts (.fieldLink RX5 33 "LandDeeds$Wastes" "gaps" "I") (by decide +kernel)) (fun _ h9 => h9) rfl (by decide +kernel) rfl rfl (Nat.le_of_ble_eq_true rfl) dX5_enterGap_14 (fun H locs hP hD hS => ?_)
  have hP : va_P D vwCl [(h0, .inr (7, [.ref ao, .ref af, .int (nI n1_1), .int ps, .int (nI (gc + 1)), .int (nI gn), .int fx, .int fy])), (ao, .inl (cI, 32, .inl O1_1)), (af, .inl (cI, 1024, .inl T1_1))] H := hP
  have hD : va_D A [(h0, .inr (7, [.ref ao, .ref af, .int (nI n1_1), .int ps, .int (nI (gc + 1)), .int (nI gn), .int fx, .int fy])), (ao, .inl (cI, 32, .inl O1_1)), (af, .inl (cI, 1024, .inl T1_1))] := hD
  refine lv_iload_n hx hb dX5_enterGap_17 rfl (lv_at hl 0 rfl) ?_
  refine lv_aload_n hx hb dX5_enterGap_18 rfl (lv_at hl 1 rfl) ?_
  refine va_get (D := D) (ci := 7) (v := .int (nI gn)) (C := RX5) (T := TX5) (N := 8) hx hb hts (by decide +kernel) hown hK hP 0 rfl rfl 5 (by decide) (hts (.fieldLink RX5 36 "LandDeeds$Wastes" "greatest" "I") (by decide +kernel)) (fun _ h9 => h9) rfl dX5_enterGap_19 ?_
  refine lv_icmp_le (tgt := 40) hx hb dX5_enterGap_22 (by decide) (fun c_2 => ?_) (fun c_2 => ?_)
  · skip
    have nc_2 : cnt (conn Rr (32 * yy + xx)) 1024 ≤ gn := (nI_leI (a := (cnt (conn Rr (32 * yy + xx)) 1024)) (b := gn) (by omega) (by omega)).mp c_2
    rw [← hQ]
    have hP9 := hP
    have hD9 := hD
    exact W.vret hx hb hr (fun t ht hW => ⟨⟨(n1_1, O1_1, T1_1, gn, fx, fy), rfl, ⟨hw_1.2, Or.inr ⟨by omega, rfl, rfl, rfl⟩⟩, by rw [ht]; exact hP9, hD9⟩, hS.F ht⟩) hS.2.2 dX5_enterGap_40
  · skip
    have nc_2 : ¬ (cnt (conn Rr (32 * yy + xx)) 1024 ≤ gn) := fun h => c_2 ((nI_leI (a := (cnt (conn Rr (32 * yy + xx)) 1024)) (b := gn) (by omega) (by omega)).mpr h)
    refine lv_aload_n hx hb dX5_enterGap_25 rfl (lv_at hl 1 rfl) ?_
    refine lv_iload_n hx hb dX5_enterGap_26 rfl (lv_at hl 0 rfl) ?_
    refine va_put (D := D) (ci := 7) (v := .int (nI (cnt (conn Rr (32 * yy + xx)) 1024))) (ty := .int) (C := RX5) (T := TX5) (N := 8) hx hb hts (by decide +kernel) tyX5 tyX5_ok nmX5 hown hK hP hD hS 0 rfl rfl 5 (by decide) (hts (.fieldLink RX5 36 "LandDeeds$Wastes" "greatest" "I") (by decide +kernel)) (fun _ h9 => h9) rfl (by decide +kernel) rfl rfl (Nat.le_of_ble_eq_true rfl) dX5_enterGap_27 (fun H locs hP hD hS => ?_)
    have hP : va_P D vwCl [(h0, .inr (7, [.ref ao, .ref af, .int (nI n1_1), .int ps, .int (nI (gc + 1)), .int (nI (cnt (conn Rr (32 * yy + xx)) 1024)), .int fx, .int fy])), (ao, .inl (cI, 32, .inl O1_1)), (af, .inl (cI, 1024, .inl T1_1))] H := hP
    have hD : va_D A [(h0, .inr (7, [.ref ao, .ref af, .int (nI n1_1), .int ps, .int (nI (gc + 1)), .int (nI (cnt (conn Rr (32 * yy + xx)) 1024)), .int fx, .int fy])), (ao, .inl (cI, 32, .inl O1_1)), (af, .inl (cI, 1024, .inl T1_1))] := hD
    refine lv_aload_n hx hb dX5_enterGap_30 rfl (lv_at hl 1 rfl) ?_
    refine lv_iload_n hx hb dX5_enterGap_31 rfl (lv_at hl 2 rfl) ?_
    refine va_put (D := D) (ci := 7) (v := .int (nI xx)) (ty := .int) (C := RX5) (T := TX5) (N := 8) hx hb hts (by decide +kernel) tyX5 tyX5_ok nmX5 hown hK hP hD hS 0 rfl rfl 6 (by decide) (hts (.fieldLink RX5 39 "LandDeeds$Wastes" "firstX" "I") (by decide +kernel)) (fun _ h9 => h9) rfl (by decide +kernel) rfl rfl (Nat.le_of_ble_eq_true rfl) dX5_enterGap_32 (fun H locs hP hD hS => ?_)
    have hP : va_P D vwCl [(h0, .inr (7, [.ref ao, .ref af, .int (nI n1_1), .int ps, .int (nI (gc + 1)), .int (nI (cnt (conn Rr (32 * yy + xx)) 1024)), .int (nI xx), .int fy])), (ao, .inl (cI, 32, .inl O1_1)), (af, .inl (cI, 1024, .inl T1_1))] H := hP
    have hD : va_D A [(h0, .inr (7, [.ref ao, .ref af, .int (nI n1_1), .int ps, .int (nI (gc + 1)), .int (nI (cnt (conn Rr (32 * yy + xx)) 1024)), .int (nI xx), .int fy])), (ao, .inl (cI, 32, .inl O1_1)), (af, .inl (cI, 1024, .inl T1_1))] := hD
    refine lv_aload_n hx hb dX5_enterGap_35 rfl (lv_at hl 1 rfl) ?_
    refine lv_iload_n hx hb dX5_enterGap_36 rfl (lv_at hl 3 rfl) ?_
    refine va_put (D := D) (ci := 7) (v := .int (nI yy)) (ty := .int) (C := RX5) (T := TX5) (N := 8) hx hb hts (by decide +kernel) tyX5 tyX5_ok nmX5 hown hK hP hD hS 0 rfl rfl 7 (by decide) (hts (.fieldLink RX5 42 "LandDeeds$Wastes" "firstY" "I") (by decide +kernel)) (fun _ h9 => h9) rfl (by decide +kernel) rfl rfl (Nat.le_of_ble_eq_true rfl) dX5_enterGap_37 (fun H locs hP hD hS => ?_)
    have hP : va_P D vwCl [(h0, .inr (7, [.ref ao, .ref af, .int (nI n1_1), .int ps, .int (nI (gc + 1)), .int (nI (cnt (conn Rr (32 * yy + xx)) 1024)), .int (nI xx), .int (nI yy)])), (ao, .inl (cI, 32, .inl O1_1)), (af, .inl (cI, 1024, .inl T1_1))] H := hP
    have hD : va_D A [(h0, .inr (7, [.ref ao, .ref af, .int (nI n1_1), .int ps, .int (nI (gc + 1)), .int (nI (cnt (conn Rr (32 * yy + xx)) 1024)), .int (nI xx), .int (nI yy)])), (ao, .inl (cI, 32, .inl O1_1)), (af, .inl (cI, 1024, .inl T1_1))] := hD
    rw [← hQ]
    have hP9 := hP
    have hD9 := hD
    exact W.vret hx hb hr (fun t ht hW => ⟨⟨(n1_1, O1_1, T1_1, cnt (conn Rr (32 * yy + xx)) 1024, nI xx, nI yy), rfl, ⟨hw_1.2, Or.inl ⟨by omega, rfl, rfl, rfl⟩⟩, by rw [ht]; exact hP9, hD9⟩, hS.F ht⟩) hS.2.2 dX5_enterGap_40

set_option maxHeartbeats 4000000 in
set_option maxRecDepth 100000 in
theorem c_X5_survey (l : Launch) (D : va_G) (cI cB cZ cP : ClassId) (sz : Nat) (h0 ao af : Nat) (n0 ps gg gm fx fy : Int32) (O T : Nat → Int32) (h1 ap ay k : Nat) (lo : Int32) (fp : Nat → Option Nat) (hd : Nat → Nat → Int32) (Fr : Nat → Prop) (hk : k ≤ 6) (hFr : ∀ j, (j < 1024 ∧ bit ((fun y => orr (fun _ => True) (fun z => hd z y) k ^^^ (-1)) (j / 32)) (j % 32)) ↔ Fr j) : Met l yX5_survey wsX5_survey ({ frames := 5, cells := 0, slots := 0, locals := 111 } : Room) (va_Pc [.ref h0, .ref h1] (fun U => U.heap.size = sz ∧ va_P D vwCl [(h0, .inr (7, [.ref ao, .ref af, .int n0, .int ps, .int gg, .int gm, .int fx, .int fy])), (ao, .inl (cI, 32, .inl O)), (af, .inl (cI, 1024, .inl T)), (h1, .inr (2, [.ref ap, .ref ay, .int (nI k), .int lo])), (ap, .inl (cP, 6, .inr (.inr (.inr (.inr fp)))))] U.heap ∧ KW D cI cB cZ cP U ∧ va_D (fun _ => True) [(h0, .inr (7, [.ref ao, .ref af, .int n0, .int ps, .int gg, .int gm, .int fx, .int fy])), (ao, .inl (cI, 32, .inl O)), (af, .inl (cI, 1024, .inl T)), (h1, .inr (2, [.ref ap, .ref ay, .int (nI k), .int lo])), (ap, .inl (cP, 6, .inr (.inr (.inr (.inr fp)))))] ∧ EF [(h0, .inr (7, [.ref ao, .ref af, .int n0, .int ps, .int gg, .int gm, .int fx, .int fy])), (ao, .inl (cI, 32, .inl O)), (af, .inl (cI, 1024, .inl T)), (h1, .inr (2, [.ref ap, .ref ay, .int (nI k), .int lo])), (ap, .inl (cP, 6, .inr (.inr (.inr (.inr fp)))))] sz (PO D cI fp k hd) U.heap)) (va_Qv (fun (u : Int32 × (Nat → Int32) × (Nat → Int32)) => match u with | (m1, O1, T1) => True) (fun (u : Int32 × (Nat → Int32) × (Nat → Int32)) (t : State) => match u with | (m1, O1, T1) => va_P D vwCl [(h0, .inr (7, [.ref ao, .ref af, .int m1, .int (nI (cnt2 (fun y x => bit ((fun y => orr (fun _ => True) (fun z => hd z y) k ^^^ (-1)) y) x) 32)), .int (nI (gpS Fr 1024).2.2.1), .int (nI (gpS Fr 1024).2.2.2.1), .int (fX (gpS Fr 1024).2.2.2.2), .int (fY (gpS Fr 1024).2.2.2.2)])), (ao, .inl (cI, 32, .inl O1)), (af, .inl (cI, 1024, .inl T1)), (h1, .inr (2, [.ref ap, .ref ay, .int (nI k), .int lo])), (ap, .inl (cP, 6, .inr (.inr (.inr (.inr fp)))))] t.heap ∧ va_D (va_A [(h0, .inr (7, [.ref ao, .ref af, .int n0, .int ps, .int gg, .int gm, .int fx, .int fy])), (ao, .inl (cI, 32, .inl O)), (af, .inl (cI, 1024, .inl T)), (h1, .inr (2, [.ref ap, .ref ay, .int (nI k), .int lo])), (ap, .inl (cP, 6, .inr (.inr (.inr (.inr fp)))))] sz) [(h0, .inr (7, [.ref ao, .ref af, .int m1, .int (nI (cnt2 (fun y x => bit ((fun y => orr (fun _ => True) (fun z => hd z y) k ^^^ (-1)) y) x) 32)), .int (nI (gpS Fr 1024).2.2.1), .int (nI (gpS Fr 1024).2.2.2.1), .int (fX (gpS Fr 1024).2.2.2.2), .int (fY (gpS Fr 1024).2.2.2.2)])), (ao, .inl (cI, 32, .inl O1)), (af, .inl (cI, 1024, .inl T1)), (h1, .inr (2, [.ref ap, .ref ay, .int (nI k), .int lo])), (ap, .inl (cP, 6, .inr (.inr (.inr (.inr fp)))))]) (va_A [(h0, .inr (7, [.ref ao, .ref af, .int n0, .int ps, .int gg, .int gm, .int fx, .int fy])), (ao, .inl (cI, 32, .inl O)), (af, .inl (cI, 1024, .inl T)), (h1, .inr (2, [.ref ap, .ref ay, .int (nI k), .int lo])), (ap, .inl (cP, 6, .inr (.inr (.inr (.inr fp)))))] sz)) 0 0 (va_A [(h0, .inr (7, [.ref ao, .ref af, .int n0, .int ps, .int gg, .int gm, .int fx, .int fy])), (ao, .inl (cI, 32, .inl O)), (af, .inl (cI, 1024, .inl T)), (h1, .inr (2, [.ref ap, .ref ay, .int (nI k), .int lo])), (ap, .inl (cP, 6, .inr (.inr (.inr (.inr fp)))))] sz) := by
  refine Met.ofW (cc := cX5_survey) (maxL := 4) (ret := none) (by decide) rfl ?_
  intro p e s m args below meth c s₁ B hml hv
  obtain ⟨rfl, hsz, hP, hW0, hD0, hE⟩ := hv
  have hx := B.exec
  have hb := B.bytes
  have hr := B.returns
  have hts := atoms_spec (ws := wsX5_survey) B.pre
  have hown : s.vm.findClass RX5 = some m.cls := findClass_of_methodNamed B.named
  have hlocks := B.notSynchronized
  have hK := hW0.1
  subst hsz
  have hD := hD0.self (sz := s.heap.size)
  unfold EF at hE
  generalize hAe : va_A [(h0, .inr (7, [.ref ao, .ref af, .int n0, .int ps, .int gg, .int gm, .int fx, .int fy])), (ao, .inl (cI, 32, .inl O)), (af, .inl (cI, 1024, .inl T)), (h1, .inr (2, [.ref ap, .ref ay, .int (nI k), .int lo])), (ap, .inl (cP, 6, .inr (.inr (.inr (.inr fp)))))] s.heap.size = A at hD hE ⊢
  have hA : ∀ q : Nat, s.heap.size ≤ q → A q := fun q h => by rw [← hAe]; exact Or.inr h
  have hS : va_S A s.heap s.heap [] := va_S.rf
  have hl := lv_entry ([.ref h0, .ref h1]) (n := 4) (Nat.le_of_ble_eq_true rfl)
  rw [lg_entry_eq]
  generalize (lg_sl ([.ref h0, .ref h1]) ++ List.replicate (4 - (lg_sl ([.ref h0, .ref h1])).length) Slot.unset).toArray = ls at hl ⊢
  have hl : lv_has ls 4 [(0, .ref h0), (1, .ref h1)] := hl
  show W p l e ({ frames := 5, cells := 0, slots := 0, locals := 111 } : Room) s m ([.ref h0, .ref h1] : List Value).toArray below meth c s.heap [] 0 0 _ (F0 m 0 ls [])
  refine u_genQ (fun Q hQ => ?_)
  refine lv_aload_n hx hb dX5_survey_0 rfl (lv_at hl 0 rfl) ?_
  refine lv_iconst (v := 0) hx hb dX5_survey_1 (by decide) ?_
  refine va_put (D := D) (ci := 7) (v := .int 0) (ty := .int) (C := RX5) (T := TX5) (N := 8) hx hb hts (by decide +kernel) tyX5 tyX5_ok nmX5 hown hK hP hD hS 0 rfl rfl 3 (by decide) (hts (.fieldLink RX5 18 "LandDeeds$Wastes" "posts" "I") (by decide +kernel)) (fun _ h9 => h9) rfl (by decide +kernel) rfl rfl (Nat.le_of_ble_eq_true rfl) dX5_survey_2 (fun H locs hP hD hS => ?_)
  have hP : va_P D vwCl [(h0, .inr (7, [.ref ao, .ref af, .int n0, .int 0, .int gg, .int gm, .int fx, .int fy])), (ao, .inl (cI, 32, .inl O)), (af, .inl (cI, 1024, .inl T)), (h1, .inr (2, [.ref ap, .ref ay, .int (nI k), .int lo])), (ap, .inl (cP, 6, .inr (.inr (.inr (.inr fp)))))] H := hP
  have hD : va_D A [(h0, .inr (7, [.ref ao, .ref af, .int n0, .int 0, .int gg, .int gm, .int fx, .int fy])), (ao, .inl (cI, 32, .inl O)), (af, .inl (cI, 1024, .inl T)), (h1, .inr (2, [.ref ap, .ref ay, .int (nI k), .int lo])), (ap, .inl (cP, 6, .inr (.inr (.inr (.inr fp)))))] := hD
  refine lv_iconst (v := 0) hx hb dX5_survey_5 (by decide) ?_
  refine lv_istore_n (lv' := [(2, .int 0), (0, .ref h0), (1, .ref h1)]) hx hb dX5_survey_6 rfl hl (by decide) rfl (fun ls hl => ?_)
  have LOOP_7 : ∀ (fu : Nat) (y : Nat) (O : Nat → Int32) (hy : y ≤ 32) (hOr : ∀ j, j < y → O j = (fun y => orr (fun _ => True) (fun z => hd z y) k ^^^ (-1)) j) (hn : 32 - y < fu) (H : Heap) (locs : List Loc) (hP : va_P D vwCl [(h0, .inr (7, [.ref ao, .ref af, .int n0, .int (nI (cnt2 (fun y x => bit ((fun y => orr (fun _ => True) (fun z => hd z y) k ^^^ (-1)) y) x) y)), .int gg, .int gm, .int fx, .int fy])), (ao, .inl (cI, 32, .inl O)), (af, .inl (cI, 1024, .inl T)), (h1, .inr (2, [.ref ap, .ref ay, .int (nI k), .int lo])), (ap, .inl (cP, 6, .inr (.inr (.inr (.inr fp)))))] H) (hD : va_D A [(h0, .inr (7, [.ref ao, .ref af, .int n0, .int (nI (cnt2 (fun y x => bit ((fun y => orr (fun _ => True) (fun z => hd z y) k ^^^ (-1)) y) x) y)), .int gg, .int gm, .int fx, .int fy])), (ao, .inl (cI, 32, .inl O)), (af, .inl (cI, 1024, .inl T)), (h1, .inr (2, [.ref ap, .ref ay, .int (nI k), .int lo])), (ap, .inl (cP, 6, .inr (.inr (.inr (.inr fp)))))]) (hS : va_S A s.heap H locs) (ls : Array Slot) (hl : lv_has ls 4 [(0, .ref h0), (1, .ref h1), (2, .int (nI y))]), W p l e ({ frames := 5, cells := 0, slots := 0, locals := 111 } : Room) s m ([.ref h0, .ref h1] : List Value).toArray below meth c H locs 0 0 Q (F0 m 7 ls []) := by
    intro fu
    induction fu with
    | zero => intro y O hy hOr hn H locs hP hD hS ls hl; exact absurd hn (Nat.not_lt_zero _)
    | succ fu ih_7 =>
      intro y O hy hOr hn H locs hP hD hS ls hl
      refine lv_iload_n hx hb dX5_survey_7 rfl (lv_at hl 2 rfl) ?_
      refine lv_bipush (v := 32) hx hb dX5_survey_8 (by decide) ?_
      refine lv_icmp_ge (tgt := 48) hx hb dX5_survey_10 (by decide) (fun c_1 => ?_) (fun c_1 => ?_)
      · skip
        have nc_1 : 32 ≤ y := (nI_leI (a := 32) (b := y) (by omega) (by omega)).mp c_1
        obtain rfl : 32 = y := by omega
        refine lv_aload_n hx hb dX5_survey_48 rfl (lv_at hl 0 rfl) ?_
        refine lv_iconst (v := 0) hx hb dX5_survey_49 (by decide) ?_
        refine va_put (D := D) (ci := 7) (v := .int 0) (ty := .int) (C := RX5) (T := TX5) (N := 8) hx hb hts (by decide +kernel) tyX5 tyX5_ok nmX5 hown hK hP hD hS 0 rfl rfl 4 (by decide) (hts (.fieldLink RX5 33 "LandDeeds$Wastes" "gaps" "I") (by decide +kernel)) (fun _ h9 => h9) rfl (by decide +kernel) rfl rfl (Nat.le_of_ble_eq_true rfl) dX5_survey_50 (fun H locs hP hD hS => ?_)
        have hP : va_P D vwCl [(h0, .inr (7, [.ref ao, .ref af, .int n0, .int (nI (cnt2 (fun y x => bit ((fun y => orr (fun _ => True) (fun z => hd z y) k ^^^ (-1)) y) x) 32)), .int 0, .int gm, .int fx, .int fy])), (ao, .inl (cI, 32, .inl O)), (af, .inl (cI, 1024, .inl T)), (h1, .inr (2, [.ref ap, .ref ay, .int (nI k), .int lo])), (ap, .inl (cP, 6, .inr (.inr (.inr (.inr fp)))))] H := hP
        have hD : va_D A [(h0, .inr (7, [.ref ao, .ref af, .int n0, .int (nI (cnt2 (fun y x => bit ((fun y => orr (fun _ => True) (fun z => hd z y) k ^^^ (-1)) y) x) 32)), .int 0, .int gm, .int fx, .int fy])), (ao, .inl (cI, 32, .inl O)), (af, .inl (cI, 1024, .inl T)), (h1, .inr (2, [.ref ap, .ref ay, .int (nI k), .int lo])), (ap, .inl (cP, 6, .inr (.inr (.inr (.inr fp)))))] := hD
        refine lv_aload_n hx hb dX5_survey_53 rfl (lv_at hl 0 rfl) ?_
        refine lv_iconst (v := 0) hx hb dX5_survey_54 (by decide) ?_
        refine va_put (D := D) (ci := 7) (v := .int 0) (ty := .int) (C := RX5) (T := TX5) (N := 8) hx hb hts (by decide +kernel) tyX5 tyX5_ok nmX5 hown hK hP hD hS 0 rfl rfl 5 (by decide) (hts (.fieldLink RX5 36 "LandDeeds$Wastes" "greatest" "I") (by decide +kernel)) (fun _ h9 => h9) rfl (by decide +kernel) rfl rfl (Nat.le_of_ble_eq_true rfl) dX5_survey_55 (fun H locs hP hD hS => ?_)
        have hP : va_P D vwCl [(h0, .inr (7, [.ref ao, .ref af, .int n0, .int (nI (cnt2 (fun y x => bit ((fun y => orr (fun _ => True) (fun z => hd z y) k ^^^ (-1)) y) x) 32)), .int 0, .int 0, .int fx, .int fy])), (ao, .inl (cI, 32, .inl O)), (af, .inl (cI, 1024, .inl T)), (h1, .inr (2, [.ref ap, .ref ay, .int (nI k), .int lo])), (ap, .inl (cP, 6, .inr (.inr (.inr (.inr fp)))))] H := hP
        have hD : va_D A [(h0, .inr (7, [.ref ao, .ref af, .int n0, .int (nI (cnt2 (fun y x => bit ((fun y => orr (fun _ => True) (fun z => hd z y) k ^^^ (-1)) y) x) 32)), .int 0, .int 0, .int fx, .int fy])), (ao, .inl (cI, 32, .inl O)), (af, .inl (cI, 1024, .inl T)), (h1, .inr (2, [.ref ap, .ref ay, .int (nI k), .int lo])), (ap, .inl (cP, 6, .inr (.inr (.inr (.inr fp)))))] := hD
        refine lv_aload_n hx hb dX5_survey_58 rfl (lv_at hl 0 rfl) ?_
        refine lv_bipush (v := (-6)) hx hb dX5_survey_59 (by decide) ?_
        refine va_put (D := D) (ci := 7) (v := .int (-6)) (ty := .int) (C := RX5) (T := TX5) (N := 8) hx hb hts (by decide +kernel) tyX5 tyX5_ok nmX5 hown hK hP hD hS 0 rfl rfl 6 (by decide) (hts (.fieldLink RX5 39 "LandDeeds$Wastes" "firstX" "I") (by decide +kernel)) (fun _ h9 => h9) rfl (by decide +kernel) rfl rfl (Nat.le_of_ble_eq_true rfl) dX5_survey_61 (fun H locs hP hD hS => ?_)
        have hP : va_P D vwCl [(h0, .inr (7, [.ref ao, .ref af, .int n0, .int (nI (cnt2 (fun y x => bit ((fun y => orr (fun _ => True) (fun z => hd z y) k ^^^ (-1)) y) x) 32)), .int 0, .int 0, .int (-6), .int fy])), (ao, .inl (cI, 32, .inl O)), (af, .inl (cI, 1024, .inl T)), (h1, .inr (2, [.ref ap, .ref ay, .int (nI k), .int lo])), (ap, .inl (cP, 6, .inr (.inr (.inr (.inr fp)))))] H := hP
        have hD : va_D A [(h0, .inr (7, [.ref ao, .ref af, .int n0, .int (nI (cnt2 (fun y x => bit ((fun y => orr (fun _ => True) (fun z => hd z y) k ^^^ (-1)) y) x) 32)), .int 0, .int 0, .int (-6), .int fy])), (ao, .inl (cI, 32, .inl O)), (af, .inl (cI, 1024, .inl T)), (h1, .inr (2, [.ref ap, .ref ay, .int (nI k), .int lo])), (ap, .inl (cP, 6, .inr (.inr (.inr (.inr fp)))))] := hD
        refine lv_aload_n hx hb dX5_survey_64 rfl (lv_at hl 0 rfl) ?_
        refine lv_bipush (v := (-6)) hx hb dX5_survey_65 (by decide) ?_
        refine va_put (D := D) (ci := 7) (v := .int (-6)) (ty := .int) (C := RX5) (T := TX5) (N := 8) hx hb hts (by decide +kernel) tyX5 tyX5_ok nmX5 hown hK hP hD hS 0 rfl rfl 7 (by decide) (hts (.fieldLink RX5 42 "LandDeeds$Wastes" "firstY" "I") (by decide +kernel)) (fun _ h9 => h9) rfl (by decide +kernel) rfl rfl (Nat.le_of_ble_eq_true rfl) dX5_survey_67 (fun H locs hP hD hS => ?_)
        have hP : va_P D vwCl [(h0, .inr (7, [.ref ao, .ref af, .int n0, .int (nI (cnt2 (fun y x => bit ((fun y => orr (fun _ => True) (fun z => hd z y) k ^^^ (-1)) y) x) 32)), .int 0, .int 0, .int (-6), .int (-6)])), (ao, .inl (cI, 32, .inl O)), (af, .inl (cI, 1024, .inl T)), (h1, .inr (2, [.ref ap, .ref ay, .int (nI k), .int lo])), (ap, .inl (cP, 6, .inr (.inr (.inr (.inr fp)))))] H := hP
        have hD : va_D A [(h0, .inr (7, [.ref ao, .ref af, .int n0, .int (nI (cnt2 (fun y x => bit ((fun y => orr (fun _ => True) (fun z => hd z y) k ^^^ (-1)) y) x) 32)), .int 0, .int 0, .int (-6), .int (-6)])), (ao, .inl (cI, 32, .inl O)), (af, .inl (cI, 1024, .inl T)), (h1, .inr (2, [.ref ap, .ref ay, .int (nI k), .int lo])), (ap, .inl (cP, 6, .inr (.inr (.inr (.inr fp)))))] := hD
        have hfr0 : Fr = fun j => j < 1024 ∧ bit ((fun y => orr (fun _ => True) (fun z => hd z y) k ^^^ (-1)) (j / 32)) (j % 32) := funext (fun j => propext (hFr j).symm)
        have hFlt : ∀ j, Fr j → j < 1024 := fun j q => ((hFr j).mpr q).1
        have hG0 : ∀ j, (j < 1024 ∧ bt O j) ↔ (gpS Fr (32 * 0)).1 j := fun j => by refine Iff.trans ?_ (hFr j); exact ⟨fun q => ⟨q.1, by have h9 := q.2; unfold bt at h9; rw [hOr _ (by omega)] at h9; exact h9⟩, fun q => ⟨q.1, by unfold bt; rw [hOr _ (by omega)]; exact q.2⟩⟩
        have hP : va_P D vwCl [(h0, .inr (7, [.ref ao, .ref af, .int n0, .int (nI (cnt2 (fun y x => bit ((fun y => orr (fun _ => True) (fun z => hd z y) k ^^^ (-1)) y) x) 32)), .int (nI (gpS Fr (32 * 0)).2.2.1), .int (nI (gpS Fr (32 * 0)).2.2.2.1), .int (fX (gpS Fr (32 * 0)).2.2.2.2), .int (fY (gpS Fr (32 * 0)).2.2.2.2)])), (ao, .inl (cI, 32, .inl O)), (af, .inl (cI, 1024, .inl T)), (h1, .inr (2, [.ref ap, .ref ay, .int (nI k), .int lo])), (ap, .inl (cP, 6, .inr (.inr (.inr (.inr fp)))))] H := hP
        have hD : va_D A [(h0, .inr (7, [.ref ao, .ref af, .int n0, .int (nI (cnt2 (fun y x => bit ((fun y => orr (fun _ => True) (fun z => hd z y) k ^^^ (-1)) y) x) 32)), .int (nI (gpS Fr (32 * 0)).2.2.1), .int (nI (gpS Fr (32 * 0)).2.2.2.1), .int (fX (gpS Fr (32 * 0)).2.2.2.2), .int (fY (gpS Fr (32 * 0)).2.2.2.2)])), (ao, .inl (cI, 32, .inl O)), (af, .inl (cI, 1024, .inl T)), (h1, .inr (2, [.ref ap, .ref ay, .int (nI k), .int lo])), (ap, .inl (cP, 6, .inr (.inr (.inr (.inr fp)))))] := hD
        refine lv_iconst (v := 0) hx hb dX5_survey_70 (by decide) ?_
        refine lv_istore_n (lv' := [(2, .int 0), (0, .ref h0), (1, .ref h1)]) hx hb dX5_survey_71 rfl hl (by decide) rfl (fun ls hl => ?_)
        have LOOP_72 : ∀ (fu : Nat) (y : Nat) (n0 : Int32) (O : Nat → Int32) (T : Nat → Int32) (hy : y ≤ 32) (hG : ∀ j, (j < 1024 ∧ bt O j) ↔ (gpS Fr (32 * y)).1 j) (hn : 32 - y < fu) (H : Heap) (locs : List Loc) (hP : va_P D vwCl [(h0, .inr (7, [.ref ao, .ref af, .int n0, .int (nI (cnt2 (fun y x => bit ((fun y => orr (fun _ => True) (fun z => hd z y) k ^^^ (-1)) y) x) 32)), .int (nI (gpS Fr (32 * y)).2.2.1), .int (nI (gpS Fr (32 * y)).2.2.2.1), .int (fX (gpS Fr (32 * y)).2.2.2.2), .int (fY (gpS Fr (32 * y)).2.2.2.2)])), (ao, .inl (cI, 32, .inl O)), (af, .inl (cI, 1024, .inl T)), (h1, .inr (2, [.ref ap, .ref ay, .int (nI k), .int lo])), (ap, .inl (cP, 6, .inr (.inr (.inr (.inr fp)))))] H) (hD : va_D A [(h0, .inr (7, [.ref ao, .ref af, .int n0, .int (nI (cnt2 (fun y x => bit ((fun y => orr (fun _ => True) (fun z => hd z y) k ^^^ (-1)) y) x) 32)), .int (nI (gpS Fr (32 * y)).2.2.1), .int (nI (gpS Fr (32 * y)).2.2.2.1), .int (fX (gpS Fr (32 * y)).2.2.2.2), .int (fY (gpS Fr (32 * y)).2.2.2.2)])), (ao, .inl (cI, 32, .inl O)), (af, .inl (cI, 1024, .inl T)), (h1, .inr (2, [.ref ap, .ref ay, .int (nI k), .int lo])), (ap, .inl (cP, 6, .inr (.inr (.inr (.inr fp)))))]) (hS : va_S A s.heap H locs) (ls : Array Slot) (hl : lv_has ls 4 [(0, .ref h0), (2, .int (nI y))]), W p l e ({ frames := 5, cells := 0, slots := 0, locals := 111 } : Room) s m ([.ref h0, .ref h1] : List Value).toArray below meth c H locs 0 0 Q (F0 m 72 ls []) := by
          intro fu
          induction fu with
          | zero => intro y n0 O T hy hG hn H locs hP hD hS ls hl; exact absurd hn (Nat.not_lt_zero _)
          | succ fu ih_72 =>
            intro y n0 O T hy hG hn H locs hP hD hS ls hl
            refine lv_iload_n hx hb dX5_survey_72 rfl (lv_at hl 1 rfl) ?_
            refine lv_bipush (v := 32) hx hb dX5_survey_73 (by decide) ?_
            refine lv_icmp_ge (tgt := 117) hx hb dX5_survey_75 (by decide) (fun c_2 => ?_) (fun c_2 => ?_)
            · skip
              have nc_2 : 32 ≤ y := (nI_leI (a := 32) (b := y) (by omega) (by omega)).mp c_2
              have hy9 : 32 * y = 1024 := by omega
              rw [hy9] at hP hD
              rw [← hQ]
              have hP9 := hP
              have hD9 := hD
              exact W.vret hx hb hr (fun t ht hW => ⟨⟨(n0, O, T), rfl, trivial, by rw [ht]; exact hP9, hD9⟩, hS.F ht⟩) hS.2.2 dX5_survey_117
            · skip
              have nc_2 : ¬ (32 ≤ y) := fun h => c_2 ((nI_leI (a := 32) (b := y) (by omega) (by omega)).mpr h)
              have hy32 : y < 32 := by omega
              refine lv_iconst (v := 0) hx hb dX5_survey_78 (by decide) ?_
              refine lv_istore_n (lv' := [(3, .int 0), (0, .ref h0), (2, .int (nI y))]) hx hb dX5_survey_79 rfl hl (by decide) rfl (fun ls hl => ?_)
              have LOOP_80 : ∀ (fu : Nat) (x : Nat) (n0 : Int32) (O : Nat → Int32) (T : Nat → Int32) (hx0 : x ≤ 32) (hG : ∀ j, (j < 1024 ∧ bt O j) ↔ (gpS Fr (32 * y + x)).1 j) (hn : 32 - x < fu) (H : Heap) (locs : List Loc) (hP : va_P D vwCl [(h0, .inr (7, [.ref ao, .ref af, .int n0, .int (nI (cnt2 (fun y x => bit ((fun y => orr (fun _ => True) (fun z => hd z y) k ^^^ (-1)) y) x) 32)), .int (nI (gpS Fr (32 * y + x)).2.2.1), .int (nI (gpS Fr (32 * y + x)).2.2.2.1), .int (fX (gpS Fr (32 * y + x)).2.2.2.2), .int (fY (gpS Fr (32 * y + x)).2.2.2.2)])), (ao, .inl (cI, 32, .inl O)), (af, .inl (cI, 1024, .inl T)), (h1, .inr (2, [.ref ap, .ref ay, .int (nI k), .int lo])), (ap, .inl (cP, 6, .inr (.inr (.inr (.inr fp)))))] H) (hD : va_D A [(h0, .inr (7, [.ref ao, .ref af, .int n0, .int (nI (cnt2 (fun y x => bit ((fun y => orr (fun _ => True) (fun z => hd z y) k ^^^ (-1)) y) x) 32)), .int (nI (gpS Fr (32 * y + x)).2.2.1), .int (nI (gpS Fr (32 * y + x)).2.2.2.1), .int (fX (gpS Fr (32 * y + x)).2.2.2.2), .int (fY (gpS Fr (32 * y + x)).2.2.2.2)])), (ao, .inl (cI, 32, .inl O)), (af, .inl (cI, 1024, .inl T)), (h1, .inr (2, [.ref ap, .ref ay, .int (nI k), .int lo])), (ap, .inl (cP, 6, .inr (.inr (.inr (.inr fp)))))]) (hS : va_S A s.heap H locs) (ls : Array Slot) (hl : lv_has ls 4 [(0, .ref h0), (2, .int (nI y)), (3, .int (nI x))]), W p l e ({ frames := 5, cells := 0, slots := 0, locals := 111 } : Room) s m ([.ref h0, .ref h1] : List Value).toArray below meth c H locs 0 0 Q (F0 m 80 ls []) := by
                intro fu
                induction fu with
                | zero => intro x n0 O T hx0 hG hn H locs hP hD hS ls hl; exact absurd hn (Nat.not_lt_zero _)
                | succ fu ih_80 =>
                  intro x n0 O T hx0 hG hn H locs hP hD hS ls hl
                  refine lv_iload_n hx hb dX5_survey_80 rfl (lv_at hl 2 rfl) ?_
                  refine lv_bipush (v := 32) hx hb dX5_survey_81 (by decide) ?_
                  refine lv_icmp_ge (tgt := 111) hx hb dX5_survey_83 (by decide) (fun c_3 => ?_) (fun c_3 => ?_)
                  · skip
                    have nc_3 : 32 ≤ x := (nI_leI (a := 32) (b := x) (by omega) (by omega)).mp c_3
                    refine lv_iinc (v := nI (y + 1)) (lv' := [(2, .int (nI (y + 1))), (0, .ref h0), (3, .int (nI x))]) hx hb dX5_survey_111 hl (k := 1) rfl (nI_1 _) (by decide) rfl (fun ls hl => ?_)
                    refine lv_goto (tgt := 72) hx hb dX5_survey_114 (by decide) ?_
                    exact ih_72 (y + 1) n0 O T (by omega) (by rw [show 32 * (y + 1) = 32 * y + x by omega]; exact hG) (by omega) _ _ (by rw [show 32 * (y + 1) = 32 * y + x by omega]; exact hP) (by rw [show 32 * (y + 1) = 32 * y + x by omega]; exact hD) hS ls (lv_sub hl [1, 0] rfl)
                  · skip
                    have nc_3 : ¬ (32 ≤ x) := fun h => c_3 ((nI_leI (a := 32) (b := x) (by omega) (by omega)).mpr h)
                    have hx32 : x < 32 := by omega
                    have hgi := gpS_inv hFlt (32 * y + x)
                    refine lv_aload_n hx hb dX5_survey_86 rfl (lv_at hl 0 rfl) ?_
                    refine va_get (D := D) (ci := 7) (v := .ref ao) (C := RX5) (T := TX5) (N := 8) hx hb hts (by decide +kernel) hown hK hP 0 rfl rfl 0 (by decide) (hts (.fieldLink RX5 9 "LandDeeds$Wastes" "open" "[I") (by decide +kernel)) (fun _ h9 => h9) rfl dX5_survey_87 ?_
                    refine lv_iload_n hx hb dX5_survey_90 rfl (lv_at hl 1 rfl) ?_
                    refine u_iald hx hb hK hP 1 0 rfl rfl rfl ⟨by omega, by omega⟩ dX5_survey_91 ?_
                    refine lv_iload_n hx hb dX5_survey_92 rfl (lv_at hl 2 rfl) ?_
                    have hPc := hP.sub (ws' := []) [] rfl
                    refine u_callSi (va_runSN (As := [.int (O y), .int (nI x)]) (rest := []) ⟨hx, hb, hml, hown, hts⟩ (c_X6_isIn l D cI cB cZ cP (O y) (nI x) ) ⟨va_cnB 2 hts gX5_survey_X6_isIn_n45 rfl rfl rfl (hW0.n_RX5_45) (hts (.initialized RX6) (by decide +kernel)) (by decide +kernel) ⟨Nat.le_of_ble_eq_true rfl, Nat.le_of_ble_eq_true rfl⟩, (hts (.static yX6_isIn) (by decide +kernel)), trivial⟩ (pS hPc hW0 trivial) rfl rfl hl.1 rfl (lv_room (Nat.le_of_ble_eq_true rfl)) dX5_survey_93 ⟨Nat.le_of_ble_eq_true rfl, Nat.le_of_ble_eq_true rfl⟩).run ?_
                    refine lv_if_eq (tgt := 105) hx hb dX5_survey_96 (by decide) (fun c_4 => ?_) (fun c_4 => ?_)
                    · skip
                      have nc_4 := zb_eq0.mp c_4
                      have hng : ¬ (gpS Fr (32 * y + x)).1 (32 * y + x) := fun q => nc_4 ((isIn_bit hx32).mpr (by have h9 := ((hG _).mpr q).2; unfold bt at h9; rw [show (32 * y + x) / 32 = y by omega, show (32 * y + x) % 32 = x by omega] at h9; exact h9))
                      refine lv_iinc (v := nI (x + 1)) (lv' := [(3, .int (nI (x + 1))), (0, .ref h0), (2, .int (nI y))]) hx hb dX5_survey_105 hl (k := 2) rfl (nI_1 _) (by decide) rfl (fun ls hl => ?_)
                      refine lv_goto (tgt := 80) hx hb dX5_survey_108 (by decide) ?_
                      exact ih_80 (x + 1) n0 O T (by omega) (by rw [show 32 * y + (x + 1) = 32 * y + x + 1 by omega, gpS_f hng]; exact hG) (by omega) _ _ (by rw [show 32 * y + (x + 1) = 32 * y + x + 1 by omega, gpS_f hng]; exact hP) (by rw [show 32 * y + (x + 1) = 32 * y + x + 1 by omega, gpS_f hng]; exact hD) hS ls (lv_sub hl [1, 2, 0] rfl)
                    · skip
                      have nc_4 := zb_ne0.mp c_4
                      have hyg : (gpS Fr (32 * y + x)).1 (32 * y + x) := (hG _).mp ⟨by omega, by unfold bt; rw [show (32 * y + x) / 32 = y by omega, show (32 * y + x) % 32 = x by omega]; exact (isIn_bit hx32).mp nc_4⟩
                      refine lv_aload_n hx hb dX5_survey_99 rfl (lv_at hl 0 rfl) ?_
                      refine lv_iload_n hx hb dX5_survey_100 rfl (lv_at hl 2 rfl) ?_
                      refine lv_iload_n hx hb dX5_survey_101 rfl (lv_at hl 1 rfl) ?_
                      have hPc := hP.sub (ws' := [(h0, .inr (7, [.ref ao, .ref af, .int n0, .int (nI (cnt2 (fun y x => bit ((fun y => orr (fun _ => True) (fun z => hd z y) k ^^^ (-1)) y) x) 32)), .int (nI ((gpS Fr (32 * y + x)).2.2.1)), .int (nI ((gpS Fr (32 * y + x)).2.2.2.1)), .int (fX (gpS Fr (32 * y + x)).2.2.2.2), .int (fY (gpS Fr (32 * y + x)).2.2.2.2)])), (ao, .inl (cI, 32, .inl O)), (af, .inl (cI, 1024, .inl T))]) [0, 1, 2] rfl
                      have hDc := hD.sub (ws' := [(h0, .inr (7, [.ref ao, .ref af, .int n0, .int (nI (cnt2 (fun y x => bit ((fun y => orr (fun _ => True) (fun z => hd z y) k ^^^ (-1)) y) x) 32)), .int (nI ((gpS Fr (32 * y + x)).2.2.1)), .int (nI ((gpS Fr (32 * y + x)).2.2.2.1)), .int (fX (gpS Fr (32 * y + x)).2.2.2.2), .int (fY (gpS Fr (32 * y + x)).2.2.2.2)])), (ao, .inl (cI, 32, .inl O)), (af, .inl (cI, 1024, .inl T))]) [0, 1, 2] (by decide) rfl
                      have hFc := va_free (wc := [(h0, .inr (7, [.ref ao, .ref af, .int n0, .int (nI (cnt2 (fun y x => bit ((fun y => orr (fun _ => True) (fun z => hd z y) k ^^^ (-1)) y) x) 32)), .int (nI ((gpS Fr (32 * y + x)).2.2.1)), .int (nI ((gpS Fr (32 * y + x)).2.2.2.1)), .int (fX (gpS Fr (32 * y + x)).2.2.2.2), .int (fY (gpS Fr (32 * y + x)).2.2.2.2)])), (ao, .inl (cI, 32, .inl O)), (af, .inl (cI, 1024, .inl T))]) hD hS hA [0, 1, 2] rfl
                      refine va_callv (va_runV (As := [.int (nI x), .int (nI y)]) (rest := []) ⟨hx, hb, hml, hown, hts⟩ (c_X5_enterGap l D cI cB cZ cP H.size h0 ao af ((gpS Fr (32 * y + x)).2.2.1) ((gpS Fr (32 * y + x)).2.2.2.1) n0 (nI (cnt2 (fun y x => bit ((fun y => orr (fun _ => True) (fun z => hd z y) k ^^^ (-1)) y) x) 32)) (fX (gpS Fr (32 * y + x)).2.2.2.2) (fY (gpS Fr (32 * y + x)).2.2.2.2) O T ((gpS Fr (32 * y + x)).1) x y (hG) (hx32) (hy32) (hyg) (hgi.2.2.2.1)) (cwV 2 hts gX5_survey_X5_enterGap rfl rfl rfl (by decide +kernel) ⟨Nat.le_of_ble_eq_true rfl, Nat.le_of_ble_eq_true rfl⟩) (pVQ (q0 := 0) hPc hDc hW0 EF.t rfl rfl) rfl rfl hl.1 rfl (lv_room (Nat.le_of_ble_eq_true rfl)) dX5_survey_102 ⟨Nat.le_of_ble_eq_true rfl, Nat.le_of_ble_eq_true rfl⟩) hS (fun q _ h => hFc q h) hFc (fun u t H1 locs ht hvm hw hB hz1 hk1 hS => ?_)
                      obtain ⟨n1_5, O1_5, T1_5, gn1_5, fx1_5, fy1_5⟩ := u
                      obtain ⟨hP1, hD1⟩ := hB
                      rw [ht] at hP1
                      have hw_5 : (∀ j, (j < 1024 ∧ bt O1_5 j) ↔ (((gpS Fr (32 * y + x)).1) j ∧ ¬ conn ((gpS Fr (32 * y + x)).1) (32 * y + x) j)) ∧ ((((gpS Fr (32 * y + x)).2.2.2.1) < cnt (conn ((gpS Fr (32 * y + x)).1) (32 * y + x)) 1024 ∧ gn1_5 = cnt (conn ((gpS Fr (32 * y + x)).1) (32 * y + x)) 1024 ∧ fx1_5 = nI x ∧ fy1_5 = nI y) ∨ (¬ ((gpS Fr (32 * y + x)).2.2.2.1) < cnt (conn ((gpS Fr (32 * y + x)).1) (32 * y + x)) 1024 ∧ gn1_5 = ((gpS Fr (32 * y + x)).2.2.2.1) ∧ fx1_5 = (fX (gpS Fr (32 * y + x)).2.2.2.2) ∧ fy1_5 = (fY (gpS Fr (32 * y + x)).2.2.2.2))) := hw
                      obtain ⟨hP, hD⟩ := va_join (wr := [(h1, .inr (2, [.ref ap, .ref ay, .int (nI k), .int lo])), (ap, .inl (cP, 6, .inr (.inr (.inr (.inr fp)))))]) (w1 := [(h0, .inr (7, [.ref ao, .ref af, .int (nI n1_5), .int (nI (cnt2 (fun y x => bit ((fun y => orr (fun _ => True) (fun z => hd z y) k ^^^ (-1)) y) x) 32)), .int (nI (((gpS Fr (32 * y + x)).2.2.1) + 1)), .int (nI gn1_5), .int fx1_5, .int fy1_5])), (ao, .inl (cI, 32, .inl O1_5)), (af, .inl (cI, 1024, .inl T1_5))]) hP hD [0, 1, 2] [3, 4] rfl rfl (by decide) (by decide) hk1 hFc hP1 hD1
                      generalize H1 = H at hP hS ⊢
                      have hP := hP.sub (ws' := [(h0, .inr (7, [.ref ao, .ref af, .int (nI n1_5), .int (nI (cnt2 (fun y x => bit ((fun y => orr (fun _ => True) (fun z => hd z y) k ^^^ (-1)) y) x) 32)), .int (nI (((gpS Fr (32 * y + x)).2.2.1) + 1)), .int (nI gn1_5), .int fx1_5, .int fy1_5])), (ao, .inl (cI, 32, .inl O1_5)), (af, .inl (cI, 1024, .inl T1_5)), (h1, .inr (2, [.ref ap, .ref ay, .int (nI k), .int lo])), (ap, .inl (cP, 6, .inr (.inr (.inr (.inr fp)))))]) [2, 3, 4, 0, 1] rfl
                      have hD := hD.sub (ws' := [(h0, .inr (7, [.ref ao, .ref af, .int (nI n1_5), .int (nI (cnt2 (fun y x => bit ((fun y => orr (fun _ => True) (fun z => hd z y) k ^^^ (-1)) y) x) 32)), .int (nI (((gpS Fr (32 * y + x)).2.2.1) + 1)), .int (nI gn1_5), .int fx1_5, .int fy1_5])), (ao, .inl (cI, 32, .inl O1_5)), (af, .inl (cI, 1024, .inl T1_5)), (h1, .inr (2, [.ref ap, .ref ay, .int (nI k), .int lo])), (ap, .inl (cP, 6, .inr (.inr (.inr (.inr fp)))))]) [2, 3, 4, 0, 1] (by decide) rfl
                      have hgs : (gpS Fr (32 * y + (x + 1))) = _ := (congrArg (gpS Fr) (show 32 * y + (x + 1) = 32 * y + x + 1 by omega)).trans (gpS_t hyg)
                      have hfxy := fXY hx32 hy32
                      have hgp1 : nI ((gpS Fr (32 * y + x)).2.2.1 + 1) = nI (gpS Fr (32 * y + (x + 1))).2.2.1 := by rw [hgs]
                      have hgp2 : nI gn1_5 = nI (gpS Fr (32 * y + (x + 1))).2.2.2.1 := by rw [hgs]; rcases hw_5.2 with ⟨a9, b9, -⟩ | ⟨a9, b9, -⟩; (show nI _ = nI (ite _ _ _); rw [if_pos (show _ < gpN _ _ from a9), b9]; rfl); (show nI _ = nI (ite _ _ _); rw [if_neg (show ¬ _ < gpN _ _ from a9), b9])
                      have hgp3 : fx1_5 = fX (gpS Fr (32 * y + (x + 1))).2.2.2.2 := by rw [hgs]; rcases hw_5.2 with ⟨a9, -, b9, -⟩ | ⟨a9, -, b9, -⟩; (show _ = fX (ite _ _ _); rw [if_pos (show _ < gpN _ _ from a9), b9]; exact hfxy.1.symm); (show _ = fX (ite _ _ _); rw [if_neg (show ¬ _ < gpN _ _ from a9), b9])
                      have hgp4 : fy1_5 = fY (gpS Fr (32 * y + (x + 1))).2.2.2.2 := by rw [hgs]; rcases hw_5.2 with ⟨a9, -, -, b9⟩ | ⟨a9, -, -, b9⟩; (show _ = fY (ite _ _ _); rw [if_pos (show _ < gpN _ _ from a9), b9]; exact hfxy.2.symm); (show _ = fY (ite _ _ _); rw [if_neg (show ¬ _ < gpN _ _ from a9), b9])
                      refine lv_iinc (v := nI (x + 1)) (lv' := [(3, .int (nI (x + 1))), (0, .ref h0), (2, .int (nI y))]) hx hb dX5_survey_105 hl (k := 2) rfl (nI_1 _) (by decide) rfl (fun ls hl => ?_)
                      refine lv_goto (tgt := 80) hx hb dX5_survey_108 (by decide) ?_
                      exact ih_80 (x + 1) (nI n1_5) O1_5 T1_5 (by omega) (by rw [show 32 * y + (x + 1) = 32 * y + x + 1 by omega, gpS_t hyg]; exact hw_5.1) (by omega) _ _ (by rw [← hgp1, ← hgp2, ← hgp3, ← hgp4]; exact hP) (by rw [← hgp1, ← hgp2, ← hgp3, ← hgp4]; exact hD) hS ls (lv_sub hl [1, 2, 0] rfl)
              exact LOOP_80 (32 - 0 + 1) 0 n0 O T (Nat.zero_le _) (hG) (Nat.lt_succ_self _) _ _ hP hD hS ls (lv_sub hl [1, 2, 0] rfl)
        exact LOOP_72 (32 - 0 + 1) 0 n0 O T (Nat.zero_le _) (hG0) (Nat.lt_succ_self _) _ _ hP hD hS ls (lv_sub hl [1, 0] rfl)
      · skip
        have nc_1 : ¬ (32 ≤ y) := fun h => c_1 ((nI_leI (a := 32) (b := y) (by omega) (by omega)).mpr h)
        have hy8 : y < 32 := by omega
        refine lv_aload_n hx hb dX5_survey_13 rfl (lv_at hl 0 rfl) ?_
        refine va_get (D := D) (ci := 7) (v := .ref ao) (C := RX5) (T := TX5) (N := 8) hx hb hts (by decide +kernel) hown hK hP 0 rfl rfl 0 (by decide) (hts (.fieldLink RX5 9 "LandDeeds$Wastes" "open" "[I") (by decide +kernel)) (fun _ h9 => h9) rfl dX5_survey_14 ?_
        refine lv_iload_n hx hb dX5_survey_17 rfl (lv_at hl 2 rfl) ?_
        refine lv_aload_n hx hb dX5_survey_18 rfl (lv_at hl 1 rfl) ?_
        refine lv_iload_n hx hb dX5_survey_19 rfl (lv_at hl 2 rfl) ?_
        have hPc := hP.sub (ws' := [(h1, .inr (2, [.ref ap, .ref ay, .int (nI k), .int lo])), (ap, .inl (cP, 6, .inr (.inr (.inr (.inr fp)))))]) [3, 4] rfl
        refine u_callSi (W.runV (As := [.int (nI y)]) (rest := [.int (nI y), .ref ao]) ⟨hx, hb, hml, hown, hts⟩ (c_X0_freeRow l D cI cB cZ cP h1 ap ay k lo fp hd y (by first | assumption | omega) (by first | assumption | omega)) (cwV 1 hts gX5_survey_X0_freeRow rfl rfl rfl (by decide +kernel) ⟨Nat.le_of_ble_eq_true rfl, Nat.le_of_ble_eq_true rfl⟩) (pV (q0 := 0) hPc hW0 (hE _ hS.2.1) rfl rfl) rfl rfl hl.1 rfl (lv_room (Nat.le_of_ble_eq_true rfl)) dX5_survey_20 ⟨Nat.le_of_ble_eq_true rfl, Nat.le_of_ble_eq_true rfl⟩) ?_
        refine u_iast hx hb hK hP hD hS 1 0 rfl rfl rfl ⟨by omega, by omega⟩ dX5_survey_23 (fun H locs hP hD hS => ?_)
        have hP : va_P D vwCl [(h0, .inr (7, [.ref ao, .ref af, .int n0, .int (nI (cnt2 (fun y x => bit ((fun y => orr (fun _ => True) (fun z => hd z y) k ^^^ (-1)) y) x) y)), .int gg, .int gm, .int fx, .int fy])), (ao, .inl (cI, 32, .inl (upd O y (orr (fun _ => True) (fun z => hd z y) k ^^^ (-1))))), (af, .inl (cI, 1024, .inl T)), (h1, .inr (2, [.ref ap, .ref ay, .int (nI k), .int lo])), (ap, .inl (cP, 6, .inr (.inr (.inr (.inr fp)))))] H := hP
        have hD : va_D A [(h0, .inr (7, [.ref ao, .ref af, .int n0, .int (nI (cnt2 (fun y x => bit ((fun y => orr (fun _ => True) (fun z => hd z y) k ^^^ (-1)) y) x) y)), .int gg, .int gm, .int fx, .int fy])), (ao, .inl (cI, 32, .inl (upd O y (orr (fun _ => True) (fun z => hd z y) k ^^^ (-1))))), (af, .inl (cI, 1024, .inl T)), (h1, .inr (2, [.ref ap, .ref ay, .int (nI k), .int lo])), (ap, .inl (cP, 6, .inr (.inr (.inr (.inr fp)))))] := hD
        refine lv_aload_n hx hb dX5_survey_24 rfl (lv_at hl 0 rfl) ?_
        refine lv_dup hx hb dX5_survey_25 rfl ?_
        refine va_get (D := D) (ci := 7) (v := .int (nI (cnt2 (fun y x => bit ((fun y => orr (fun _ => True) (fun z => hd z y) k ^^^ (-1)) y) x) y))) (C := RX5) (T := TX5) (N := 8) hx hb hts (by decide +kernel) hown hK hP 0 rfl rfl 3 (by decide) (hts (.fieldLink RX5 18 "LandDeeds$Wastes" "posts" "I") (by decide +kernel)) (fun _ h9 => h9) rfl dX5_survey_26 ?_
        refine lv_aload_n hx hb dX5_survey_29 rfl (lv_at hl 0 rfl) ?_
        refine va_get (D := D) (ci := 7) (v := .ref ao) (C := RX5) (T := TX5) (N := 8) hx hb hts (by decide +kernel) hown hK hP 0 rfl rfl 0 (by decide) (hts (.fieldLink RX5 9 "LandDeeds$Wastes" "open" "[I") (by decide +kernel)) (fun _ h9 => h9) rfl dX5_survey_30 ?_
        refine lv_iload_n hx hb dX5_survey_33 rfl (lv_at hl 2 rfl) ?_
        refine u_iald hx hb hK hP 1 0 rfl rfl rfl ⟨by omega, by omega⟩ dX5_survey_34 ?_
        have hPc := hP.sub (ws' := []) [] rfl
        refine u_callSi (W.runS (As := [.int ((upd O y (orr (fun _ => True) (fun z => hd z y) k ^^^ (-1))) y)]) (rest := [.int (nI (cnt2 (fun y x => bit ((fun y => orr (fun _ => True) (fun z => hd z y) k ^^^ (-1)) y) x) y)), .ref h0]) ⟨hx, hb, hml, hown, hts⟩ (c_J6_bitCount_0f7a4 l D cI cB cZ cP ((upd O y (orr (fun _ => True) (fun z => hd z y) k ^^^ (-1))) y) ) (va_cwS 1 hts gX5_survey_J6_bitCount_0f7a4 rfl rfl rfl (by decide +kernel) ⟨Nat.le_of_ble_eq_true rfl, Nat.le_of_ble_eq_true rfl⟩) (pS hPc hW0 trivial) rfl rfl hl.1 rfl (lv_room (Nat.le_of_ble_eq_true rfl)) dX5_survey_35 ⟨Nat.le_of_ble_eq_true rfl, Nat.le_of_ble_eq_true rfl⟩) ?_
        refine lv_iadd hx hb dX5_survey_38 ?_
        refine u_eqi (show (nI (cnt2 (fun y x => bit ((fun y => orr (fun _ => True) (fun z => hd z y) k ^^^ (-1)) y) x) y)) + (nI (cnt (bit ((upd O y (orr (fun _ => True) (fun z => hd z y) k ^^^ (-1))) y)) 32)) = nI (cnt2 (fun y x => bit ((fun y => orr (fun _ => True) (fun z => hd z y) k ^^^ (-1)) y) x) (y + 1)) from by rw [nI_add]; show _ = nI (cnt2 (fun y x => bit ((fun y => orr (fun _ => True) (fun z => hd z y) k ^^^ (-1)) y) x) y + _); rw [pk_us]) ?_
        refine va_put (D := D) (ci := 7) (v := .int (nI (cnt2 (fun y x => bit ((fun y => orr (fun _ => True) (fun z => hd z y) k ^^^ (-1)) y) x) (y + 1)))) (ty := .int) (C := RX5) (T := TX5) (N := 8) hx hb hts (by decide +kernel) tyX5 tyX5_ok nmX5 hown hK hP hD hS 0 rfl rfl 3 (by decide) (hts (.fieldLink RX5 18 "LandDeeds$Wastes" "posts" "I") (by decide +kernel)) (fun _ h9 => h9) rfl (by decide +kernel) rfl rfl (Nat.le_of_ble_eq_true rfl) dX5_survey_39 (fun H locs hP hD hS => ?_)
        have hP : va_P D vwCl [(h0, .inr (7, [.ref ao, .ref af, .int n0, .int (nI (cnt2 (fun y x => bit ((fun y => orr (fun _ => True) (fun z => hd z y) k ^^^ (-1)) y) x) (y + 1))), .int gg, .int gm, .int fx, .int fy])), (ao, .inl (cI, 32, .inl (upd O y (orr (fun _ => True) (fun z => hd z y) k ^^^ (-1))))), (af, .inl (cI, 1024, .inl T)), (h1, .inr (2, [.ref ap, .ref ay, .int (nI k), .int lo])), (ap, .inl (cP, 6, .inr (.inr (.inr (.inr fp)))))] H := hP
        have hD : va_D A [(h0, .inr (7, [.ref ao, .ref af, .int n0, .int (nI (cnt2 (fun y x => bit ((fun y => orr (fun _ => True) (fun z => hd z y) k ^^^ (-1)) y) x) (y + 1))), .int gg, .int gm, .int fx, .int fy])), (ao, .inl (cI, 32, .inl (upd O y (orr (fun _ => True) (fun z => hd z y) k ^^^ (-1))))), (af, .inl (cI, 1024, .inl T)), (h1, .inr (2, [.ref ap, .ref ay, .int (nI k), .int lo])), (ap, .inl (cP, 6, .inr (.inr (.inr (.inr fp)))))] := hD
        refine lv_iinc (v := nI (y + 1)) (lv' := [(2, .int (nI (y + 1))), (0, .ref h0), (1, .ref h1)]) hx hb dX5_survey_42 hl (k := 2) rfl (nI_1 _) (by decide) rfl (fun ls hl => ?_)
        refine lv_goto (tgt := 7) hx hb dX5_survey_45 (by decide) ?_
        exact ih_7 (y + 1) (upd O y (orr (fun _ => True) (fun z => hd z y) k ^^^ (-1))) (by omega) (upd_on (f := (fun y => orr (fun _ => True) (fun z => hd z y) k ^^^ (-1))) hOr rfl) (by omega) _ _ hP hD hS ls (lv_sub hl [1, 2, 0] rfl)
  exact LOOP_7 (32 - 0 + 1) 0 O (Nat.zero_le _) (fun j h => absurd h (Nat.not_lt_zero _)) (Nat.lt_succ_self _) _ _ hP hD hS ls (lv_sub hl [1, 2, 0] rfl)

