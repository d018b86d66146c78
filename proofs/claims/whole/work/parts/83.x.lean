set_option maxHeartbeats 4000000 in
set_option maxRecDepth 100000 in
theorem c_X1_addBelow_x (l : Launch) (D : va_G) (cI cB cZ cP : ClassId) (sz : Nat) (h0 ax ay nn : Nat) (X Y : Nat → Int32) (h1 fr to_ k8 : Nat) (cl tm : Int32) (qq : Rat) (hn8 : nn ≤ 8) (hfr : fr < nn) (hto : to_ < nn) (p1 : isP (X fr) (Y fr)) (p2 : isP (X to_) (Y to_)) (hc : b31 cl) (ht : tm = 1 ∨ tm = -1) (hq : qB k8 qq) (hk8 : k8 < 8) : Met l yX1_addBelow wsX1_addBelow ({ frames := 2, cells := 0, slots := 0, locals := 56 } : Room) (va_Pc [.ref h0, .int (nI fr), .int (nI to_), .int cl, .ref h1, .int tm] (fun U => U.heap.size = sz ∧ va_P D vwCl [(h1, .inr (5, [.long (lI qq.num), .long (lN qq.den)]))] U.heap ∧ KW D cI cB cZ cP U ∧ va_D (fun _ => True) [(h1, .inr (5, [.long (lI qq.num), .long (lN qq.den)]))] ∧ EF [(h1, .inr (5, [.long (lI qq.num), .long (lN qq.den)]))] sz (va_P D vwCl [(h0, .inr (3, [.ref ax, .ref ay, .int (nI nn)])), (ax, .inl (cI, nn, .inl X)), (ay, .inl (cI, nn, .inl Y))]) U.heap)) (va_Qv (fun (_ : Unit) => True) (fun (_ : Unit) (t : State) => va_P D vwCl [(h1, .inr (5, [.long (lI (qq + bT X Y fr to_ cl tm).num), .long (lN (qq + bT X Y fr to_ cl tm).den)]))] t.heap ∧ va_D (va_A [(h1, .inr (5, [.long (lI qq.num), .long (lN qq.den)]))] sz) [(h1, .inr (5, [.long (lI (qq + bT X Y fr to_ cl tm).num), .long (lN (qq + bT X Y fr to_ cl tm).den)]))]) (va_A [(h1, .inr (5, [.long (lI qq.num), .long (lN qq.den)]))] sz)) 0 0 (va_A [(h1, .inr (5, [.long (lI qq.num), .long (lN qq.den)]))] sz) := by
  refine Met.ofW (cc := cX1_addBelow) (maxL := 9) (ret := none) (by decide) rfl ?_
  intro p e s m args below meth c s₁ B hml hv
  obtain ⟨rfl, hsz, hP, hW0, hD0, hE⟩ := hv
  have hx := B.exec
  have hb := B.bytes
  have hr := B.returns
  have hts := atoms_spec (ws := wsX1_addBelow) B.pre
  have hown : s.vm.findClass RX1 = some m.cls := findClass_of_methodNamed B.named
  have hlocks := B.notSynchronized
  have hK := hW0.1
  subst hsz
  have hD := hD0.self (sz := s.heap.size)
  unfold EF at hE
  generalize hAe : va_A [(h1, .inr (5, [.long (lI qq.num), .long (lN qq.den)]))] s.heap.size = A at hD hE ⊢
  have hA : ∀ q : Nat, s.heap.size ≤ q → A q := fun q h => by rw [← hAe]; exact Or.inr h
  have hS : va_S A s.heap s.heap [] := va_S.rf
  have hl := lv_entry ([.ref h0, .int (nI fr), .int (nI to_), .int cl, .ref h1, .int tm]) (n := 9) (Nat.le_of_ble_eq_true rfl)
  rw [lg_entry_eq]
  generalize (lg_sl ([.ref h0, .int (nI fr), .int (nI to_), .int cl, .ref h1, .int tm]) ++ List.replicate (9 - (lg_sl ([.ref h0, .int (nI fr), .int (nI to_), .int cl, .ref h1, .int tm])).length) Slot.unset).toArray = ls at hl ⊢
  have hl : lv_has ls 9 [(0, .ref h0), (1, .int (nI fr)), (2, .int (nI to_)), (3, .int cl), (4, .ref h1), (5, .int tm)] := hl
  show W p l e ({ frames := 2, cells := 0, slots := 0, locals := 56 } : Room) s m ([.ref h0, .int (nI fr), .int (nI to_), .int cl, .ref h1, .int tm] : List Value).toArray below meth c s.heap [] 0 0 _ (F0 m 0 ls [])
  refine u_genQ (fun Q hQ => ?_)
  refine lv_aload_n hx hb dX1_addBelow_0 rfl (lv_at hl 0 rfl) ?_
  refine va_get (D := D) (ci := 3) (v := .ref ax) (C := RX1) (T := TX1) (N := 3) hx hb hts (by decide +kernel) hown hK (hE _ hS.2.1) 0 rfl rfl 0 (by decide) (hts (.fieldLink RX1 7 "LandDeeds$Outline" "xs" "[I") (by decide +kernel)) (fun _ h9 => h9) rfl dX1_addBelow_1 ?_
  refine lv_iload_n hx hb dX1_addBelow_4 rfl (lv_at hl 2 rfl) ?_
  refine u_iald hx hb hK (hE _ hS.2.1) 1 0 rfl rfl rfl ⟨by omega, by omega⟩ dX1_addBelow_5 ?_
  refine lv_aload_n hx hb dX1_addBelow_6 rfl (lv_at hl 0 rfl) ?_
  refine va_get (D := D) (ci := 3) (v := .ref ax) (C := RX1) (T := TX1) (N := 3) hx hb hts (by decide +kernel) hown hK (hE _ hS.2.1) 0 rfl rfl 0 (by decide) (hts (.fieldLink RX1 7 "LandDeeds$Outline" "xs" "[I") (by decide +kernel)) (fun _ h9 => h9) rfl dX1_addBelow_7 ?_
  refine lv_iload_n hx hb dX1_addBelow_10 rfl (lv_at hl 1 rfl) ?_
  refine u_iald hx hb hK (hE _ hS.2.1) 1 0 rfl rfl rfl ⟨by omega, by omega⟩ dX1_addBelow_11 ?_
  refine lv_isub hx hb dX1_addBelow_12 ?_
  refine u_eqi (show (X to_) - (X fr) = bB X fr to_ from rfl) ?_
  refine lv_istore (lv' := [(6, .int (bB X fr to_)), (0, .ref h0), (1, .int (nI fr)), (2, .int (nI to_)), (3, .int cl), (4, .ref h1), (5, .int tm)]) hx hb dX1_addBelow_13 hl (by decide) rfl (fun ls hl => ?_)
  refine lv_iload_n hx hb dX1_addBelow_15 rfl (lv_at hl 4 rfl) ?_
  refine lv_aload_n hx hb dX1_addBelow_16 rfl (lv_at hl 1 rfl) ?_
  refine va_get (D := D) (ci := 3) (v := .ref ax) (C := RX1) (T := TX1) (N := 3) hx hb hts (by decide +kernel) hown hK (hE _ hS.2.1) 0 rfl rfl 0 (by decide) (hts (.fieldLink RX1 7 "LandDeeds$Outline" "xs" "[I") (by decide +kernel)) (fun _ h9 => h9) rfl dX1_addBelow_17 ?_
  refine lv_iload_n hx hb dX1_addBelow_20 rfl (lv_at hl 3 rfl) ?_
  refine u_iald hx hb hK (hE _ hS.2.1) 1 0 rfl rfl rfl ⟨by omega, by omega⟩ dX1_addBelow_21 ?_
  refine va_mmin hx hb (by rw [hml]; exact hl.1.symm) hown (hts (.methodLink RX1 16 Lib.Math.min.name) (by decide +kernel)) (hts (.static Lib.Math.min.name) (by decide +kernel)) (hts (.initialized "java/lang/Math") (by decide +kernel)) (hts (.code Lib.Math.min.name Lib.Math.min.code 2 (some .int)) (by decide +kernel)) (Nat.le_of_ble_eq_true rfl) (Nat.le_of_ble_eq_true rfl) (Nat.zero_le _) (Nat.zero_le _) dX1_addBelow_22 ?_
  refine lv_aload_n hx hb dX1_addBelow_25 rfl (lv_at hl 1 rfl) ?_
  refine va_get (D := D) (ci := 3) (v := .ref ax) (C := RX1) (T := TX1) (N := 3) hx hb hts (by decide +kernel) hown hK (hE _ hS.2.1) 0 rfl rfl 0 (by decide) (hts (.fieldLink RX1 7 "LandDeeds$Outline" "xs" "[I") (by decide +kernel)) (fun _ h9 => h9) rfl dX1_addBelow_26 ?_
  refine lv_iload_n hx hb dX1_addBelow_29 rfl (lv_at hl 2 rfl) ?_
  refine u_iald hx hb hK (hE _ hS.2.1) 1 0 rfl rfl rfl ⟨by omega, by omega⟩ dX1_addBelow_30 ?_
  refine lv_isub hx hb dX1_addBelow_31 ?_
  refine u_eqi (show (mn cl (X to_)) - (X fr) = bR X fr to_ cl from rfl) ?_
  refine lv_istore (lv' := [(7, .int (bR X fr to_ cl)), (6, .int (bB X fr to_)), (0, .ref h0), (1, .int (nI fr)), (2, .int (nI to_)), (3, .int cl), (4, .ref h1), (5, .int tm)]) hx hb dX1_addBelow_32 hl (by decide) rfl (fun ls hl => ?_)
  refine lv_iload hx hb dX1_addBelow_34 (lv_at hl 1 rfl) ?_
  refine lv_if_le (tgt := 91) hx hb dX1_addBelow_36 (by decide) (fun c_1 => ?_) (fun c_1 => ?_)
  · skip
    have hb0 : qq + bT X Y fr to_ cl tm = qq := by rw [show bT X Y fr to_ cl tm = _ from cif_f (fun q => by have q1 := q.1; have q2 := q.2; simp only [Int32.le_iff_toInt_le, li_0] at c_1; first | exact absurd q1 (by unfold bB; omega) | exact absurd q2 (by unfold bR; omega)), Rat.add_zero]
    rw [show lI qq.num = lI (qq + bT X Y fr to_ cl tm).num by rw [hb0], show lN qq.den = lN (qq + bT X Y fr to_ cl tm).den by rw [hb0]] at hP hD
    rw [← hQ]
    have hP9 := hP
    have hD9 := hD
    exact W.vret hx hb hr (fun t ht hW => ⟨⟨(), rfl, trivial, by rw [ht]; exact hP9, hD9⟩, hS.F ht⟩) hS.2.2 dX1_addBelow_91
  · skip
    have hB9 : 0 < (bB X fr to_).toInt := by have h9 := c_1; rw [Int32.le_iff_toInt_le, li_0] at h9; exact Int.not_le.mp h9
    refine lv_iload hx hb dX1_addBelow_39 (lv_at hl 0 rfl) ?_
    refine lv_if_le (tgt := 91) hx hb dX1_addBelow_41 (by decide) (fun c_2 => ?_) (fun c_2 => ?_)
    · skip
      have hb0 : qq + bT X Y fr to_ cl tm = qq := by rw [show bT X Y fr to_ cl tm = _ from cif_f (fun q => by have q1 := q.1; have q2 := q.2; simp only [Int32.le_iff_toInt_le, li_0] at c_1 c_2; first | exact absurd q1 (by unfold bB; omega) | exact absurd q2 (by unfold bR; omega)), Rat.add_zero]
      rw [show lI qq.num = lI (qq + bT X Y fr to_ cl tm).num by rw [hb0], show lN qq.den = lN (qq + bT X Y fr to_ cl tm).den by rw [hb0]] at hP hD
      rw [← hQ]
      have hP9 := hP
      have hD9 := hD
      exact W.vret hx hb hr (fun t ht hW => ⟨⟨(), rfl, trivial, by rw [ht]; exact hP9, hD9⟩, hS.F ht⟩) hS.2.2 dX1_addBelow_91
    · skip
      have hR9 : 0 < (bR X fr to_ cl).toInt := by have h9 := c_2; rw [Int32.le_iff_toInt_le, li_0] at h9; exact Int.not_le.mp h9
      have hb9 := bT_b p1 p2 hc ht hB9 hR9
      refine lv_aload_n hx hb dX1_addBelow_44 rfl (lv_at hl 2 rfl) ?_
      refine va_get (D := D) (ci := 3) (v := .ref ay) (C := RX1) (T := TX1) (N := 3) hx hb hts (by decide +kernel) hown hK (hE _ hS.2.1) 0 rfl rfl 1 (by decide) (hts (.fieldLink RX1 13 "LandDeeds$Outline" "ys" "[I") (by decide +kernel)) (fun _ h9 => h9) rfl dX1_addBelow_45 ?_
      refine lv_iload_n hx hb dX1_addBelow_48 rfl (lv_at hl 4 rfl) ?_
      refine u_iald hx hb hK (hE _ hS.2.1) 2 0 rfl rfl rfl ⟨by omega, by omega⟩ dX1_addBelow_49 ?_
      refine lv_aload_n hx hb dX1_addBelow_50 rfl (lv_at hl 2 rfl) ?_
      refine va_get (D := D) (ci := 3) (v := .ref ay) (C := RX1) (T := TX1) (N := 3) hx hb hts (by decide +kernel) hown hK (hE _ hS.2.1) 0 rfl rfl 1 (by decide) (hts (.fieldLink RX1 13 "LandDeeds$Outline" "ys" "[I") (by decide +kernel)) (fun _ h9 => h9) rfl dX1_addBelow_51 ?_
      refine lv_iload_n hx hb dX1_addBelow_54 rfl (lv_at hl 3 rfl) ?_
      refine u_iald hx hb hK (hE _ hS.2.1) 2 0 rfl rfl rfl ⟨by omega, by omega⟩ dX1_addBelow_55 ?_
      refine lv_isub hx hb dX1_addBelow_56 ?_
      refine lv_istore (lv' := [(8, .int ((Y to_) - (Y fr))), (7, .int (bR X fr to_ cl)), (6, .int (bB X fr to_)), (0, .ref h0), (1, .int (nI fr)), (2, .int (nI to_)), (3, .int cl), (4, .ref h1), (5, .int tm)]) hx hb dX1_addBelow_57 hl (by decide) rfl (fun ls hl => ?_)
      refine lv_aload hx hb dX1_addBelow_59 (lv_at hl 7 rfl) ?_
      refine lv_iload hx hb dX1_addBelow_61 (lv_at hl 8 rfl) ?_
      refine lv_iload hx hb dX1_addBelow_63 (lv_at hl 1 rfl) ?_
      refine lv_imul hx hb dX1_addBelow_65 ?_
      refine lv_iconst (v := 2) hx hb dX1_addBelow_66 (by decide) ?_
      refine lv_aload_n hx hb dX1_addBelow_67 rfl (lv_at hl 3 rfl) ?_
      refine va_get (D := D) (ci := 3) (v := .ref ay) (C := RX1) (T := TX1) (N := 3) hx hb hts (by decide +kernel) hown hK (hE _ hS.2.1) 0 rfl rfl 1 (by decide) (hts (.fieldLink RX1 13 "LandDeeds$Outline" "ys" "[I") (by decide +kernel)) (fun _ h9 => h9) rfl dX1_addBelow_68 ?_
      refine lv_iload_n hx hb dX1_addBelow_71 rfl (lv_at hl 4 rfl) ?_
      refine u_iald hx hb hK (hE _ hS.2.1) 2 0 rfl rfl rfl ⟨by omega, by omega⟩ dX1_addBelow_72 ?_
      refine lv_imul hx hb dX1_addBelow_73 ?_
      refine lv_iload hx hb dX1_addBelow_74 (lv_at hl 2 rfl) ?_
      refine lv_imul hx hb dX1_addBelow_76 ?_
      refine lv_iload hx hb dX1_addBelow_77 (lv_at hl 0 rfl) ?_
      refine lv_iload hx hb dX1_addBelow_79 (lv_at hl 1 rfl) ?_
      refine lv_imul hx hb dX1_addBelow_81 ?_
      refine lv_iadd hx hb dX1_addBelow_82 ?_
      refine lv_imul hx hb dX1_addBelow_83 ?_
      refine lv_i2l hx hb dX1_addBelow_84 rfl ?_
      refine u_eql (show ((tm * (bR X fr to_ cl)) * (((2 * (Y fr)) * (bB X fr to_)) + (((Y to_) - (Y fr)) * (bR X fr to_ cl)))).toInt64 = lI (bU X Y fr to_ cl tm).toInt from i2l_t (bU X Y fr to_ cl tm)) ?_
      refine lv_iload hx hb dX1_addBelow_85 (lv_at hl 2 rfl) ?_
      refine lv_i2l hx hb dX1_addBelow_87 rfl ?_
      refine u_eql (show (bB X fr to_).toInt64 = lN (bB X fr to_).toInt.toNat from i2l_n (Int.le_of_lt hB9)) ?_
      have hPc := hP.sub (ws' := [(h1, .inr (5, [.long (lI qq.num), .long (lN qq.den)]))]) [0] rfl
      have hDc := hD.sub (ws' := [(h1, .inr (5, [.long (lI qq.num), .long (lN qq.den)]))]) [0] (by decide) rfl
      have hFc := va_free (wc := [(h1, .inr (5, [.long (lI qq.num), .long (lN qq.den)]))]) hD hS hA [0] rfl
      refine va_callv (va_runV (As := [.long (lI (bU X Y fr to_ cl tm).toInt), .long (lN (bB X fr to_).toInt.toNat)]) (rest := []) ⟨hx, hb, hml, hown, hts⟩ (c_X3_add l D cI cB cZ cP s.heap.size h1 qq.num ((bU X Y fr to_ cl tm).toInt) qq.den ((bB X fr to_).toInt.toNat) (qq.den_pos) (hb9.1) ((qB_fit hq hk8 hb9.2.1 hb9.2.2).2.1) ((qB_fit hq hk8 hb9.2.1 hb9.2.2).2.2)) (cwV 2 hts gX1_addBelow_X3_add rfl rfl rfl (by decide +kernel) ⟨Nat.le_of_ble_eq_true rfl, Nat.le_of_ble_eq_true rfl⟩) (pVQ (q0 := 0) hPc hDc hW0 EF.t rfl rfl) rfl rfl hl.1 rfl (lv_room (Nat.le_of_ble_eq_true rfl)) dX1_addBelow_88 ⟨Nat.le_of_ble_eq_true rfl, Nat.le_of_ble_eq_true rfl⟩) hS (fun q _ h => hFc q h) hFc (fun u t H1 locs ht hvm hw hB hz1 hk1 hS => ?_)
      obtain ⟨hP1, hD1⟩ := hB
      rw [ht] at hP1
      have hw_3 : True := hw
      obtain ⟨hP, hD⟩ := va_join (wr := []) (w1 := [(h1, .inr (5, [.long (lI (ratU qq.num qq.den ((bU X Y fr to_ cl tm).toInt) ((bB X fr to_).toInt.toNat))), .long (lN (ratL qq.num qq.den ((bU X Y fr to_ cl tm).toInt) ((bB X fr to_).toInt.toNat)))]))]) hP hD [0] [] rfl rfl (by decide) (by decide) hk1 hFc hP1 hD1
      generalize H1 = H at hP hS ⊢
      have hP := hP.sub (ws' := [(h1, .inr (5, [.long (lI (ratU qq.num qq.den ((bU X Y fr to_ cl tm).toInt) ((bB X fr to_).toInt.toNat))), .long (lN (ratL qq.num qq.den ((bU X Y fr to_ cl tm).toInt) ((bB X fr to_).toInt.toNat)))]))]) [0] rfl
      have hD := hD.sub (ws' := [(h1, .inr (5, [.long (lI (ratU qq.num qq.den ((bU X Y fr to_ cl tm).toInt) ((bB X fr to_).toInt.toNat))), .long (lN (ratL qq.num qq.den ((bU X Y fr to_ cl tm).toInt) ((bB X fr to_).toInt.toNat)))]))]) [0] (by decide) rfl
      have hb1 : bT X Y fr to_ cl tm = mkRat (bU X Y fr to_ cl tm).toInt (bB X fr to_).toInt.toNat := cif_t ⟨hB9, hR9⟩
      rw [ratU_q qq _ hb9.1, ratL_q qq _ hb9.1, ← hb1] at hP hD
      rw [← hQ]
      have hP9 := hP
      have hD9 := hD
      exact W.vret hx hb hr (fun t ht hW => ⟨⟨(), rfl, trivial, by rw [ht]; exact hP9, hD9⟩, hS.F ht⟩) hS.2.2 dX1_addBelow_91

set_option maxHeartbeats 4000000 in
set_option maxRecDepth 100000 in
theorem c_X1_measureWest_x (l : Launch) (D : va_G) (cI cB cZ cP : ClassId) (sz : Nat) (h0 ax ay nn : Nat) (X Y : Nat → Int32) (h1 : Nat) (cl : Int32) (u0 w0 : Int64) (hn8 : nn ≤ 8) (hp : ∀ z, z < nn → isP (X z) (Y z)) (hc : b31 cl) : Met l yX1_measureWest wsX1_measureWest ({ frames := 3, cells := 0, slots := 0, locals := 84 } : Room) (va_Pc [.ref h0, .int cl, .ref h1] (fun U => U.heap.size = sz ∧ va_P D vwCl [(h1, .inr (5, [.long u0, .long w0]))] U.heap ∧ KW D cI cB cZ cP U ∧ va_D (fun _ => True) [(h1, .inr (5, [.long u0, .long w0]))] ∧ EF [(h1, .inr (5, [.long u0, .long w0]))] sz (va_P D vwCl [(h0, .inr (3, [.ref ax, .ref ay, .int (nI nn)])), (ax, .inl (cI, nn, .inl X)), (ay, .inl (cI, nn, .inl Y))]) U.heap)) (va_Qv (fun (_ : Unit) => True) (fun (_ : Unit) (t : State) => va_P D vwCl [(h1, .inr (5, [.long (lN (rsum (cT nn X Y cl) nn).num.natAbs), .long (lN (rsum (cT nn X Y cl) nn).den)]))] t.heap ∧ va_D (va_A [(h1, .inr (5, [.long u0, .long w0]))] sz) [(h1, .inr (5, [.long (lN (rsum (cT nn X Y cl) nn).num.natAbs), .long (lN (rsum (cT nn X Y cl) nn).den)]))]) (va_A [(h1, .inr (5, [.long u0, .long w0]))] sz)) 0 0 (va_A [(h1, .inr (5, [.long u0, .long w0]))] sz) := by
  refine Met.ofW (cc := cX1_measureWest) (maxL := 5) (ret := none) (by decide) rfl ?_
  intro p e s m args below meth c s₁ B hml hv
  obtain ⟨rfl, hsz, hP, hW0, hD0, hE⟩ := hv
  have hx := B.exec
  have hb := B.bytes
  have hr := B.returns
  have hts := atoms_spec (ws := wsX1_measureWest) B.pre
  have hown : s.vm.findClass RX1 = some m.cls := findClass_of_methodNamed B.named
  have hlocks := B.notSynchronized
  have hK := hW0.1
  subst hsz
  have hD := hD0.self (sz := s.heap.size)
  unfold EF at hE
  generalize hAe : va_A [(h1, .inr (5, [.long u0, .long w0]))] s.heap.size = A at hD hE ⊢
  have hA : ∀ q : Nat, s.heap.size ≤ q → A q := fun q h => by rw [← hAe]; exact Or.inr h
  have hS : va_S A s.heap s.heap [] := va_S.rf
  have hl := lv_entry ([.ref h0, .int cl, .ref h1]) (n := 5) (Nat.le_of_ble_eq_true rfl)
  rw [lg_entry_eq]
  generalize (lg_sl ([.ref h0, .int cl, .ref h1]) ++ List.replicate (5 - (lg_sl ([.ref h0, .int cl, .ref h1])).length) Slot.unset).toArray = ls at hl ⊢
  have hl : lv_has ls 5 [(0, .ref h0), (1, .int cl), (2, .ref h1)] := hl
  show W p l e ({ frames := 3, cells := 0, slots := 0, locals := 84 } : Room) s m ([.ref h0, .int cl, .ref h1] : List Value).toArray below meth c s.heap [] 0 0 _ (F0 m 0 ls [])
  refine u_genQ (fun Q hQ => ?_)
  refine lv_aload_n hx hb dX1_measureWest_0 rfl (lv_at hl 2 rfl) ?_
  have hPc := hP.sub (ws' := [(h1, .inr (5, [.long u0, .long w0]))]) [0] rfl
  have hDc := hD.sub (ws' := [(h1, .inr (5, [.long u0, .long w0]))]) [0] (by decide) rfl
  have hFc := va_free (wc := [(h1, .inr (5, [.long u0, .long w0]))]) hD hS hA [0] rfl
  refine va_callv (va_runV (As := []) (rest := []) ⟨hx, hb, hml, hown, hts⟩ (c_X3_clear l D cI cB cZ cP s.heap.size h1 u0 w0 ) (cwV 0 hts gX1_measureWest_X3_clear rfl rfl rfl (by decide +kernel) ⟨Nat.le_of_ble_eq_true rfl, Nat.le_of_ble_eq_true rfl⟩) (pVQ (q0 := 0) hPc hDc hW0 EF.t rfl rfl) rfl rfl hl.1 rfl (lv_room (Nat.le_of_ble_eq_true rfl)) dX1_measureWest_1 ⟨Nat.le_of_ble_eq_true rfl, Nat.le_of_ble_eq_true rfl⟩) hS (fun q _ h => hFc q h) hFc (fun u t H1 locs ht hvm hw hB hz1 hk1 hS => ?_)
  obtain ⟨hP1, hD1⟩ := hB
  rw [ht] at hP1
  have hw_1 : True := hw
  obtain ⟨hP, hD⟩ := va_join (wr := []) (w1 := [(h1, .inr (5, [.long 0, .long 1]))]) hP hD [0] [] rfl rfl (by decide) (by decide) hk1 hFc hP1 hD1
  generalize H1 = H at hP hS ⊢
  have hP := hP.sub (ws' := [(h1, .inr (5, [.long 0, .long 1]))]) [0] rfl
  have hD := hD.sub (ws' := [(h1, .inr (5, [.long 0, .long 1]))]) [0] (by decide) rfl
  rw [show (0 : Int64) = lI (rsum (cT nn X Y cl) 0).num from rfl, show (1 : Int64) = lN (rsum (cT nn X Y cl) 0).den from rfl] at hP hD
  refine lv_iconst (v := 0) hx hb dX1_measureWest_4 (by decide) ?_
  refine lv_istore_n (lv' := [(3, .int 0), (0, .ref h0), (1, .int cl), (2, .ref h1)]) hx hb dX1_measureWest_5 rfl hl (by decide) rfl (fun ls hl => ?_)
  have LOOP_6 : ∀ (fu : Nat) (z : Nat) (hz : z ≤ nn) (hn : nn - z < fu) (H : Heap) (locs : List Loc) (hP : va_P D vwCl [(h1, .inr (5, [.long (lI (rsum (cT nn X Y cl) z).num), .long (lN (rsum (cT nn X Y cl) z).den)]))] H) (hD : va_D A [(h1, .inr (5, [.long (lI (rsum (cT nn X Y cl) z).num), .long (lN (rsum (cT nn X Y cl) z).den)]))]) (hS : va_S A s.heap H locs) (ls : Array Slot) (hl : lv_has ls 5 [(0, .ref h0), (1, .int cl), (2, .ref h1), (3, .int (nI z))]), W p l e ({ frames := 3, cells := 0, slots := 0, locals := 84 } : Room) s m ([.ref h0, .int cl, .ref h1] : List Value).toArray below meth c H locs 0 0 Q (F0 m 6 ls []) := by
    intro fu
    induction fu with
    | zero => intro z hz hn H locs hP hD hS ls hl; exact absurd hn (Nat.not_lt_zero _)
    | succ fu ih_6 =>
      intro z hz hn H locs hP hD hS ls hl
      refine lv_iload_n hx hb dX1_measureWest_6 rfl (lv_at hl 3 rfl) ?_
      refine lv_aload_n hx hb dX1_measureWest_7 rfl (lv_at hl 0 rfl) ?_
      refine va_get (D := D) (ci := 3) (v := .int (nI nn)) (C := RX1) (T := TX1) (N := 3) hx hb hts (by decide +kernel) hown hK (hE _ hS.2.1) 0 rfl rfl 2 (by decide) (hts (.fieldLink RX1 22 "LandDeeds$Outline" "corners" "I") (by decide +kernel)) (fun _ h9 => h9) rfl dX1_measureWest_8 ?_
      refine lv_icmp_ge (tgt := 66) hx hb dX1_measureWest_11 (by decide) (fun c_2 => ?_) (fun c_2 => ?_)
      · skip
        have nc_2 : nn ≤ z := (nI_leI (a := nn) (b := z) (by omega) (by omega)).mp c_2
        obtain rfl : nn = z := by omega
        refine lv_aload_n hx hb dX1_measureWest_66 rfl (lv_at hl 2 rfl) ?_
        have hPc := hP.sub (ws' := [(h1, .inr (5, [.long (lI (rsum (cT nn X Y cl) nn).num), .long (lN (rsum (cT nn X Y cl) nn).den)]))]) [0] rfl
        have hDc := hD.sub (ws' := [(h1, .inr (5, [.long (lI (rsum (cT nn X Y cl) nn).num), .long (lN (rsum (cT nn X Y cl) nn).den)]))]) [0] (by decide) rfl
        have hFc := va_free (wc := [(h1, .inr (5, [.long (lI (rsum (cT nn X Y cl) nn).num), .long (lN (rsum (cT nn X Y cl) nn).den)]))]) hD hS hA [0] rfl
        refine va_callv (va_runV (As := []) (rest := []) ⟨hx, hb, hml, hown, hts⟩ (c_X3_dropSign l D cI cB cZ cP H.size h1 (lI (rsum (cT nn X Y cl) nn).num) (lN (rsum (cT nn X Y cl) nn).den) ) (cwV 0 hts gX1_measureWest_X3_dropSign rfl rfl rfl (by decide +kernel) ⟨Nat.le_of_ble_eq_true rfl, Nat.le_of_ble_eq_true rfl⟩) (pVQ (q0 := 0) hPc hDc hW0 EF.t rfl rfl) rfl rfl hl.1 rfl (lv_room (Nat.le_of_ble_eq_true rfl)) dX1_measureWest_67 ⟨Nat.le_of_ble_eq_true rfl, Nat.le_of_ble_eq_true rfl⟩) hS (fun q _ h => hFc q h) hFc (fun u t H1 locs ht hvm hw hB hz1 hk1 hS => ?_)
        obtain ⟨hP1, hD1⟩ := hB
        rw [ht] at hP1
        have hw_3 : True := hw
        obtain ⟨hP, hD⟩ := va_join (wr := []) (w1 := [(h1, .inr (5, [.long (abL (lI (rsum (cT nn X Y cl) nn).num)), .long (lN (rsum (cT nn X Y cl) nn).den)]))]) hP hD [0] [] rfl rfl (by decide) (by decide) hk1 hFc hP1 hD1
        generalize H1 = H at hP hS ⊢
        have hP := hP.sub (ws' := [(h1, .inr (5, [.long (abL (lI (rsum (cT nn X Y cl) nn).num)), .long (lN (rsum (cT nn X Y cl) nn).den)]))]) [0] rfl
        have hD := hD.sub (ws' := [(h1, .inr (5, [.long (abL (lI (rsum (cT nn X Y cl) nn).num)), .long (lN (rsum (cT nn X Y cl) nn).den)]))]) [0] (by decide) rfl
        rw [abL_t (qB_abs (qB_cT hn8 hp hc nn (Nat.le_refl _)) hn8)] at hP hD
        rw [← hQ]
        have hP9 := hP
        have hD9 := hD
        exact W.vret hx hb hr (fun t ht hW => ⟨⟨(), rfl, trivial, by rw [ht]; exact hP9, hD9⟩, hS.F ht⟩) hS.2.2 dX1_measureWest_70
      · skip
        have nc_2 : ¬ (nn ≤ z) := fun h => c_2 ((nI_leI (a := nn) (b := z) (by omega) (by omega)).mpr h)
        have hz8 : z < nn := by omega
        have hnx := nxt_lt hz8
        refine lv_aload_n hx hb dX1_measureWest_14 rfl (lv_at hl 0 rfl) ?_
        refine lv_iload_n hx hb dX1_measureWest_15 rfl (lv_at hl 3 rfl) ?_
        have hPc := (vP_app hP (hE _ hS.2.1)).sub (ws' := [(h0, .inr (3, [.ref ax, .ref ay, .int (nI nn)]))]) [1] rfl
        refine u_callSi (W.runV (As := [.int (nI z)]) (rest := []) ⟨hx, hb, hml, hown, hts⟩ (c_X1_next l D cI cB cZ cP h0 ax ay nn z (by first | assumption | omega) (by first | assumption | omega)) (cwV 1 hts gX1_measureWest_X1_next rfl rfl rfl (by decide +kernel) ⟨Nat.le_of_ble_eq_true rfl, Nat.le_of_ble_eq_true rfl⟩) (pV (q0 := 0) hPc hW0 trivial rfl rfl) rfl rfl hl.1 rfl (lv_room (Nat.le_of_ble_eq_true rfl)) dX1_measureWest_16 ⟨Nat.le_of_ble_eq_true rfl, Nat.le_of_ble_eq_true rfl⟩) ?_
        refine lv_istore (lv' := [(4, .int (nI (nxt nn z))), (0, .ref h0), (1, .int cl), (2, .ref h1), (3, .int (nI z))]) hx hb dX1_measureWest_19 hl (by decide) rfl (fun ls hl => ?_)
        refine lv_aload_n hx hb dX1_measureWest_21 rfl (lv_at hl 1 rfl) ?_
        refine va_get (D := D) (ci := 3) (v := .ref ax) (C := RX1) (T := TX1) (N := 3) hx hb hts (by decide +kernel) hown hK (hE _ hS.2.1) 0 rfl rfl 0 (by decide) (hts (.fieldLink RX1 7 "LandDeeds$Outline" "xs" "[I") (by decide +kernel)) (fun _ h9 => h9) rfl dX1_measureWest_22 ?_
        refine lv_iload_n hx hb dX1_measureWest_25 rfl (lv_at hl 4 rfl) ?_
        refine u_iald hx hb hK (hE _ hS.2.1) 1 0 rfl rfl rfl ⟨by omega, by omega⟩ dX1_measureWest_26 ?_
        refine lv_aload_n hx hb dX1_measureWest_27 rfl (lv_at hl 1 rfl) ?_
        refine va_get (D := D) (ci := 3) (v := .ref ax) (C := RX1) (T := TX1) (N := 3) hx hb hts (by decide +kernel) hown hK (hE _ hS.2.1) 0 rfl rfl 0 (by decide) (hts (.fieldLink RX1 7 "LandDeeds$Outline" "xs" "[I") (by decide +kernel)) (fun _ h9 => h9) rfl dX1_measureWest_28 ?_
        refine lv_iload hx hb dX1_measureWest_31 (lv_at hl 0 rfl) ?_
        refine u_iald hx hb hK (hE _ hS.2.1) 1 0 rfl rfl rfl ⟨by omega, by omega⟩ dX1_measureWest_33 ?_
        refine lv_icmp_ge (tgt := 50) hx hb dX1_measureWest_34 (by decide) (fun c_4 => ?_) (fun c_4 => ?_)
        · skip
          have q34 : X (nxt nn z) ≤ X z := c_4
          refine lv_aload_n hx hb dX1_measureWest_50 rfl (lv_at hl 1 rfl) ?_
          refine lv_iload hx hb dX1_measureWest_51 (lv_at hl 0 rfl) ?_
          refine lv_iload_n hx hb dX1_measureWest_53 rfl (lv_at hl 4 rfl) ?_
          refine lv_iload_n hx hb dX1_measureWest_54 rfl (lv_at hl 2 rfl) ?_
          refine lv_aload_n hx hb dX1_measureWest_55 rfl (lv_at hl 3 rfl) ?_
          refine lv_iconst (v := (-1)) hx hb dX1_measureWest_56 (by decide) ?_
          have hPc := hP.sub (ws' := [(h1, .inr (5, [.long (lI (rsum (cT nn X Y cl) z).num), .long (lN (rsum (cT nn X Y cl) z).den)]))]) [0] rfl
          have hDc := hD.sub (ws' := [(h1, .inr (5, [.long (lI (rsum (cT nn X Y cl) z).num), .long (lN (rsum (cT nn X Y cl) z).den)]))]) [0] (by decide) rfl
          have hFc := va_free (wc := [(h1, .inr (5, [.long (lI (rsum (cT nn X Y cl) z).num), .long (lN (rsum (cT nn X Y cl) z).den)]))]) hD hS hA [0] rfl
          refine va_callv (va_runV (As := [.int (nI (nxt nn z)), .int (nI z), .int cl, .ref h1, .int (-1)]) (rest := []) ⟨hx, hb, hml, hown, hts⟩ (c_X1_addBelow_x l D cI cB cZ cP H.size h0 ax ay nn X Y h1 (nxt nn z) z z cl (-1) (rsum (cT nn X Y cl) z) (by first | assumption | omega) (hnx) (hz8) (hp _ hnx) (hp _ hz8) (by first | assumption | omega) (Or.inr rfl) (qB_cT hn8 hp hc z (by omega)) (by omega)) (cwV 5 hts gX1_measureWest_X1_addBelow rfl rfl rfl (by decide +kernel) ⟨Nat.le_of_ble_eq_true rfl, Nat.le_of_ble_eq_true rfl⟩) (pVQX (q0 := 0) hPc hDc hW0 (EF.sub hE hS.1 hS.2.1 hFc) (hE _ hS.2.1) rfl rfl) rfl rfl hl.1 rfl (lv_room (Nat.le_of_ble_eq_true rfl)) dX1_measureWest_57 ⟨Nat.le_of_ble_eq_true rfl, Nat.le_of_ble_eq_true rfl⟩) hS (fun q _ h => hFc q h) hFc (fun u t H1 locs ht hvm hw hB hz1 hk1 hS => ?_)
          obtain ⟨hP1, hD1⟩ := hB
          rw [ht] at hP1
          have hw_5 : True := hw
          obtain ⟨hP, hD⟩ := va_join (wr := []) (w1 := [(h1, .inr (5, [.long (lI ((rsum (cT nn X Y cl) z) + bT X Y (nxt nn z) z cl (-1)).num), .long (lN ((rsum (cT nn X Y cl) z) + bT X Y (nxt nn z) z cl (-1)).den)]))]) hP hD [0] [] rfl rfl (by decide) (by decide) hk1 hFc hP1 hD1
          generalize H1 = H at hP hS ⊢
          have hP := hP.sub (ws' := [(h1, .inr (5, [.long (lI ((rsum (cT nn X Y cl) z) + bT X Y (nxt nn z) z cl (-1)).num), .long (lN ((rsum (cT nn X Y cl) z) + bT X Y (nxt nn z) z cl (-1)).den)]))]) [0] rfl
          have hD := hD.sub (ws' := [(h1, .inr (5, [.long (lI ((rsum (cT nn X Y cl) z) + bT X Y (nxt nn z) z cl (-1)).num), .long (lN ((rsum (cT nn X Y cl) z) + bT X Y (nxt nn z) z cl (-1)).den)]))]) [0] (by decide) rfl
          rw [show rsum (cT nn X Y cl) z + bT X Y (nxt nn z) z cl (-1) = rsum (cT nn X Y cl) (z + 1) from by show _ = _ + cT nn X Y cl z; rw [show cT nn X Y cl z = _ from cif_t q34]] at hP hD
          refine lv_iinc (v := nI (z + 1)) (lv' := [(3, .int (nI (z + 1))), (4, .int (nI (nxt nn z))), (0, .ref h0), (1, .int cl), (2, .ref h1)]) hx hb dX1_measureWest_60 hl (k := 4) rfl (nI_1 _) (by decide) rfl (fun ls hl => ?_)
          refine lv_goto (tgt := 6) hx hb dX1_measureWest_63 (by decide) ?_
          exact ih_6 (z + 1) (by omega) (by omega) _ _ hP hD hS ls (lv_sub hl [2, 3, 4, 0] rfl)
        · skip
          have q34 : ¬ X (nxt nn z) ≤ X z := c_4
          refine lv_aload_n hx hb dX1_measureWest_37 rfl (lv_at hl 1 rfl) ?_
          refine lv_iload_n hx hb dX1_measureWest_38 rfl (lv_at hl 4 rfl) ?_
          refine lv_iload hx hb dX1_measureWest_39 (lv_at hl 0 rfl) ?_
          refine lv_iload_n hx hb dX1_measureWest_41 rfl (lv_at hl 2 rfl) ?_
          refine lv_aload_n hx hb dX1_measureWest_42 rfl (lv_at hl 3 rfl) ?_
          refine lv_iconst (v := 1) hx hb dX1_measureWest_43 (by decide) ?_
          have hPc := hP.sub (ws' := [(h1, .inr (5, [.long (lI (rsum (cT nn X Y cl) z).num), .long (lN (rsum (cT nn X Y cl) z).den)]))]) [0] rfl
          have hDc := hD.sub (ws' := [(h1, .inr (5, [.long (lI (rsum (cT nn X Y cl) z).num), .long (lN (rsum (cT nn X Y cl) z).den)]))]) [0] (by decide) rfl
          have hFc := va_free (wc := [(h1, .inr (5, [.long (lI (rsum (cT nn X Y cl) z).num), .long (lN (rsum (cT nn X Y cl) z).den)]))]) hD hS hA [0] rfl
          refine va_callv (va_runV (As := [.int (nI z), .int (nI (nxt nn z)), .int cl, .ref h1, .int 1]) (rest := []) ⟨hx, hb, hml, hown, hts⟩ (c_X1_addBelow_x l D cI cB cZ cP H.size h0 ax ay nn X Y h1 z (nxt nn z) z cl 1 (rsum (cT nn X Y cl) z) (by first | assumption | omega) (hz8) (hnx) (hp _ hz8) (hp _ hnx) (by first | assumption | omega) (Or.inl rfl) (qB_cT hn8 hp hc z (by omega)) (by omega)) (cwV 5 hts gX1_measureWest_X1_addBelow rfl rfl rfl (by decide +kernel) ⟨Nat.le_of_ble_eq_true rfl, Nat.le_of_ble_eq_true rfl⟩) (pVQX (q0 := 0) hPc hDc hW0 (EF.sub hE hS.1 hS.2.1 hFc) (hE _ hS.2.1) rfl rfl) rfl rfl hl.1 rfl (lv_room (Nat.le_of_ble_eq_true rfl)) dX1_measureWest_44 ⟨Nat.le_of_ble_eq_true rfl, Nat.le_of_ble_eq_true rfl⟩) hS (fun q _ h => hFc q h) hFc (fun u t H1 locs ht hvm hw hB hz1 hk1 hS => ?_)
          obtain ⟨hP1, hD1⟩ := hB
          rw [ht] at hP1
          have hw_6 : True := hw
          obtain ⟨hP, hD⟩ := va_join (wr := []) (w1 := [(h1, .inr (5, [.long (lI ((rsum (cT nn X Y cl) z) + bT X Y z (nxt nn z) cl 1).num), .long (lN ((rsum (cT nn X Y cl) z) + bT X Y z (nxt nn z) cl 1).den)]))]) hP hD [0] [] rfl rfl (by decide) (by decide) hk1 hFc hP1 hD1
          generalize H1 = H at hP hS ⊢
          have hP := hP.sub (ws' := [(h1, .inr (5, [.long (lI ((rsum (cT nn X Y cl) z) + bT X Y z (nxt nn z) cl 1).num), .long (lN ((rsum (cT nn X Y cl) z) + bT X Y z (nxt nn z) cl 1).den)]))]) [0] rfl
          have hD := hD.sub (ws' := [(h1, .inr (5, [.long (lI ((rsum (cT nn X Y cl) z) + bT X Y z (nxt nn z) cl 1).num), .long (lN ((rsum (cT nn X Y cl) z) + bT X Y z (nxt nn z) cl 1).den)]))]) [0] (by decide) rfl
          rw [show rsum (cT nn X Y cl) z + bT X Y z (nxt nn z) cl 1 = rsum (cT nn X Y cl) (z + 1) from by show _ = _ + cT nn X Y cl z; rw [show cT nn X Y cl z = _ from cif_f q34]] at hP hD
          refine lv_goto (tgt := 60) hx hb dX1_measureWest_47 (by decide) ?_
          refine lv_iinc (v := nI (z + 1)) (lv' := [(3, .int (nI (z + 1))), (4, .int (nI (nxt nn z))), (0, .ref h0), (1, .int cl), (2, .ref h1)]) hx hb dX1_measureWest_60 hl (k := 4) rfl (nI_1 _) (by decide) rfl (fun ls hl => ?_)
          refine lv_goto (tgt := 6) hx hb dX1_measureWest_63 (by decide) ?_
          exact ih_6 (z + 1) (by omega) (by omega) _ _ hP hD hS ls (lv_sub hl [2, 3, 4, 0] rfl)
  exact LOOP_6 (nn - 0 + 1) 0 (Nat.zero_le _) (Nat.lt_succ_self _) _ _ hP hD hS ls (lv_sub hl [1, 2, 3, 0] rfl)

set_option maxHeartbeats 4000000 in
set_option maxRecDepth 100000 in
theorem c_X6_say (l : Launch) (D : va_G) (cI cB cZ cP : ClassId) (sz : Nat) (h0 tx es i1 i2 wa ra : Nat) (kp : Int32) (as ae an n0 : Nat) (nc pt tw nm : Int32) (x : Int32) (fs : Nat → Int32) (hn0 : n0 ≤ 48) : Met l yX6_say wsX6_say ({ frames := 1, cells := 0, slots := 0, locals := 21 } : Room) (va_Pc [.ref h0, .int x] (fun U => U.heap.size = sz ∧ va_P D vwCl [(h0, .inr (8, [.ref tx, .ref es, .ref i1, .ref i2, .ref wa, .ref ra, .int kp])), (tx, .inr (6, [.ref as, .ref ae, .ref an, .int (nI n0), .int nc, .int pt, .int tw, .int nm])), (as, .inl (cI, 48, .inl fs))] U.heap ∧ KW D cI cB cZ cP U ∧ va_D (fun _ => True) [(h0, .inr (8, [.ref tx, .ref es, .ref i1, .ref i2, .ref wa, .ref ra, .int kp])), (tx, .inr (6, [.ref as, .ref ae, .ref an, .int (nI n0), .int nc, .int pt, .int tw, .int nm])), (as, .inl (cI, 48, .inl fs))] ∧ EF [(h0, .inr (8, [.ref tx, .ref es, .ref i1, .ref i2, .ref wa, .ref ra, .int kp])), (tx, .inr (6, [.ref as, .ref ae, .ref an, .int (nI n0), .int nc, .int pt, .int tw, .int nm])), (as, .inl (cI, 48, .inl fs))] sz E0 U.heap)) (va_Qi (fun r (u : Nat × (Nat → Int32)) => match u with | (n1, f1) => (¬ (33 ≤ x.toInt ∧ x.toInt ≤ 126) ∧ r = -2 ∧ n1 = n0 ∧ f1 = fs) ∨ ((33 ≤ x.toInt ∧ x.toInt ≤ 126) ∧ ¬ n0 < 48 ∧ r = -4 ∧ n1 = n0 ∧ f1 = fs) ∨ ((33 ≤ x.toInt ∧ x.toInt ≤ 126) ∧ n0 < 48 ∧ r = nI (n0 + 1) ∧ n1 = n0 + 1 ∧ f1 = upd fs n0 x)) (fun (u : Nat × (Nat → Int32)) (t : State) => match u with | (n1, f1) => va_P D vwCl [(h0, .inr (8, [.ref tx, .ref es, .ref i1, .ref i2, .ref wa, .ref ra, .int kp])), (tx, .inr (6, [.ref as, .ref ae, .ref an, .int (nI n1), .int nc, .int pt, .int tw, .int nm])), (as, .inl (cI, 48, .inl f1))] t.heap ∧ va_D (va_A [(h0, .inr (8, [.ref tx, .ref es, .ref i1, .ref i2, .ref wa, .ref ra, .int kp])), (tx, .inr (6, [.ref as, .ref ae, .ref an, .int (nI n0), .int nc, .int pt, .int tw, .int nm])), (as, .inl (cI, 48, .inl fs))] sz) [(h0, .inr (8, [.ref tx, .ref es, .ref i1, .ref i2, .ref wa, .ref ra, .int kp])), (tx, .inr (6, [.ref as, .ref ae, .ref an, .int (nI n1), .int nc, .int pt, .int tw, .int nm])), (as, .inl (cI, 48, .inl f1))]) (va_A [(h0, .inr (8, [.ref tx, .ref es, .ref i1, .ref i2, .ref wa, .ref ra, .int kp])), (tx, .inr (6, [.ref as, .ref ae, .ref an, .int (nI n0), .int nc, .int pt, .int tw, .int nm])), (as, .inl (cI, 48, .inl fs))] sz)) 0 0 (va_A [(h0, .inr (8, [.ref tx, .ref es, .ref i1, .ref i2, .ref wa, .ref ra, .int kp])), (tx, .inr (6, [.ref as, .ref ae, .ref an, .int (nI n0), .int nc, .int pt, .int tw, .int nm])), (as, .inl (cI, 48, .inl fs))] sz) := by
  refine Met.ofW (cc := cX6_say) (maxL := 2) (ret := (some .int)) (by decide) rfl ?_
  intro p e s m args below meth c s₁ B hml hv
  obtain ⟨rfl, hsz, hP, hW0, hD0, hE⟩ := hv
  have hx := B.exec
  have hb := B.bytes
  have hr := B.returns
  have hts := atoms_spec (ws := wsX6_say) B.pre
  have hown : s.vm.findClass RX6 = some m.cls := findClass_of_methodNamed B.named
  have hlocks := B.notSynchronized
  have hK := hW0.1
  subst hsz
  have hD := hD0.self (sz := s.heap.size)
  unfold EF at hE
  generalize hAe : va_A [(h0, .inr (8, [.ref tx, .ref es, .ref i1, .ref i2, .ref wa, .ref ra, .int kp])), (tx, .inr (6, [.ref as, .ref ae, .ref an, .int (nI n0), .int nc, .int pt, .int tw, .int nm])), (as, .inl (cI, 48, .inl fs))] s.heap.size = A at hD hE ⊢
  have hA : ∀ q : Nat, s.heap.size ≤ q → A q := fun q h => by rw [← hAe]; exact Or.inr h
  have hS : va_S A s.heap s.heap [] := va_S.rf
  have hl := lv_entry ([.ref h0, .int x]) (n := 2) (Nat.le_of_ble_eq_true rfl)
  rw [lg_entry_eq]
  generalize (lg_sl ([.ref h0, .int x]) ++ List.replicate (2 - (lg_sl ([.ref h0, .int x])).length) Slot.unset).toArray = ls at hl ⊢
  have hl : lv_has ls 2 [(0, .ref h0), (1, .int x)] := hl
  show W p l e ({ frames := 1, cells := 0, slots := 0, locals := 21 } : Room) s m ([.ref h0, .int x] : List Value).toArray below meth c s.heap [] 0 0 _ (F0 m 0 ls [])
  refine u_genQ (fun Q hQ => ?_)
  refine lv_iload_n hx hb dX6_say_0 rfl (lv_at hl 1 rfl) ?_
  refine lv_bipush (v := 33) hx hb dX6_say_1 (by decide) ?_
  refine lv_icmp_lt (tgt := 12) hx hb dX6_say_3 (by decide) (fun c_1 => ?_) (fun c_1 => ?_)
  · skip
    refine lv_bipush (v := (-2)) hx hb dX6_say_12 (by decide) ?_
    rw [← hQ]
    have hP9 := hP
    have hD9 := hD
    exact W.iret (v := (-2)) hx hb hr (fun t ht hW => ⟨⟨_, (n0, fs), rfl, Or.inl ⟨(by simp only [Int32.lt_iff_toInt_lt, Int32.le_iff_toInt_le, ← Int32.toInt_inj, li_0, li_1, li_2, li_3, li_4, li_5, li_6, li_7, li_8, li_9, li_10, li_12, li_20, li_31, li_32, li_33, li_47, li_48, li_49, li_57, li_59, li_60, li_101, li_108, li_109, li_110, li_115, li_119, li_126, li_999, li_1000, li_1023, li_1024, li_2000, li_m1, li_m6] at c_1 ⊢; omega), rfl, rfl, rfl⟩, by rw [ht]; exact hP9, hD9⟩, hS.F ht⟩) hS.2.2 dX6_say_14
  · skip
    refine lv_iload_n hx hb dX6_say_6 rfl (lv_at hl 1 rfl) ?_
    refine lv_bipush (v := 126) hx hb dX6_say_7 (by decide) ?_
    refine lv_icmp_le (tgt := 15) hx hb dX6_say_9 (by decide) (fun c_2 => ?_) (fun c_2 => ?_)
    · skip
      refine lv_aload_n hx hb dX6_say_15 rfl (lv_at hl 0 rfl) ?_
      refine va_get (D := D) (ci := 8) (v := .ref tx) (C := RX6) (T := TX6) (N := 7) hx hb hts (by decide +kernel) hown hK hP 0 rfl rfl 0 (by decide) (hts (.fieldLink RX6 10 "LandDeeds" "text" "LLandDeeds$Text;") (by decide +kernel)) (fun _ h9 => h9) rfl dX6_say_16 ?_
      refine lv_iload_n hx hb dX6_say_19 rfl (lv_at hl 1 rfl) ?_
      have hPc := hP.sub (ws' := [(tx, .inr (6, [.ref as, .ref ae, .ref an, .int (nI n0), .int nc, .int pt, .int tw, .int nm])), (as, .inl (cI, 48, .inl fs))]) [1, 2] rfl
      have hDc := hD.sub (ws' := [(tx, .inr (6, [.ref as, .ref ae, .ref an, .int (nI n0), .int nc, .int pt, .int tw, .int nm])), (as, .inl (cI, 48, .inl fs))]) [1, 2] (by decide) rfl
      have hFc := va_free (wc := [(tx, .inr (6, [.ref as, .ref ae, .ref an, .int (nI n0), .int nc, .int pt, .int tw, .int nm])), (as, .inl (cI, 48, .inl fs))]) hD hS hA [1, 2] rfl
      refine va_calli (va_runV (As := [.int x]) (rest := []) ⟨hx, hb, hml, hown, hts⟩ (c_X4_append l D cI cB cZ cP s.heap.size tx as ae an n0 nc pt tw nm x fs (by first | assumption | omega)) (cwV 1 hts gX6_say_X4_append rfl rfl rfl (by decide +kernel) ⟨Nat.le_of_ble_eq_true rfl, Nat.le_of_ble_eq_true rfl⟩) (pVQ (q0 := 0) hPc hDc hW0 EF.t rfl rfl) rfl rfl hl.1 rfl (lv_room (Nat.le_of_ble_eq_true rfl)) dX6_say_20 ⟨Nat.le_of_ble_eq_true rfl, Nat.le_of_ble_eq_true rfl⟩) hS (fun q _ h => hFc q h) hFc (fun r_3 u t H1 locs ht hvm hw hB hz1 hk1 hS => ?_)
      obtain ⟨n1_3, f1_3⟩ := u
      obtain ⟨hP1, hD1⟩ := hB
      rw [ht] at hP1
      have hw_3 : (n0 < 48 ∧ r_3 = 1 ∧ n1_3 = n0 + 1 ∧ f1_3 = upd fs n0 x) ∨ (¬ n0 < 48 ∧ r_3 = 0 ∧ n1_3 = n0 ∧ f1_3 = fs) := hw
      obtain ⟨hP, hD⟩ := va_join (wr := [(h0, .inr (8, [.ref tx, .ref es, .ref i1, .ref i2, .ref wa, .ref ra, .int kp]))]) (w1 := [(tx, .inr (6, [.ref as, .ref ae, .ref an, .int (nI n1_3), .int nc, .int pt, .int tw, .int nm])), (as, .inl (cI, 48, .inl f1_3))]) hP hD [1, 2] [0] rfl rfl (by decide) (by decide) hk1 hFc hP1 hD1
      generalize H1 = H at hP hS ⊢
      have hP := hP.sub (ws' := [(h0, .inr (8, [.ref tx, .ref es, .ref i1, .ref i2, .ref wa, .ref ra, .int kp])), (tx, .inr (6, [.ref as, .ref ae, .ref an, .int (nI n1_3), .int nc, .int pt, .int tw, .int nm])), (as, .inl (cI, 48, .inl f1_3))]) [0, 1, 2] rfl
      have hD := hD.sub (ws' := [(h0, .inr (8, [.ref tx, .ref es, .ref i1, .ref i2, .ref wa, .ref ra, .int kp])), (tx, .inr (6, [.ref as, .ref ae, .ref an, .int (nI n1_3), .int nc, .int pt, .int tw, .int nm])), (as, .inl (cI, 48, .inl f1_3))]) [0, 1, 2] (by decide) rfl
      refine lv_if_eq (tgt := 36) hx hb dX6_say_23 (by decide) (fun c_4 => ?_) (fun c_4 => ?_)
      · skip
        refine lv_bipush (v := (-4)) hx hb dX6_say_36 (by decide) ?_
        rw [← hQ]
        have hP9 := hP
        have hD9 := hD
        exact W.iret (v := (-4)) hx hb hr (fun t ht hW => ⟨⟨_, (n1_3, f1_3), rfl, Or.inr (Or.inl (by rcases hw_3 with h | h; exact absurd (h.2.1.symm.trans c_4) (by decide); exact ⟨(by simp only [Int32.lt_iff_toInt_lt, Int32.le_iff_toInt_le, ← Int32.toInt_inj, li_0, li_1, li_2, li_3, li_4, li_5, li_6, li_7, li_8, li_9, li_10, li_12, li_20, li_31, li_32, li_33, li_47, li_48, li_49, li_57, li_59, li_60, li_101, li_108, li_109, li_110, li_115, li_119, li_126, li_999, li_1000, li_1023, li_1024, li_2000, li_m1, li_m6] at c_1 c_2 ⊢; omega), h.1, rfl, h.2.2.1, h.2.2.2⟩)), by rw [ht]; exact hP9, hD9⟩, hS.F ht⟩) hS.2.2 dX6_say_38
      · skip
        refine lv_aload_n hx hb dX6_say_26 rfl (lv_at hl 0 rfl) ?_
        refine va_get (D := D) (ci := 8) (v := .ref tx) (C := RX6) (T := TX6) (N := 7) hx hb hts (by decide +kernel) hown hK hP 0 rfl rfl 0 (by decide) (hts (.fieldLink RX6 10 "LandDeeds" "text" "LLandDeeds$Text;") (by decide +kernel)) (fun _ h9 => h9) rfl dX6_say_27 ?_
        refine va_get (D := D) (ci := 6) (v := .int (nI n1_3)) (C := RX4) (T := TX4) (N := 8) hx hb hts (by decide +kernel) hown hK hP 1 rfl rfl 3 (by decide) (hts (.fieldLink RX6 51 "LandDeeds$Text" "length" "I") (by decide +kernel)) (fun _ h9 => h9) rfl dX6_say_30 ?_
        refine lv_goto (tgt := 38) hx hb dX6_say_33 (by decide) ?_
        rw [← hQ]
        have hP9 := hP
        have hD9 := hD
        exact W.iret (v := nI n1_3) hx hb hr (fun t ht hW => ⟨⟨_, (n1_3, f1_3), rfl, Or.inr (Or.inr (by rcases hw_3 with h | h; exact ⟨(by simp only [Int32.lt_iff_toInt_lt, Int32.le_iff_toInt_le, ← Int32.toInt_inj, li_0, li_1, li_2, li_3, li_4, li_5, li_6, li_7, li_8, li_9, li_10, li_12, li_20, li_31, li_32, li_33, li_47, li_48, li_49, li_57, li_59, li_60, li_101, li_108, li_109, li_110, li_115, li_119, li_126, li_999, li_1000, li_1023, li_1024, li_2000, li_m1, li_m6] at c_1 c_2 ⊢; omega), h.1, by rw [h.2.2.1], h.2.2.1, h.2.2.2⟩; exact absurd h.2.1 c_4)), by rw [ht]; exact hP9, hD9⟩, hS.F ht⟩) hS.2.2 dX6_say_38
    · skip
      refine lv_bipush (v := (-2)) hx hb dX6_say_12 (by decide) ?_
      rw [← hQ]
      have hP9 := hP
      have hD9 := hD
      exact W.iret (v := (-2)) hx hb hr (fun t ht hW => ⟨⟨_, (n0, fs), rfl, Or.inl ⟨(by simp only [Int32.lt_iff_toInt_lt, Int32.le_iff_toInt_le, ← Int32.toInt_inj, li_0, li_1, li_2, li_3, li_4, li_5, li_6, li_7, li_8, li_9, li_10, li_12, li_20, li_31, li_32, li_33, li_47, li_48, li_49, li_57, li_59, li_60, li_101, li_108, li_109, li_110, li_115, li_119, li_126, li_999, li_1000, li_1023, li_1024, li_2000, li_m1, li_m6] at c_1 c_2 ⊢; omega), rfl, rfl, rfl⟩, by rw [ht]; exact hP9, hD9⟩, hS.F ht⟩) hS.2.2 dX6_say_14

set_option maxHeartbeats 4000000 in
set_option maxRecDepth 100000 in
theorem c_X6_wipe (l : Launch) (D : va_G) (cI cB cZ cP : ClassId) (sz : Nat) (h0 tx es i1 i2 wa ra : Nat) (kp : Int32) (as ae an : Nat) (ln nc pt tw nm : Int32) : Met l yX6_wipe wsX6_wipe ({ frames := 1, cells := 0, slots := 0, locals := 21 } : Room) (va_Pc [.ref h0] (fun U => U.heap.size = sz ∧ va_P D vwCl [(h0, .inr (8, [.ref tx, .ref es, .ref i1, .ref i2, .ref wa, .ref ra, .int kp])), (tx, .inr (6, [.ref as, .ref ae, .ref an, .int ln, .int nc, .int pt, .int tw, .int nm]))] U.heap ∧ KW D cI cB cZ cP U ∧ va_D (fun _ => True) [(h0, .inr (8, [.ref tx, .ref es, .ref i1, .ref i2, .ref wa, .ref ra, .int kp])), (tx, .inr (6, [.ref as, .ref ae, .ref an, .int ln, .int nc, .int pt, .int tw, .int nm]))] ∧ EF [(h0, .inr (8, [.ref tx, .ref es, .ref i1, .ref i2, .ref wa, .ref ra, .int kp])), (tx, .inr (6, [.ref as, .ref ae, .ref an, .int ln, .int nc, .int pt, .int tw, .int nm]))] sz E0 U.heap)) (va_Qi (fun r (_ : Unit) => r = ln) (fun (_ : Unit) (t : State) => va_P D vwCl [(h0, .inr (8, [.ref tx, .ref es, .ref i1, .ref i2, .ref wa, .ref ra, .int kp])), (tx, .inr (6, [.ref as, .ref ae, .ref an, .int 0, .int nc, .int pt, .int tw, .int nm]))] t.heap ∧ va_D (va_A [(h0, .inr (8, [.ref tx, .ref es, .ref i1, .ref i2, .ref wa, .ref ra, .int kp])), (tx, .inr (6, [.ref as, .ref ae, .ref an, .int ln, .int nc, .int pt, .int tw, .int nm]))] sz) [(h0, .inr (8, [.ref tx, .ref es, .ref i1, .ref i2, .ref wa, .ref ra, .int kp])), (tx, .inr (6, [.ref as, .ref ae, .ref an, .int 0, .int nc, .int pt, .int tw, .int nm]))]) (va_A [(h0, .inr (8, [.ref tx, .ref es, .ref i1, .ref i2, .ref wa, .ref ra, .int kp])), (tx, .inr (6, [.ref as, .ref ae, .ref an, .int ln, .int nc, .int pt, .int tw, .int nm]))] sz)) 0 0 (va_A [(h0, .inr (8, [.ref tx, .ref es, .ref i1, .ref i2, .ref wa, .ref ra, .int kp])), (tx, .inr (6, [.ref as, .ref ae, .ref an, .int ln, .int nc, .int pt, .int tw, .int nm]))] sz) := by
  refine Met.ofW (cc := cX6_wipe) (maxL := 1) (ret := (some .int)) (by decide) rfl ?_
  intro p e s m args below meth c s₁ B hml hv
  obtain ⟨rfl, hsz, hP, hW0, hD0, hE⟩ := hv
  have hx := B.exec
  have hb := B.bytes
  have hr := B.returns
  have hts := atoms_spec (ws := wsX6_wipe) B.pre
  have hown : s.vm.findClass RX6 = some m.cls := findClass_of_methodNamed B.named
  have hlocks := B.notSynchronized
  have hK := hW0.1
  subst hsz
  have hD := hD0.self (sz := s.heap.size)
  unfold EF at hE
  generalize hAe : va_A [(h0, .inr (8, [.ref tx, .ref es, .ref i1, .ref i2, .ref wa, .ref ra, .int kp])), (tx, .inr (6, [.ref as, .ref ae, .ref an, .int ln, .int nc, .int pt, .int tw, .int nm]))] s.heap.size = A at hD hE ⊢
  have hA : ∀ q : Nat, s.heap.size ≤ q → A q := fun q h => by rw [← hAe]; exact Or.inr h
  have hS : va_S A s.heap s.heap [] := va_S.rf
  have hl := lv_entry ([.ref h0]) (n := 1) (Nat.le_of_ble_eq_true rfl)
  rw [lg_entry_eq]
  generalize (lg_sl ([.ref h0]) ++ List.replicate (1 - (lg_sl ([.ref h0])).length) Slot.unset).toArray = ls at hl ⊢
  have hl : lv_has ls 1 [(0, .ref h0)] := hl
  show W p l e ({ frames := 1, cells := 0, slots := 0, locals := 21 } : Room) s m ([.ref h0] : List Value).toArray below meth c s.heap [] 0 0 _ (F0 m 0 ls [])
  refine u_genQ (fun Q hQ => ?_)
  refine lv_aload_n hx hb dX6_wipe_0 rfl (lv_at hl 0 rfl) ?_
  refine va_get (D := D) (ci := 8) (v := .ref tx) (C := RX6) (T := TX6) (N := 7) hx hb hts (by decide +kernel) hown hK hP 0 rfl rfl 0 (by decide) (hts (.fieldLink RX6 10 "LandDeeds" "text" "LLandDeeds$Text;") (by decide +kernel)) (fun _ h9 => h9) rfl dX6_wipe_1 ?_
  have hPc := hP.sub (ws' := [(tx, .inr (6, [.ref as, .ref ae, .ref an, .int ln, .int nc, .int pt, .int tw, .int nm]))]) [1] rfl
  have hDc := hD.sub (ws' := [(tx, .inr (6, [.ref as, .ref ae, .ref an, .int ln, .int nc, .int pt, .int tw, .int nm]))]) [1] (by decide) rfl
  have hFc := va_free (wc := [(tx, .inr (6, [.ref as, .ref ae, .ref an, .int ln, .int nc, .int pt, .int tw, .int nm]))]) hD hS hA [1] rfl
  refine va_calli (va_runV (As := []) (rest := []) ⟨hx, hb, hml, hown, hts⟩ (c_X4_clear l D cI cB cZ cP s.heap.size tx as ae an ln nc pt tw nm ) (cwV 0 hts gX6_wipe_X4_clear rfl rfl rfl (by decide +kernel) ⟨Nat.le_of_ble_eq_true rfl, Nat.le_of_ble_eq_true rfl⟩) (pVQ (q0 := 0) hPc hDc hW0 EF.t rfl rfl) rfl rfl hl.1 rfl (lv_room (Nat.le_of_ble_eq_true rfl)) dX6_wipe_4 ⟨Nat.le_of_ble_eq_true rfl, Nat.le_of_ble_eq_true rfl⟩) hS (fun q _ h => hFc q h) hFc (fun r_1 u t H1 locs ht hvm hw hB hz1 hk1 hS => ?_)
  obtain ⟨hP1, hD1⟩ := hB
  rw [ht] at hP1
  have hw_1 : r_1 = ln := hw
  obtain ⟨hP, hD⟩ := va_join (wr := [(h0, .inr (8, [.ref tx, .ref es, .ref i1, .ref i2, .ref wa, .ref ra, .int kp]))]) (w1 := [(tx, .inr (6, [.ref as, .ref ae, .ref an, .int 0, .int nc, .int pt, .int tw, .int nm]))]) hP hD [1] [0] rfl rfl (by decide) (by decide) hk1 hFc hP1 hD1
  generalize H1 = H at hP hS ⊢
  have hP := hP.sub (ws' := [(h0, .inr (8, [.ref tx, .ref es, .ref i1, .ref i2, .ref wa, .ref ra, .int kp])), (tx, .inr (6, [.ref as, .ref ae, .ref an, .int 0, .int nc, .int pt, .int tw, .int nm]))]) [0, 1] rfl
  have hD := hD.sub (ws' := [(h0, .inr (8, [.ref tx, .ref es, .ref i1, .ref i2, .ref wa, .ref ra, .int kp])), (tx, .inr (6, [.ref as, .ref ae, .ref an, .int 0, .int nc, .int pt, .int tw, .int nm]))]) [0, 1] (by decide) rfl
  rw [← hQ]
  have hP9 := hP
  have hD9 := hD
  exact W.iret (v := r_1) hx hb hr (fun t ht hW => ⟨⟨_, (), rfl, hw_1, by rw [ht]; exact hP9, hD9⟩, hS.F ht⟩) hS.2.2 dX6_wipe_7

set_option maxHeartbeats 4000000 in
set_option maxRecDepth 100000 in
theorem c_X6_fault (l : Launch) (D : va_G) (cI cB cZ cP : ClassId) (sz : Nat) (h0 tx es i1 i2 wa ra : Nat) (kp : Int32) (as ae an n0 : Nat) (tw : Int32) (nc pt nm : Nat) (fs fe fn : Nat → Int32) (hn0 : n0 ≤ 48) (hnm : nm ≤ 31) : Met l yX6_fault wsX6_fault ({ frames := 4, cells := 0, slots := 0, locals := 86 } : Room) (va_Pc [.ref h0] (fun U => U.heap.size = sz ∧ va_P D vwCl [(h0, .inr (8, [.ref tx, .ref es, .ref i1, .ref i2, .ref wa, .ref ra, .int kp])), (tx, .inr (6, [.ref as, .ref ae, .ref an, .int (nI n0), .int (nI nc), .int (nI pt), .int tw, .int (nI nm)])), (as, .inl (cI, 48, .inl fs)), (ae, .inl (cI, 8, .inl fe)), (an, .inl (cI, 8, .inl fn))] U.heap ∧ KW D cI cB cZ cP U ∧ va_D (fun _ => True) [(h0, .inr (8, [.ref tx, .ref es, .ref i1, .ref i2, .ref wa, .ref ra, .int kp])), (tx, .inr (6, [.ref as, .ref ae, .ref an, .int (nI n0), .int (nI nc), .int (nI pt), .int tw, .int (nI nm)])), (as, .inl (cI, 48, .inl fs)), (ae, .inl (cI, 8, .inl fe)), (an, .inl (cI, 8, .inl fn))] ∧ EF [(h0, .inr (8, [.ref tx, .ref es, .ref i1, .ref i2, .ref wa, .ref ra, .int kp])), (tx, .inr (6, [.ref as, .ref ae, .ref an, .int (nI n0), .int (nI nc), .int (nI pt), .int tw, .int (nI nm)])), (as, .inl (cI, 48, .inl fs)), (ae, .inl (cI, 8, .inl fe)), (an, .inl (cI, 8, .inl fn))] sz E0 U.heap)) (va_Qi (fun r (u : Nat × Nat × Nat × Int32 × (Nat → Int32) × (Nat → Int32)) => match u with | (nc1, pt1, nm1, tw1, fe1, fn1) => FltIs fs n0 r ∧ nm1 ≤ 31) (fun (u : Nat × Nat × Nat × Int32 × (Nat → Int32) × (Nat → Int32)) (t : State) => match u with | (nc1, pt1, nm1, tw1, fe1, fn1) => va_P D vwCl [(h0, .inr (8, [.ref tx, .ref es, .ref i1, .ref i2, .ref wa, .ref ra, .int kp])), (tx, .inr (6, [.ref as, .ref ae, .ref an, .int (nI n0), .int (nI nc1), .int (nI pt1), .int tw1, .int (nI nm1)])), (as, .inl (cI, 48, .inl fs)), (ae, .inl (cI, 8, .inl fe1)), (an, .inl (cI, 8, .inl fn1))] t.heap ∧ va_D (va_A [(h0, .inr (8, [.ref tx, .ref es, .ref i1, .ref i2, .ref wa, .ref ra, .int kp])), (tx, .inr (6, [.ref as, .ref ae, .ref an, .int (nI n0), .int (nI nc), .int (nI pt), .int tw, .int (nI nm)])), (as, .inl (cI, 48, .inl fs)), (ae, .inl (cI, 8, .inl fe)), (an, .inl (cI, 8, .inl fn))] sz) [(h0, .inr (8, [.ref tx, .ref es, .ref i1, .ref i2, .ref wa, .ref ra, .int kp])), (tx, .inr (6, [.ref as, .ref ae, .ref an, .int (nI n0), .int (nI nc1), .int (nI pt1), .int tw1, .int (nI nm1)])), (as, .inl (cI, 48, .inl fs)), (ae, .inl (cI, 8, .inl fe1)), (an, .inl (cI, 8, .inl fn1))]) (va_A [(h0, .inr (8, [.ref tx, .ref es, .ref i1, .ref i2, .ref wa, .ref ra, .int kp])), (tx, .inr (6, [.ref as, .ref ae, .ref an, .int (nI n0), .int (nI nc), .int (nI pt), .int tw, .int (nI nm)])), (as, .inl (cI, 48, .inl fs)), (ae, .inl (cI, 8, .inl fe)), (an, .inl (cI, 8, .inl fn))] sz)) 0 0 (va_A [(h0, .inr (8, [.ref tx, .ref es, .ref i1, .ref i2, .ref wa, .ref ra, .int kp])), (tx, .inr (6, [.ref as, .ref ae, .ref an, .int (nI n0), .int (nI nc), .int (nI pt), .int tw, .int (nI nm)])), (as, .inl (cI, 48, .inl fs)), (ae, .inl (cI, 8, .inl fe)), (an, .inl (cI, 8, .inl fn))] sz) := by
  refine Met.ofW (cc := cX6_fault) (maxL := 1) (ret := (some .int)) (by decide) rfl ?_
  intro p e s m args below meth c s₁ B hml hv
  obtain ⟨rfl, hsz, hP, hW0, hD0, hE⟩ := hv
  have hx := B.exec
  have hb := B.bytes
  have hr := B.returns
  have hts := atoms_spec (ws := wsX6_fault) B.pre
  have hown : s.vm.findClass RX6 = some m.cls := findClass_of_methodNamed B.named
  have hlocks := B.notSynchronized
  have hK := hW0.1
  subst hsz
  have hD := hD0.self (sz := s.heap.size)
  unfold EF at hE
  generalize hAe : va_A [(h0, .inr (8, [.ref tx, .ref es, .ref i1, .ref i2, .ref wa, .ref ra, .int kp])), (tx, .inr (6, [.ref as, .ref ae, .ref an, .int (nI n0), .int (nI nc), .int (nI pt), .int tw, .int (nI nm)])), (as, .inl (cI, 48, .inl fs)), (ae, .inl (cI, 8, .inl fe)), (an, .inl (cI, 8, .inl fn))] s.heap.size = A at hD hE ⊢
  have hA : ∀ q : Nat, s.heap.size ≤ q → A q := fun q h => by rw [← hAe]; exact Or.inr h
  have hS : va_S A s.heap s.heap [] := va_S.rf
  have hl := lv_entry ([.ref h0]) (n := 1) (Nat.le_of_ble_eq_true rfl)
  rw [lg_entry_eq]
  generalize (lg_sl ([.ref h0]) ++ List.replicate (1 - (lg_sl ([.ref h0])).length) Slot.unset).toArray = ls at hl ⊢
  have hl : lv_has ls 1 [(0, .ref h0)] := hl
  show W p l e ({ frames := 4, cells := 0, slots := 0, locals := 86 } : Room) s m ([.ref h0] : List Value).toArray below meth c s.heap [] 0 0 _ (F0 m 0 ls [])
  refine u_genQ (fun Q hQ => ?_)
  refine lv_aload_n hx hb dX6_fault_0 rfl (lv_at hl 0 rfl) ?_
  refine va_get (D := D) (ci := 8) (v := .ref tx) (C := RX6) (T := TX6) (N := 7) hx hb hts (by decide +kernel) hown hK hP 0 rfl rfl 0 (by decide) (hts (.fieldLink RX6 10 "LandDeeds" "text" "LLandDeeds$Text;") (by decide +kernel)) (fun _ h9 => h9) rfl dX6_fault_1 ?_
  have hPc := hP.sub (ws' := [(tx, .inr (6, [.ref as, .ref ae, .ref an, .int (nI n0), .int (nI nc), .int (nI pt), .int tw, .int (nI nm)])), (as, .inl (cI, 48, .inl fs)), (ae, .inl (cI, 8, .inl fe)), (an, .inl (cI, 8, .inl fn))]) [1, 2, 3, 4] rfl
  have hDc := hD.sub (ws' := [(tx, .inr (6, [.ref as, .ref ae, .ref an, .int (nI n0), .int (nI nc), .int (nI pt), .int tw, .int (nI nm)])), (as, .inl (cI, 48, .inl fs)), (ae, .inl (cI, 8, .inl fe)), (an, .inl (cI, 8, .inl fn))]) [1, 2, 3, 4] (by decide) rfl
  have hFc := va_free (wc := [(tx, .inr (6, [.ref as, .ref ae, .ref an, .int (nI n0), .int (nI nc), .int (nI pt), .int tw, .int (nI nm)])), (as, .inl (cI, 48, .inl fs)), (ae, .inl (cI, 8, .inl fe)), (an, .inl (cI, 8, .inl fn))]) hD hS hA [1, 2, 3, 4] rfl
  refine va_calli (va_runV (As := []) (rest := []) ⟨hx, hb, hml, hown, hts⟩ (c_X4_read l D cI cB cZ cP s.heap.size tx as ae an n0 tw nc pt nm fs fe fn (by first | assumption | omega) (by first | assumption | omega)) (cwV 0 hts gX6_fault_X4_read rfl rfl rfl (by decide +kernel) ⟨Nat.le_of_ble_eq_true rfl, Nat.le_of_ble_eq_true rfl⟩) (pVQ (q0 := 0) hPc hDc hW0 EF.t rfl rfl) rfl rfl hl.1 rfl (lv_room (Nat.le_of_ble_eq_true rfl)) dX6_fault_4 ⟨Nat.le_of_ble_eq_true rfl, Nat.le_of_ble_eq_true rfl⟩) hS (fun q _ h => hFc q h) hFc (fun r_1 u t H1 locs ht hvm hw hB hz1 hk1 hS => ?_)
  obtain ⟨nc1_1, pt1_1, nm1_1, tw1_1, fe1_1, fn1_1⟩ := u
  obtain ⟨hP1, hD1⟩ := hB
  rw [ht] at hP1
  have hw_1 : FltIs fs n0 r_1 ∧ okT (nc1_1, pt1_1, nm1_1, tw1_1, fe1_1, fn1_1) ∧ (r_1 = -6 → ∃ S : TS, runT fs n0 = some S ∧ wholeT S ∧ RelT (nc1_1, pt1_1, nm1_1, tw1_1, fe1_1, fn1_1) S) := hw
  obtain ⟨hP, hD⟩ := va_join (wr := [(h0, .inr (8, [.ref tx, .ref es, .ref i1, .ref i2, .ref wa, .ref ra, .int kp]))]) (w1 := [(tx, .inr (6, [.ref as, .ref ae, .ref an, .int (nI n0), .int (nI nc1_1), .int (nI pt1_1), .int tw1_1, .int (nI nm1_1)])), (as, .inl (cI, 48, .inl fs)), (ae, .inl (cI, 8, .inl fe1_1)), (an, .inl (cI, 8, .inl fn1_1))]) hP hD [1, 2, 3, 4] [0] rfl rfl (by decide) (by decide) hk1 hFc hP1 hD1
  generalize H1 = H at hP hS ⊢
  have hP := hP.sub (ws' := [(h0, .inr (8, [.ref tx, .ref es, .ref i1, .ref i2, .ref wa, .ref ra, .int kp])), (tx, .inr (6, [.ref as, .ref ae, .ref an, .int (nI n0), .int (nI nc1_1), .int (nI pt1_1), .int tw1_1, .int (nI nm1_1)])), (as, .inl (cI, 48, .inl fs)), (ae, .inl (cI, 8, .inl fe1_1)), (an, .inl (cI, 8, .inl fn1_1))]) [0, 1, 2, 3, 4] rfl
  have hD := hD.sub (ws' := [(h0, .inr (8, [.ref tx, .ref es, .ref i1, .ref i2, .ref wa, .ref ra, .int kp])), (tx, .inr (6, [.ref as, .ref ae, .ref an, .int (nI n0), .int (nI nc1_1), .int (nI pt1_1), .int tw1_1, .int (nI nm1_1)])), (as, .inl (cI, 48, .inl fs)), (ae, .inl (cI, 8, .inl fe1_1)), (an, .inl (cI, 8, .inl fn1_1))]) [0, 1, 2, 3, 4] (by decide) rfl
  rw [← hQ]
  have hP9 := hP
  have hD9 := hD
  exact W.iret (v := r_1) hx hb hr (fun t ht hW => ⟨⟨_, (nc1_1, pt1_1, nm1_1, tw1_1, fe1_1, fn1_1), rfl, ⟨hw_1.1, hw_1.2.1.2.2.1⟩, by rw [ht]; exact hP9, hD9⟩, hS.F ht⟩) hS.2.2 dX6_fault_7

set_option maxHeartbeats 4000000 in
set_option maxRecDepth 100000 in
theorem c_X6_miss (l : Launch) (D : va_G) (cI cB cZ cP : ClassId) (sz : Nat) (h0 tx es i1 i2 wa ra : Nat) (kp : Int32) (as ae an n0 : Nat) (tw : Int32) (nc pt nm : Nat) (fs fe fn : Nat → Int32) (x : Int32) (hn0 : n0 ≤ 48) (hnm : nm ≤ 31) : Met l yX6_miss wsX6_miss ({ frames := 4, cells := 0, slots := 0, locals := 86 } : Room) (va_Pc [.ref h0, .int x] (fun U => U.heap.size = sz ∧ va_P D vwCl [(h0, .inr (8, [.ref tx, .ref es, .ref i1, .ref i2, .ref wa, .ref ra, .int kp])), (tx, .inr (6, [.ref as, .ref ae, .ref an, .int (nI n0), .int (nI nc), .int (nI pt), .int tw, .int (nI nm)])), (as, .inl (cI, 48, .inl fs)), (ae, .inl (cI, 8, .inl fe)), (an, .inl (cI, 8, .inl fn))] U.heap ∧ KW D cI cB cZ cP U ∧ va_D (fun _ => True) [(h0, .inr (8, [.ref tx, .ref es, .ref i1, .ref i2, .ref wa, .ref ra, .int kp])), (tx, .inr (6, [.ref as, .ref ae, .ref an, .int (nI n0), .int (nI nc), .int (nI pt), .int tw, .int (nI nm)])), (as, .inl (cI, 48, .inl fs)), (ae, .inl (cI, 8, .inl fe)), (an, .inl (cI, 8, .inl fn))] ∧ EF [(h0, .inr (8, [.ref tx, .ref es, .ref i1, .ref i2, .ref wa, .ref ra, .int kp])), (tx, .inr (6, [.ref as, .ref ae, .ref an, .int (nI n0), .int (nI nc), .int (nI pt), .int tw, .int (nI nm)])), (as, .inl (cI, 48, .inl fs)), (ae, .inl (cI, 8, .inl fe)), (an, .inl (cI, 8, .inl fn))] sz E0 U.heap)) (va_Qi (fun r (u : Nat × Nat × Nat × Int32 × (Nat → Int32) × (Nat → Int32)) => match u with | (nc1, pt1, nm1, tw1, fe1, fn1) => r = aMiss fs n0 x ∧ nm1 ≤ 31) (fun (u : Nat × Nat × Nat × Int32 × (Nat → Int32) × (Nat → Int32)) (t : State) => match u with | (nc1, pt1, nm1, tw1, fe1, fn1) => va_P D vwCl [(h0, .inr (8, [.ref tx, .ref es, .ref i1, .ref i2, .ref wa, .ref ra, .int kp])), (tx, .inr (6, [.ref as, .ref ae, .ref an, .int (nI n0), .int (nI nc1), .int (nI pt1), .int tw1, .int (nI nm1)])), (as, .inl (cI, 48, .inl fs)), (ae, .inl (cI, 8, .inl fe1)), (an, .inl (cI, 8, .inl fn1))] t.heap ∧ va_D (va_A [(h0, .inr (8, [.ref tx, .ref es, .ref i1, .ref i2, .ref wa, .ref ra, .int kp])), (tx, .inr (6, [.ref as, .ref ae, .ref an, .int (nI n0), .int (nI nc), .int (nI pt), .int tw, .int (nI nm)])), (as, .inl (cI, 48, .inl fs)), (ae, .inl (cI, 8, .inl fe)), (an, .inl (cI, 8, .inl fn))] sz) [(h0, .inr (8, [.ref tx, .ref es, .ref i1, .ref i2, .ref wa, .ref ra, .int kp])), (tx, .inr (6, [.ref as, .ref ae, .ref an, .int (nI n0), .int (nI nc1), .int (nI pt1), .int tw1, .int (nI nm1)])), (as, .inl (cI, 48, .inl fs)), (ae, .inl (cI, 8, .inl fe1)), (an, .inl (cI, 8, .inl fn1))]) (va_A [(h0, .inr (8, [.ref tx, .ref es, .ref i1, .ref i2, .ref wa, .ref ra, .int kp])), (tx, .inr (6, [.ref as, .ref ae, .ref an, .int (nI n0), .int (nI nc), .int (nI pt), .int tw, .int (nI nm)])), (as, .inl (cI, 48, .inl fs)), (ae, .inl (cI, 8, .inl fe)), (an, .inl (cI, 8, .inl fn))] sz)) 0 0 (va_A [(h0, .inr (8, [.ref tx, .ref es, .ref i1, .ref i2, .ref wa, .ref ra, .int kp])), (tx, .inr (6, [.ref as, .ref ae, .ref an, .int (nI n0), .int (nI nc), .int (nI pt), .int tw, .int (nI nm)])), (as, .inl (cI, 48, .inl fs)), (ae, .inl (cI, 8, .inl fe)), (an, .inl (cI, 8, .inl fn))] sz) := by
  refine Met.ofW (cc := cX6_miss) (maxL := 2) (ret := (some .int)) (by decide) rfl ?_
  intro p e s m args below meth c s₁ B hml hv
  obtain ⟨rfl, hsz, hP, hW0, hD0, hE⟩ := hv
  have hx := B.exec
  have hb := B.bytes
  have hr := B.returns
  have hts := atoms_spec (ws := wsX6_miss) B.pre
  have hown : s.vm.findClass RX6 = some m.cls := findClass_of_methodNamed B.named
  have hlocks := B.notSynchronized
  have hK := hW0.1
  subst hsz
  have hD := hD0.self (sz := s.heap.size)
  unfold EF at hE
  generalize hAe : va_A [(h0, .inr (8, [.ref tx, .ref es, .ref i1, .ref i2, .ref wa, .ref ra, .int kp])), (tx, .inr (6, [.ref as, .ref ae, .ref an, .int (nI n0), .int (nI nc), .int (nI pt), .int tw, .int (nI nm)])), (as, .inl (cI, 48, .inl fs)), (ae, .inl (cI, 8, .inl fe)), (an, .inl (cI, 8, .inl fn))] s.heap.size = A at hD hE ⊢
  have hA : ∀ q : Nat, s.heap.size ≤ q → A q := fun q h => by rw [← hAe]; exact Or.inr h
  have hS : va_S A s.heap s.heap [] := va_S.rf
  have hl := lv_entry ([.ref h0, .int x]) (n := 2) (Nat.le_of_ble_eq_true rfl)
  rw [lg_entry_eq]
  generalize (lg_sl ([.ref h0, .int x]) ++ List.replicate (2 - (lg_sl ([.ref h0, .int x])).length) Slot.unset).toArray = ls at hl ⊢
  have hl : lv_has ls 2 [(0, .ref h0), (1, .int x)] := hl
  show W p l e ({ frames := 4, cells := 0, slots := 0, locals := 86 } : Room) s m ([.ref h0, .int x] : List Value).toArray below meth c s.heap [] 0 0 _ (F0 m 0 ls [])
  refine u_genQ (fun Q hQ => ?_)
  refine lv_aload_n hx hb dX6_miss_0 rfl (lv_at hl 0 rfl) ?_
  refine va_get (D := D) (ci := 8) (v := .ref tx) (C := RX6) (T := TX6) (N := 7) hx hb hts (by decide +kernel) hown hK hP 0 rfl rfl 0 (by decide) (hts (.fieldLink RX6 10 "LandDeeds" "text" "LLandDeeds$Text;") (by decide +kernel)) (fun _ h9 => h9) rfl dX6_miss_1 ?_
  have hPc := hP.sub (ws' := [(tx, .inr (6, [.ref as, .ref ae, .ref an, .int (nI n0), .int (nI nc), .int (nI pt), .int tw, .int (nI nm)])), (as, .inl (cI, 48, .inl fs)), (ae, .inl (cI, 8, .inl fe)), (an, .inl (cI, 8, .inl fn))]) [1, 2, 3, 4] rfl
  have hDc := hD.sub (ws' := [(tx, .inr (6, [.ref as, .ref ae, .ref an, .int (nI n0), .int (nI nc), .int (nI pt), .int tw, .int (nI nm)])), (as, .inl (cI, 48, .inl fs)), (ae, .inl (cI, 8, .inl fe)), (an, .inl (cI, 8, .inl fn))]) [1, 2, 3, 4] (by decide) rfl
  have hFc := va_free (wc := [(tx, .inr (6, [.ref as, .ref ae, .ref an, .int (nI n0), .int (nI nc), .int (nI pt), .int tw, .int (nI nm)])), (as, .inl (cI, 48, .inl fs)), (ae, .inl (cI, 8, .inl fe)), (an, .inl (cI, 8, .inl fn))]) hD hS hA [1, 2, 3, 4] rfl
  refine va_calli (va_runV (As := []) (rest := []) ⟨hx, hb, hml, hown, hts⟩ (c_X4_read l D cI cB cZ cP s.heap.size tx as ae an n0 tw nc pt nm fs fe fn (by first | assumption | omega) (by first | assumption | omega)) (cwV 0 hts gX6_miss_X4_read rfl rfl rfl (by decide +kernel) ⟨Nat.le_of_ble_eq_true rfl, Nat.le_of_ble_eq_true rfl⟩) (pVQ (q0 := 0) hPc hDc hW0 EF.t rfl rfl) rfl rfl hl.1 rfl (lv_room (Nat.le_of_ble_eq_true rfl)) dX6_miss_4 ⟨Nat.le_of_ble_eq_true rfl, Nat.le_of_ble_eq_true rfl⟩) hS (fun q _ h => hFc q h) hFc (fun r_1 u t H1 locs ht hvm hw hB hz1 hk1 hS => ?_)
  obtain ⟨nc1_1, pt1_1, nm1_1, tw1_1, fe1_1, fn1_1⟩ := u
  obtain ⟨hP1, hD1⟩ := hB
  rw [ht] at hP1
  have hw_1 : FltIs fs n0 r_1 ∧ okT (nc1_1, pt1_1, nm1_1, tw1_1, fe1_1, fn1_1) ∧ (r_1 = -6 → ∃ S : TS, runT fs n0 = some S ∧ wholeT S ∧ RelT (nc1_1, pt1_1, nm1_1, tw1_1, fe1_1, fn1_1) S) := hw
  obtain ⟨hP, hD⟩ := va_join (wr := [(h0, .inr (8, [.ref tx, .ref es, .ref i1, .ref i2, .ref wa, .ref ra, .int kp]))]) (w1 := [(tx, .inr (6, [.ref as, .ref ae, .ref an, .int (nI n0), .int (nI nc1_1), .int (nI pt1_1), .int tw1_1, .int (nI nm1_1)])), (as, .inl (cI, 48, .inl fs)), (ae, .inl (cI, 8, .inl fe1_1)), (an, .inl (cI, 8, .inl fn1_1))]) hP hD [1, 2, 3, 4] [0] rfl rfl (by decide) (by decide) hk1 hFc hP1 hD1
  generalize H1 = H at hP hS ⊢
  have hP := hP.sub (ws' := [(h0, .inr (8, [.ref tx, .ref es, .ref i1, .ref i2, .ref wa, .ref ra, .int kp])), (tx, .inr (6, [.ref as, .ref ae, .ref an, .int (nI n0), .int (nI nc1_1), .int (nI pt1_1), .int tw1_1, .int (nI nm1_1)])), (as, .inl (cI, 48, .inl fs)), (ae, .inl (cI, 8, .inl fe1_1)), (an, .inl (cI, 8, .inl fn1_1))]) [0, 1, 2, 3, 4] rfl
  have hD := hD.sub (ws' := [(h0, .inr (8, [.ref tx, .ref es, .ref i1, .ref i2, .ref wa, .ref ra, .int kp])), (tx, .inr (6, [.ref as, .ref ae, .ref an, .int (nI n0), .int (nI nc1_1), .int (nI pt1_1), .int tw1_1, .int (nI nm1_1)])), (as, .inl (cI, 48, .inl fs)), (ae, .inl (cI, 8, .inl fe1_1)), (an, .inl (cI, 8, .inl fn1_1))]) [0, 1, 2, 3, 4] (by decide) rfl
  refine lv_bipush (v := (-6)) hx hb dX6_miss_7 (by decide) ?_
  refine lv_icmp_eq (tgt := 15) hx hb dX6_miss_9 (by decide) (fun c_2 => ?_) (fun c_2 => ?_)
  · skip
    obtain ⟨fe9, fn9, ht9, ho9, hq9, hj9⟩ := TX_get (hw_1.2.2 c_2)
    have h88 : nc1_1 ≤ 8 := ho9.2.1
    refine lv_iload_n hx hb dX6_miss_15 rfl (lv_at hl 1 rfl) ?_
    by_cases c_3 : x = 0
    · skip
      refine lv_tableIn (off := 28) (tgt := 44) hx hb dX6_miss_16 (by rw [c_3]; decide) (by rw [c_3]; decide) (by rw [c_3]; rfl) (by decide) ?_
      refine lv_sipush (v := 1000) hx hb dX6_miss_44 (by decide) ?_
      refine lv_aload_n hx hb dX6_miss_47 rfl (lv_at hl 0 rfl) ?_
      refine va_get (D := D) (ci := 8) (v := .ref tx) (C := RX6) (T := TX6) (N := 7) hx hb hts (by decide +kernel) hown hK hP 0 rfl rfl 0 (by decide) (hts (.fieldLink RX6 10 "LandDeeds" "text" "LLandDeeds$Text;") (by decide +kernel)) (fun _ h9 => h9) rfl dX6_miss_48 ?_
      refine lv_aload_n hx hb dX6_miss_51 rfl (lv_at hl 0 rfl) ?_
      refine va_get (D := D) (ci := 8) (v := .ref tx) (C := RX6) (T := TX6) (N := 7) hx hb hts (by decide +kernel) hown hK hP 0 rfl rfl 0 (by decide) (hts (.fieldLink RX6 10 "LandDeeds" "text" "LLandDeeds$Text;") (by decide +kernel)) (fun _ h9 => h9) rfl dX6_miss_52 ?_
      refine va_get (D := D) (ci := 6) (v := .ref ae) (C := RX4) (T := TX4) (N := 8) hx hb hts (by decide +kernel) hown hK hP 1 rfl rfl 1 (by decide) (hts (.fieldLink RX6 68 "LandDeeds$Text" "east" "[I") (by decide +kernel)) (fun _ h9 => h9) rfl dX6_miss_55 ?_
      have hPc := hP.sub (ws' := [(tx, .inr (6, [.ref as, .ref ae, .ref an, .int (nI n0), .int (nI nc1_1), .int (nI pt1_1), .int tw1_1, .int (nI nm1_1)])), (ae, .inl (cI, 8, .inl fe1_1))]) [1, 3] rfl
      refine u_callSi (W.runV (As := [.ref ae]) (rest := [.int 1000]) ⟨hx, hb, hml, hown, hts⟩ (c_X4_missed l D cI cB cZ cP tx as ae an nc1_1 (nI n0) (nI pt1_1) tw1_1 (nI nm1_1) ae fe1_1 (h88)) (cwV 1 hts gX6_miss_X4_missed rfl rfl rfl (by decide +kernel) ⟨Nat.le_of_ble_eq_true rfl, Nat.le_of_ble_eq_true rfl⟩) (pV (q0 := 0) hPc hW0 trivial rfl rfl) rfl rfl hl.1 rfl (lv_room (Nat.le_of_ble_eq_true rfl)) dX6_miss_58 ⟨Nat.le_of_ble_eq_true rfl, Nat.le_of_ble_eq_true rfl⟩) ?_
      refine lv_iadd hx hb dX6_miss_61 ?_
      rw [← hQ]
      have hP9 := hP
      have hD9 := hD
      exact W.iret (v := 1000 + (isum fe1_1 nc1_1)) hx hb hr (fun t ht hW => ⟨⟨_, (nc1_1, pt1_1, nm1_1, tw1_1, fe1_1, fn1_1), rfl, ⟨by show _ = aMiss fs n0 x; unfold aMiss; rw [ht9]; show _ = cif _ _ _; rw [cif_t (by rw [c_3]; decide), cif_t c_3, isum_congr _ (fun j hj => (hj9 j hj).1), Int32.add_comm], hw_1.2.1.2.2.1⟩, by rw [ht]; exact hP9, hD9⟩, hS.F ht⟩) hS.2.2 dX6_miss_62
    by_cases c_4 : x = 1
    · skip
      refine lv_tableIn (off := 47) (tgt := 63) hx hb dX6_miss_16 (by rw [c_4]; decide) (by rw [c_4]; decide) (by rw [c_4]; rfl) (by decide) ?_
      refine lv_sipush (v := 1000) hx hb dX6_miss_63 (by decide) ?_
      refine lv_aload_n hx hb dX6_miss_66 rfl (lv_at hl 0 rfl) ?_
      refine va_get (D := D) (ci := 8) (v := .ref tx) (C := RX6) (T := TX6) (N := 7) hx hb hts (by decide +kernel) hown hK hP 0 rfl rfl 0 (by decide) (hts (.fieldLink RX6 10 "LandDeeds" "text" "LLandDeeds$Text;") (by decide +kernel)) (fun _ h9 => h9) rfl dX6_miss_67 ?_
      refine lv_aload_n hx hb dX6_miss_70 rfl (lv_at hl 0 rfl) ?_
      refine va_get (D := D) (ci := 8) (v := .ref tx) (C := RX6) (T := TX6) (N := 7) hx hb hts (by decide +kernel) hown hK hP 0 rfl rfl 0 (by decide) (hts (.fieldLink RX6 10 "LandDeeds" "text" "LLandDeeds$Text;") (by decide +kernel)) (fun _ h9 => h9) rfl dX6_miss_71 ?_
      refine va_get (D := D) (ci := 6) (v := .ref an) (C := RX4) (T := TX4) (N := 8) hx hb hts (by decide +kernel) hown hK hP 1 rfl rfl 2 (by decide) (hts (.fieldLink RX6 82 "LandDeeds$Text" "north" "[I") (by decide +kernel)) (fun _ h9 => h9) rfl dX6_miss_74 ?_
      have hPc := hP.sub (ws' := [(tx, .inr (6, [.ref as, .ref ae, .ref an, .int (nI n0), .int (nI nc1_1), .int (nI pt1_1), .int tw1_1, .int (nI nm1_1)])), (an, .inl (cI, 8, .inl fn1_1))]) [1, 4] rfl
      refine u_callSi (W.runV (As := [.ref an]) (rest := [.int 1000]) ⟨hx, hb, hml, hown, hts⟩ (c_X4_missed l D cI cB cZ cP tx as ae an nc1_1 (nI n0) (nI pt1_1) tw1_1 (nI nm1_1) an fn1_1 (h88)) (cwV 1 hts gX6_miss_X4_missed rfl rfl rfl (by decide +kernel) ⟨Nat.le_of_ble_eq_true rfl, Nat.le_of_ble_eq_true rfl⟩) (pV (q0 := 0) hPc hW0 trivial rfl rfl) rfl rfl hl.1 rfl (lv_room (Nat.le_of_ble_eq_true rfl)) dX6_miss_77 ⟨Nat.le_of_ble_eq_true rfl, Nat.le_of_ble_eq_true rfl⟩) ?_
      refine lv_iadd hx hb dX6_miss_80 ?_
      rw [← hQ]
      have hP9 := hP
      have hD9 := hD
      exact W.iret (v := 1000 + (isum fn1_1 nc1_1)) hx hb hr (fun t ht hW => ⟨⟨_, (nc1_1, pt1_1, nm1_1, tw1_1, fe1_1, fn1_1), rfl, ⟨by show _ = aMiss fs n0 x; unfold aMiss; rw [ht9]; show _ = cif _ _ _; rw [cif_t (by rw [c_4]; decide), cif_f c_3, cif_t c_4, isum_congr _ (fun j hj => (hj9 j hj).2), Int32.add_comm], hw_1.2.1.2.2.1⟩, by rw [ht]; exact hP9, hD9⟩, hS.F ht⟩) hS.2.2 dX6_miss_81
    by_cases c_5 : x = 2
    · skip
      refine lv_tableIn (off := 66) (tgt := 82) hx hb dX6_miss_16 (by rw [c_5]; decide) (by rw [c_5]; decide) (by rw [c_5]; rfl) (by decide) ?_
      refine lv_aload_n hx hb dX6_miss_82 rfl (lv_at hl 0 rfl) ?_
      refine va_get (D := D) (ci := 8) (v := .ref tx) (C := RX6) (T := TX6) (N := 7) hx hb hts (by decide +kernel) hown hK hP 0 rfl rfl 0 (by decide) (hts (.fieldLink RX6 10 "LandDeeds" "text" "LLandDeeds$Text;") (by decide +kernel)) (fun _ h9 => h9) rfl dX6_miss_83 ?_
      have hPc := hP.sub (ws' := [(tx, .inr (6, [.ref as, .ref ae, .ref an, .int (nI n0), .int (nI nc1_1), .int (nI pt1_1), .int tw1_1, .int (nI nm1_1)])), (ae, .inl (cI, 8, .inl fe1_1)), (an, .inl (cI, 8, .inl fn1_1))]) [1, 3, 4] rfl
      refine u_callSi (W.runV (As := []) (rest := []) ⟨hx, hb, hml, hown, hts⟩ (c_X4_far l D cI cB cZ cP tx as ae an nc1_1 (nI n0) (nI pt1_1) tw1_1 (nI nm1_1) fe1_1 fn1_1 (h88)) (cwV 0 hts gX6_miss_X4_far rfl rfl rfl (by decide +kernel) ⟨Nat.le_of_ble_eq_true rfl, Nat.le_of_ble_eq_true rfl⟩) (pV (q0 := 0) hPc hW0 trivial rfl rfl) rfl rfl hl.1 rfl (lv_room (Nat.le_of_ble_eq_true rfl)) dX6_miss_86 ⟨Nat.le_of_ble_eq_true rfl, Nat.le_of_ble_eq_true rfl⟩) ?_
      rw [← hQ]
      have hP9 := hP
      have hD9 := hD
      exact W.iret (v := isum (stp fe1_1 fn1_1) nc1_1) hx hb hr (fun t ht hW => ⟨⟨_, (nc1_1, pt1_1, nm1_1, tw1_1, fe1_1, fn1_1), rfl, ⟨by show _ = aMiss fs n0 x; unfold aMiss; rw [ht9]; show _ = cif _ _ _; rw [cif_t (by rw [c_5]; decide), cif_f c_3, cif_f c_4, isum_congr _ (stp_congr hj9)], hw_1.2.1.2.2.1⟩, by rw [ht]; exact hP9, hD9⟩, hS.F ht⟩) hS.2.2 dX6_miss_89
    refine lv_tableOut (tgt := 90) hx hb dX6_miss_16 (by have := u_sw3 ‹¬ x = 0› ‹¬ x = 1› ‹¬ x = 2›; omega) (by decide) ?_
    refine lv_bipush (v := (-2)) hx hb dX6_miss_90 (by decide) ?_
    rw [← hQ]
    have hP9 := hP
    have hD9 := hD
    exact W.iret (v := (-2)) hx hb hr (fun t ht hW => ⟨⟨_, (nc1_1, pt1_1, nm1_1, tw1_1, fe1_1, fn1_1), rfl, ⟨by show _ = aMiss fs n0 x; unfold aMiss; rw [ht9]; show _ = cif _ _ _; exact (cif_f (by have := u_sw3 c_3 c_4 c_5; omega)).symm, hw_1.2.1.2.2.1⟩, by rw [ht]; exact hP9, hD9⟩, hS.F ht⟩) hS.2.2 dX6_miss_92
  · skip
    have hno9 := txt_none hw_1.1 c_2
    refine lv_bipush (v := (-7)) hx hb dX6_miss_12 (by decide) ?_
    rw [← hQ]
    have hP9 := hP
    have hD9 := hD
    exact W.iret (v := (-7)) hx hb hr (fun t ht hW => ⟨⟨_, (nc1_1, pt1_1, nm1_1, tw1_1, fe1_1, fn1_1), rfl, ⟨by show _ = aMiss fs n0 x; unfold aMiss; rw [hno9], hw_1.2.1.2.2.1⟩, by rw [ht]; exact hP9, hD9⟩, hS.F ht⟩) hS.2.2 dX6_miss_14

set_option maxHeartbeats 4000000 in
set_option maxRecDepth 100000 in
theorem c_X6_loose (l : Launch) (D : va_G) (cI cB cZ cP : ClassId) (sz : Nat) (h0 tx es i1 i2 wa ra : Nat) (kp : Int32) (ap ay : Nat) (kk lo x : Int32) : Met l yX6_loose wsX6_loose ({ frames := 0, cells := 0, slots := 0, locals := 0 } : Room) (va_Pc [.ref h0, .int x] (fun U => U.heap.size = sz ∧ va_P D vwCl [(h0, .inr (8, [.ref tx, .ref es, .ref i1, .ref i2, .ref wa, .ref ra, .int kp])), (es, .inr (2, [.ref ap, .ref ay, .int kk, .int lo]))] U.heap ∧ KW D cI cB cZ cP U ∧ va_D (fun _ => True) [(h0, .inr (8, [.ref tx, .ref es, .ref i1, .ref i2, .ref wa, .ref ra, .int kp])), (es, .inr (2, [.ref ap, .ref ay, .int kk, .int lo]))] ∧ EF [(h0, .inr (8, [.ref tx, .ref es, .ref i1, .ref i2, .ref wa, .ref ra, .int kp])), (es, .inr (2, [.ref ap, .ref ay, .int kk, .int lo]))] sz E0 U.heap)) (va_Qi (fun r (lo1 : Int32) => (¬ (0 ≤ x.toInt ∧ x.toInt ≤ 20) ∧ r = -2 ∧ lo1 = lo) ∨ ((0 ≤ x.toInt ∧ x.toInt ≤ 20) ∧ r = lo ∧ lo1 = x)) (fun (lo1 : Int32) (t : State) => va_P D vwCl [(h0, .inr (8, [.ref tx, .ref es, .ref i1, .ref i2, .ref wa, .ref ra, .int kp])), (es, .inr (2, [.ref ap, .ref ay, .int kk, .int lo1]))] t.heap ∧ va_D (va_A [(h0, .inr (8, [.ref tx, .ref es, .ref i1, .ref i2, .ref wa, .ref ra, .int kp])), (es, .inr (2, [.ref ap, .ref ay, .int kk, .int lo]))] sz) [(h0, .inr (8, [.ref tx, .ref es, .ref i1, .ref i2, .ref wa, .ref ra, .int kp])), (es, .inr (2, [.ref ap, .ref ay, .int kk, .int lo1]))]) (va_A [(h0, .inr (8, [.ref tx, .ref es, .ref i1, .ref i2, .ref wa, .ref ra, .int kp])), (es, .inr (2, [.ref ap, .ref ay, .int kk, .int lo]))] sz)) 0 0 (va_A [(h0, .inr (8, [.ref tx, .ref es, .ref i1, .ref i2, .ref wa, .ref ra, .int kp])), (es, .inr (2, [.ref ap, .ref ay, .int kk, .int lo]))] sz) := by
  refine Met.ofW (cc := cX6_loose) (maxL := 3) (ret := (some .int)) (by decide) rfl ?_
  intro p e s m args below meth c s₁ B hml hv
  obtain ⟨rfl, hsz, hP, hW0, hD0, hE⟩ := hv
  have hx := B.exec
  have hb := B.bytes
  have hr := B.returns
  have hts := atoms_spec (ws := wsX6_loose) B.pre
  have hown : s.vm.findClass RX6 = some m.cls := findClass_of_methodNamed B.named
  have hlocks := B.notSynchronized
  have hK := hW0.1
  subst hsz
  have hD := hD0.self (sz := s.heap.size)
  unfold EF at hE
  generalize hAe : va_A [(h0, .inr (8, [.ref tx, .ref es, .ref i1, .ref i2, .ref wa, .ref ra, .int kp])), (es, .inr (2, [.ref ap, .ref ay, .int kk, .int lo]))] s.heap.size = A at hD hE ⊢
  have hA : ∀ q : Nat, s.heap.size ≤ q → A q := fun q h => by rw [← hAe]; exact Or.inr h
  have hS : va_S A s.heap s.heap [] := va_S.rf
  have hl := lv_entry ([.ref h0, .int x]) (n := 3) (Nat.le_of_ble_eq_true rfl)
  rw [lg_entry_eq]
  generalize (lg_sl ([.ref h0, .int x]) ++ List.replicate (3 - (lg_sl ([.ref h0, .int x])).length) Slot.unset).toArray = ls at hl ⊢
  have hl : lv_has ls 3 [(0, .ref h0), (1, .int x)] := hl
  show W p l e ({ frames := 0, cells := 0, slots := 0, locals := 0 } : Room) s m ([.ref h0, .int x] : List Value).toArray below meth c s.heap [] 0 0 _ (F0 m 0 ls [])
  refine u_genQ (fun Q hQ => ?_)
  refine lv_iload_n hx hb dX6_loose_0 rfl (lv_at hl 1 rfl) ?_
  refine lv_if_lt (tgt := 10) hx hb dX6_loose_1 (by decide) (fun c_1 => ?_) (fun c_1 => ?_)
  · skip
    refine lv_bipush (v := (-2)) hx hb dX6_loose_10 (by decide) ?_
    rw [← hQ]
    have hP9 := hP
    have hD9 := hD
    exact W.iret (v := (-2)) hx hb hr (fun t ht hW => ⟨⟨_, lo, rfl, Or.inl ⟨(by simp only [Int32.lt_iff_toInt_lt, Int32.le_iff_toInt_le, ← Int32.toInt_inj, li_0, li_1, li_2, li_3, li_4, li_5, li_6, li_7, li_8, li_9, li_10, li_12, li_20, li_31, li_32, li_33, li_47, li_48, li_49, li_57, li_59, li_60, li_101, li_108, li_109, li_110, li_115, li_119, li_126, li_999, li_1000, li_1023, li_1024, li_2000, li_m1, li_m6] at c_1 ⊢; omega), rfl, rfl⟩, by rw [ht]; exact hP9, hD9⟩, hS.F ht⟩) hS.2.2 dX6_loose_12
  · skip
    refine lv_iload_n hx hb dX6_loose_4 rfl (lv_at hl 1 rfl) ?_
    refine lv_bipush (v := 20) hx hb dX6_loose_5 (by decide) ?_
    refine lv_icmp_le (tgt := 13) hx hb dX6_loose_7 (by decide) (fun c_2 => ?_) (fun c_2 => ?_)
    · skip
      refine lv_aload_n hx hb dX6_loose_13 rfl (lv_at hl 0 rfl) ?_
      refine va_get (D := D) (ci := 8) (v := .ref es) (C := RX6) (T := TX6) (N := 7) hx hb hts (by decide +kernel) hown hK hP 0 rfl rfl 1 (by decide) (hts (.fieldLink RX6 19 "LandDeeds" "estate" "LLandDeeds$Estate;") (by decide +kernel)) (fun _ h9 => h9) rfl dX6_loose_14 ?_
      refine va_get (D := D) (ci := 2) (v := .int lo) (C := RX0) (T := TX0) (N := 4) hx hb hts (by decide +kernel) hown hK hP 1 rfl rfl 3 (by decide) (hts (.fieldLink RX6 43 "LandDeeds$Estate" "loose" "I") (by decide +kernel)) (fun _ h9 => h9) rfl dX6_loose_17 ?_
      refine lv_istore_n (lv' := [(2, .int lo), (0, .ref h0), (1, .int x)]) hx hb dX6_loose_20 rfl hl (by decide) rfl (fun ls hl => ?_)
      refine lv_aload_n hx hb dX6_loose_21 rfl (lv_at hl 1 rfl) ?_
      refine va_get (D := D) (ci := 8) (v := .ref es) (C := RX6) (T := TX6) (N := 7) hx hb hts (by decide +kernel) hown hK hP 0 rfl rfl 1 (by decide) (hts (.fieldLink RX6 19 "LandDeeds" "estate" "LLandDeeds$Estate;") (by decide +kernel)) (fun _ h9 => h9) rfl dX6_loose_22 ?_
      refine lv_iload_n hx hb dX6_loose_25 rfl (lv_at hl 2 rfl) ?_
      refine va_put (D := D) (ci := 2) (v := .int x) (ty := .int) (C := RX0) (T := TX0) (N := 4) hx hb hts (by decide +kernel) tyX0 tyX0_ok nmX0 hown hK hP hD hS 1 rfl rfl 3 (by decide) (hts (.fieldLink RX6 43 "LandDeeds$Estate" "loose" "I") (by decide +kernel)) (fun _ h9 => h9) rfl (by decide +kernel) rfl rfl (Nat.le_of_ble_eq_true rfl) dX6_loose_26 (fun H locs hP hD hS => ?_)
      have hP : va_P D vwCl [(h0, .inr (8, [.ref tx, .ref es, .ref i1, .ref i2, .ref wa, .ref ra, .int kp])), (es, .inr (2, [.ref ap, .ref ay, .int kk, .int x]))] H := hP
      have hD : va_D A [(h0, .inr (8, [.ref tx, .ref es, .ref i1, .ref i2, .ref wa, .ref ra, .int kp])), (es, .inr (2, [.ref ap, .ref ay, .int kk, .int x]))] := hD
      refine lv_iload_n hx hb dX6_loose_29 rfl (lv_at hl 0 rfl) ?_
      rw [← hQ]
      have hP9 := hP
      have hD9 := hD
      exact W.iret (v := lo) hx hb hr (fun t ht hW => ⟨⟨_, x, rfl, Or.inr ⟨(by simp only [Int32.lt_iff_toInt_lt, Int32.le_iff_toInt_le, ← Int32.toInt_inj, li_0, li_1, li_2, li_3, li_4, li_5, li_6, li_7, li_8, li_9, li_10, li_12, li_20, li_31, li_32, li_33, li_47, li_48, li_49, li_57, li_59, li_60, li_101, li_108, li_109, li_110, li_115, li_119, li_126, li_999, li_1000, li_1023, li_1024, li_2000, li_m1, li_m6] at c_1 c_2 ⊢; omega), rfl, rfl⟩, by rw [ht]; exact hP9, hD9⟩, hS.F ht⟩) hS.2.2 dX6_loose_30
    · skip
      refine lv_bipush (v := (-2)) hx hb dX6_loose_10 (by decide) ?_
      rw [← hQ]
      have hP9 := hP
      have hD9 := hD
      exact W.iret (v := (-2)) hx hb hr (fun t ht hW => ⟨⟨_, lo, rfl, Or.inl ⟨(by simp only [Int32.lt_iff_toInt_lt, Int32.le_iff_toInt_le, ← Int32.toInt_inj, li_0, li_1, li_2, li_3, li_4, li_5, li_6, li_7, li_8, li_9, li_10, li_12, li_20, li_31, li_32, li_33, li_47, li_48, li_49, li_57, li_59, li_60, li_101, li_108, li_109, li_110, li_115, li_119, li_126, li_999, li_1000, li_1023, li_1024, li_2000, li_m1, li_m6] at c_1 c_2 ⊢; omega), rfl, rfl⟩, by rw [ht]; exact hP9, hD9⟩, hS.F ht⟩) hS.2.2 dX6_loose_12

set_option maxHeartbeats 4000000 in
set_option maxRecDepth 100000 in
theorem c_X6_lies (l : Launch) (D : va_G) (cI cB cZ cP : ClassId) (h0 tx es i1 i2 wa ra : Nat) (kp : Int32) (ap ay k : Nat) (lo : Int32) (fp : Nat → Option Nat) (yr : Nat → Int32) (Pl : Nat → Option PD) (pn : PN) (PX PY : PF) (x0 x y : Int32) (hk : k ≤ 6) (hPL : PLok Pl fp k pn PX PY) : Met l yX6_lies wsX6_lies ({ frames := 2, cells := 0, slots := 0, locals := 42 } : Room) (va_Pc [.ref h0, .int x0, .int x, .int y] (fun U => va_P D vwCl [(h0, .inr (8, [.ref tx, .ref es, .ref i1, .ref i2, .ref wa, .ref ra, .int kp])), (es, .inr (2, [.ref ap, .ref ay, .int (nI k), .int lo])), (ap, .inl (cP, 6, .inr (.inr (.inr (.inr fp))))), (ay, .inl (cI, 6, .inl yr))] U.heap ∧ KW D cI cB cZ cP U ∧ (PLA D cI cB Pl) U.heap)) (vp_Si (fun r => r = aLies k pn PX PY x0 x y)) 0 0 (fun _ => False) := by
  refine Met.ofW (cc := cX6_lies) (maxL := 5) (ret := (some .int)) (by decide) rfl ?_
  intro p e s m args below meth c s₁ B hml hv
  obtain ⟨rfl, hP, hW0, hE⟩ := hv
  have hx := B.exec
  have hb := B.bytes
  have hr := B.returns
  have hts := atoms_spec (ws := wsX6_lies) B.pre
  have hown : s.vm.findClass RX6 = some m.cls := findClass_of_methodNamed B.named
  have hlocks := B.notSynchronized
  have hK := hW0.1
  have hl := lv_entry ([.ref h0, .int x0, .int x, .int y]) (n := 5) (Nat.le_of_ble_eq_true rfl)
  rw [lg_entry_eq]
  generalize (lg_sl ([.ref h0, .int x0, .int x, .int y]) ++ List.replicate (5 - (lg_sl ([.ref h0, .int x0, .int x, .int y])).length) Slot.unset).toArray = ls at hl ⊢
  have hl : lv_has ls 5 [(0, .ref h0), (1, .int x0), (2, .int x), (3, .int y)] := hl
  show W p l e ({ frames := 2, cells := 0, slots := 0, locals := 42 } : Room) s m ([.ref h0, .int x0, .int x, .int y] : List Value).toArray below meth c s.heap [] 0 0 _ (F0 m 0 ls [])
  refine u_genQ (fun Q hQ => ?_)
  by_cases hin9 : inP k x0
  · skip
    obtain ⟨j0, hj0, xe0, xi0⟩ := inP_nat hin9 (by omega)
    rw [xe0] at hl
    obtain ⟨a0, ⟨ad, nn0, G, wt0⟩, hf0, hpl0, en0, hn30, hn80, hG0, hst0, ew0, hRw0, hLt0, hpp0⟩ := hPL j0 hj0
    have en0 : nn0 = pn j0 := en0
    subst en0
    have ew0 : wt0 = wrt (pn j0) (PX j0) (PY j0) (pn j0) := ew0
    subst ew0
    have hP := vP_app hP (hE a0 _ hpl0)
    have hP : va_P D vwCl [(h0, .inr (8, [.ref tx, .ref es, .ref i1, .ref i2, .ref wa, .ref ra, .int kp])), (es, .inr (2, [.ref ap, .ref ay, .int (nI k), .int lo])), (ap, .inl (cP, 6, .inr (.inr (.inr (.inr fp))))), (ay, .inl (cI, 6, .inl yr)), (a0, .inr (4, [.ref (ad 1), .ref (ad 2), .ref (ad 3), .ref (ad 4), .ref (ad 5)])), (ad 1, .inr (3, [.ref (ad 6), .ref (ad 7), .int (nI (pn j0))])), (ad 6, .inl (cI, (pn j0), .inl (G 0))), (ad 7, .inl (cI, (pn j0), .inl (G 1))), (ad 2, .inr (0, [.ref (ad 8), .int 0, .int 0, .int 0])), (ad 8, .inl (cB, ((wrt (pn j0) (PX j0) (PY j0) (pn j0)).length), .inl (G 2))), (ad 3, .inl (cI, 32, .inl (G 3))), (ad 4, .inl (cI, 32, .inl (G 4))), (ad 5, .inl (cI, 32, .inl (G 5)))] s.heap := hP
    refine lv_aload_n hx hb dX6_lies_0 rfl (lv_at hl 0 rfl) ?_
    refine va_get (D := D) (ci := 8) (v := .ref es) (C := RX6) (T := TX6) (N := 7) hx hb hts (by decide +kernel) hown hK hP 0 rfl rfl 1 (by decide) (hts (.fieldLink RX6 19 "LandDeeds" "estate" "LLandDeeds$Estate;") (by decide +kernel)) (fun _ h9 => h9) rfl dX6_lies_1 ?_
    refine lv_iload_n hx hb dX6_lies_4 rfl (lv_at hl 1 rfl) ?_
    have hPc := hP.sub (ws' := [(es, .inr (2, [.ref ap, .ref ay, .int (nI k), .int lo])), (ap, .inl (cP, 6, .inr (.inr (.inr (.inr fp)))))]) [1, 2] rfl
    refine u_callSr (W.runV (As := [.int (nI j0)]) (rest := []) ⟨hx, hb, hml, hown, hts⟩ (c_X0_plotAt l D cI cB cZ cP es ap ay k lo fp j0 a0 (hk) (hj0) (hf0)) (cwV 1 hts gX6_lies_X0_plotAt rfl rfl rfl (by decide +kernel) ⟨Nat.le_of_ble_eq_true rfl, Nat.le_of_ble_eq_true rfl⟩) (pV (q0 := 0) hPc hW0 trivial rfl rfl) rfl rfl hl.1 rfl (lv_room (Nat.le_of_ble_eq_true rfl)) dX6_lies_5 ⟨Nat.le_of_ble_eq_true rfl, Nat.le_of_ble_eq_true rfl⟩) ?_
    refine lv_astore (lv' := [(4, .ref a0), (0, .ref h0), (1, .int (nI j0)), (2, .int x), (3, .int y)]) hx hb dX6_lies_8 hl (by decide) rfl (fun ls hl => ?_)
    refine lv_aload hx hb dX6_lies_10 (lv_at hl 0 rfl) ?_
    refine lv_ifnonnull (tgt := 17) hx hb dX6_lies_12 (by decide) ?_
    refine lv_iload_n hx hb dX6_lies_17 rfl (lv_at hl 3 rfl) ?_
    refine lv_iload_n hx hb dX6_lies_18 rfl (lv_at hl 4 rfl) ?_
    have hPc := hP.sub (ws' := []) [] rfl
    refine u_callSi (W.runS (As := [.int x, .int y]) (rest := []) ⟨hx, hb, hml, hown, hts⟩ (c_X6_isPost l D cI cB cZ cP x y ) (cwS 2 hts gX6_lies_X6_isPost rfl rfl rfl (by decide +kernel) ⟨Nat.le_of_ble_eq_true rfl, Nat.le_of_ble_eq_true rfl⟩) (pS hPc hW0 trivial) rfl rfl hl.1 rfl (lv_room (Nat.le_of_ble_eq_true rfl)) dX6_lies_19 ⟨Nat.le_of_ble_eq_true rfl, Nat.le_of_ble_eq_true rfl⟩) ?_
    refine lv_if_ne (tgt := 28) hx hb dX6_lies_22 (by decide) (fun c_1 => ?_) (fun c_1 => ?_)
    · skip
      have nc_1 := zb_ne0.mp c_1
      have hpi := nc_1
      obtain ⟨xx, hxx, exx⟩ := isP_x nc_1
      obtain ⟨yy, hyy, eyy⟩ := isP_y nc_1
      rw [exx, eyy] at hl
      refine lv_aload hx hb dX6_lies_28 (lv_at hl 0 rfl) ?_
      refine va_get (D := D) (ci := 4) (v := .ref (ad 4)) (C := RX2) (T := TX2) (N := 5) hx hb hts (by decide +kernel) hown hK hP 4 rfl rfl 3 (by decide) (hts (.fieldLink RX6 160 "LandDeeds$Plot" "sides" "[I") (by decide +kernel)) (fun _ h9 => h9) rfl dX6_lies_30 ?_
      refine lv_iload_n hx hb dX6_lies_33 rfl (lv_at hl 4 rfl) ?_
      refine u_iald hx hb hK hP 11 0 rfl rfl rfl ⟨by omega, by omega⟩ dX6_lies_34 ?_
      refine lv_iload_n hx hb dX6_lies_35 rfl (lv_at hl 3 rfl) ?_
      have hPc := hP.sub (ws' := []) [] rfl
      refine u_callSi (W.runS (As := [.int ((G 4) yy), .int (nI xx)]) (rest := []) ⟨hx, hb, hml, hown, hts⟩ (c_X6_isIn l D cI cB cZ cP ((G 4) yy) (nI xx) ) (cwS 2 hts gX6_lies_X6_isIn rfl rfl rfl (by decide +kernel) ⟨Nat.le_of_ble_eq_true rfl, Nat.le_of_ble_eq_true rfl⟩) (pS hPc hW0 trivial) rfl rfl hl.1 rfl (lv_room (Nat.le_of_ble_eq_true rfl)) dX6_lies_36 ⟨Nat.le_of_ble_eq_true rfl, Nat.le_of_ble_eq_true rfl⟩) ?_
      refine u_eqi (zb_iff (isIn_bit hxx)) ?_
      refine lv_if_eq (tgt := 44) hx hb dX6_lies_39 (by decide) (fun c_2 => ?_) (fun c_2 => ?_)
      · skip
        have nc_2 := zb_eq0.mp c_2
        refine lv_aload hx hb dX6_lies_44 (lv_at hl 0 rfl) ?_
        refine va_get (D := D) (ci := 4) (v := .ref (ad 3)) (C := RX2) (T := TX2) (N := 5) hx hb hts (by decide +kernel) hown hK hP 4 rfl rfl 2 (by decide) (hts (.fieldLink RX6 166 "LandDeeds$Plot" "inside" "[I") (by decide +kernel)) (fun _ h9 => h9) rfl dX6_lies_46 ?_
        refine lv_iload_n hx hb dX6_lies_49 rfl (lv_at hl 4 rfl) ?_
        refine u_iald hx hb hK hP 10 0 rfl rfl rfl ⟨by omega, by omega⟩ dX6_lies_50 ?_
        refine lv_iload_n hx hb dX6_lies_51 rfl (lv_at hl 3 rfl) ?_
        have hPc := hP.sub (ws' := []) [] rfl
        refine u_callSi (W.runS (As := [.int ((G 3) yy), .int (nI xx)]) (rest := []) ⟨hx, hb, hml, hown, hts⟩ (c_X6_isIn l D cI cB cZ cP ((G 3) yy) (nI xx) ) (cwS 2 hts gX6_lies_X6_isIn rfl rfl rfl (by decide +kernel) ⟨Nat.le_of_ble_eq_true rfl, Nat.le_of_ble_eq_true rfl⟩) (pS hPc hW0 trivial) rfl rfl hl.1 rfl (lv_room (Nat.le_of_ble_eq_true rfl)) dX6_lies_52 ⟨Nat.le_of_ble_eq_true rfl, Nat.le_of_ble_eq_true rfl⟩) ?_
        refine u_eqi (zb_iff (isIn_bit hxx)) ?_
        refine lv_if_eq (tgt := 62) hx hb dX6_lies_55 (by decide) (fun c_3 => ?_) (fun c_3 => ?_)
        · skip
          have nc_3 := zb_eq0.mp c_3
          refine lv_iconst (v := 0) hx hb dX6_lies_62 (by decide) ?_
          rw [← hQ]
          exact W.iret (v := 0) hx hb hr (fun t ht hW => ⟨_, rfl, (lies_cls hin9 xi0 hpi exx eyy hxx hyy hpp0).2.2 nc_2 nc_3, ht⟩) (fun q h => absurd h List.not_mem_nil) dX6_lies_63
        · skip
          have nc_3 := zb_ne0.mp c_3
          refine lv_iconst (v := 2) hx hb dX6_lies_58 (by decide) ?_
          refine lv_goto (tgt := 63) hx hb dX6_lies_59 (by decide) ?_
          rw [← hQ]
          exact W.iret (v := 2) hx hb hr (fun t ht hW => ⟨_, rfl, (lies_cls hin9 xi0 hpi exx eyy hxx hyy hpp0).2.1 nc_2 nc_3, ht⟩) (fun q h => absurd h List.not_mem_nil) dX6_lies_63
      · skip
        have nc_2 := zb_ne0.mp c_2
        refine lv_iconst (v := 1) hx hb dX6_lies_42 (by decide) ?_
        rw [← hQ]
        exact W.iret (v := 1) hx hb hr (fun t ht hW => ⟨_, rfl, (lies_cls hin9 xi0 hpi exx eyy hxx hyy hpp0).1 nc_2, ht⟩) (fun q h => absurd h List.not_mem_nil) dX6_lies_43
    · skip
      have nc_1 := zb_eq0.mp c_1
      have hpi := nc_1
      refine lv_bipush (v := (-2)) hx hb dX6_lies_25 (by decide) ?_
      rw [← hQ]
      exact W.iret (v := (-2)) hx hb hr (fun t ht hW => ⟨_, rfl, ((cif_t hin9).trans (cif_f hpi)).symm, ht⟩) (fun q h => absurd h List.not_mem_nil) dX6_lies_27
  · skip
    refine lv_aload_n hx hb dX6_lies_0 rfl (lv_at hl 0 rfl) ?_
    refine va_get (D := D) (ci := 8) (v := .ref es) (C := RX6) (T := TX6) (N := 7) hx hb hts (by decide +kernel) hown hK hP 0 rfl rfl 1 (by decide) (hts (.fieldLink RX6 19 "LandDeeds" "estate" "LLandDeeds$Estate;") (by decide +kernel)) (fun _ h9 => h9) rfl dX6_lies_1 ?_
    refine lv_iload_n hx hb dX6_lies_4 rfl (lv_at hl 1 rfl) ?_
    have hPc := hP.sub (ws' := [(es, .inr (2, [.ref ap, .ref ay, .int (nI k), .int lo])), (ap, .inl (cP, 6, .inr (.inr (.inr (.inr fp)))))]) [1, 2] rfl
    refine u_callSn (W.runV (As := [.int x0]) (rest := []) ⟨hx, hb, hml, hown, hts⟩ (c_X0_plotAt_no l D cI cB cZ cP es ap ay k lo fp x0 (hk) (hin9)) (cwV 1 hts gX6_lies_X0_plotAt rfl rfl rfl (by decide +kernel) ⟨Nat.le_of_ble_eq_true rfl, Nat.le_of_ble_eq_true rfl⟩) (pV (q0 := 0) hPc hW0 trivial rfl rfl) rfl rfl hl.1 rfl (lv_room (Nat.le_of_ble_eq_true rfl)) dX6_lies_5 ⟨Nat.le_of_ble_eq_true rfl, Nat.le_of_ble_eq_true rfl⟩) ?_
    refine lv_astoreN (lv' := [(4, .null), (0, .ref h0), (1, .int x0), (2, .int x), (3, .int y)]) hx hb dX6_lies_8 hl (by decide) rfl (fun ls hl => ?_)
    refine lv_aloadN hx hb dX6_lies_10 (lv_at hl 0 rfl) ?_
    refine lv_ifnonnullN hx hb dX6_lies_12 ?_
    refine lv_iconst (v := (-1)) hx hb dX6_lies_15 (by decide) ?_
    rw [← hQ]
    exact W.iret (v := (-1)) hx hb hr (fun t ht hW => ⟨_, rfl, (cif_f hin9).symm, ht⟩) (fun q h => absurd h List.not_mem_nil) dX6_lies_16

set_option maxHeartbeats 4000000 in
set_option maxRecDepth 100000 in
theorem c_X6_corner (l : Launch) (D : va_G) (cI cB cZ cP : ClassId) (h0 tx es i1 i2 wa ra : Nat) (kp : Int32) (ap ay k : Nat) (lo : Int32) (fp : Nat → Option Nat) (yr : Nat → Int32) (Pl : Nat → Option PD) (pn : PN) (PX PY : PF) (x0 x y : Int32) (hk : k ≤ 6) (hPL : PLok Pl fp k pn PX PY) : Met l yX6_corner wsX6_corner ({ frames := 2, cells := 0, slots := 0, locals := 42 } : Room) (va_Pc [.ref h0, .int x0, .int x, .int y] (fun U => va_P D vwCl [(h0, .inr (8, [.ref tx, .ref es, .ref i1, .ref i2, .ref wa, .ref ra, .int kp])), (es, .inr (2, [.ref ap, .ref ay, .int (nI k), .int lo])), (ap, .inl (cP, 6, .inr (.inr (.inr (.inr fp))))), (ay, .inl (cI, 6, .inl yr))] U.heap ∧ KW D cI cB cZ cP U ∧ (PLA D cI cB Pl) U.heap)) (vp_Si (fun r => r = aCorner k pn PX PY x0 x y)) 0 0 (fun _ => False) := by
  refine Met.ofW (cc := cX6_corner) (maxL := 5) (ret := (some .int)) (by decide) rfl ?_
  intro p e s m args below meth c s₁ B hml hv
  obtain ⟨rfl, hP, hW0, hE⟩ := hv
  have hx := B.exec
  have hb := B.bytes
  have hr := B.returns
  have hts := atoms_spec (ws := wsX6_corner) B.pre
  have hown : s.vm.findClass RX6 = some m.cls := findClass_of_methodNamed B.named
  have hlocks := B.notSynchronized
  have hK := hW0.1
  have hl := lv_entry ([.ref h0, .int x0, .int x, .int y]) (n := 5) (Nat.le_of_ble_eq_true rfl)
  rw [lg_entry_eq]
  generalize (lg_sl ([.ref h0, .int x0, .int x, .int y]) ++ List.replicate (5 - (lg_sl ([.ref h0, .int x0, .int x, .int y])).length) Slot.unset).toArray = ls at hl ⊢
  have hl : lv_has ls 5 [(0, .ref h0), (1, .int x0), (2, .int x), (3, .int y)] := hl
  show W p l e ({ frames := 2, cells := 0, slots := 0, locals := 42 } : Room) s m ([.ref h0, .int x0, .int x, .int y] : List Value).toArray below meth c s.heap [] 0 0 _ (F0 m 0 ls [])
  refine u_genQ (fun Q hQ => ?_)
  by_cases hin9 : inP k x0
  · skip
    obtain ⟨j0, hj0, xe0, xi0⟩ := inP_nat hin9 (by omega)
    rw [xe0] at hl
    obtain ⟨a0, ⟨ad, nn0, G, wt0⟩, hf0, hpl0, en0, hn30, hn80, hG0, hst0, ew0, hRw0, hLt0, hpp0⟩ := hPL j0 hj0
    have en0 : nn0 = pn j0 := en0
    subst en0
    have ew0 : wt0 = wrt (pn j0) (PX j0) (PY j0) (pn j0) := ew0
    subst ew0
    have hP := vP_app hP (hE a0 _ hpl0)
    have hP : va_P D vwCl [(h0, .inr (8, [.ref tx, .ref es, .ref i1, .ref i2, .ref wa, .ref ra, .int kp])), (es, .inr (2, [.ref ap, .ref ay, .int (nI k), .int lo])), (ap, .inl (cP, 6, .inr (.inr (.inr (.inr fp))))), (ay, .inl (cI, 6, .inl yr)), (a0, .inr (4, [.ref (ad 1), .ref (ad 2), .ref (ad 3), .ref (ad 4), .ref (ad 5)])), (ad 1, .inr (3, [.ref (ad 6), .ref (ad 7), .int (nI (pn j0))])), (ad 6, .inl (cI, (pn j0), .inl (G 0))), (ad 7, .inl (cI, (pn j0), .inl (G 1))), (ad 2, .inr (0, [.ref (ad 8), .int 0, .int 0, .int 0])), (ad 8, .inl (cB, ((wrt (pn j0) (PX j0) (PY j0) (pn j0)).length), .inl (G 2))), (ad 3, .inl (cI, 32, .inl (G 3))), (ad 4, .inl (cI, 32, .inl (G 4))), (ad 5, .inl (cI, 32, .inl (G 5)))] s.heap := hP
    refine lv_aload_n hx hb dX6_corner_0 rfl (lv_at hl 0 rfl) ?_
    refine va_get (D := D) (ci := 8) (v := .ref es) (C := RX6) (T := TX6) (N := 7) hx hb hts (by decide +kernel) hown hK hP 0 rfl rfl 1 (by decide) (hts (.fieldLink RX6 19 "LandDeeds" "estate" "LLandDeeds$Estate;") (by decide +kernel)) (fun _ h9 => h9) rfl dX6_corner_1 ?_
    refine lv_iload_n hx hb dX6_corner_4 rfl (lv_at hl 1 rfl) ?_
    have hPc := hP.sub (ws' := [(es, .inr (2, [.ref ap, .ref ay, .int (nI k), .int lo])), (ap, .inl (cP, 6, .inr (.inr (.inr (.inr fp)))))]) [1, 2] rfl
    refine u_callSr (W.runV (As := [.int (nI j0)]) (rest := []) ⟨hx, hb, hml, hown, hts⟩ (c_X0_plotAt l D cI cB cZ cP es ap ay k lo fp j0 a0 (hk) (hj0) (hf0)) (cwV 1 hts gX6_corner_X0_plotAt rfl rfl rfl (by decide +kernel) ⟨Nat.le_of_ble_eq_true rfl, Nat.le_of_ble_eq_true rfl⟩) (pV (q0 := 0) hPc hW0 trivial rfl rfl) rfl rfl hl.1 rfl (lv_room (Nat.le_of_ble_eq_true rfl)) dX6_corner_5 ⟨Nat.le_of_ble_eq_true rfl, Nat.le_of_ble_eq_true rfl⟩) ?_
    refine lv_astore (lv' := [(4, .ref a0), (0, .ref h0), (1, .int (nI j0)), (2, .int x), (3, .int y)]) hx hb dX6_corner_8 hl (by decide) rfl (fun ls hl => ?_)
    refine lv_aload hx hb dX6_corner_10 (lv_at hl 0 rfl) ?_
    refine lv_ifnonnull (tgt := 17) hx hb dX6_corner_12 (by decide) ?_
    refine lv_iload_n hx hb dX6_corner_17 rfl (lv_at hl 4 rfl) ?_
    refine lv_if_lt (tgt := 26) hx hb dX6_corner_18 (by decide) (fun c_1 => ?_) (fun c_1 => ?_)
    · skip
      refine lv_bipush (v := (-2)) hx hb dX6_corner_26 (by decide) ?_
      rw [← hQ]
      exact W.iret (v := (-2)) hx hb hr (fun t ht hW => ⟨_, rfl, ((cif_t hin9).trans (cif_f (by simp only [Int32.lt_iff_toInt_lt, Int32.le_iff_toInt_le, ← Int32.toInt_inj, li_0, li_1, li_2, li_3, li_4, li_5, li_6, li_7, li_8, li_9, li_10, li_12, li_20, li_31, li_32, li_33, li_47, li_48, li_49, li_57, li_59, li_60, li_101, li_108, li_109, li_110, li_115, li_119, li_126, li_999, li_1000, li_1023, li_1024, li_2000, li_m1, li_m6] at c_1 ⊢; omega))).symm, ht⟩) (fun q h => absurd h List.not_mem_nil) dX6_corner_28
    · skip
      refine lv_iload_n hx hb dX6_corner_21 rfl (lv_at hl 4 rfl) ?_
      refine lv_iconst (v := 1) hx hb dX6_corner_22 (by decide) ?_
      refine lv_icmp_le (tgt := 29) hx hb dX6_corner_23 (by decide) (fun c_2 => ?_) (fun c_2 => ?_)
      · skip
        refine lv_iload_n hx hb dX6_corner_29 rfl (lv_at hl 3 rfl) ?_
        refine lv_if_lt (tgt := 45) hx hb dX6_corner_30 (by decide) (fun c_3 => ?_) (fun c_3 => ?_)
        · skip
          refine lv_bipush (v := (-6)) hx hb dX6_corner_45 (by decide) ?_
          rw [← hQ]
          exact W.iret (v := (-6)) hx hb hr (fun t ht hW => ⟨_, rfl, ((cif_t hin9).trans ((cif_t (show 0 ≤ y.toInt ∧ y.toInt ≤ 1 from (by simp only [Int32.lt_iff_toInt_lt, Int32.le_iff_toInt_le, ← Int32.toInt_inj, li_0, li_1, li_2, li_3, li_4, li_5, li_6, li_7, li_8, li_9, li_10, li_12, li_20, li_31, li_32, li_33, li_47, li_48, li_49, li_57, li_59, li_60, li_101, li_108, li_109, li_110, li_115, li_119, li_126, li_999, li_1000, li_1023, li_1024, li_2000, li_m1, li_m6] at c_1 c_2 ⊢; omega))).trans (cif_f (by unfold inP; rw [xi0]; have hpn9 := nI_toInt (n := pn j0) (by omega); simp only [Int32.lt_iff_toInt_lt, li_0, hpn9] at c_3; omega)))).symm, ht⟩) (fun q h => absurd h List.not_mem_nil) dX6_corner_47
        · skip
          refine lv_iload_n hx hb dX6_corner_33 rfl (lv_at hl 3 rfl) ?_
          refine lv_aload hx hb dX6_corner_34 (lv_at hl 0 rfl) ?_
          refine va_get (D := D) (ci := 4) (v := .ref (ad 1)) (C := RX2) (T := TX2) (N := 5) hx hb hts (by decide +kernel) hown hK hP 4 rfl rfl 0 (by decide) (hts (.fieldLink RX6 135 "LandDeeds$Plot" "outline" "LLandDeeds$Outline;") (by decide +kernel)) (fun _ h9 => h9) rfl dX6_corner_36 ?_
          refine va_get (D := D) (ci := 3) (v := .int (nI (pn j0))) (C := RX1) (T := TX1) (N := 3) hx hb hts (by decide +kernel) hown hK hP 5 rfl rfl 2 (by decide) (hts (.fieldLink RX6 139 "LandDeeds$Outline" "corners" "I") (by decide +kernel)) (fun _ h9 => h9) rfl dX6_corner_39 ?_
          refine lv_icmp_lt (tgt := 48) hx hb dX6_corner_42 (by decide) (fun c_4 => ?_) (fun c_4 => ?_)
          · skip
            obtain ⟨kj, hkj, xk, ikj⟩ := inP_nat (k := pn j0) (p := x) (by have hpn9 := nI_toInt (n := pn j0) (by omega); simp only [Int32.lt_iff_toInt_lt, li_0, hpn9] at c_3 c_4; omega) (by omega)
            rw [xk] at hl
            refine lv_iload_n hx hb dX6_corner_48 rfl (lv_at hl 4 rfl) ?_
            refine lv_if_ne (tgt := 65) hx hb dX6_corner_49 (by decide) (fun c_5 => ?_) (fun c_5 => ?_)
            · skip
              refine lv_aload hx hb dX6_corner_65 (lv_at hl 0 rfl) ?_
              refine va_get (D := D) (ci := 4) (v := .ref (ad 1)) (C := RX2) (T := TX2) (N := 5) hx hb hts (by decide +kernel) hown hK hP 4 rfl rfl 0 (by decide) (hts (.fieldLink RX6 135 "LandDeeds$Plot" "outline" "LLandDeeds$Outline;") (by decide +kernel)) (fun _ h9 => h9) rfl dX6_corner_67 ?_
              refine va_get (D := D) (ci := 3) (v := .ref (ad 7)) (C := RX1) (T := TX1) (N := 3) hx hb hts (by decide +kernel) hown hK hP 5 rfl rfl 1 (by decide) (hts (.fieldLink RX6 157 "LandDeeds$Outline" "ys" "[I") (by decide +kernel)) (fun _ h9 => h9) rfl dX6_corner_70 ?_
              refine lv_iload_n hx hb dX6_corner_73 rfl (lv_at hl 3 rfl) ?_
              refine u_iald hx hb hK hP 7 0 rfl rfl rfl ⟨by omega, by omega⟩ dX6_corner_74 ?_
              rw [← hQ]
              exact W.iret (v := (G 1) kj) hx hb hr (fun t ht hW => ⟨_, rfl, (corner_cls hin9 xi0 hG0 (show 0 ≤ y.toInt ∧ y.toInt ≤ 1 from (by simp only [Int32.lt_iff_toInt_lt, Int32.le_iff_toInt_le, ← Int32.toInt_inj, li_0, li_1, li_2, li_3, li_4, li_5, li_6, li_7, li_8, li_9, li_10, li_12, li_20, li_31, li_32, li_33, li_47, li_48, li_49, li_57, li_59, li_60, li_101, li_108, li_109, li_110, li_115, li_119, li_126, li_999, li_1000, li_1023, li_1024, li_2000, li_m1, li_m6] at c_1 c_2 ⊢; omega)) xk hkj hn80).2 c_5, ht⟩) (fun q h => absurd h List.not_mem_nil) dX6_corner_75
            · skip
              refine lv_aload hx hb dX6_corner_52 (lv_at hl 0 rfl) ?_
              refine va_get (D := D) (ci := 4) (v := .ref (ad 1)) (C := RX2) (T := TX2) (N := 5) hx hb hts (by decide +kernel) hown hK hP 4 rfl rfl 0 (by decide) (hts (.fieldLink RX6 135 "LandDeeds$Plot" "outline" "LLandDeeds$Outline;") (by decide +kernel)) (fun _ h9 => h9) rfl dX6_corner_54 ?_
              refine va_get (D := D) (ci := 3) (v := .ref (ad 6)) (C := RX1) (T := TX1) (N := 3) hx hb hts (by decide +kernel) hown hK hP 5 rfl rfl 0 (by decide) (hts (.fieldLink RX6 154 "LandDeeds$Outline" "xs" "[I") (by decide +kernel)) (fun _ h9 => h9) rfl dX6_corner_57 ?_
              refine lv_iload_n hx hb dX6_corner_60 rfl (lv_at hl 3 rfl) ?_
              refine u_iald hx hb hK hP 6 0 rfl rfl rfl ⟨by omega, by omega⟩ dX6_corner_61 ?_
              refine lv_goto (tgt := 75) hx hb dX6_corner_62 (by decide) ?_
              rw [← hQ]
              exact W.iret (v := (G 0) kj) hx hb hr (fun t ht hW => ⟨_, rfl, (corner_cls hin9 xi0 hG0 (show 0 ≤ y.toInt ∧ y.toInt ≤ 1 from (by simp only [Int32.lt_iff_toInt_lt, Int32.le_iff_toInt_le, ← Int32.toInt_inj, li_0, li_1, li_2, li_3, li_4, li_5, li_6, li_7, li_8, li_9, li_10, li_12, li_20, li_31, li_32, li_33, li_47, li_48, li_49, li_57, li_59, li_60, li_101, li_108, li_109, li_110, li_115, li_119, li_126, li_999, li_1000, li_1023, li_1024, li_2000, li_m1, li_m6] at c_1 c_2 ⊢; omega)) xk hkj hn80).1 c_5, ht⟩) (fun q h => absurd h List.not_mem_nil) dX6_corner_75
          · skip
            refine lv_bipush (v := (-6)) hx hb dX6_corner_45 (by decide) ?_
            rw [← hQ]
            exact W.iret (v := (-6)) hx hb hr (fun t ht hW => ⟨_, rfl, ((cif_t hin9).trans ((cif_t (show 0 ≤ y.toInt ∧ y.toInt ≤ 1 from (by simp only [Int32.lt_iff_toInt_lt, Int32.le_iff_toInt_le, ← Int32.toInt_inj, li_0, li_1, li_2, li_3, li_4, li_5, li_6, li_7, li_8, li_9, li_10, li_12, li_20, li_31, li_32, li_33, li_47, li_48, li_49, li_57, li_59, li_60, li_101, li_108, li_109, li_110, li_115, li_119, li_126, li_999, li_1000, li_1023, li_1024, li_2000, li_m1, li_m6] at c_1 c_2 ⊢; omega))).trans (cif_f (by unfold inP; rw [xi0]; have hpn9 := nI_toInt (n := pn j0) (by omega); simp only [Int32.lt_iff_toInt_lt, li_0, hpn9] at c_3 c_4; omega)))).symm, ht⟩) (fun q h => absurd h List.not_mem_nil) dX6_corner_47
      · skip
        refine lv_bipush (v := (-2)) hx hb dX6_corner_26 (by decide) ?_
        rw [← hQ]
        exact W.iret (v := (-2)) hx hb hr (fun t ht hW => ⟨_, rfl, ((cif_t hin9).trans (cif_f (by simp only [Int32.lt_iff_toInt_lt, Int32.le_iff_toInt_le, ← Int32.toInt_inj, li_0, li_1, li_2, li_3, li_4, li_5, li_6, li_7, li_8, li_9, li_10, li_12, li_20, li_31, li_32, li_33, li_47, li_48, li_49, li_57, li_59, li_60, li_101, li_108, li_109, li_110, li_115, li_119, li_126, li_999, li_1000, li_1023, li_1024, li_2000, li_m1, li_m6] at c_1 c_2 ⊢; omega))).symm, ht⟩) (fun q h => absurd h List.not_mem_nil) dX6_corner_28
  · skip
    refine lv_aload_n hx hb dX6_corner_0 rfl (lv_at hl 0 rfl) ?_
    refine va_get (D := D) (ci := 8) (v := .ref es) (C := RX6) (T := TX6) (N := 7) hx hb hts (by decide +kernel) hown hK hP 0 rfl rfl 1 (by decide) (hts (.fieldLink RX6 19 "LandDeeds" "estate" "LLandDeeds$Estate;") (by decide +kernel)) (fun _ h9 => h9) rfl dX6_corner_1 ?_
    refine lv_iload_n hx hb dX6_corner_4 rfl (lv_at hl 1 rfl) ?_
    have hPc := hP.sub (ws' := [(es, .inr (2, [.ref ap, .ref ay, .int (nI k), .int lo])), (ap, .inl (cP, 6, .inr (.inr (.inr (.inr fp)))))]) [1, 2] rfl
    refine u_callSn (W.runV (As := [.int x0]) (rest := []) ⟨hx, hb, hml, hown, hts⟩ (c_X0_plotAt_no l D cI cB cZ cP es ap ay k lo fp x0 (hk) (hin9)) (cwV 1 hts gX6_corner_X0_plotAt rfl rfl rfl (by decide +kernel) ⟨Nat.le_of_ble_eq_true rfl, Nat.le_of_ble_eq_true rfl⟩) (pV (q0 := 0) hPc hW0 trivial rfl rfl) rfl rfl hl.1 rfl (lv_room (Nat.le_of_ble_eq_true rfl)) dX6_corner_5 ⟨Nat.le_of_ble_eq_true rfl, Nat.le_of_ble_eq_true rfl⟩) ?_
    refine lv_astoreN (lv' := [(4, .null), (0, .ref h0), (1, .int x0), (2, .int x), (3, .int y)]) hx hb dX6_corner_8 hl (by decide) rfl (fun ls hl => ?_)
    refine lv_aloadN hx hb dX6_corner_10 (lv_at hl 0 rfl) ?_
    refine lv_ifnonnullN hx hb dX6_corner_12 ?_
    refine lv_iconst (v := (-1)) hx hb dX6_corner_15 (by decide) ?_
    rw [← hQ]
    exact W.iret (v := (-1)) hx hb hr (fun t ht hW => ⟨_, rfl, (cif_f hin9).symm, ht⟩) (fun q h => absurd h List.not_mem_nil) dX6_corner_16

set_option maxHeartbeats 4000000 in
set_option maxRecDepth 100000 in
theorem c_X6_about (l : Launch) (D : va_G) (cI cB cZ cP : ClassId) (h0 tx es i1 i2 wa ra : Nat) (kp : Int32) (ap ay k : Nat) (lo : Int32) (fp : Nat → Option Nat) (yr : Nat → Int32) (Pl : Nat → Option PD) (pn : PN) (PX PY : PF) (x0 x : Int32) (hk : k ≤ 6) (hPL : PLok Pl fp k pn PX PY) (hyr : ∀ z, z < k → 1 ≤ (yr z).toInt ∧ (yr z).toInt ≤ 999) : Met l yX6_about wsX6_about ({ frames := 4, cells := 0, slots := 0, locals := 90 } : Room) (va_Pc [.ref h0, .int x0, .int x] (fun U => va_P D vwCl [(h0, .inr (8, [.ref tx, .ref es, .ref i1, .ref i2, .ref wa, .ref ra, .int kp])), (es, .inr (2, [.ref ap, .ref ay, .int (nI k), .int lo])), (ap, .inl (cP, 6, .inr (.inr (.inr (.inr fp))))), (ay, .inl (cI, 6, .inl yr))] U.heap ∧ KW D cI cB cZ cP U ∧ (PLA D cI cB Pl) U.heap)) (vp_Si (fun r => r = aAbout k pn PX PY yr x0 x)) 0 0 (fun _ => False) := by
  refine Met.ofW (cc := cX6_about) (maxL := 4) (ret := (some .int)) (by decide) rfl ?_
  intro p e s m args below meth c s₁ B hml hv
  obtain ⟨rfl, hP, hW0, hE⟩ := hv
  have hx := B.exec
  have hb := B.bytes
  have hr := B.returns
  have hts := atoms_spec (ws := wsX6_about) B.pre
  have hown : s.vm.findClass RX6 = some m.cls := findClass_of_methodNamed B.named
  have hlocks := B.notSynchronized
  have hK := hW0.1
  have hl := lv_entry ([.ref h0, .int x0, .int x]) (n := 4) (Nat.le_of_ble_eq_true rfl)
  rw [lg_entry_eq]
  generalize (lg_sl ([.ref h0, .int x0, .int x]) ++ List.replicate (4 - (lg_sl ([.ref h0, .int x0, .int x])).length) Slot.unset).toArray = ls at hl ⊢
  have hl : lv_has ls 4 [(0, .ref h0), (1, .int x0), (2, .int x)] := hl
  show W p l e ({ frames := 4, cells := 0, slots := 0, locals := 90 } : Room) s m ([.ref h0, .int x0, .int x] : List Value).toArray below meth c s.heap [] 0 0 _ (F0 m 0 ls [])
  refine u_genQ (fun Q hQ => ?_)
  by_cases hin9 : inP k x0
  · skip
    obtain ⟨j0, hj0, xe0, xi0⟩ := inP_nat hin9 (by omega)
    rw [xe0] at hl
    obtain ⟨a0, ⟨ad, nn0, G, wt0⟩, hf0, hpl0, en0, hn30, hn80, hG0, hst0, ew0, hRw0, hLt0, hpp0⟩ := hPL j0 hj0
    have en0 : nn0 = pn j0 := en0
    subst en0
    have ew0 : wt0 = wrt (pn j0) (PX j0) (PY j0) (pn j0) := ew0
    subst ew0
    have hP := vP_app hP (hE a0 _ hpl0)
    have hP : va_P D vwCl [(h0, .inr (8, [.ref tx, .ref es, .ref i1, .ref i2, .ref wa, .ref ra, .int kp])), (es, .inr (2, [.ref ap, .ref ay, .int (nI k), .int lo])), (ap, .inl (cP, 6, .inr (.inr (.inr (.inr fp))))), (ay, .inl (cI, 6, .inl yr)), (a0, .inr (4, [.ref (ad 1), .ref (ad 2), .ref (ad 3), .ref (ad 4), .ref (ad 5)])), (ad 1, .inr (3, [.ref (ad 6), .ref (ad 7), .int (nI (pn j0))])), (ad 6, .inl (cI, (pn j0), .inl (G 0))), (ad 7, .inl (cI, (pn j0), .inl (G 1))), (ad 2, .inr (0, [.ref (ad 8), .int 0, .int 0, .int 0])), (ad 8, .inl (cB, ((wrt (pn j0) (PX j0) (PY j0) (pn j0)).length), .inl (G 2))), (ad 3, .inl (cI, 32, .inl (G 3))), (ad 4, .inl (cI, 32, .inl (G 4))), (ad 5, .inl (cI, 32, .inl (G 5)))] s.heap := hP
    refine lv_aload_n hx hb dX6_about_0 rfl (lv_at hl 0 rfl) ?_
    refine va_get (D := D) (ci := 8) (v := .ref es) (C := RX6) (T := TX6) (N := 7) hx hb hts (by decide +kernel) hown hK hP 0 rfl rfl 1 (by decide) (hts (.fieldLink RX6 19 "LandDeeds" "estate" "LLandDeeds$Estate;") (by decide +kernel)) (fun _ h9 => h9) rfl dX6_about_1 ?_
    refine lv_iload_n hx hb dX6_about_4 rfl (lv_at hl 1 rfl) ?_
    have hPc := hP.sub (ws' := [(es, .inr (2, [.ref ap, .ref ay, .int (nI k), .int lo])), (ap, .inl (cP, 6, .inr (.inr (.inr (.inr fp)))))]) [1, 2] rfl
    refine u_callSr (W.runV (As := [.int (nI j0)]) (rest := []) ⟨hx, hb, hml, hown, hts⟩ (c_X0_plotAt l D cI cB cZ cP es ap ay k lo fp j0 a0 (hk) (hj0) (hf0)) (cwV 1 hts gX6_about_X0_plotAt rfl rfl rfl (by decide +kernel) ⟨Nat.le_of_ble_eq_true rfl, Nat.le_of_ble_eq_true rfl⟩) (pV (q0 := 0) hPc hW0 trivial rfl rfl) rfl rfl hl.1 rfl (lv_room (Nat.le_of_ble_eq_true rfl)) dX6_about_5 ⟨Nat.le_of_ble_eq_true rfl, Nat.le_of_ble_eq_true rfl⟩) ?_
    refine lv_astore_n (lv' := [(3, .ref a0), (0, .ref h0), (1, .int (nI j0)), (2, .int x)]) hx hb dX6_about_8 rfl hl (by decide) rfl (fun ls hl => ?_)
    refine lv_aload_n hx hb dX6_about_9 rfl (lv_at hl 0 rfl) ?_
    refine lv_ifnonnull (tgt := 15) hx hb dX6_about_10 (by decide) ?_
    refine lv_iload_n hx hb dX6_about_15 rfl (lv_at hl 3 rfl) ?_
    by_cases c_1 : x = 0
    · skip
      refine lv_tableIn (off := 44) (tgt := 60) hx hb dX6_about_16 (by rw [c_1]; decide) (by rw [c_1]; decide) (by rw [c_1]; rfl) (by decide) ?_
      refine lv_aload_n hx hb dX6_about_60 rfl (lv_at hl 1 rfl) ?_
      refine va_get (D := D) (ci := 8) (v := .ref es) (C := RX6) (T := TX6) (N := 7) hx hb hts (by decide +kernel) hown hK hP 0 rfl rfl 1 (by decide) (hts (.fieldLink RX6 19 "LandDeeds" "estate" "LLandDeeds$Estate;") (by decide +kernel)) (fun _ h9 => h9) rfl dX6_about_61 ?_
      refine lv_iload_n hx hb dX6_about_64 rfl (lv_at hl 2 rfl) ?_
      have hPc := hP.sub (ws' := [(es, .inr (2, [.ref ap, .ref ay, .int (nI k), .int lo])), (ay, .inl (cI, 6, .inl yr))]) [1, 3] rfl
      refine u_callSi (W.runV (As := [.int (nI j0)]) (rest := []) ⟨hx, hb, hml, hown, hts⟩ (c_X0_yearOf l D cI cB cZ cP es ap ay k j0 lo yr (hk) (hj0)) (cwV 1 hts gX6_about_X0_yearOf rfl rfl rfl (by decide +kernel) ⟨Nat.le_of_ble_eq_true rfl, Nat.le_of_ble_eq_true rfl⟩) (pV (q0 := 0) hPc hW0 trivial rfl rfl) rfl rfl hl.1 rfl (lv_room (Nat.le_of_ble_eq_true rfl)) dX6_about_65 ⟨Nat.le_of_ble_eq_true rfl, Nat.le_of_ble_eq_true rfl⟩) ?_
      rw [← hQ]
      exact W.iret (v := yr j0) hx hb hr (fun t ht hW => ⟨_, rfl, (about_cls (yr := yr) hin9 xi0 hG0 hpp0).1 c_1, ht⟩) (fun q h => absurd h List.not_mem_nil) dX6_about_68
    by_cases c_2 : x = 1
    · skip
      refine lv_tableIn (off := 53) (tgt := 69) hx hb dX6_about_16 (by rw [c_2]; decide) (by rw [c_2]; decide) (by rw [c_2]; rfl) (by decide) ?_
      refine lv_aload_n hx hb dX6_about_69 rfl (lv_at hl 0 rfl) ?_
      refine va_get (D := D) (ci := 4) (v := .ref (ad 1)) (C := RX2) (T := TX2) (N := 5) hx hb hts (by decide +kernel) hown hK hP 4 rfl rfl 0 (by decide) (hts (.fieldLink RX6 135 "LandDeeds$Plot" "outline" "LLandDeeds$Outline;") (by decide +kernel)) (fun _ h9 => h9) rfl dX6_about_70 ?_
      refine va_get (D := D) (ci := 3) (v := .int (nI (pn j0))) (C := RX1) (T := TX1) (N := 3) hx hb hts (by decide +kernel) hown hK hP 5 rfl rfl 2 (by decide) (hts (.fieldLink RX6 139 "LandDeeds$Outline" "corners" "I") (by decide +kernel)) (fun _ h9 => h9) rfl dX6_about_73 ?_
      rw [← hQ]
      exact W.iret (v := nI (pn j0)) hx hb hr (fun t ht hW => ⟨_, rfl, (about_cls (yr := yr) hin9 xi0 hG0 hpp0).2.1 c_2, ht⟩) (fun q h => absurd h List.not_mem_nil) dX6_about_76
    by_cases c_3 : x = 2
    · skip
      refine lv_tableIn (off := 61) (tgt := 77) hx hb dX6_about_16 (by rw [c_3]; decide) (by rw [c_3]; decide) (by rw [c_3]; rfl) (by decide) ?_
      refine lv_aload_n hx hb dX6_about_77 rfl (lv_at hl 0 rfl) ?_
      refine va_get (D := D) (ci := 4) (v := .ref (ad 1)) (C := RX2) (T := TX2) (N := 5) hx hb hts (by decide +kernel) hown hK hP 4 rfl rfl 0 (by decide) (hts (.fieldLink RX6 135 "LandDeeds$Plot" "outline" "LLandDeeds$Outline;") (by decide +kernel)) (fun _ h9 => h9) rfl dX6_about_78 ?_
      have hPc := hP.sub (ws' := [(ad 1, .inr (3, [.ref (ad 6), .ref (ad 7), .int (nI (pn j0))])), (ad 6, .inl (cI, (pn j0), .inl (G 0))), (ad 7, .inl (cI, (pn j0), .inl (G 1)))]) [5, 6, 7] rfl
      refine u_callSi (W.runV (As := []) (rest := []) ⟨hx, hb, hml, hown, hts⟩ (c_X1_twiceSignedArea l D cI cB cZ cP (ad 1) (ad 6) (ad 7) (pn j0) (G 0) (G 1) (hn80)) (cwV 0 hts gX6_about_X1_twiceSignedArea rfl rfl rfl (by decide +kernel) ⟨Nat.le_of_ble_eq_true rfl, Nat.le_of_ble_eq_true rfl⟩) (pV (q0 := 0) hPc hW0 trivial rfl rfl) rfl rfl hl.1 rfl (lv_room (Nat.le_of_ble_eq_true rfl)) dX6_about_81 ⟨Nat.le_of_ble_eq_true rfl, Nat.le_of_ble_eq_true rfl⟩) ?_
      refine va_mabs hx hb (by rw [hml]; exact hl.1.symm) hown (hts (.methodLink RX6 76 Lib.Math.abs.name) (by decide +kernel)) (hts (.static Lib.Math.abs.name) (by decide +kernel)) (hts (.initialized "java/lang/Math") (by decide +kernel)) (hts (.code Lib.Math.abs.name Lib.Math.abs.code 1 (some .int)) (by decide +kernel)) (Nat.le_of_ble_eq_true rfl) (Nat.le_of_ble_eq_true rfl) (Nat.zero_le _) (Nat.zero_le _) dX6_about_84 ?_
      rw [← hQ]
      exact W.iret (v := ab (isum (twt (pn j0) (G 0) (G 1)) (pn j0))) hx hb hr (fun t ht hW => ⟨_, rfl, (about_cls (yr := yr) hin9 xi0 hG0 hpp0).2.2.1 c_3, ht⟩) (fun q h => absurd h List.not_mem_nil) dX6_about_87
    by_cases c_4 : x = 3
    · skip
      refine lv_tableIn (off := 72) (tgt := 88) hx hb dX6_about_16 (by rw [c_4]; decide) (by rw [c_4]; decide) (by rw [c_4]; rfl) (by decide) ?_
      refine lv_aload_n hx hb dX6_about_88 rfl (lv_at hl 0 rfl) ?_
      refine va_get (D := D) (ci := 4) (v := .ref (ad 1)) (C := RX2) (T := TX2) (N := 5) hx hb hts (by decide +kernel) hown hK hP 4 rfl rfl 0 (by decide) (hts (.fieldLink RX6 135 "LandDeeds$Plot" "outline" "LLandDeeds$Outline;") (by decide +kernel)) (fun _ h9 => h9) rfl dX6_about_89 ?_
      have hPc := hP.sub (ws' := [(ad 1, .inr (3, [.ref (ad 6), .ref (ad 7), .int (nI (pn j0))])), (ad 6, .inl (cI, (pn j0), .inl (G 0))), (ad 7, .inl (cI, (pn j0), .inl (G 1)))]) [5, 6, 7] rfl
      refine u_callSi (W.runV (As := []) (rest := []) ⟨hx, hb, hml, hown, hts⟩ (c_X1_twiceSignedArea l D cI cB cZ cP (ad 1) (ad 6) (ad 7) (pn j0) (G 0) (G 1) (hn80)) (cwV 0 hts gX6_about_X1_twiceSignedArea rfl rfl rfl (by decide +kernel) ⟨Nat.le_of_ble_eq_true rfl, Nat.le_of_ble_eq_true rfl⟩) (pV (q0 := 0) hPc hW0 trivial rfl rfl) rfl rfl hl.1 rfl (lv_room (Nat.le_of_ble_eq_true rfl)) dX6_about_92 ⟨Nat.le_of_ble_eq_true rfl, Nat.le_of_ble_eq_true rfl⟩) ?_
      refine lv_if_le (tgt := 102) hx hb dX6_about_95 (by decide) (fun c_5 => ?_) (fun c_5 => ?_)
      · skip
        refine lv_iconst (v := 0) hx hb dX6_about_102 (by decide) ?_
        rw [← hQ]
        exact W.iret (v := 0) hx hb hr (fun t ht hW => ⟨_, rfl, (zb_f (Int32.not_lt.mpr c_5)).trans ((about_cls (yr := yr) hin9 xi0 hG0 hpp0).2.2.2.1 c_4), ht⟩) (fun q h => absurd h List.not_mem_nil) dX6_about_103
      · skip
        refine lv_iconst (v := 1) hx hb dX6_about_98 (by decide) ?_
        refine lv_goto (tgt := 103) hx hb dX6_about_99 (by decide) ?_
        rw [← hQ]
        exact W.iret (v := 1) hx hb hr (fun t ht hW => ⟨_, rfl, (zb_t (Int32.not_le.mp c_5)).trans ((about_cls (yr := yr) hin9 xi0 hG0 hpp0).2.2.2.1 c_4), ht⟩) (fun q h => absurd h List.not_mem_nil) dX6_about_103
    by_cases c_6 : x = 4
    · skip
      refine lv_tableIn (off := 88) (tgt := 104) hx hb dX6_about_16 (by rw [c_6]; decide) (by rw [c_6]; decide) (by rw [c_6]; rfl) (by decide) ?_
      refine lv_aload_n hx hb dX6_about_104 rfl (lv_at hl 0 rfl) ?_
      have hPc := hP.sub (ws' := [(a0, .inr (4, [.ref (ad 1), .ref (ad 2), .ref (ad 3), .ref (ad 4), .ref (ad 5)])), (ad 3, .inl (cI, 32, .inl (G 3)))]) [4, 10] rfl
      refine u_callSi (W.runV (As := []) (rest := []) ⟨hx, hb, hml, hown, hts⟩ (c_X2_howManyInside l D cI cB cZ cP a0 (ad 1) (ad 2) (ad 3) (ad 4) (ad 5) (G 3) ) (cwV 0 hts gX6_about_X2_howManyInside rfl rfl rfl (by decide +kernel) ⟨Nat.le_of_ble_eq_true rfl, Nat.le_of_ble_eq_true rfl⟩) (pV (q0 := 0) hPc hW0 trivial rfl rfl) rfl rfl hl.1 rfl (lv_room (Nat.le_of_ble_eq_true rfl)) dX6_about_105 ⟨Nat.le_of_ble_eq_true rfl, Nat.le_of_ble_eq_true rfl⟩) ?_
      rw [← hQ]
      exact W.iret (v := nI (cnt2 (fun y x => bit ((G 3) y) x) 32)) hx hb hr (fun t ht hW => ⟨_, rfl, (about_cls (yr := yr) hin9 xi0 hG0 hpp0).2.2.2.2.1 c_6, ht⟩) (fun q h => absurd h List.not_mem_nil) dX6_about_108
    by_cases c_7 : x = 5
    · skip
      refine lv_tableIn (off := 93) (tgt := 109) hx hb dX6_about_16 (by rw [c_7]; decide) (by rw [c_7]; decide) (by rw [c_7]; rfl) (by decide) ?_
      refine lv_aload_n hx hb dX6_about_109 rfl (lv_at hl 0 rfl) ?_
      have hPc := hP.sub (ws' := [(a0, .inr (4, [.ref (ad 1), .ref (ad 2), .ref (ad 3), .ref (ad 4), .ref (ad 5)])), (ad 4, .inl (cI, 32, .inl (G 4)))]) [4, 11] rfl
      refine u_callSi (W.runV (As := []) (rest := []) ⟨hx, hb, hml, hown, hts⟩ (c_X2_howManyOnSides l D cI cB cZ cP a0 (ad 1) (ad 2) (ad 3) (ad 4) (ad 5) (G 4) ) (cwV 0 hts gX6_about_X2_howManyOnSides rfl rfl rfl (by decide +kernel) ⟨Nat.le_of_ble_eq_true rfl, Nat.le_of_ble_eq_true rfl⟩) (pV (q0 := 0) hPc hW0 trivial rfl rfl) rfl rfl hl.1 rfl (lv_room (Nat.le_of_ble_eq_true rfl)) dX6_about_110 ⟨Nat.le_of_ble_eq_true rfl, Nat.le_of_ble_eq_true rfl⟩) ?_
      rw [← hQ]
      exact W.iret (v := nI (cnt2 (fun y x => bit ((G 4) y) x) 32)) hx hb hr (fun t ht hW => ⟨_, rfl, (about_cls (yr := yr) hin9 xi0 hG0 hpp0).2.2.2.2.2.1 c_7, ht⟩) (fun q h => absurd h List.not_mem_nil) dX6_about_113
    by_cases c_8 : x = 6
    · skip
      refine lv_tableIn (off := 98) (tgt := 114) hx hb dX6_about_16 (by rw [c_8]; decide) (by rw [c_8]; decide) (by rw [c_8]; rfl) (by decide) ?_
      refine lv_aload_n hx hb dX6_about_114 rfl (lv_at hl 1 rfl) ?_
      refine va_get (D := D) (ci := 8) (v := .ref es) (C := RX6) (T := TX6) (N := 7) hx hb hts (by decide +kernel) hown hK hP 0 rfl rfl 1 (by decide) (hts (.fieldLink RX6 19 "LandDeeds" "estate" "LLandDeeds$Estate;") (by decide +kernel)) (fun _ h9 => h9) rfl dX6_about_115 ?_
      refine lv_iload_n hx hb dX6_about_118 rfl (lv_at hl 2 rfl) ?_
      have hPc := hP.sub (ws' := [(es, .inr (2, [.ref ap, .ref ay, .int (nI k), .int lo])), (ap, .inl (cP, 6, .inr (.inr (.inr (.inr fp))))), (ay, .inl (cI, 6, .inl yr))]) [1, 2, 3] rfl
      refine u_callSi (W.runV (As := [.int (nI j0)]) (rest := []) ⟨hx, hb, hml, hown, hts⟩ (c_X0_howManyLost l D cI cB cZ cP es ap ay k lo fp (hdP Pl fp) yr j0 (hk) (hyr) (hj0)) (cwV 1 hts gX6_about_X0_howManyLost rfl rfl rfl (by decide +kernel) ⟨Nat.le_of_ble_eq_true rfl, Nat.le_of_ble_eq_true rfl⟩) (pV (q0 := 0) hPc hW0 (PO_of hPL hE) rfl rfl) rfl rfl hl.1 rfl (lv_room (Nat.le_of_ble_eq_true rfl)) dX6_about_119 ⟨Nat.le_of_ble_eq_true rfl, Nat.le_of_ble_eq_true rfl⟩) ?_
      rw [← hQ]
      exact W.iret (v := nI (cnt2 (fun y x => bit ((hdP Pl fp) j0 y) x ∧ bit (orr (fun z => old yr z j0) (fun z => (hdP Pl fp) z y) k) x) 32)) hx hb hr (fun t ht hW => ⟨_, rfl, (lost_cls hPL hj0).trans ((about_cls (yr := yr) hin9 xi0 hG0 hpp0).2.2.2.2.2.2.1 c_8), ht⟩) (fun q h => absurd h List.not_mem_nil) dX6_about_122
    refine lv_tableOut (tgt := 123) hx hb dX6_about_16 (by have := u_sw7 ‹¬ x = 0› ‹¬ x = 1› ‹¬ x = 2› ‹¬ x = 3› ‹¬ x = 4› ‹¬ x = 5› ‹¬ x = 6›; omega) (by decide) ?_
    refine lv_bipush (v := (-2)) hx hb dX6_about_123 (by decide) ?_
    rw [← hQ]
    exact W.iret (v := (-2)) hx hb hr (fun t ht hW => ⟨_, rfl, (about_cls (yr := yr) hin9 xi0 hG0 hpp0).2.2.2.2.2.2.2 c_1 c_2 c_3 c_4 c_6 c_7 c_8, ht⟩) (fun q h => absurd h List.not_mem_nil) dX6_about_125
  · skip
    refine lv_aload_n hx hb dX6_about_0 rfl (lv_at hl 0 rfl) ?_
    refine va_get (D := D) (ci := 8) (v := .ref es) (C := RX6) (T := TX6) (N := 7) hx hb hts (by decide +kernel) hown hK hP 0 rfl rfl 1 (by decide) (hts (.fieldLink RX6 19 "LandDeeds" "estate" "LLandDeeds$Estate;") (by decide +kernel)) (fun _ h9 => h9) rfl dX6_about_1 ?_
    refine lv_iload_n hx hb dX6_about_4 rfl (lv_at hl 1 rfl) ?_
    have hPc := hP.sub (ws' := [(es, .inr (2, [.ref ap, .ref ay, .int (nI k), .int lo])), (ap, .inl (cP, 6, .inr (.inr (.inr (.inr fp)))))]) [1, 2] rfl
    refine u_callSn (W.runV (As := [.int x0]) (rest := []) ⟨hx, hb, hml, hown, hts⟩ (c_X0_plotAt_no l D cI cB cZ cP es ap ay k lo fp x0 (hk) (hin9)) (cwV 1 hts gX6_about_X0_plotAt rfl rfl rfl (by decide +kernel) ⟨Nat.le_of_ble_eq_true rfl, Nat.le_of_ble_eq_true rfl⟩) (pV (q0 := 0) hPc hW0 trivial rfl rfl) rfl rfl hl.1 rfl (lv_room (Nat.le_of_ble_eq_true rfl)) dX6_about_5 ⟨Nat.le_of_ble_eq_true rfl, Nat.le_of_ble_eq_true rfl⟩) ?_
    refine lv_astore_nN (lv' := [(3, .null), (0, .ref h0), (1, .int x0), (2, .int x)]) hx hb dX6_about_8 rfl hl (by decide) rfl (fun ls hl => ?_)
    refine lv_aload_nN hx hb dX6_about_9 rfl (lv_at hl 0 rfl) ?_
    refine lv_ifnonnullN hx hb dX6_about_10 ?_
    refine lv_iconst (v := (-1)) hx hb dX6_about_13 (by decide) ?_
    rw [← hQ]
    exact W.iret (v := (-1)) hx hb hr (fun t ht hW => ⟨_, rfl, (cif_f hin9).symm, ht⟩) (fun q h => absurd h List.not_mem_nil) dX6_about_14

set_option maxHeartbeats 4000000 in
set_option maxRecDepth 100000 in
theorem c_X6_sign (l : Launch) (D : va_G) (cI cB cZ cP : ClassId) (tz1 tz2 : Nat) (h0 tx es i1 i2 wa ra : Nat) (kp : Int32) (ap ay k : Nat) (lo : Int32) (fp : Nat → Option Nat) (yr : Nat → Int32) (Pl : Nat → Option PD) (pn : PN) (PX PY : PF) (x0 x : Int32) (hk : k ≤ 6) (hPL : PLok Pl fp k pn PX PY) : Met l yX6_sign wsX6_sign ({ frames := 4, cells := 0, slots := 0, locals := 85 } : Room) (va_Pc [.ref h0, .int x0, .int x] (fun U => va_P D vwCl [(h0, .inr (8, [.ref tx, .ref es, .ref i1, .ref i2, .ref wa, .ref ra, .int kp])), (es, .inr (2, [.ref ap, .ref ay, .int (nI k), .int lo])), (ap, .inl (cP, 6, .inr (.inr (.inr (.inr fp))))), (ay, .inl (cI, 6, .inl yr))] U.heap ∧ KW D cI cB cZ cP U ∧ (PLA D cI cB Pl) U.heap ∧ ZZ tz1 tz2 (fun _ => False) U U.heap)) (vp_Si (fun r => r = aSign k pn PX PY x0 x)) 0 0 (fun _ => False) := by
  refine Met.ofW (cc := cX6_sign) (maxL := 5) (ret := (some .int)) (by decide) rfl ?_
  intro p e s m args below meth c s₁ B hml hv
  obtain ⟨rfl, hP, hW0, hE, hZ⟩ := hv
  have hx := B.exec
  have hb := B.bytes
  have hr := B.returns
  have hts := atoms_spec (ws := wsX6_sign) B.pre
  have hown : s.vm.findClass RX6 = some m.cls := findClass_of_methodNamed B.named
  have hlocks := B.notSynchronized
  have hK := hW0.1
  have hl := lv_entry ([.ref h0, .int x0, .int x]) (n := 5) (Nat.le_of_ble_eq_true rfl)
  rw [lg_entry_eq]
  generalize (lg_sl ([.ref h0, .int x0, .int x]) ++ List.replicate (5 - (lg_sl ([.ref h0, .int x0, .int x])).length) Slot.unset).toArray = ls at hl ⊢
  have hl : lv_has ls 5 [(0, .ref h0), (1, .int x0), (2, .int x)] := hl
  show W p l e ({ frames := 4, cells := 0, slots := 0, locals := 85 } : Room) s m ([.ref h0, .int x0, .int x] : List Value).toArray below meth c s.heap [] 0 0 _ (F0 m 0 ls [])
  refine u_genQ (fun Q hQ => ?_)
  by_cases hin9 : inP k x0
  · skip
    obtain ⟨j0, hj0, xe0, xi0⟩ := inP_nat hin9 (by omega)
    rw [xe0] at hl
    obtain ⟨a0, ⟨ad, nn0, G, wt0⟩, hf0, hpl0, en0, hn30, hn80, hG0, hst0, ew0, hRw0, hLt0, hpp0⟩ := hPL j0 hj0
    have en0 : nn0 = pn j0 := en0
    subst en0
    have ew0 : wt0 = wrt (pn j0) (PX j0) (PY j0) (pn j0) := ew0
    subst ew0
    have hP := vP_app hP (hE a0 _ hpl0)
    have hP : va_P D vwCl [(h0, .inr (8, [.ref tx, .ref es, .ref i1, .ref i2, .ref wa, .ref ra, .int kp])), (es, .inr (2, [.ref ap, .ref ay, .int (nI k), .int lo])), (ap, .inl (cP, 6, .inr (.inr (.inr (.inr fp))))), (ay, .inl (cI, 6, .inl yr)), (a0, .inr (4, [.ref (ad 1), .ref (ad 2), .ref (ad 3), .ref (ad 4), .ref (ad 5)])), (ad 1, .inr (3, [.ref (ad 6), .ref (ad 7), .int (nI (pn j0))])), (ad 6, .inl (cI, (pn j0), .inl (G 0))), (ad 7, .inl (cI, (pn j0), .inl (G 1))), (ad 2, .inr (0, [.ref (ad 8), .int 0, .int 0, .int 0])), (ad 8, .inl (cB, ((wrt (pn j0) (PX j0) (PY j0) (pn j0)).length), .inl (G 2))), (ad 3, .inl (cI, 32, .inl (G 3))), (ad 4, .inl (cI, 32, .inl (G 4))), (ad 5, .inl (cI, 32, .inl (G 5)))] s.heap := hP
    refine lv_aload_n hx hb dX6_sign_0 rfl (lv_at hl 0 rfl) ?_
    refine va_get (D := D) (ci := 8) (v := .ref es) (C := RX6) (T := TX6) (N := 7) hx hb hts (by decide +kernel) hown hK hP 0 rfl rfl 1 (by decide) (hts (.fieldLink RX6 19 "LandDeeds" "estate" "LLandDeeds$Estate;") (by decide +kernel)) (fun _ h9 => h9) rfl dX6_sign_1 ?_
    refine lv_iload_n hx hb dX6_sign_4 rfl (lv_at hl 1 rfl) ?_
    have hPc := hP.sub (ws' := [(es, .inr (2, [.ref ap, .ref ay, .int (nI k), .int lo])), (ap, .inl (cP, 6, .inr (.inr (.inr (.inr fp)))))]) [1, 2] rfl
    refine u_callSr (W.runV (As := [.int (nI j0)]) (rest := []) ⟨hx, hb, hml, hown, hts⟩ (c_X0_plotAt l D cI cB cZ cP es ap ay k lo fp j0 a0 (hk) (hj0) (hf0)) (cwV 1 hts gX6_sign_X0_plotAt rfl rfl rfl (by decide +kernel) ⟨Nat.le_of_ble_eq_true rfl, Nat.le_of_ble_eq_true rfl⟩) (pV (q0 := 0) hPc hW0 trivial rfl rfl) rfl rfl hl.1 rfl (lv_room (Nat.le_of_ble_eq_true rfl)) dX6_sign_5 ⟨Nat.le_of_ble_eq_true rfl, Nat.le_of_ble_eq_true rfl⟩) ?_
    refine lv_astore_n (lv' := [(3, .ref a0), (0, .ref h0), (1, .int (nI j0)), (2, .int x)]) hx hb dX6_sign_8 rfl hl (by decide) rfl (fun ls hl => ?_)
    refine lv_aload_n hx hb dX6_sign_9 rfl (lv_at hl 0 rfl) ?_
    refine lv_ifnonnull (tgt := 15) hx hb dX6_sign_10 (by decide) ?_
    have hwl9 := wrt_len (pn j0) (PX j0) (PY j0) (pn j0)
    have hln9 := nI_toInt (n := (wrt (pn j0) (PX j0) (PY j0) (pn j0)).length) (by omega)
    refine lv_aload_n hx hb dX6_sign_15 rfl (lv_at hl 0 rfl) ?_
    refine va_get (D := D) (ci := 4) (v := .ref (ad 2)) (C := RX2) (T := TX2) (N := 5) hx hb hts (by decide +kernel) hown hK hP 4 rfl rfl 1 (by decide) (hts (.fieldLink RX6 169 "LandDeeds$Plot" "written" "Ljava/lang/String;") (by decide +kernel)) (fun _ h9 => h9) rfl dX6_sign_16 ?_
    have hPc := hP.sub (ws' := [(ad 2, .inr (0, [.ref (ad 8), .int 0, .int 0, .int 0])), (ad 8, .inl (cB, ((wrt (pn j0) (PX j0) (PY j0) (pn j0)).length), .inl (G 2)))]) [8, 9] rfl
    refine u_callSi (W.runV (As := []) (rest := []) ⟨hx, hb, hml, hown, hts⟩ (c_J0_length_8abf5 l D cI cB cZ cP tz1 tz2 (ad 2) (ad 8) (wrt (pn j0) (PX j0) (PY j0) (pn j0)) (G 2) (by omega)) (cwV 0 hts gX6_sign_J0_length_8abf5 rfl rfl rfl (by decide +kernel) ⟨Nat.le_of_ble_eq_true rfl, Nat.le_of_ble_eq_true rfl⟩) (pVZ (q0 := 0) hPc hW0 trivial hZ rfl rfl) rfl rfl hl.1 rfl (lv_room (Nat.le_of_ble_eq_true rfl)) dX6_sign_19 ⟨Nat.le_of_ble_eq_true rfl, Nat.le_of_ble_eq_true rfl⟩) ?_
    refine lv_istore (lv' := [(4, .int (nI (wrt (pn j0) (PX j0) (PY j0) (pn j0)).length)), (3, .ref a0), (0, .ref h0), (1, .int (nI j0)), (2, .int x)]) hx hb dX6_sign_22 hl (by decide) rfl (fun ls hl => ?_)
    refine lv_iload_n hx hb dX6_sign_24 rfl (lv_at hl 4 rfl) ?_
    refine lv_iconst (v := (-1)) hx hb dX6_sign_25 (by decide) ?_
    refine lv_icmp_ne (tgt := 32) hx hb dX6_sign_26 (by decide) (fun c_1 => ?_) (fun c_1 => ?_)
    · skip
      refine lv_iload_n hx hb dX6_sign_32 rfl (lv_at hl 4 rfl) ?_
      refine lv_if_lt (tgt := 53) hx hb dX6_sign_33 (by decide) (fun c_2 => ?_) (fun c_2 => ?_)
      · skip
        refine lv_bipush (v := (-6)) hx hb dX6_sign_53 (by decide) ?_
        rw [← hQ]
        exact W.iret (v := (-6)) hx hb hr (fun t ht hW => ⟨_, rfl, (sign_cls (x := x) hin9 xi0 hRw0).2.2 c_1 (by unfold inP; simp only [Int32.lt_iff_toInt_lt, Int32.le_iff_toInt_le, li_0, hln9] at c_2; omega), ht⟩) (fun q h => absurd h List.not_mem_nil) dX6_sign_55
      · skip
        refine lv_iload_n hx hb dX6_sign_36 rfl (lv_at hl 4 rfl) ?_
        refine lv_iload hx hb dX6_sign_37 (lv_at hl 0 rfl) ?_
        refine lv_icmp_ge (tgt := 53) hx hb dX6_sign_39 (by decide) (fun c_3 => ?_) (fun c_3 => ?_)
        · skip
          refine lv_bipush (v := (-6)) hx hb dX6_sign_53 (by decide) ?_
          rw [← hQ]
          exact W.iret (v := (-6)) hx hb hr (fun t ht hW => ⟨_, rfl, (sign_cls (x := x) hin9 xi0 hRw0).2.2 c_1 (by unfold inP; simp only [Int32.lt_iff_toInt_lt, Int32.le_iff_toInt_le, li_0, hln9] at c_2 c_3; omega), ht⟩) (fun q h => absurd h List.not_mem_nil) dX6_sign_55
        · skip
          obtain ⟨kj, hkj, xk, ikj⟩ := inP_nat (k := (wrt (pn j0) (PX j0) (PY j0) (pn j0)).length) (p := x) (by simp only [Int32.lt_iff_toInt_lt, Int32.le_iff_toInt_le, li_0, hln9] at c_2 c_3; omega) (by omega)
          rw [xk] at hl
          refine lv_aload_n hx hb dX6_sign_42 rfl (lv_at hl 1 rfl) ?_
          refine va_get (D := D) (ci := 4) (v := .ref (ad 2)) (C := RX2) (T := TX2) (N := 5) hx hb hts (by decide +kernel) hown hK hP 4 rfl rfl 1 (by decide) (hts (.fieldLink RX6 169 "LandDeeds$Plot" "written" "Ljava/lang/String;") (by decide +kernel)) (fun _ h9 => h9) rfl dX6_sign_43 ?_
          refine lv_iload_n hx hb dX6_sign_46 rfl (lv_at hl 4 rfl) ?_
          have hPc := hP.sub (ws' := [(ad 2, .inr (0, [.ref (ad 8), .int 0, .int 0, .int 0])), (ad 8, .inl (cB, ((wrt (pn j0) (PX j0) (PY j0) (pn j0)).length), .inl (G 2)))]) [8, 9] rfl
          refine u_callSi (W.runV (As := [.int (nI kj)]) (rest := []) ⟨hx, hb, hml, hown, hts⟩ (c_J0_charAt_5068e l D cI cB cZ cP tz1 tz2 (ad 2) (ad 8) (wrt (pn j0) (PX j0) (PY j0) (pn j0)) (G 2) kj (hLt0) (hkj) (by omega)) (cwV 1 hts gX6_sign_J0_charAt_5068e rfl rfl rfl (by decide +kernel) ⟨Nat.le_of_ble_eq_true rfl, Nat.le_of_ble_eq_true rfl⟩) (pVZ (q0 := 0) hPc hW0 trivial hZ rfl rfl) rfl rfl hl.1 rfl (lv_room (Nat.le_of_ble_eq_true rfl)) dX6_sign_47 ⟨Nat.le_of_ble_eq_true rfl, Nat.le_of_ble_eq_true rfl⟩) ?_
          refine lv_goto (tgt := 55) hx hb dX6_sign_50 (by decide) ?_
          rw [← hQ]
          exact W.iret (v := (G 2) kj) hx hb hr (fun t ht hW => ⟨_, rfl, (sign_cls (x := x) hin9 xi0 hRw0).2.1 kj c_1 xk hkj (by omega), ht⟩) (fun q h => absurd h List.not_mem_nil) dX6_sign_55
    · skip
      refine lv_iload hx hb dX6_sign_29 (lv_at hl 0 rfl) ?_
      rw [← hQ]
      exact W.iret (v := nI (wrt (pn j0) (PX j0) (PY j0) (pn j0)).length) hx hb hr (fun t ht hW => ⟨_, rfl, (sign_cls (x := x) hin9 xi0 hRw0).1 c_1, ht⟩) (fun q h => absurd h List.not_mem_nil) dX6_sign_31
  · skip
    refine lv_aload_n hx hb dX6_sign_0 rfl (lv_at hl 0 rfl) ?_
    refine va_get (D := D) (ci := 8) (v := .ref es) (C := RX6) (T := TX6) (N := 7) hx hb hts (by decide +kernel) hown hK hP 0 rfl rfl 1 (by decide) (hts (.fieldLink RX6 19 "LandDeeds" "estate" "LLandDeeds$Estate;") (by decide +kernel)) (fun _ h9 => h9) rfl dX6_sign_1 ?_
    refine lv_iload_n hx hb dX6_sign_4 rfl (lv_at hl 1 rfl) ?_
    have hPc := hP.sub (ws' := [(es, .inr (2, [.ref ap, .ref ay, .int (nI k), .int lo])), (ap, .inl (cP, 6, .inr (.inr (.inr (.inr fp)))))]) [1, 2] rfl
    refine u_callSn (W.runV (As := [.int x0]) (rest := []) ⟨hx, hb, hml, hown, hts⟩ (c_X0_plotAt_no l D cI cB cZ cP es ap ay k lo fp x0 (hk) (hin9)) (cwV 1 hts gX6_sign_X0_plotAt rfl rfl rfl (by decide +kernel) ⟨Nat.le_of_ble_eq_true rfl, Nat.le_of_ble_eq_true rfl⟩) (pV (q0 := 0) hPc hW0 trivial rfl rfl) rfl rfl hl.1 rfl (lv_room (Nat.le_of_ble_eq_true rfl)) dX6_sign_5 ⟨Nat.le_of_ble_eq_true rfl, Nat.le_of_ble_eq_true rfl⟩) ?_
    refine lv_astore_nN (lv' := [(3, .null), (0, .ref h0), (1, .int x0), (2, .int x)]) hx hb dX6_sign_8 rfl hl (by decide) rfl (fun ls hl => ?_)
    refine lv_aload_nN hx hb dX6_sign_9 rfl (lv_at hl 0 rfl) ?_
    refine lv_ifnonnullN hx hb dX6_sign_10 ?_
    refine lv_iconst (v := (-1)) hx hb dX6_sign_13 (by decide) ?_
    rw [← hQ]
    exact W.iret (v := (-1)) hx hb hr (fun t ht hW => ⟨_, rfl, (cif_f hin9).symm, ht⟩) (fun q h => absurd h List.not_mem_nil) dX6_sign_14

set_option maxHeartbeats 4000000 in
set_option maxRecDepth 100000 in
theorem c_X6_common (l : Launch) (D : va_G) (cI cB cZ cP : ClassId) (h0 tx es i1 i2 wa ra : Nat) (kp : Int32) (ap ay k : Nat) (lo : Int32) (fp : Nat → Option Nat) (yr : Nat → Int32) (Pl : Nat → Option PD) (pn : PN) (PX PY : PF) (x0 x1 x : Int32) (hk : k ≤ 6) (hPL : PLok Pl fp k pn PX PY) : Met l yX6_common wsX6_common ({ frames := 2, cells := 0, slots := 0, locals := 43 } : Room) (va_Pc [.ref h0, .int x0, .int x1, .int x] (fun U => va_P D vwCl [(h0, .inr (8, [.ref tx, .ref es, .ref i1, .ref i2, .ref wa, .ref ra, .int kp])), (es, .inr (2, [.ref ap, .ref ay, .int (nI k), .int lo])), (ap, .inl (cP, 6, .inr (.inr (.inr (.inr fp))))), (ay, .inl (cI, 6, .inl yr))] U.heap ∧ KW D cI cB cZ cP U ∧ (PLA D cI cB Pl) U.heap)) (vp_Si (fun r => r = aCommon k pn PX PY x0 x1 x)) 0 0 (fun _ => False) := by
  refine Met.ofW (cc := cX6_common) (maxL := 6) (ret := (some .int)) (by decide) rfl ?_
  intro p e s m args below meth c s₁ B hml hv
  obtain ⟨rfl, hP, hW0, hE⟩ := hv
  have hx := B.exec
  have hb := B.bytes
  have hr := B.returns
  have hts := atoms_spec (ws := wsX6_common) B.pre
  have hown : s.vm.findClass RX6 = some m.cls := findClass_of_methodNamed B.named
  have hlocks := B.notSynchronized
  have hK := hW0.1
  have hl := lv_entry ([.ref h0, .int x0, .int x1, .int x]) (n := 6) (Nat.le_of_ble_eq_true rfl)
  rw [lg_entry_eq]
  generalize (lg_sl ([.ref h0, .int x0, .int x1, .int x]) ++ List.replicate (6 - (lg_sl ([.ref h0, .int x0, .int x1, .int x])).length) Slot.unset).toArray = ls at hl ⊢
  have hl : lv_has ls 6 [(0, .ref h0), (1, .int x0), (2, .int x1), (3, .int x)] := hl
  show W p l e ({ frames := 2, cells := 0, slots := 0, locals := 43 } : Room) s m ([.ref h0, .int x0, .int x1, .int x] : List Value).toArray below meth c s.heap [] 0 0 _ (F0 m 0 ls [])
  refine u_genQ (fun Q hQ => ?_)
  by_cases hin9 : inP k x0
  · skip
    obtain ⟨j0, hj0, xe0, xi0⟩ := inP_nat hin9 (by omega)
    rw [xe0] at hl
    obtain ⟨a0, ⟨ad, nn0, G, wt0⟩, hf0, hpl0, en0, hn30, hn80, hG0, hst0, ew0, hRw0, hLt0, hpp0⟩ := hPL j0 hj0
    have en0 : nn0 = pn j0 := en0
    subst en0
    have ew0 : wt0 = wrt (pn j0) (PX j0) (PY j0) (pn j0) := ew0
    subst ew0
    by_cases hin8 : inP k x1
    · skip
      obtain ⟨j1, hj1, xe1, xi1⟩ := inP_nat hin8 (by omega)
      rw [xe1] at hl
      obtain ⟨a1, ⟨ad1, nn1, G1, wt1⟩, hf1, hpl1, en1, hn31, hn81, hG1, hst1, ew1, hRw1, hLt1, hpp1⟩ := hPL j1 hj1
      have en1 : nn1 = pn j1 := en1
      subst en1
      have ew1 : wt1 = wrt (pn j1) (PX j1) (PY j1) (pn j1) := ew1
      subst ew1
      have hP := vP_app hP (hE a0 _ hpl0)
      have hP := vP_app hP (hE a1 _ hpl1)
      have hP : va_P D vwCl [(h0, .inr (8, [.ref tx, .ref es, .ref i1, .ref i2, .ref wa, .ref ra, .int kp])), (es, .inr (2, [.ref ap, .ref ay, .int (nI k), .int lo])), (ap, .inl (cP, 6, .inr (.inr (.inr (.inr fp))))), (ay, .inl (cI, 6, .inl yr)), (a0, .inr (4, [.ref (ad 1), .ref (ad 2), .ref (ad 3), .ref (ad 4), .ref (ad 5)])), (ad 1, .inr (3, [.ref (ad 6), .ref (ad 7), .int (nI (pn j0))])), (ad 6, .inl (cI, (pn j0), .inl (G 0))), (ad 7, .inl (cI, (pn j0), .inl (G 1))), (ad 2, .inr (0, [.ref (ad 8), .int 0, .int 0, .int 0])), (ad 8, .inl (cB, ((wrt (pn j0) (PX j0) (PY j0) (pn j0)).length), .inl (G 2))), (ad 3, .inl (cI, 32, .inl (G 3))), (ad 4, .inl (cI, 32, .inl (G 4))), (ad 5, .inl (cI, 32, .inl (G 5))), (a1, .inr (4, [.ref (ad1 1), .ref (ad1 2), .ref (ad1 3), .ref (ad1 4), .ref (ad1 5)])), (ad1 1, .inr (3, [.ref (ad1 6), .ref (ad1 7), .int (nI (pn j1))])), (ad1 6, .inl (cI, (pn j1), .inl (G1 0))), (ad1 7, .inl (cI, (pn j1), .inl (G1 1))), (ad1 2, .inr (0, [.ref (ad1 8), .int 0, .int 0, .int 0])), (ad1 8, .inl (cB, ((wrt (pn j1) (PX j1) (PY j1) (pn j1)).length), .inl (G1 2))), (ad1 3, .inl (cI, 32, .inl (G1 3))), (ad1 4, .inl (cI, 32, .inl (G1 4))), (ad1 5, .inl (cI, 32, .inl (G1 5)))] s.heap := hP
      refine lv_aload_n hx hb dX6_common_0 rfl (lv_at hl 0 rfl) ?_
      refine va_get (D := D) (ci := 8) (v := .ref es) (C := RX6) (T := TX6) (N := 7) hx hb hts (by decide +kernel) hown hK hP 0 rfl rfl 1 (by decide) (hts (.fieldLink RX6 19 "LandDeeds" "estate" "LLandDeeds$Estate;") (by decide +kernel)) (fun _ h9 => h9) rfl dX6_common_1 ?_
      refine lv_iload_n hx hb dX6_common_4 rfl (lv_at hl 1 rfl) ?_
      have hPc := hP.sub (ws' := [(es, .inr (2, [.ref ap, .ref ay, .int (nI k), .int lo])), (ap, .inl (cP, 6, .inr (.inr (.inr (.inr fp)))))]) [1, 2] rfl
      refine u_callSr (W.runV (As := [.int (nI j0)]) (rest := []) ⟨hx, hb, hml, hown, hts⟩ (c_X0_plotAt l D cI cB cZ cP es ap ay k lo fp j0 a0 (hk) (hj0) (hf0)) (cwV 1 hts gX6_common_X0_plotAt rfl rfl rfl (by decide +kernel) ⟨Nat.le_of_ble_eq_true rfl, Nat.le_of_ble_eq_true rfl⟩) (pV (q0 := 0) hPc hW0 trivial rfl rfl) rfl rfl hl.1 rfl (lv_room (Nat.le_of_ble_eq_true rfl)) dX6_common_5 ⟨Nat.le_of_ble_eq_true rfl, Nat.le_of_ble_eq_true rfl⟩) ?_
      refine lv_astore (lv' := [(4, .ref a0), (0, .ref h0), (1, .int (nI j0)), (2, .int (nI j1)), (3, .int x)]) hx hb dX6_common_8 hl (by decide) rfl (fun ls hl => ?_)
      refine lv_aload_n hx hb dX6_common_10 rfl (lv_at hl 1 rfl) ?_
      refine va_get (D := D) (ci := 8) (v := .ref es) (C := RX6) (T := TX6) (N := 7) hx hb hts (by decide +kernel) hown hK hP 0 rfl rfl 1 (by decide) (hts (.fieldLink RX6 19 "LandDeeds" "estate" "LLandDeeds$Estate;") (by decide +kernel)) (fun _ h9 => h9) rfl dX6_common_11 ?_
      refine lv_iload_n hx hb dX6_common_14 rfl (lv_at hl 3 rfl) ?_
      have hPc := hP.sub (ws' := [(es, .inr (2, [.ref ap, .ref ay, .int (nI k), .int lo])), (ap, .inl (cP, 6, .inr (.inr (.inr (.inr fp)))))]) [1, 2] rfl
      refine u_callSr (W.runV (As := [.int (nI j1)]) (rest := []) ⟨hx, hb, hml, hown, hts⟩ (c_X0_plotAt l D cI cB cZ cP es ap ay k lo fp j1 a1 (hk) (hj1) (hf1)) (cwV 1 hts gX6_common_X0_plotAt rfl rfl rfl (by decide +kernel) ⟨Nat.le_of_ble_eq_true rfl, Nat.le_of_ble_eq_true rfl⟩) (pV (q0 := 0) hPc hW0 trivial rfl rfl) rfl rfl hl.1 rfl (lv_room (Nat.le_of_ble_eq_true rfl)) dX6_common_15 ⟨Nat.le_of_ble_eq_true rfl, Nat.le_of_ble_eq_true rfl⟩) ?_
      refine lv_astore (lv' := [(5, .ref a1), (4, .ref a0), (0, .ref h0), (1, .int (nI j0)), (2, .int (nI j1)), (3, .int x)]) hx hb dX6_common_18 hl (by decide) rfl (fun ls hl => ?_)
      refine lv_aload hx hb dX6_common_20 (lv_at hl 1 rfl) ?_
      refine lv_ifnull hx hb dX6_common_22 ?_
      refine lv_aload hx hb dX6_common_25 (lv_at hl 0 rfl) ?_
      refine lv_ifnonnull (tgt := 32) hx hb dX6_common_27 (by decide) ?_
      refine lv_iload_n hx hb dX6_common_32 rfl (lv_at hl 5 rfl) ?_
      by_cases c_1 : x = 0
      · skip
        refine lv_tableIn (off := 27) (tgt := 60) hx hb dX6_common_33 (by rw [c_1]; decide) (by rw [c_1]; decide) (by rw [c_1]; rfl) (by decide) ?_
        refine lv_aload hx hb dX6_common_60 (lv_at hl 1 rfl) ?_
        refine va_get (D := D) (ci := 4) (v := .ref (ad 3)) (C := RX2) (T := TX2) (N := 5) hx hb hts (by decide +kernel) hown hK hP 4 rfl rfl 2 (by decide) (hts (.fieldLink RX6 166 "LandDeeds$Plot" "inside" "[I") (by decide +kernel)) (fun _ h9 => h9) rfl dX6_common_62 ?_
        refine lv_aload hx hb dX6_common_65 (lv_at hl 0 rfl) ?_
        refine va_get (D := D) (ci := 4) (v := .ref (ad1 3)) (C := RX2) (T := TX2) (N := 5) hx hb hts (by decide +kernel) hown hK hP 13 rfl rfl 2 (by decide) (hts (.fieldLink RX6 166 "LandDeeds$Plot" "inside" "[I") (by decide +kernel)) (fun _ h9 => h9) rfl dX6_common_67 ?_
        have hPc := hP.sub (ws' := [(ad 3, .inl (cI, 32, .inl (G 3))), (ad1 3, .inl (cI, 32, .inl (G1 3)))]) [10, 19] rfl
        refine u_callSi (W.runS (As := [.ref (ad 3), .ref (ad1 3)]) (rest := []) ⟨hx, hb, hml, hown, hts⟩ (c_X6_howManyInBoth l D cI cB cZ cP (ad 3) (ad1 3) (G 3) (G1 3) ) (cwS 2 hts gX6_common_X6_howManyInBoth rfl rfl rfl (by decide +kernel) ⟨Nat.le_of_ble_eq_true rfl, Nat.le_of_ble_eq_true rfl⟩) (pS hPc hW0 trivial) rfl rfl hl.1 rfl (lv_room (Nat.le_of_ble_eq_true rfl)) dX6_common_70 ⟨Nat.le_of_ble_eq_true rfl, Nat.le_of_ble_eq_true rfl⟩) ?_
        rw [← hQ]
        exact W.iret (v := nI (cnt2 (fun y x => bit ((G 3) y) x ∧ bit ((G1 3) y) x) 32)) hx hb hr (fun t ht hW => ⟨_, rfl, (common_cls ⟨hin9, hin8⟩ xi0 xi1 hpp0 hpp1).1 c_1, ht⟩) (fun q h => absurd h List.not_mem_nil) dX6_common_73
      by_cases c_2 : x = 1
      · skip
        refine lv_tableIn (off := 41) (tgt := 74) hx hb dX6_common_33 (by rw [c_2]; decide) (by rw [c_2]; decide) (by rw [c_2]; rfl) (by decide) ?_
        refine lv_aload hx hb dX6_common_74 (lv_at hl 1 rfl) ?_
        refine va_get (D := D) (ci := 4) (v := .ref (ad 4)) (C := RX2) (T := TX2) (N := 5) hx hb hts (by decide +kernel) hown hK hP 4 rfl rfl 3 (by decide) (hts (.fieldLink RX6 160 "LandDeeds$Plot" "sides" "[I") (by decide +kernel)) (fun _ h9 => h9) rfl dX6_common_76 ?_
        refine lv_aload hx hb dX6_common_79 (lv_at hl 0 rfl) ?_
        refine va_get (D := D) (ci := 4) (v := .ref (ad1 4)) (C := RX2) (T := TX2) (N := 5) hx hb hts (by decide +kernel) hown hK hP 13 rfl rfl 3 (by decide) (hts (.fieldLink RX6 160 "LandDeeds$Plot" "sides" "[I") (by decide +kernel)) (fun _ h9 => h9) rfl dX6_common_81 ?_
        have hPc := hP.sub (ws' := [(ad 4, .inl (cI, 32, .inl (G 4))), (ad1 4, .inl (cI, 32, .inl (G1 4)))]) [11, 20] rfl
        refine u_callSi (W.runS (As := [.ref (ad 4), .ref (ad1 4)]) (rest := []) ⟨hx, hb, hml, hown, hts⟩ (c_X6_howManyInBoth l D cI cB cZ cP (ad 4) (ad1 4) (G 4) (G1 4) ) (cwS 2 hts gX6_common_X6_howManyInBoth rfl rfl rfl (by decide +kernel) ⟨Nat.le_of_ble_eq_true rfl, Nat.le_of_ble_eq_true rfl⟩) (pS hPc hW0 trivial) rfl rfl hl.1 rfl (lv_room (Nat.le_of_ble_eq_true rfl)) dX6_common_84 ⟨Nat.le_of_ble_eq_true rfl, Nat.le_of_ble_eq_true rfl⟩) ?_
        rw [← hQ]
        exact W.iret (v := nI (cnt2 (fun y x => bit ((G 4) y) x ∧ bit ((G1 4) y) x) 32)) hx hb hr (fun t ht hW => ⟨_, rfl, (common_cls ⟨hin9, hin8⟩ xi0 xi1 hpp0 hpp1).2.1 c_2, ht⟩) (fun q h => absurd h List.not_mem_nil) dX6_common_87
      by_cases c_3 : x = 2
      · skip
        refine lv_tableIn (off := 55) (tgt := 88) hx hb dX6_common_33 (by rw [c_3]; decide) (by rw [c_3]; decide) (by rw [c_3]; rfl) (by decide) ?_
        refine lv_aload hx hb dX6_common_88 (lv_at hl 1 rfl) ?_
        refine va_get (D := D) (ci := 4) (v := .ref (ad 5)) (C := RX2) (T := TX2) (N := 5) hx hb hts (by decide +kernel) hown hK hP 4 rfl rfl 4 (by decide) (hts (.fieldLink RX6 203 "LandDeeds$Plot" "held" "[I") (by decide +kernel)) (fun _ h9 => h9) rfl dX6_common_90 ?_
        refine lv_aload hx hb dX6_common_93 (lv_at hl 0 rfl) ?_
        refine va_get (D := D) (ci := 4) (v := .ref (ad1 5)) (C := RX2) (T := TX2) (N := 5) hx hb hts (by decide +kernel) hown hK hP 13 rfl rfl 4 (by decide) (hts (.fieldLink RX6 203 "LandDeeds$Plot" "held" "[I") (by decide +kernel)) (fun _ h9 => h9) rfl dX6_common_95 ?_
        have hPc := hP.sub (ws' := [(ad 5, .inl (cI, 32, .inl (G 5))), (ad1 5, .inl (cI, 32, .inl (G1 5)))]) [12, 21] rfl
        refine u_callSi (W.runS (As := [.ref (ad 5), .ref (ad1 5)]) (rest := []) ⟨hx, hb, hml, hown, hts⟩ (c_X6_howManyInBoth l D cI cB cZ cP (ad 5) (ad1 5) (G 5) (G1 5) ) (cwS 2 hts gX6_common_X6_howManyInBoth rfl rfl rfl (by decide +kernel) ⟨Nat.le_of_ble_eq_true rfl, Nat.le_of_ble_eq_true rfl⟩) (pS hPc hW0 trivial) rfl rfl hl.1 rfl (lv_room (Nat.le_of_ble_eq_true rfl)) dX6_common_98 ⟨Nat.le_of_ble_eq_true rfl, Nat.le_of_ble_eq_true rfl⟩) ?_
        rw [← hQ]
        exact W.iret (v := nI (cnt2 (fun y x => bit ((G 5) y) x ∧ bit ((G1 5) y) x) 32)) hx hb hr (fun t ht hW => ⟨_, rfl, (common_cls ⟨hin9, hin8⟩ xi0 xi1 hpp0 hpp1).2.2.1 c_3, ht⟩) (fun q h => absurd h List.not_mem_nil) dX6_common_101
      refine lv_tableOut (tgt := 102) hx hb dX6_common_33 (by have := u_sw3 ‹¬ x = 0› ‹¬ x = 1› ‹¬ x = 2›; omega) (by decide) ?_
      refine lv_bipush (v := (-2)) hx hb dX6_common_102 (by decide) ?_
      rw [← hQ]
      exact W.iret (v := (-2)) hx hb hr (fun t ht hW => ⟨_, rfl, (common_cls ⟨hin9, hin8⟩ xi0 xi1 hpp0 hpp1).2.2.2 c_1 c_2 c_3, ht⟩) (fun q h => absurd h List.not_mem_nil) dX6_common_104
    · skip
      have hP := vP_app hP (hE a0 _ hpl0)
      have hP : va_P D vwCl [(h0, .inr (8, [.ref tx, .ref es, .ref i1, .ref i2, .ref wa, .ref ra, .int kp])), (es, .inr (2, [.ref ap, .ref ay, .int (nI k), .int lo])), (ap, .inl (cP, 6, .inr (.inr (.inr (.inr fp))))), (ay, .inl (cI, 6, .inl yr)), (a0, .inr (4, [.ref (ad 1), .ref (ad 2), .ref (ad 3), .ref (ad 4), .ref (ad 5)])), (ad 1, .inr (3, [.ref (ad 6), .ref (ad 7), .int (nI (pn j0))])), (ad 6, .inl (cI, (pn j0), .inl (G 0))), (ad 7, .inl (cI, (pn j0), .inl (G 1))), (ad 2, .inr (0, [.ref (ad 8), .int 0, .int 0, .int 0])), (ad 8, .inl (cB, ((wrt (pn j0) (PX j0) (PY j0) (pn j0)).length), .inl (G 2))), (ad 3, .inl (cI, 32, .inl (G 3))), (ad 4, .inl (cI, 32, .inl (G 4))), (ad 5, .inl (cI, 32, .inl (G 5)))] s.heap := hP
      refine lv_aload_n hx hb dX6_common_0 rfl (lv_at hl 0 rfl) ?_
      refine va_get (D := D) (ci := 8) (v := .ref es) (C := RX6) (T := TX6) (N := 7) hx hb hts (by decide +kernel) hown hK hP 0 rfl rfl 1 (by decide) (hts (.fieldLink RX6 19 "LandDeeds" "estate" "LLandDeeds$Estate;") (by decide +kernel)) (fun _ h9 => h9) rfl dX6_common_1 ?_
      refine lv_iload_n hx hb dX6_common_4 rfl (lv_at hl 1 rfl) ?_
      have hPc := hP.sub (ws' := [(es, .inr (2, [.ref ap, .ref ay, .int (nI k), .int lo])), (ap, .inl (cP, 6, .inr (.inr (.inr (.inr fp)))))]) [1, 2] rfl
      refine u_callSr (W.runV (As := [.int (nI j0)]) (rest := []) ⟨hx, hb, hml, hown, hts⟩ (c_X0_plotAt l D cI cB cZ cP es ap ay k lo fp j0 a0 (hk) (hj0) (hf0)) (cwV 1 hts gX6_common_X0_plotAt rfl rfl rfl (by decide +kernel) ⟨Nat.le_of_ble_eq_true rfl, Nat.le_of_ble_eq_true rfl⟩) (pV (q0 := 0) hPc hW0 trivial rfl rfl) rfl rfl hl.1 rfl (lv_room (Nat.le_of_ble_eq_true rfl)) dX6_common_5 ⟨Nat.le_of_ble_eq_true rfl, Nat.le_of_ble_eq_true rfl⟩) ?_
      refine lv_astore (lv' := [(4, .ref a0), (0, .ref h0), (1, .int (nI j0)), (2, .int x1), (3, .int x)]) hx hb dX6_common_8 hl (by decide) rfl (fun ls hl => ?_)
      refine lv_aload_n hx hb dX6_common_10 rfl (lv_at hl 1 rfl) ?_
      refine va_get (D := D) (ci := 8) (v := .ref es) (C := RX6) (T := TX6) (N := 7) hx hb hts (by decide +kernel) hown hK hP 0 rfl rfl 1 (by decide) (hts (.fieldLink RX6 19 "LandDeeds" "estate" "LLandDeeds$Estate;") (by decide +kernel)) (fun _ h9 => h9) rfl dX6_common_11 ?_
      refine lv_iload_n hx hb dX6_common_14 rfl (lv_at hl 3 rfl) ?_
      have hPc := hP.sub (ws' := [(es, .inr (2, [.ref ap, .ref ay, .int (nI k), .int lo])), (ap, .inl (cP, 6, .inr (.inr (.inr (.inr fp)))))]) [1, 2] rfl
      refine u_callSn (W.runV (As := [.int x1]) (rest := []) ⟨hx, hb, hml, hown, hts⟩ (c_X0_plotAt_no l D cI cB cZ cP es ap ay k lo fp x1 (hk) (hin8)) (cwV 1 hts gX6_common_X0_plotAt rfl rfl rfl (by decide +kernel) ⟨Nat.le_of_ble_eq_true rfl, Nat.le_of_ble_eq_true rfl⟩) (pV (q0 := 0) hPc hW0 trivial rfl rfl) rfl rfl hl.1 rfl (lv_room (Nat.le_of_ble_eq_true rfl)) dX6_common_15 ⟨Nat.le_of_ble_eq_true rfl, Nat.le_of_ble_eq_true rfl⟩) ?_
      refine lv_astoreN (lv' := [(5, .null), (4, .ref a0), (0, .ref h0), (1, .int (nI j0)), (2, .int x1), (3, .int x)]) hx hb dX6_common_18 hl (by decide) rfl (fun ls hl => ?_)
      refine lv_aload hx hb dX6_common_20 (lv_at hl 1 rfl) ?_
      refine lv_ifnull hx hb dX6_common_22 ?_
      refine lv_aloadN hx hb dX6_common_25 (lv_at hl 0 rfl) ?_
      refine lv_ifnonnullN hx hb dX6_common_27 ?_
      refine lv_iconst (v := (-1)) hx hb dX6_common_30 (by decide) ?_
      rw [← hQ]
      exact W.iret (v := (-1)) hx hb hr (fun t ht hW => ⟨_, rfl, (cif_f (fun q => hin8 q.2)).symm, ht⟩) (fun q h => absurd h List.not_mem_nil) dX6_common_31
  · skip
    by_cases hin8 : inP k x1
    · skip
      obtain ⟨j1, hj1, xe1, xi1⟩ := inP_nat hin8 (by omega)
      rw [xe1] at hl
      obtain ⟨a1, ⟨ad1, nn1, G1, wt1⟩, hf1, hpl1, en1, hn31, hn81, hG1, hst1, ew1, hRw1, hLt1, hpp1⟩ := hPL j1 hj1
      have en1 : nn1 = pn j1 := en1
      subst en1
      have ew1 : wt1 = wrt (pn j1) (PX j1) (PY j1) (pn j1) := ew1
      subst ew1
      have hP := vP_app hP (hE a1 _ hpl1)
      have hP : va_P D vwCl [(h0, .inr (8, [.ref tx, .ref es, .ref i1, .ref i2, .ref wa, .ref ra, .int kp])), (es, .inr (2, [.ref ap, .ref ay, .int (nI k), .int lo])), (ap, .inl (cP, 6, .inr (.inr (.inr (.inr fp))))), (ay, .inl (cI, 6, .inl yr)), (a1, .inr (4, [.ref (ad1 1), .ref (ad1 2), .ref (ad1 3), .ref (ad1 4), .ref (ad1 5)])), (ad1 1, .inr (3, [.ref (ad1 6), .ref (ad1 7), .int (nI (pn j1))])), (ad1 6, .inl (cI, (pn j1), .inl (G1 0))), (ad1 7, .inl (cI, (pn j1), .inl (G1 1))), (ad1 2, .inr (0, [.ref (ad1 8), .int 0, .int 0, .int 0])), (ad1 8, .inl (cB, ((wrt (pn j1) (PX j1) (PY j1) (pn j1)).length), .inl (G1 2))), (ad1 3, .inl (cI, 32, .inl (G1 3))), (ad1 4, .inl (cI, 32, .inl (G1 4))), (ad1 5, .inl (cI, 32, .inl (G1 5)))] s.heap := hP
      refine lv_aload_n hx hb dX6_common_0 rfl (lv_at hl 0 rfl) ?_
      refine va_get (D := D) (ci := 8) (v := .ref es) (C := RX6) (T := TX6) (N := 7) hx hb hts (by decide +kernel) hown hK hP 0 rfl rfl 1 (by decide) (hts (.fieldLink RX6 19 "LandDeeds" "estate" "LLandDeeds$Estate;") (by decide +kernel)) (fun _ h9 => h9) rfl dX6_common_1 ?_
      refine lv_iload_n hx hb dX6_common_4 rfl (lv_at hl 1 rfl) ?_
      have hPc := hP.sub (ws' := [(es, .inr (2, [.ref ap, .ref ay, .int (nI k), .int lo])), (ap, .inl (cP, 6, .inr (.inr (.inr (.inr fp)))))]) [1, 2] rfl
      refine u_callSn (W.runV (As := [.int x0]) (rest := []) ⟨hx, hb, hml, hown, hts⟩ (c_X0_plotAt_no l D cI cB cZ cP es ap ay k lo fp x0 (hk) (hin9)) (cwV 1 hts gX6_common_X0_plotAt rfl rfl rfl (by decide +kernel) ⟨Nat.le_of_ble_eq_true rfl, Nat.le_of_ble_eq_true rfl⟩) (pV (q0 := 0) hPc hW0 trivial rfl rfl) rfl rfl hl.1 rfl (lv_room (Nat.le_of_ble_eq_true rfl)) dX6_common_5 ⟨Nat.le_of_ble_eq_true rfl, Nat.le_of_ble_eq_true rfl⟩) ?_
      refine lv_astoreN (lv' := [(4, .null), (0, .ref h0), (1, .int x0), (2, .int (nI j1)), (3, .int x)]) hx hb dX6_common_8 hl (by decide) rfl (fun ls hl => ?_)
      refine lv_aload_n hx hb dX6_common_10 rfl (lv_at hl 1 rfl) ?_
      refine va_get (D := D) (ci := 8) (v := .ref es) (C := RX6) (T := TX6) (N := 7) hx hb hts (by decide +kernel) hown hK hP 0 rfl rfl 1 (by decide) (hts (.fieldLink RX6 19 "LandDeeds" "estate" "LLandDeeds$Estate;") (by decide +kernel)) (fun _ h9 => h9) rfl dX6_common_11 ?_
      refine lv_iload_n hx hb dX6_common_14 rfl (lv_at hl 3 rfl) ?_
      have hPc := hP.sub (ws' := [(es, .inr (2, [.ref ap, .ref ay, .int (nI k), .int lo])), (ap, .inl (cP, 6, .inr (.inr (.inr (.inr fp)))))]) [1, 2] rfl
      refine u_callSr (W.runV (As := [.int (nI j1)]) (rest := []) ⟨hx, hb, hml, hown, hts⟩ (c_X0_plotAt l D cI cB cZ cP es ap ay k lo fp j1 a1 (hk) (hj1) (hf1)) (cwV 1 hts gX6_common_X0_plotAt rfl rfl rfl (by decide +kernel) ⟨Nat.le_of_ble_eq_true rfl, Nat.le_of_ble_eq_true rfl⟩) (pV (q0 := 0) hPc hW0 trivial rfl rfl) rfl rfl hl.1 rfl (lv_room (Nat.le_of_ble_eq_true rfl)) dX6_common_15 ⟨Nat.le_of_ble_eq_true rfl, Nat.le_of_ble_eq_true rfl⟩) ?_
      refine lv_astore (lv' := [(5, .ref a1), (4, .null), (0, .ref h0), (1, .int x0), (2, .int (nI j1)), (3, .int x)]) hx hb dX6_common_18 hl (by decide) rfl (fun ls hl => ?_)
      refine lv_aloadN hx hb dX6_common_20 (lv_at hl 1 rfl) ?_
      refine lv_ifnullN (tgt := 30) hx hb dX6_common_22 (by decide) ?_
      refine lv_iconst (v := (-1)) hx hb dX6_common_30 (by decide) ?_
      rw [← hQ]
      exact W.iret (v := (-1)) hx hb hr (fun t ht hW => ⟨_, rfl, (cif_f (fun q => hin9 q.1)).symm, ht⟩) (fun q h => absurd h List.not_mem_nil) dX6_common_31
    · skip
      refine lv_aload_n hx hb dX6_common_0 rfl (lv_at hl 0 rfl) ?_
      refine va_get (D := D) (ci := 8) (v := .ref es) (C := RX6) (T := TX6) (N := 7) hx hb hts (by decide +kernel) hown hK hP 0 rfl rfl 1 (by decide) (hts (.fieldLink RX6 19 "LandDeeds" "estate" "LLandDeeds$Estate;") (by decide +kernel)) (fun _ h9 => h9) rfl dX6_common_1 ?_
      refine lv_iload_n hx hb dX6_common_4 rfl (lv_at hl 1 rfl) ?_
      have hPc := hP.sub (ws' := [(es, .inr (2, [.ref ap, .ref ay, .int (nI k), .int lo])), (ap, .inl (cP, 6, .inr (.inr (.inr (.inr fp)))))]) [1, 2] rfl
      refine u_callSn (W.runV (As := [.int x0]) (rest := []) ⟨hx, hb, hml, hown, hts⟩ (c_X0_plotAt_no l D cI cB cZ cP es ap ay k lo fp x0 (hk) (hin9)) (cwV 1 hts gX6_common_X0_plotAt rfl rfl rfl (by decide +kernel) ⟨Nat.le_of_ble_eq_true rfl, Nat.le_of_ble_eq_true rfl⟩) (pV (q0 := 0) hPc hW0 trivial rfl rfl) rfl rfl hl.1 rfl (lv_room (Nat.le_of_ble_eq_true rfl)) dX6_common_5 ⟨Nat.le_of_ble_eq_true rfl, Nat.le_of_ble_eq_true rfl⟩) ?_
      refine lv_astoreN (lv' := [(4, .null), (0, .ref h0), (1, .int x0), (2, .int x1), (3, .int x)]) hx hb dX6_common_8 hl (by decide) rfl (fun ls hl => ?_)
      refine lv_aload_n hx hb dX6_common_10 rfl (lv_at hl 1 rfl) ?_
      refine va_get (D := D) (ci := 8) (v := .ref es) (C := RX6) (T := TX6) (N := 7) hx hb hts (by decide +kernel) hown hK hP 0 rfl rfl 1 (by decide) (hts (.fieldLink RX6 19 "LandDeeds" "estate" "LLandDeeds$Estate;") (by decide +kernel)) (fun _ h9 => h9) rfl dX6_common_11 ?_
      refine lv_iload_n hx hb dX6_common_14 rfl (lv_at hl 3 rfl) ?_
      have hPc := hP.sub (ws' := [(es, .inr (2, [.ref ap, .ref ay, .int (nI k), .int lo])), (ap, .inl (cP, 6, .inr (.inr (.inr (.inr fp)))))]) [1, 2] rfl
      refine u_callSn (W.runV (As := [.int x1]) (rest := []) ⟨hx, hb, hml, hown, hts⟩ (c_X0_plotAt_no l D cI cB cZ cP es ap ay k lo fp x1 (hk) (hin8)) (cwV 1 hts gX6_common_X0_plotAt rfl rfl rfl (by decide +kernel) ⟨Nat.le_of_ble_eq_true rfl, Nat.le_of_ble_eq_true rfl⟩) (pV (q0 := 0) hPc hW0 trivial rfl rfl) rfl rfl hl.1 rfl (lv_room (Nat.le_of_ble_eq_true rfl)) dX6_common_15 ⟨Nat.le_of_ble_eq_true rfl, Nat.le_of_ble_eq_true rfl⟩) ?_
      refine lv_astoreN (lv' := [(5, .null), (4, .null), (0, .ref h0), (1, .int x0), (2, .int x1), (3, .int x)]) hx hb dX6_common_18 hl (by decide) rfl (fun ls hl => ?_)
      refine lv_aloadN hx hb dX6_common_20 (lv_at hl 1 rfl) ?_
      refine lv_ifnullN (tgt := 30) hx hb dX6_common_22 (by decide) ?_
      refine lv_iconst (v := (-1)) hx hb dX6_common_30 (by decide) ?_
      rw [← hQ]
      exact W.iret (v := (-1)) hx hb hr (fun t ht hW => ⟨_, rfl, (cif_f (fun q => hin9 q.1)).symm, ht⟩) (fun q h => absurd h List.not_mem_nil) dX6_common_31

set_option maxHeartbeats 4000000 in
set_option maxRecDepth 100000 in
theorem c_X6_right (l : Launch) (D : va_G) (cI cB cZ cP : ClassId) (h0 tx es i1 i2 wa ra : Nat) (kp : Int32) (ap ay k : Nat) (lo : Int32) (fp : Nat → Option Nat) (yr : Nat → Int32) (Pl : Nat → Option PD) (pn : PN) (PX PY : PF) (x y : Int32) (hk : k ≤ 6) (hPL : PLok Pl fp k pn PX PY) (hyr : ∀ z, z < k → 1 ≤ (yr z).toInt ∧ (yr z).toInt ≤ 999) : Met l yX6_right wsX6_right ({ frames := 4, cells := 0, slots := 0, locals := 89 } : Room) (va_Pc [.ref h0, .int x, .int y] (fun U => va_P D vwCl [(h0, .inr (8, [.ref tx, .ref es, .ref i1, .ref i2, .ref wa, .ref ra, .int kp])), (es, .inr (2, [.ref ap, .ref ay, .int (nI k), .int lo])), (ap, .inl (cP, 6, .inr (.inr (.inr (.inr fp))))), (ay, .inl (cI, 6, .inl yr))] U.heap ∧ KW D cI cB cZ cP U ∧ (PLA D cI cB Pl) U.heap)) (vp_Si (fun r => r = aRight k pn PX PY yr x y)) 0 0 (fun _ => False) := by
  refine Met.ofW (cc := cX6_right) (maxL := 3) (ret := (some .int)) (by decide) rfl ?_
  intro p e s m args below meth c s₁ B hml hv
  obtain ⟨rfl, hP, hW0, hE⟩ := hv
  have hx := B.exec
  have hb := B.bytes
  have hr := B.returns
  have hts := atoms_spec (ws := wsX6_right) B.pre
  have hown : s.vm.findClass RX6 = some m.cls := findClass_of_methodNamed B.named
  have hlocks := B.notSynchronized
  have hK := hW0.1
  have hl := lv_entry ([.ref h0, .int x, .int y]) (n := 3) (Nat.le_of_ble_eq_true rfl)
  rw [lg_entry_eq]
  generalize (lg_sl ([.ref h0, .int x, .int y]) ++ List.replicate (3 - (lg_sl ([.ref h0, .int x, .int y])).length) Slot.unset).toArray = ls at hl ⊢
  have hl : lv_has ls 3 [(0, .ref h0), (1, .int x), (2, .int y)] := hl
  show W p l e ({ frames := 4, cells := 0, slots := 0, locals := 89 } : Room) s m ([.ref h0, .int x, .int y] : List Value).toArray below meth c s.heap [] 0 0 _ (F0 m 0 ls [])
  refine u_genQ (fun Q hQ => ?_)
  refine lv_iload_n hx hb dX6_right_0 rfl (lv_at hl 1 rfl) ?_
  refine lv_iload_n hx hb dX6_right_1 rfl (lv_at hl 2 rfl) ?_
  have hPc := hP.sub (ws' := []) [] rfl
  refine u_callSi (W.runS (As := [.int x, .int y]) (rest := []) ⟨hx, hb, hml, hown, hts⟩ (c_X6_isPost l D cI cB cZ cP x y ) (cwS 2 hts gX6_right_X6_isPost rfl rfl rfl (by decide +kernel) ⟨Nat.le_of_ble_eq_true rfl, Nat.le_of_ble_eq_true rfl⟩) (pS hPc hW0 trivial) rfl rfl hl.1 rfl (lv_room (Nat.le_of_ble_eq_true rfl)) dX6_right_2 ⟨Nat.le_of_ble_eq_true rfl, Nat.le_of_ble_eq_true rfl⟩) ?_
  refine lv_if_ne (tgt := 11) hx hb dX6_right_5 (by decide) (fun c_1 => ?_) (fun c_1 => ?_)
  · skip
    have nc_1 := zb_ne0.mp c_1
    have hpi := nc_1
    obtain ⟨xx, hxx, exx⟩ := isP_x nc_1
    obtain ⟨yy, hyy, eyy⟩ := isP_y nc_1
    rw [exx, eyy] at hl
    refine lv_aload_n hx hb dX6_right_11 rfl (lv_at hl 0 rfl) ?_
    refine va_get (D := D) (ci := 8) (v := .ref es) (C := RX6) (T := TX6) (N := 7) hx hb hts (by decide +kernel) hown hK hP 0 rfl rfl 1 (by decide) (hts (.fieldLink RX6 19 "LandDeeds" "estate" "LLandDeeds$Estate;") (by decide +kernel)) (fun _ h9 => h9) rfl dX6_right_12 ?_
    refine lv_iload_n hx hb dX6_right_15 rfl (lv_at hl 1 rfl) ?_
    refine lv_iload_n hx hb dX6_right_16 rfl (lv_at hl 2 rfl) ?_
    have hPc := hP.sub (ws' := [(es, .inr (2, [.ref ap, .ref ay, .int (nI k), .int lo])), (ap, .inl (cP, 6, .inr (.inr (.inr (.inr fp))))), (ay, .inl (cI, 6, .inl yr))]) [1, 2, 3] rfl
    refine u_callSi (W.runV (As := [.int (nI xx), .int (nI yy)]) (rest := []) ⟨hx, hb, hml, hown, hts⟩ (c_X0_oldestThatHolds l D cI cB cZ cP es ap ay k lo fp (hdP Pl fp) yr xx yy (hk) (hyr) (hxx) (hyy)) (cwV 2 hts gX6_right_X0_oldestThatHolds rfl rfl rfl (by decide +kernel) ⟨Nat.le_of_ble_eq_true rfl, Nat.le_of_ble_eq_true rfl⟩) (pV (q0 := 0) hPc hW0 (PO_of hPL hE) rfl rfl) rfl rfl hl.1 rfl (lv_room (Nat.le_of_ble_eq_true rfl)) dX6_right_17 ⟨Nat.le_of_ble_eq_true rfl, Nat.le_of_ble_eq_true rfl⟩) ?_
    rw [← hQ]
    exact W.iret (v := oI (own (fun z => bit ((hdP Pl fp) z yy) xx) yr k)) hx hb hr (fun t ht hW => ⟨_, rfl, right_cls hPL hpi exx eyy hxx hyy, ht⟩) (fun q h => absurd h List.not_mem_nil) dX6_right_20
  · skip
    have nc_1 := zb_eq0.mp c_1
    have hpi := nc_1
    refine lv_bipush (v := (-2)) hx hb dX6_right_8 (by decide) ?_
    rw [← hQ]
    exact W.iret (v := (-2)) hx hb hr (fun t ht hW => ⟨_, rfl, (cif_f hpi).symm, ht⟩) (fun q h => absurd h List.not_mem_nil) dX6_right_10

set_option maxHeartbeats 4000000 in
set_option maxRecDepth 100000 in
theorem c_X6_count (l : Launch) (D : va_G) (cI cB cZ cP : ClassId) (h0 tx es i1 i2 wa ra : Nat) (kp : Int32) (ap ay k : Nat) (lo : Int32) (fp : Nat → Option Nat) (yr : Nat → Int32) (Pl : Nat → Option PD) (pn : PN) (PX PY : PF) (as ae an : Nat) (sg nc pt tw nm x : Int32) (hk : k ≤ 6) (hPL : PLok Pl fp k pn PX PY) : Met l yX6_count wsX6_count ({ frames := 4, cells := 0, slots := 0, locals := 91 } : Room) (va_Pc [.ref h0, .int x] (fun U => va_P D vwCl [(h0, .inr (8, [.ref tx, .ref es, .ref i1, .ref i2, .ref wa, .ref ra, .int kp])), (tx, .inr (6, [.ref as, .ref ae, .ref an, .int sg, .int nc, .int pt, .int tw, .int nm])), (es, .inr (2, [.ref ap, .ref ay, .int (nI k), .int lo])), (ap, .inl (cP, 6, .inr (.inr (.inr (.inr fp))))), (ay, .inl (cI, 6, .inl yr))] U.heap ∧ KW D cI cB cZ cP U ∧ (PLA D cI cB Pl) U.heap)) (vp_Si (fun r => r = cif (x = 0) (nI k) (cif (x = 1) sg (cif (x = 2) lo (cif (x = 3) (aMore k pn PX PY) (cif (x = 4) kp (-2))))))) 0 0 (fun _ => False) := by
  refine Met.ofW (cc := cX6_count) (maxL := 2) (ret := (some .int)) (by decide) rfl ?_
  intro p e s m args below meth c s₁ B hml hv
  obtain ⟨rfl, hP, hW0, hE⟩ := hv
  have hx := B.exec
  have hb := B.bytes
  have hr := B.returns
  have hts := atoms_spec (ws := wsX6_count) B.pre
  have hown : s.vm.findClass RX6 = some m.cls := findClass_of_methodNamed B.named
  have hlocks := B.notSynchronized
  have hK := hW0.1
  have hl := lv_entry ([.ref h0, .int x]) (n := 2) (Nat.le_of_ble_eq_true rfl)
  rw [lg_entry_eq]
  generalize (lg_sl ([.ref h0, .int x]) ++ List.replicate (2 - (lg_sl ([.ref h0, .int x])).length) Slot.unset).toArray = ls at hl ⊢
  have hl : lv_has ls 2 [(0, .ref h0), (1, .int x)] := hl
  show W p l e ({ frames := 4, cells := 0, slots := 0, locals := 91 } : Room) s m ([.ref h0, .int x] : List Value).toArray below meth c s.heap [] 0 0 _ (F0 m 0 ls [])
  refine u_genQ (fun Q hQ => ?_)
  refine lv_iload_n hx hb dX6_count_0 rfl (lv_at hl 1 rfl) ?_
  by_cases c_1 : x = 0
  · skip
    refine lv_tableIn (off := 35) (tgt := 36) hx hb dX6_count_1 (by rw [c_1]; decide) (by rw [c_1]; decide) (by rw [c_1]; rfl) (by decide) ?_
    refine lv_aload_n hx hb dX6_count_36 rfl (lv_at hl 0 rfl) ?_
    refine va_get (D := D) (ci := 8) (v := .ref es) (C := RX6) (T := TX6) (N := 7) hx hb hts (by decide +kernel) hown hK hP 0 rfl rfl 1 (by decide) (hts (.fieldLink RX6 19 "LandDeeds" "estate" "LLandDeeds$Estate;") (by decide +kernel)) (fun _ h9 => h9) rfl dX6_count_37 ?_
    refine va_get (D := D) (ci := 2) (v := .int (nI k)) (C := RX0) (T := TX0) (N := 4) hx hb hts (by decide +kernel) hown hK hP 2 rfl rfl 2 (by decide) (hts (.fieldLink RX6 98 "LandDeeds$Estate" "size" "I") (by decide +kernel)) (fun _ h9 => h9) rfl dX6_count_40 ?_
    rw [← hQ]
    exact W.iret (v := nI k) hx hb hr (fun t ht hW => ⟨_, rfl, (cif_t c_1).symm, ht⟩) (fun q h => absurd h List.not_mem_nil) dX6_count_43
  by_cases c_2 : x = 1
  · skip
    refine lv_tableIn (off := 43) (tgt := 44) hx hb dX6_count_1 (by rw [c_2]; decide) (by rw [c_2]; decide) (by rw [c_2]; rfl) (by decide) ?_
    refine lv_aload_n hx hb dX6_count_44 rfl (lv_at hl 0 rfl) ?_
    refine va_get (D := D) (ci := 8) (v := .ref tx) (C := RX6) (T := TX6) (N := 7) hx hb hts (by decide +kernel) hown hK hP 0 rfl rfl 0 (by decide) (hts (.fieldLink RX6 10 "LandDeeds" "text" "LLandDeeds$Text;") (by decide +kernel)) (fun _ h9 => h9) rfl dX6_count_45 ?_
    refine va_get (D := D) (ci := 6) (v := .int sg) (C := RX4) (T := TX4) (N := 8) hx hb hts (by decide +kernel) hown hK hP 1 rfl rfl 3 (by decide) (hts (.fieldLink RX6 51 "LandDeeds$Text" "length" "I") (by decide +kernel)) (fun _ h9 => h9) rfl dX6_count_48 ?_
    rw [← hQ]
    exact W.iret (v := sg) hx hb hr (fun t ht hW => ⟨_, rfl, ((cif_f c_1).trans (cif_t c_2)).symm, ht⟩) (fun q h => absurd h List.not_mem_nil) dX6_count_51
  by_cases c_3 : x = 2
  · skip
    refine lv_tableIn (off := 51) (tgt := 52) hx hb dX6_count_1 (by rw [c_3]; decide) (by rw [c_3]; decide) (by rw [c_3]; rfl) (by decide) ?_
    refine lv_aload_n hx hb dX6_count_52 rfl (lv_at hl 0 rfl) ?_
    refine va_get (D := D) (ci := 8) (v := .ref es) (C := RX6) (T := TX6) (N := 7) hx hb hts (by decide +kernel) hown hK hP 0 rfl rfl 1 (by decide) (hts (.fieldLink RX6 19 "LandDeeds" "estate" "LLandDeeds$Estate;") (by decide +kernel)) (fun _ h9 => h9) rfl dX6_count_53 ?_
    refine va_get (D := D) (ci := 2) (v := .int lo) (C := RX0) (T := TX0) (N := 4) hx hb hts (by decide +kernel) hown hK hP 2 rfl rfl 3 (by decide) (hts (.fieldLink RX6 43 "LandDeeds$Estate" "loose" "I") (by decide +kernel)) (fun _ h9 => h9) rfl dX6_count_56 ?_
    rw [← hQ]
    exact W.iret (v := lo) hx hb hr (fun t ht hW => ⟨_, rfl, ((cif_f c_1).trans ((cif_f c_2).trans (cif_t c_3))).symm, ht⟩) (fun q h => absurd h List.not_mem_nil) dX6_count_59
  by_cases c_4 : x = 3
  · skip
    refine lv_tableIn (off := 59) (tgt := 60) hx hb dX6_count_1 (by rw [c_4]; decide) (by rw [c_4]; decide) (by rw [c_4]; rfl) (by decide) ?_
    refine lv_aload_n hx hb dX6_count_60 rfl (lv_at hl 0 rfl) ?_
    refine va_get (D := D) (ci := 8) (v := .ref es) (C := RX6) (T := TX6) (N := 7) hx hb hts (by decide +kernel) hown hK hP 0 rfl rfl 1 (by decide) (hts (.fieldLink RX6 19 "LandDeeds" "estate" "LLandDeeds$Estate;") (by decide +kernel)) (fun _ h9 => h9) rfl dX6_count_61 ?_
    have hPc := hP.sub (ws' := [(es, .inr (2, [.ref ap, .ref ay, .int (nI k), .int lo])), (ap, .inl (cP, 6, .inr (.inr (.inr (.inr fp)))))]) [2, 3] rfl
    refine u_callSi (W.runV (As := []) (rest := []) ⟨hx, hb, hml, hown, hts⟩ (c_X0_howManyDisputed l D cI cB cZ cP es ap ay k lo fp (hdP Pl fp) (hk)) (cwV 0 hts gX6_count_X0_howManyDisputed rfl rfl rfl (by decide +kernel) ⟨Nat.le_of_ble_eq_true rfl, Nat.le_of_ble_eq_true rfl⟩) (pV (q0 := 0) hPc hW0 (PO_of hPL hE) rfl rfl) rfl rfl hl.1 rfl (lv_room (Nat.le_of_ble_eq_true rfl)) dX6_count_64 ⟨Nat.le_of_ble_eq_true rfl, Nat.le_of_ble_eq_true rfl⟩) ?_
    rw [← hQ]
    exact W.iret (v := nI (cnt2 (fun y x => bit (ags (fun z => (hdP Pl fp) z y) k) x) 32)) hx hb hr (fun t ht hW => ⟨_, rfl, (more_cls hPL).trans ((cif_f c_1).trans ((cif_f c_2).trans ((cif_f c_3).trans (cif_t c_4)))).symm, ht⟩) (fun q h => absurd h List.not_mem_nil) dX6_count_67
  by_cases c_5 : x = 4
  · skip
    refine lv_tableIn (off := 67) (tgt := 68) hx hb dX6_count_1 (by rw [c_5]; decide) (by rw [c_5]; decide) (by rw [c_5]; rfl) (by decide) ?_
    refine lv_aload_n hx hb dX6_count_68 rfl (lv_at hl 0 rfl) ?_
    refine va_get (D := D) (ci := 8) (v := .int kp) (C := RX6) (T := TX6) (N := 7) hx hb hts (by decide +kernel) hown hK hP 0 rfl rfl 6 (by decide) (hts (.fieldLink RX6 232 "LandDeeds" "keptImages" "I") (by decide +kernel)) (fun _ h9 => h9) rfl dX6_count_69 ?_
    rw [← hQ]
    exact W.iret (v := kp) hx hb hr (fun t ht hW => ⟨_, rfl, ((cif_f c_1).trans ((cif_f c_2).trans ((cif_f c_3).trans ((cif_f c_4).trans (cif_t c_5))))).symm, ht⟩) (fun q h => absurd h List.not_mem_nil) dX6_count_72
  refine lv_tableOut (tgt := 73) hx hb dX6_count_1 (by have := u_sw5 ‹¬ x = 0› ‹¬ x = 1› ‹¬ x = 2› ‹¬ x = 3› ‹¬ x = 4›; omega) (by decide) ?_
  refine lv_bipush (v := (-2)) hx hb dX6_count_73 (by decide) ?_
  rw [← hQ]
  exact W.iret (v := (-2)) hx hb hr (fun t ht hW => ⟨_, rfl, ((cif_f c_1).trans ((cif_f c_2).trans ((cif_f c_3).trans ((cif_f c_4).trans (cif_f c_5))))).symm, ht⟩) (fun q h => absurd h List.not_mem_nil) dX6_count_75

set_option maxHeartbeats 4000000 in
set_option maxRecDepth 100000 in
theorem c_X6_year (l : Launch) (D : va_G) (cI cB cZ cP : ClassId) (sz : Nat) (h0 tx es i1 i2 wa ra : Nat) (kp : Int32) (ap ay k : Nat) (lo : Int32) (yr : Nat → Int32) (x0 y : Int32) (hk : k ≤ 6) (hyr : ∀ z, z < k → 1 ≤ (yr z).toInt ∧ (yr z).toInt ≤ 999) : Met l yX6_year wsX6_year ({ frames := 4, cells := 0, slots := 0, locals := 88 } : Room) (va_Pc [.ref h0, .int x0, .int y] (fun U => U.heap.size = sz ∧ va_P D vwCl [(h0, .inr (8, [.ref tx, .ref es, .ref i1, .ref i2, .ref wa, .ref ra, .int kp])), (es, .inr (2, [.ref ap, .ref ay, .int (nI k), .int lo])), (ay, .inl (cI, 6, .inl yr))] U.heap ∧ KW D cI cB cZ cP U ∧ va_D (fun _ => True) [(h0, .inr (8, [.ref tx, .ref es, .ref i1, .ref i2, .ref wa, .ref ra, .int kp])), (es, .inr (2, [.ref ap, .ref ay, .int (nI k), .int lo])), (ay, .inl (cI, 6, .inl yr))] ∧ EF [(h0, .inr (8, [.ref tx, .ref es, .ref i1, .ref i2, .ref wa, .ref ra, .int kp])), (es, .inr (2, [.ref ap, .ref ay, .int (nI k), .int lo])), (ay, .inl (cI, 6, .inl yr))] sz E0 U.heap)) (va_Qi (fun r (yr1 : Nat → Int32) => r = aYear k yr x0 y ∧ yr1 = cif (inP k x0 ∧ 1 ≤ y.toInt ∧ y.toInt ≤ 999) (upd yr (ix x0) y) yr) (fun (yr1 : Nat → Int32) (t : State) => va_P D vwCl [(h0, .inr (8, [.ref tx, .ref es, .ref i1, .ref i2, .ref wa, .ref ra, .int kp])), (es, .inr (2, [.ref ap, .ref ay, .int (nI k), .int lo])), (ay, .inl (cI, 6, .inl yr1))] t.heap ∧ va_D (va_A [(h0, .inr (8, [.ref tx, .ref es, .ref i1, .ref i2, .ref wa, .ref ra, .int kp])), (es, .inr (2, [.ref ap, .ref ay, .int (nI k), .int lo])), (ay, .inl (cI, 6, .inl yr))] sz) [(h0, .inr (8, [.ref tx, .ref es, .ref i1, .ref i2, .ref wa, .ref ra, .int kp])), (es, .inr (2, [.ref ap, .ref ay, .int (nI k), .int lo])), (ay, .inl (cI, 6, .inl yr1))]) (va_A [(h0, .inr (8, [.ref tx, .ref es, .ref i1, .ref i2, .ref wa, .ref ra, .int kp])), (es, .inr (2, [.ref ap, .ref ay, .int (nI k), .int lo])), (ay, .inl (cI, 6, .inl yr))] sz)) 0 0 (va_A [(h0, .inr (8, [.ref tx, .ref es, .ref i1, .ref i2, .ref wa, .ref ra, .int kp])), (es, .inr (2, [.ref ap, .ref ay, .int (nI k), .int lo])), (ay, .inl (cI, 6, .inl yr))] sz) := by
  refine Met.ofW (cc := cX6_year) (maxL := 3) (ret := (some .int)) (by decide) rfl ?_
  intro p e s m args below meth c s₁ B hml hv
  obtain ⟨rfl, hsz, hP, hW0, hD0, hE⟩ := hv
  have hx := B.exec
  have hb := B.bytes
  have hr := B.returns
  have hts := atoms_spec (ws := wsX6_year) B.pre
  have hown : s.vm.findClass RX6 = some m.cls := findClass_of_methodNamed B.named
  have hlocks := B.notSynchronized
  have hK := hW0.1
  subst hsz
  have hD := hD0.self (sz := s.heap.size)
  unfold EF at hE
  generalize hAe : va_A [(h0, .inr (8, [.ref tx, .ref es, .ref i1, .ref i2, .ref wa, .ref ra, .int kp])), (es, .inr (2, [.ref ap, .ref ay, .int (nI k), .int lo])), (ay, .inl (cI, 6, .inl yr))] s.heap.size = A at hD hE ⊢
  have hA : ∀ q : Nat, s.heap.size ≤ q → A q := fun q h => by rw [← hAe]; exact Or.inr h
  have hS : va_S A s.heap s.heap [] := va_S.rf
  have hl := lv_entry ([.ref h0, .int x0, .int y]) (n := 3) (Nat.le_of_ble_eq_true rfl)
  rw [lg_entry_eq]
  generalize (lg_sl ([.ref h0, .int x0, .int y]) ++ List.replicate (3 - (lg_sl ([.ref h0, .int x0, .int y])).length) Slot.unset).toArray = ls at hl ⊢
  have hl : lv_has ls 3 [(0, .ref h0), (1, .int x0), (2, .int y)] := hl
  show W p l e ({ frames := 4, cells := 0, slots := 0, locals := 88 } : Room) s m ([.ref h0, .int x0, .int y] : List Value).toArray below meth c s.heap [] 0 0 _ (F0 m 0 ls [])
  refine u_genQ (fun Q hQ => ?_)
  by_cases hin9 : inP k x0
  · skip
    obtain ⟨j0, hj0, xe0, xi0⟩ := inP_nat hin9 (by omega)
    rw [xe0] at hl
    refine lv_aload_n hx hb dX6_year_0 rfl (lv_at hl 0 rfl) ?_
    refine va_get (D := D) (ci := 8) (v := .ref es) (C := RX6) (T := TX6) (N := 7) hx hb hts (by decide +kernel) hown hK hP 0 rfl rfl 1 (by decide) (hts (.fieldLink RX6 19 "LandDeeds" "estate" "LLandDeeds$Estate;") (by decide +kernel)) (fun _ h9 => h9) rfl dX6_year_1 ?_
    refine lv_iload_n hx hb dX6_year_4 rfl (lv_at hl 1 rfl) ?_
    have hPc := hP.sub (ws' := [(es, .inr (2, [.ref ap, .ref ay, .int (nI k), .int lo]))]) [1] rfl
    refine u_callSi (W.runV (As := [.int (nI j0)]) (rest := []) ⟨hx, hb, hml, hown, hts⟩ (c_X0_has l D cI cB cZ cP es ap ay k lo (nI j0) (hk)) (cwV 1 hts gX6_year_X0_has rfl rfl rfl (by decide +kernel) ⟨Nat.le_of_ble_eq_true rfl, Nat.le_of_ble_eq_true rfl⟩) (pV (q0 := 0) hPc hW0 trivial rfl rfl) rfl rfl hl.1 rfl (lv_room (Nat.le_of_ble_eq_true rfl)) dX6_year_5 ⟨Nat.le_of_ble_eq_true rfl, Nat.le_of_ble_eq_true rfl⟩) ?_
    refine lv_if_ne (tgt := 13) hx hb dX6_year_8 (by decide) (fun c_1 => ?_) (fun c_1 => ?_)
    · skip
      have nc_1 := zb_ne0.mp c_1
      refine lv_iload_n hx hb dX6_year_13 rfl (lv_at hl 2 rfl) ?_
      have hPc := hP.sub (ws' := []) [] rfl
      refine u_callSi (W.runS (As := [.int y]) (rest := []) ⟨hx, hb, hml, hown, hts⟩ (c_X6_isYear l D cI cB cZ cP y ) (cwS 1 hts gX6_year_X6_isYear rfl rfl rfl (by decide +kernel) ⟨Nat.le_of_ble_eq_true rfl, Nat.le_of_ble_eq_true rfl⟩) (pS hPc hW0 trivial) rfl rfl hl.1 rfl (lv_room (Nat.le_of_ble_eq_true rfl)) dX6_year_14 ⟨Nat.le_of_ble_eq_true rfl, Nat.le_of_ble_eq_true rfl⟩) ?_
      refine lv_if_ne (tgt := 23) hx hb dX6_year_17 (by decide) (fun c_2 => ?_) (fun c_2 => ?_)
      · skip
        have nc_2 := zb_ne0.mp c_2
        refine lv_aload_n hx hb dX6_year_23 rfl (lv_at hl 0 rfl) ?_
        refine va_get (D := D) (ci := 8) (v := .ref es) (C := RX6) (T := TX6) (N := 7) hx hb hts (by decide +kernel) hown hK hP 0 rfl rfl 1 (by decide) (hts (.fieldLink RX6 19 "LandDeeds" "estate" "LLandDeeds$Estate;") (by decide +kernel)) (fun _ h9 => h9) rfl dX6_year_24 ?_
        refine lv_iload_n hx hb dX6_year_27 rfl (lv_at hl 1 rfl) ?_
        refine lv_iload_n hx hb dX6_year_28 rfl (lv_at hl 2 rfl) ?_
        have hPc := hP.sub (ws' := [(es, .inr (2, [.ref ap, .ref ay, .int (nI k), .int lo])), (ay, .inl (cI, 6, .inl yr))]) [1, 2] rfl
        have hDc := hD.sub (ws' := [(es, .inr (2, [.ref ap, .ref ay, .int (nI k), .int lo])), (ay, .inl (cI, 6, .inl yr))]) [1, 2] (by decide) rfl
        have hFc := va_free (wc := [(es, .inr (2, [.ref ap, .ref ay, .int (nI k), .int lo])), (ay, .inl (cI, 6, .inl yr))]) hD hS hA [1, 2] rfl
        refine va_callv (va_runV (As := [.int (nI j0), .int y]) (rest := []) ⟨hx, hb, hml, hown, hts⟩ (c_X0_setYear l D cI cB cZ cP s.heap.size es ap ay k lo yr j0 y (hk) (hj0)) (cwV 2 hts gX6_year_X0_setYear rfl rfl rfl (by decide +kernel) ⟨Nat.le_of_ble_eq_true rfl, Nat.le_of_ble_eq_true rfl⟩) (pVQ (q0 := 0) hPc hDc hW0 EF.t rfl rfl) rfl rfl hl.1 rfl (lv_room (Nat.le_of_ble_eq_true rfl)) dX6_year_29 ⟨Nat.le_of_ble_eq_true rfl, Nat.le_of_ble_eq_true rfl⟩) hS (fun q _ h => hFc q h) hFc (fun u t H1 locs ht hvm hw hB hz1 hk1 hS => ?_)
        obtain ⟨hP1, hD1⟩ := hB
        rw [ht] at hP1
        have hw_3 : True := hw
        obtain ⟨hP, hD⟩ := va_join (wr := [(h0, .inr (8, [.ref tx, .ref es, .ref i1, .ref i2, .ref wa, .ref ra, .int kp]))]) (w1 := [(es, .inr (2, [.ref ap, .ref ay, .int (nI k), .int lo])), (ay, .inl (cI, 6, .inl (upd yr j0 y)))]) hP hD [1, 2] [0] rfl rfl (by decide) (by decide) hk1 hFc hP1 hD1
        generalize H1 = H at hP hS ⊢
        have hP := hP.sub (ws' := [(h0, .inr (8, [.ref tx, .ref es, .ref i1, .ref i2, .ref wa, .ref ra, .int kp])), (es, .inr (2, [.ref ap, .ref ay, .int (nI k), .int lo])), (ay, .inl (cI, 6, .inl (upd yr j0 y)))]) [0, 1, 2] rfl
        have hD := hD.sub (ws' := [(h0, .inr (8, [.ref tx, .ref es, .ref i1, .ref i2, .ref wa, .ref ra, .int kp])), (es, .inr (2, [.ref ap, .ref ay, .int (nI k), .int lo])), (ay, .inl (cI, 6, .inl (upd yr j0 y)))]) [0, 1, 2] (by decide) rfl
        refine lv_aload_n hx hb dX6_year_32 rfl (lv_at hl 0 rfl) ?_
        refine va_get (D := D) (ci := 8) (v := .ref es) (C := RX6) (T := TX6) (N := 7) hx hb hts (by decide +kernel) hown hK hP 0 rfl rfl 1 (by decide) (hts (.fieldLink RX6 19 "LandDeeds" "estate" "LLandDeeds$Estate;") (by decide +kernel)) (fun _ h9 => h9) rfl dX6_year_33 ?_
        refine lv_iload_n hx hb dX6_year_36 rfl (lv_at hl 1 rfl) ?_
        have hPc := hP.sub (ws' := [(es, .inr (2, [.ref ap, .ref ay, .int (nI k), .int lo])), (ay, .inl (cI, 6, .inl (upd yr j0 y)))]) [1, 2] rfl
        refine u_callSi (W.runV (As := [.int (nI j0)]) (rest := []) ⟨hx, hb, hml, hown, hts⟩ (c_X0_howManyOlder l D cI cB cZ cP es ap ay k j0 lo (upd yr j0 y) (hk) (hj0) (fun z hz => by by_cases e9 : z = j0; (subst e9; rw [pk_us]; exact nc_2); (rw [pk_un e9]; exact hyr z hz))) (cwV 1 hts gX6_year_X0_howManyOlder rfl rfl rfl (by decide +kernel) ⟨Nat.le_of_ble_eq_true rfl, Nat.le_of_ble_eq_true rfl⟩) (pV (q0 := 0) hPc hW0 trivial rfl rfl) rfl rfl hl.1 rfl (lv_room (Nat.le_of_ble_eq_true rfl)) dX6_year_37 ⟨Nat.le_of_ble_eq_true rfl, Nat.le_of_ble_eq_true rfl⟩) ?_
        rw [← hQ]
        have hP9 := hP
        have hD9 := hD
        exact W.iret (v := nI (cnt (fun z => old (upd yr j0 y) z j0) k)) hx hb hr (fun t ht hW => ⟨⟨_, upd yr j0 y, rfl, ⟨by rw [show aYear k yr x0 y = _ from (cif_t hin9).trans (cif_t nc_2), xi0], by rw [cif_t ⟨hin9, nc_2⟩, xi0]⟩, by rw [ht]; exact hP9, hD9⟩, hS.F ht⟩) hS.2.2 dX6_year_40
      · skip
        have nc_2 := zb_eq0.mp c_2
        refine lv_bipush (v := (-2)) hx hb dX6_year_20 (by decide) ?_
        rw [← hQ]
        have hP9 := hP
        have hD9 := hD
        exact W.iret (v := (-2)) hx hb hr (fun t ht hW => ⟨⟨_, yr, rfl, ⟨((cif_t hin9).trans (cif_f nc_2)).symm, (cif_f (fun q => nc_2 q.2)).symm⟩, by rw [ht]; exact hP9, hD9⟩, hS.F ht⟩) hS.2.2 dX6_year_22
    · skip
      have nc_1 := zb_eq0.mp c_1
      exact absurd (show 0 ≤ (nI j0).toInt ∧ (nI j0).toInt < k by rw [nI_toInt (by omega)]; omega) nc_1
  · skip
    refine lv_aload_n hx hb dX6_year_0 rfl (lv_at hl 0 rfl) ?_
    refine va_get (D := D) (ci := 8) (v := .ref es) (C := RX6) (T := TX6) (N := 7) hx hb hts (by decide +kernel) hown hK hP 0 rfl rfl 1 (by decide) (hts (.fieldLink RX6 19 "LandDeeds" "estate" "LLandDeeds$Estate;") (by decide +kernel)) (fun _ h9 => h9) rfl dX6_year_1 ?_
    refine lv_iload_n hx hb dX6_year_4 rfl (lv_at hl 1 rfl) ?_
    have hPc := hP.sub (ws' := [(es, .inr (2, [.ref ap, .ref ay, .int (nI k), .int lo]))]) [1] rfl
    refine u_callSi (W.runV (As := [.int x0]) (rest := []) ⟨hx, hb, hml, hown, hts⟩ (c_X0_has l D cI cB cZ cP es ap ay k lo x0 (hk)) (cwV 1 hts gX6_year_X0_has rfl rfl rfl (by decide +kernel) ⟨Nat.le_of_ble_eq_true rfl, Nat.le_of_ble_eq_true rfl⟩) (pV (q0 := 0) hPc hW0 trivial rfl rfl) rfl rfl hl.1 rfl (lv_room (Nat.le_of_ble_eq_true rfl)) dX6_year_5 ⟨Nat.le_of_ble_eq_true rfl, Nat.le_of_ble_eq_true rfl⟩) ?_
    refine lv_if_ne (tgt := 13) hx hb dX6_year_8 (by decide) (fun c_4 => ?_) (fun c_4 => ?_)
    · skip
      have nc_4 := zb_ne0.mp c_4
      exact absurd nc_4 hin9
    · skip
      have nc_4 := zb_eq0.mp c_4
      refine lv_iconst (v := (-1)) hx hb dX6_year_11 (by decide) ?_
      rw [← hQ]
      have hP9 := hP
      have hD9 := hD
      exact W.iret (v := (-1)) hx hb hr (fun t ht hW => ⟨⟨_, yr, rfl, ⟨(cif_f hin9).symm, (cif_f (fun q => hin9 q.1)).symm⟩, by rw [ht]; exact hP9, hD9⟩, hS.F ht⟩) hS.2.2 dX6_year_12

set_option maxHeartbeats 4000000 in
set_option maxRecDepth 100000 in
theorem c_X6_drop (l : Launch) (D : va_G) (cI cB cZ cP : ClassId) (sz : Nat) (h0 tx es i1 i2 wa ra : Nat) (kp : Int32) (ap ay k : Nat) (lo : Int32) (fp : Nat → Option Nat) (yr : Nat → Int32) (Pl : Nat → Option PD) (x0 : Int32) (hk : k ≤ 6) (hFP : FPin Pl fp) : Met l yX6_drop wsX6_drop ({ frames := 2, cells := 0, slots := 0, locals := 43 } : Room) (va_Pc [.ref h0, .int x0] (fun U => U.heap.size = sz ∧ va_P D vwCl [(h0, .inr (8, [.ref tx, .ref es, .ref i1, .ref i2, .ref wa, .ref ra, .int kp])), (es, .inr (2, [.ref ap, .ref ay, .int (nI k), .int lo])), (ap, .inl (cP, 6, .inr (.inr (.inr (.inr fp))))), (ay, .inl (cI, 6, .inl yr))] U.heap ∧ KW D cI cB cZ cP U ∧ va_D (fun _ => True) [(h0, .inr (8, [.ref tx, .ref es, .ref i1, .ref i2, .ref wa, .ref ra, .int kp])), (es, .inr (2, [.ref ap, .ref ay, .int (nI k), .int lo])), (ap, .inl (cP, 6, .inr (.inr (.inr (.inr fp))))), (ay, .inl (cI, 6, .inl yr))] ∧ EF [(h0, .inr (8, [.ref tx, .ref es, .ref i1, .ref i2, .ref wa, .ref ra, .int kp])), (es, .inr (2, [.ref ap, .ref ay, .int (nI k), .int lo])), (ap, .inl (cP, 6, .inr (.inr (.inr (.inr fp))))), (ay, .inl (cI, 6, .inl yr))] sz (PLA D cI cB Pl) U.heap)) (va_Qi (fun r (u : Nat × (Nat → Option Nat) × (Nat → Int32)) => match u with | (k1, fp1, yr1) => (¬ inP k x0 ∧ r = -1 ∧ k1 = k ∧ fp1 = fp ∧ yr1 = yr) ∨ (inP k x0 ∧ r = nI (k - 1) ∧ k1 = k - 1 ∧ fp1 = shf fp (ix x0) (k - 1) ∧ yr1 = shf yr (ix x0) (k - 1))) (fun (u : Nat × (Nat → Option Nat) × (Nat → Int32)) (t : State) => match u with | (k1, fp1, yr1) => va_P D vwCl [(h0, .inr (8, [.ref tx, .ref es, .ref i1, .ref i2, .ref wa, .ref ra, .int kp])), (es, .inr (2, [.ref ap, .ref ay, .int (nI k1), .int lo])), (ap, .inl (cP, 6, .inr (.inr (.inr (.inr fp1))))), (ay, .inl (cI, 6, .inl yr1))] t.heap ∧ va_D (va_A [(h0, .inr (8, [.ref tx, .ref es, .ref i1, .ref i2, .ref wa, .ref ra, .int kp])), (es, .inr (2, [.ref ap, .ref ay, .int (nI k), .int lo])), (ap, .inl (cP, 6, .inr (.inr (.inr (.inr fp))))), (ay, .inl (cI, 6, .inl yr))] sz) [(h0, .inr (8, [.ref tx, .ref es, .ref i1, .ref i2, .ref wa, .ref ra, .int kp])), (es, .inr (2, [.ref ap, .ref ay, .int (nI k1), .int lo])), (ap, .inl (cP, 6, .inr (.inr (.inr (.inr fp1))))), (ay, .inl (cI, 6, .inl yr1))]) (va_A [(h0, .inr (8, [.ref tx, .ref es, .ref i1, .ref i2, .ref wa, .ref ra, .int kp])), (es, .inr (2, [.ref ap, .ref ay, .int (nI k), .int lo])), (ap, .inl (cP, 6, .inr (.inr (.inr (.inr fp))))), (ay, .inl (cI, 6, .inl yr))] sz)) 0 0 (va_A [(h0, .inr (8, [.ref tx, .ref es, .ref i1, .ref i2, .ref wa, .ref ra, .int kp])), (es, .inr (2, [.ref ap, .ref ay, .int (nI k), .int lo])), (ap, .inl (cP, 6, .inr (.inr (.inr (.inr fp))))), (ay, .inl (cI, 6, .inl yr))] sz) := by
  refine Met.ofW (cc := cX6_drop) (maxL := 2) (ret := (some .int)) (by decide) rfl ?_
  intro p e s m args below meth c s₁ B hml hv
  obtain ⟨rfl, hsz, hP, hW0, hD0, hE⟩ := hv
  have hx := B.exec
  have hb := B.bytes
  have hr := B.returns
  have hts := atoms_spec (ws := wsX6_drop) B.pre
  have hown : s.vm.findClass RX6 = some m.cls := findClass_of_methodNamed B.named
  have hlocks := B.notSynchronized
  have hK := hW0.1
  subst hsz
  have hD := hD0.self (sz := s.heap.size)
  unfold EF at hE
  generalize hAe : va_A [(h0, .inr (8, [.ref tx, .ref es, .ref i1, .ref i2, .ref wa, .ref ra, .int kp])), (es, .inr (2, [.ref ap, .ref ay, .int (nI k), .int lo])), (ap, .inl (cP, 6, .inr (.inr (.inr (.inr fp))))), (ay, .inl (cI, 6, .inl yr))] s.heap.size = A at hD hE ⊢
  have hA : ∀ q : Nat, s.heap.size ≤ q → A q := fun q h => by rw [← hAe]; exact Or.inr h
  have hS : va_S A s.heap s.heap [] := va_S.rf
  have hl := lv_entry ([.ref h0, .int x0]) (n := 2) (Nat.le_of_ble_eq_true rfl)
  rw [lg_entry_eq]
  generalize (lg_sl ([.ref h0, .int x0]) ++ List.replicate (2 - (lg_sl ([.ref h0, .int x0])).length) Slot.unset).toArray = ls at hl ⊢
  have hl : lv_has ls 2 [(0, .ref h0), (1, .int x0)] := hl
  show W p l e ({ frames := 2, cells := 0, slots := 0, locals := 43 } : Room) s m ([.ref h0, .int x0] : List Value).toArray below meth c s.heap [] 0 0 _ (F0 m 0 ls [])
  refine u_genQ (fun Q hQ => ?_)
  by_cases hin9 : inP k x0
  · skip
    obtain ⟨j0, hj0, xe0, xi0⟩ := inP_nat hin9 (by omega)
    rw [xe0] at hl
    refine lv_aload_n hx hb dX6_drop_0 rfl (lv_at hl 0 rfl) ?_
    refine va_get (D := D) (ci := 8) (v := .ref es) (C := RX6) (T := TX6) (N := 7) hx hb hts (by decide +kernel) hown hK hP 0 rfl rfl 1 (by decide) (hts (.fieldLink RX6 19 "LandDeeds" "estate" "LLandDeeds$Estate;") (by decide +kernel)) (fun _ h9 => h9) rfl dX6_drop_1 ?_
    refine lv_iload_n hx hb dX6_drop_4 rfl (lv_at hl 1 rfl) ?_
    have hPc := hP.sub (ws' := [(es, .inr (2, [.ref ap, .ref ay, .int (nI k), .int lo]))]) [1] rfl
    refine u_callSi (W.runV (As := [.int (nI j0)]) (rest := []) ⟨hx, hb, hml, hown, hts⟩ (c_X0_has l D cI cB cZ cP es ap ay k lo (nI j0) (hk)) (cwV 1 hts gX6_drop_X0_has rfl rfl rfl (by decide +kernel) ⟨Nat.le_of_ble_eq_true rfl, Nat.le_of_ble_eq_true rfl⟩) (pV (q0 := 0) hPc hW0 trivial rfl rfl) rfl rfl hl.1 rfl (lv_room (Nat.le_of_ble_eq_true rfl)) dX6_drop_5 ⟨Nat.le_of_ble_eq_true rfl, Nat.le_of_ble_eq_true rfl⟩) ?_
    refine lv_if_ne (tgt := 13) hx hb dX6_drop_8 (by decide) (fun c_1 => ?_) (fun c_1 => ?_)
    · skip
      have nc_1 := zb_ne0.mp c_1
      refine lv_aload_n hx hb dX6_drop_13 rfl (lv_at hl 0 rfl) ?_
      refine va_get (D := D) (ci := 8) (v := .ref es) (C := RX6) (T := TX6) (N := 7) hx hb hts (by decide +kernel) hown hK hP 0 rfl rfl 1 (by decide) (hts (.fieldLink RX6 19 "LandDeeds" "estate" "LLandDeeds$Estate;") (by decide +kernel)) (fun _ h9 => h9) rfl dX6_drop_14 ?_
      refine lv_iload_n hx hb dX6_drop_17 rfl (lv_at hl 1 rfl) ?_
      have hPc := hP.sub (ws' := [(es, .inr (2, [.ref ap, .ref ay, .int (nI k), .int lo])), (ap, .inl (cP, 6, .inr (.inr (.inr (.inr fp))))), (ay, .inl (cI, 6, .inl yr))]) [1, 2, 3] rfl
      have hDc := hD.sub (ws' := [(es, .inr (2, [.ref ap, .ref ay, .int (nI k), .int lo])), (ap, .inl (cP, 6, .inr (.inr (.inr (.inr fp))))), (ay, .inl (cI, 6, .inl yr))]) [1, 2, 3] (by decide) rfl
      have hFc := va_free (wc := [(es, .inr (2, [.ref ap, .ref ay, .int (nI k), .int lo])), (ap, .inl (cP, 6, .inr (.inr (.inr (.inr fp))))), (ay, .inl (cI, 6, .inl yr))]) hD hS hA [1, 2, 3] rfl
      refine va_callv (va_runV (As := [.int (nI j0)]) (rest := []) ⟨hx, hb, hml, hown, hts⟩ (c_X0_remove l D cI cB cZ cP s.heap.size es ap ay k lo yr fp j0 (hk) (hj0)) (cwV 1 hts gX6_drop_X0_remove rfl rfl rfl (by decide +kernel) ⟨Nat.le_of_ble_eq_true rfl, Nat.le_of_ble_eq_true rfl⟩) (pVQ (q0 := 0) hPc hDc hW0 (EF.sub (fun H1 q9 => EP_of hFP (hE H1 q9)) hS.1 hS.2.1 hFc) rfl rfl) rfl rfl hl.1 rfl (lv_room (Nat.le_of_ble_eq_true rfl)) dX6_drop_18 ⟨Nat.le_of_ble_eq_true rfl, Nat.le_of_ble_eq_true rfl⟩) hS (fun q _ h => hFc q h) hFc (fun u t H1 locs ht hvm hw hB hz1 hk1 hS => ?_)
      obtain ⟨hP1, hD1⟩ := hB
      rw [ht] at hP1
      have hw_2 : True := hw
      obtain ⟨hP, hD⟩ := va_join (wr := [(h0, .inr (8, [.ref tx, .ref es, .ref i1, .ref i2, .ref wa, .ref ra, .int kp]))]) (w1 := [(es, .inr (2, [.ref ap, .ref ay, .int (nI (k - 1)), .int lo])), (ap, .inl (cP, 6, .inr (.inr (.inr (.inr (shf fp j0 (k - 1))))))), (ay, .inl (cI, 6, .inl (shf yr j0 (k - 1))))]) hP hD [1, 2, 3] [0] rfl rfl (by decide) (by decide) hk1 hFc hP1 hD1
      generalize H1 = H at hP hS ⊢
      have hP := hP.sub (ws' := [(h0, .inr (8, [.ref tx, .ref es, .ref i1, .ref i2, .ref wa, .ref ra, .int kp])), (es, .inr (2, [.ref ap, .ref ay, .int (nI (k - 1)), .int lo])), (ap, .inl (cP, 6, .inr (.inr (.inr (.inr (shf fp j0 (k - 1))))))), (ay, .inl (cI, 6, .inl (shf yr j0 (k - 1))))]) [0, 1, 2, 3] rfl
      have hD := hD.sub (ws' := [(h0, .inr (8, [.ref tx, .ref es, .ref i1, .ref i2, .ref wa, .ref ra, .int kp])), (es, .inr (2, [.ref ap, .ref ay, .int (nI (k - 1)), .int lo])), (ap, .inl (cP, 6, .inr (.inr (.inr (.inr (shf fp j0 (k - 1))))))), (ay, .inl (cI, 6, .inl (shf yr j0 (k - 1))))]) [0, 1, 2, 3] (by decide) rfl
      refine lv_aload_n hx hb dX6_drop_21 rfl (lv_at hl 0 rfl) ?_
      refine va_get (D := D) (ci := 8) (v := .ref es) (C := RX6) (T := TX6) (N := 7) hx hb hts (by decide +kernel) hown hK hP 0 rfl rfl 1 (by decide) (hts (.fieldLink RX6 19 "LandDeeds" "estate" "LLandDeeds$Estate;") (by decide +kernel)) (fun _ h9 => h9) rfl dX6_drop_22 ?_
      refine va_get (D := D) (ci := 2) (v := .int (nI (k - 1))) (C := RX0) (T := TX0) (N := 4) hx hb hts (by decide +kernel) hown hK hP 1 rfl rfl 2 (by decide) (hts (.fieldLink RX6 98 "LandDeeds$Estate" "size" "I") (by decide +kernel)) (fun _ h9 => h9) rfl dX6_drop_25 ?_
      rw [← hQ]
      have hP9 := hP
      have hD9 := hD
      exact W.iret (v := nI (k - 1)) hx hb hr (fun t ht hW => ⟨⟨_, (k - 1, shf fp j0 (k - 1), shf yr j0 (k - 1)), rfl, Or.inr ⟨hin9, rfl, rfl, by rw [xi0], by rw [xi0]⟩, by rw [ht]; exact hP9, hD9⟩, hS.F ht⟩) hS.2.2 dX6_drop_28
    · skip
      have nc_1 := zb_eq0.mp c_1
      exact absurd (show 0 ≤ (nI j0).toInt ∧ (nI j0).toInt < k by rw [nI_toInt (by omega)]; omega) nc_1
  · skip
    refine lv_aload_n hx hb dX6_drop_0 rfl (lv_at hl 0 rfl) ?_
    refine va_get (D := D) (ci := 8) (v := .ref es) (C := RX6) (T := TX6) (N := 7) hx hb hts (by decide +kernel) hown hK hP 0 rfl rfl 1 (by decide) (hts (.fieldLink RX6 19 "LandDeeds" "estate" "LLandDeeds$Estate;") (by decide +kernel)) (fun _ h9 => h9) rfl dX6_drop_1 ?_
    refine lv_iload_n hx hb dX6_drop_4 rfl (lv_at hl 1 rfl) ?_
    have hPc := hP.sub (ws' := [(es, .inr (2, [.ref ap, .ref ay, .int (nI k), .int lo]))]) [1] rfl
    refine u_callSi (W.runV (As := [.int x0]) (rest := []) ⟨hx, hb, hml, hown, hts⟩ (c_X0_has l D cI cB cZ cP es ap ay k lo x0 (hk)) (cwV 1 hts gX6_drop_X0_has rfl rfl rfl (by decide +kernel) ⟨Nat.le_of_ble_eq_true rfl, Nat.le_of_ble_eq_true rfl⟩) (pV (q0 := 0) hPc hW0 trivial rfl rfl) rfl rfl hl.1 rfl (lv_room (Nat.le_of_ble_eq_true rfl)) dX6_drop_5 ⟨Nat.le_of_ble_eq_true rfl, Nat.le_of_ble_eq_true rfl⟩) ?_
    refine lv_if_ne (tgt := 13) hx hb dX6_drop_8 (by decide) (fun c_3 => ?_) (fun c_3 => ?_)
    · skip
      have nc_3 := zb_ne0.mp c_3
      exact absurd nc_3 hin9
    · skip
      have nc_3 := zb_eq0.mp c_3
      refine lv_iconst (v := (-1)) hx hb dX6_drop_11 (by decide) ?_
      rw [← hQ]
      have hP9 := hP
      have hD9 := hD
      exact W.iret (v := (-1)) hx hb hr (fun t ht hW => ⟨⟨_, (k, fp, yr), rfl, Or.inl ⟨hin9, rfl, rfl, rfl, rfl⟩, by rw [ht]; exact hP9, hD9⟩, hS.F ht⟩) hS.2.2 dX6_drop_12

