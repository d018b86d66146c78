set_option maxHeartbeats 4000000 in
set_option maxRecDepth 100000 in
theorem c_J1_canEncode_fc78d (l : Launch) (D : va_G) (cI cB cZ cP : ClassId) (x : Int32) (hx9 : ltr x) : Met l yJ1_canEncode_fc78d wsJ1_canEncode_fc78d ({ frames := 0, cells := 0, slots := 0, locals := 0 } : Room) (va_Pc [.int x] (fun U => va_P D vwCl [] U.heap ∧ KW D cI cB cZ cP U ∧ E0 U.heap)) (vp_Si (fun r => r = 1)) 0 0 (fun _ => False) := by
  refine Met.ofW (cc := cJ1_canEncode_fc78d) (maxL := 1) (ret := (some .boolean)) (by decide) rfl ?_
  intro p e s m args below meth c s₁ B hml hv
  obtain ⟨rfl, hP, hW0, hE⟩ := hv
  have hx := B.exec
  have hb := B.bytes
  have hr := B.returns
  have hts := atoms_spec (ws := wsJ1_canEncode_fc78d) B.pre
  have hown : s.vm.findClass RJ1 = some m.cls := findClass_of_methodNamed B.named
  have hlocks := B.notSynchronized
  have hK := hW0.1
  have hl := lv_entry ([.int x]) (n := 1) (Nat.le_of_ble_eq_true rfl)
  rw [lg_entry_eq]
  generalize (lg_sl ([.int x]) ++ List.replicate (1 - (lg_sl ([.int x])).length) Slot.unset).toArray = ls at hl ⊢
  have hl : lv_has ls 1 [(0, .int x)] := hl
  show W p l e ({ frames := 0, cells := 0, slots := 0, locals := 0 } : Room) s m ([.int x] : List Value).toArray below meth c s.heap [] 0 0 _ (F0 m 0 ls [])
  refine u_genQ (fun Q hQ => ?_)
  refine lv_iload_n hx hb dJ1_canEncode_fc78d_0 rfl (lv_at hl 0 rfl) ?_
  refine lv_sipush (v := 255) hx hb dJ1_canEncode_fc78d_1 (by decide) ?_
  refine lv_icmp_gt (tgt := 11) hx hb dJ1_canEncode_fc78d_4 (by decide) (fun c_1 => ?_) (fun c_1 => ?_)
  · skip
    exact absurd c_1 (ltr_255 hx9)
  · skip
    refine lv_iconst (v := 1) hx hb dJ1_canEncode_fc78d_7 (by decide) ?_
    refine lv_goto (tgt := 12) hx hb dJ1_canEncode_fc78d_8 (by decide) ?_
    rw [← hQ]
    exact W.zret (v := 1) hx hb hr (by decide) (fun t ht hW => ⟨_, rfl, rfl, ht⟩) (fun q h => absurd h List.not_mem_nil) dJ1_canEncode_fc78d_12

set_option maxHeartbeats 4000000 in
set_option maxRecDepth 100000 in
theorem c_J5_isLatin1_aae02 (l : Launch) (D : va_G) (cI cB cZ cP : ClassId) (tz1 tz2 : Nat) (h0 va : Nat) (ml : Int32) (wt : List Int32) : Met l yJ5_isLatin1_aae02 wsJ5_isLatin1_aae02 ({ frames := 0, cells := 0, slots := 0, locals := 0 } : Room) (va_Pc [.ref h0] (fun U => va_P D vwCl [(h0, .inr (1, [.ref va, .int 0, .int ml, .int (nI wt.length)]))] U.heap ∧ KW D cI cB cZ cP U ∧ E0 U.heap ∧ ZZ tz1 tz2 (fun _ => False) U U.heap)) (vp_Si (fun r => r = 1)) 0 0 (fun _ => False) := by
  refine Met.ofW (cc := cJ5_isLatin1_aae02) (maxL := 1) (ret := (some .boolean)) (by decide) rfl ?_
  intro p e s m args below meth c s₁ B hml hv
  obtain ⟨rfl, hP, hW0, hE, hZ⟩ := hv
  have hx := B.exec
  have hb := B.bytes
  have hr := B.returns
  have hts := atoms_spec (ws := wsJ5_isLatin1_aae02) B.pre
  have hown : s.vm.findClass RJ5 = some m.cls := findClass_of_methodNamed B.named
  have hlocks := B.notSynchronized
  have hK := hW0.1
  have hl := lv_entry ([.ref h0]) (n := 1) (Nat.le_of_ble_eq_true rfl)
  rw [lg_entry_eq]
  generalize (lg_sl ([.ref h0]) ++ List.replicate (1 - (lg_sl ([.ref h0])).length) Slot.unset).toArray = ls at hl ⊢
  have hl : lv_has ls 1 [(0, .ref h0)] := hl
  show W p l e ({ frames := 0, cells := 0, slots := 0, locals := 0 } : Room) s m ([.ref h0] : List Value).toArray below meth c s.heap [] 0 0 _ (F0 m 0 ls [])
  refine u_genQ (fun Q hQ => ?_)
  refine va_gets hx hb hZ.1 (va_S.rf (A := fun _ => False)) hown (hts (.fieldLink RJ5 18 "java/lang/String" "COMPACT_STRINGS" "Z") (by decide +kernel)) (fun _ h9 => h9) dJ5_isLatin1_aae02_0 ?_
  refine lv_if_eq (tgt := 17) hx hb dJ5_isLatin1_aae02_3 (by decide) (fun c_1 => ?_) (fun c_1 => ?_)
  · skip
    exact absurd c_1 (by decide)
  · skip
    refine lv_aload_n hx hb dJ5_isLatin1_aae02_6 rfl (lv_at hl 0 rfl) ?_
    refine va_get (D := D) (ci := 1) (v := .int 0) (C := RJ4) (T := TJ4) (N := 4) hx hb hts (by decide +kernel) hown hK hP 0 rfl rfl 1 (by decide) (hts (.fieldLink RJ5 22 "java/lang/AbstractStringBuilder" "coder" "B") (by decide +kernel)) (fun _ h9 => h9) rfl dJ5_isLatin1_aae02_7 ?_
    refine lv_if_ne (tgt := 17) hx hb dJ5_isLatin1_aae02_10 (by decide) (fun c_2 => ?_) (fun c_2 => ?_)
    · skip
      exact absurd rfl c_2
    · skip
      refine lv_iconst (v := 1) hx hb dJ5_isLatin1_aae02_13 (by decide) ?_
      refine lv_goto (tgt := 18) hx hb dJ5_isLatin1_aae02_14 (by decide) ?_
      rw [← hQ]
      exact W.zret (v := 1) hx hb hr (by decide) (fun t ht hW => ⟨_, rfl, rfl, ht⟩) (fun q h => absurd h List.not_mem_nil) dJ5_isLatin1_aae02_18

set_option maxHeartbeats 4000000 in
set_option maxRecDepth 100000 in
theorem c_J8_newLength_cabcc (l : Launch) (D : va_G) (cI cB cZ cP : ClassId) (na nb nd : Nat) (h1 : nb ≤ nd) (h2 : 0 < na + nd) (h3 : na + nd ≤ 1000) : Met l yJ8_newLength_cabcc wsJ8_newLength_cabcc ({ frames := 1, cells := 0, slots := 0, locals := 14 } : Room) (va_Pc [.int (nI na), .int (nI nb), .int (nI nd)] (fun U => va_P D vwCl [] U.heap ∧ KW D cI cB cZ cP U ∧ E0 U.heap)) (vp_Si (fun r => r = nI (na + nd))) 0 0 (fun _ => False) := by
  refine Met.ofW (cc := cJ8_newLength_cabcc) (maxL := 4) (ret := (some .int)) (by decide) rfl ?_
  intro p e s m args below meth c s₁ B hml hv
  obtain ⟨rfl, hP, hW0, hE⟩ := hv
  have hx := B.exec
  have hb := B.bytes
  have hr := B.returns
  have hts := atoms_spec (ws := wsJ8_newLength_cabcc) B.pre
  have hown : s.vm.findClass RJ8 = some m.cls := findClass_of_methodNamed B.named
  have hlocks := B.notSynchronized
  have hK := hW0.1
  have hl := lv_entry ([.int (nI na), .int (nI nb), .int (nI nd)]) (n := 4) (Nat.le_of_ble_eq_true rfl)
  rw [lg_entry_eq]
  generalize (lg_sl ([.int (nI na), .int (nI nb), .int (nI nd)]) ++ List.replicate (4 - (lg_sl ([.int (nI na), .int (nI nb), .int (nI nd)])).length) Slot.unset).toArray = ls at hl ⊢
  have hl : lv_has ls 4 [(0, .int (nI na)), (1, .int (nI nb)), (2, .int (nI nd))] := hl
  show W p l e ({ frames := 1, cells := 0, slots := 0, locals := 14 } : Room) s m ([.int (nI na), .int (nI nb), .int (nI nd)] : List Value).toArray below meth c s.heap [] 0 0 _ (F0 m 0 ls [])
  refine u_genQ (fun Q hQ => ?_)
  refine lv_iload_n hx hb dJ8_newLength_cabcc_0 rfl (lv_at hl 0 rfl) ?_
  refine lv_iload_n hx hb dJ8_newLength_cabcc_1 rfl (lv_at hl 1 rfl) ?_
  refine lv_iload_n hx hb dJ8_newLength_cabcc_2 rfl (lv_at hl 2 rfl) ?_
  refine va_mmax hx hb (by rw [hml]; exact hl.1.symm) hown (hts (.methodLink RJ8 194 Lib.Math.max.name) (by decide +kernel)) (hts (.static Lib.Math.max.name) (by decide +kernel)) (hts (.initialized "java/lang/Math") (by decide +kernel)) (hts (.code Lib.Math.max.name Lib.Math.max.code 2 (some .int)) (by decide +kernel)) (Nat.le_of_ble_eq_true rfl) (Nat.le_of_ble_eq_true rfl) (Nat.zero_le _) (Nat.zero_le _) dJ8_newLength_cabcc_3 ?_
  refine u_eqi (show mx (nI nb) (nI nd) = nI nd from mxn h1 (by omega)) ?_
  refine lv_iadd hx hb dJ8_newLength_cabcc_6 ?_
  refine u_eqi (show (nI na) + (nI nd) = nI (na + nd) from nI_add _ _) ?_
  refine lv_istore_n (lv' := [(3, .int (nI (na + nd))), (0, .int (nI na)), (1, .int (nI nb)), (2, .int (nI nd))]) hx hb dJ8_newLength_cabcc_7 rfl hl (by decide) rfl (fun ls hl => ?_)
  refine lv_iconst (v := 0) hx hb dJ8_newLength_cabcc_8 (by decide) ?_
  refine lv_iload_n hx hb dJ8_newLength_cabcc_9 rfl (lv_at hl 0 rfl) ?_
  refine lv_icmp_ge (tgt := 21) hx hb dJ8_newLength_cabcc_10 (by decide) (fun c_1 => ?_) (fun c_1 => ?_)
  · skip
    have nc_1 : na + nd ≤ 0 := (nI_leI (a := (na + nd)) (b := 0) (by omega) (by omega)).mp c_1
    exact absurd nc_1 (by omega)
  · skip
    have nc_1 : ¬ (na + nd ≤ 0) := fun h => c_1 ((nI_leI (a := (na + nd)) (b := 0) (by omega) (by omega)).mpr h)
    refine lv_iload_n hx hb dJ8_newLength_cabcc_13 rfl (lv_at hl 0 rfl) ?_
    refine lv_ldc (v := (2147483639)) hx hb hown (hts (.constant RJ8 200 (2147483639)) (by decide +kernel)) dJ8_newLength_cabcc_14 ?_
    refine lv_icmp_gt (tgt := 21) hx hb dJ8_newLength_cabcc_16 (by decide) (fun c_2 => ?_) (fun c_2 => ?_)
    · skip
      exact absurd (show 2147483639 < na + nd from (nI_ltI (a := 2147483639) (b := na + nd) (by omega) (by omega)).mp c_2) (by omega)
    · skip
      refine lv_iload_n hx hb dJ8_newLength_cabcc_19 rfl (lv_at hl 0 rfl) ?_
      rw [← hQ]
      exact W.iret (v := nI (na + nd)) hx hb hr (fun t ht hW => ⟨_, rfl, rfl, ht⟩) (fun q h => absurd h List.not_mem_nil) dJ8_newLength_cabcc_20

set_option maxHeartbeats 4000000 in
set_option maxRecDepth 100000 in
theorem c_J5_newCapacity_0f7a4 (l : Launch) (D : va_G) (cI cB cZ cP : ClassId) (h0 va cp : Nat) (ml : Int32) (ba : Nat → Int32) (wt : List Int32) (qn : Nat) (hc : cap cp) (h1 : cp < qn) (h2 : qn ≤ cp + 3) : Met l yJ5_newCapacity_0f7a4 wsJ5_newCapacity_0f7a4 ({ frames := 2, cells := 0, slots := 0, locals := 37 } : Room) (va_Pc [.ref h0, .int (nI qn)] (fun U => va_P D vwCl [(h0, .inr (1, [.ref va, .int 0, .int ml, .int (nI wt.length)])), (va, .inl (cB, cp, .inl ba))] U.heap ∧ KW D cI cB cZ cP U ∧ E0 U.heap)) (vp_Si (fun r => r = nI (2 * cp + 2))) 0 0 (fun _ => False) := by
  refine Met.ofW (cc := cJ5_newCapacity_0f7a4) (maxL := 6) (ret := (some .int)) (by decide) rfl ?_
  intro p e s m args below meth c s₁ B hml hv
  obtain ⟨rfl, hP, hW0, hE⟩ := hv
  have hx := B.exec
  have hb := B.bytes
  have hr := B.returns
  have hts := atoms_spec (ws := wsJ5_newCapacity_0f7a4) B.pre
  have hown : s.vm.findClass RJ5 = some m.cls := findClass_of_methodNamed B.named
  have hlocks := B.notSynchronized
  have hK := hW0.1
  have hl := lv_entry ([.ref h0, .int (nI qn)]) (n := 6) (Nat.le_of_ble_eq_true rfl)
  rw [lg_entry_eq]
  generalize (lg_sl ([.ref h0, .int (nI qn)]) ++ List.replicate (6 - (lg_sl ([.ref h0, .int (nI qn)])).length) Slot.unset).toArray = ls at hl ⊢
  have hl : lv_has ls 6 [(0, .ref h0), (1, .int (nI qn))] := hl
  show W p l e ({ frames := 2, cells := 0, slots := 0, locals := 37 } : Room) s m ([.ref h0, .int (nI qn)] : List Value).toArray below meth c s.heap [] 0 0 _ (F0 m 0 ls [])
  refine u_genQ (fun Q hQ => ?_)
  have hcb := cap_b hc
  refine lv_aload_n hx hb dJ5_newCapacity_0f7a4_0 rfl (lv_at hl 0 rfl) ?_
  refine va_get (D := D) (ci := 1) (v := .ref va) (C := RJ4) (T := TJ4) (N := 4) hx hb hts (by decide +kernel) hown hK hP 0 rfl rfl 0 (by decide) (hts (.fieldLink RJ5 15 "java/lang/AbstractStringBuilder" "value" "[B") (by decide +kernel)) (fun _ h9 => h9) rfl dJ5_newCapacity_0f7a4_1 ?_
  refine va_alen (v := nI cp) hx hb hK hP 1 1 rfl rfl rfl dJ5_newCapacity_0f7a4_4 ?_
  refine lv_istore_n (lv' := [(2, .int (nI cp)), (0, .ref h0), (1, .int (nI qn))]) hx hb dJ5_newCapacity_0f7a4_5 rfl hl (by decide) rfl (fun ls hl => ?_)
  refine lv_iload_n hx hb dJ5_newCapacity_0f7a4_6 rfl (lv_at hl 2 rfl) ?_
  refine lv_aload_n hx hb dJ5_newCapacity_0f7a4_7 rfl (lv_at hl 1 rfl) ?_
  refine va_get (D := D) (ci := 1) (v := .int 0) (C := RJ4) (T := TJ4) (N := 4) hx hb hts (by decide +kernel) hown hK hP 0 rfl rfl 1 (by decide) (hts (.fieldLink RJ5 22 "java/lang/AbstractStringBuilder" "coder" "B") (by decide +kernel)) (fun _ h9 => h9) rfl dJ5_newCapacity_0f7a4_8 ?_
  refine lv_ishl hx hb dJ5_newCapacity_0f7a4_11 ?_
  refine u_eqi (show (nI qn) <<< (0 &&& 31) = nI qn from shl0 _) ?_
  refine lv_istore_n (lv' := [(3, .int (nI qn)), (2, .int (nI cp)), (0, .ref h0), (1, .int (nI qn))]) hx hb dJ5_newCapacity_0f7a4_12 rfl hl (by decide) rfl (fun ls hl => ?_)
  refine lv_iload_n hx hb dJ5_newCapacity_0f7a4_13 rfl (lv_at hl 0 rfl) ?_
  refine lv_iload_n hx hb dJ5_newCapacity_0f7a4_14 rfl (lv_at hl 1 rfl) ?_
  refine lv_isub hx hb dJ5_newCapacity_0f7a4_15 ?_
  refine u_eqi (show (nI qn) - (nI cp) = nI (qn - cp) from nI_sub (by omega)) ?_
  refine lv_istore (lv' := [(4, .int (nI (qn - cp))), (3, .int (nI qn)), (2, .int (nI cp)), (0, .ref h0), (1, .int (nI qn))]) hx hb dJ5_newCapacity_0f7a4_16 hl (by decide) rfl (fun ls hl => ?_)
  refine lv_iload_n hx hb dJ5_newCapacity_0f7a4_18 rfl (lv_at hl 2 rfl) ?_
  refine lv_iload hx hb dJ5_newCapacity_0f7a4_19 (lv_at hl 0 rfl) ?_
  refine lv_iload_n hx hb dJ5_newCapacity_0f7a4_21 rfl (lv_at hl 2 rfl) ?_
  refine lv_iconst (v := 2) hx hb dJ5_newCapacity_0f7a4_22 (by decide) ?_
  refine lv_aload_n hx hb dJ5_newCapacity_0f7a4_23 rfl (lv_at hl 3 rfl) ?_
  refine va_get (D := D) (ci := 1) (v := .int 0) (C := RJ4) (T := TJ4) (N := 4) hx hb hts (by decide +kernel) hown hK hP 0 rfl rfl 1 (by decide) (hts (.fieldLink RJ5 22 "java/lang/AbstractStringBuilder" "coder" "B") (by decide +kernel)) (fun _ h9 => h9) rfl dJ5_newCapacity_0f7a4_24 ?_
  refine lv_ishl hx hb dJ5_newCapacity_0f7a4_27 ?_
  refine u_eqi (show (2 : Int32) <<< (0 &&& 31) = 2 from shl0 _) ?_
  refine lv_iadd hx hb dJ5_newCapacity_0f7a4_28 ?_
  refine u_eqi (show (nI cp) + 2 = nI (cp + 2) from nI_add cp 2) ?_
  have hPc := hP.sub (ws' := []) [] rfl
  refine u_callSi (W.runS (As := [.int (nI cp), .int (nI (qn - cp)), .int (nI (cp + 2))]) (rest := []) ⟨hx, hb, hml, hown, hts⟩ (c_J8_newLength_cabcc l D cI cB cZ cP cp (qn - cp) (cp + 2) (by omega) (by omega) (by omega)) (va_cwS 3 hts gJ5_newCapacity_0f7a4_J8_newLength_cabcc rfl rfl rfl (by decide +kernel) ⟨Nat.le_of_ble_eq_true rfl, Nat.le_of_ble_eq_true rfl⟩) (pS hPc hW0 trivial) rfl rfl hl.1 rfl (lv_room (Nat.le_of_ble_eq_true rfl)) dJ5_newCapacity_0f7a4_29 ⟨Nat.le_of_ble_eq_true rfl, Nat.le_of_ble_eq_true rfl⟩) ?_
  refine lv_istore (lv' := [(5, .int (nI (cp + (cp + 2)))), (4, .int (nI (qn - cp))), (3, .int (nI qn)), (2, .int (nI cp)), (0, .ref h0), (1, .int (nI qn))]) hx hb dJ5_newCapacity_0f7a4_32 hl (by decide) rfl (fun ls hl => ?_)
  refine lv_iload hx hb dJ5_newCapacity_0f7a4_34 (lv_at hl 0 rfl) ?_
  refine lv_ldc (v := (2147483647)) hx hb hown (hts (.constant RJ5 39 (2147483647)) (by decide +kernel)) dJ5_newCapacity_0f7a4_36 ?_
  refine lv_icmp_ne (tgt := 51) hx hb dJ5_newCapacity_0f7a4_38 (by decide) (fun c_1 => ?_) (fun c_1 => ?_)
  · skip
    refine lv_iload hx hb dJ5_newCapacity_0f7a4_51 (lv_at hl 0 rfl) ?_
    refine lv_aload_n hx hb dJ5_newCapacity_0f7a4_53 rfl (lv_at hl 4 rfl) ?_
    refine va_get (D := D) (ci := 1) (v := .int 0) (C := RJ4) (T := TJ4) (N := 4) hx hb hts (by decide +kernel) hown hK hP 0 rfl rfl 1 (by decide) (hts (.fieldLink RJ5 22 "java/lang/AbstractStringBuilder" "coder" "B") (by decide +kernel)) (fun _ h9 => h9) rfl dJ5_newCapacity_0f7a4_54 ?_
    refine lv_ishr hx hb dJ5_newCapacity_0f7a4_57 ?_
    refine u_eqi (show (nI (cp + (cp + 2))) >>> (0 &&& 31) = nI (2 * cp + 2) from (shr0 _).trans (congrArg nI (by omega))) ?_
    rw [← hQ]
    exact W.iret (v := nI (2 * cp + 2)) hx hb hr (fun t ht hW => ⟨_, rfl, rfl, ht⟩) (fun q h => absurd h List.not_mem_nil) dJ5_newCapacity_0f7a4_58
  · skip
    exact absurd ((nI_eq (a := cp + (cp + 2)) (b := 2147483647) (by omega) (by omega)).mp c_1) (by omega)

set_option maxHeartbeats 4000000 in
set_option maxRecDepth 100000 in
theorem c_J7_copyOf_9075b (l : Launch) (D : va_G) (cI cB cZ cP : ClassId) (sz : Nat) (tz1 tz2 : Nat) (va cp : Nat) (ba : Nat → Int32) (qn : Nat) (h1 : cp < qn) (h2 : qn ≤ 70) (hL : lat ba) : Met l yJ7_copyOf_9075b wsJ7_copyOf_9075b ({ frames := 1, cells := 1, slots := 70, locals := 40 } : Room) (va_Pc [.ref va, .int (nI qn)] (fun U => U.heap.size = sz ∧ va_P D vwCl [(va, .inl (cB, cp, .inl ba))] U.heap ∧ KW D cI cB cZ cP U ∧ va_D (fun _ => True) [(va, .inl (cB, cp, .inl ba))] ∧ EF [(va, .inl (cB, cp, .inl ba))] sz E0 U.heap ∧ ZZ tz1 tz2 (va_A [(va, .inl (cB, cp, .inl ba))] sz) U U.heap)) (va_Qr (fun (g : Nat → Int32) => g = va_cpy ba (fun _ => 0) 0 0 cp) (fun (g : Nat → Int32) (ra : Nat) (t : State) => va_P D vwCl [(va, .inl (cB, cp, .inl ba)), (ra, .inl (cB, qn, .inl g))] t.heap ∧ va_D (va_A [(va, .inl (cB, cp, .inl ba))] sz) [(va, .inl (cB, cp, .inl ba)), (ra, .inl (cB, qn, .inl g))]) (va_A [(va, .inl (cB, cp, .inl ba))] sz)) 1 70 (va_A [(va, .inl (cB, cp, .inl ba))] sz) := by
  refine Met.ofW (cc := cJ7_copyOf_9075b) (maxL := 3) (ret := (some (.array .byte))) (by decide) rfl ?_
  intro p e s m args below meth c s₁ B hml hv
  obtain ⟨rfl, hsz, hP, hW0, hD0, hE, hZ⟩ := hv
  have hx := B.exec
  have hb := B.bytes
  have hr := B.returns
  have hts := atoms_spec (ws := wsJ7_copyOf_9075b) B.pre
  have hown : s.vm.findClass RJ7 = some m.cls := findClass_of_methodNamed B.named
  have hlocks := B.notSynchronized
  have hK := hW0.1
  subst hsz
  have hD := hD0.self (sz := s.heap.size)
  unfold EF at hE
  generalize hAe : va_A [(va, .inl (cB, cp, .inl ba))] s.heap.size = A at hD hE hZ ⊢
  have hA : ∀ q : Nat, s.heap.size ≤ q → A q := fun q h => by rw [← hAe]; exact Or.inr h
  have hS : va_S A s.heap s.heap [] := va_S.rf
  have hl := lv_entry ([.ref va, .int (nI qn)]) (n := 3) (Nat.le_of_ble_eq_true rfl)
  rw [lg_entry_eq]
  generalize (lg_sl ([.ref va, .int (nI qn)]) ++ List.replicate (3 - (lg_sl ([.ref va, .int (nI qn)])).length) Slot.unset).toArray = ls at hl ⊢
  have hl : lv_has ls 3 [(0, .ref va), (1, .int (nI qn))] := hl
  show W p l e ({ frames := 1, cells := 1, slots := 70, locals := 40 } : Room) s m ([.ref va, .int (nI qn)] : List Value).toArray below meth c s.heap [] 0 0 _ (F0 m 0 ls [])
  refine u_genQ (fun Q hQ => ?_)
  refine lv_iload_n hx hb dJ7_copyOf_9075b_0 rfl (lv_at hl 1 rfl) ?_
  refine lv_aload_n hx hb dJ7_copyOf_9075b_1 rfl (lv_at hl 0 rfl) ?_
  refine va_alen (v := nI cp) hx hb hK hP 0 1 rfl rfl rfl dJ7_copyOf_9075b_2 ?_
  refine lv_icmp_ne (tgt := 14) hx hb dJ7_copyOf_9075b_3 (by decide) (fun c_1 => ?_) (fun c_1 => ?_)
  · skip
    have nc_1 : ¬ (qn = cp) := fun h => c_1 ((nI_eq (a := qn) (b := cp) (by omega) (by omega)).mpr h)
    refine lv_iload_n hx hb dJ7_copyOf_9075b_14 rfl (lv_at hl 1 rfl) ?_
    refine u_newaB hx hb (hts (.arrayClass .byte) (by decide +kernel)) hK 1 rfl hP hD hS hA (N := qn) rfl (by omega) (Nat.le_of_ble_eq_true rfl) (show 0 + qn ≤ 70 by omega) dJ7_copyOf_9075b_15 (fun q_2 H hP hD hS => ?_)
    have hP : va_P D vwCl [(va, .inl (cB, cp, .inl ba)), (q_2, .inl (cB, qn, .inl (fun _ => 0)))] H := hP
    have hD : va_D A [(va, .inl (cB, cp, .inl ba)), (q_2, .inl (cB, qn, .inl (fun _ => 0)))] := hD
    refine W.widen (k := 1) (n := 70) (Nat.le_refl _) (by omega) ?_
    refine lv_astore_n (lv' := [(2, .ref q_2), (0, .ref va), (1, .int (nI qn))]) hx hb dJ7_copyOf_9075b_17 rfl hl (by decide) rfl (fun ls hl => ?_)
    refine lv_aload_n hx hb dJ7_copyOf_9075b_18 rfl (lv_at hl 1 rfl) ?_
    refine lv_iconst (v := 0) hx hb dJ7_copyOf_9075b_19 (by decide) ?_
    refine lv_aload_n hx hb dJ7_copyOf_9075b_20 rfl (lv_at hl 0 rfl) ?_
    refine lv_iconst (v := 0) hx hb dJ7_copyOf_9075b_21 (by decide) ?_
    refine lv_aload_n hx hb dJ7_copyOf_9075b_22 rfl (lv_at hl 1 rfl) ?_
    refine va_alen (v := nI cp) hx hb hK hP 0 1 rfl rfl rfl dJ7_copyOf_9075b_23 ?_
    refine lv_iload_n hx hb dJ7_copyOf_9075b_24 rfl (lv_at hl 2 rfl) ?_
    refine va_mmin hx hb (by rw [hml]; exact hl.1.symm) hown (hts (.methodLink RJ7 304 Lib.Math.min.name) (by decide +kernel)) (hts (.static Lib.Math.min.name) (by decide +kernel)) (hts (.initialized "java/lang/Math") (by decide +kernel)) (hts (.code Lib.Math.min.name Lib.Math.min.code 2 (some .int)) (by decide +kernel)) (Nat.le_of_ble_eq_true rfl) (Nat.le_of_ble_eq_true rfl) (by show _ ≤ 1; omega) (by show _ ≤ 70; omega) dJ7_copyOf_9075b_25 ?_
    refine u_eqi (show mn (nI cp) (nI qn) = nI cp from mnn (by omega) (by omega)) ?_
    refine va_copyi hx hb (by rw [hml]; exact hl.1.symm) hown (hts (.methodLink RJ7 150 arraycopyName) (by decide +kernel)) (hts (.native arraycopyName) (by decide +kernel)) (hts (.static arraycopyName) (by decide +kernel)) (hts (.initialized "java/lang/System") (by decide +kernel)) hK hP hD hS 0 1 1 1 rfl rfl rfl rfl rfl (sp := nI 0) (dp := nI 0) (n := nI cp) (by decide) (by decide) (nI_pos (by omega)) (by rw [nI_clamp (by decide), nI_clamp (by omega)]; omega) (by rw [nI_clamp (by decide), nI_clamp (by omega)]; omega) (fun _ _ => ltr_fits (hL _)) (Nat.le_of_ble_eq_true rfl) (Nat.le_of_ble_eq_true rfl) dJ7_copyOf_9075b_28 (fun H locs hP hD hS => ?_)
    rw [nI_clamp (show 0 < 2 ^ 31 by decide), nI_clamp (show cp < 2 ^ 31 by omega)] at hP hD
    have hP : va_P D vwCl [(va, .inl (cB, cp, .inl ba)), (q_2, .inl (cB, qn, .inl (va_cpy ba (fun _ => 0) 0 0 cp)))] H := hP
    have hD : va_D A [(va, .inl (cB, cp, .inl ba)), (q_2, .inl (cB, qn, .inl (va_cpy ba (fun _ => 0) 0 0 cp)))] := hD
    refine lv_aload_n hx hb dJ7_copyOf_9075b_31 rfl (lv_at hl 0 rfl) ?_
    rw [← hQ]
    have hP9 := hP
    have hD9 := hD
    exact W.aret (v := .ref q_2) hx hb hr (Or.inr ⟨_, rfl⟩) (Or.inr ⟨_, rfl⟩) (fun t ht hW => ⟨⟨va_cpy ba (fun _ => 0) 0 0 cp, q_2, rfl, rfl, by rw [ht]; exact hP9, hD9⟩, hS.F ht⟩) hS.2.2 dJ7_copyOf_9075b_32
  · skip
    have nc_1 : qn = cp := (nI_eq (a := qn) (b := cp) (by omega) (by omega)).mp c_1
    exact absurd nc_1 (by omega)

set_option maxHeartbeats 4000000 in
set_option maxRecDepth 100000 in
theorem c_J5_ensureCapacityInternal_d00df (l : Launch) (D : va_G) (cI cB cZ cP : ClassId) (sz : Nat) (tz1 tz2 : Nat) (h0 va cp : Nat) (ml : Int32) (ba : Nat → Int32) (wt : List Int32) (qn : Nat) (hc : cap cp) (hR : rowIs ba wt) (hL : lat ba) (hwl : wt.length ≤ cp) (h64 : qn ≤ 64) (h3 : qn ≤ cp + 3) : Met l yJ5_ensureCapacityInternal_d00df wsJ5_ensureCapacityInternal_d00df ({ frames := 3, cells := 1, slots := 70, locals := 62 } : Room) (va_Pc [.ref h0, .int (nI qn)] (fun U => U.heap.size = sz ∧ va_P D vwCl [(h0, .inr (1, [.ref va, .int 0, .int ml, .int (nI wt.length)])), (va, .inl (cB, cp, .inl ba))] U.heap ∧ KW D cI cB cZ cP U ∧ va_D (fun _ => True) [(h0, .inr (1, [.ref va, .int 0, .int ml, .int (nI wt.length)])), (va, .inl (cB, cp, .inl ba))] ∧ EF [(h0, .inr (1, [.ref va, .int 0, .int ml, .int (nI wt.length)])), (va, .inl (cB, cp, .inl ba))] sz E0 U.heap ∧ ZZ tz1 tz2 (va_A [(h0, .inr (1, [.ref va, .int 0, .int ml, .int (nI wt.length)])), (va, .inl (cB, cp, .inl ba))] sz) U U.heap)) (va_Qv (fun (u : Nat × Nat × (Nat → Int32)) => match u with | (va1, cp1, a1) => cap cp1 ∧ qn ≤ cp1 ∧ rowIs a1 wt ∧ lat a1) (fun (u : Nat × Nat × (Nat → Int32)) (t : State) => match u with | (va1, cp1, a1) => va_P D vwCl [(h0, .inr (1, [.ref va1, .int 0, .int ml, .int (nI wt.length)])), (va1, .inl (cB, cp1, .inl a1))] t.heap ∧ va_D (va_A [(h0, .inr (1, [.ref va, .int 0, .int ml, .int (nI wt.length)])), (va, .inl (cB, cp, .inl ba))] sz) [(h0, .inr (1, [.ref va1, .int 0, .int ml, .int (nI wt.length)])), (va1, .inl (cB, cp1, .inl a1))]) (va_A [(h0, .inr (1, [.ref va, .int 0, .int ml, .int (nI wt.length)])), (va, .inl (cB, cp, .inl ba))] sz)) 1 70 (va_A [(h0, .inr (1, [.ref va, .int 0, .int ml, .int (nI wt.length)])), (va, .inl (cB, cp, .inl ba))] sz) := by
  refine Met.ofW (cc := cJ5_ensureCapacityInternal_d00df) (maxL := 3) (ret := none) (by decide) rfl ?_
  intro p e s m args below meth c s₁ B hml hv
  obtain ⟨rfl, hsz, hP, hW0, hD0, hE, hZ⟩ := hv
  have hx := B.exec
  have hb := B.bytes
  have hr := B.returns
  have hts := atoms_spec (ws := wsJ5_ensureCapacityInternal_d00df) B.pre
  have hown : s.vm.findClass RJ5 = some m.cls := findClass_of_methodNamed B.named
  have hlocks := B.notSynchronized
  have hK := hW0.1
  subst hsz
  have hD := hD0.self (sz := s.heap.size)
  unfold EF at hE
  generalize hAe : va_A [(h0, .inr (1, [.ref va, .int 0, .int ml, .int (nI wt.length)])), (va, .inl (cB, cp, .inl ba))] s.heap.size = A at hD hE hZ ⊢
  have hA : ∀ q : Nat, s.heap.size ≤ q → A q := fun q h => by rw [← hAe]; exact Or.inr h
  have hS : va_S A s.heap s.heap [] := va_S.rf
  have hl := lv_entry ([.ref h0, .int (nI qn)]) (n := 3) (Nat.le_of_ble_eq_true rfl)
  rw [lg_entry_eq]
  generalize (lg_sl ([.ref h0, .int (nI qn)]) ++ List.replicate (3 - (lg_sl ([.ref h0, .int (nI qn)])).length) Slot.unset).toArray = ls at hl ⊢
  have hl : lv_has ls 3 [(0, .ref h0), (1, .int (nI qn))] := hl
  show W p l e ({ frames := 3, cells := 1, slots := 70, locals := 62 } : Room) s m ([.ref h0, .int (nI qn)] : List Value).toArray below meth c s.heap [] 0 0 _ (F0 m 0 ls [])
  refine u_genQ (fun Q hQ => ?_)
  have hcb := cap_b hc
  refine lv_aload_n hx hb dJ5_ensureCapacityInternal_d00df_0 rfl (lv_at hl 0 rfl) ?_
  refine va_get (D := D) (ci := 1) (v := .ref va) (C := RJ4) (T := TJ4) (N := 4) hx hb hts (by decide +kernel) hown hK hP 0 rfl rfl 0 (by decide) (hts (.fieldLink RJ5 15 "java/lang/AbstractStringBuilder" "value" "[B") (by decide +kernel)) (fun _ h9 => h9) rfl dJ5_ensureCapacityInternal_d00df_1 ?_
  refine va_alen (v := nI cp) hx hb hK hP 1 1 rfl rfl rfl dJ5_ensureCapacityInternal_d00df_4 ?_
  refine lv_aload_n hx hb dJ5_ensureCapacityInternal_d00df_5 rfl (lv_at hl 0 rfl) ?_
  refine va_get (D := D) (ci := 1) (v := .int 0) (C := RJ4) (T := TJ4) (N := 4) hx hb hts (by decide +kernel) hown hK hP 0 rfl rfl 1 (by decide) (hts (.fieldLink RJ5 22 "java/lang/AbstractStringBuilder" "coder" "B") (by decide +kernel)) (fun _ h9 => h9) rfl dJ5_ensureCapacityInternal_d00df_6 ?_
  refine lv_ishr hx hb dJ5_ensureCapacityInternal_d00df_9 ?_
  refine u_eqi (show (nI cp) >>> (0 &&& 31) = nI cp from shr0 _) ?_
  refine lv_istore_n (lv' := [(2, .int (nI cp)), (0, .ref h0), (1, .int (nI qn))]) hx hb dJ5_ensureCapacityInternal_d00df_10 rfl hl (by decide) rfl (fun ls hl => ?_)
  refine lv_iload_n hx hb dJ5_ensureCapacityInternal_d00df_11 rfl (lv_at hl 2 rfl) ?_
  refine lv_iload_n hx hb dJ5_ensureCapacityInternal_d00df_12 rfl (lv_at hl 0 rfl) ?_
  refine lv_isub hx hb dJ5_ensureCapacityInternal_d00df_13 ?_
  refine lv_if_le (tgt := 38) hx hb dJ5_ensureCapacityInternal_d00df_14 (by decide) (fun c_1 => ?_) (fun c_1 => ?_)
  · skip
    have hgr : qn ≤ cp := by have h9 := c_1; rw [Int32.le_iff_toInt_le, tI_sub (by rw [nI_toInt (by omega), nI_toInt (by omega)]; omega) (by rw [nI_toInt (by omega), nI_toInt (by omega)]; omega), nI_toInt (by omega), nI_toInt (by omega), li_0] at h9; omega
    rw [← hQ]
    refine W.widen (k := 1) (n := 70) (by omega) (by omega) ?_
    have hP9 := hP
    have hD9 := hD
    have hP9 := hP9.sub (ws' := [(h0, .inr (1, [.ref va, .int 0, .int ml, .int (nI wt.length)])), (va, .inl (cB, cp, .inl ba))]) [0, 1] rfl
    have hD9 := hD9.sub (ws' := [(h0, .inr (1, [.ref va, .int 0, .int ml, .int (nI wt.length)])), (va, .inl (cB, cp, .inl ba))]) [0, 1] (by decide) rfl
    exact W.vret hx hb hr (fun t ht hW => ⟨⟨(va, cp, ba), rfl, ⟨hc, by omega, hR, hL⟩, by rw [ht]; exact hP9, hD9⟩, hS.F ht⟩) hS.2.2 dJ5_ensureCapacityInternal_d00df_38
  · skip
    have hgr : cp < qn := by have h9 := c_1; rw [Int32.le_iff_toInt_le, tI_sub (by rw [nI_toInt (by omega), nI_toInt (by omega)]; omega) (by rw [nI_toInt (by omega), nI_toInt (by omega)]; omega), nI_toInt (by omega), nI_toInt (by omega), li_0] at h9; omega
    refine lv_aload_n hx hb dJ5_ensureCapacityInternal_d00df_17 rfl (lv_at hl 1 rfl) ?_
    refine lv_aload_n hx hb dJ5_ensureCapacityInternal_d00df_18 rfl (lv_at hl 1 rfl) ?_
    refine va_get (D := D) (ci := 1) (v := .ref va) (C := RJ4) (T := TJ4) (N := 4) hx hb hts (by decide +kernel) hown hK hP 0 rfl rfl 0 (by decide) (hts (.fieldLink RJ5 15 "java/lang/AbstractStringBuilder" "value" "[B") (by decide +kernel)) (fun _ h9 => h9) rfl dJ5_ensureCapacityInternal_d00df_19 ?_
    refine lv_aload_n hx hb dJ5_ensureCapacityInternal_d00df_22 rfl (lv_at hl 1 rfl) ?_
    refine lv_iload_n hx hb dJ5_ensureCapacityInternal_d00df_23 rfl (lv_at hl 2 rfl) ?_
    have hPc := hP.sub (ws' := [(h0, .inr (1, [.ref va, .int 0, .int ml, .int (nI wt.length)])), (va, .inl (cB, cp, .inl ba))]) [0, 1] rfl
    refine u_callSi (va_runU (As := [.int (nI qn)]) (rest := [.ref va, .ref h0]) ⟨hx, hb, hml, hown, hts⟩ (c_J5_newCapacity_0f7a4 l D cI cB cZ cP h0 va cp ml ba wt qn (hc) (hgr) (h3)) (va_cwU 1 hts gJ5_ensureCapacityInternal_d00df_J5_newCapacity_0f7a4_u104J4 rfl rfl rfl rfl (by decide +kernel) ⟨Nat.le_of_ble_eq_true rfl, Nat.le_of_ble_eq_true rfl⟩) (pV (q0 := 0) hPc hW0 trivial rfl rfl) rfl rfl hl.1 rfl (lv_room (Nat.le_of_ble_eq_true rfl)) dJ5_ensureCapacityInternal_d00df_24 ⟨Nat.le_of_ble_eq_true rfl, Nat.le_of_ble_eq_true rfl⟩).run ?_
    refine lv_aload_n hx hb dJ5_ensureCapacityInternal_d00df_27 rfl (lv_at hl 1 rfl) ?_
    refine va_get (D := D) (ci := 1) (v := .int 0) (C := RJ4) (T := TJ4) (N := 4) hx hb hts (by decide +kernel) hown hK hP 0 rfl rfl 1 (by decide) (hts (.fieldLink RJ5 22 "java/lang/AbstractStringBuilder" "coder" "B") (by decide +kernel)) (fun _ h9 => h9) rfl dJ5_ensureCapacityInternal_d00df_28 ?_
    refine lv_ishl hx hb dJ5_ensureCapacityInternal_d00df_31 ?_
    refine u_eqi (show (nI (2 * cp + 2)) <<< (0 &&& 31) = nI (2 * cp + 2) from shl0 _) ?_
    have hPc := hP.sub (ws' := [(va, .inl (cB, cp, .inl ba))]) [1] rfl
    have hDc := hD.sub (ws' := [(va, .inl (cB, cp, .inl ba))]) [1] (by decide) rfl
    have hFc := va_free (wc := [(va, .inl (cB, cp, .inl ba))]) hD hS hA [1] rfl
    refine va_callr (va_runS (As := [.ref va, .int (nI (2 * cp + 2))]) (rest := [.ref h0]) ⟨hx, hb, hml, hown, hts⟩ (c_J7_copyOf_9075b l D cI cB cZ cP s.heap.size tz1 tz2 va cp ba (2 * cp + 2) (by omega) (by have := (cap_s hc hgr h64 h3).2.2; omega) (hL)) (va_cwS 2 hts gJ5_ensureCapacityInternal_d00df_J7_copyOf_9075b rfl rfl rfl (by decide +kernel) ⟨Nat.le_of_ble_eq_true rfl, Nat.le_of_ble_eq_true rfl⟩) (pSQZ hPc hDc hW0 EF.t (hZ.to hS.2.1 hFc)) rfl rfl hl.1 rfl (lv_room (Nat.le_of_ble_eq_true rfl)) dJ5_ensureCapacityInternal_d00df_32 ⟨Nat.le_of_ble_eq_true rfl, Nat.le_of_ble_eq_true rfl⟩) hS (fun q _ h => hFc q h) hFc (fun u ra_2 t H1 locs ht hvm hw hB hz1 hk1 hS => ?_)
    obtain ⟨g_2, rfl⟩ : ∃ z, z = u := ⟨_, rfl⟩
    obtain ⟨hP1, hD1⟩ := hB
    rw [ht] at hP1
    have hw_2 : g_2 = va_cpy ba (fun _ => 0) 0 0 cp := hw
    obtain ⟨hP, hD⟩ := va_join (wr := [(h0, .inr (1, [.ref va, .int 0, .int ml, .int (nI wt.length)]))]) (w1 := [(va, .inl (cB, cp, .inl ba)), (ra_2, .inl (cB, (2 * cp + 2), .inl g_2))]) hP hD [1] [0] rfl rfl (by decide) (by decide) hk1 hFc hP1 hD1
    generalize H1 = H at hP hS ⊢
    have hP := hP.sub (ws' := [(h0, .inr (1, [.ref va, .int 0, .int ml, .int (nI wt.length)])), (va, .inl (cB, cp, .inl ba)), (ra_2, .inl (cB, (2 * cp + 2), .inl g_2))]) [0, 1, 2] rfl
    have hD := hD.sub (ws' := [(h0, .inr (1, [.ref va, .int 0, .int ml, .int (nI wt.length)])), (va, .inl (cB, cp, .inl ba)), (ra_2, .inl (cB, (2 * cp + 2), .inl g_2))]) [0, 1, 2] (by decide) rfl
    refine va_put (D := D) (ci := 1) (v := .ref ra_2) (ty := .array .byte) (C := RJ4) (T := TJ4) (N := 4) hx hb hts (by decide +kernel) tyJ4 tyJ4_ok nmJ4 hown hK hP hD hS 0 rfl rfl 0 (by decide) (hts (.fieldLink RJ5 15 "java/lang/AbstractStringBuilder" "value" "[B") (by decide +kernel)) (fun _ h9 => h9) rfl (by decide +kernel) rfl rfl (Nat.le_of_ble_eq_true rfl) dJ5_ensureCapacityInternal_d00df_35 (fun H locs hP hD hS => ?_)
    have hP : va_P D vwCl [(h0, .inr (1, [.ref ra_2, .int 0, .int ml, .int (nI wt.length)])), (va, .inl (cB, cp, .inl ba)), (ra_2, .inl (cB, (2 * cp + 2), .inl g_2))] H := hP
    have hD : va_D A [(h0, .inr (1, [.ref ra_2, .int 0, .int ml, .int (nI wt.length)])), (va, .inl (cB, cp, .inl ba)), (ra_2, .inl (cB, (2 * cp + 2), .inl g_2))] := hD
    rw [← hQ]
    have hP9 := hP
    have hD9 := hD
    have hP9 := hP9.sub (ws' := [(h0, .inr (1, [.ref ra_2, .int 0, .int ml, .int (nI wt.length)])), (ra_2, .inl (cB, (2 * cp + 2), .inl g_2))]) [0, 2] rfl
    have hD9 := hD9.sub (ws' := [(h0, .inr (1, [.ref ra_2, .int 0, .int ml, .int (nI wt.length)])), (ra_2, .inl (cB, (2 * cp + 2), .inl g_2))]) [0, 2] (by decide) rfl
    exact W.vret hx hb hr (fun t ht hW => ⟨⟨(ra_2, 2 * cp + 2, g_2), rfl, ⟨(cap_s hc hgr h64 h3).1, (cap_s hc hgr h64 h3).2.1, by rw [hw_2]; exact row_cp hR hwl, by rw [hw_2]; exact lat_cp hL lat_0⟩, by rw [ht]; exact hP9, hD9⟩, hS.F ht⟩) hS.2.2 dJ5_ensureCapacityInternal_d00df_38

set_option maxHeartbeats 4000000 in
set_option maxRecDepth 100000 in
theorem c_J5_append_3fe6f (l : Launch) (D : va_G) (cI cB cZ cP : ClassId) (sz : Nat) (tz1 tz2 : Nat) (h0 va cp : Nat) (ml : Int32) (ba : Nat → Int32) (wt : List Int32) (x : Int32) (hc : cap cp) (hR : rowIs ba wt) (hL : lat ba) (hwl : wt.length ≤ cp) (h64 : wt.length + 3 ≤ 64) (hx9 : ltr x) : Met l yJ5_append_3fe6f wsJ5_append_3fe6f ({ frames := 4, cells := 1, slots := 70, locals := 84 } : Room) (va_Pc [.ref h0, .int x] (fun U => U.heap.size = sz ∧ va_P D vwCl [(h0, .inr (1, [.ref va, .int 0, .int ml, .int (nI wt.length)])), (va, .inl (cB, cp, .inl ba))] U.heap ∧ KW D cI cB cZ cP U ∧ va_D (fun _ => True) [(h0, .inr (1, [.ref va, .int 0, .int ml, .int (nI wt.length)])), (va, .inl (cB, cp, .inl ba))] ∧ EF [(h0, .inr (1, [.ref va, .int 0, .int ml, .int (nI wt.length)])), (va, .inl (cB, cp, .inl ba))] sz E0 U.heap ∧ ZZ tz1 tz2 (va_A [(h0, .inr (1, [.ref va, .int 0, .int ml, .int (nI wt.length)])), (va, .inl (cB, cp, .inl ba))] sz) U U.heap)) (va_Qr (fun (u : Nat × Nat × (Nat → Int32)) => match u with | (va1, cp1, a1) => cap cp1 ∧ (wt ++ [x]).length ≤ cp1 ∧ rowIs a1 (wt ++ [x]) ∧ lat a1) (fun (u : Nat × Nat × (Nat → Int32)) (ra : Nat) (t : State) => match u with | (va1, cp1, a1) => h0 = ra ∧ va_P D vwCl [(h0, .inr (1, [.ref va1, .int 0, .int ml, .int (nI (wt ++ [x]).length)])), (va1, .inl (cB, cp1, .inl a1))] t.heap ∧ va_D (va_A [(h0, .inr (1, [.ref va, .int 0, .int ml, .int (nI wt.length)])), (va, .inl (cB, cp, .inl ba))] sz) [(h0, .inr (1, [.ref va1, .int 0, .int ml, .int (nI (wt ++ [x]).length)])), (va1, .inl (cB, cp1, .inl a1))]) (va_A [(h0, .inr (1, [.ref va, .int 0, .int ml, .int (nI wt.length)])), (va, .inl (cB, cp, .inl ba))] sz)) 1 70 (va_A [(h0, .inr (1, [.ref va, .int 0, .int ml, .int (nI wt.length)])), (va, .inl (cB, cp, .inl ba))] sz) := by
  refine Met.ofW (cc := cJ5_append_3fe6f) (maxL := 2) (ret := (some (.object "java/lang/AbstractStringBuilder"))) (by decide) rfl ?_
  intro p e s m args below meth c s₁ B hml hv
  obtain ⟨rfl, hsz, hP, hW0, hD0, hE, hZ⟩ := hv
  have hx := B.exec
  have hb := B.bytes
  have hr := B.returns
  have hts := atoms_spec (ws := wsJ5_append_3fe6f) B.pre
  have hown : s.vm.findClass RJ5 = some m.cls := findClass_of_methodNamed B.named
  have hlocks := B.notSynchronized
  have hK := hW0.1
  subst hsz
  have hD := hD0.self (sz := s.heap.size)
  unfold EF at hE
  generalize hAe : va_A [(h0, .inr (1, [.ref va, .int 0, .int ml, .int (nI wt.length)])), (va, .inl (cB, cp, .inl ba))] s.heap.size = A at hD hE hZ ⊢
  have hA : ∀ q : Nat, s.heap.size ≤ q → A q := fun q h => by rw [← hAe]; exact Or.inr h
  have hS : va_S A s.heap s.heap [] := va_S.rf
  have hl := lv_entry ([.ref h0, .int x]) (n := 2) (Nat.le_of_ble_eq_true rfl)
  rw [lg_entry_eq]
  generalize (lg_sl ([.ref h0, .int x]) ++ List.replicate (2 - (lg_sl ([.ref h0, .int x])).length) Slot.unset).toArray = ls at hl ⊢
  have hl : lv_has ls 2 [(0, .ref h0), (1, .int x)] := hl
  show W p l e ({ frames := 4, cells := 1, slots := 70, locals := 84 } : Room) s m ([.ref h0, .int x] : List Value).toArray below meth c s.heap [] 0 0 _ (F0 m 0 ls [])
  refine u_genQ (fun Q hQ => ?_)
  refine lv_aload_n hx hb dJ5_append_3fe6f_0 rfl (lv_at hl 0 rfl) ?_
  refine lv_aload_n hx hb dJ5_append_3fe6f_1 rfl (lv_at hl 0 rfl) ?_
  refine va_get (D := D) (ci := 1) (v := .int (nI wt.length)) (C := RJ4) (T := TJ4) (N := 4) hx hb hts (by decide +kernel) hown hK hP 0 rfl rfl 3 (by decide) (hts (.fieldLink RJ5 79 "java/lang/AbstractStringBuilder" "count" "I") (by decide +kernel)) (fun _ h9 => h9) rfl dJ5_append_3fe6f_2 ?_
  refine lv_iconst (v := 1) hx hb dJ5_append_3fe6f_5 (by decide) ?_
  refine lv_iadd hx hb dJ5_append_3fe6f_6 ?_
  refine u_eqi (show (nI wt.length) + 1 = nI (wt.length + 1) from nI_1 _) ?_
  have hPc := hP.sub (ws' := [(h0, .inr (1, [.ref va, .int 0, .int ml, .int (nI wt.length)])), (va, .inl (cB, cp, .inl ba))]) [0, 1] rfl
  have hDc := hD.sub (ws' := [(h0, .inr (1, [.ref va, .int 0, .int ml, .int (nI wt.length)])), (va, .inl (cB, cp, .inl ba))]) [0, 1] (by decide) rfl
  have hFc := va_free (wc := [(h0, .inr (1, [.ref va, .int 0, .int ml, .int (nI wt.length)])), (va, .inl (cB, cp, .inl ba))]) hD hS hA [0, 1] rfl
  refine va_callv (va_runU (As := [.int (nI (wt.length + 1))]) (rest := []) ⟨hx, hb, hml, hown, hts⟩ (c_J5_ensureCapacityInternal_d00df l D cI cB cZ cP s.heap.size tz1 tz2 h0 va cp ml ba wt (wt.length + 1) (hc) (hR) (hL) (hwl) (by omega) (by omega)) (va_cwU 1 hts gJ5_append_3fe6f_J5_ensureCapacityInternal_d00df_u100J4 rfl rfl rfl rfl (by decide +kernel) ⟨Nat.le_of_ble_eq_true rfl, Nat.le_of_ble_eq_true rfl⟩) (pVQZ (q0 := 0) hPc hDc hW0 EF.t (hZ.to hS.2.1 hFc) rfl rfl) rfl rfl hl.1 rfl (lv_room (Nat.le_of_ble_eq_true rfl)) dJ5_append_3fe6f_7 ⟨Nat.le_of_ble_eq_true rfl, Nat.le_of_ble_eq_true rfl⟩) hS (fun q _ h => hFc q h) hFc (fun u t H1 locs ht hvm hw hB hz1 hk1 hS => ?_)
  obtain ⟨va1_1, cp1_1, a1_1⟩ := u
  obtain ⟨hP1, hD1⟩ := hB
  rw [ht] at hP1
  have hw_1 : cap cp1_1 ∧ (wt.length + 1) ≤ cp1_1 ∧ rowIs a1_1 wt ∧ lat a1_1 := hw
  obtain ⟨hP, hD⟩ := va_join (wr := []) (w1 := [(h0, .inr (1, [.ref va1_1, .int 0, .int ml, .int (nI wt.length)])), (va1_1, .inl (cB, cp1_1, .inl a1_1))]) hP hD [0, 1] [] rfl rfl (by decide) (by decide) hk1 hFc hP1 hD1
  generalize H1 = H at hP hS ⊢
  have hP := hP.sub (ws' := [(h0, .inr (1, [.ref va1_1, .int 0, .int ml, .int (nI wt.length)])), (va1_1, .inl (cB, cp1_1, .inl a1_1))]) [0, 1] rfl
  have hD := hD.sub (ws' := [(h0, .inr (1, [.ref va1_1, .int 0, .int ml, .int (nI wt.length)])), (va1_1, .inl (cB, cp1_1, .inl a1_1))]) [0, 1] (by decide) rfl
  have hcb9 := cap_b hw_1.1
  have hcl9 := hw_1.2.1
  refine lv_aload_n hx hb dJ5_append_3fe6f_10 rfl (lv_at hl 0 rfl) ?_
  have hPc := hP.sub (ws' := [(h0, .inr (1, [.ref va1_1, .int 0, .int ml, .int (nI wt.length)]))]) [0] rfl
  refine u_callSi (va_runU (As := []) (rest := []) ⟨hx, hb, hml, hown, hts⟩ (c_J5_isLatin1_aae02 l D cI cB cZ cP tz1 tz2 h0 va1_1 ml wt ) (va_cwU 0 hts gJ5_append_3fe6f_J5_isLatin1_aae02_u83J4 rfl rfl rfl rfl (by decide +kernel) ⟨Nat.le_of_ble_eq_true rfl, Nat.le_of_ble_eq_true rfl⟩) (pVZ (q0 := 0) hPc hW0 trivial (hZ.to hS.2.1 (fun _ h => h.elim)) rfl rfl) rfl rfl hl.1 rfl (lv_room (Nat.le_of_ble_eq_true rfl)) dJ5_append_3fe6f_11 ⟨Nat.le_of_ble_eq_true rfl, Nat.le_of_ble_eq_true rfl⟩).run ?_
  refine lv_if_eq (tgt := 45) hx hb dJ5_append_3fe6f_14 (by decide) (fun c_2 => ?_) (fun c_2 => ?_)
  · skip
    exact absurd c_2 (by decide)
  · skip
    refine lv_iload_n hx hb dJ5_append_3fe6f_17 rfl (lv_at hl 1 rfl) ?_
    have hPc := hP.sub (ws' := []) [] rfl
    refine u_callSi (W.runS (As := [.int x]) (rest := []) ⟨hx, hb, hml, hown, hts⟩ (c_J1_canEncode_fc78d l D cI cB cZ cP x (by first | assumption | omega)) (va_cwS 1 hts gJ5_append_3fe6f_J1_canEncode_fc78d rfl rfl rfl (by decide +kernel) ⟨Nat.le_of_ble_eq_true rfl, Nat.le_of_ble_eq_true rfl⟩) (pS hPc hW0 trivial) rfl rfl hl.1 rfl (lv_room (Nat.le_of_ble_eq_true rfl)) dJ5_append_3fe6f_18 ⟨Nat.le_of_ble_eq_true rfl, Nat.le_of_ble_eq_true rfl⟩) ?_
    refine lv_if_eq (tgt := 45) hx hb dJ5_append_3fe6f_21 (by decide) (fun c_3 => ?_) (fun c_3 => ?_)
    · skip
      exact absurd c_3 (by decide)
    · skip
      refine lv_aload_n hx hb dJ5_append_3fe6f_24 rfl (lv_at hl 0 rfl) ?_
      refine va_get (D := D) (ci := 1) (v := .ref va1_1) (C := RJ4) (T := TJ4) (N := 4) hx hb hts (by decide +kernel) hown hK hP 0 rfl rfl 0 (by decide) (hts (.fieldLink RJ5 15 "java/lang/AbstractStringBuilder" "value" "[B") (by decide +kernel)) (fun _ h9 => h9) rfl dJ5_append_3fe6f_25 ?_
      refine lv_aload_n hx hb dJ5_append_3fe6f_28 rfl (lv_at hl 0 rfl) ?_
      refine lv_dup hx hb dJ5_append_3fe6f_29 rfl ?_
      refine va_get (D := D) (ci := 1) (v := .int (nI wt.length)) (C := RJ4) (T := TJ4) (N := 4) hx hb hts (by decide +kernel) hown hK hP 0 rfl rfl 3 (by decide) (hts (.fieldLink RJ5 79 "java/lang/AbstractStringBuilder" "count" "I") (by decide +kernel)) (fun _ h9 => h9) rfl dJ5_append_3fe6f_30 ?_
      refine lv_dup_x1 hx hb dJ5_append_3fe6f_33 rfl rfl ?_
      refine lv_iconst (v := 1) hx hb dJ5_append_3fe6f_34 (by decide) ?_
      refine lv_iadd hx hb dJ5_append_3fe6f_35 ?_
      refine u_eqi (show (nI wt.length) + 1 = nI (wt ++ [x]).length from nI_len1 _ _) ?_
      refine va_put (D := D) (ci := 1) (v := .int (nI (wt ++ [x]).length)) (ty := .int) (C := RJ4) (T := TJ4) (N := 4) hx hb hts (by decide +kernel) tyJ4 tyJ4_ok nmJ4 hown hK hP hD hS 0 rfl rfl 3 (by decide) (hts (.fieldLink RJ5 79 "java/lang/AbstractStringBuilder" "count" "I") (by decide +kernel)) (fun _ h9 => h9) rfl (by decide +kernel) rfl rfl (Nat.le_of_ble_eq_true rfl) dJ5_append_3fe6f_36 (fun H locs hP hD hS => ?_)
      have hP : va_P D vwCl [(h0, .inr (1, [.ref va1_1, .int 0, .int ml, .int (nI (wt ++ [x]).length)])), (va1_1, .inl (cB, cp1_1, .inl a1_1))] H := hP
      have hD : va_D A [(h0, .inr (1, [.ref va1_1, .int 0, .int ml, .int (nI (wt ++ [x]).length)])), (va1_1, .inl (cB, cp1_1, .inl a1_1))] := hD
      refine lv_iload_n hx hb dJ5_append_3fe6f_39 rfl (lv_at hl 1 rfl) ?_
      refine lv_i2b hx hb dJ5_append_3fe6f_40 rfl ?_
      refine u_bast hx hb hK hP hD hS 1 1 rfl rfl rfl ⟨by omega, by omega⟩ dJ5_append_3fe6f_41 (fun H locs hP hD hS => ?_)
      have hP : va_P D vwCl [(h0, .inr (1, [.ref va1_1, .int 0, .int ml, .int (nI (wt ++ [x]).length)])), (va1_1, .inl (cB, cp1_1, .inl (upd a1_1 wt.length (vp_nar .byte x.toInt8.toInt32))))] H := hP
      have hD : va_D A [(h0, .inr (1, [.ref va1_1, .int 0, .int ml, .int (nI (wt ++ [x]).length)])), (va1_1, .inl (cB, cp1_1, .inl (upd a1_1 wt.length (vp_nar .byte x.toInt8.toInt32))))] := hD
      rw [show (upd a1_1 wt.length (vp_nar .byte x.toInt8.toInt32)) = upd a1_1 wt.length x from by rw [ltr_b hx9]] at hP hD
      refine lv_goto (tgt := 75) hx hb dJ5_append_3fe6f_42 (by decide) ?_
      refine lv_aload_n hx hb dJ5_append_3fe6f_75 rfl (lv_at hl 0 rfl) ?_
      rw [← hQ]
      have hP9 := hP
      have hD9 := hD
      exact W.aret (v := .ref h0) hx hb hr (Or.inl ⟨_, rfl⟩) (Or.inr ⟨_, rfl⟩) (fun t ht hW => ⟨⟨(va1_1, cp1_1, upd a1_1 wt.length x), h0, rfl, ⟨hw_1.1, by rw [List.length_append]; exact hw_1.2.1, rowIs_app hw_1.2.2.1 rfl, lat_up hw_1.2.2.2 hx9⟩, rfl, by rw [ht]; exact hP9, hD9⟩, hS.F ht⟩) hS.2.2 dJ5_append_3fe6f_76

set_option maxHeartbeats 4000000 in
set_option maxRecDepth 100000 in
theorem c_J4_append_cf468 (l : Launch) (D : va_G) (cI cB cZ cP : ClassId) (sz : Nat) (tz1 tz2 : Nat) (h0 va cp : Nat) (ml : Int32) (ba : Nat → Int32) (wt : List Int32) (x : Int32) (hc : cap cp) (hR : rowIs ba wt) (hL : lat ba) (hwl : wt.length ≤ cp) (h64 : wt.length + 3 ≤ 64) (hx9 : ltr x) : Met l yJ4_append_cf468 wsJ4_append_cf468 ({ frames := 5, cells := 1, slots := 70, locals := 105 } : Room) (va_Pc [.ref h0, .int x] (fun U => U.heap.size = sz ∧ va_P D vwCl [(h0, .inr (1, [.ref va, .int 0, .int ml, .int (nI wt.length)])), (va, .inl (cB, cp, .inl ba))] U.heap ∧ KW D cI cB cZ cP U ∧ va_D (fun _ => True) [(h0, .inr (1, [.ref va, .int 0, .int ml, .int (nI wt.length)])), (va, .inl (cB, cp, .inl ba))] ∧ EF [(h0, .inr (1, [.ref va, .int 0, .int ml, .int (nI wt.length)])), (va, .inl (cB, cp, .inl ba))] sz E0 U.heap ∧ ZZ tz1 tz2 (va_A [(h0, .inr (1, [.ref va, .int 0, .int ml, .int (nI wt.length)])), (va, .inl (cB, cp, .inl ba))] sz) U U.heap)) (va_Qr (fun (u : Nat × Nat × (Nat → Int32)) => match u with | (va1, cp1, a1) => cap cp1 ∧ (wt ++ [x]).length ≤ cp1 ∧ rowIs a1 (wt ++ [x]) ∧ lat a1) (fun (u : Nat × Nat × (Nat → Int32)) (ra : Nat) (t : State) => match u with | (va1, cp1, a1) => h0 = ra ∧ va_P D vwCl [(h0, .inr (1, [.ref va1, .int 0, .int ml, .int (nI (wt ++ [x]).length)])), (va1, .inl (cB, cp1, .inl a1))] t.heap ∧ va_D (va_A [(h0, .inr (1, [.ref va, .int 0, .int ml, .int (nI wt.length)])), (va, .inl (cB, cp, .inl ba))] sz) [(h0, .inr (1, [.ref va1, .int 0, .int ml, .int (nI (wt ++ [x]).length)])), (va1, .inl (cB, cp1, .inl a1))]) (va_A [(h0, .inr (1, [.ref va, .int 0, .int ml, .int (nI wt.length)])), (va, .inl (cB, cp, .inl ba))] sz)) 1 70 (va_A [(h0, .inr (1, [.ref va, .int 0, .int ml, .int (nI wt.length)])), (va, .inl (cB, cp, .inl ba))] sz) := by
  refine Met.ofW (cc := cJ4_append_cf468) (maxL := 2) (ret := (some (.object "java/lang/StringBuilder"))) (by decide) rfl ?_
  intro p e s m args below meth c s₁ B hml hv
  obtain ⟨rfl, hsz, hP, hW0, hD0, hE, hZ⟩ := hv
  have hx := B.exec
  have hb := B.bytes
  have hr := B.returns
  have hts := atoms_spec (ws := wsJ4_append_cf468) B.pre
  have hown : s.vm.findClass RJ4 = some m.cls := findClass_of_methodNamed B.named
  have hlocks := B.notSynchronized
  have hK := hW0.1
  subst hsz
  have hD := hD0.self (sz := s.heap.size)
  unfold EF at hE
  generalize hAe : va_A [(h0, .inr (1, [.ref va, .int 0, .int ml, .int (nI wt.length)])), (va, .inl (cB, cp, .inl ba))] s.heap.size = A at hD hE hZ ⊢
  have hA : ∀ q : Nat, s.heap.size ≤ q → A q := fun q h => by rw [← hAe]; exact Or.inr h
  have hS : va_S A s.heap s.heap [] := va_S.rf
  have hl := lv_entry ([.ref h0, .int x]) (n := 2) (Nat.le_of_ble_eq_true rfl)
  rw [lg_entry_eq]
  generalize (lg_sl ([.ref h0, .int x]) ++ List.replicate (2 - (lg_sl ([.ref h0, .int x])).length) Slot.unset).toArray = ls at hl ⊢
  have hl : lv_has ls 2 [(0, .ref h0), (1, .int x)] := hl
  show W p l e ({ frames := 5, cells := 1, slots := 70, locals := 105 } : Room) s m ([.ref h0, .int x] : List Value).toArray below meth c s.heap [] 0 0 _ (F0 m 0 ls [])
  refine u_genQ (fun Q hQ => ?_)
  refine lv_aload_n hx hb dJ4_append_cf468_0 rfl (lv_at hl 0 rfl) ?_
  refine lv_iload_n hx hb dJ4_append_cf468_1 rfl (lv_at hl 1 rfl) ?_
  have hPc := hP.sub (ws' := [(h0, .inr (1, [.ref va, .int 0, .int ml, .int (nI wt.length)])), (va, .inl (cB, cp, .inl ba))]) [0, 1] rfl
  have hDc := hD.sub (ws' := [(h0, .inr (1, [.ref va, .int 0, .int ml, .int (nI wt.length)])), (va, .inl (cB, cp, .inl ba))]) [0, 1] (by decide) rfl
  have hFc := va_free (wc := [(h0, .inr (1, [.ref va, .int 0, .int ml, .int (nI wt.length)])), (va, .inl (cB, cp, .inl ba))]) hD hS hA [0, 1] rfl
  refine va_callr (va_runSU (As := [.int x]) (rest := []) hW0.sb ⟨hx, hb, hml, hown, hts⟩ (c_J5_append_3fe6f l D cI cB cZ cP s.heap.size tz1 tz2 h0 va cp ml ba wt x (hc) (hR) (hL) (hwl) (h64) (hx9)) (va_cwSU 1 hts gJ4_append_cf468_J5_append_3fe6f_s50 rfl rfl rfl (by decide +kernel) ⟨Nat.le_of_ble_eq_true rfl, Nat.le_of_ble_eq_true rfl⟩) (pVQZ (q0 := 0) hPc hDc hW0 EF.t (hZ.to hS.2.1 hFc) rfl rfl) rfl rfl hl.1 rfl (lv_room (Nat.le_of_ble_eq_true rfl)) dJ4_append_cf468_2 ⟨Nat.le_of_ble_eq_true rfl, Nat.le_of_ble_eq_true rfl⟩) hS (fun q _ h => hFc q h) hFc (fun u ra_1 t H1 locs ht hvm hw hB hz1 hk1 hS => ?_)
  obtain ⟨va1_1, cp1_1, a1_1⟩ := u
  obtain ⟨hra, hP1, hD1⟩ := hB
  rw [ht] at hP1
  subst hra
  have hw_1 : cap cp1_1 ∧ (wt ++ [x]).length ≤ cp1_1 ∧ rowIs a1_1 (wt ++ [x]) ∧ lat a1_1 := hw
  obtain ⟨hP, hD⟩ := va_join (wr := []) (w1 := [(h0, .inr (1, [.ref va1_1, .int 0, .int ml, .int (nI (wt ++ [x]).length)])), (va1_1, .inl (cB, cp1_1, .inl a1_1))]) hP hD [0, 1] [] rfl rfl (by decide) (by decide) hk1 hFc hP1 hD1
  generalize H1 = H at hP hS ⊢
  have hP := hP.sub (ws' := [(h0, .inr (1, [.ref va1_1, .int 0, .int ml, .int (nI (wt ++ [x]).length)])), (va1_1, .inl (cB, cp1_1, .inl a1_1))]) [0, 1] rfl
  have hD := hD.sub (ws' := [(h0, .inr (1, [.ref va1_1, .int 0, .int ml, .int (nI (wt ++ [x]).length)])), (va1_1, .inl (cB, cp1_1, .inl a1_1))]) [0, 1] (by decide) rfl
  refine lv_pop hx hb dJ4_append_cf468_5 rfl ?_
  refine lv_aload_n hx hb dJ4_append_cf468_6 rfl (lv_at hl 0 rfl) ?_
  rw [← hQ]
  have hP9 := hP
  have hD9 := hD
  exact W.aret (v := .ref h0) hx hb hr (Or.inl ⟨_, rfl⟩) (Or.inr ⟨_, rfl⟩) (fun t ht hW => ⟨⟨(va1_1, cp1_1, a1_1), h0, rfl, hw_1, rfl, by rw [ht]; exact hP9, hD9⟩, hS.F ht⟩) hS.2.2 dJ4_append_cf468_7

set_option maxHeartbeats 4000000 in
set_option maxRecDepth 100000 in
theorem c_J6_stringSize_0f7a4 (l : Launch) (D : va_G) (cI cB cZ cP : ClassId) (kd : Nat) (hk : kd ≤ 99) : Met l yJ6_stringSize_0f7a4 wsJ6_stringSize_0f7a4 ({ frames := 0, cells := 0, slots := 0, locals := 0 } : Room) (va_Pc [.int (nI kd)] (fun U => va_P D vwCl [] U.heap ∧ KW D cI cB cZ cP U ∧ E0 U.heap)) (vp_Si (fun r => r = nI (dg kd).length)) 0 0 (fun _ => False) := by
  refine Met.ofW (cc := cJ6_stringSize_0f7a4) (maxL := 4) (ret := (some .int)) (by decide) rfl ?_
  intro p e s m args below meth c s₁ B hml hv
  obtain ⟨rfl, hP, hW0, hE⟩ := hv
  have hx := B.exec
  have hb := B.bytes
  have hr := B.returns
  have hts := atoms_spec (ws := wsJ6_stringSize_0f7a4) B.pre
  have hown : s.vm.findClass RJ6 = some m.cls := findClass_of_methodNamed B.named
  have hlocks := B.notSynchronized
  have hK := hW0.1
  have hl := lv_entry ([.int (nI kd)]) (n := 4) (Nat.le_of_ble_eq_true rfl)
  rw [lg_entry_eq]
  generalize (lg_sl ([.int (nI kd)]) ++ List.replicate (4 - (lg_sl ([.int (nI kd)])).length) Slot.unset).toArray = ls at hl ⊢
  have hl : lv_has ls 4 [(0, .int (nI kd))] := hl
  show W p l e ({ frames := 0, cells := 0, slots := 0, locals := 0 } : Room) s m ([.int (nI kd)] : List Value).toArray below meth c s.heap [] 0 0 _ (F0 m 0 ls [])
  refine u_genQ (fun Q hQ => ?_)
  refine lv_iconst (v := 1) hx hb dJ6_stringSize_0f7a4_0 (by decide) ?_
  refine lv_istore_n (lv' := [(1, .int 1), (0, .int (nI kd))]) hx hb dJ6_stringSize_0f7a4_1 rfl hl (by decide) rfl (fun ls hl => ?_)
  refine lv_iload_n hx hb dJ6_stringSize_0f7a4_2 rfl (lv_at hl 1 rfl) ?_
  refine lv_if_lt (tgt := 11) hx hb dJ6_stringSize_0f7a4_3 (by decide) (fun c_1 => ?_) (fun c_1 => ?_)
  · skip
    have nc_1 : kd < 0 := (nI_ltI (a := kd) (b := 0) (by omega) (by omega)).mp c_1
    exact absurd c_1 (nI_pos (by omega))
  · skip
    have nc_1 : ¬ (kd < 0) := fun h => c_1 ((nI_ltI (a := kd) (b := 0) (by omega) (by omega)).mpr h)
    refine lv_iconst (v := 0) hx hb dJ6_stringSize_0f7a4_6 (by decide) ?_
    refine lv_istore_n (lv' := [(1, .int 0), (0, .int (nI kd))]) hx hb dJ6_stringSize_0f7a4_7 rfl hl (by decide) rfl (fun ls hl => ?_)
    refine lv_iload_n hx hb dJ6_stringSize_0f7a4_8 rfl (lv_at hl 1 rfl) ?_
    refine lv_ineg hx hb dJ6_stringSize_0f7a4_9 ?_
    refine lv_istore_n (lv' := [(0, .int (-(nI kd))), (1, .int 0)]) hx hb dJ6_stringSize_0f7a4_10 rfl hl (by decide) rfl (fun ls hl => ?_)
    refine lv_bipush (v := (-10)) hx hb dJ6_stringSize_0f7a4_11 (by decide) ?_
    refine lv_istore_n (lv' := [(2, .int (-10)), (0, .int (-(nI kd))), (1, .int 0)]) hx hb dJ6_stringSize_0f7a4_13 rfl hl (by decide) rfl (fun ls hl => ?_)
    refine lv_iconst (v := 1) hx hb dJ6_stringSize_0f7a4_14 (by decide) ?_
    refine lv_istore_n (lv' := [(3, .int 1), (2, .int (-10)), (0, .int (-(nI kd))), (1, .int 0)]) hx hb dJ6_stringSize_0f7a4_15 rfl hl (by decide) rfl (fun ls hl => ?_)
    refine lv_iload_n hx hb dJ6_stringSize_0f7a4_16 rfl (lv_at hl 0 rfl) ?_
    refine lv_bipush (v := 10) hx hb dJ6_stringSize_0f7a4_17 (by decide) ?_
    refine lv_icmp_ge (tgt := 42) hx hb dJ6_stringSize_0f7a4_19 (by decide) (fun c_2 => ?_) (fun c_2 => ?_)
    · skip
      exact absurd c_2 (by decide)
    · skip
      refine lv_iload_n hx hb dJ6_stringSize_0f7a4_22 rfl (lv_at hl 2 rfl) ?_
      refine lv_iload_n hx hb dJ6_stringSize_0f7a4_23 rfl (lv_at hl 1 rfl) ?_
      refine lv_icmp_le (tgt := 31) hx hb dJ6_stringSize_0f7a4_24 (by decide) (fun c_3 => ?_) (fun c_3 => ?_)
      · skip
        have hk9 : ¬ kd < 10 := (stringSize hk).mp c_3
        refine lv_bipush (v := 10) hx hb dJ6_stringSize_0f7a4_31 (by decide) ?_
        refine lv_iload_n hx hb dJ6_stringSize_0f7a4_33 rfl (lv_at hl 1 rfl) ?_
        refine lv_imul hx hb dJ6_stringSize_0f7a4_34 ?_
        refine lv_istore_n (lv' := [(2, .int (10 * (-10))), (3, .int 1), (0, .int (-(nI kd))), (1, .int 0)]) hx hb dJ6_stringSize_0f7a4_35 rfl hl (by decide) rfl (fun ls hl => ?_)
        refine lv_iinc (v := 1 + 1) (lv' := [(3, .int (1 + 1)), (2, .int (10 * (-10))), (0, .int (-(nI kd))), (1, .int 0)]) hx hb dJ6_stringSize_0f7a4_36 hl (k := 1) rfl rfl (by decide) rfl (fun ls hl => ?_)
        refine lv_goto (tgt := 16) hx hb dJ6_stringSize_0f7a4_39 (by decide) ?_
        refine lv_iload_n hx hb dJ6_stringSize_0f7a4_16 rfl (lv_at hl 0 rfl) ?_
        refine lv_bipush (v := 10) hx hb dJ6_stringSize_0f7a4_17 (by decide) ?_
        refine lv_icmp_ge (tgt := 42) hx hb dJ6_stringSize_0f7a4_19 (by decide) (fun c_4 => ?_) (fun c_4 => ?_)
        · skip
          exact absurd c_4 (by decide)
        · skip
          refine lv_iload_n hx hb dJ6_stringSize_0f7a4_22 rfl (lv_at hl 2 rfl) ?_
          refine lv_iload_n hx hb dJ6_stringSize_0f7a4_23 rfl (lv_at hl 1 rfl) ?_
          refine lv_icmp_le (tgt := 31) hx hb dJ6_stringSize_0f7a4_24 (by decide) (fun c_5 => ?_) (fun c_5 => ?_)
          · skip
            exact absurd c_5 (by rw [Int32.le_iff_toInt_le, neg_t32 hk, show ((10 : Int32) * (-10)).toInt = -100 from rfl]; omega)
          · skip
            refine lv_iload_n hx hb dJ6_stringSize_0f7a4_27 rfl (lv_at hl 0 rfl) ?_
            refine lv_iload_n hx hb dJ6_stringSize_0f7a4_28 rfl (lv_at hl 3 rfl) ?_
            refine lv_iadd hx hb dJ6_stringSize_0f7a4_29 ?_
            rw [← hQ]
            exact W.iret (v := (1 + 1) + 0) hx hb hr (fun t ht hW => ⟨_, rfl, (by rw [dg_len, if_neg hk9]; rfl), ht⟩) (fun q h => absurd h List.not_mem_nil) dJ6_stringSize_0f7a4_30
      · skip
        have hk9 : kd < 10 := Classical.byContradiction (fun q => c_3 ((stringSize hk).mpr q))
        refine lv_iload_n hx hb dJ6_stringSize_0f7a4_27 rfl (lv_at hl 0 rfl) ?_
        refine lv_iload_n hx hb dJ6_stringSize_0f7a4_28 rfl (lv_at hl 3 rfl) ?_
        refine lv_iadd hx hb dJ6_stringSize_0f7a4_29 ?_
        rw [← hQ]
        exact W.iret (v := 1 + 0) hx hb hr (fun t ht hW => ⟨_, rfl, (by rw [dg_len, if_pos hk9]; rfl), ht⟩) (fun q h => absurd h List.not_mem_nil) dJ6_stringSize_0f7a4_30

set_option maxHeartbeats 4000000 in
set_option maxRecDepth 100000 in
theorem c_J6_getChars_ba4f3 (l : Launch) (D : va_G) (cI cB cZ cP : ClassId) (sz : Nat) (tz1 tz2 : Nat) (va cp : Nat) (ba : Nat → Int32) (kd ix : Nat) (hk : kd ≤ 31) (h1 : (dg kd).length ≤ ix) (h2 : ix ≤ cp) (h3 : cp ≤ 70) : Met l yJ6_getChars_ba4f3 wsJ6_getChars_ba4f3 ({ frames := 0, cells := 0, slots := 0, locals := 0 } : Room) (va_Pc [.int (nI kd), .int (nI ix), .ref va] (fun U => U.heap.size = sz ∧ va_P D vwCl [(va, .inl (cB, cp, .inl ba))] U.heap ∧ KW D cI cB cZ cP U ∧ va_D (fun _ => True) [(va, .inl (cB, cp, .inl ba))] ∧ EF [(va, .inl (cB, cp, .inl ba))] sz E0 U.heap ∧ ZZ tz1 tz2 (va_A [(va, .inl (cB, cp, .inl ba))] sz) U U.heap)) (va_Qi (fun r (g : Nat → Int32) => g = gcs ba kd ix) (fun (g : Nat → Int32) (t : State) => va_P D vwCl [(va, .inl (cB, cp, .inl g))] t.heap ∧ va_D (va_A [(va, .inl (cB, cp, .inl ba))] sz) [(va, .inl (cB, cp, .inl g))]) (va_A [(va, .inl (cB, cp, .inl ba))] sz)) 0 0 (va_A [(va, .inl (cB, cp, .inl ba))] sz) := by
  refine Met.ofW (cc := cJ6_getChars_ba4f3) (maxL := 7) (ret := (some .int)) (by decide) rfl ?_
  intro p e s m args below meth c s₁ B hml hv
  obtain ⟨rfl, hsz, hP, hW0, hD0, hE, hZ⟩ := hv
  have hx := B.exec
  have hb := B.bytes
  have hr := B.returns
  have hts := atoms_spec (ws := wsJ6_getChars_ba4f3) B.pre
  have hown : s.vm.findClass RJ6 = some m.cls := findClass_of_methodNamed B.named
  have hlocks := B.notSynchronized
  have hK := hW0.1
  subst hsz
  have hD := hD0.self (sz := s.heap.size)
  unfold EF at hE
  generalize hAe : va_A [(va, .inl (cB, cp, .inl ba))] s.heap.size = A at hD hE hZ ⊢
  have hA : ∀ q : Nat, s.heap.size ≤ q → A q := fun q h => by rw [← hAe]; exact Or.inr h
  have hS : va_S A s.heap s.heap [] := va_S.rf
  have hl := lv_entry ([.int (nI kd), .int (nI ix), .ref va]) (n := 7) (Nat.le_of_ble_eq_true rfl)
  rw [lg_entry_eq]
  generalize (lg_sl ([.int (nI kd), .int (nI ix), .ref va]) ++ List.replicate (7 - (lg_sl ([.int (nI kd), .int (nI ix), .ref va])).length) Slot.unset).toArray = ls at hl ⊢
  have hl : lv_has ls 7 [(0, .int (nI kd)), (1, .int (nI ix)), (2, .ref va)] := hl
  show W p l e ({ frames := 0, cells := 0, slots := 0, locals := 0 } : Room) s m ([.int (nI kd), .int (nI ix), .ref va] : List Value).toArray below meth c s.heap [] 0 0 _ (F0 m 0 ls [])
  refine u_genQ (fun Q hQ => ?_)
  rw [dg_len] at h1
  have hix : 1 ≤ ix := by split at h1 <;> omega
  refine lv_iload_n hx hb dJ6_getChars_ba4f3_0 rfl (lv_at hl 1 rfl) ?_
  refine lv_istore (lv' := [(5, .int (nI ix)), (0, .int (nI kd)), (1, .int (nI ix)), (2, .ref va)]) hx hb dJ6_getChars_ba4f3_1 hl (by decide) rfl (fun ls hl => ?_)
  refine lv_iload_n hx hb dJ6_getChars_ba4f3_3 rfl (lv_at hl 1 rfl) ?_
  refine lv_if_ge (tgt := 11) hx hb dJ6_getChars_ba4f3_4 (by decide) (fun c_1 => ?_) (fun c_1 => ?_)
  · skip
    have nc_1 : 0 ≤ kd := (nI_leI (a := 0) (b := kd) (by omega) (by omega)).mp c_1
    refine lv_iconst (v := 0) hx hb dJ6_getChars_ba4f3_11 (by decide) ?_
    refine lv_istore (lv' := [(6, .int 0), (5, .int (nI ix)), (0, .int (nI kd)), (1, .int (nI ix)), (2, .ref va)]) hx hb dJ6_getChars_ba4f3_12 hl (by decide) rfl (fun ls hl => ?_)
    refine lv_iload hx hb dJ6_getChars_ba4f3_14 (lv_at hl 0 rfl) ?_
    refine lv_if_ne (tgt := 22) hx hb dJ6_getChars_ba4f3_16 (by decide) (fun c_2 => ?_) (fun c_2 => ?_)
    · skip
      exact absurd rfl c_2
    · skip
      refine lv_iload_n hx hb dJ6_getChars_ba4f3_19 rfl (lv_at hl 2 rfl) ?_
      refine lv_ineg hx hb dJ6_getChars_ba4f3_20 ?_
      refine lv_istore_n (lv' := [(0, .int (-(nI kd))), (6, .int 0), (5, .int (nI ix)), (1, .int (nI ix)), (2, .ref va)]) hx hb dJ6_getChars_ba4f3_21 rfl hl (by decide) rfl (fun ls hl => ?_)
      refine lv_iload_n hx hb dJ6_getChars_ba4f3_22 rfl (lv_at hl 0 rfl) ?_
      refine lv_bipush (v := (-100)) hx hb dJ6_getChars_ba4f3_23 (by decide) ?_
      refine lv_icmp_gt (tgt := 72) hx hb dJ6_getChars_ba4f3_25 (by decide) (fun c_3 => ?_) (fun c_3 => ?_)
      · skip
        refine lv_aload_n hx hb dJ6_getChars_ba4f3_72 rfl (lv_at hl 4 rfl) ?_
        refine lv_iinc (v := nI (ix - 1)) (lv' := [(5, .int (nI (ix - 1))), (0, .int (-(nI kd))), (6, .int 0), (1, .int (nI ix)), (2, .ref va)]) hx hb dJ6_getChars_ba4f3_73 hl (k := 2) rfl (nI_m1 (by omega)) (by decide) rfl (fun ls hl => ?_)
        refine lv_iload hx hb dJ6_getChars_ba4f3_76 (lv_at hl 0 rfl) ?_
        refine va_gets hx hb hZ.2.1 hS hown (hts (.fieldLink RJ6 83 "java/lang/Integer" "DigitOnes" "[B") (by decide +kernel)) (fun _ h9 => h9) dJ6_getChars_ba4f3_78 ?_
        refine lv_iload_n hx hb dJ6_getChars_ba4f3_81 rfl (lv_at hl 1 rfl) ?_
        refine lv_ineg hx hb dJ6_getChars_ba4f3_82 ?_
        refine u_eqi (show -(-(nI kd)) = nI kd from Int32.neg_neg) ?_
        refine va_tb hx hb hZ.2.2.2.1 hS (vp_in_nI (show kd < 100 by omega) (by decide)) (v := .int (nI (48 + kd % 10))) (by show Value.int (nI _) = _; rw [nI_clamp (by omega)]) dJ6_getChars_ba4f3_83 ?_
        refine u_bast hx hb hK hP hD hS 0 1 rfl rfl rfl ⟨by omega, by omega⟩ dJ6_getChars_ba4f3_84 (fun H locs hP hD hS => ?_)
        have hP : va_P D vwCl [(va, .inl (cB, cp, .inl (upd ba (ix - 1) (vp_nar .byte (nI (48 + kd % 10))))))] H := hP
        have hD : va_D A [(va, .inl (cB, cp, .inl (upd ba (ix - 1) (vp_nar .byte (nI (48 + kd % 10))))))] := hD
        rw [show (upd ba (ix - 1) (vp_nar .byte (nI (48 + kd % 10)))) = upd ba (ix - 1) (nI (48 + kd % 10)) from by rw [ltr_b1 (ltr_nI (by omega))]] at hP hD
        refine lv_iload_n hx hb dJ6_getChars_ba4f3_85 rfl (lv_at hl 1 rfl) ?_
        refine lv_bipush (v := (-9)) hx hb dJ6_getChars_ba4f3_86 (by decide) ?_
        refine lv_icmp_ge (tgt := 104) hx hb dJ6_getChars_ba4f3_88 (by decide) (fun c_4 => ?_) (fun c_4 => ?_)
        · skip
          have hk9 : kd < 10 := (ge9 (by omega)).mp c_4
          refine lv_iload hx hb dJ6_getChars_ba4f3_104 (lv_at hl 2 rfl) ?_
          refine lv_if_eq (tgt := 118) hx hb dJ6_getChars_ba4f3_106 (by decide) (fun c_5 => ?_) (fun c_5 => ?_)
          · skip
            refine lv_iload hx hb dJ6_getChars_ba4f3_118 (lv_at hl 0 rfl) ?_
            rw [← hQ]
            have hP9 := hP
            have hD9 := hD
            exact W.iret (v := nI (ix - 1)) hx hb hr (fun t ht hW => ⟨⟨_, upd ba (ix - 1) (nI (48 + kd % 10)), rfl, by unfold gcs; rw [if_pos hk9], by rw [ht]; exact hP9, hD9⟩, hS.F ht⟩) hS.2.2 dJ6_getChars_ba4f3_120
          · skip
            exact absurd rfl c_5
        · skip
          have hk9 : ¬ kd < 10 := fun q => c_4 ((ge9 (by omega)).mpr q)
          rw [if_neg hk9] at h1
          refine lv_aload_n hx hb dJ6_getChars_ba4f3_91 rfl (lv_at hl 4 rfl) ?_
          refine lv_iinc (v := nI (ix - 2)) (lv' := [(5, .int (nI (ix - 2))), (0, .int (-(nI kd))), (6, .int 0), (1, .int (nI ix)), (2, .ref va)]) hx hb dJ6_getChars_ba4f3_92 hl (k := 0) rfl ((nI_m1 (by omega)).trans (congrArg nI (by omega))) (by decide) rfl (fun ls hl => ?_)
          refine lv_iload hx hb dJ6_getChars_ba4f3_95 (lv_at hl 0 rfl) ?_
          refine va_gets hx hb hZ.2.2.1 hS hown (hts (.fieldLink RJ6 87 "java/lang/Integer" "DigitTens" "[B") (by decide +kernel)) (fun _ h9 => h9) dJ6_getChars_ba4f3_97 ?_
          refine lv_iload_n hx hb dJ6_getChars_ba4f3_100 rfl (lv_at hl 1 rfl) ?_
          refine lv_ineg hx hb dJ6_getChars_ba4f3_101 ?_
          refine u_eqi (show -(-(nI kd)) = nI kd from Int32.neg_neg) ?_
          refine va_tb hx hb hZ.2.2.2.2.1 hS (vp_in_nI (show kd < 100 by omega) (by decide)) (v := .int (nI (48 + kd / 10))) (by show Value.int (nI _) = _; rw [nI_clamp (by omega)]) dJ6_getChars_ba4f3_102 ?_
          refine u_bast hx hb hK hP hD hS 0 1 rfl rfl rfl ⟨by omega, by omega⟩ dJ6_getChars_ba4f3_103 (fun H locs hP hD hS => ?_)
          have hP : va_P D vwCl [(va, .inl (cB, cp, .inl (upd (upd ba (ix - 1) (nI (48 + kd % 10))) (ix - 2) (vp_nar .byte (nI (48 + kd / 10))))))] H := hP
          have hD : va_D A [(va, .inl (cB, cp, .inl (upd (upd ba (ix - 1) (nI (48 + kd % 10))) (ix - 2) (vp_nar .byte (nI (48 + kd / 10))))))] := hD
          rw [show (upd (upd ba (ix - 1) (nI (48 + kd % 10))) (ix - 2) (vp_nar .byte (nI (48 + kd / 10)))) = upd (upd ba (ix - 1) (nI (48 + kd % 10))) (ix - 2) (nI (48 + kd / 10)) from by rw [ltr_b1 (ltr_nI (by omega))]] at hP hD
          refine lv_iload hx hb dJ6_getChars_ba4f3_104 (lv_at hl 2 rfl) ?_
          refine lv_if_eq (tgt := 118) hx hb dJ6_getChars_ba4f3_106 (by decide) (fun c_6 => ?_) (fun c_6 => ?_)
          · skip
            refine lv_iload hx hb dJ6_getChars_ba4f3_118 (lv_at hl 0 rfl) ?_
            rw [← hQ]
            have hP9 := hP
            have hD9 := hD
            exact W.iret (v := nI (ix - 2)) hx hb hr (fun t ht hW => ⟨⟨_, upd (upd ba (ix - 1) (nI (48 + kd % 10))) (ix - 2) (nI (48 + kd / 10)), rfl, by unfold gcs; rw [if_neg hk9], by rw [ht]; exact hP9, hD9⟩, hS.F ht⟩) hS.2.2 dJ6_getChars_ba4f3_120
          · skip
            exact absurd rfl c_6
      · skip
        exact absurd (show (-100 : Int32) < -nI kd by rw [Int32.lt_iff_toInt_lt, neg_t32 (by omega), show (-100 : Int32).toInt = -100 from rfl]; omega) c_3
  · skip
    have nc_1 : ¬ (0 ≤ kd) := fun h => c_1 ((nI_leI (a := 0) (b := kd) (by omega) (by omega)).mpr h)
    exact absurd (Int32.not_lt.mp (nI_pos (n := kd) (by omega))) c_1

set_option maxHeartbeats 4000000 in
set_option maxRecDepth 100000 in
theorem c_J5_append_c97b9 (l : Launch) (D : va_G) (cI cB cZ cP : ClassId) (sz : Nat) (tz1 tz2 : Nat) (h0 va cp : Nat) (ml : Int32) (ba : Nat → Int32) (wt : List Int32) (kd : Nat) (hc : cap cp) (hR : rowIs ba wt) (hL : lat ba) (hwl : wt.length ≤ cp) (h64 : wt.length + 3 ≤ 64) (hk : kd ≤ 31) : Met l yJ5_append_c97b9 wsJ5_append_c97b9 ({ frames := 4, cells := 1, slots := 70, locals := 84 } : Room) (va_Pc [.ref h0, .int (nI kd)] (fun U => U.heap.size = sz ∧ va_P D vwCl [(h0, .inr (1, [.ref va, .int 0, .int ml, .int (nI wt.length)])), (va, .inl (cB, cp, .inl ba))] U.heap ∧ KW D cI cB cZ cP U ∧ va_D (fun _ => True) [(h0, .inr (1, [.ref va, .int 0, .int ml, .int (nI wt.length)])), (va, .inl (cB, cp, .inl ba))] ∧ EF [(h0, .inr (1, [.ref va, .int 0, .int ml, .int (nI wt.length)])), (va, .inl (cB, cp, .inl ba))] sz E0 U.heap ∧ ZZ tz1 tz2 (va_A [(h0, .inr (1, [.ref va, .int 0, .int ml, .int (nI wt.length)])), (va, .inl (cB, cp, .inl ba))] sz) U U.heap)) (va_Qr (fun (u : Nat × Nat × (Nat → Int32)) => match u with | (va1, cp1, a1) => cap cp1 ∧ (wt ++ dg kd).length ≤ cp1 ∧ rowIs a1 (wt ++ dg kd) ∧ lat a1) (fun (u : Nat × Nat × (Nat → Int32)) (ra : Nat) (t : State) => match u with | (va1, cp1, a1) => h0 = ra ∧ va_P D vwCl [(h0, .inr (1, [.ref va1, .int 0, .int ml, .int (nI (wt ++ dg kd).length)])), (va1, .inl (cB, cp1, .inl a1))] t.heap ∧ va_D (va_A [(h0, .inr (1, [.ref va, .int 0, .int ml, .int (nI wt.length)])), (va, .inl (cB, cp, .inl ba))] sz) [(h0, .inr (1, [.ref va1, .int 0, .int ml, .int (nI (wt ++ dg kd).length)])), (va1, .inl (cB, cp1, .inl a1))]) (va_A [(h0, .inr (1, [.ref va, .int 0, .int ml, .int (nI wt.length)])), (va, .inl (cB, cp, .inl ba))] sz)) 1 70 (va_A [(h0, .inr (1, [.ref va, .int 0, .int ml, .int (nI wt.length)])), (va, .inl (cB, cp, .inl ba))] sz) := by
  refine Met.ofW (cc := cJ5_append_c97b9) (maxL := 4) (ret := (some (.object "java/lang/AbstractStringBuilder"))) (by decide) rfl ?_
  intro p e s m args below meth c s₁ B hml hv
  obtain ⟨rfl, hsz, hP, hW0, hD0, hE, hZ⟩ := hv
  have hx := B.exec
  have hb := B.bytes
  have hr := B.returns
  have hts := atoms_spec (ws := wsJ5_append_c97b9) B.pre
  have hown : s.vm.findClass RJ5 = some m.cls := findClass_of_methodNamed B.named
  have hlocks := B.notSynchronized
  have hK := hW0.1
  subst hsz
  have hD := hD0.self (sz := s.heap.size)
  unfold EF at hE
  generalize hAe : va_A [(h0, .inr (1, [.ref va, .int 0, .int ml, .int (nI wt.length)])), (va, .inl (cB, cp, .inl ba))] s.heap.size = A at hD hE hZ ⊢
  have hA : ∀ q : Nat, s.heap.size ≤ q → A q := fun q h => by rw [← hAe]; exact Or.inr h
  have hS : va_S A s.heap s.heap [] := va_S.rf
  have hl := lv_entry ([.ref h0, .int (nI kd)]) (n := 4) (Nat.le_of_ble_eq_true rfl)
  rw [lg_entry_eq]
  generalize (lg_sl ([.ref h0, .int (nI kd)]) ++ List.replicate (4 - (lg_sl ([.ref h0, .int (nI kd)])).length) Slot.unset).toArray = ls at hl ⊢
  have hl : lv_has ls 4 [(0, .ref h0), (1, .int (nI kd))] := hl
  show W p l e ({ frames := 4, cells := 1, slots := 70, locals := 84 } : Room) s m ([.ref h0, .int (nI kd)] : List Value).toArray below meth c s.heap [] 0 0 _ (F0 m 0 ls [])
  refine u_genQ (fun Q hQ => ?_)
  have hdl : (dg kd).length ≤ 2 := by rw [dg_len]; split <;> omega
  refine lv_aload_n hx hb dJ5_append_c97b9_0 rfl (lv_at hl 0 rfl) ?_
  refine va_get (D := D) (ci := 1) (v := .int (nI wt.length)) (C := RJ4) (T := TJ4) (N := 4) hx hb hts (by decide +kernel) hown hK hP 0 rfl rfl 3 (by decide) (hts (.fieldLink RJ5 79 "java/lang/AbstractStringBuilder" "count" "I") (by decide +kernel)) (fun _ h9 => h9) rfl dJ5_append_c97b9_1 ?_
  refine lv_istore_n (lv' := [(2, .int (nI wt.length)), (0, .ref h0), (1, .int (nI kd))]) hx hb dJ5_append_c97b9_4 rfl hl (by decide) rfl (fun ls hl => ?_)
  refine lv_iload_n hx hb dJ5_append_c97b9_5 rfl (lv_at hl 0 rfl) ?_
  refine lv_iload_n hx hb dJ5_append_c97b9_6 rfl (lv_at hl 2 rfl) ?_
  have hPc := hP.sub (ws' := []) [] rfl
  refine u_callSi (W.runS (As := [.int (nI kd)]) (rest := [.int (nI wt.length)]) ⟨hx, hb, hml, hown, hts⟩ (c_J6_stringSize_0f7a4 l D cI cB cZ cP kd (by omega)) (va_cwS 1 hts gJ5_append_c97b9_J6_stringSize_0f7a4 rfl rfl rfl (by decide +kernel) ⟨Nat.le_of_ble_eq_true rfl, Nat.le_of_ble_eq_true rfl⟩) (pS hPc hW0 trivial) rfl rfl hl.1 rfl (lv_room (Nat.le_of_ble_eq_true rfl)) dJ5_append_c97b9_7 ⟨Nat.le_of_ble_eq_true rfl, Nat.le_of_ble_eq_true rfl⟩) ?_
  refine lv_iadd hx hb dJ5_append_c97b9_10 ?_
  refine u_eqi (show (nI wt.length) + (nI (dg kd).length) = nI (wt.length + (dg kd).length) from nI_add _ _) ?_
  refine lv_istore_n (lv' := [(3, .int (nI (wt.length + (dg kd).length))), (2, .int (nI wt.length)), (0, .ref h0), (1, .int (nI kd))]) hx hb dJ5_append_c97b9_11 rfl hl (by decide) rfl (fun ls hl => ?_)
  refine lv_aload_n hx hb dJ5_append_c97b9_12 rfl (lv_at hl 2 rfl) ?_
  refine lv_iload_n hx hb dJ5_append_c97b9_13 rfl (lv_at hl 0 rfl) ?_
  have hPc := hP.sub (ws' := [(h0, .inr (1, [.ref va, .int 0, .int ml, .int (nI wt.length)])), (va, .inl (cB, cp, .inl ba))]) [0, 1] rfl
  have hDc := hD.sub (ws' := [(h0, .inr (1, [.ref va, .int 0, .int ml, .int (nI wt.length)])), (va, .inl (cB, cp, .inl ba))]) [0, 1] (by decide) rfl
  have hFc := va_free (wc := [(h0, .inr (1, [.ref va, .int 0, .int ml, .int (nI wt.length)])), (va, .inl (cB, cp, .inl ba))]) hD hS hA [0, 1] rfl
  refine va_callv (va_runU (As := [.int (nI (wt.length + (dg kd).length))]) (rest := []) ⟨hx, hb, hml, hown, hts⟩ (c_J5_ensureCapacityInternal_d00df l D cI cB cZ cP s.heap.size tz1 tz2 h0 va cp ml ba wt (wt.length + (dg kd).length) (hc) (hR) (hL) (hwl) (by omega) (by omega)) (va_cwU 1 hts gJ5_append_c97b9_J5_ensureCapacityInternal_d00df_u100J4 rfl rfl rfl rfl (by decide +kernel) ⟨Nat.le_of_ble_eq_true rfl, Nat.le_of_ble_eq_true rfl⟩) (pVQZ (q0 := 0) hPc hDc hW0 EF.t (hZ.to hS.2.1 hFc) rfl rfl) rfl rfl hl.1 rfl (lv_room (Nat.le_of_ble_eq_true rfl)) dJ5_append_c97b9_14 ⟨Nat.le_of_ble_eq_true rfl, Nat.le_of_ble_eq_true rfl⟩) hS (fun q _ h => hFc q h) hFc (fun u t H1 locs ht hvm hw hB hz1 hk1 hS => ?_)
  obtain ⟨va1_1, cp1_1, a1_1⟩ := u
  obtain ⟨hP1, hD1⟩ := hB
  rw [ht] at hP1
  have hw_1 : cap cp1_1 ∧ (wt.length + (dg kd).length) ≤ cp1_1 ∧ rowIs a1_1 wt ∧ lat a1_1 := hw
  obtain ⟨hP, hD⟩ := va_join (wr := []) (w1 := [(h0, .inr (1, [.ref va1_1, .int 0, .int ml, .int (nI wt.length)])), (va1_1, .inl (cB, cp1_1, .inl a1_1))]) hP hD [0, 1] [] rfl rfl (by decide) (by decide) hk1 hFc hP1 hD1
  generalize H1 = H at hP hS ⊢
  have hP := hP.sub (ws' := [(h0, .inr (1, [.ref va1_1, .int 0, .int ml, .int (nI wt.length)])), (va1_1, .inl (cB, cp1_1, .inl a1_1))]) [0, 1] rfl
  have hD := hD.sub (ws' := [(h0, .inr (1, [.ref va1_1, .int 0, .int ml, .int (nI wt.length)])), (va1_1, .inl (cB, cp1_1, .inl a1_1))]) [0, 1] (by decide) rfl
  refine lv_aload_n hx hb dJ5_append_c97b9_17 rfl (lv_at hl 2 rfl) ?_
  have hPc := hP.sub (ws' := [(h0, .inr (1, [.ref va1_1, .int 0, .int ml, .int (nI wt.length)]))]) [0] rfl
  refine u_callSi (va_runU (As := []) (rest := []) ⟨hx, hb, hml, hown, hts⟩ (c_J5_isLatin1_aae02 l D cI cB cZ cP tz1 tz2 h0 va1_1 ml wt ) (va_cwU 0 hts gJ5_append_c97b9_J5_isLatin1_aae02_u83J4 rfl rfl rfl rfl (by decide +kernel) ⟨Nat.le_of_ble_eq_true rfl, Nat.le_of_ble_eq_true rfl⟩) (pVZ (q0 := 0) hPc hW0 trivial (hZ.to hS.2.1 (fun _ h => h.elim)) rfl rfl) rfl rfl hl.1 rfl (lv_room (Nat.le_of_ble_eq_true rfl)) dJ5_append_c97b9_18 ⟨Nat.le_of_ble_eq_true rfl, Nat.le_of_ble_eq_true rfl⟩).run ?_
  refine lv_if_eq (tgt := 37) hx hb dJ5_append_c97b9_21 (by decide) (fun c_2 => ?_) (fun c_2 => ?_)
  · skip
    exact absurd c_2 (by decide)
  · skip
    refine lv_iload_n hx hb dJ5_append_c97b9_24 rfl (lv_at hl 3 rfl) ?_
    refine lv_iload_n hx hb dJ5_append_c97b9_25 rfl (lv_at hl 0 rfl) ?_
    refine lv_aload_n hx hb dJ5_append_c97b9_26 rfl (lv_at hl 2 rfl) ?_
    refine va_get (D := D) (ci := 1) (v := .ref va1_1) (C := RJ4) (T := TJ4) (N := 4) hx hb hts (by decide +kernel) hown hK hP 0 rfl rfl 0 (by decide) (hts (.fieldLink RJ5 15 "java/lang/AbstractStringBuilder" "value" "[B") (by decide +kernel)) (fun _ h9 => h9) rfl dJ5_append_c97b9_27 ?_
    have hPc := hP.sub (ws' := [(va1_1, .inl (cB, cp1_1, .inl a1_1))]) [1] rfl
    have hDc := hD.sub (ws' := [(va1_1, .inl (cB, cp1_1, .inl a1_1))]) [1] (by decide) rfl
    have hFc := va_free (wc := [(va1_1, .inl (cB, cp1_1, .inl a1_1))]) hD hS hA [1] rfl
    refine va_calli (va_runS (As := [.int (nI kd), .int (nI (wt.length + (dg kd).length)), .ref va1_1]) (rest := []) ⟨hx, hb, hml, hown, hts⟩ (c_J6_getChars_ba4f3 l D cI cB cZ cP H.size tz1 tz2 va1_1 cp1_1 a1_1 kd (wt.length + (dg kd).length) (hk) (by omega) (hw_1.2.1) ((cap_b hw_1.1).2)) (va_cwS 3 hts gJ5_append_c97b9_J6_getChars_ba4f3 rfl rfl rfl (by decide +kernel) ⟨Nat.le_of_ble_eq_true rfl, Nat.le_of_ble_eq_true rfl⟩) (pSQZ hPc hDc hW0 EF.t (hZ.to hS.2.1 hFc)) rfl rfl hl.1 rfl (lv_room (Nat.le_of_ble_eq_true rfl)) dJ5_append_c97b9_30 ⟨Nat.le_of_ble_eq_true rfl, Nat.le_of_ble_eq_true rfl⟩) hS (fun q _ h => hFc q h) hFc (fun r_3 u t H1 locs ht hvm hw hB hz1 hk1 hS => ?_)
    obtain ⟨g_3, rfl⟩ : ∃ z, z = u := ⟨_, rfl⟩
    obtain ⟨hP1, hD1⟩ := hB
    rw [ht] at hP1
    have hw_3 : g_3 = gcs a1_1 kd (wt.length + (dg kd).length) := hw
    obtain ⟨hP, hD⟩ := va_join (wr := [(h0, .inr (1, [.ref va1_1, .int 0, .int ml, .int (nI wt.length)]))]) (w1 := [(va1_1, .inl (cB, cp1_1, .inl g_3))]) hP hD [1] [0] rfl rfl (by decide) (by decide) hk1 hFc hP1 hD1
    generalize H1 = H at hP hS ⊢
    have hP := hP.sub (ws' := [(h0, .inr (1, [.ref va1_1, .int 0, .int ml, .int (nI wt.length)])), (va1_1, .inl (cB, cp1_1, .inl g_3))]) [0, 1] rfl
    have hD := hD.sub (ws' := [(h0, .inr (1, [.ref va1_1, .int 0, .int ml, .int (nI wt.length)])), (va1_1, .inl (cB, cp1_1, .inl g_3))]) [0, 1] (by decide) rfl
    refine lv_pop hx hb dJ5_append_c97b9_33 rfl ?_
    refine lv_goto (tgt := 48) hx hb dJ5_append_c97b9_34 (by decide) ?_
    refine lv_aload_n hx hb dJ5_append_c97b9_48 rfl (lv_at hl 2 rfl) ?_
    refine lv_iload_n hx hb dJ5_append_c97b9_49 rfl (lv_at hl 0 rfl) ?_
    refine u_eqi (show nI (wt.length + (dg kd).length) = nI (wt ++ dg kd).length by rw [List.length_append]) ?_
    refine va_put (D := D) (ci := 1) (v := .int (nI (wt ++ dg kd).length)) (ty := .int) (C := RJ4) (T := TJ4) (N := 4) hx hb hts (by decide +kernel) tyJ4 tyJ4_ok nmJ4 hown hK hP hD hS 0 rfl rfl 3 (by decide) (hts (.fieldLink RJ5 79 "java/lang/AbstractStringBuilder" "count" "I") (by decide +kernel)) (fun _ h9 => h9) rfl (by decide +kernel) rfl rfl (Nat.le_of_ble_eq_true rfl) dJ5_append_c97b9_50 (fun H locs hP hD hS => ?_)
    have hP : va_P D vwCl [(h0, .inr (1, [.ref va1_1, .int 0, .int ml, .int (nI (wt ++ dg kd).length)])), (va1_1, .inl (cB, cp1_1, .inl g_3))] H := hP
    have hD : va_D A [(h0, .inr (1, [.ref va1_1, .int 0, .int ml, .int (nI (wt ++ dg kd).length)])), (va1_1, .inl (cB, cp1_1, .inl g_3))] := hD
    refine lv_aload_n hx hb dJ5_append_c97b9_53 rfl (lv_at hl 2 rfl) ?_
    rw [← hQ]
    have hP9 := hP
    have hD9 := hD
    exact W.aret (v := .ref h0) hx hb hr (Or.inl ⟨_, rfl⟩) (Or.inr ⟨_, rfl⟩) (fun t ht hW => ⟨⟨(va1_1, cp1_1, g_3), h0, rfl, ⟨hw_1.1, by rw [List.length_append]; exact hw_1.2.1, by rw [hw_3]; exact gcs_row hw_1.2.2.1 hk, by rw [hw_3]; exact gcs_lat hw_1.2.2.2 hk⟩, rfl, by rw [ht]; exact hP9, hD9⟩, hS.F ht⟩) hS.2.2 dJ5_append_c97b9_54

set_option maxHeartbeats 4000000 in
set_option maxRecDepth 100000 in
theorem c_J4_append_bf812 (l : Launch) (D : va_G) (cI cB cZ cP : ClassId) (sz : Nat) (tz1 tz2 : Nat) (h0 va cp : Nat) (ml : Int32) (ba : Nat → Int32) (wt : List Int32) (kd : Nat) (hc : cap cp) (hR : rowIs ba wt) (hL : lat ba) (hwl : wt.length ≤ cp) (h64 : wt.length + 3 ≤ 64) (hk : kd ≤ 31) : Met l yJ4_append_bf812 wsJ4_append_bf812 ({ frames := 5, cells := 1, slots := 70, locals := 107 } : Room) (va_Pc [.ref h0, .int (nI kd)] (fun U => U.heap.size = sz ∧ va_P D vwCl [(h0, .inr (1, [.ref va, .int 0, .int ml, .int (nI wt.length)])), (va, .inl (cB, cp, .inl ba))] U.heap ∧ KW D cI cB cZ cP U ∧ va_D (fun _ => True) [(h0, .inr (1, [.ref va, .int 0, .int ml, .int (nI wt.length)])), (va, .inl (cB, cp, .inl ba))] ∧ EF [(h0, .inr (1, [.ref va, .int 0, .int ml, .int (nI wt.length)])), (va, .inl (cB, cp, .inl ba))] sz E0 U.heap ∧ ZZ tz1 tz2 (va_A [(h0, .inr (1, [.ref va, .int 0, .int ml, .int (nI wt.length)])), (va, .inl (cB, cp, .inl ba))] sz) U U.heap)) (va_Qr (fun (u : Nat × Nat × (Nat → Int32)) => match u with | (va1, cp1, a1) => cap cp1 ∧ (wt ++ dg kd).length ≤ cp1 ∧ rowIs a1 (wt ++ dg kd) ∧ lat a1) (fun (u : Nat × Nat × (Nat → Int32)) (ra : Nat) (t : State) => match u with | (va1, cp1, a1) => h0 = ra ∧ va_P D vwCl [(h0, .inr (1, [.ref va1, .int 0, .int ml, .int (nI (wt ++ dg kd).length)])), (va1, .inl (cB, cp1, .inl a1))] t.heap ∧ va_D (va_A [(h0, .inr (1, [.ref va, .int 0, .int ml, .int (nI wt.length)])), (va, .inl (cB, cp, .inl ba))] sz) [(h0, .inr (1, [.ref va1, .int 0, .int ml, .int (nI (wt ++ dg kd).length)])), (va1, .inl (cB, cp1, .inl a1))]) (va_A [(h0, .inr (1, [.ref va, .int 0, .int ml, .int (nI wt.length)])), (va, .inl (cB, cp, .inl ba))] sz)) 1 70 (va_A [(h0, .inr (1, [.ref va, .int 0, .int ml, .int (nI wt.length)])), (va, .inl (cB, cp, .inl ba))] sz) := by
  refine Met.ofW (cc := cJ4_append_bf812) (maxL := 2) (ret := (some (.object "java/lang/StringBuilder"))) (by decide) rfl ?_
  intro p e s m args below meth c s₁ B hml hv
  obtain ⟨rfl, hsz, hP, hW0, hD0, hE, hZ⟩ := hv
  have hx := B.exec
  have hb := B.bytes
  have hr := B.returns
  have hts := atoms_spec (ws := wsJ4_append_bf812) B.pre
  have hown : s.vm.findClass RJ4 = some m.cls := findClass_of_methodNamed B.named
  have hlocks := B.notSynchronized
  have hK := hW0.1
  subst hsz
  have hD := hD0.self (sz := s.heap.size)
  unfold EF at hE
  generalize hAe : va_A [(h0, .inr (1, [.ref va, .int 0, .int ml, .int (nI wt.length)])), (va, .inl (cB, cp, .inl ba))] s.heap.size = A at hD hE hZ ⊢
  have hA : ∀ q : Nat, s.heap.size ≤ q → A q := fun q h => by rw [← hAe]; exact Or.inr h
  have hS : va_S A s.heap s.heap [] := va_S.rf
  have hl := lv_entry ([.ref h0, .int (nI kd)]) (n := 2) (Nat.le_of_ble_eq_true rfl)
  rw [lg_entry_eq]
  generalize (lg_sl ([.ref h0, .int (nI kd)]) ++ List.replicate (2 - (lg_sl ([.ref h0, .int (nI kd)])).length) Slot.unset).toArray = ls at hl ⊢
  have hl : lv_has ls 2 [(0, .ref h0), (1, .int (nI kd))] := hl
  show W p l e ({ frames := 5, cells := 1, slots := 70, locals := 107 } : Room) s m ([.ref h0, .int (nI kd)] : List Value).toArray below meth c s.heap [] 0 0 _ (F0 m 0 ls [])
  refine u_genQ (fun Q hQ => ?_)
  refine lv_aload_n hx hb dJ4_append_bf812_0 rfl (lv_at hl 0 rfl) ?_
  refine lv_iload_n hx hb dJ4_append_bf812_1 rfl (lv_at hl 1 rfl) ?_
  have hPc := hP.sub (ws' := [(h0, .inr (1, [.ref va, .int 0, .int ml, .int (nI wt.length)])), (va, .inl (cB, cp, .inl ba))]) [0, 1] rfl
  have hDc := hD.sub (ws' := [(h0, .inr (1, [.ref va, .int 0, .int ml, .int (nI wt.length)])), (va, .inl (cB, cp, .inl ba))]) [0, 1] (by decide) rfl
  have hFc := va_free (wc := [(h0, .inr (1, [.ref va, .int 0, .int ml, .int (nI wt.length)])), (va, .inl (cB, cp, .inl ba))]) hD hS hA [0, 1] rfl
  refine va_callr (va_runSU (As := [.int (nI kd)]) (rest := []) hW0.sb ⟨hx, hb, hml, hown, hts⟩ (c_J5_append_c97b9 l D cI cB cZ cP s.heap.size tz1 tz2 h0 va cp ml ba wt kd (hc) (hR) (hL) (hwl) (h64) (hk)) (va_cwSU 1 hts gJ4_append_bf812_J5_append_c97b9_s53 rfl rfl rfl (by decide +kernel) ⟨Nat.le_of_ble_eq_true rfl, Nat.le_of_ble_eq_true rfl⟩) (pVQZ (q0 := 0) hPc hDc hW0 EF.t (hZ.to hS.2.1 hFc) rfl rfl) rfl rfl hl.1 rfl (lv_room (Nat.le_of_ble_eq_true rfl)) dJ4_append_bf812_2 ⟨Nat.le_of_ble_eq_true rfl, Nat.le_of_ble_eq_true rfl⟩) hS (fun q _ h => hFc q h) hFc (fun u ra_1 t H1 locs ht hvm hw hB hz1 hk1 hS => ?_)
  obtain ⟨va1_1, cp1_1, a1_1⟩ := u
  obtain ⟨hra, hP1, hD1⟩ := hB
  rw [ht] at hP1
  subst hra
  have hw_1 : cap cp1_1 ∧ (wt ++ dg kd).length ≤ cp1_1 ∧ rowIs a1_1 (wt ++ dg kd) ∧ lat a1_1 := hw
  obtain ⟨hP, hD⟩ := va_join (wr := []) (w1 := [(h0, .inr (1, [.ref va1_1, .int 0, .int ml, .int (nI (wt ++ dg kd).length)])), (va1_1, .inl (cB, cp1_1, .inl a1_1))]) hP hD [0, 1] [] rfl rfl (by decide) (by decide) hk1 hFc hP1 hD1
  generalize H1 = H at hP hS ⊢
  have hP := hP.sub (ws' := [(h0, .inr (1, [.ref va1_1, .int 0, .int ml, .int (nI (wt ++ dg kd).length)])), (va1_1, .inl (cB, cp1_1, .inl a1_1))]) [0, 1] rfl
  have hD := hD.sub (ws' := [(h0, .inr (1, [.ref va1_1, .int 0, .int ml, .int (nI (wt ++ dg kd).length)])), (va1_1, .inl (cB, cp1_1, .inl a1_1))]) [0, 1] (by decide) rfl
  refine lv_pop hx hb dJ4_append_bf812_5 rfl ?_
  refine lv_aload_n hx hb dJ4_append_bf812_6 rfl (lv_at hl 0 rfl) ?_
  rw [← hQ]
  have hP9 := hP
  have hD9 := hD
  exact W.aret (v := .ref h0) hx hb hr (Or.inl ⟨_, rfl⟩) (Or.inr ⟨_, rfl⟩) (fun t ht hW => ⟨⟨(va1_1, cp1_1, a1_1), h0, rfl, hw_1, rfl, by rw [ht]; exact hP9, hD9⟩, hS.F ht⟩) hS.2.2 dJ4_append_bf812_7

set_option maxHeartbeats 4000000 in
set_option maxRecDepth 100000 in
theorem c_J5_init_d00df (l : Launch) (D : va_G) (cI cB cZ cP : ClassId) (sz : Nat) (tz1 tz2 : Nat) (h0 : Nat) : Met l yJ5_init_d00df wsJ5_init_d00df ({ frames := 1, cells := 1, slots := 16, locals := 12 } : Room) (va_Pc [.ref h0, .int 16] (fun U => U.heap.size = sz ∧ va_P D vwCl [(h0, .inr (1, [.null, .int 0, .int 0, .int 0]))] U.heap ∧ KW D cI cB cZ cP U ∧ va_D (fun _ => True) [(h0, .inr (1, [.null, .int 0, .int 0, .int 0]))] ∧ EF [(h0, .inr (1, [.null, .int 0, .int 0, .int 0]))] sz E0 U.heap ∧ ZZ tz1 tz2 (va_A [(h0, .inr (1, [.null, .int 0, .int 0, .int 0]))] sz) U U.heap)) (va_Qv (fun (va1 : Nat) => True) (fun (va1 : Nat) (t : State) => va_P D vwCl [(h0, .inr (1, [.ref va1, .int 0, .int 0, .int 0])), (va1, .inl (cB, 16, .inl (fun _ => 0)))] t.heap ∧ va_D (va_A [(h0, .inr (1, [.null, .int 0, .int 0, .int 0]))] sz) [(h0, .inr (1, [.ref va1, .int 0, .int 0, .int 0])), (va1, .inl (cB, 16, .inl (fun _ => 0)))]) (va_A [(h0, .inr (1, [.null, .int 0, .int 0, .int 0]))] sz)) 1 16 (va_A [(h0, .inr (1, [.null, .int 0, .int 0, .int 0]))] sz) := by
  refine Met.ofW (cc := cJ5_init_d00df) (maxL := 2) (ret := none) (by decide) rfl ?_
  intro p e s m args below meth c s₁ B hml hv
  obtain ⟨rfl, hsz, hP, hW0, hD0, hE, hZ⟩ := hv
  have hx := B.exec
  have hb := B.bytes
  have hr := B.returns
  have hts := atoms_spec (ws := wsJ5_init_d00df) B.pre
  have hown : s.vm.findClass RJ5 = some m.cls := findClass_of_methodNamed B.named
  have hlocks := B.notSynchronized
  have hK := hW0.1
  have hin : meth.name = "<init>" := (name_of_methodNamed B.named B.method).1
  subst hsz
  have hD := hD0.self (sz := s.heap.size)
  unfold EF at hE
  generalize hAe : va_A [(h0, .inr (1, [.null, .int 0, .int 0, .int 0]))] s.heap.size = A at hD hE hZ ⊢
  have hA : ∀ q : Nat, s.heap.size ≤ q → A q := fun q h => by rw [← hAe]; exact Or.inr h
  have hS : va_S A s.heap s.heap [] := va_S.rf
  have hl := lv_entry ([.ref h0, .int 16]) (n := 2) (Nat.le_of_ble_eq_true rfl)
  rw [lg_entry_eq]
  generalize (lg_sl ([.ref h0, .int 16]) ++ List.replicate (2 - (lg_sl ([.ref h0, .int 16])).length) Slot.unset).toArray = ls at hl ⊢
  have hl : lv_has ls 2 [(0, .ref h0), (1, .int 16)] := hl
  show W p l e ({ frames := 1, cells := 1, slots := 16, locals := 12 } : Room) s m ([.ref h0, .int 16] : List Value).toArray below meth c s.heap [] 0 0 _ (F0 m 0 ls [])
  refine u_genQ (fun Q hQ => ?_)
  refine lv_aload_n hx hb dJ5_init_d00df_0 rfl (lv_at hl 0 rfl) ?_
  refine W.objInit hx hb hown (hts (.methodLink RJ5 3 objectInit) (by decide +kernel)) (hts (.instanceMethod objectInit) (by decide +kernel)) (hts (.code objectInit ⟨#[0xb1]⟩ 1 none) (by decide +kernel)) rfl (by rw [hml]; exact hl.1) rfl dJ5_init_d00df_1 (Nat.le_of_ble_eq_true rfl) (Nat.le_of_ble_eq_true rfl) ?_
  refine W.eq (g2 := F0 m 4 ls []) rfl ?_
  refine va_gets hx hb hZ.1 hS hown (hts (.fieldLink RJ5 18 "java/lang/String" "COMPACT_STRINGS" "Z") (by decide +kernel)) (fun _ h9 => h9) dJ5_init_d00df_4 ?_
  refine lv_if_eq (tgt := 25) hx hb dJ5_init_d00df_7 (by decide) (fun c_1 => ?_) (fun c_1 => ?_)
  · skip
    exact absurd c_1 (by decide)
  · skip
    refine lv_aload_n hx hb dJ5_init_d00df_10 rfl (lv_at hl 0 rfl) ?_
    refine lv_iload_n hx hb dJ5_init_d00df_11 rfl (lv_at hl 1 rfl) ?_
    refine u_newaB hx hb (hts (.arrayClass .byte) (by decide +kernel)) hK 1 rfl hP hD hS hA (N := 16) rfl (by omega) (Nat.le_of_ble_eq_true rfl) (Nat.le_of_ble_eq_true rfl) dJ5_init_d00df_12 (fun q_2 H hP hD hS => ?_)
    have hP : va_P D vwCl [(h0, .inr (1, [.null, .int 0, .int 0, .int 0])), (q_2, .inl (cB, 16, .inl (fun _ => 0)))] H := hP
    have hD : va_D A [(h0, .inr (1, [.null, .int 0, .int 0, .int 0])), (q_2, .inl (cB, 16, .inl (fun _ => 0)))] := hD
    refine va_put (D := D) (ci := 1) (v := .ref q_2) (ty := .array .byte) (C := RJ4) (T := TJ4) (N := 4) hx hb hts (by decide +kernel) tyJ4 tyJ4_ok nmJ4 hown hK hP hD hS 0 rfl rfl 0 (by decide) (hts (.fieldLink RJ5 15 "java/lang/AbstractStringBuilder" "value" "[B") (by decide +kernel)) (fun _ h9 => h9) rfl (by decide +kernel) rfl rfl (Nat.le_of_ble_eq_true rfl) dJ5_init_d00df_14 (fun H locs hP hD hS => ?_)
    have hP : va_P D vwCl [(h0, .inr (1, [.ref q_2, .int 0, .int 0, .int 0])), (q_2, .inl (cB, 16, .inl (fun _ => 0)))] H := hP
    have hD : va_D A [(h0, .inr (1, [.ref q_2, .int 0, .int 0, .int 0])), (q_2, .inl (cB, 16, .inl (fun _ => 0)))] := hD
    refine lv_aload_n hx hb dJ5_init_d00df_17 rfl (lv_at hl 0 rfl) ?_
    refine lv_iconst (v := 0) hx hb dJ5_init_d00df_18 (by decide) ?_
    refine va_put (D := D) (ci := 1) (v := .int 0) (ty := .byte) (C := RJ4) (T := TJ4) (N := 4) hx hb hts (by decide +kernel) tyJ4 tyJ4_ok nmJ4 hown hK hP hD hS 0 rfl rfl 1 (by decide) (hts (.fieldLink RJ5 22 "java/lang/AbstractStringBuilder" "coder" "B") (by decide +kernel)) (fun _ h9 => h9) rfl (by decide +kernel) (by decide) (by decide) (Nat.le_of_ble_eq_true rfl) dJ5_init_d00df_19 (fun H locs hP hD hS => ?_)
    have hP : va_P D vwCl [(h0, .inr (1, [.ref q_2, .int 0, .int 0, .int 0])), (q_2, .inl (cB, 16, .inl (fun _ => 0)))] H := hP
    have hD : va_D A [(h0, .inr (1, [.ref q_2, .int 0, .int 0, .int 0])), (q_2, .inl (cB, 16, .inl (fun _ => 0)))] := hD
    refine lv_goto (tgt := 38) hx hb dJ5_init_d00df_22 (by decide) ?_
    rw [← hQ]
    have hP9 := hP
    have hD9 := hD
    exact W.vret hx hb hr (fun t ht hW => ⟨⟨q_2, rfl, trivial, by rw [ht]; exact hP9, hD9⟩, hS.F ht⟩) hS.2.2 dJ5_init_d00df_38

set_option maxHeartbeats 4000000 in
set_option maxRecDepth 100000 in
theorem c_J4_init_da8c8 (l : Launch) (D : va_G) (cI cB cZ cP : ClassId) (sz : Nat) (tz1 tz2 : Nat) (h0 : Nat) : Met l yJ4_init_da8c8 wsJ4_init_da8c8 ({ frames := 2, cells := 1, slots := 16, locals := 33 } : Room) (va_Pc [.ref h0] (fun U => U.heap.size = sz ∧ va_P D vwCl [(h0, .inr (1, [.null, .int 0, .int 0, .int 0]))] U.heap ∧ KW D cI cB cZ cP U ∧ va_D (fun _ => True) [(h0, .inr (1, [.null, .int 0, .int 0, .int 0]))] ∧ EF [(h0, .inr (1, [.null, .int 0, .int 0, .int 0]))] sz E0 U.heap ∧ ZZ tz1 tz2 (va_A [(h0, .inr (1, [.null, .int 0, .int 0, .int 0]))] sz) U U.heap)) (va_Qv (fun (va1 : Nat) => True) (fun (va1 : Nat) (t : State) => va_P D vwCl [(h0, .inr (1, [.ref va1, .int 0, .int 0, .int 0])), (va1, .inl (cB, 16, .inl (fun _ => 0)))] t.heap ∧ va_D (va_A [(h0, .inr (1, [.null, .int 0, .int 0, .int 0]))] sz) [(h0, .inr (1, [.ref va1, .int 0, .int 0, .int 0])), (va1, .inl (cB, 16, .inl (fun _ => 0)))]) (va_A [(h0, .inr (1, [.null, .int 0, .int 0, .int 0]))] sz)) 1 16 (va_A [(h0, .inr (1, [.null, .int 0, .int 0, .int 0]))] sz) := by
  refine Met.ofW (cc := cJ4_init_da8c8) (maxL := 1) (ret := none) (by decide) rfl ?_
  intro p e s m args below meth c s₁ B hml hv
  obtain ⟨rfl, hsz, hP, hW0, hD0, hE, hZ⟩ := hv
  have hx := B.exec
  have hb := B.bytes
  have hr := B.returns
  have hts := atoms_spec (ws := wsJ4_init_da8c8) B.pre
  have hown : s.vm.findClass RJ4 = some m.cls := findClass_of_methodNamed B.named
  have hlocks := B.notSynchronized
  have hK := hW0.1
  have hin : meth.name = "<init>" := (name_of_methodNamed B.named B.method).1
  subst hsz
  have hD := hD0.self (sz := s.heap.size)
  unfold EF at hE
  generalize hAe : va_A [(h0, .inr (1, [.null, .int 0, .int 0, .int 0]))] s.heap.size = A at hD hE hZ ⊢
  have hA : ∀ q : Nat, s.heap.size ≤ q → A q := fun q h => by rw [← hAe]; exact Or.inr h
  have hS : va_S A s.heap s.heap [] := va_S.rf
  have hl := lv_entry ([.ref h0]) (n := 1) (Nat.le_of_ble_eq_true rfl)
  rw [lg_entry_eq]
  generalize (lg_sl ([.ref h0]) ++ List.replicate (1 - (lg_sl ([.ref h0])).length) Slot.unset).toArray = ls at hl ⊢
  have hl : lv_has ls 1 [(0, .ref h0)] := hl
  show W p l e ({ frames := 2, cells := 1, slots := 16, locals := 33 } : Room) s m ([.ref h0] : List Value).toArray below meth c s.heap [] 0 0 _ (F0 m 0 ls [])
  refine u_genQ (fun Q hQ => ?_)
  refine lv_aload_n hx hb dJ4_init_da8c8_0 rfl (lv_at hl 0 rfl) ?_
  refine lv_bipush (v := 16) hx hb dJ4_init_da8c8_1 (by decide) ?_
  have hPc := hP.sub (ws' := [(h0, .inr (1, [.null, .int 0, .int 0, .int 0]))]) [0] rfl
  have hDc := hD.sub (ws' := [(h0, .inr (1, [.null, .int 0, .int 0, .int 0]))]) [0] (by decide) rfl
  have hFc := va_free (wc := [(h0, .inr (1, [.null, .int 0, .int 0, .int 0]))]) hD hS hA [0] rfl
  refine va_callv (va_runI (As := [.int 16]) (rest := []) ⟨hx, hb, hml, hown, hts⟩ (c_J5_init_d00df l D cI cB cZ cP s.heap.size tz1 tz2 h0 ) (cwI 1 hts gJ4_init_da8c8_J5_init_d00df rfl rfl rfl (hts (.initialized RJ5) (by decide +kernel)) (hts (.methodLink RJ4 1 yJ5_init_d00df) (by decide +kernel)) (hts (.instanceMethod yJ5_init_d00df) (by decide +kernel)) rfl (by decide +kernel) ⟨Nat.le_of_ble_eq_true rfl, Nat.le_of_ble_eq_true rfl⟩) (pSQZ hPc hDc hW0 EF.t (hZ.to hS.2.1 hFc)) rfl rfl hl.1 rfl (lv_room (Nat.le_of_ble_eq_true rfl)) dJ4_init_da8c8_3 ⟨Nat.le_of_ble_eq_true rfl, Nat.le_of_ble_eq_true rfl⟩) hS (fun q _ h => hFc q h) hFc (fun u t H1 locs ht hvm hw hB hz1 hk1 hS => ?_)
  obtain ⟨va1_1, rfl⟩ : ∃ z, z = u := ⟨_, rfl⟩
  obtain ⟨hP1, hD1⟩ := hB
  rw [ht] at hP1
  have hw_1 : True := hw
  obtain ⟨hP, hD⟩ := va_join (wr := []) (w1 := [(h0, .inr (1, [.ref va1_1, .int 0, .int 0, .int 0])), (va1_1, .inl (cB, 16, .inl (fun _ => 0)))]) hP hD [0] [] rfl rfl (by decide) (by decide) hk1 hFc hP1 hD1
  generalize H1 = H at hP hS ⊢
  have hP := hP.sub (ws' := [(h0, .inr (1, [.ref va1_1, .int 0, .int 0, .int 0])), (va1_1, .inl (cB, 16, .inl (fun _ => 0)))]) [0, 1] rfl
  have hD := hD.sub (ws' := [(h0, .inr (1, [.ref va1_1, .int 0, .int 0, .int 0])), (va1_1, .inl (cB, 16, .inl (fun _ => 0)))]) [0, 1] (by decide) rfl
  rw [← hQ]
  have hP9 := hP
  have hD9 := hD
  exact W.vret hx hb hr (fun t ht hW => ⟨⟨va1_1, rfl, trivial, by rw [ht]; exact hP9, hD9⟩, hS.F ht⟩) hS.2.2 dJ4_init_da8c8_6

set_option maxHeartbeats 4000000 in
set_option maxRecDepth 100000 in
theorem c_J5_length_8abf5 (l : Launch) (D : va_G) (cI cB cZ cP : ClassId) (h0 va : Nat) (ml : Int32) (wt : List Int32) : Met l yJ5_length_8abf5 wsJ5_length_8abf5 ({ frames := 0, cells := 0, slots := 0, locals := 0 } : Room) (va_Pc [.ref h0] (fun U => va_P D vwCl [(h0, .inr (1, [.ref va, .int 0, .int ml, .int (nI wt.length)]))] U.heap ∧ KW D cI cB cZ cP U ∧ E0 U.heap)) (vp_Si (fun r => r = nI wt.length)) 0 0 (fun _ => False) := by
  refine Met.ofW (cc := cJ5_length_8abf5) (maxL := 1) (ret := (some .int)) (by decide) rfl ?_
  intro p e s m args below meth c s₁ B hml hv
  obtain ⟨rfl, hP, hW0, hE⟩ := hv
  have hx := B.exec
  have hb := B.bytes
  have hr := B.returns
  have hts := atoms_spec (ws := wsJ5_length_8abf5) B.pre
  have hown : s.vm.findClass RJ5 = some m.cls := findClass_of_methodNamed B.named
  have hlocks := B.notSynchronized
  have hK := hW0.1
  have hl := lv_entry ([.ref h0]) (n := 1) (Nat.le_of_ble_eq_true rfl)
  rw [lg_entry_eq]
  generalize (lg_sl ([.ref h0]) ++ List.replicate (1 - (lg_sl ([.ref h0])).length) Slot.unset).toArray = ls at hl ⊢
  have hl : lv_has ls 1 [(0, .ref h0)] := hl
  show W p l e ({ frames := 0, cells := 0, slots := 0, locals := 0 } : Room) s m ([.ref h0] : List Value).toArray below meth c s.heap [] 0 0 _ (F0 m 0 ls [])
  refine u_genQ (fun Q hQ => ?_)
  refine lv_aload_n hx hb dJ5_length_8abf5_0 rfl (lv_at hl 0 rfl) ?_
  refine va_get (D := D) (ci := 1) (v := .int (nI wt.length)) (C := RJ4) (T := TJ4) (N := 4) hx hb hts (by decide +kernel) hown hK hP 0 rfl rfl 3 (by decide) (hts (.fieldLink RJ5 79 "java/lang/AbstractStringBuilder" "count" "I") (by decide +kernel)) (fun _ h9 => h9) rfl dJ5_length_8abf5_1 ?_
  rw [← hQ]
  exact W.iret (v := nI wt.length) hx hb hr (fun t ht hW => ⟨_, rfl, rfl, ht⟩) (fun q h => absurd h List.not_mem_nil) dJ5_length_8abf5_4

set_option maxHeartbeats 4000000 in
set_option maxRecDepth 100000 in
theorem c_J4_length_8abf5 (l : Launch) (D : va_G) (cI cB cZ cP : ClassId) (h0 va : Nat) (ml : Int32) (wt : List Int32) : Met l yJ4_length_8abf5 wsJ4_length_8abf5 ({ frames := 1, cells := 0, slots := 0, locals := 20 } : Room) (va_Pc [.ref h0] (fun U => va_P D vwCl [(h0, .inr (1, [.ref va, .int 0, .int ml, .int (nI wt.length)]))] U.heap ∧ KW D cI cB cZ cP U ∧ E0 U.heap)) (vp_Si (fun r => r = nI wt.length)) 0 0 (fun _ => False) := by
  refine Met.ofW (cc := cJ4_length_8abf5) (maxL := 1) (ret := (some .int)) (by decide) rfl ?_
  intro p e s m args below meth c s₁ B hml hv
  obtain ⟨rfl, hP, hW0, hE⟩ := hv
  have hx := B.exec
  have hb := B.bytes
  have hr := B.returns
  have hts := atoms_spec (ws := wsJ4_length_8abf5) B.pre
  have hown : s.vm.findClass RJ4 = some m.cls := findClass_of_methodNamed B.named
  have hlocks := B.notSynchronized
  have hK := hW0.1
  have hl := lv_entry ([.ref h0]) (n := 1) (Nat.le_of_ble_eq_true rfl)
  rw [lg_entry_eq]
  generalize (lg_sl ([.ref h0]) ++ List.replicate (1 - (lg_sl ([.ref h0])).length) Slot.unset).toArray = ls at hl ⊢
  have hl : lv_has ls 1 [(0, .ref h0)] := hl
  show W p l e ({ frames := 1, cells := 0, slots := 0, locals := 20 } : Room) s m ([.ref h0] : List Value).toArray below meth c s.heap [] 0 0 _ (F0 m 0 ls [])
  refine u_genQ (fun Q hQ => ?_)
  refine lv_aload_n hx hb dJ4_length_8abf5_0 rfl (lv_at hl 0 rfl) ?_
  have hPc := hP.sub (ws' := [(h0, .inr (1, [.ref va, .int 0, .int ml, .int (nI wt.length)]))]) [0] rfl
  refine u_callSi (va_runSU (As := []) (rest := []) hW0.sb ⟨hx, hb, hml, hown, hts⟩ (c_J5_length_8abf5 l D cI cB cZ cP h0 va ml wt ) (va_cwSU 0 hts gJ4_length_8abf5_J5_length_8abf5_s343 rfl rfl rfl (by decide +kernel) ⟨Nat.le_of_ble_eq_true rfl, Nat.le_of_ble_eq_true rfl⟩) (pV (q0 := 0) hPc hW0 trivial rfl rfl) rfl rfl hl.1 rfl (lv_room (Nat.le_of_ble_eq_true rfl)) dJ4_length_8abf5_1 ⟨Nat.le_of_ble_eq_true rfl, Nat.le_of_ble_eq_true rfl⟩).run ?_
  rw [← hQ]
  exact W.iret (v := nI wt.length) hx hb hr (fun t ht hW => ⟨_, rfl, rfl, ht⟩) (fun q h => absurd h List.not_mem_nil) dJ4_length_8abf5_4

set_option maxHeartbeats 4000000 in
set_option maxRecDepth 100000 in
theorem c_J5_getValue_6d5f1 (l : Launch) (D : va_G) (cI cB cZ cP : ClassId) (h0 va : Nat) (ml : Int32) (wt : List Int32) : Met l yJ5_getValue_6d5f1 wsJ5_getValue_6d5f1 ({ frames := 0, cells := 0, slots := 0, locals := 0 } : Room) (va_Pc [.ref h0] (fun U => va_P D vwCl [(h0, .inr (1, [.ref va, .int 0, .int ml, .int (nI wt.length)]))] U.heap ∧ KW D cI cB cZ cP U ∧ E0 U.heap)) (va_Sq (fun r => r = some va)) 0 0 (fun _ => False) := by
  refine Met.ofW (cc := cJ5_getValue_6d5f1) (maxL := 1) (ret := (some (.array .byte))) (by decide) rfl ?_
  intro p e s m args below meth c s₁ B hml hv
  obtain ⟨rfl, hP, hW0, hE⟩ := hv
  have hx := B.exec
  have hb := B.bytes
  have hr := B.returns
  have hts := atoms_spec (ws := wsJ5_getValue_6d5f1) B.pre
  have hown : s.vm.findClass RJ5 = some m.cls := findClass_of_methodNamed B.named
  have hlocks := B.notSynchronized
  have hK := hW0.1
  have hl := lv_entry ([.ref h0]) (n := 1) (Nat.le_of_ble_eq_true rfl)
  rw [lg_entry_eq]
  generalize (lg_sl ([.ref h0]) ++ List.replicate (1 - (lg_sl ([.ref h0])).length) Slot.unset).toArray = ls at hl ⊢
  have hl : lv_has ls 1 [(0, .ref h0)] := hl
  show W p l e ({ frames := 0, cells := 0, slots := 0, locals := 0 } : Room) s m ([.ref h0] : List Value).toArray below meth c s.heap [] 0 0 _ (F0 m 0 ls [])
  refine u_genQ (fun Q hQ => ?_)
  refine lv_aload_n hx hb dJ5_getValue_6d5f1_0 rfl (lv_at hl 0 rfl) ?_
  refine va_get (D := D) (ci := 1) (v := .ref va) (C := RJ4) (T := TJ4) (N := 4) hx hb hts (by decide +kernel) hown hK hP 0 rfl rfl 0 (by decide) (hts (.fieldLink RJ5 15 "java/lang/AbstractStringBuilder" "value" "[B") (by decide +kernel)) (fun _ h9 => h9) rfl dJ5_getValue_6d5f1_1 ?_
  rw [← hQ]
  exact W.aret (v := .ref va) hx hb hr (Or.inr ⟨_, rfl⟩) (Or.inr ⟨_, rfl⟩) (fun t ht hW => ⟨some va, rfl, rfl, ht⟩) (fun q h => absurd h List.not_mem_nil) dJ5_getValue_6d5f1_4

set_option maxHeartbeats 4000000 in
set_option maxRecDepth 100000 in
theorem c_J7_checkLength_df160 (l : Launch) (D : va_G) (cI cB cZ cP : ClassId) (kn : Nat) (hk : kn ≤ 70) : Met l yJ7_checkLength_df160 wsJ7_checkLength_df160 ({ frames := 0, cells := 0, slots := 0, locals := 0 } : Room) (va_Pc [.int 0, .int (nI kn)] (fun U => va_P D vwCl [] U.heap ∧ KW D cI cB cZ cP U ∧ E0 U.heap)) (va_Sv (fun _ => True)) 0 0 (fun _ => False) := by
  refine Met.ofW (cc := cJ7_checkLength_df160) (maxL := 2) (ret := none) (by decide) rfl ?_
  intro p e s m args below meth c s₁ B hml hv
  obtain ⟨rfl, hP, hW0, hE⟩ := hv
  have hx := B.exec
  have hb := B.bytes
  have hr := B.returns
  have hts := atoms_spec (ws := wsJ7_checkLength_df160) B.pre
  have hown : s.vm.findClass RJ7 = some m.cls := findClass_of_methodNamed B.named
  have hlocks := B.notSynchronized
  have hK := hW0.1
  have hl := lv_entry ([.int 0, .int (nI kn)]) (n := 2) (Nat.le_of_ble_eq_true rfl)
  rw [lg_entry_eq]
  generalize (lg_sl ([.int 0, .int (nI kn)]) ++ List.replicate (2 - (lg_sl ([.int 0, .int (nI kn)])).length) Slot.unset).toArray = ls at hl ⊢
  have hl : lv_has ls 2 [(0, .int 0), (1, .int (nI kn))] := hl
  show W p l e ({ frames := 0, cells := 0, slots := 0, locals := 0 } : Room) s m ([.int 0, .int (nI kn)] : List Value).toArray below meth c s.heap [] 0 0 _ (F0 m 0 ls [])
  refine u_genQ (fun Q hQ => ?_)
  refine lv_iload_n hx hb dJ7_checkLength_df160_0 rfl (lv_at hl 1 rfl) ?_
  refine lv_iload_n hx hb dJ7_checkLength_df160_1 rfl (lv_at hl 0 rfl) ?_
  refine lv_icmp_ge (tgt := 37) hx hb dJ7_checkLength_df160_2 (by decide) (fun c_1 => ?_) (fun c_1 => ?_)
  · skip
    have nc_1 : 0 ≤ kn := (nI_leI (a := 0) (b := kn) (by omega) (by omega)).mp c_1
    rw [← hQ]
    exact W.vret hx hb hr (fun t ht hW => ⟨rfl, trivial, ht⟩) (fun q h => absurd h List.not_mem_nil) dJ7_checkLength_df160_37
  · skip
    have nc_1 : ¬ (0 ≤ kn) := fun h => c_1 ((nI_leI (a := 0) (b := kn) (by omega) (by omega)).mpr h)
    exact absurd (show 0 ≤ kn by omega) nc_1

set_option maxHeartbeats 4000000 in
set_option maxRecDepth 100000 in
theorem c_J7_copyOfRangeByte_39247 (l : Launch) (D : va_G) (cI cB cZ cP : ClassId) (sz : Nat) (tz1 tz2 : Nat) (va cp : Nat) (ba : Nat → Int32) (wt : List Int32) (hR : rowIs ba wt) (hL : lat ba) (hwl : wt.length ≤ cp) (h70 : cp ≤ 70) : Met l yJ7_copyOfRangeByte_39247 wsJ7_copyOfRangeByte_39247 ({ frames := 1, cells := 1, slots := 70, locals := 40 } : Room) (va_Pc [.ref va, .int 0, .int (nI wt.length)] (fun U => U.heap.size = sz ∧ va_P D vwCl [(va, .inl (cB, cp, .inl ba))] U.heap ∧ KW D cI cB cZ cP U ∧ va_D (fun _ => True) [(va, .inl (cB, cp, .inl ba))] ∧ EF [(va, .inl (cB, cp, .inl ba))] sz E0 U.heap ∧ ZZ tz1 tz2 (va_A [(va, .inl (cB, cp, .inl ba))] sz) U U.heap)) (va_Qr (fun (g : Nat → Int32) => rowIs g wt ∧ lat g) (fun (g : Nat → Int32) (ra : Nat) (t : State) => va_P D vwCl [(va, .inl (cB, cp, .inl ba)), (ra, .inl (cB, wt.length, .inl g))] t.heap ∧ va_D (va_A [(va, .inl (cB, cp, .inl ba))] sz) [(va, .inl (cB, cp, .inl ba)), (ra, .inl (cB, wt.length, .inl g))]) (va_A [(va, .inl (cB, cp, .inl ba))] sz)) 1 70 (va_A [(va, .inl (cB, cp, .inl ba))] sz) := by
  refine Met.ofW (cc := cJ7_copyOfRangeByte_39247) (maxL := 5) (ret := (some (.array .byte))) (by decide) rfl ?_
  intro p e s m args below meth c s₁ B hml hv
  obtain ⟨rfl, hsz, hP, hW0, hD0, hE, hZ⟩ := hv
  have hx := B.exec
  have hb := B.bytes
  have hr := B.returns
  have hts := atoms_spec (ws := wsJ7_copyOfRangeByte_39247) B.pre
  have hown : s.vm.findClass RJ7 = some m.cls := findClass_of_methodNamed B.named
  have hlocks := B.notSynchronized
  have hK := hW0.1
  subst hsz
  have hD := hD0.self (sz := s.heap.size)
  unfold EF at hE
  generalize hAe : va_A [(va, .inl (cB, cp, .inl ba))] s.heap.size = A at hD hE hZ ⊢
  have hA : ∀ q : Nat, s.heap.size ≤ q → A q := fun q h => by rw [← hAe]; exact Or.inr h
  have hS : va_S A s.heap s.heap [] := va_S.rf
  have hl := lv_entry ([.ref va, .int 0, .int (nI wt.length)]) (n := 5) (Nat.le_of_ble_eq_true rfl)
  rw [lg_entry_eq]
  generalize (lg_sl ([.ref va, .int 0, .int (nI wt.length)]) ++ List.replicate (5 - (lg_sl ([.ref va, .int 0, .int (nI wt.length)])).length) Slot.unset).toArray = ls at hl ⊢
  have hl : lv_has ls 5 [(0, .ref va), (1, .int 0), (2, .int (nI wt.length))] := hl
  show W p l e ({ frames := 1, cells := 1, slots := 70, locals := 40 } : Room) s m ([.ref va, .int 0, .int (nI wt.length)] : List Value).toArray below meth c s.heap [] 0 0 _ (F0 m 0 ls [])
  refine u_genQ (fun Q hQ => ?_)
  refine lv_iload_n hx hb dJ7_copyOfRangeByte_39247_0 rfl (lv_at hl 1 rfl) ?_
  refine lv_iload_n hx hb dJ7_copyOfRangeByte_39247_1 rfl (lv_at hl 2 rfl) ?_
  have hPc := hP.sub (ws' := []) [] rfl
  refine va_csv (W.runS (As := [.int 0, .int (nI wt.length)]) (rest := []) ⟨hx, hb, hml, hown, hts⟩ (c_J7_checkLength_df160 l D cI cB cZ cP wt.length (by omega)) (cwS 2 hts gJ7_copyOfRangeByte_39247_J7_checkLength_df160 rfl rfl rfl (by decide +kernel) ⟨Nat.le_of_ble_eq_true rfl, Nat.le_of_ble_eq_true rfl⟩) (pS hPc hW0 trivial) rfl rfl hl.1 rfl (lv_room (Nat.le_of_ble_eq_true rfl)) dJ7_copyOfRangeByte_39247_2 ⟨Nat.le_of_ble_eq_true rfl, Nat.le_of_ble_eq_true rfl⟩) (fun _ => ?_)
  refine lv_iload_n hx hb dJ7_copyOfRangeByte_39247_5 rfl (lv_at hl 2 rfl) ?_
  refine lv_iload_n hx hb dJ7_copyOfRangeByte_39247_6 rfl (lv_at hl 1 rfl) ?_
  refine lv_isub hx hb dJ7_copyOfRangeByte_39247_7 ?_
  refine u_eqi (show (nI wt.length) - 0 = nI wt.length from Int32.sub_zero _) ?_
  refine lv_istore_n (lv' := [(3, .int (nI wt.length)), (0, .ref va), (1, .int 0), (2, .int (nI wt.length))]) hx hb dJ7_copyOfRangeByte_39247_8 rfl hl (by decide) rfl (fun ls hl => ?_)
  refine lv_iload_n hx hb dJ7_copyOfRangeByte_39247_9 rfl (lv_at hl 0 rfl) ?_
  refine u_newaB hx hb (hts (.arrayClass .byte) (by decide +kernel)) hK 1 rfl hP hD hS hA (N := wt.length) rfl (by omega) (Nat.le_of_ble_eq_true rfl) (show 0 + wt.length ≤ 70 by omega) dJ7_copyOfRangeByte_39247_10 (fun q_1 H hP hD hS => ?_)
  have hP : va_P D vwCl [(va, .inl (cB, cp, .inl ba)), (q_1, .inl (cB, wt.length, .inl (fun _ => 0)))] H := hP
  have hD : va_D A [(va, .inl (cB, cp, .inl ba)), (q_1, .inl (cB, wt.length, .inl (fun _ => 0)))] := hD
  refine W.widen (k := 1) (n := 70) (Nat.le_refl _) (by omega) ?_
  refine lv_astore (lv' := [(4, .ref q_1), (3, .int (nI wt.length)), (0, .ref va), (1, .int 0), (2, .int (nI wt.length))]) hx hb dJ7_copyOfRangeByte_39247_12 hl (by decide) rfl (fun ls hl => ?_)
  refine lv_aload_n hx hb dJ7_copyOfRangeByte_39247_14 rfl (lv_at hl 2 rfl) ?_
  refine lv_iload_n hx hb dJ7_copyOfRangeByte_39247_15 rfl (lv_at hl 3 rfl) ?_
  refine lv_aload hx hb dJ7_copyOfRangeByte_39247_16 (lv_at hl 0 rfl) ?_
  refine lv_iconst (v := 0) hx hb dJ7_copyOfRangeByte_39247_18 (by decide) ?_
  refine lv_aload_n hx hb dJ7_copyOfRangeByte_39247_19 rfl (lv_at hl 2 rfl) ?_
  refine va_alen (v := nI cp) hx hb hK hP 0 1 rfl rfl rfl dJ7_copyOfRangeByte_39247_20 ?_
  refine lv_iload_n hx hb dJ7_copyOfRangeByte_39247_21 rfl (lv_at hl 3 rfl) ?_
  refine lv_isub hx hb dJ7_copyOfRangeByte_39247_22 ?_
  refine u_eqi (show (nI cp) - 0 = nI cp from Int32.sub_zero _) ?_
  refine lv_iload_n hx hb dJ7_copyOfRangeByte_39247_23 rfl (lv_at hl 1 rfl) ?_
  refine va_mmin hx hb (by rw [hml]; exact hl.1.symm) hown (hts (.methodLink RJ7 304 Lib.Math.min.name) (by decide +kernel)) (hts (.static Lib.Math.min.name) (by decide +kernel)) (hts (.initialized "java/lang/Math") (by decide +kernel)) (hts (.code Lib.Math.min.name Lib.Math.min.code 2 (some .int)) (by decide +kernel)) (Nat.le_of_ble_eq_true rfl) (Nat.le_of_ble_eq_true rfl) (by show _ ≤ 1; omega) (by show _ ≤ 70; omega) dJ7_copyOfRangeByte_39247_24 ?_
  refine u_eqi (show mn (nI cp) (nI wt.length) = nI wt.length from mnn2 (by omega) (by omega)) ?_
  refine va_copyi hx hb (by rw [hml]; exact hl.1.symm) hown (hts (.methodLink RJ7 150 arraycopyName) (by decide +kernel)) (hts (.native arraycopyName) (by decide +kernel)) (hts (.static arraycopyName) (by decide +kernel)) (hts (.initialized "java/lang/System") (by decide +kernel)) hK hP hD hS 0 1 1 1 rfl rfl rfl rfl rfl (sp := nI 0) (dp := nI 0) (n := nI wt.length) (by decide) (by decide) (nI_pos (by omega)) (by rw [nI_clamp (by decide), nI_clamp (by omega)]; omega) (by rw [nI_clamp (by decide), nI_clamp (by omega)]; omega) (fun _ _ => ltr_fits (hL _)) (Nat.le_of_ble_eq_true rfl) (Nat.le_of_ble_eq_true rfl) dJ7_copyOfRangeByte_39247_27 (fun H locs hP hD hS => ?_)
  rw [nI_clamp (show 0 < 2 ^ 31 by decide), nI_clamp (show wt.length < 2 ^ 31 by omega)] at hP hD
  have hP : va_P D vwCl [(va, .inl (cB, cp, .inl ba)), (q_1, .inl (cB, wt.length, .inl (va_cpy ba (fun _ => 0) 0 0 wt.length)))] H := hP
  have hD : va_D A [(va, .inl (cB, cp, .inl ba)), (q_1, .inl (cB, wt.length, .inl (va_cpy ba (fun _ => 0) 0 0 wt.length)))] := hD
  refine lv_aload hx hb dJ7_copyOfRangeByte_39247_30 (lv_at hl 0 rfl) ?_
  rw [← hQ]
  have hP9 := hP
  have hD9 := hD
  exact W.aret (v := .ref q_1) hx hb hr (Or.inr ⟨_, rfl⟩) (Or.inr ⟨_, rfl⟩) (fun t ht hW => ⟨⟨va_cpy ba (fun _ => 0) 0 0 wt.length, q_1, rfl, ⟨row_cp hR (Nat.le_refl _), lat_cp hL lat_0⟩, by rw [ht]; exact hP9, hD9⟩, hS.F ht⟩) hS.2.2 dJ7_copyOfRangeByte_39247_32

set_option maxHeartbeats 4000000 in
set_option maxRecDepth 100000 in
theorem c_J7_copyOfRange_39247 (l : Launch) (D : va_G) (cI cB cZ cP : ClassId) (sz : Nat) (tz1 tz2 : Nat) (va cp : Nat) (ba : Nat → Int32) (wt : List Int32) (hR : rowIs ba wt) (hL : lat ba) (hwl : wt.length ≤ cp) (h70 : cp ≤ 70) : Met l yJ7_copyOfRange_39247 wsJ7_copyOfRange_39247 ({ frames := 2, cells := 1, slots := 70, locals := 64 } : Room) (va_Pc [.ref va, .int 0, .int (nI wt.length)] (fun U => U.heap.size = sz ∧ va_P D vwCl [(va, .inl (cB, cp, .inl ba))] U.heap ∧ KW D cI cB cZ cP U ∧ va_D (fun _ => True) [(va, .inl (cB, cp, .inl ba))] ∧ EF [(va, .inl (cB, cp, .inl ba))] sz E0 U.heap ∧ ZZ tz1 tz2 (va_A [(va, .inl (cB, cp, .inl ba))] sz) U U.heap)) (va_Qr (fun (g : Nat → Int32) => rowIs g wt ∧ lat g) (fun (g : Nat → Int32) (ra : Nat) (t : State) => va_P D vwCl [(va, .inl (cB, cp, .inl ba)), (ra, .inl (cB, wt.length, .inl g))] t.heap ∧ va_D (va_A [(va, .inl (cB, cp, .inl ba))] sz) [(va, .inl (cB, cp, .inl ba)), (ra, .inl (cB, wt.length, .inl g))]) (va_A [(va, .inl (cB, cp, .inl ba))] sz)) 1 70 (va_A [(va, .inl (cB, cp, .inl ba))] sz) := by
  refine Met.ofW (cc := cJ7_copyOfRange_39247) (maxL := 3) (ret := (some (.array .byte))) (by decide) rfl ?_
  intro p e s m args below meth c s₁ B hml hv
  obtain ⟨rfl, hsz, hP, hW0, hD0, hE, hZ⟩ := hv
  have hx := B.exec
  have hb := B.bytes
  have hr := B.returns
  have hts := atoms_spec (ws := wsJ7_copyOfRange_39247) B.pre
  have hown : s.vm.findClass RJ7 = some m.cls := findClass_of_methodNamed B.named
  have hlocks := B.notSynchronized
  have hK := hW0.1
  subst hsz
  have hD := hD0.self (sz := s.heap.size)
  unfold EF at hE
  generalize hAe : va_A [(va, .inl (cB, cp, .inl ba))] s.heap.size = A at hD hE hZ ⊢
  have hA : ∀ q : Nat, s.heap.size ≤ q → A q := fun q h => by rw [← hAe]; exact Or.inr h
  have hS : va_S A s.heap s.heap [] := va_S.rf
  have hl := lv_entry ([.ref va, .int 0, .int (nI wt.length)]) (n := 3) (Nat.le_of_ble_eq_true rfl)
  rw [lg_entry_eq]
  generalize (lg_sl ([.ref va, .int 0, .int (nI wt.length)]) ++ List.replicate (3 - (lg_sl ([.ref va, .int 0, .int (nI wt.length)])).length) Slot.unset).toArray = ls at hl ⊢
  have hl : lv_has ls 3 [(0, .ref va), (1, .int 0), (2, .int (nI wt.length))] := hl
  show W p l e ({ frames := 2, cells := 1, slots := 70, locals := 64 } : Room) s m ([.ref va, .int 0, .int (nI wt.length)] : List Value).toArray below meth c s.heap [] 0 0 _ (F0 m 0 ls [])
  refine u_genQ (fun Q hQ => ?_)
  refine lv_iload_n hx hb dJ7_copyOfRange_39247_0 rfl (lv_at hl 1 rfl) ?_
  refine lv_if_ne (tgt := 10) hx hb dJ7_copyOfRange_39247_1 (by decide) (fun c_1 => ?_) (fun c_1 => ?_)
  · skip
    exact absurd rfl c_1
  · skip
    refine lv_iload_n hx hb dJ7_copyOfRange_39247_4 rfl (lv_at hl 2 rfl) ?_
    refine lv_aload_n hx hb dJ7_copyOfRange_39247_5 rfl (lv_at hl 0 rfl) ?_
    refine va_alen (v := nI cp) hx hb hK hP 0 1 rfl rfl rfl dJ7_copyOfRange_39247_6 ?_
    refine lv_icmp_eq (tgt := 17) hx hb dJ7_copyOfRange_39247_7 (by decide) (fun c_2 => ?_) (fun c_2 => ?_)
    · skip
      have nc_2 : wt.length = cp := (nI_eq (a := wt.length) (b := cp) (by omega) (by omega)).mp c_2
      have hcl : wt.length = cp := nc_2
      refine lv_aload_n hx hb dJ7_copyOfRange_39247_17 rfl (lv_at hl 0 rfl) ?_
      refine va_clone hx hb (by rw [hml]; exact hl.1.symm) hown (hts (.methodLink RJ7 310 ⟨"[B", "clone", "()Ljava/lang/Object;"⟩) (by decide +kernel)) (hts (.sameMethod "[B" "java/lang/Object" "clone" "()Ljava/lang/Object;") (by decide +kernel)) (hts (.native ⟨"java/lang/Object", "clone", "()Ljava/lang/Object;"⟩) (by decide +kernel)) (hts (.instanceMethod ⟨"java/lang/Object", "clone", "()Ljava/lang/Object;"⟩) (by decide +kernel)) (hts (.selects "[B" ⟨"[B", "clone", "()Ljava/lang/Object;"⟩ ⟨"java/lang/Object", "clone", "()Ljava/lang/Object;"⟩) (by decide +kernel)) hZ.2.2.2.2.2.2 hK hP hD hS hA 0 1 rfl rfl hW0.arrB (lat_clone hL) (Nat.le_of_ble_eq_true rfl) (Nat.le_of_ble_eq_true rfl) (by show _ ≤ 1; omega) (by show _ ≤ 70; omega) dJ7_copyOfRange_39247_18 (fun q_3 H hK9 hP hD hS => ?_)
      have hP : va_P D vwCl [(va, .inl (cB, cp, .inl ba)), (q_3, .inl (cB, cp, .inl ba))] H := hP
      have hD : va_D A [(va, .inl (cB, cp, .inl ba)), (q_3, .inl (cB, cp, .inl ba))] := hD
      refine W.widen (k := 1) (n := 70) (by show _ ≤ _; omega) (by show _ ≤ 70; omega) ?_
      refine va_castA hx hb hown (hts (.classLink RJ7 311 "[B") (by decide +kernel)) hP 1 rfl hW0.arrB dJ7_copyOfRange_39247_21 ?_
      have hP : va_P D vwCl [(va, .inl (cB, cp, .inl ba)), (q_3, .inl (cB, wt.length, .inl ba))] H := by rw [hcl]; exact hP
      have hD : va_D A [(va, .inl (cB, cp, .inl ba)), (q_3, .inl (cB, wt.length, .inl ba))] := by rw [hcl]; exact hD
      rw [← hQ]
      have hP9 := hP
      have hD9 := hD
      exact W.aret (v := .ref q_3) hx hb hr (Or.inr ⟨_, rfl⟩) (Or.inr ⟨_, rfl⟩) (fun t ht hW => ⟨⟨ba, q_3, rfl, ⟨hR, hL⟩, by rw [ht]; exact hP9, hD9⟩, hS.F ht⟩) hS.2.2 dJ7_copyOfRange_39247_24
    · skip
      have nc_2 : ¬ (wt.length = cp) := fun h => c_2 ((nI_eq (a := wt.length) (b := cp) (by omega) (by omega)).mpr h)
      refine lv_aload_n hx hb dJ7_copyOfRange_39247_10 rfl (lv_at hl 0 rfl) ?_
      refine lv_iload_n hx hb dJ7_copyOfRange_39247_11 rfl (lv_at hl 1 rfl) ?_
      refine lv_iload_n hx hb dJ7_copyOfRange_39247_12 rfl (lv_at hl 2 rfl) ?_
      have hPc := hP.sub (ws' := [(va, .inl (cB, cp, .inl ba))]) [0] rfl
      have hDc := hD.sub (ws' := [(va, .inl (cB, cp, .inl ba))]) [0] (by decide) rfl
      have hFc := va_free (wc := [(va, .inl (cB, cp, .inl ba))]) hD hS hA [0] rfl
      refine va_callr (va_runS (As := [.ref va, .int 0, .int (nI wt.length)]) (rest := []) ⟨hx, hb, hml, hown, hts⟩ (c_J7_copyOfRangeByte_39247 l D cI cB cZ cP s.heap.size tz1 tz2 va cp ba wt (hR) (hL) (hwl) (h70)) (cwS 3 hts gJ7_copyOfRange_39247_J7_copyOfRangeByte_39247 rfl rfl rfl (by decide +kernel) ⟨Nat.le_of_ble_eq_true rfl, Nat.le_of_ble_eq_true rfl⟩) (pSQZ hPc hDc hW0 EF.t (hZ.to hS.2.1 hFc)) rfl rfl hl.1 rfl (lv_room (Nat.le_of_ble_eq_true rfl)) dJ7_copyOfRange_39247_13 ⟨Nat.le_of_ble_eq_true rfl, Nat.le_of_ble_eq_true rfl⟩) hS (fun q _ h => hFc q h) hFc (fun u ra_4 t H1 locs ht hvm hw hB hz1 hk1 hS => ?_)
      obtain ⟨g_4, rfl⟩ : ∃ z, z = u := ⟨_, rfl⟩
      obtain ⟨hP1, hD1⟩ := hB
      rw [ht] at hP1
      have hw_4 : rowIs g_4 wt ∧ lat g_4 := hw
      obtain ⟨hP, hD⟩ := va_join (wr := []) (w1 := [(va, .inl (cB, cp, .inl ba)), (ra_4, .inl (cB, wt.length, .inl g_4))]) hP hD [0] [] rfl rfl (by decide) (by decide) hk1 hFc hP1 hD1
      generalize H1 = H at hP hS ⊢
      have hP := hP.sub (ws' := [(va, .inl (cB, cp, .inl ba)), (ra_4, .inl (cB, wt.length, .inl g_4))]) [0, 1] rfl
      have hD := hD.sub (ws' := [(va, .inl (cB, cp, .inl ba)), (ra_4, .inl (cB, wt.length, .inl g_4))]) [0, 1] (by decide) rfl
      rw [← hQ]
      have hP9 := hP
      have hD9 := hD
      exact W.aret (v := .ref ra_4) hx hb hr (Or.inr ⟨_, rfl⟩) (Or.inr ⟨_, rfl⟩) (fun t ht hW => ⟨⟨g_4, ra_4, rfl, hw_4, by rw [ht]; exact hP9, hD9⟩, hS.F ht⟩) hS.2.2 dJ7_copyOfRange_39247_16

set_option maxHeartbeats 4000000 in
set_option maxRecDepth 100000 in
theorem c_J0_init_db425 (l : Launch) (D : va_G) (cI cB cZ cP : ClassId) (sz : Nat) (tz1 tz2 : Nat) (h0 h1 va cp : Nat) (ml : Int32) (ba : Nat → Int32) (wt : List Int32) (hc : cap cp) (hR : rowIs ba wt) (hL : lat ba) (hwl : wt.length ≤ cp) : Met l yJ0_init_db425 wsJ0_init_db425 ({ frames := 3, cells := 1, slots := 70, locals := 86 } : Room) (va_Pc [.ref h0, .ref h1, .null] (fun U => U.heap.size = sz ∧ va_P D vwCl [(h0, .inr (0, [.null, .int 0, .int 0, .int 0])), (h1, .inr (1, [.ref va, .int 0, .int ml, .int (nI wt.length)])), (va, .inl (cB, cp, .inl ba))] U.heap ∧ KW D cI cB cZ cP U ∧ va_D (fun _ => True) [(h0, .inr (0, [.null, .int 0, .int 0, .int 0])), (h1, .inr (1, [.ref va, .int 0, .int ml, .int (nI wt.length)])), (va, .inl (cB, cp, .inl ba))] ∧ EF [(h0, .inr (0, [.null, .int 0, .int 0, .int 0])), (h1, .inr (1, [.ref va, .int 0, .int ml, .int (nI wt.length)])), (va, .inl (cB, cp, .inl ba))] sz E0 U.heap ∧ ZZ tz1 tz2 (va_A [(h0, .inr (0, [.null, .int 0, .int 0, .int 0])), (h1, .inr (1, [.ref va, .int 0, .int ml, .int (nI wt.length)])), (va, .inl (cB, cp, .inl ba))] sz) U U.heap)) (va_Qv (fun (u : Nat × (Nat → Int32)) => match u with | (qv, g) => rowIs g wt ∧ lat g) (fun (u : Nat × (Nat → Int32)) (t : State) => match u with | (qv, g) => va_P D vwCl [(h0, .inr (0, [.ref qv, .int 0, .int 0, .int 0])), (h1, .inr (1, [.ref va, .int 0, .int ml, .int (nI wt.length)])), (va, .inl (cB, cp, .inl ba)), (qv, .inl (cB, wt.length, .inl g))] t.heap ∧ va_D (va_A [(h0, .inr (0, [.null, .int 0, .int 0, .int 0])), (h1, .inr (1, [.ref va, .int 0, .int ml, .int (nI wt.length)])), (va, .inl (cB, cp, .inl ba))] sz) [(h0, .inr (0, [.ref qv, .int 0, .int 0, .int 0])), (h1, .inr (1, [.ref va, .int 0, .int ml, .int (nI wt.length)])), (va, .inl (cB, cp, .inl ba)), (qv, .inl (cB, wt.length, .inl g))]) (va_A [(h0, .inr (0, [.null, .int 0, .int 0, .int 0])), (h1, .inr (1, [.ref va, .int 0, .int ml, .int (nI wt.length)])), (va, .inl (cB, cp, .inl ba))] sz)) 1 70 (va_A [(h0, .inr (0, [.null, .int 0, .int 0, .int 0])), (h1, .inr (1, [.ref va, .int 0, .int ml, .int (nI wt.length)])), (va, .inl (cB, cp, .inl ba))] sz) := by
  refine Met.ofW (cc := cJ0_init_db425) (maxL := 5) (ret := none) (by decide) rfl ?_
  intro p e s m args below meth c s₁ B hml hv
  obtain ⟨rfl, hsz, hP, hW0, hD0, hE, hZ⟩ := hv
  have hx := B.exec
  have hb := B.bytes
  have hr := B.returns
  have hts := atoms_spec (ws := wsJ0_init_db425) B.pre
  have hown : s.vm.findClass RJ0 = some m.cls := findClass_of_methodNamed B.named
  have hlocks := B.notSynchronized
  have hK := hW0.1
  have hin : meth.name = "<init>" := (name_of_methodNamed B.named B.method).1
  subst hsz
  have hD := hD0.self (sz := s.heap.size)
  unfold EF at hE
  generalize hAe : va_A [(h0, .inr (0, [.null, .int 0, .int 0, .int 0])), (h1, .inr (1, [.ref va, .int 0, .int ml, .int (nI wt.length)])), (va, .inl (cB, cp, .inl ba))] s.heap.size = A at hD hE hZ ⊢
  have hA : ∀ q : Nat, s.heap.size ≤ q → A q := fun q h => by rw [← hAe]; exact Or.inr h
  have hS : va_S A s.heap s.heap [] := va_S.rf
  have hl := lv_entry ([.ref h0, .ref h1, .null]) (n := 5) (Nat.le_of_ble_eq_true rfl)
  rw [lg_entry_eq]
  generalize (lg_sl ([.ref h0, .ref h1, .null]) ++ List.replicate (5 - (lg_sl ([.ref h0, .ref h1, .null])).length) Slot.unset).toArray = ls at hl ⊢
  have hl : lv_has ls 5 [(0, .ref h0), (1, .ref h1), (2, .null)] := hl
  show W p l e ({ frames := 3, cells := 1, slots := 70, locals := 86 } : Room) s m ([.ref h0, .ref h1, .null] : List Value).toArray below meth c s.heap [] 0 0 _ (F0 m 0 ls [])
  refine u_genQ (fun Q hQ => ?_)
  have hcb := cap_b hc
  refine lv_aload_n hx hb dJ0_init_db425_0 rfl (lv_at hl 0 rfl) ?_
  refine W.objInit hx hb hown (hts (.methodLink RJ0 1 objectInit) (by decide +kernel)) (hts (.instanceMethod objectInit) (by decide +kernel)) (hts (.code objectInit ⟨#[0xb1]⟩ 1 none) (by decide +kernel)) rfl (by rw [hml]; exact hl.1) rfl dJ0_init_db425_1 (Nat.le_of_ble_eq_true rfl) (Nat.le_of_ble_eq_true rfl) ?_
  refine W.eq (g2 := F0 m 4 ls []) rfl ?_
  refine lv_aload_n hx hb dJ0_init_db425_4 rfl (lv_at hl 1 rfl) ?_
  have hPc := hP.sub (ws' := [(h1, .inr (1, [.ref va, .int 0, .int ml, .int (nI wt.length)]))]) [1] rfl
  refine u_callSr (va_runU (As := []) (rest := []) ⟨hx, hb, hml, hown, hts⟩ (c_J5_getValue_6d5f1 l D cI cB cZ cP h1 va ml wt ) (va_cwU 0 hts gJ0_init_db425_J5_getValue_6d5f1_u552J4 rfl rfl rfl rfl (by decide +kernel) ⟨Nat.le_of_ble_eq_true rfl, Nat.le_of_ble_eq_true rfl⟩) (pV (q0 := 0) hPc hW0 trivial rfl rfl) rfl rfl hl.1 rfl (lv_room (Nat.le_of_ble_eq_true rfl)) dJ0_init_db425_5 ⟨Nat.le_of_ble_eq_true rfl, Nat.le_of_ble_eq_true rfl⟩).run ?_
  refine lv_astore_n (lv' := [(3, .ref va), (0, .ref h0), (1, .ref h1), (2, .null)]) hx hb dJ0_init_db425_8 rfl hl (by decide) rfl (fun ls hl => ?_)
  refine lv_aload_n hx hb dJ0_init_db425_9 rfl (lv_at hl 2 rfl) ?_
  have hPc := hP.sub (ws' := [(h1, .inr (1, [.ref va, .int 0, .int ml, .int (nI wt.length)]))]) [1] rfl
  refine u_callSi (va_runU (As := []) (rest := []) ⟨hx, hb, hml, hown, hts⟩ (c_J4_length_8abf5 l D cI cB cZ cP h1 va ml wt ) (va_cwO 0 hts gJ0_init_db425_J4_length_8abf5_u549J4 rfl rfl rfl (b0 := cJ5_length_8abf5) (m0 := 1) (r0 := (some .int)) (by decide +kernel) (by decide +kernel) ⟨Nat.le_of_ble_eq_true rfl, Nat.le_of_ble_eq_true rfl⟩) (pV (q0 := 0) hPc hW0 trivial rfl rfl) rfl rfl hl.1 rfl (lv_room (Nat.le_of_ble_eq_true rfl)) dJ0_init_db425_10 ⟨Nat.le_of_ble_eq_true rfl, Nat.le_of_ble_eq_true rfl⟩).run ?_
  refine lv_istore (lv' := [(4, .int (nI wt.length)), (3, .ref va), (0, .ref h0), (1, .ref h1), (2, .null)]) hx hb dJ0_init_db425_13 hl (by decide) rfl (fun ls hl => ?_)
  refine lv_aload_n hx hb dJ0_init_db425_15 rfl (lv_at hl 3 rfl) ?_
  have hPc := hP.sub (ws' := [(h1, .inr (1, [.ref va, .int 0, .int ml, .int (nI wt.length)]))]) [1] rfl
  refine u_callSi (va_runU (As := []) (rest := []) ⟨hx, hb, hml, hown, hts⟩ (c_J5_isLatin1_aae02 l D cI cB cZ cP tz1 tz2 h1 va ml wt ) (va_cwU 0 hts gJ0_init_db425_J5_isLatin1_aae02_u1047J4 rfl rfl rfl rfl (by decide +kernel) ⟨Nat.le_of_ble_eq_true rfl, Nat.le_of_ble_eq_true rfl⟩) (pVZ (q0 := 0) hPc hW0 trivial (hZ.to hS.2.1 (fun _ h => h.elim)) rfl rfl) rfl rfl hl.1 rfl (lv_room (Nat.le_of_ble_eq_true rfl)) dJ0_init_db425_16 ⟨Nat.le_of_ble_eq_true rfl, Nat.le_of_ble_eq_true rfl⟩).run ?_
  refine lv_if_eq (tgt := 41) hx hb dJ0_init_db425_19 (by decide) (fun c_1 => ?_) (fun c_1 => ?_)
  · skip
    exact absurd c_1 (by decide)
  · skip
    refine lv_aload_n hx hb dJ0_init_db425_22 rfl (lv_at hl 2 rfl) ?_
    refine lv_iconst (v := 0) hx hb dJ0_init_db425_23 (by decide) ?_
    refine va_putF (D := D) (ci := 0) (v := .int 0) (ty := .byte) (C := RJ0) (T := TJ0) (N := 4) hx hb hts (by decide +kernel) tyJ0 tyJ0_ok nmJ0 hown hK hP hD hS 0 rfl rfl 1 (by decide) (hts (.fieldLink RJ0 15 "java/lang/String" "coder" "B") (by decide +kernel)) (fun _ h9 => h9) rfl hin rfl (by decide +kernel) (by decide) (by decide) (Nat.le_of_ble_eq_true rfl) dJ0_init_db425_24 (fun H locs hP hD hS => ?_)
    have hP : va_P D vwCl [(h0, .inr (0, [.null, .int 0, .int 0, .int 0])), (h1, .inr (1, [.ref va, .int 0, .int ml, .int (nI wt.length)])), (va, .inl (cB, cp, .inl ba))] H := hP
    have hD : va_D A [(h0, .inr (0, [.null, .int 0, .int 0, .int 0])), (h1, .inr (1, [.ref va, .int 0, .int ml, .int (nI wt.length)])), (va, .inl (cB, cp, .inl ba))] := hD
    refine lv_aload_n hx hb dJ0_init_db425_27 rfl (lv_at hl 2 rfl) ?_
    refine lv_aload_n hx hb dJ0_init_db425_28 rfl (lv_at hl 1 rfl) ?_
    refine lv_iconst (v := 0) hx hb dJ0_init_db425_29 (by decide) ?_
    refine lv_iload hx hb dJ0_init_db425_30 (lv_at hl 0 rfl) ?_
    have hPc := hP.sub (ws' := [(va, .inl (cB, cp, .inl ba))]) [2] rfl
    have hDc := hD.sub (ws' := [(va, .inl (cB, cp, .inl ba))]) [2] (by decide) rfl
    have hFc := va_free (wc := [(va, .inl (cB, cp, .inl ba))]) hD hS hA [2] rfl
    refine va_callr (va_runS (As := [.ref va, .int 0, .int (nI wt.length)]) (rest := [.ref h0]) ⟨hx, hb, hml, hown, hts⟩ (c_J7_copyOfRange_39247 l D cI cB cZ cP H.size tz1 tz2 va cp ba wt (hR) (hL) (hwl) (by omega)) (va_cwS 3 hts gJ0_init_db425_J7_copyOfRange_39247 rfl rfl rfl (by decide +kernel) ⟨Nat.le_of_ble_eq_true rfl, Nat.le_of_ble_eq_true rfl⟩) (pSQZ hPc hDc hW0 EF.t (hZ.to hS.2.1 hFc)) rfl rfl hl.1 rfl (lv_room (Nat.le_of_ble_eq_true rfl)) dJ0_init_db425_32 ⟨Nat.le_of_ble_eq_true rfl, Nat.le_of_ble_eq_true rfl⟩) hS (fun q _ h => hFc q h) hFc (fun u ra_2 t H1 locs ht hvm hw hB hz1 hk1 hS => ?_)
    obtain ⟨g_2, rfl⟩ : ∃ z, z = u := ⟨_, rfl⟩
    obtain ⟨hP1, hD1⟩ := hB
    rw [ht] at hP1
    have hw_2 : rowIs g_2 wt ∧ lat g_2 := hw
    obtain ⟨hP, hD⟩ := va_join (wr := [(h0, .inr (0, [.null, .int 0, .int 0, .int 0])), (h1, .inr (1, [.ref va, .int 0, .int ml, .int (nI wt.length)]))]) (w1 := [(va, .inl (cB, cp, .inl ba)), (ra_2, .inl (cB, wt.length, .inl g_2))]) hP hD [2] [0, 1] rfl rfl (by decide) (by decide) hk1 hFc hP1 hD1
    generalize H1 = H at hP hS ⊢
    have hP := hP.sub (ws' := [(h0, .inr (0, [.null, .int 0, .int 0, .int 0])), (h1, .inr (1, [.ref va, .int 0, .int ml, .int (nI wt.length)])), (va, .inl (cB, cp, .inl ba)), (ra_2, .inl (cB, wt.length, .inl g_2))]) [0, 1, 2, 3] rfl
    have hD := hD.sub (ws' := [(h0, .inr (0, [.null, .int 0, .int 0, .int 0])), (h1, .inr (1, [.ref va, .int 0, .int ml, .int (nI wt.length)])), (va, .inl (cB, cp, .inl ba)), (ra_2, .inl (cB, wt.length, .inl g_2))]) [0, 1, 2, 3] (by decide) rfl
    refine va_putF (D := D) (ci := 0) (v := .ref ra_2) (ty := .array .byte) (C := RJ0) (T := TJ0) (N := 4) hx hb hts (by decide +kernel) tyJ0 tyJ0_ok nmJ0 hown hK hP hD hS 0 rfl rfl 0 (by decide) (hts (.fieldLink RJ0 9 "java/lang/String" "value" "[B") (by decide +kernel)) (fun _ h9 => h9) rfl hin rfl (by decide +kernel) rfl rfl (Nat.le_of_ble_eq_true rfl) dJ0_init_db425_35 (fun H locs hP hD hS => ?_)
    have hP : va_P D vwCl [(h0, .inr (0, [.ref ra_2, .int 0, .int 0, .int 0])), (h1, .inr (1, [.ref va, .int 0, .int ml, .int (nI wt.length)])), (va, .inl (cB, cp, .inl ba)), (ra_2, .inl (cB, wt.length, .inl g_2))] H := hP
    have hD : va_D A [(h0, .inr (0, [.ref ra_2, .int 0, .int 0, .int 0])), (h1, .inr (1, [.ref va, .int 0, .int ml, .int (nI wt.length)])), (va, .inl (cB, cp, .inl ba)), (ra_2, .inl (cB, wt.length, .inl g_2))] := hD
    refine lv_goto (tgt := 97) hx hb dJ0_init_db425_38 (by decide) ?_
    rw [← hQ]
    have hP9 := hP
    have hD9 := hD
    exact W.vret hx hb hr (fun t ht hW => ⟨⟨(ra_2, g_2), rfl, hw_2, by rw [ht]; exact hP9, hD9⟩, hS.F ht⟩) hS.2.2 dJ0_init_db425_97

set_option maxHeartbeats 4000000 in
set_option maxRecDepth 100000 in
theorem c_J0_init_81219 (l : Launch) (D : va_G) (cI cB cZ cP : ClassId) (sz : Nat) (tz1 tz2 : Nat) (h0 h1 va cp : Nat) (ml : Int32) (ba : Nat → Int32) (wt : List Int32) (hc : cap cp) (hR : rowIs ba wt) (hL : lat ba) (hwl : wt.length ≤ cp) : Met l yJ0_init_81219 wsJ0_init_81219 ({ frames := 4, cells := 1, slots := 70, locals := 110 } : Room) (va_Pc [.ref h0, .ref h1] (fun U => U.heap.size = sz ∧ va_P D vwCl [(h0, .inr (0, [.null, .int 0, .int 0, .int 0])), (h1, .inr (1, [.ref va, .int 0, .int ml, .int (nI wt.length)])), (va, .inl (cB, cp, .inl ba))] U.heap ∧ KW D cI cB cZ cP U ∧ va_D (fun _ => True) [(h0, .inr (0, [.null, .int 0, .int 0, .int 0])), (h1, .inr (1, [.ref va, .int 0, .int ml, .int (nI wt.length)])), (va, .inl (cB, cp, .inl ba))] ∧ EF [(h0, .inr (0, [.null, .int 0, .int 0, .int 0])), (h1, .inr (1, [.ref va, .int 0, .int ml, .int (nI wt.length)])), (va, .inl (cB, cp, .inl ba))] sz E0 U.heap ∧ ZZ tz1 tz2 (va_A [(h0, .inr (0, [.null, .int 0, .int 0, .int 0])), (h1, .inr (1, [.ref va, .int 0, .int ml, .int (nI wt.length)])), (va, .inl (cB, cp, .inl ba))] sz) U U.heap)) (va_Qv (fun (u : Nat × (Nat → Int32)) => match u with | (qv, g) => rowIs g wt ∧ lat g) (fun (u : Nat × (Nat → Int32)) (t : State) => match u with | (qv, g) => va_P D vwCl [(h0, .inr (0, [.ref qv, .int 0, .int 0, .int 0])), (h1, .inr (1, [.ref va, .int 0, .int ml, .int (nI wt.length)])), (va, .inl (cB, cp, .inl ba)), (qv, .inl (cB, wt.length, .inl g))] t.heap ∧ va_D (va_A [(h0, .inr (0, [.null, .int 0, .int 0, .int 0])), (h1, .inr (1, [.ref va, .int 0, .int ml, .int (nI wt.length)])), (va, .inl (cB, cp, .inl ba))] sz) [(h0, .inr (0, [.ref qv, .int 0, .int 0, .int 0])), (h1, .inr (1, [.ref va, .int 0, .int ml, .int (nI wt.length)])), (va, .inl (cB, cp, .inl ba)), (qv, .inl (cB, wt.length, .inl g))]) (va_A [(h0, .inr (0, [.null, .int 0, .int 0, .int 0])), (h1, .inr (1, [.ref va, .int 0, .int ml, .int (nI wt.length)])), (va, .inl (cB, cp, .inl ba))] sz)) 1 70 (va_A [(h0, .inr (0, [.null, .int 0, .int 0, .int 0])), (h1, .inr (1, [.ref va, .int 0, .int ml, .int (nI wt.length)])), (va, .inl (cB, cp, .inl ba))] sz) := by
  refine Met.ofW (cc := cJ0_init_81219) (maxL := 2) (ret := none) (by decide) rfl ?_
  intro p e s m args below meth c s₁ B hml hv
  obtain ⟨rfl, hsz, hP, hW0, hD0, hE, hZ⟩ := hv
  have hx := B.exec
  have hb := B.bytes
  have hr := B.returns
  have hts := atoms_spec (ws := wsJ0_init_81219) B.pre
  have hown : s.vm.findClass RJ0 = some m.cls := findClass_of_methodNamed B.named
  have hlocks := B.notSynchronized
  have hK := hW0.1
  have hin : meth.name = "<init>" := (name_of_methodNamed B.named B.method).1
  subst hsz
  have hD := hD0.self (sz := s.heap.size)
  unfold EF at hE
  generalize hAe : va_A [(h0, .inr (0, [.null, .int 0, .int 0, .int 0])), (h1, .inr (1, [.ref va, .int 0, .int ml, .int (nI wt.length)])), (va, .inl (cB, cp, .inl ba))] s.heap.size = A at hD hE hZ ⊢
  have hA : ∀ q : Nat, s.heap.size ≤ q → A q := fun q h => by rw [← hAe]; exact Or.inr h
  have hS : va_S A s.heap s.heap [] := va_S.rf
  have hl := lv_entry ([.ref h0, .ref h1]) (n := 2) (Nat.le_of_ble_eq_true rfl)
  rw [lg_entry_eq]
  generalize (lg_sl ([.ref h0, .ref h1]) ++ List.replicate (2 - (lg_sl ([.ref h0, .ref h1])).length) Slot.unset).toArray = ls at hl ⊢
  have hl : lv_has ls 2 [(0, .ref h0), (1, .ref h1)] := hl
  show W p l e ({ frames := 4, cells := 1, slots := 70, locals := 110 } : Room) s m ([.ref h0, .ref h1] : List Value).toArray below meth c s.heap [] 0 0 _ (F0 m 0 ls [])
  refine u_genQ (fun Q hQ => ?_)
  refine lv_aload_n hx hb dJ0_init_81219_0 rfl (lv_at hl 0 rfl) ?_
  refine lv_aload_n hx hb dJ0_init_81219_1 rfl (lv_at hl 1 rfl) ?_
  refine lv_null hx hb dJ0_init_81219_2 ?_
  have hPc := hP.sub (ws' := [(h0, .inr (0, [.null, .int 0, .int 0, .int 0])), (h1, .inr (1, [.ref va, .int 0, .int ml, .int (nI wt.length)])), (va, .inl (cB, cp, .inl ba))]) [0, 1, 2] rfl
  have hDc := hD.sub (ws' := [(h0, .inr (0, [.null, .int 0, .int 0, .int 0])), (h1, .inr (1, [.ref va, .int 0, .int ml, .int (nI wt.length)])), (va, .inl (cB, cp, .inl ba))]) [0, 1, 2] (by decide) rfl
  have hFc := va_free (wc := [(h0, .inr (0, [.null, .int 0, .int 0, .int 0])), (h1, .inr (1, [.ref va, .int 0, .int ml, .int (nI wt.length)])), (va, .inl (cB, cp, .inl ba))]) hD hS hA [0, 1, 2] rfl
  refine va_callv (va_runI (As := [.ref h1, .null]) (rest := []) ⟨hx, hb, hml, hown, hts⟩ (c_J0_init_db425 l D cI cB cZ cP s.heap.size tz1 tz2 h0 h1 va cp ml ba wt (hc) (hR) (hL) (hwl)) (cwI 2 hts gJ0_init_81219_J0_init_db425 rfl rfl rfl (hts (.initialized RJ0) (by decide +kernel)) (hts (.methodLink RJ0 489 yJ0_init_db425) (by decide +kernel)) (hts (.instanceMethod yJ0_init_db425) (by decide +kernel)) rfl (by decide +kernel) ⟨Nat.le_of_ble_eq_true rfl, Nat.le_of_ble_eq_true rfl⟩) (pSQZ hPc hDc hW0 EF.t (hZ.to hS.2.1 hFc)) rfl rfl hl.1 rfl (lv_room (Nat.le_of_ble_eq_true rfl)) dJ0_init_81219_3 ⟨Nat.le_of_ble_eq_true rfl, Nat.le_of_ble_eq_true rfl⟩) hS (fun q _ h => hFc q h) hFc (fun u t H1 locs ht hvm hw hB hz1 hk1 hS => ?_)
  obtain ⟨qv_1, g_1⟩ := u
  obtain ⟨hP1, hD1⟩ := hB
  rw [ht] at hP1
  have hw_1 : rowIs g_1 wt ∧ lat g_1 := hw
  obtain ⟨hP, hD⟩ := va_join (wr := []) (w1 := [(h0, .inr (0, [.ref qv_1, .int 0, .int 0, .int 0])), (h1, .inr (1, [.ref va, .int 0, .int ml, .int (nI wt.length)])), (va, .inl (cB, cp, .inl ba)), (qv_1, .inl (cB, wt.length, .inl g_1))]) hP hD [0, 1, 2] [] rfl rfl (by decide) (by decide) hk1 hFc hP1 hD1
  generalize H1 = H at hP hS ⊢
  have hP := hP.sub (ws' := [(h0, .inr (0, [.ref qv_1, .int 0, .int 0, .int 0])), (h1, .inr (1, [.ref va, .int 0, .int ml, .int (nI wt.length)])), (va, .inl (cB, cp, .inl ba)), (qv_1, .inl (cB, wt.length, .inl g_1))]) [0, 1, 2, 3] rfl
  have hD := hD.sub (ws' := [(h0, .inr (0, [.ref qv_1, .int 0, .int 0, .int 0])), (h1, .inr (1, [.ref va, .int 0, .int ml, .int (nI wt.length)])), (va, .inl (cB, cp, .inl ba)), (qv_1, .inl (cB, wt.length, .inl g_1))]) [0, 1, 2, 3] (by decide) rfl
  rw [← hQ]
  have hP9 := hP
  have hD9 := hD
  exact W.vret hx hb hr (fun t ht hW => ⟨⟨(qv_1, g_1), rfl, hw_1, by rw [ht]; exact hP9, hD9⟩, hS.F ht⟩) hS.2.2 dJ0_init_81219_6

set_option maxHeartbeats 4000000 in
set_option maxRecDepth 100000 in
theorem c_J4_toString_0e30d (l : Launch) (D : va_G) (cI cB cZ cP : ClassId) (sz : Nat) (tz1 tz2 : Nat) (h1 va cp : Nat) (ml : Int32) (ba : Nat → Int32) (wt : List Int32) (hc : cap cp) (hR : rowIs ba wt) (hL : lat ba) (hwl : wt.length ≤ cp) : Met l yJ4_toString_0e30d wsJ4_toString_0e30d ({ frames := 5, cells := 2, slots := 74, locals := 131 } : Room) (va_Pc [.ref h1] (fun U => U.heap.size = sz ∧ va_P D vwCl [(h1, .inr (1, [.ref va, .int 0, .int ml, .int (nI wt.length)])), (va, .inl (cB, cp, .inl ba))] U.heap ∧ KW D cI cB cZ cP U ∧ va_D (fun _ => True) [(h1, .inr (1, [.ref va, .int 0, .int ml, .int (nI wt.length)])), (va, .inl (cB, cp, .inl ba))] ∧ EF [(h1, .inr (1, [.ref va, .int 0, .int ml, .int (nI wt.length)])), (va, .inl (cB, cp, .inl ba))] sz E0 U.heap ∧ ZZ tz1 tz2 (va_A [(h1, .inr (1, [.ref va, .int 0, .int ml, .int (nI wt.length)])), (va, .inl (cB, cp, .inl ba))] sz) U U.heap)) (va_Qr (fun (u : Nat × (Nat → Int32)) => match u with | (qv, g) => rowIs g wt ∧ lat g) (fun (u : Nat × (Nat → Int32)) (ra : Nat) (t : State) => match u with | (qv, g) => va_P D vwCl [(h1, .inr (1, [.ref va, .int 0, .int ml, .int (nI wt.length)])), (va, .inl (cB, cp, .inl ba)), (ra, .inr (0, [.ref qv, .int 0, .int 0, .int 0])), (qv, .inl (cB, wt.length, .inl g))] t.heap ∧ va_D (va_A [(h1, .inr (1, [.ref va, .int 0, .int ml, .int (nI wt.length)])), (va, .inl (cB, cp, .inl ba))] sz) [(h1, .inr (1, [.ref va, .int 0, .int ml, .int (nI wt.length)])), (va, .inl (cB, cp, .inl ba)), (ra, .inr (0, [.ref qv, .int 0, .int 0, .int 0])), (qv, .inl (cB, wt.length, .inl g))]) (va_A [(h1, .inr (1, [.ref va, .int 0, .int ml, .int (nI wt.length)])), (va, .inl (cB, cp, .inl ba))] sz)) 2 74 (va_A [(h1, .inr (1, [.ref va, .int 0, .int ml, .int (nI wt.length)])), (va, .inl (cB, cp, .inl ba))] sz) := by
  refine Met.ofW (cc := cJ4_toString_0e30d) (maxL := 1) (ret := (some (.object "java/lang/String"))) (by decide) rfl ?_
  intro p e s m args below meth c s₁ B hml hv
  obtain ⟨rfl, hsz, hP, hW0, hD0, hE, hZ⟩ := hv
  have hx := B.exec
  have hb := B.bytes
  have hr := B.returns
  have hts := atoms_spec (ws := wsJ4_toString_0e30d) B.pre
  have hown : s.vm.findClass RJ4 = some m.cls := findClass_of_methodNamed B.named
  have hlocks := B.notSynchronized
  have hK := hW0.1
  subst hsz
  have hD := hD0.self (sz := s.heap.size)
  unfold EF at hE
  generalize hAe : va_A [(h1, .inr (1, [.ref va, .int 0, .int ml, .int (nI wt.length)])), (va, .inl (cB, cp, .inl ba))] s.heap.size = A at hD hE hZ ⊢
  have hA : ∀ q : Nat, s.heap.size ≤ q → A q := fun q h => by rw [← hAe]; exact Or.inr h
  have hS : va_S A s.heap s.heap [] := va_S.rf
  have hl := lv_entry ([.ref h1]) (n := 1) (Nat.le_of_ble_eq_true rfl)
  rw [lg_entry_eq]
  generalize (lg_sl ([.ref h1]) ++ List.replicate (1 - (lg_sl ([.ref h1])).length) Slot.unset).toArray = ls at hl ⊢
  have hl : lv_has ls 1 [(0, .ref h1)] := hl
  show W p l e ({ frames := 5, cells := 2, slots := 74, locals := 131 } : Room) s m ([.ref h1] : List Value).toArray below meth c s.heap [] 0 0 _ (F0 m 0 ls [])
  refine u_genQ (fun Q hQ => ?_)
  refine va_new (ci := 0) (fs := [.null, .int 0, .int 0, .int 0]) (C := RJ0) (T := TJ0) (N := 4) hx hb hts (by decide +kernel) tyJ0 tyJ0_ok hown (hts (.classLink RJ4 18 RJ0) (by decide +kernel)) (hts (.instantiable RJ0 4) (by decide +kernel)) (hts (.initialized RJ0) (by decide +kernel)) hK hP hD hS hA rfl (fun j hj => by rcases (show j = 0 ∨ j = 1 ∨ j = 2 ∨ j = 3 by omega) with rfl | rfl | rfl | rfl <;> rfl) (Nat.le_of_ble_eq_true rfl) (Nat.le_of_ble_eq_true rfl) dJ4_toString_0e30d_0 (fun q_1 H hP hD hS => ?_)
  have hP : va_P D vwCl [(h1, .inr (1, [.ref va, .int 0, .int ml, .int (nI wt.length)])), (va, .inl (cB, cp, .inl ba)), (q_1, .inr (0, [.null, .int 0, .int 0, .int 0]))] H := hP
  have hD : va_D A [(h1, .inr (1, [.ref va, .int 0, .int ml, .int (nI wt.length)])), (va, .inl (cB, cp, .inl ba)), (q_1, .inr (0, [.null, .int 0, .int 0, .int 0]))] := hD
  refine W.widen (k := 1) (n := 4) (Nat.le_of_ble_eq_true rfl) (Nat.le_of_ble_eq_true rfl) ?_
  refine lv_dup hx hb dJ4_toString_0e30d_3 rfl ?_
  refine lv_aload_n hx hb dJ4_toString_0e30d_4 rfl (lv_at hl 0 rfl) ?_
  have hPc := hP.sub (ws' := [(q_1, .inr (0, [.null, .int 0, .int 0, .int 0])), (h1, .inr (1, [.ref va, .int 0, .int ml, .int (nI wt.length)])), (va, .inl (cB, cp, .inl ba))]) [2, 0, 1] rfl
  have hDc := hD.sub (ws' := [(q_1, .inr (0, [.null, .int 0, .int 0, .int 0])), (h1, .inr (1, [.ref va, .int 0, .int ml, .int (nI wt.length)])), (va, .inl (cB, cp, .inl ba))]) [2, 0, 1] (by decide) rfl
  have hFc := va_free (wc := [(q_1, .inr (0, [.null, .int 0, .int 0, .int 0])), (h1, .inr (1, [.ref va, .int 0, .int ml, .int (nI wt.length)])), (va, .inl (cB, cp, .inl ba))]) hD hS hA [2, 0, 1] rfl
  refine va_callv (va_runI (As := [.ref h1]) (rest := [.ref q_1]) ⟨hx, hb, hml, hown, hts⟩ (c_J0_init_81219 l D cI cB cZ cP H.size tz1 tz2 q_1 h1 va cp ml ba wt (hc) (hR) (hL) (hwl)) (cwI 1 hts gJ4_toString_0e30d_J0_init_81219 rfl rfl rfl (hts (.initialized RJ0) (by decide +kernel)) (hts (.methodLink RJ4 137 yJ0_init_81219) (by decide +kernel)) (hts (.instanceMethod yJ0_init_81219) (by decide +kernel)) rfl (by decide +kernel) ⟨Nat.le_of_ble_eq_true rfl, Nat.le_of_ble_eq_true rfl⟩) (pSQZ hPc hDc hW0 EF.t (hZ.to hS.2.1 hFc)) rfl rfl hl.1 rfl (lv_room (Nat.le_of_ble_eq_true rfl)) dJ4_toString_0e30d_5 ⟨Nat.le_of_ble_eq_true rfl, Nat.le_of_ble_eq_true rfl⟩) hS (fun q _ h => hFc q h) hFc (fun u t H1 locs ht hvm hw hB hz1 hk1 hS => ?_)
  obtain ⟨qv_2, g_2⟩ := u
  obtain ⟨hP1, hD1⟩ := hB
  rw [ht] at hP1
  have hw_2 : rowIs g_2 wt ∧ lat g_2 := hw
  obtain ⟨hP, hD⟩ := va_join (wr := []) (w1 := [(q_1, .inr (0, [.ref qv_2, .int 0, .int 0, .int 0])), (h1, .inr (1, [.ref va, .int 0, .int ml, .int (nI wt.length)])), (va, .inl (cB, cp, .inl ba)), (qv_2, .inl (cB, wt.length, .inl g_2))]) hP hD [2, 0, 1] [] rfl rfl (by decide) (by decide) hk1 hFc hP1 hD1
  generalize H1 = H at hP hS ⊢
  have hP := hP.sub (ws' := [(h1, .inr (1, [.ref va, .int 0, .int ml, .int (nI wt.length)])), (va, .inl (cB, cp, .inl ba)), (q_1, .inr (0, [.ref qv_2, .int 0, .int 0, .int 0])), (qv_2, .inl (cB, wt.length, .inl g_2))]) [1, 2, 0, 3] rfl
  have hD := hD.sub (ws' := [(h1, .inr (1, [.ref va, .int 0, .int ml, .int (nI wt.length)])), (va, .inl (cB, cp, .inl ba)), (q_1, .inr (0, [.ref qv_2, .int 0, .int 0, .int 0])), (qv_2, .inl (cB, wt.length, .inl g_2))]) [1, 2, 0, 3] (by decide) rfl
  rw [← hQ]
  have hP9 := hP
  have hD9 := hD
  exact W.aret (v := .ref q_1) hx hb hr (Or.inl ⟨_, rfl⟩) (Or.inr ⟨_, rfl⟩) (fun t ht hW => ⟨⟨(qv_2, g_2), q_1, rfl, hw_2, by rw [ht]; exact hP9, hD9⟩, hS.F ht⟩) hS.2.2 dJ4_toString_0e30d_8

set_option maxHeartbeats 4000000 in
set_option maxRecDepth 100000 in
theorem c_J0_coder_7d493 (l : Launch) (D : va_G) (cI cB cZ cP : ClassId) (tz1 tz2 : Nat) (h0 qv : Nat) : Met l yJ0_coder_7d493 wsJ0_coder_7d493 ({ frames := 0, cells := 0, slots := 0, locals := 0 } : Room) (va_Pc [.ref h0] (fun U => va_P D vwCl [(h0, .inr (0, [.ref qv, .int 0, .int 0, .int 0]))] U.heap ∧ KW D cI cB cZ cP U ∧ E0 U.heap ∧ ZZ tz1 tz2 (fun _ => False) U U.heap)) (vp_Si (fun r => r = 0)) 0 0 (fun _ => False) := by
  refine Met.ofW (cc := cJ0_coder_7d493) (maxL := 1) (ret := (some .byte)) (by decide) rfl ?_
  intro p e s m args below meth c s₁ B hml hv
  obtain ⟨rfl, hP, hW0, hE, hZ⟩ := hv
  have hx := B.exec
  have hb := B.bytes
  have hr := B.returns
  have hts := atoms_spec (ws := wsJ0_coder_7d493) B.pre
  have hown : s.vm.findClass RJ0 = some m.cls := findClass_of_methodNamed B.named
  have hlocks := B.notSynchronized
  have hK := hW0.1
  have hl := lv_entry ([.ref h0]) (n := 1) (Nat.le_of_ble_eq_true rfl)
  rw [lg_entry_eq]
  generalize (lg_sl ([.ref h0]) ++ List.replicate (1 - (lg_sl ([.ref h0])).length) Slot.unset).toArray = ls at hl ⊢
  have hl : lv_has ls 1 [(0, .ref h0)] := hl
  show W p l e ({ frames := 0, cells := 0, slots := 0, locals := 0 } : Room) s m ([.ref h0] : List Value).toArray below meth c s.heap [] 0 0 _ (F0 m 0 ls [])
  refine u_genQ (fun Q hQ => ?_)
  refine va_gets hx hb hZ.1 (va_S.rf (A := fun _ => False)) hown (hts (.fieldLink RJ0 38 "java/lang/String" "COMPACT_STRINGS" "Z") (by decide +kernel)) (fun _ h9 => h9) dJ0_coder_7d493_0 ?_
  refine lv_if_eq (tgt := 13) hx hb dJ0_coder_7d493_3 (by decide) (fun c_1 => ?_) (fun c_1 => ?_)
  · skip
    exact absurd c_1 (by decide)
  · skip
    refine lv_aload_n hx hb dJ0_coder_7d493_6 rfl (lv_at hl 0 rfl) ?_
    refine va_get (D := D) (ci := 0) (v := .int 0) (C := RJ0) (T := TJ0) (N := 4) hx hb hts (by decide +kernel) hown hK hP 0 rfl rfl 1 (by decide) (hts (.fieldLink RJ0 15 "java/lang/String" "coder" "B") (by decide +kernel)) (fun _ h9 => h9) rfl dJ0_coder_7d493_7 ?_
    refine lv_goto (tgt := 14) hx hb dJ0_coder_7d493_10 (by decide) ?_
    rw [← hQ]
    exact W.zret (v := 0) hx hb hr (by decide) (fun t ht hW => ⟨_, rfl, rfl, ht⟩) (fun q h => absurd h List.not_mem_nil) dJ0_coder_7d493_14

set_option maxHeartbeats 4000000 in
set_option maxRecDepth 100000 in
theorem c_J0_isLatin1_aae02 (l : Launch) (D : va_G) (cI cB cZ cP : ClassId) (tz1 tz2 : Nat) (h0 qv : Nat) : Met l yJ0_isLatin1_aae02 wsJ0_isLatin1_aae02 ({ frames := 0, cells := 0, slots := 0, locals := 0 } : Room) (va_Pc [.ref h0] (fun U => va_P D vwCl [(h0, .inr (0, [.ref qv, .int 0, .int 0, .int 0]))] U.heap ∧ KW D cI cB cZ cP U ∧ E0 U.heap ∧ ZZ tz1 tz2 (fun _ => False) U U.heap)) (vp_Si (fun r => r = 1)) 0 0 (fun _ => False) := by
  refine Met.ofW (cc := cJ0_isLatin1_aae02) (maxL := 1) (ret := (some .boolean)) (by decide) rfl ?_
  intro p e s m args below meth c s₁ B hml hv
  obtain ⟨rfl, hP, hW0, hE, hZ⟩ := hv
  have hx := B.exec
  have hb := B.bytes
  have hr := B.returns
  have hts := atoms_spec (ws := wsJ0_isLatin1_aae02) B.pre
  have hown : s.vm.findClass RJ0 = some m.cls := findClass_of_methodNamed B.named
  have hlocks := B.notSynchronized
  have hK := hW0.1
  have hl := lv_entry ([.ref h0]) (n := 1) (Nat.le_of_ble_eq_true rfl)
  rw [lg_entry_eq]
  generalize (lg_sl ([.ref h0]) ++ List.replicate (1 - (lg_sl ([.ref h0])).length) Slot.unset).toArray = ls at hl ⊢
  have hl : lv_has ls 1 [(0, .ref h0)] := hl
  show W p l e ({ frames := 0, cells := 0, slots := 0, locals := 0 } : Room) s m ([.ref h0] : List Value).toArray below meth c s.heap [] 0 0 _ (F0 m 0 ls [])
  refine u_genQ (fun Q hQ => ?_)
  refine va_gets hx hb hZ.1 (va_S.rf (A := fun _ => False)) hown (hts (.fieldLink RJ0 38 "java/lang/String" "COMPACT_STRINGS" "Z") (by decide +kernel)) (fun _ h9 => h9) dJ0_isLatin1_aae02_0 ?_
  refine lv_if_eq (tgt := 17) hx hb dJ0_isLatin1_aae02_3 (by decide) (fun c_1 => ?_) (fun c_1 => ?_)
  · skip
    exact absurd c_1 (by decide)
  · skip
    refine lv_aload_n hx hb dJ0_isLatin1_aae02_6 rfl (lv_at hl 0 rfl) ?_
    refine va_get (D := D) (ci := 0) (v := .int 0) (C := RJ0) (T := TJ0) (N := 4) hx hb hts (by decide +kernel) hown hK hP 0 rfl rfl 1 (by decide) (hts (.fieldLink RJ0 15 "java/lang/String" "coder" "B") (by decide +kernel)) (fun _ h9 => h9) rfl dJ0_isLatin1_aae02_7 ?_
    refine lv_if_ne (tgt := 17) hx hb dJ0_isLatin1_aae02_10 (by decide) (fun c_2 => ?_) (fun c_2 => ?_)
    · skip
      exact absurd rfl c_2
    · skip
      refine lv_iconst (v := 1) hx hb dJ0_isLatin1_aae02_13 (by decide) ?_
      refine lv_goto (tgt := 18) hx hb dJ0_isLatin1_aae02_14 (by decide) ?_
      rw [← hQ]
      exact W.zret (v := 1) hx hb hr (by decide) (fun t ht hW => ⟨_, rfl, rfl, ht⟩) (fun q h => absurd h List.not_mem_nil) dJ0_isLatin1_aae02_18

set_option maxHeartbeats 4000000 in
set_option maxRecDepth 100000 in
theorem c_J0_length_8abf5 (l : Launch) (D : va_G) (cI cB cZ cP : ClassId) (tz1 tz2 : Nat) (h0 qv : Nat) (wt : List Int32) (g : Nat → Int32) (h70 : wt.length ≤ 70) : Met l yJ0_length_8abf5 wsJ0_length_8abf5 ({ frames := 1, cells := 0, slots := 0, locals := 20 } : Room) (va_Pc [.ref h0] (fun U => va_P D vwCl [(h0, .inr (0, [.ref qv, .int 0, .int 0, .int 0])), (qv, .inl (cB, wt.length, .inl g))] U.heap ∧ KW D cI cB cZ cP U ∧ E0 U.heap ∧ ZZ tz1 tz2 (fun _ => False) U U.heap)) (vp_Si (fun r => r = nI wt.length)) 0 0 (fun _ => False) := by
  refine Met.ofW (cc := cJ0_length_8abf5) (maxL := 1) (ret := (some .int)) (by decide) rfl ?_
  intro p e s m args below meth c s₁ B hml hv
  obtain ⟨rfl, hP, hW0, hE, hZ⟩ := hv
  have hx := B.exec
  have hb := B.bytes
  have hr := B.returns
  have hts := atoms_spec (ws := wsJ0_length_8abf5) B.pre
  have hown : s.vm.findClass RJ0 = some m.cls := findClass_of_methodNamed B.named
  have hlocks := B.notSynchronized
  have hK := hW0.1
  have hl := lv_entry ([.ref h0]) (n := 1) (Nat.le_of_ble_eq_true rfl)
  rw [lg_entry_eq]
  generalize (lg_sl ([.ref h0]) ++ List.replicate (1 - (lg_sl ([.ref h0])).length) Slot.unset).toArray = ls at hl ⊢
  have hl : lv_has ls 1 [(0, .ref h0)] := hl
  show W p l e ({ frames := 1, cells := 0, slots := 0, locals := 20 } : Room) s m ([.ref h0] : List Value).toArray below meth c s.heap [] 0 0 _ (F0 m 0 ls [])
  refine u_genQ (fun Q hQ => ?_)
  refine lv_aload_n hx hb dJ0_length_8abf5_0 rfl (lv_at hl 0 rfl) ?_
  refine va_get (D := D) (ci := 0) (v := .ref qv) (C := RJ0) (T := TJ0) (N := 4) hx hb hts (by decide +kernel) hown hK hP 0 rfl rfl 0 (by decide) (hts (.fieldLink RJ0 9 "java/lang/String" "value" "[B") (by decide +kernel)) (fun _ h9 => h9) rfl dJ0_length_8abf5_1 ?_
  refine va_alen (v := nI wt.length) hx hb hK hP 1 1 rfl rfl rfl dJ0_length_8abf5_4 ?_
  refine lv_aload_n hx hb dJ0_length_8abf5_5 rfl (lv_at hl 0 rfl) ?_
  have hPc := hP.sub (ws' := [(h0, .inr (0, [.ref qv, .int 0, .int 0, .int 0]))]) [0] rfl
  refine u_callSi (W.runV (As := []) (rest := [.int (nI wt.length)]) ⟨hx, hb, hml, hown, hts⟩ (c_J0_coder_7d493 l D cI cB cZ cP tz1 tz2 h0 qv ) (cwV 0 hts gJ0_length_8abf5_J0_coder_7d493 rfl rfl rfl (by decide +kernel) ⟨Nat.le_of_ble_eq_true rfl, Nat.le_of_ble_eq_true rfl⟩) (pVZ (q0 := 0) hPc hW0 trivial hZ rfl rfl) rfl rfl hl.1 rfl (lv_room (Nat.le_of_ble_eq_true rfl)) dJ0_length_8abf5_6 ⟨Nat.le_of_ble_eq_true rfl, Nat.le_of_ble_eq_true rfl⟩) ?_
  refine lv_ishr hx hb dJ0_length_8abf5_9 ?_
  refine u_eqi (show (nI wt.length) >>> (0 &&& 31) = nI wt.length from shr0 _) ?_
  rw [← hQ]
  exact W.iret (v := nI wt.length) hx hb hr (fun t ht hW => ⟨_, rfl, rfl, ht⟩) (fun q h => absurd h List.not_mem_nil) dJ0_length_8abf5_10

set_option maxHeartbeats 4000000 in
set_option maxRecDepth 100000 in
theorem c_J3_checkIndex_8e157 (l : Launch) (D : va_G) (cI cB cZ cP : ClassId) (kj kn : Nat) (h1 : kj < kn) (h2 : kn ≤ 70) : Met l yJ3_checkIndex_8e157 wsJ3_checkIndex_8e157 ({ frames := 0, cells := 0, slots := 0, locals := 0 } : Room) (va_Pc [.int (nI kj), .int (nI kn), .null] (fun U => va_P D vwCl [] U.heap ∧ KW D cI cB cZ cP U ∧ E0 U.heap)) (vp_Si (fun r => r = nI kj)) 0 0 (fun _ => False) := by
  refine Met.ofW (cc := cJ3_checkIndex_8e157) (maxL := 3) (ret := (some .int)) (by decide) rfl ?_
  intro p e s m args below meth c s₁ B hml hv
  obtain ⟨rfl, hP, hW0, hE⟩ := hv
  have hx := B.exec
  have hb := B.bytes
  have hr := B.returns
  have hts := atoms_spec (ws := wsJ3_checkIndex_8e157) B.pre
  have hown : s.vm.findClass RJ3 = some m.cls := findClass_of_methodNamed B.named
  have hlocks := B.notSynchronized
  have hK := hW0.1
  have hl := lv_entry ([.int (nI kj), .int (nI kn), .null]) (n := 3) (Nat.le_of_ble_eq_true rfl)
  rw [lg_entry_eq]
  generalize (lg_sl ([.int (nI kj), .int (nI kn), .null]) ++ List.replicate (3 - (lg_sl ([.int (nI kj), .int (nI kn), .null])).length) Slot.unset).toArray = ls at hl ⊢
  have hl : lv_has ls 3 [(0, .int (nI kj)), (1, .int (nI kn)), (2, .null)] := hl
  show W p l e ({ frames := 0, cells := 0, slots := 0, locals := 0 } : Room) s m ([.int (nI kj), .int (nI kn), .null] : List Value).toArray below meth c s.heap [] 0 0 _ (F0 m 0 ls [])
  refine u_genQ (fun Q hQ => ?_)
  refine lv_iload_n hx hb dJ3_checkIndex_8e157_0 rfl (lv_at hl 0 rfl) ?_
  refine lv_if_lt (tgt := 9) hx hb dJ3_checkIndex_8e157_1 (by decide) (fun c_1 => ?_) (fun c_1 => ?_)
  · skip
    have nc_1 : kj < 0 := (nI_ltI (a := kj) (b := 0) (by omega) (by omega)).mp c_1
    exact absurd c_1 (nI_pos (by omega))
  · skip
    have nc_1 : ¬ (kj < 0) := fun h => c_1 ((nI_ltI (a := kj) (b := 0) (by omega) (by omega)).mpr h)
    refine lv_iload_n hx hb dJ3_checkIndex_8e157_4 rfl (lv_at hl 0 rfl) ?_
    refine lv_iload_n hx hb dJ3_checkIndex_8e157_5 rfl (lv_at hl 1 rfl) ?_
    refine lv_icmp_lt (tgt := 16) hx hb dJ3_checkIndex_8e157_6 (by decide) (fun c_2 => ?_) (fun c_2 => ?_)
    · skip
      have nc_2 : kj < kn := (nI_ltI (a := kj) (b := kn) (by omega) (by omega)).mp c_2
      refine lv_iload_n hx hb dJ3_checkIndex_8e157_16 rfl (lv_at hl 0 rfl) ?_
      rw [← hQ]
      exact W.iret (v := nI kj) hx hb hr (fun t ht hW => ⟨_, rfl, rfl, ht⟩) (fun q h => absurd h List.not_mem_nil) dJ3_checkIndex_8e157_17
    · skip
      have nc_2 : ¬ (kj < kn) := fun h => c_2 ((nI_ltI (a := kj) (b := kn) (by omega) (by omega)).mpr h)
      exact absurd h1 nc_2

set_option maxHeartbeats 4000000 in
set_option maxRecDepth 100000 in
theorem c_J3_checkIndex_8e157_r (l : Launch) (D : va_G) (cI cB cZ cP : ClassId) (kj kn : Nat) (tq : Nat) (h1 : kj < kn) (h2 : kn ≤ 70) : Met l yJ3_checkIndex_8e157 wsJ3_checkIndex_8e157 ({ frames := 0, cells := 0, slots := 0, locals := 0 } : Room) (va_Pc [.int (nI kj), .int (nI kn), .ref tq] (fun U => va_P D vwCl [] U.heap ∧ KW D cI cB cZ cP U ∧ E0 U.heap)) (vp_Si (fun r => r = nI kj)) 0 0 (fun _ => False) := by
  refine Met.ofW (cc := cJ3_checkIndex_8e157) (maxL := 3) (ret := (some .int)) (by decide) rfl ?_
  intro p e s m args below meth c s₁ B hml hv
  obtain ⟨rfl, hP, hW0, hE⟩ := hv
  have hx := B.exec
  have hb := B.bytes
  have hr := B.returns
  have hts := atoms_spec (ws := wsJ3_checkIndex_8e157) B.pre
  have hown : s.vm.findClass RJ3 = some m.cls := findClass_of_methodNamed B.named
  have hlocks := B.notSynchronized
  have hK := hW0.1
  have hl := lv_entry ([.int (nI kj), .int (nI kn), .ref tq]) (n := 3) (Nat.le_of_ble_eq_true rfl)
  rw [lg_entry_eq]
  generalize (lg_sl ([.int (nI kj), .int (nI kn), .ref tq]) ++ List.replicate (3 - (lg_sl ([.int (nI kj), .int (nI kn), .ref tq])).length) Slot.unset).toArray = ls at hl ⊢
  have hl : lv_has ls 3 [(0, .int (nI kj)), (1, .int (nI kn)), (2, .ref tq)] := hl
  show W p l e ({ frames := 0, cells := 0, slots := 0, locals := 0 } : Room) s m ([.int (nI kj), .int (nI kn), .ref tq] : List Value).toArray below meth c s.heap [] 0 0 _ (F0 m 0 ls [])
  refine u_genQ (fun Q hQ => ?_)
  refine lv_iload_n hx hb dJ3_checkIndex_8e157_0 rfl (lv_at hl 0 rfl) ?_
  refine lv_if_lt (tgt := 9) hx hb dJ3_checkIndex_8e157_1 (by decide) (fun c_1 => ?_) (fun c_1 => ?_)
  · skip
    have nc_1 : kj < 0 := (nI_ltI (a := kj) (b := 0) (by omega) (by omega)).mp c_1
    exact absurd c_1 (nI_pos (by omega))
  · skip
    have nc_1 : ¬ (kj < 0) := fun h => c_1 ((nI_ltI (a := kj) (b := 0) (by omega) (by omega)).mpr h)
    refine lv_iload_n hx hb dJ3_checkIndex_8e157_4 rfl (lv_at hl 0 rfl) ?_
    refine lv_iload_n hx hb dJ3_checkIndex_8e157_5 rfl (lv_at hl 1 rfl) ?_
    refine lv_icmp_lt (tgt := 16) hx hb dJ3_checkIndex_8e157_6 (by decide) (fun c_2 => ?_) (fun c_2 => ?_)
    · skip
      have nc_2 : kj < kn := (nI_ltI (a := kj) (b := kn) (by omega) (by omega)).mp c_2
      refine lv_iload_n hx hb dJ3_checkIndex_8e157_16 rfl (lv_at hl 0 rfl) ?_
      rw [← hQ]
      exact W.iret (v := nI kj) hx hb hr (fun t ht hW => ⟨_, rfl, rfl, ht⟩) (fun q h => absurd h List.not_mem_nil) dJ3_checkIndex_8e157_17
    · skip
      have nc_2 : ¬ (kj < kn) := fun h => c_2 ((nI_ltI (a := kj) (b := kn) (by omega) (by omega)).mpr h)
      exact absurd h1 nc_2

set_option maxHeartbeats 4000000 in
set_option maxRecDepth 100000 in
theorem c_J0_checkIndex_df160 (l : Launch) (D : va_G) (cI cB cZ cP : ClassId) (tz1 tz2 : Nat) (kj kn : Nat) (h1 : kj < kn) (h2 : kn ≤ 70) : Met l yJ0_checkIndex_df160 wsJ0_checkIndex_df160 ({ frames := 1, cells := 0, slots := 0, locals := 22 } : Room) (va_Pc [.int (nI kj), .int (nI kn)] (fun U => va_P D vwCl [] U.heap ∧ KW D cI cB cZ cP U ∧ E0 U.heap ∧ ZZ tz1 tz2 (fun _ => False) U U.heap)) (va_Sv (fun _ => True)) 0 0 (fun _ => False) := by
  refine Met.ofW (cc := cJ0_checkIndex_df160) (maxL := 2) (ret := none) (by decide) rfl ?_
  intro p e s m args below meth c s₁ B hml hv
  obtain ⟨rfl, hP, hW0, hE, hZ⟩ := hv
  have hx := B.exec
  have hb := B.bytes
  have hr := B.returns
  have hts := atoms_spec (ws := wsJ0_checkIndex_df160) B.pre
  have hown : s.vm.findClass RJ0 = some m.cls := findClass_of_methodNamed B.named
  have hlocks := B.notSynchronized
  have hK := hW0.1
  have hl := lv_entry ([.int (nI kj), .int (nI kn)]) (n := 2) (Nat.le_of_ble_eq_true rfl)
  rw [lg_entry_eq]
  generalize (lg_sl ([.int (nI kj), .int (nI kn)]) ++ List.replicate (2 - (lg_sl ([.int (nI kj), .int (nI kn)])).length) Slot.unset).toArray = ls at hl ⊢
  have hl : lv_has ls 2 [(0, .int (nI kj)), (1, .int (nI kn))] := hl
  show W p l e ({ frames := 1, cells := 0, slots := 0, locals := 22 } : Room) s m ([.int (nI kj), .int (nI kn)] : List Value).toArray below meth c s.heap [] 0 0 _ (F0 m 0 ls [])
  refine u_genQ (fun Q hQ => ?_)
  refine lv_iload_n hx hb dJ0_checkIndex_df160_0 rfl (lv_at hl 0 rfl) ?_
  refine lv_iload_n hx hb dJ0_checkIndex_df160_1 rfl (lv_at hl 1 rfl) ?_
  rcases hZ.2.2.2.2.2.1 with hz6 | ⟨tz6, hz6⟩
  · refine va_gets hx hb hz6 (va_S.rf (A := fun _ => False)) hown (hts (.fieldLink RJ0 1053 "jdk/internal/util/Preconditions" "SIOOBE_FORMATTER" "Ljava/util/function/BiFunction;") (by decide +kernel)) (fun _ h9 => h9) dJ0_checkIndex_df160_2 ?_
    have hPc := hP.sub (ws' := []) [] rfl
    refine u_callSi (W.runS (As := [.int (nI kj), .int (nI kn), .null]) (rest := []) ⟨hx, hb, hml, hown, hts⟩ (c_J3_checkIndex_8e157 l D cI cB cZ cP kj kn (h1) (h2)) (va_cwS 3 hts gJ0_checkIndex_df160_J3_checkIndex_8e157 rfl rfl rfl (by decide +kernel) ⟨Nat.le_of_ble_eq_true rfl, Nat.le_of_ble_eq_true rfl⟩) (pS hPc hW0 trivial) rfl rfl hl.1 rfl (lv_room (Nat.le_of_ble_eq_true rfl)) dJ0_checkIndex_df160_5 ⟨Nat.le_of_ble_eq_true rfl, Nat.le_of_ble_eq_true rfl⟩) ?_
    refine lv_pop hx hb dJ0_checkIndex_df160_8 rfl ?_
    rw [← hQ]
    exact W.vret hx hb hr (fun t ht hW => ⟨rfl, trivial, ht⟩) (fun q h => absurd h List.not_mem_nil) dJ0_checkIndex_df160_9
  · refine va_gets hx hb hz6 (va_S.rf (A := fun _ => False)) hown (hts (.fieldLink RJ0 1053 "jdk/internal/util/Preconditions" "SIOOBE_FORMATTER" "Ljava/util/function/BiFunction;") (by decide +kernel)) (fun _ h9 => h9) dJ0_checkIndex_df160_2 ?_
    have hPc := hP.sub (ws' := []) [] rfl
    refine u_callSi (W.runS (As := [.int (nI kj), .int (nI kn), .ref tz6]) (rest := []) ⟨hx, hb, hml, hown, hts⟩ (c_J3_checkIndex_8e157_r l D cI cB cZ cP kj kn tz6 (h1) (h2)) (va_cwS 3 hts gJ0_checkIndex_df160_J3_checkIndex_8e157 rfl rfl rfl (by decide +kernel) ⟨Nat.le_of_ble_eq_true rfl, Nat.le_of_ble_eq_true rfl⟩) (pS hPc hW0 trivial) rfl rfl hl.1 rfl (lv_room (Nat.le_of_ble_eq_true rfl)) dJ0_checkIndex_df160_5 ⟨Nat.le_of_ble_eq_true rfl, Nat.le_of_ble_eq_true rfl⟩) ?_
    refine lv_pop hx hb dJ0_checkIndex_df160_8 rfl ?_
    rw [← hQ]
    exact W.vret hx hb hr (fun t ht hW => ⟨rfl, trivial, ht⟩) (fun q h => absurd h List.not_mem_nil) dJ0_checkIndex_df160_9

set_option maxHeartbeats 4000000 in
set_option maxRecDepth 100000 in
theorem c_J1_charAt_3b067 (l : Launch) (D : va_G) (cI cB cZ cP : ClassId) (tz1 tz2 : Nat) (qv : Nat) (wt : List Int32) (g : Nat → Int32) (kj : Nat) (hL : lat g) (h1 : kj < wt.length) (h2 : wt.length ≤ 70) : Met l yJ1_charAt_3b067 wsJ1_charAt_3b067 ({ frames := 2, cells := 0, slots := 0, locals := 43 } : Room) (va_Pc [.ref qv, .int (nI kj)] (fun U => va_P D vwCl [(qv, .inl (cB, wt.length, .inl g))] U.heap ∧ KW D cI cB cZ cP U ∧ E0 U.heap ∧ ZZ tz1 tz2 (fun _ => False) U U.heap)) (vp_Si (fun r => r = g kj)) 0 0 (fun _ => False) := by
  refine Met.ofW (cc := cJ1_charAt_3b067) (maxL := 2) (ret := (some .char)) (by decide) rfl ?_
  intro p e s m args below meth c s₁ B hml hv
  obtain ⟨rfl, hP, hW0, hE, hZ⟩ := hv
  have hx := B.exec
  have hb := B.bytes
  have hr := B.returns
  have hts := atoms_spec (ws := wsJ1_charAt_3b067) B.pre
  have hown : s.vm.findClass RJ1 = some m.cls := findClass_of_methodNamed B.named
  have hlocks := B.notSynchronized
  have hK := hW0.1
  have hl := lv_entry ([.ref qv, .int (nI kj)]) (n := 2) (Nat.le_of_ble_eq_true rfl)
  rw [lg_entry_eq]
  generalize (lg_sl ([.ref qv, .int (nI kj)]) ++ List.replicate (2 - (lg_sl ([.ref qv, .int (nI kj)])).length) Slot.unset).toArray = ls at hl ⊢
  have hl : lv_has ls 2 [(0, .ref qv), (1, .int (nI kj))] := hl
  show W p l e ({ frames := 2, cells := 0, slots := 0, locals := 43 } : Room) s m ([.ref qv, .int (nI kj)] : List Value).toArray below meth c s.heap [] 0 0 _ (F0 m 0 ls [])
  refine u_genQ (fun Q hQ => ?_)
  refine lv_iload_n hx hb dJ1_charAt_3b067_0 rfl (lv_at hl 1 rfl) ?_
  refine lv_aload_n hx hb dJ1_charAt_3b067_1 rfl (lv_at hl 0 rfl) ?_
  refine va_alen (v := nI wt.length) hx hb hK hP 0 1 rfl rfl rfl dJ1_charAt_3b067_2 ?_
  have hPc := hP.sub (ws' := []) [] rfl
  refine va_csv (W.runS (As := [.int (nI kj), .int (nI wt.length)]) (rest := []) ⟨hx, hb, hml, hown, hts⟩ (c_J0_checkIndex_df160 l D cI cB cZ cP tz1 tz2 kj wt.length (h1) (h2)) (va_cwS 2 hts gJ1_charAt_3b067_J0_checkIndex_df160 rfl rfl rfl (by decide +kernel) ⟨Nat.le_of_ble_eq_true rfl, Nat.le_of_ble_eq_true rfl⟩) (pSZ hPc hW0 trivial hZ) rfl rfl hl.1 rfl (lv_room (Nat.le_of_ble_eq_true rfl)) dJ1_charAt_3b067_3 ⟨Nat.le_of_ble_eq_true rfl, Nat.le_of_ble_eq_true rfl⟩) (fun _ => ?_)
  refine lv_aload_n hx hb dJ1_charAt_3b067_6 rfl (lv_at hl 0 rfl) ?_
  refine lv_iload_n hx hb dJ1_charAt_3b067_7 rfl (lv_at hl 1 rfl) ?_
  refine u_bald hx hb hK hP 0 1 rfl rfl rfl ⟨by omega, by omega⟩ dJ1_charAt_3b067_8 ?_
  refine lv_sipush (v := 255) hx hb dJ1_charAt_3b067_9 (by decide) ?_
  refine lv_iand hx hb dJ1_charAt_3b067_12 ?_
  refine lv_i2c hx hb dJ1_charAt_3b067_13 rfl ?_
  refine u_eqi (show (((g kj) &&& 255).toUInt32 % 65536).toInt32 = g kj from ltr_c (hL kj)) ?_
  rw [← hQ]
  exact W.zret (v := g kj) hx hb hr (ltr_nc (hL kj)) (fun t ht hW => ⟨_, rfl, rfl, ht⟩) (fun q h => absurd h List.not_mem_nil) dJ1_charAt_3b067_14

set_option maxHeartbeats 4000000 in
set_option maxRecDepth 100000 in
theorem c_J0_charAt_5068e (l : Launch) (D : va_G) (cI cB cZ cP : ClassId) (tz1 tz2 : Nat) (h0 qv : Nat) (wt : List Int32) (g : Nat → Int32) (kj : Nat) (hL : lat g) (h1 : kj < wt.length) (h2 : wt.length ≤ 70) : Met l yJ0_charAt_5068e wsJ0_charAt_5068e ({ frames := 3, cells := 0, slots := 0, locals := 64 } : Room) (va_Pc [.ref h0, .int (nI kj)] (fun U => va_P D vwCl [(h0, .inr (0, [.ref qv, .int 0, .int 0, .int 0])), (qv, .inl (cB, wt.length, .inl g))] U.heap ∧ KW D cI cB cZ cP U ∧ E0 U.heap ∧ ZZ tz1 tz2 (fun _ => False) U U.heap)) (vp_Si (fun r => r = g kj)) 0 0 (fun _ => False) := by
  refine Met.ofW (cc := cJ0_charAt_5068e) (maxL := 2) (ret := (some .char)) (by decide) rfl ?_
  intro p e s m args below meth c s₁ B hml hv
  obtain ⟨rfl, hP, hW0, hE, hZ⟩ := hv
  have hx := B.exec
  have hb := B.bytes
  have hr := B.returns
  have hts := atoms_spec (ws := wsJ0_charAt_5068e) B.pre
  have hown : s.vm.findClass RJ0 = some m.cls := findClass_of_methodNamed B.named
  have hlocks := B.notSynchronized
  have hK := hW0.1
  have hl := lv_entry ([.ref h0, .int (nI kj)]) (n := 2) (Nat.le_of_ble_eq_true rfl)
  rw [lg_entry_eq]
  generalize (lg_sl ([.ref h0, .int (nI kj)]) ++ List.replicate (2 - (lg_sl ([.ref h0, .int (nI kj)])).length) Slot.unset).toArray = ls at hl ⊢
  have hl : lv_has ls 2 [(0, .ref h0), (1, .int (nI kj))] := hl
  show W p l e ({ frames := 3, cells := 0, slots := 0, locals := 64 } : Room) s m ([.ref h0, .int (nI kj)] : List Value).toArray below meth c s.heap [] 0 0 _ (F0 m 0 ls [])
  refine u_genQ (fun Q hQ => ?_)
  refine lv_aload_n hx hb dJ0_charAt_5068e_0 rfl (lv_at hl 0 rfl) ?_
  have hPc := hP.sub (ws' := [(h0, .inr (0, [.ref qv, .int 0, .int 0, .int 0]))]) [0] rfl
  refine u_callSi (W.runV (As := []) (rest := []) ⟨hx, hb, hml, hown, hts⟩ (c_J0_isLatin1_aae02 l D cI cB cZ cP tz1 tz2 h0 qv ) (cwV 0 hts gJ0_charAt_5068e_J0_isLatin1_aae02 rfl rfl rfl (by decide +kernel) ⟨Nat.le_of_ble_eq_true rfl, Nat.le_of_ble_eq_true rfl⟩) (pVZ (q0 := 0) hPc hW0 trivial hZ rfl rfl) rfl rfl hl.1 rfl (lv_room (Nat.le_of_ble_eq_true rfl)) dJ0_charAt_5068e_1 ⟨Nat.le_of_ble_eq_true rfl, Nat.le_of_ble_eq_true rfl⟩) ?_
  refine lv_if_eq (tgt := 16) hx hb dJ0_charAt_5068e_4 (by decide) (fun c_1 => ?_) (fun c_1 => ?_)
  · skip
    exact absurd c_1 (by decide)
  · skip
    refine lv_aload_n hx hb dJ0_charAt_5068e_7 rfl (lv_at hl 0 rfl) ?_
    refine va_get (D := D) (ci := 0) (v := .ref qv) (C := RJ0) (T := TJ0) (N := 4) hx hb hts (by decide +kernel) hown hK hP 0 rfl rfl 0 (by decide) (hts (.fieldLink RJ0 9 "java/lang/String" "value" "[B") (by decide +kernel)) (fun _ h9 => h9) rfl dJ0_charAt_5068e_8 ?_
    refine lv_iload_n hx hb dJ0_charAt_5068e_11 rfl (lv_at hl 1 rfl) ?_
    have hPc := hP.sub (ws' := [(qv, .inl (cB, wt.length, .inl g))]) [1] rfl
    refine u_callSi (W.runS (As := [.ref qv, .int (nI kj)]) (rest := []) ⟨hx, hb, hml, hown, hts⟩ (c_J1_charAt_3b067 l D cI cB cZ cP tz1 tz2 qv wt g kj (hL) (h1) (h2)) (va_cwS 2 hts gJ0_charAt_5068e_J1_charAt_3b067 rfl rfl rfl (by decide +kernel) ⟨Nat.le_of_ble_eq_true rfl, Nat.le_of_ble_eq_true rfl⟩) (pSZ hPc hW0 trivial hZ) rfl rfl hl.1 rfl (lv_room (Nat.le_of_ble_eq_true rfl)) dJ0_charAt_5068e_12 ⟨Nat.le_of_ble_eq_true rfl, Nat.le_of_ble_eq_true rfl⟩) ?_
    rw [← hQ]
    exact W.zret (v := g kj) hx hb hr (ltr_nc (hL kj)) (fun t ht hW => ⟨_, rfl, rfl, ht⟩) (fun q h => absurd h List.not_mem_nil) dJ0_charAt_5068e_15

