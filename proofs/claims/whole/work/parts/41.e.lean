set_option maxHeartbeats 4000000 in
set_option maxRecDepth 100000 in
theorem c_J6_bitCount_0f7a4 (l : Launch) (D : va_G) (cI cB cZ cP : ClassId) (x : Int32) : Met l yJ6_bitCount_0f7a4 wsJ6_bitCount_0f7a4 ({ frames := 0, cells := 0, slots := 0, locals := 0 } : Room) (va_Pc [.int x] (fun U => va_P D vwCl [] U.heap ∧ KW D cI cB cZ cP U ∧ E0 U.heap)) (vp_Si (fun r => r = nI (cnt (bit x) 32))) 0 0 (fun _ => False) := by
  refine Met.ofW (cc := cJ6_bitCount_0f7a4) (maxL := 1) (ret := (some .int)) (by decide) rfl ?_
  intro p e s m args below meth c s₁ B hml hv
  obtain ⟨rfl, hP, hW0, hE⟩ := hv
  have hx := B.exec
  have hb := B.bytes
  have hr := B.returns
  have hts := atoms_spec (ws := wsJ6_bitCount_0f7a4) B.pre
  have hown : s.vm.findClass RJ6 = some m.cls := findClass_of_methodNamed B.named
  have hlocks := B.notSynchronized
  have hK := hW0.1
  have hl := lv_entry ([.int x]) (n := 1) (Nat.le_of_ble_eq_true rfl)
  rw [lg_entry_eq]
  generalize (lg_sl ([.int x]) ++ List.replicate (1 - (lg_sl ([.int x])).length) Slot.unset).toArray = ls at hl ⊢
  have hl : lv_has ls 1 [(0, .int x)] := hl
  show W p l e ({ frames := 0, cells := 0, slots := 0, locals := 0 } : Room) s m ([.int x] : List Value).toArray below meth c s.heap [] 0 0 _ (F0 m 0 ls [])
  refine u_genQ (fun Q hQ => ?_)
  refine lv_iload_n hx hb dJ6_bitCount_0f7a4_0 rfl (lv_at hl 0 rfl) ?_
  refine lv_iload_n hx hb dJ6_bitCount_0f7a4_1 rfl (lv_at hl 0 rfl) ?_
  refine lv_iconst (v := 1) hx hb dJ6_bitCount_0f7a4_2 (by decide) ?_
  refine lv_iushr hx hb dJ6_bitCount_0f7a4_3 rfl ?_
  refine lv_ldcw (v := 1431655765) hx hb hown (hts (.constant RJ6 265 (1431655765)) (by decide +kernel)) dJ6_bitCount_0f7a4_4 ?_
  refine lv_iand hx hb dJ6_bitCount_0f7a4_7 ?_
  refine lv_isub hx hb dJ6_bitCount_0f7a4_8 ?_
  refine lv_istore_n (lv' := [(0, .int (x - (((x.toUInt32 >>> ((1 : Int32).toUInt32 &&& Int32.toUInt32 31)).toInt32) &&& 1431655765)))]) hx hb dJ6_bitCount_0f7a4_9 rfl hl (by decide) rfl (fun ls hl => ?_)
  refine lv_iload_n hx hb dJ6_bitCount_0f7a4_10 rfl (lv_at hl 0 rfl) ?_
  refine lv_ldcw (v := 858993459) hx hb hown (hts (.constant RJ6 266 (858993459)) (by decide +kernel)) dJ6_bitCount_0f7a4_11 ?_
  refine lv_iand hx hb dJ6_bitCount_0f7a4_14 ?_
  refine lv_iload_n hx hb dJ6_bitCount_0f7a4_15 rfl (lv_at hl 0 rfl) ?_
  refine lv_iconst (v := 2) hx hb dJ6_bitCount_0f7a4_16 (by decide) ?_
  refine lv_iushr hx hb dJ6_bitCount_0f7a4_17 rfl ?_
  refine lv_ldcw (v := 858993459) hx hb hown (hts (.constant RJ6 266 (858993459)) (by decide +kernel)) dJ6_bitCount_0f7a4_18 ?_
  refine lv_iand hx hb dJ6_bitCount_0f7a4_21 ?_
  refine lv_iadd hx hb dJ6_bitCount_0f7a4_22 ?_
  refine lv_istore_n (lv' := [(0, .int (((x - (((x.toUInt32 >>> ((1 : Int32).toUInt32 &&& Int32.toUInt32 31)).toInt32) &&& 1431655765)) &&& 858993459) + ((((x - (((x.toUInt32 >>> ((1 : Int32).toUInt32 &&& Int32.toUInt32 31)).toInt32) &&& 1431655765)).toUInt32 >>> ((2 : Int32).toUInt32 &&& Int32.toUInt32 31)).toInt32) &&& 858993459)))]) hx hb dJ6_bitCount_0f7a4_23 rfl hl (by decide) rfl (fun ls hl => ?_)
  refine lv_iload_n hx hb dJ6_bitCount_0f7a4_24 rfl (lv_at hl 0 rfl) ?_
  refine lv_iload_n hx hb dJ6_bitCount_0f7a4_25 rfl (lv_at hl 0 rfl) ?_
  refine lv_iconst (v := 4) hx hb dJ6_bitCount_0f7a4_26 (by decide) ?_
  refine lv_iushr hx hb dJ6_bitCount_0f7a4_27 rfl ?_
  refine lv_iadd hx hb dJ6_bitCount_0f7a4_28 ?_
  refine lv_ldcw (v := 252645135) hx hb hown (hts (.constant RJ6 267 (252645135)) (by decide +kernel)) dJ6_bitCount_0f7a4_29 ?_
  refine lv_iand hx hb dJ6_bitCount_0f7a4_32 ?_
  refine lv_istore_n (lv' := [(0, .int (((((x - (((x.toUInt32 >>> ((1 : Int32).toUInt32 &&& Int32.toUInt32 31)).toInt32) &&& 1431655765)) &&& 858993459) + ((((x - (((x.toUInt32 >>> ((1 : Int32).toUInt32 &&& Int32.toUInt32 31)).toInt32) &&& 1431655765)).toUInt32 >>> ((2 : Int32).toUInt32 &&& Int32.toUInt32 31)).toInt32) &&& 858993459)) + (((((x - (((x.toUInt32 >>> ((1 : Int32).toUInt32 &&& Int32.toUInt32 31)).toInt32) &&& 1431655765)) &&& 858993459) + ((((x - (((x.toUInt32 >>> ((1 : Int32).toUInt32 &&& Int32.toUInt32 31)).toInt32) &&& 1431655765)).toUInt32 >>> ((2 : Int32).toUInt32 &&& Int32.toUInt32 31)).toInt32) &&& 858993459)).toUInt32 >>> ((4 : Int32).toUInt32 &&& Int32.toUInt32 31)).toInt32)) &&& 252645135))]) hx hb dJ6_bitCount_0f7a4_33 rfl hl (by decide) rfl (fun ls hl => ?_)
  refine lv_iload_n hx hb dJ6_bitCount_0f7a4_34 rfl (lv_at hl 0 rfl) ?_
  refine lv_iload_n hx hb dJ6_bitCount_0f7a4_35 rfl (lv_at hl 0 rfl) ?_
  refine lv_bipush (v := 8) hx hb dJ6_bitCount_0f7a4_36 (by decide) ?_
  refine lv_iushr hx hb dJ6_bitCount_0f7a4_38 rfl ?_
  refine lv_iadd hx hb dJ6_bitCount_0f7a4_39 ?_
  refine lv_istore_n (lv' := [(0, .int ((((((x - (((x.toUInt32 >>> ((1 : Int32).toUInt32 &&& Int32.toUInt32 31)).toInt32) &&& 1431655765)) &&& 858993459) + ((((x - (((x.toUInt32 >>> ((1 : Int32).toUInt32 &&& Int32.toUInt32 31)).toInt32) &&& 1431655765)).toUInt32 >>> ((2 : Int32).toUInt32 &&& Int32.toUInt32 31)).toInt32) &&& 858993459)) + (((((x - (((x.toUInt32 >>> ((1 : Int32).toUInt32 &&& Int32.toUInt32 31)).toInt32) &&& 1431655765)) &&& 858993459) + ((((x - (((x.toUInt32 >>> ((1 : Int32).toUInt32 &&& Int32.toUInt32 31)).toInt32) &&& 1431655765)).toUInt32 >>> ((2 : Int32).toUInt32 &&& Int32.toUInt32 31)).toInt32) &&& 858993459)).toUInt32 >>> ((4 : Int32).toUInt32 &&& Int32.toUInt32 31)).toInt32)) &&& 252645135) + (((((((x - (((x.toUInt32 >>> ((1 : Int32).toUInt32 &&& Int32.toUInt32 31)).toInt32) &&& 1431655765)) &&& 858993459) + ((((x - (((x.toUInt32 >>> ((1 : Int32).toUInt32 &&& Int32.toUInt32 31)).toInt32) &&& 1431655765)).toUInt32 >>> ((2 : Int32).toUInt32 &&& Int32.toUInt32 31)).toInt32) &&& 858993459)) + (((((x - (((x.toUInt32 >>> ((1 : Int32).toUInt32 &&& Int32.toUInt32 31)).toInt32) &&& 1431655765)) &&& 858993459) + ((((x - (((x.toUInt32 >>> ((1 : Int32).toUInt32 &&& Int32.toUInt32 31)).toInt32) &&& 1431655765)).toUInt32 >>> ((2 : Int32).toUInt32 &&& Int32.toUInt32 31)).toInt32) &&& 858993459)).toUInt32 >>> ((4 : Int32).toUInt32 &&& Int32.toUInt32 31)).toInt32)) &&& 252645135).toUInt32 >>> ((8 : Int32).toUInt32 &&& Int32.toUInt32 31)).toInt32)))]) hx hb dJ6_bitCount_0f7a4_40 rfl hl (by decide) rfl (fun ls hl => ?_)
  refine lv_iload_n hx hb dJ6_bitCount_0f7a4_41 rfl (lv_at hl 0 rfl) ?_
  refine lv_iload_n hx hb dJ6_bitCount_0f7a4_42 rfl (lv_at hl 0 rfl) ?_
  refine lv_bipush (v := 16) hx hb dJ6_bitCount_0f7a4_43 (by decide) ?_
  refine lv_iushr hx hb dJ6_bitCount_0f7a4_45 rfl ?_
  refine lv_iadd hx hb dJ6_bitCount_0f7a4_46 ?_
  refine lv_istore_n (lv' := [(0, .int (((((((x - (((x.toUInt32 >>> ((1 : Int32).toUInt32 &&& Int32.toUInt32 31)).toInt32) &&& 1431655765)) &&& 858993459) + ((((x - (((x.toUInt32 >>> ((1 : Int32).toUInt32 &&& Int32.toUInt32 31)).toInt32) &&& 1431655765)).toUInt32 >>> ((2 : Int32).toUInt32 &&& Int32.toUInt32 31)).toInt32) &&& 858993459)) + (((((x - (((x.toUInt32 >>> ((1 : Int32).toUInt32 &&& Int32.toUInt32 31)).toInt32) &&& 1431655765)) &&& 858993459) + ((((x - (((x.toUInt32 >>> ((1 : Int32).toUInt32 &&& Int32.toUInt32 31)).toInt32) &&& 1431655765)).toUInt32 >>> ((2 : Int32).toUInt32 &&& Int32.toUInt32 31)).toInt32) &&& 858993459)).toUInt32 >>> ((4 : Int32).toUInt32 &&& Int32.toUInt32 31)).toInt32)) &&& 252645135) + (((((((x - (((x.toUInt32 >>> ((1 : Int32).toUInt32 &&& Int32.toUInt32 31)).toInt32) &&& 1431655765)) &&& 858993459) + ((((x - (((x.toUInt32 >>> ((1 : Int32).toUInt32 &&& Int32.toUInt32 31)).toInt32) &&& 1431655765)).toUInt32 >>> ((2 : Int32).toUInt32 &&& Int32.toUInt32 31)).toInt32) &&& 858993459)) + (((((x - (((x.toUInt32 >>> ((1 : Int32).toUInt32 &&& Int32.toUInt32 31)).toInt32) &&& 1431655765)) &&& 858993459) + ((((x - (((x.toUInt32 >>> ((1 : Int32).toUInt32 &&& Int32.toUInt32 31)).toInt32) &&& 1431655765)).toUInt32 >>> ((2 : Int32).toUInt32 &&& Int32.toUInt32 31)).toInt32) &&& 858993459)).toUInt32 >>> ((4 : Int32).toUInt32 &&& Int32.toUInt32 31)).toInt32)) &&& 252645135).toUInt32 >>> ((8 : Int32).toUInt32 &&& Int32.toUInt32 31)).toInt32)) + ((((((((x - (((x.toUInt32 >>> ((1 : Int32).toUInt32 &&& Int32.toUInt32 31)).toInt32) &&& 1431655765)) &&& 858993459) + ((((x - (((x.toUInt32 >>> ((1 : Int32).toUInt32 &&& Int32.toUInt32 31)).toInt32) &&& 1431655765)).toUInt32 >>> ((2 : Int32).toUInt32 &&& Int32.toUInt32 31)).toInt32) &&& 858993459)) + (((((x - (((x.toUInt32 >>> ((1 : Int32).toUInt32 &&& Int32.toUInt32 31)).toInt32) &&& 1431655765)) &&& 858993459) + ((((x - (((x.toUInt32 >>> ((1 : Int32).toUInt32 &&& Int32.toUInt32 31)).toInt32) &&& 1431655765)).toUInt32 >>> ((2 : Int32).toUInt32 &&& Int32.toUInt32 31)).toInt32) &&& 858993459)).toUInt32 >>> ((4 : Int32).toUInt32 &&& Int32.toUInt32 31)).toInt32)) &&& 252645135) + (((((((x - (((x.toUInt32 >>> ((1 : Int32).toUInt32 &&& Int32.toUInt32 31)).toInt32) &&& 1431655765)) &&& 858993459) + ((((x - (((x.toUInt32 >>> ((1 : Int32).toUInt32 &&& Int32.toUInt32 31)).toInt32) &&& 1431655765)).toUInt32 >>> ((2 : Int32).toUInt32 &&& Int32.toUInt32 31)).toInt32) &&& 858993459)) + (((((x - (((x.toUInt32 >>> ((1 : Int32).toUInt32 &&& Int32.toUInt32 31)).toInt32) &&& 1431655765)) &&& 858993459) + ((((x - (((x.toUInt32 >>> ((1 : Int32).toUInt32 &&& Int32.toUInt32 31)).toInt32) &&& 1431655765)).toUInt32 >>> ((2 : Int32).toUInt32 &&& Int32.toUInt32 31)).toInt32) &&& 858993459)).toUInt32 >>> ((4 : Int32).toUInt32 &&& Int32.toUInt32 31)).toInt32)) &&& 252645135).toUInt32 >>> ((8 : Int32).toUInt32 &&& Int32.toUInt32 31)).toInt32)).toUInt32 >>> ((16 : Int32).toUInt32 &&& Int32.toUInt32 31)).toInt32)))]) hx hb dJ6_bitCount_0f7a4_47 rfl hl (by decide) rfl (fun ls hl => ?_)
  refine lv_iload_n hx hb dJ6_bitCount_0f7a4_48 rfl (lv_at hl 0 rfl) ?_
  refine lv_bipush (v := 63) hx hb dJ6_bitCount_0f7a4_49 (by decide) ?_
  refine lv_iand hx hb dJ6_bitCount_0f7a4_51 ?_
  rw [← hQ]
  exact W.iret (v := (((((((x - (((x.toUInt32 >>> ((1 : Int32).toUInt32 &&& Int32.toUInt32 31)).toInt32) &&& 1431655765)) &&& 858993459) + ((((x - (((x.toUInt32 >>> ((1 : Int32).toUInt32 &&& Int32.toUInt32 31)).toInt32) &&& 1431655765)).toUInt32 >>> ((2 : Int32).toUInt32 &&& Int32.toUInt32 31)).toInt32) &&& 858993459)) + (((((x - (((x.toUInt32 >>> ((1 : Int32).toUInt32 &&& Int32.toUInt32 31)).toInt32) &&& 1431655765)) &&& 858993459) + ((((x - (((x.toUInt32 >>> ((1 : Int32).toUInt32 &&& Int32.toUInt32 31)).toInt32) &&& 1431655765)).toUInt32 >>> ((2 : Int32).toUInt32 &&& Int32.toUInt32 31)).toInt32) &&& 858993459)).toUInt32 >>> ((4 : Int32).toUInt32 &&& Int32.toUInt32 31)).toInt32)) &&& 252645135) + (((((((x - (((x.toUInt32 >>> ((1 : Int32).toUInt32 &&& Int32.toUInt32 31)).toInt32) &&& 1431655765)) &&& 858993459) + ((((x - (((x.toUInt32 >>> ((1 : Int32).toUInt32 &&& Int32.toUInt32 31)).toInt32) &&& 1431655765)).toUInt32 >>> ((2 : Int32).toUInt32 &&& Int32.toUInt32 31)).toInt32) &&& 858993459)) + (((((x - (((x.toUInt32 >>> ((1 : Int32).toUInt32 &&& Int32.toUInt32 31)).toInt32) &&& 1431655765)) &&& 858993459) + ((((x - (((x.toUInt32 >>> ((1 : Int32).toUInt32 &&& Int32.toUInt32 31)).toInt32) &&& 1431655765)).toUInt32 >>> ((2 : Int32).toUInt32 &&& Int32.toUInt32 31)).toInt32) &&& 858993459)).toUInt32 >>> ((4 : Int32).toUInt32 &&& Int32.toUInt32 31)).toInt32)) &&& 252645135).toUInt32 >>> ((8 : Int32).toUInt32 &&& Int32.toUInt32 31)).toInt32)) + ((((((((x - (((x.toUInt32 >>> ((1 : Int32).toUInt32 &&& Int32.toUInt32 31)).toInt32) &&& 1431655765)) &&& 858993459) + ((((x - (((x.toUInt32 >>> ((1 : Int32).toUInt32 &&& Int32.toUInt32 31)).toInt32) &&& 1431655765)).toUInt32 >>> ((2 : Int32).toUInt32 &&& Int32.toUInt32 31)).toInt32) &&& 858993459)) + (((((x - (((x.toUInt32 >>> ((1 : Int32).toUInt32 &&& Int32.toUInt32 31)).toInt32) &&& 1431655765)) &&& 858993459) + ((((x - (((x.toUInt32 >>> ((1 : Int32).toUInt32 &&& Int32.toUInt32 31)).toInt32) &&& 1431655765)).toUInt32 >>> ((2 : Int32).toUInt32 &&& Int32.toUInt32 31)).toInt32) &&& 858993459)).toUInt32 >>> ((4 : Int32).toUInt32 &&& Int32.toUInt32 31)).toInt32)) &&& 252645135) + (((((((x - (((x.toUInt32 >>> ((1 : Int32).toUInt32 &&& Int32.toUInt32 31)).toInt32) &&& 1431655765)) &&& 858993459) + ((((x - (((x.toUInt32 >>> ((1 : Int32).toUInt32 &&& Int32.toUInt32 31)).toInt32) &&& 1431655765)).toUInt32 >>> ((2 : Int32).toUInt32 &&& Int32.toUInt32 31)).toInt32) &&& 858993459)) + (((((x - (((x.toUInt32 >>> ((1 : Int32).toUInt32 &&& Int32.toUInt32 31)).toInt32) &&& 1431655765)) &&& 858993459) + ((((x - (((x.toUInt32 >>> ((1 : Int32).toUInt32 &&& Int32.toUInt32 31)).toInt32) &&& 1431655765)).toUInt32 >>> ((2 : Int32).toUInt32 &&& Int32.toUInt32 31)).toInt32) &&& 858993459)).toUInt32 >>> ((4 : Int32).toUInt32 &&& Int32.toUInt32 31)).toInt32)) &&& 252645135).toUInt32 >>> ((8 : Int32).toUInt32 &&& Int32.toUInt32 31)).toInt32)).toUInt32 >>> ((16 : Int32).toUInt32 &&& Int32.toUInt32 31)).toInt32)) &&& 63) hx hb hr (fun t ht hW => ⟨_, rfl, (bitc_eq x), ht⟩) (fun q h => absurd h List.not_mem_nil) dJ6_bitCount_0f7a4_52

set_option maxHeartbeats 4000000 in
set_option maxRecDepth 100000 in
theorem c_X6_howManyInBoth (l : Launch) (D : va_G) (cI cB cZ cP : ClassId) (aa ab_ : Nat) (fa fb : Nat → Int32) : Met l yX6_howManyInBoth wsX6_howManyInBoth ({ frames := 1, cells := 0, slots := 0, locals := 20 } : Room) (va_Pc [.ref aa, .ref ab_] (fun U => va_P D vwCl [(aa, .inl (cI, 32, .inl fa)), (ab_, .inl (cI, 32, .inl fb))] U.heap ∧ KW D cI cB cZ cP U ∧ E0 U.heap)) (vp_Si (fun r => r = nI (cnt2 (fun y x => bit (fa y) x ∧ bit (fb y) x) 32))) 0 0 (fun _ => False) := by
  refine Met.ofW (cc := cX6_howManyInBoth) (maxL := 4) (ret := (some .int)) (by decide) rfl ?_
  intro p e s m args below meth c s₁ B hml hv
  obtain ⟨rfl, hP, hW0, hE⟩ := hv
  have hx := B.exec
  have hb := B.bytes
  have hr := B.returns
  have hts := atoms_spec (ws := wsX6_howManyInBoth) B.pre
  have hown : s.vm.findClass RX6 = some m.cls := findClass_of_methodNamed B.named
  have hlocks := B.notSynchronized
  have hK := hW0.1
  have hl := lv_entry ([.ref aa, .ref ab_]) (n := 4) (Nat.le_of_ble_eq_true rfl)
  rw [lg_entry_eq]
  generalize (lg_sl ([.ref aa, .ref ab_]) ++ List.replicate (4 - (lg_sl ([.ref aa, .ref ab_])).length) Slot.unset).toArray = ls at hl ⊢
  have hl : lv_has ls 4 [(0, .ref aa), (1, .ref ab_)] := hl
  show W p l e ({ frames := 1, cells := 0, slots := 0, locals := 20 } : Room) s m ([.ref aa, .ref ab_] : List Value).toArray below meth c s.heap [] 0 0 _ (F0 m 0 ls [])
  refine u_genQ (fun Q hQ => ?_)
  refine lv_iconst (v := 0) hx hb dX6_howManyInBoth_0 (by decide) ?_
  refine lv_istore_n (lv' := [(2, .int 0), (0, .ref aa), (1, .ref ab_)]) hx hb dX6_howManyInBoth_1 rfl hl (by decide) rfl (fun ls hl => ?_)
  refine lv_iconst (v := 0) hx hb dX6_howManyInBoth_2 (by decide) ?_
  refine lv_istore_n (lv' := [(3, .int 0), (2, .int 0), (0, .ref aa), (1, .ref ab_)]) hx hb dX6_howManyInBoth_3 rfl hl (by decide) rfl (fun ls hl => ?_)
  have LOOP_4 : ∀ (fu : Nat) (y : Nat) (hy : y ≤ 32) (hn : 32 - y < fu) (ls : Array Slot) (hl : lv_has ls 4 [(0, .ref aa), (1, .ref ab_), (2, .int (nI (cnt2 (fun y x => bit (fa y) x ∧ bit (fb y) x) y))), (3, .int (nI y))]), W p l e ({ frames := 1, cells := 0, slots := 0, locals := 20 } : Room) s m ([.ref aa, .ref ab_] : List Value).toArray below meth c s.heap [] 0 0 Q (F0 m 4 ls []) := by
    intro fu
    induction fu with
    | zero => intro y hy hn ls hl; exact absurd hn (Nat.not_lt_zero _)
    | succ fu ih_4 =>
      intro y hy hn ls hl
      refine lv_iload_n hx hb dX6_howManyInBoth_4 rfl (lv_at hl 3 rfl) ?_
      refine lv_aload_n hx hb dX6_howManyInBoth_5 rfl (lv_at hl 0 rfl) ?_
      refine va_alen (v := 32) hx hb hK hP 0 0 rfl rfl rfl dX6_howManyInBoth_6 ?_
      refine lv_icmp_ge (tgt := 35) hx hb dX6_howManyInBoth_7 (by decide) (fun c_1 => ?_) (fun c_1 => ?_)
      · skip
        have nc_1 : 32 ≤ y := (nI_leI (a := 32) (b := y) (by omega) (by omega)).mp c_1
        refine lv_iload_n hx hb dX6_howManyInBoth_35 rfl (lv_at hl 2 rfl) ?_
        rw [← hQ]
        exact W.iret (v := nI (cnt2 (fun y x => bit (fa y) x ∧ bit (fb y) x) y)) hx hb hr (fun t ht hW => ⟨_, rfl, (by rw [show y = 32 by omega]), ht⟩) (fun q h => absurd h List.not_mem_nil) dX6_howManyInBoth_36
      · skip
        have nc_1 : ¬ (32 ≤ y) := fun h => c_1 ((nI_leI (a := 32) (b := y) (by omega) (by omega)).mpr h)
        refine lv_iload_n hx hb dX6_howManyInBoth_10 rfl (lv_at hl 3 rfl) ?_
        refine lv_aload_n hx hb dX6_howManyInBoth_11 rfl (lv_at hl 1 rfl) ?_
        refine va_alen (v := 32) hx hb hK hP 1 0 rfl rfl rfl dX6_howManyInBoth_12 ?_
        refine lv_icmp_ge (tgt := 35) hx hb dX6_howManyInBoth_13 (by decide) (fun c_2 => ?_) (fun c_2 => ?_)
        · skip
          have nc_2 : 32 ≤ y := (nI_leI (a := 32) (b := y) (by omega) (by omega)).mp c_2
          exact absurd nc_2 (by omega)
        · skip
          have nc_2 : ¬ (32 ≤ y) := fun h => c_2 ((nI_leI (a := 32) (b := y) (by omega) (by omega)).mpr h)
          refine lv_iload_n hx hb dX6_howManyInBoth_16 rfl (lv_at hl 2 rfl) ?_
          refine lv_aload_n hx hb dX6_howManyInBoth_17 rfl (lv_at hl 0 rfl) ?_
          refine lv_iload_n hx hb dX6_howManyInBoth_18 rfl (lv_at hl 3 rfl) ?_
          refine u_iald hx hb hK hP 0 0 rfl rfl rfl ⟨by omega, by omega⟩ dX6_howManyInBoth_19 ?_
          refine lv_aload_n hx hb dX6_howManyInBoth_20 rfl (lv_at hl 1 rfl) ?_
          refine lv_iload_n hx hb dX6_howManyInBoth_21 rfl (lv_at hl 3 rfl) ?_
          refine u_iald hx hb hK hP 1 0 rfl rfl rfl ⟨by omega, by omega⟩ dX6_howManyInBoth_22 ?_
          refine lv_iand hx hb dX6_howManyInBoth_23 ?_
          have hPc := hP.sub (ws' := []) [] rfl
          refine u_callSi (W.runS (As := [.int ((fa y) &&& (fb y))]) (rest := [.int (nI (cnt2 (fun y x => bit (fa y) x ∧ bit (fb y) x) y))]) ⟨hx, hb, hml, hown, hts⟩ (c_J6_bitCount_0f7a4 l D cI cB cZ cP ((fa y) &&& (fb y)) ) (va_cwS 1 hts gX6_howManyInBoth_J6_bitCount_0f7a4 rfl rfl rfl (by decide +kernel) ⟨Nat.le_of_ble_eq_true rfl, Nat.le_of_ble_eq_true rfl⟩) (pS hPc hW0 trivial) rfl rfl hl.1 rfl (lv_room (Nat.le_of_ble_eq_true rfl)) dX6_howManyInBoth_24 ⟨Nat.le_of_ble_eq_true rfl, Nat.le_of_ble_eq_true rfl⟩) ?_
          refine lv_iadd hx hb dX6_howManyInBoth_27 ?_
          refine u_eqi (show (nI (cnt2 (fun y x => bit (fa y) x ∧ bit (fb y) x) y)) + (nI (cnt (bit ((fa y) &&& (fb y))) 32)) = nI (cnt2 (fun y x => bit (fa y) x ∧ bit (fb y) x) (y + 1)) from by rw [nI_add, cnt_congr 32 (fun x hx => bit_and (fa y) (fb y) x hx)]; rfl) ?_
          refine lv_istore_n (lv' := [(2, .int (nI (cnt2 (fun y x => bit (fa y) x ∧ bit (fb y) x) (y + 1)))), (0, .ref aa), (1, .ref ab_), (3, .int (nI y))]) hx hb dX6_howManyInBoth_28 rfl hl (by decide) rfl (fun ls hl => ?_)
          refine lv_iinc (v := nI (y + 1)) (lv' := [(3, .int (nI (y + 1))), (2, .int (nI (cnt2 (fun y x => bit (fa y) x ∧ bit (fb y) x) (y + 1)))), (0, .ref aa), (1, .ref ab_)]) hx hb dX6_howManyInBoth_29 hl (k := 3) rfl (nI_1 _) (by decide) rfl (fun ls hl => ?_)
          refine lv_goto (tgt := 4) hx hb dX6_howManyInBoth_32 (by decide) ?_
          exact ih_4 (y + 1) (by omega) (by omega) ls (lv_sub hl [2, 3, 1, 0] rfl)
  exact LOOP_4 (32 - 0 + 1) 0 (Nat.zero_le _) (Nat.lt_succ_self _) ls (lv_sub hl [2, 3, 1, 0] rfl)

set_option maxHeartbeats 4000000 in
set_option maxRecDepth 100000 in
theorem c_X6_howManyInBoth_1 (l : Launch) (D : va_G) (cI cB cZ cP : ClassId) (aa : Nat) (fa : Nat → Int32) : Met l yX6_howManyInBoth wsX6_howManyInBoth ({ frames := 1, cells := 0, slots := 0, locals := 20 } : Room) (va_Pc [.ref aa, .ref aa] (fun U => va_P D vwCl [(aa, .inl (cI, 32, .inl fa))] U.heap ∧ KW D cI cB cZ cP U ∧ E0 U.heap)) (vp_Si (fun r => r = nI (cnt2 (fun y x => bit (fa y) x) 32))) 0 0 (fun _ => False) := by
  refine Met.ofW (cc := cX6_howManyInBoth) (maxL := 4) (ret := (some .int)) (by decide) rfl ?_
  intro p e s m args below meth c s₁ B hml hv
  obtain ⟨rfl, hP, hW0, hE⟩ := hv
  have hx := B.exec
  have hb := B.bytes
  have hr := B.returns
  have hts := atoms_spec (ws := wsX6_howManyInBoth) B.pre
  have hown : s.vm.findClass RX6 = some m.cls := findClass_of_methodNamed B.named
  have hlocks := B.notSynchronized
  have hK := hW0.1
  have hl := lv_entry ([.ref aa, .ref aa]) (n := 4) (Nat.le_of_ble_eq_true rfl)
  rw [lg_entry_eq]
  generalize (lg_sl ([.ref aa, .ref aa]) ++ List.replicate (4 - (lg_sl ([.ref aa, .ref aa])).length) Slot.unset).toArray = ls at hl ⊢
  have hl : lv_has ls 4 [(0, .ref aa), (1, .ref aa)] := hl
  show W p l e ({ frames := 1, cells := 0, slots := 0, locals := 20 } : Room) s m ([.ref aa, .ref aa] : List Value).toArray below meth c s.heap [] 0 0 _ (F0 m 0 ls [])
  refine u_genQ (fun Q hQ => ?_)
  refine lv_iconst (v := 0) hx hb dX6_howManyInBoth_0 (by decide) ?_
  refine lv_istore_n (lv' := [(2, .int 0), (0, .ref aa), (1, .ref aa)]) hx hb dX6_howManyInBoth_1 rfl hl (by decide) rfl (fun ls hl => ?_)
  refine lv_iconst (v := 0) hx hb dX6_howManyInBoth_2 (by decide) ?_
  refine lv_istore_n (lv' := [(3, .int 0), (2, .int 0), (0, .ref aa), (1, .ref aa)]) hx hb dX6_howManyInBoth_3 rfl hl (by decide) rfl (fun ls hl => ?_)
  have LOOP_4 : ∀ (fu : Nat) (y : Nat) (hy : y ≤ 32) (hn : 32 - y < fu) (ls : Array Slot) (hl : lv_has ls 4 [(0, .ref aa), (1, .ref aa), (2, .int (nI (cnt2 (fun y x => bit (fa y) x) y))), (3, .int (nI y))]), W p l e ({ frames := 1, cells := 0, slots := 0, locals := 20 } : Room) s m ([.ref aa, .ref aa] : List Value).toArray below meth c s.heap [] 0 0 Q (F0 m 4 ls []) := by
    intro fu
    induction fu with
    | zero => intro y hy hn ls hl; exact absurd hn (Nat.not_lt_zero _)
    | succ fu ih_4 =>
      intro y hy hn ls hl
      refine lv_iload_n hx hb dX6_howManyInBoth_4 rfl (lv_at hl 3 rfl) ?_
      refine lv_aload_n hx hb dX6_howManyInBoth_5 rfl (lv_at hl 0 rfl) ?_
      refine va_alen (v := 32) hx hb hK hP 0 0 rfl rfl rfl dX6_howManyInBoth_6 ?_
      refine lv_icmp_ge (tgt := 35) hx hb dX6_howManyInBoth_7 (by decide) (fun c_1 => ?_) (fun c_1 => ?_)
      · skip
        have nc_1 : 32 ≤ y := (nI_leI (a := 32) (b := y) (by omega) (by omega)).mp c_1
        refine lv_iload_n hx hb dX6_howManyInBoth_35 rfl (lv_at hl 2 rfl) ?_
        rw [← hQ]
        exact W.iret (v := nI (cnt2 (fun y x => bit (fa y) x) y)) hx hb hr (fun t ht hW => ⟨_, rfl, (by rw [show y = 32 by omega]), ht⟩) (fun q h => absurd h List.not_mem_nil) dX6_howManyInBoth_36
      · skip
        have nc_1 : ¬ (32 ≤ y) := fun h => c_1 ((nI_leI (a := 32) (b := y) (by omega) (by omega)).mpr h)
        refine lv_iload_n hx hb dX6_howManyInBoth_10 rfl (lv_at hl 3 rfl) ?_
        refine lv_aload_n hx hb dX6_howManyInBoth_11 rfl (lv_at hl 1 rfl) ?_
        refine va_alen (v := 32) hx hb hK hP 0 0 rfl rfl rfl dX6_howManyInBoth_12 ?_
        refine lv_icmp_ge (tgt := 35) hx hb dX6_howManyInBoth_13 (by decide) (fun c_2 => ?_) (fun c_2 => ?_)
        · skip
          have nc_2 : 32 ≤ y := (nI_leI (a := 32) (b := y) (by omega) (by omega)).mp c_2
          exact absurd nc_2 (by omega)
        · skip
          have nc_2 : ¬ (32 ≤ y) := fun h => c_2 ((nI_leI (a := 32) (b := y) (by omega) (by omega)).mpr h)
          refine lv_iload_n hx hb dX6_howManyInBoth_16 rfl (lv_at hl 2 rfl) ?_
          refine lv_aload_n hx hb dX6_howManyInBoth_17 rfl (lv_at hl 0 rfl) ?_
          refine lv_iload_n hx hb dX6_howManyInBoth_18 rfl (lv_at hl 3 rfl) ?_
          refine u_iald hx hb hK hP 0 0 rfl rfl rfl ⟨by omega, by omega⟩ dX6_howManyInBoth_19 ?_
          refine lv_aload_n hx hb dX6_howManyInBoth_20 rfl (lv_at hl 1 rfl) ?_
          refine lv_iload_n hx hb dX6_howManyInBoth_21 rfl (lv_at hl 3 rfl) ?_
          refine u_iald hx hb hK hP 0 0 rfl rfl rfl ⟨by omega, by omega⟩ dX6_howManyInBoth_22 ?_
          refine lv_iand hx hb dX6_howManyInBoth_23 ?_
          have hPc := hP.sub (ws' := []) [] rfl
          refine u_callSi (W.runS (As := [.int ((fa y) &&& (fa y))]) (rest := [.int (nI (cnt2 (fun y x => bit (fa y) x) y))]) ⟨hx, hb, hml, hown, hts⟩ (c_J6_bitCount_0f7a4 l D cI cB cZ cP ((fa y) &&& (fa y)) ) (va_cwS 1 hts gX6_howManyInBoth_J6_bitCount_0f7a4 rfl rfl rfl (by decide +kernel) ⟨Nat.le_of_ble_eq_true rfl, Nat.le_of_ble_eq_true rfl⟩) (pS hPc hW0 trivial) rfl rfl hl.1 rfl (lv_room (Nat.le_of_ble_eq_true rfl)) dX6_howManyInBoth_24 ⟨Nat.le_of_ble_eq_true rfl, Nat.le_of_ble_eq_true rfl⟩) ?_
          refine lv_iadd hx hb dX6_howManyInBoth_27 ?_
          refine u_eqi (show (nI (cnt2 (fun y x => bit (fa y) x) y)) + (nI (cnt (bit ((fa y) &&& (fa y))) 32)) = nI (cnt2 (fun y x => bit (fa y) x) (y + 1)) from by rw [nI_add, cnt_congr 32 (fun x hx => (bit_and (fa y) (fa y) x hx).trans (and_self_iff))]; rfl) ?_
          refine lv_istore_n (lv' := [(2, .int (nI (cnt2 (fun y x => bit (fa y) x) (y + 1)))), (0, .ref aa), (1, .ref aa), (3, .int (nI y))]) hx hb dX6_howManyInBoth_28 rfl hl (by decide) rfl (fun ls hl => ?_)
          refine lv_iinc (v := nI (y + 1)) (lv' := [(3, .int (nI (y + 1))), (2, .int (nI (cnt2 (fun y x => bit (fa y) x) (y + 1)))), (0, .ref aa), (1, .ref aa)]) hx hb dX6_howManyInBoth_29 hl (k := 3) rfl (nI_1 _) (by decide) rfl (fun ls hl => ?_)
          refine lv_goto (tgt := 4) hx hb dX6_howManyInBoth_32 (by decide) ?_
          exact ih_4 (y + 1) (by omega) (by omega) ls (lv_sub hl [2, 3, 1, 0] rfl)
  exact LOOP_4 (32 - 0 + 1) 0 (Nat.zero_le _) (Nat.lt_succ_self _) ls (lv_sub hl [2, 3, 1, 0] rfl)

set_option maxHeartbeats 4000000 in
set_option maxRecDepth 100000 in
theorem c_X2_howManyInside (l : Launch) (D : va_G) (cI cB cZ cP : ClassId) (pa o1 o2 o3 o4 o5 : Nat) (fi : Nat → Int32) : Met l yX2_howManyInside wsX2_howManyInside ({ frames := 2, cells := 0, slots := 0, locals := 43 } : Room) (va_Pc [.ref pa] (fun U => va_P D vwCl [(pa, .inr (4, [.ref o1, .ref o2, .ref o3, .ref o4, .ref o5])), (o3, .inl (cI, 32, .inl fi))] U.heap ∧ KW D cI cB cZ cP U ∧ E0 U.heap)) (vp_Si (fun r => r = nI (cnt2 (fun y x => bit (fi y) x) 32))) 0 0 (fun _ => False) := by
  refine Met.ofW (cc := cX2_howManyInside) (maxL := 1) (ret := (some .int)) (by decide) rfl ?_
  intro p e s m args below meth c s₁ B hml hv
  obtain ⟨rfl, hP, hW0, hE⟩ := hv
  have hx := B.exec
  have hb := B.bytes
  have hr := B.returns
  have hts := atoms_spec (ws := wsX2_howManyInside) B.pre
  have hown : s.vm.findClass RX2 = some m.cls := findClass_of_methodNamed B.named
  have hlocks := B.notSynchronized
  have hK := hW0.1
  have hl := lv_entry ([.ref pa]) (n := 1) (Nat.le_of_ble_eq_true rfl)
  rw [lg_entry_eq]
  generalize (lg_sl ([.ref pa]) ++ List.replicate (1 - (lg_sl ([.ref pa])).length) Slot.unset).toArray = ls at hl ⊢
  have hl : lv_has ls 1 [(0, .ref pa)] := hl
  show W p l e ({ frames := 2, cells := 0, slots := 0, locals := 43 } : Room) s m ([.ref pa] : List Value).toArray below meth c s.heap [] 0 0 _ (F0 m 0 ls [])
  refine u_genQ (fun Q hQ => ?_)
  refine lv_aload_n hx hb dX2_howManyInside_0 rfl (lv_at hl 0 rfl) ?_
  refine va_get (D := D) (ci := 4) (v := .ref o3) (C := RX2) (T := TX2) (N := 5) hx hb hts (by decide +kernel) hown hK hP 0 rfl rfl 2 (by decide) (hts (.fieldLink RX2 9 "LandDeeds$Plot" "inside" "[I") (by decide +kernel)) (fun _ h9 => h9) rfl dX2_howManyInside_1 ?_
  refine lv_aload_n hx hb dX2_howManyInside_4 rfl (lv_at hl 0 rfl) ?_
  refine va_get (D := D) (ci := 4) (v := .ref o3) (C := RX2) (T := TX2) (N := 5) hx hb hts (by decide +kernel) hown hK hP 0 rfl rfl 2 (by decide) (hts (.fieldLink RX2 9 "LandDeeds$Plot" "inside" "[I") (by decide +kernel)) (fun _ h9 => h9) rfl dX2_howManyInside_5 ?_
  have hPc := hP.sub (ws' := [(o3, .inl (cI, 32, .inl fi))]) [1] rfl
  refine u_callSi (va_runSN (As := [.ref o3, .ref o3]) (rest := []) ⟨hx, hb, hml, hown, hts⟩ (c_X6_howManyInBoth_1 l D cI cB cZ cP o3 fi ) ⟨va_cnB 2 hts gX2_howManyInside_X6_howManyInBoth_n52 rfl rfl rfl (hW0.n_RX2_52) (hts (.initialized RX6) (by decide +kernel)) (by decide +kernel) ⟨Nat.le_of_ble_eq_true rfl, Nat.le_of_ble_eq_true rfl⟩, (hts (.static yX6_howManyInBoth) (by decide +kernel)), trivial⟩ (pS hPc hW0 trivial) rfl rfl hl.1 rfl (lv_room (Nat.le_of_ble_eq_true rfl)) dX2_howManyInside_8 ⟨Nat.le_of_ble_eq_true rfl, Nat.le_of_ble_eq_true rfl⟩).run ?_
  rw [← hQ]
  exact W.iret (v := nI (cnt2 (fun y x => bit (fi y) x) 32)) hx hb hr (fun t ht hW => ⟨_, rfl, rfl, ht⟩) (fun q h => absurd h List.not_mem_nil) dX2_howManyInside_11

set_option maxHeartbeats 4000000 in
set_option maxRecDepth 100000 in
theorem c_X2_howManyOnSides (l : Launch) (D : va_G) (cI cB cZ cP : ClassId) (pa o1 o2 o3 o4 o5 : Nat) (fs : Nat → Int32) : Met l yX2_howManyOnSides wsX2_howManyOnSides ({ frames := 2, cells := 0, slots := 0, locals := 43 } : Room) (va_Pc [.ref pa] (fun U => va_P D vwCl [(pa, .inr (4, [.ref o1, .ref o2, .ref o3, .ref o4, .ref o5])), (o4, .inl (cI, 32, .inl fs))] U.heap ∧ KW D cI cB cZ cP U ∧ E0 U.heap)) (vp_Si (fun r => r = nI (cnt2 (fun y x => bit (fs y) x) 32))) 0 0 (fun _ => False) := by
  refine Met.ofW (cc := cX2_howManyOnSides) (maxL := 1) (ret := (some .int)) (by decide) rfl ?_
  intro p e s m args below meth c s₁ B hml hv
  obtain ⟨rfl, hP, hW0, hE⟩ := hv
  have hx := B.exec
  have hb := B.bytes
  have hr := B.returns
  have hts := atoms_spec (ws := wsX2_howManyOnSides) B.pre
  have hown : s.vm.findClass RX2 = some m.cls := findClass_of_methodNamed B.named
  have hlocks := B.notSynchronized
  have hK := hW0.1
  have hl := lv_entry ([.ref pa]) (n := 1) (Nat.le_of_ble_eq_true rfl)
  rw [lg_entry_eq]
  generalize (lg_sl ([.ref pa]) ++ List.replicate (1 - (lg_sl ([.ref pa])).length) Slot.unset).toArray = ls at hl ⊢
  have hl : lv_has ls 1 [(0, .ref pa)] := hl
  show W p l e ({ frames := 2, cells := 0, slots := 0, locals := 43 } : Room) s m ([.ref pa] : List Value).toArray below meth c s.heap [] 0 0 _ (F0 m 0 ls [])
  refine u_genQ (fun Q hQ => ?_)
  refine lv_aload_n hx hb dX2_howManyOnSides_0 rfl (lv_at hl 0 rfl) ?_
  refine va_get (D := D) (ci := 4) (v := .ref o4) (C := RX2) (T := TX2) (N := 5) hx hb hts (by decide +kernel) hown hK hP 0 rfl rfl 3 (by decide) (hts (.fieldLink RX2 15 "LandDeeds$Plot" "sides" "[I") (by decide +kernel)) (fun _ h9 => h9) rfl dX2_howManyOnSides_1 ?_
  refine lv_aload_n hx hb dX2_howManyOnSides_4 rfl (lv_at hl 0 rfl) ?_
  refine va_get (D := D) (ci := 4) (v := .ref o4) (C := RX2) (T := TX2) (N := 5) hx hb hts (by decide +kernel) hown hK hP 0 rfl rfl 3 (by decide) (hts (.fieldLink RX2 15 "LandDeeds$Plot" "sides" "[I") (by decide +kernel)) (fun _ h9 => h9) rfl dX2_howManyOnSides_5 ?_
  have hPc := hP.sub (ws' := [(o4, .inl (cI, 32, .inl fs))]) [1] rfl
  refine u_callSi (va_runSN (As := [.ref o4, .ref o4]) (rest := []) ⟨hx, hb, hml, hown, hts⟩ (c_X6_howManyInBoth_1 l D cI cB cZ cP o4 fs ) ⟨va_cnB 2 hts gX2_howManyOnSides_X6_howManyInBoth_n52 rfl rfl rfl (hW0.n_RX2_52) (hts (.initialized RX6) (by decide +kernel)) (by decide +kernel) ⟨Nat.le_of_ble_eq_true rfl, Nat.le_of_ble_eq_true rfl⟩, (hts (.static yX6_howManyInBoth) (by decide +kernel)), trivial⟩ (pS hPc hW0 trivial) rfl rfl hl.1 rfl (lv_room (Nat.le_of_ble_eq_true rfl)) dX2_howManyOnSides_8 ⟨Nat.le_of_ble_eq_true rfl, Nat.le_of_ble_eq_true rfl⟩).run ?_
  rw [← hQ]
  exact W.iret (v := nI (cnt2 (fun y x => bit (fs y) x) 32)) hx hb hr (fun t ht hW => ⟨_, rfl, rfl, ht⟩) (fun q h => absurd h List.not_mem_nil) dX2_howManyOnSides_11

set_option maxHeartbeats 4000000 in
set_option maxRecDepth 100000 in
theorem c_X0_plotAt (l : Launch) (D : va_G) (cI cB cZ cP : ClassId) (h0 ap ay : Nat) (k : Nat) (lo : Int32) (fp : Nat → Option Nat) (j pa : Nat) (hk : k ≤ 6) (hj : j < k) (hf : fp j = some pa) : Met l yX0_plotAt wsX0_plotAt ({ frames := 1, cells := 0, slots := 0, locals := 21 } : Room) (va_Pc [.ref h0, .int (nI j)] (fun U => va_P D vwCl [(h0, .inr (2, [.ref ap, .ref ay, .int (nI k), .int lo])), (ap, .inl (cP, 6, .inr (.inr (.inr (.inr fp)))))] U.heap ∧ KW D cI cB cZ cP U ∧ E0 U.heap)) (va_Sq (fun r => r = some pa)) 0 0 (fun _ => False) := by
  refine Met.ofW (cc := cX0_plotAt) (maxL := 2) (ret := (some (.object "LandDeeds$Plot"))) (by decide) rfl ?_
  intro p e s m args below meth c s₁ B hml hv
  obtain ⟨rfl, hP, hW0, hE⟩ := hv
  have hx := B.exec
  have hb := B.bytes
  have hr := B.returns
  have hts := atoms_spec (ws := wsX0_plotAt) B.pre
  have hown : s.vm.findClass RX0 = some m.cls := findClass_of_methodNamed B.named
  have hlocks := B.notSynchronized
  have hK := hW0.1
  have hl := lv_entry ([.ref h0, .int (nI j)]) (n := 2) (Nat.le_of_ble_eq_true rfl)
  rw [lg_entry_eq]
  generalize (lg_sl ([.ref h0, .int (nI j)]) ++ List.replicate (2 - (lg_sl ([.ref h0, .int (nI j)])).length) Slot.unset).toArray = ls at hl ⊢
  have hl : lv_has ls 2 [(0, .ref h0), (1, .int (nI j))] := hl
  show W p l e ({ frames := 1, cells := 0, slots := 0, locals := 21 } : Room) s m ([.ref h0, .int (nI j)] : List Value).toArray below meth c s.heap [] 0 0 _ (F0 m 0 ls [])
  refine u_genQ (fun Q hQ => ?_)
  refine lv_aload_n hx hb dX0_plotAt_0 rfl (lv_at hl 0 rfl) ?_
  refine lv_iload_n hx hb dX0_plotAt_1 rfl (lv_at hl 1 rfl) ?_
  have hPc := hP.sub (ws' := [(h0, .inr (2, [.ref ap, .ref ay, .int (nI k), .int lo]))]) [0] rfl
  refine u_callSi (W.runV (As := [.int (nI j)]) (rest := []) ⟨hx, hb, hml, hown, hts⟩ (c_X0_has l D cI cB cZ cP h0 ap ay k lo (nI j) (by first | assumption | omega)) (cwV 1 hts gX0_plotAt_X0_has rfl rfl rfl (by decide +kernel) ⟨Nat.le_of_ble_eq_true rfl, Nat.le_of_ble_eq_true rfl⟩) (pV (q0 := 0) hPc hW0 trivial rfl rfl) rfl rfl hl.1 rfl (lv_room (Nat.le_of_ble_eq_true rfl)) dX0_plotAt_2 ⟨Nat.le_of_ble_eq_true rfl, Nat.le_of_ble_eq_true rfl⟩) ?_
  refine lv_if_eq (tgt := 17) hx hb dX0_plotAt_5 (by decide) (fun c_1 => ?_) (fun c_1 => ?_)
  · skip
    have nc_1 := zb_eq0.mp c_1
    exact absurd nc_1 (not_not_intro (by rw [nI_toInt (by omega)]; omega))
  · skip
    have nc_1 := zb_ne0.mp c_1
    refine lv_aload_n hx hb dX0_plotAt_8 rfl (lv_at hl 0 rfl) ?_
    refine va_get (D := D) (ci := 2) (v := .ref ap) (C := RX0) (T := TX0) (N := 4) hx hb hts (by decide +kernel) hown hK hP 0 rfl rfl 0 (by decide) (hts (.fieldLink RX0 11 "LandDeeds$Estate" "plots" "[LLandDeeds$Plot;") (by decide +kernel)) (fun _ h9 => h9) rfl dX0_plotAt_9 ?_
    refine lv_iload_n hx hb dX0_plotAt_12 rfl (lv_at hl 1 rfl) ?_
    refine u_aldr hx hb hK hP 1 3 rfl rfl rfl ⟨by omega, by omega⟩ hf dX0_plotAt_13 ?_
    refine lv_goto (tgt := 18) hx hb dX0_plotAt_14 (by decide) ?_
    rw [← hQ]
    exact W.aret (v := .ref pa) hx hb hr (Or.inl ⟨_, rfl⟩) (Or.inr ⟨_, rfl⟩) (fun t ht hW => ⟨some pa, rfl, rfl, ht⟩) (fun q h => absurd h List.not_mem_nil) dX0_plotAt_18

set_option maxHeartbeats 4000000 in
set_option maxRecDepth 100000 in
theorem c_X0_plotAt_no (l : Launch) (D : va_G) (cI cB cZ cP : ClassId) (h0 ap ay : Nat) (k : Nat) (lo : Int32) (fp : Nat → Option Nat) (x : Int32) (hk : k ≤ 6) (hx0 : ¬ (0 ≤ x.toInt ∧ x.toInt < k)) : Met l yX0_plotAt wsX0_plotAt ({ frames := 1, cells := 0, slots := 0, locals := 21 } : Room) (va_Pc [.ref h0, .int x] (fun U => va_P D vwCl [(h0, .inr (2, [.ref ap, .ref ay, .int (nI k), .int lo])), (ap, .inl (cP, 6, .inr (.inr (.inr (.inr fp)))))] U.heap ∧ KW D cI cB cZ cP U ∧ E0 U.heap)) (va_Sq (fun r => r = none)) 0 0 (fun _ => False) := by
  refine Met.ofW (cc := cX0_plotAt) (maxL := 2) (ret := (some (.object "LandDeeds$Plot"))) (by decide) rfl ?_
  intro p e s m args below meth c s₁ B hml hv
  obtain ⟨rfl, hP, hW0, hE⟩ := hv
  have hx := B.exec
  have hb := B.bytes
  have hr := B.returns
  have hts := atoms_spec (ws := wsX0_plotAt) B.pre
  have hown : s.vm.findClass RX0 = some m.cls := findClass_of_methodNamed B.named
  have hlocks := B.notSynchronized
  have hK := hW0.1
  have hl := lv_entry ([.ref h0, .int x]) (n := 2) (Nat.le_of_ble_eq_true rfl)
  rw [lg_entry_eq]
  generalize (lg_sl ([.ref h0, .int x]) ++ List.replicate (2 - (lg_sl ([.ref h0, .int x])).length) Slot.unset).toArray = ls at hl ⊢
  have hl : lv_has ls 2 [(0, .ref h0), (1, .int x)] := hl
  show W p l e ({ frames := 1, cells := 0, slots := 0, locals := 21 } : Room) s m ([.ref h0, .int x] : List Value).toArray below meth c s.heap [] 0 0 _ (F0 m 0 ls [])
  refine u_genQ (fun Q hQ => ?_)
  refine lv_aload_n hx hb dX0_plotAt_0 rfl (lv_at hl 0 rfl) ?_
  refine lv_iload_n hx hb dX0_plotAt_1 rfl (lv_at hl 1 rfl) ?_
  have hPc := hP.sub (ws' := [(h0, .inr (2, [.ref ap, .ref ay, .int (nI k), .int lo]))]) [0] rfl
  refine u_callSi (W.runV (As := [.int x]) (rest := []) ⟨hx, hb, hml, hown, hts⟩ (c_X0_has l D cI cB cZ cP h0 ap ay k lo x (by first | assumption | omega)) (cwV 1 hts gX0_plotAt_X0_has rfl rfl rfl (by decide +kernel) ⟨Nat.le_of_ble_eq_true rfl, Nat.le_of_ble_eq_true rfl⟩) (pV (q0 := 0) hPc hW0 trivial rfl rfl) rfl rfl hl.1 rfl (lv_room (Nat.le_of_ble_eq_true rfl)) dX0_plotAt_2 ⟨Nat.le_of_ble_eq_true rfl, Nat.le_of_ble_eq_true rfl⟩) ?_
  refine lv_if_eq (tgt := 17) hx hb dX0_plotAt_5 (by decide) (fun c_1 => ?_) (fun c_1 => ?_)
  · skip
    have nc_1 := zb_eq0.mp c_1
    refine lv_null hx hb dX0_plotAt_17 ?_
    rw [← hQ]
    exact W.aret (v := .null) hx hb hr (Or.inl ⟨_, rfl⟩) (Or.inl rfl) (fun t ht hW => ⟨none, rfl, rfl, ht⟩) (fun q h => absurd h List.not_mem_nil) dX0_plotAt_18
  · skip
    have nc_1 := zb_ne0.mp c_1
    exact absurd nc_1 hx0

set_option maxHeartbeats 4000000 in
set_option maxRecDepth 100000 in
theorem c_X0_heldRow (l : Launch) (D : va_G) (cI cB cZ cP : ClassId) (h0 ap ay : Nat) (k : Nat) (lo : Int32) (fp : Nat → Option Nat) (hd : Nat → Nat → Int32) (j y : Nat) (hk : k ≤ 6) (hj : j < k) (hy : y < 32) : Met l yX0_heldRow wsX0_heldRow ({ frames := 2, cells := 0, slots := 0, locals := 42 } : Room) (va_Pc [.ref h0, .int (nI j), .int (nI y)] (fun U => va_P D vwCl [(h0, .inr (2, [.ref ap, .ref ay, .int (nI k), .int lo])), (ap, .inl (cP, 6, .inr (.inr (.inr (.inr fp)))))] U.heap ∧ KW D cI cB cZ cP U ∧ (PO D cI fp k hd) U.heap)) (vp_Si (fun r => r = hd j y)) 0 0 (fun _ => False) := by
  refine Met.ofW (cc := cX0_heldRow) (maxL := 4) (ret := (some .int)) (by decide) rfl ?_
  intro p e s m args below meth c s₁ B hml hv
  obtain ⟨rfl, hP, hW0, hE⟩ := hv
  have hx := B.exec
  have hb := B.bytes
  have hr := B.returns
  have hts := atoms_spec (ws := wsX0_heldRow) B.pre
  have hown : s.vm.findClass RX0 = some m.cls := findClass_of_methodNamed B.named
  have hlocks := B.notSynchronized
  have hK := hW0.1
  have hl := lv_entry ([.ref h0, .int (nI j), .int (nI y)]) (n := 4) (Nat.le_of_ble_eq_true rfl)
  rw [lg_entry_eq]
  generalize (lg_sl ([.ref h0, .int (nI j), .int (nI y)]) ++ List.replicate (4 - (lg_sl ([.ref h0, .int (nI j), .int (nI y)])).length) Slot.unset).toArray = ls at hl ⊢
  have hl : lv_has ls 4 [(0, .ref h0), (1, .int (nI j)), (2, .int (nI y))] := hl
  show W p l e ({ frames := 2, cells := 0, slots := 0, locals := 42 } : Room) s m ([.ref h0, .int (nI j), .int (nI y)] : List Value).toArray below meth c s.heap [] 0 0 _ (F0 m 0 ls [])
  refine u_genQ (fun Q hQ => ?_)
  obtain ⟨pa, o1, o2, o3, o4, o5, hf, hPp⟩ := hE j hj
  have hP := vP_app hP hPp
  have hP : va_P D vwCl [(h0, .inr (2, [.ref ap, .ref ay, .int (nI k), .int lo])), (ap, .inl (cP, 6, .inr (.inr (.inr (.inr fp))))), (pa, .inr (4, [.ref o1, .ref o2, .ref o3, .ref o4, .ref o5])), (o5, .inl (cI, 32, .inl (hd j)))] s.heap := hP
  refine lv_aload_n hx hb dX0_heldRow_0 rfl (lv_at hl 0 rfl) ?_
  refine lv_iload_n hx hb dX0_heldRow_1 rfl (lv_at hl 1 rfl) ?_
  have hPc := hP.sub (ws' := [(h0, .inr (2, [.ref ap, .ref ay, .int (nI k), .int lo])), (ap, .inl (cP, 6, .inr (.inr (.inr (.inr fp)))))]) [0, 1] rfl
  refine u_callSr (W.runV (As := [.int (nI j)]) (rest := []) ⟨hx, hb, hml, hown, hts⟩ (c_X0_plotAt l D cI cB cZ cP h0 ap ay k lo fp j pa (by first | assumption | omega) (by first | assumption | omega) (by first | assumption | omega)) (cwV 1 hts gX0_heldRow_X0_plotAt rfl rfl rfl (by decide +kernel) ⟨Nat.le_of_ble_eq_true rfl, Nat.le_of_ble_eq_true rfl⟩) (pV (q0 := 0) hPc hW0 trivial rfl rfl) rfl rfl hl.1 rfl (lv_room (Nat.le_of_ble_eq_true rfl)) dX0_heldRow_2 ⟨Nat.le_of_ble_eq_true rfl, Nat.le_of_ble_eq_true rfl⟩) ?_
  refine lv_astore_n (lv' := [(3, .ref pa), (0, .ref h0), (1, .int (nI j)), (2, .int (nI y))]) hx hb dX0_heldRow_5 rfl hl (by decide) rfl (fun ls hl => ?_)
  refine lv_aload_n hx hb dX0_heldRow_6 rfl (lv_at hl 0 rfl) ?_
  refine lv_ifnull hx hb dX0_heldRow_7 ?_
  refine lv_iload_n hx hb dX0_heldRow_10 rfl (lv_at hl 3 rfl) ?_
  have hPc := hP.sub (ws' := []) [] rfl
  refine u_callSi (va_runSN (As := [.int (nI y)]) (rest := []) ⟨hx, hb, hml, hown, hts⟩ (c_X6_isPlace l D cI cB cZ cP (nI y) ) ⟨va_cnB 1 hts gX0_heldRow_X6_isPlace_n44 rfl rfl rfl (hW0.n_RX0_44) (hts (.initialized RX6) (by decide +kernel)) (by decide +kernel) ⟨Nat.le_of_ble_eq_true rfl, Nat.le_of_ble_eq_true rfl⟩, (hts (.static yX6_isPlace) (by decide +kernel)), trivial⟩ (pS hPc hW0 trivial) rfl rfl hl.1 rfl (lv_room (Nat.le_of_ble_eq_true rfl)) dX0_heldRow_11 ⟨Nat.le_of_ble_eq_true rfl, Nat.le_of_ble_eq_true rfl⟩).run ?_
  refine lv_if_eq (tgt := 26) hx hb dX0_heldRow_14 (by decide) (fun c_1 => ?_) (fun c_1 => ?_)
  · skip
    have nc_1 := zb_eq0.mp c_1
    exact absurd nc_1 (not_not_intro (by rw [nI_toInt (by omega)]; omega))
  · skip
    have nc_1 := zb_ne0.mp c_1
    refine lv_aload_n hx hb dX0_heldRow_17 rfl (lv_at hl 0 rfl) ?_
    refine va_get (D := D) (ci := 4) (v := .ref o5) (C := RX2) (T := TX2) (N := 5) hx hb hts (by decide +kernel) hown hK hP 2 rfl rfl 4 (by decide) (hts (.fieldLink RX0 47 "LandDeeds$Plot" "held" "[I") (by decide +kernel)) (fun _ h9 => h9) rfl dX0_heldRow_18 ?_
    refine lv_iload_n hx hb dX0_heldRow_21 rfl (lv_at hl 3 rfl) ?_
    refine u_iald hx hb hK hP 3 0 rfl rfl rfl ⟨by omega, by omega⟩ dX0_heldRow_22 ?_
    refine lv_goto (tgt := 27) hx hb dX0_heldRow_23 (by decide) ?_
    rw [← hQ]
    exact W.iret (v := (hd j) y) hx hb hr (fun t ht hW => ⟨_, rfl, rfl, ht⟩) (fun q h => absurd h List.not_mem_nil) dX0_heldRow_27

set_option maxHeartbeats 4000000 in
set_option maxRecDepth 100000 in
theorem c_X0_oldestThatHolds (l : Launch) (D : va_G) (cI cB cZ cP : ClassId) (h0 ap ay : Nat) (k : Nat) (lo : Int32) (fp : Nat → Option Nat) (hd : Nat → Nat → Int32) (yr : Nat → Int32) (xx y : Nat) (hk : k ≤ 6) (hyr : ∀ z, z < k → 1 ≤ (yr z).toInt ∧ (yr z).toInt ≤ 999) (hxx : xx < 32) (hy : y < 32) : Met l yX0_oldestThatHolds wsX0_oldestThatHolds ({ frames := 3, cells := 0, slots := 0, locals := 65 } : Room) (va_Pc [.ref h0, .int (nI xx), .int (nI y)] (fun U => va_P D vwCl [(h0, .inr (2, [.ref ap, .ref ay, .int (nI k), .int lo])), (ap, .inl (cP, 6, .inr (.inr (.inr (.inr fp))))), (ay, .inl (cI, 6, .inl yr))] U.heap ∧ KW D cI cB cZ cP U ∧ (PO D cI fp k hd) U.heap)) (vp_Si (fun r => r = oI (own (fun z => bit (hd z y) xx) yr k))) 0 0 (fun _ => False) := by
  refine Met.ofW (cc := cX0_oldestThatHolds) (maxL := 5) (ret := (some .int)) (by decide) rfl ?_
  intro p e s m args below meth c s₁ B hml hv
  obtain ⟨rfl, hP, hW0, hE⟩ := hv
  have hx := B.exec
  have hb := B.bytes
  have hr := B.returns
  have hts := atoms_spec (ws := wsX0_oldestThatHolds) B.pre
  have hown : s.vm.findClass RX0 = some m.cls := findClass_of_methodNamed B.named
  have hlocks := B.notSynchronized
  have hK := hW0.1
  have hl := lv_entry ([.ref h0, .int (nI xx), .int (nI y)]) (n := 5) (Nat.le_of_ble_eq_true rfl)
  rw [lg_entry_eq]
  generalize (lg_sl ([.ref h0, .int (nI xx), .int (nI y)]) ++ List.replicate (5 - (lg_sl ([.ref h0, .int (nI xx), .int (nI y)])).length) Slot.unset).toArray = ls at hl ⊢
  have hl : lv_has ls 5 [(0, .ref h0), (1, .int (nI xx)), (2, .int (nI y))] := hl
  show W p l e ({ frames := 3, cells := 0, slots := 0, locals := 65 } : Room) s m ([.ref h0, .int (nI xx), .int (nI y)] : List Value).toArray below meth c s.heap [] 0 0 _ (F0 m 0 ls [])
  refine u_genQ (fun Q hQ => ?_)
  refine lv_bipush (v := (-6)) hx hb dX0_oldestThatHolds_0 (by decide) ?_
  refine lv_istore_n (lv' := [(3, .int (-6)), (0, .ref h0), (1, .int (nI xx)), (2, .int (nI y))]) hx hb dX0_oldestThatHolds_2 rfl hl (by decide) rfl (fun ls hl => ?_)
  refine lv_iconst (v := 0) hx hb dX0_oldestThatHolds_3 (by decide) ?_
  refine lv_istore (lv' := [(4, .int 0), (3, .int (-6)), (0, .ref h0), (1, .int (nI xx)), (2, .int (nI y))]) hx hb dX0_oldestThatHolds_4 hl (by decide) rfl (fun ls hl => ?_)
  have LOOP_6 : ∀ (fu : Nat) (j : Nat) (hj : j ≤ k) (hn : k - j < fu) (ls : Array Slot) (hl : lv_has ls 5 [(0, .ref h0), (1, .int (nI xx)), (2, .int (nI y)), (3, .int (oI (own (fun z => bit (hd z y) xx) yr j))), (4, .int (nI j))]), W p l e ({ frames := 3, cells := 0, slots := 0, locals := 65 } : Room) s m ([.ref h0, .int (nI xx), .int (nI y)] : List Value).toArray below meth c s.heap [] 0 0 Q (F0 m 6 ls []) := by
    intro fu
    induction fu with
    | zero => intro j hj hn ls hl; exact absurd hn (Nat.not_lt_zero _)
    | succ fu ih_6 =>
      intro j hj hn ls hl
      refine lv_iload hx hb dX0_oldestThatHolds_6 (lv_at hl 4 rfl) ?_
      refine lv_aload_n hx hb dX0_oldestThatHolds_8 rfl (lv_at hl 0 rfl) ?_
      refine va_get (D := D) (ci := 2) (v := .int (nI k)) (C := RX0) (T := TX0) (N := 4) hx hb hts (by decide +kernel) hown hK hP 0 rfl rfl 2 (by decide) (hts (.fieldLink RX0 21 "LandDeeds$Estate" "size" "I") (by decide +kernel)) (fun _ h9 => h9) rfl dX0_oldestThatHolds_9 ?_
      refine lv_icmp_ge (tgt := 54) hx hb dX0_oldestThatHolds_12 (by decide) (fun c_1 => ?_) (fun c_1 => ?_)
      · skip
        have nc_1 : k ≤ j := (nI_leI (a := k) (b := j) (by omega) (by omega)).mp c_1
        refine lv_iload_n hx hb dX0_oldestThatHolds_54 rfl (lv_at hl 3 rfl) ?_
        rw [← hQ]
        exact W.iret (v := oI (own (fun z => bit (hd z y) xx) yr j)) hx hb hr (fun t ht hW => ⟨_, rfl, (by rw [show j = k by omega]), ht⟩) (fun q h => absurd h List.not_mem_nil) dX0_oldestThatHolds_55
      · skip
        have nc_1 : ¬ (k ≤ j) := fun h => c_1 ((nI_leI (a := k) (b := j) (by omega) (by omega)).mpr h)
        refine lv_aload_n hx hb dX0_oldestThatHolds_15 rfl (lv_at hl 0 rfl) ?_
        refine lv_iload hx hb dX0_oldestThatHolds_16 (lv_at hl 4 rfl) ?_
        refine lv_iload_n hx hb dX0_oldestThatHolds_18 rfl (lv_at hl 2 rfl) ?_
        have hPc := hP.sub (ws' := [(h0, .inr (2, [.ref ap, .ref ay, .int (nI k), .int lo])), (ap, .inl (cP, 6, .inr (.inr (.inr (.inr fp)))))]) [0, 1] rfl
        refine u_callSi (W.runV (As := [.int (nI j), .int (nI y)]) (rest := []) ⟨hx, hb, hml, hown, hts⟩ (c_X0_heldRow l D cI cB cZ cP h0 ap ay k lo fp hd j y (by first | assumption | omega) (by first | assumption | omega) (by first | assumption | omega)) (cwV 2 hts gX0_oldestThatHolds_X0_heldRow rfl rfl rfl (by decide +kernel) ⟨Nat.le_of_ble_eq_true rfl, Nat.le_of_ble_eq_true rfl⟩) (pV (q0 := 0) hPc hW0 hE rfl rfl) rfl rfl hl.1 rfl (lv_room (Nat.le_of_ble_eq_true rfl)) dX0_oldestThatHolds_19 ⟨Nat.le_of_ble_eq_true rfl, Nat.le_of_ble_eq_true rfl⟩) ?_
        refine lv_iload_n hx hb dX0_oldestThatHolds_22 rfl (lv_at hl 1 rfl) ?_
        have hPc := hP.sub (ws' := []) [] rfl
        refine u_callSi (va_runSN (As := [.int (hd j y), .int (nI xx)]) (rest := []) ⟨hx, hb, hml, hown, hts⟩ (c_X6_isIn l D cI cB cZ cP (hd j y) (nI xx) ) ⟨va_cnB 2 hts gX0_oldestThatHolds_X6_isIn_n54 rfl rfl rfl (hW0.n_RX0_54) (hts (.initialized RX6) (by decide +kernel)) (by decide +kernel) ⟨Nat.le_of_ble_eq_true rfl, Nat.le_of_ble_eq_true rfl⟩, (hts (.static yX6_isIn) (by decide +kernel)), trivial⟩ (pS hPc hW0 trivial) rfl rfl hl.1 rfl (lv_room (Nat.le_of_ble_eq_true rfl)) dX0_oldestThatHolds_23 ⟨Nat.le_of_ble_eq_true rfl, Nat.le_of_ble_eq_true rfl⟩).run ?_
        refine u_eqi (zb_iff (isIn_bit hxx)) ?_
        refine lv_if_eq (tgt := 48) hx hb dX0_oldestThatHolds_26 (by decide) (fun c_2 => ?_) (fun c_2 => ?_)
        · skip
          have nc_2 := zb_eq0.mp c_2
          refine lv_iinc (v := nI (j + 1)) (lv' := [(4, .int (nI (j + 1))), (0, .ref h0), (1, .int (nI xx)), (2, .int (nI y)), (3, .int (oI (own (fun z => bit (hd z y) xx) yr j)))]) hx hb dX0_oldestThatHolds_48 hl (k := 4) rfl (nI_1 _) (by decide) rfl (fun ls hl => ?_)
          refine lv_goto (tgt := 6) hx hb dX0_oldestThatHolds_51 (by decide) ?_
          exact ih_6 (j + 1) (by omega) (by omega) ls (by rw [own_f (hd := fun z => bit (hd z y) xx) (fun q => nc_2 q.1)]; exact (lv_sub hl [1, 2, 3, 4, 0] rfl))
        · skip
          have nc_2 := zb_ne0.mp c_2
          refine lv_iload_n hx hb dX0_oldestThatHolds_29 rfl (lv_at hl 3 rfl) ?_
          refine lv_bipush (v := (-6)) hx hb dX0_oldestThatHolds_30 (by decide) ?_
          refine lv_icmp_eq (tgt := 45) hx hb dX0_oldestThatHolds_32 (by decide) (fun c_3 => ?_) (fun c_3 => ?_)
          · skip
            refine lv_iload hx hb dX0_oldestThatHolds_45 (lv_at hl 4 rfl) ?_
            refine lv_istore_n (lv' := [(3, .int (nI j)), (0, .ref h0), (1, .int (nI xx)), (2, .int (nI y)), (4, .int (nI j))]) hx hb dX0_oldestThatHolds_47 rfl hl (by decide) rfl (fun ls hl => ?_)
            refine lv_iinc (v := nI (j + 1)) (lv' := [(4, .int (nI (j + 1))), (3, .int (nI j)), (0, .ref h0), (1, .int (nI xx)), (2, .int (nI y))]) hx hb dX0_oldestThatHolds_48 hl (k := 4) rfl (nI_1 _) (by decide) rfl (fun ls hl => ?_)
            refine lv_goto (tgt := 6) hx hb dX0_oldestThatHolds_51 (by decide) ?_
            exact ih_6 (j + 1) (by omega) (by omega) ls (by rw [own_t (hd := fun z => bit (hd z y) xx) nc_2 (Or.inl (oI_none c_3))]; exact (lv_sub hl [2, 3, 4, 1, 0] rfl))
          · skip
            obtain ⟨ow, hsome, how⟩ := oI_some (own_lt _ _ _) c_3
            have hl := hl
            have hl : lv_has ls 5 [(0, .ref h0), (1, .int (nI xx)), (2, .int (nI y)), (3, .int (nI ow)), (4, .int (nI j))] := by have h9 := hl; rw [hsome] at h9; exact h9
            refine lv_aload_n hx hb dX0_oldestThatHolds_35 rfl (lv_at hl 0 rfl) ?_
            refine lv_iload hx hb dX0_oldestThatHolds_36 (lv_at hl 4 rfl) ?_
            refine lv_iload_n hx hb dX0_oldestThatHolds_38 rfl (lv_at hl 3 rfl) ?_
            have hPc := hP.sub (ws' := [(h0, .inr (2, [.ref ap, .ref ay, .int (nI k), .int lo])), (ay, .inl (cI, 6, .inl yr))]) [0, 2] rfl
            refine u_callSi (W.runV (As := [.int (nI j), .int (nI ow)]) (rest := []) ⟨hx, hb, hml, hown, hts⟩ (c_X0_isOlder l D cI cB cZ cP h0 ap ay k j ow lo yr (by first | assumption | omega) (by first | assumption | omega) (by first | assumption | omega) (hyr)) (cwV 2 hts gX0_oldestThatHolds_X0_isOlder rfl rfl rfl (by decide +kernel) ⟨Nat.le_of_ble_eq_true rfl, Nat.le_of_ble_eq_true rfl⟩) (pV (q0 := 0) hPc hW0 trivial rfl rfl) rfl rfl hl.1 rfl (lv_room (Nat.le_of_ble_eq_true rfl)) dX0_oldestThatHolds_39 ⟨Nat.le_of_ble_eq_true rfl, Nat.le_of_ble_eq_true rfl⟩) ?_
            refine lv_if_eq (tgt := 48) hx hb dX0_oldestThatHolds_42 (by decide) (fun c_4 => ?_) (fun c_4 => ?_)
            · skip
              have nc_4 := zb_eq0.mp c_4
              refine lv_iinc (v := nI (j + 1)) (lv' := [(4, .int (nI (j + 1))), (0, .ref h0), (1, .int (nI xx)), (2, .int (nI y)), (3, .int (nI ow))]) hx hb dX0_oldestThatHolds_48 hl (k := 4) rfl (nI_1 _) (by decide) rfl (fun ls hl => ?_)
              refine lv_goto (tgt := 6) hx hb dX0_oldestThatHolds_51 (by decide) ?_
              exact ih_6 (j + 1) (by omega) (by omega) ls (by rw [own_f (hd := fun z => bit (hd z y) xx) (fun q => by rcases q.2 with q2 | ⟨o9, q3, q4⟩; exact c_3 (by rw [q2]; rfl); exact nc_4 ((Option.some.inj (hsome.symm.trans q3)) ▸ q4)), hsome]; exact (lv_sub hl [1, 2, 3, 4, 0] rfl))
            · skip
              have nc_4 := zb_ne0.mp c_4
              refine lv_iload hx hb dX0_oldestThatHolds_45 (lv_at hl 4 rfl) ?_
              refine lv_istore_n (lv' := [(3, .int (nI j)), (0, .ref h0), (1, .int (nI xx)), (2, .int (nI y)), (4, .int (nI j))]) hx hb dX0_oldestThatHolds_47 rfl hl (by decide) rfl (fun ls hl => ?_)
              refine lv_iinc (v := nI (j + 1)) (lv' := [(4, .int (nI (j + 1))), (3, .int (nI j)), (0, .ref h0), (1, .int (nI xx)), (2, .int (nI y))]) hx hb dX0_oldestThatHolds_48 hl (k := 4) rfl (nI_1 _) (by decide) rfl (fun ls hl => ?_)
              refine lv_goto (tgt := 6) hx hb dX0_oldestThatHolds_51 (by decide) ?_
              exact ih_6 (j + 1) (by omega) (by omega) ls (by rw [own_t (hd := fun z => bit (hd z y) xx) nc_2 (Or.inr ⟨ow, hsome, nc_4⟩)]; exact (lv_sub hl [2, 3, 4, 1, 0] rfl))
  exact LOOP_6 (k - 0 + 1) 0 (Nat.zero_le _) (Nat.lt_succ_self _) ls (lv_sub hl [2, 3, 4, 1, 0] rfl)

set_option maxHeartbeats 4000000 in
set_option maxRecDepth 100000 in
theorem c_X0_freeRow (l : Launch) (D : va_G) (cI cB cZ cP : ClassId) (h0 ap ay : Nat) (k : Nat) (lo : Int32) (fp : Nat → Option Nat) (hd : Nat → Nat → Int32) (y : Nat) (hk : k ≤ 6) (hy : y < 32) : Met l yX0_freeRow wsX0_freeRow ({ frames := 3, cells := 0, slots := 0, locals := 65 } : Room) (va_Pc [.ref h0, .int (nI y)] (fun U => va_P D vwCl [(h0, .inr (2, [.ref ap, .ref ay, .int (nI k), .int lo])), (ap, .inl (cP, 6, .inr (.inr (.inr (.inr fp)))))] U.heap ∧ KW D cI cB cZ cP U ∧ (PO D cI fp k hd) U.heap)) (vp_Si (fun r => r = orr (fun _ => True) (fun z => hd z y) k ^^^ (-1))) 0 0 (fun _ => False) := by
  refine Met.ofW (cc := cX0_freeRow) (maxL := 4) (ret := (some .int)) (by decide) rfl ?_
  intro p e s m args below meth c s₁ B hml hv
  obtain ⟨rfl, hP, hW0, hE⟩ := hv
  have hx := B.exec
  have hb := B.bytes
  have hr := B.returns
  have hts := atoms_spec (ws := wsX0_freeRow) B.pre
  have hown : s.vm.findClass RX0 = some m.cls := findClass_of_methodNamed B.named
  have hlocks := B.notSynchronized
  have hK := hW0.1
  have hl := lv_entry ([.ref h0, .int (nI y)]) (n := 4) (Nat.le_of_ble_eq_true rfl)
  rw [lg_entry_eq]
  generalize (lg_sl ([.ref h0, .int (nI y)]) ++ List.replicate (4 - (lg_sl ([.ref h0, .int (nI y)])).length) Slot.unset).toArray = ls at hl ⊢
  have hl : lv_has ls 4 [(0, .ref h0), (1, .int (nI y))] := hl
  show W p l e ({ frames := 3, cells := 0, slots := 0, locals := 65 } : Room) s m ([.ref h0, .int (nI y)] : List Value).toArray below meth c s.heap [] 0 0 _ (F0 m 0 ls [])
  refine u_genQ (fun Q hQ => ?_)
  refine lv_iconst (v := 0) hx hb dX0_freeRow_0 (by decide) ?_
  refine lv_istore_n (lv' := [(2, .int 0), (0, .ref h0), (1, .int (nI y))]) hx hb dX0_freeRow_1 rfl hl (by decide) rfl (fun ls hl => ?_)
  refine lv_iconst (v := 0) hx hb dX0_freeRow_2 (by decide) ?_
  refine lv_istore_n (lv' := [(3, .int 0), (2, .int 0), (0, .ref h0), (1, .int (nI y))]) hx hb dX0_freeRow_3 rfl hl (by decide) rfl (fun ls hl => ?_)
  have LOOP_4 : ∀ (fu : Nat) (j : Nat) (hj : j ≤ k) (hn : k - j < fu) (ls : Array Slot) (hl : lv_has ls 4 [(0, .ref h0), (1, .int (nI y)), (2, .int (orr (fun _ => True) (fun z => hd z y) j)), (3, .int (nI j))]), W p l e ({ frames := 3, cells := 0, slots := 0, locals := 65 } : Room) s m ([.ref h0, .int (nI y)] : List Value).toArray below meth c s.heap [] 0 0 Q (F0 m 4 ls []) := by
    intro fu
    induction fu with
    | zero => intro j hj hn ls hl; exact absurd hn (Nat.not_lt_zero _)
    | succ fu ih_4 =>
      intro j hj hn ls hl
      refine lv_iload_n hx hb dX0_freeRow_4 rfl (lv_at hl 3 rfl) ?_
      refine lv_aload_n hx hb dX0_freeRow_5 rfl (lv_at hl 0 rfl) ?_
      refine va_get (D := D) (ci := 2) (v := .int (nI k)) (C := RX0) (T := TX0) (N := 4) hx hb hts (by decide +kernel) hown hK hP 0 rfl rfl 2 (by decide) (hts (.fieldLink RX0 21 "LandDeeds$Estate" "size" "I") (by decide +kernel)) (fun _ h9 => h9) rfl dX0_freeRow_6 ?_
      refine lv_icmp_ge (tgt := 27) hx hb dX0_freeRow_9 (by decide) (fun c_1 => ?_) (fun c_1 => ?_)
      · skip
        have nc_1 : k ≤ j := (nI_leI (a := k) (b := j) (by omega) (by omega)).mp c_1
        refine lv_iload_n hx hb dX0_freeRow_27 rfl (lv_at hl 2 rfl) ?_
        refine lv_iconst (v := (-1)) hx hb dX0_freeRow_28 (by decide) ?_
        refine lv_ixor hx hb dX0_freeRow_29 ?_
        rw [← hQ]
        exact W.iret (v := (orr (fun _ => True) (fun z => hd z y) j) ^^^ (-1)) hx hb hr (fun t ht hW => ⟨_, rfl, (by rw [show j = k by omega]), ht⟩) (fun q h => absurd h List.not_mem_nil) dX0_freeRow_30
      · skip
        have nc_1 : ¬ (k ≤ j) := fun h => c_1 ((nI_leI (a := k) (b := j) (by omega) (by omega)).mpr h)
        refine lv_iload_n hx hb dX0_freeRow_12 rfl (lv_at hl 2 rfl) ?_
        refine lv_aload_n hx hb dX0_freeRow_13 rfl (lv_at hl 0 rfl) ?_
        refine lv_iload_n hx hb dX0_freeRow_14 rfl (lv_at hl 3 rfl) ?_
        refine lv_iload_n hx hb dX0_freeRow_15 rfl (lv_at hl 1 rfl) ?_
        have hPc := hP.sub (ws' := [(h0, .inr (2, [.ref ap, .ref ay, .int (nI k), .int lo])), (ap, .inl (cP, 6, .inr (.inr (.inr (.inr fp)))))]) [0, 1] rfl
        refine u_callSi (W.runV (As := [.int (nI j), .int (nI y)]) (rest := [.int (orr (fun _ => True) (fun z => hd z y) j)]) ⟨hx, hb, hml, hown, hts⟩ (c_X0_heldRow l D cI cB cZ cP h0 ap ay k lo fp hd j y (by first | assumption | omega) (by first | assumption | omega) (by first | assumption | omega)) (cwV 2 hts gX0_freeRow_X0_heldRow rfl rfl rfl (by decide +kernel) ⟨Nat.le_of_ble_eq_true rfl, Nat.le_of_ble_eq_true rfl⟩) (pV (q0 := 0) hPc hW0 hE rfl rfl) rfl rfl hl.1 rfl (lv_room (Nat.le_of_ble_eq_true rfl)) dX0_freeRow_16 ⟨Nat.le_of_ble_eq_true rfl, Nat.le_of_ble_eq_true rfl⟩) ?_
        refine lv_ior hx hb dX0_freeRow_19 ?_
        refine u_eqi (show (orr (fun _ => True) (fun z => hd z y) j) ||| (hd j y) = orr (fun _ => True) (fun z => hd z y) (j + 1) from (orr_t trivial).symm) ?_
        refine lv_istore_n (lv' := [(2, .int (orr (fun _ => True) (fun z => hd z y) (j + 1))), (0, .ref h0), (1, .int (nI y)), (3, .int (nI j))]) hx hb dX0_freeRow_20 rfl hl (by decide) rfl (fun ls hl => ?_)
        refine lv_iinc (v := nI (j + 1)) (lv' := [(3, .int (nI (j + 1))), (2, .int (orr (fun _ => True) (fun z => hd z y) (j + 1))), (0, .ref h0), (1, .int (nI y))]) hx hb dX0_freeRow_21 hl (k := 3) rfl (nI_1 _) (by decide) rfl (fun ls hl => ?_)
        refine lv_goto (tgt := 4) hx hb dX0_freeRow_24 (by decide) ?_
        exact ih_4 (j + 1) (by omega) (by omega) ls (lv_sub hl [2, 3, 1, 0] rfl)
  exact LOOP_4 (k - 0 + 1) 0 (Nat.zero_le _) (Nat.lt_succ_self _) ls (lv_sub hl [2, 3, 1, 0] rfl)

set_option maxHeartbeats 4000000 in
set_option maxRecDepth 100000 in
theorem c_X0_howManyLost (l : Launch) (D : va_G) (cI cB cZ cP : ClassId) (h0 ap ay : Nat) (k : Nat) (lo : Int32) (fp : Nat → Option Nat) (hd : Nat → Nat → Int32) (yr : Nat → Int32) (o : Nat) (hk : k ≤ 6) (hyr : ∀ z, z < k → 1 ≤ (yr z).toInt ∧ (yr z).toInt ≤ 999) (ho : o < k) : Met l yX0_howManyLost wsX0_howManyLost ({ frames := 3, cells := 0, slots := 0, locals := 65 } : Room) (va_Pc [.ref h0, .int (nI o)] (fun U => va_P D vwCl [(h0, .inr (2, [.ref ap, .ref ay, .int (nI k), .int lo])), (ap, .inl (cP, 6, .inr (.inr (.inr (.inr fp))))), (ay, .inl (cI, 6, .inl yr))] U.heap ∧ KW D cI cB cZ cP U ∧ (PO D cI fp k hd) U.heap)) (vp_Si (fun r => r = nI (cnt2 (fun y x => bit (hd o y) x ∧ bit (orr (fun z => old yr z o) (fun z => hd z y) k) x) 32))) 0 0 (fun _ => False) := by
  refine Met.ofW (cc := cX0_howManyLost) (maxL := 6) (ret := (some .int)) (by decide) rfl ?_
  intro p e s m args below meth c s₁ B hml hv
  obtain ⟨rfl, hP, hW0, hE⟩ := hv
  have hx := B.exec
  have hb := B.bytes
  have hr := B.returns
  have hts := atoms_spec (ws := wsX0_howManyLost) B.pre
  have hown : s.vm.findClass RX0 = some m.cls := findClass_of_methodNamed B.named
  have hlocks := B.notSynchronized
  have hK := hW0.1
  have hl := lv_entry ([.ref h0, .int (nI o)]) (n := 6) (Nat.le_of_ble_eq_true rfl)
  rw [lg_entry_eq]
  generalize (lg_sl ([.ref h0, .int (nI o)]) ++ List.replicate (6 - (lg_sl ([.ref h0, .int (nI o)])).length) Slot.unset).toArray = ls at hl ⊢
  have hl : lv_has ls 6 [(0, .ref h0), (1, .int (nI o))] := hl
  show W p l e ({ frames := 3, cells := 0, slots := 0, locals := 65 } : Room) s m ([.ref h0, .int (nI o)] : List Value).toArray below meth c s.heap [] 0 0 _ (F0 m 0 ls [])
  refine u_genQ (fun Q hQ => ?_)
  refine lv_iconst (v := 0) hx hb dX0_howManyLost_0 (by decide) ?_
  refine lv_istore_n (lv' := [(2, .int 0), (0, .ref h0), (1, .int (nI o))]) hx hb dX0_howManyLost_1 rfl hl (by decide) rfl (fun ls hl => ?_)
  refine lv_iconst (v := 0) hx hb dX0_howManyLost_2 (by decide) ?_
  refine lv_istore_n (lv' := [(3, .int 0), (2, .int 0), (0, .ref h0), (1, .int (nI o))]) hx hb dX0_howManyLost_3 rfl hl (by decide) rfl (fun ls hl => ?_)
  have LOOP_4 : ∀ (fu : Nat) (y : Nat) (hy : y ≤ 32) (hn : 32 - y < fu) (ls : Array Slot) (hl : lv_has ls 6 [(0, .ref h0), (1, .int (nI o)), (2, .int (nI (cnt2 (fun y x => bit (hd o y) x ∧ bit (orr (fun z => old yr z o) (fun z => hd z y) k) x) y))), (3, .int (nI y))]), W p l e ({ frames := 3, cells := 0, slots := 0, locals := 65 } : Room) s m ([.ref h0, .int (nI o)] : List Value).toArray below meth c s.heap [] 0 0 Q (F0 m 4 ls []) := by
    intro fu
    induction fu with
    | zero => intro y hy hn ls hl; exact absurd hn (Nat.not_lt_zero _)
    | succ fu ih_4 =>
      intro y hy hn ls hl
      refine lv_iload_n hx hb dX0_howManyLost_4 rfl (lv_at hl 3 rfl) ?_
      refine lv_bipush (v := 32) hx hb dX0_howManyLost_5 (by decide) ?_
      refine lv_icmp_ge (tgt := 74) hx hb dX0_howManyLost_7 (by decide) (fun c_1 => ?_) (fun c_1 => ?_)
      · skip
        have nc_1 : 32 ≤ y := (nI_leI (a := 32) (b := y) (by omega) (by omega)).mp c_1
        refine lv_iload_n hx hb dX0_howManyLost_74 rfl (lv_at hl 2 rfl) ?_
        rw [← hQ]
        exact W.iret (v := nI (cnt2 (fun y x => bit (hd o y) x ∧ bit (orr (fun z => old yr z o) (fun z => hd z y) k) x) y)) hx hb hr (fun t ht hW => ⟨_, rfl, (by rw [show y = 32 by omega]), ht⟩) (fun q h => absurd h List.not_mem_nil) dX0_howManyLost_75
      · skip
        have nc_1 : ¬ (32 ≤ y) := fun h => c_1 ((nI_leI (a := 32) (b := y) (by omega) (by omega)).mpr h)
        refine lv_iconst (v := 0) hx hb dX0_howManyLost_10 (by decide) ?_
        refine lv_istore (lv' := [(4, .int 0), (0, .ref h0), (1, .int (nI o)), (2, .int (nI (cnt2 (fun y x => bit (hd o y) x ∧ bit (orr (fun z => old yr z o) (fun z => hd z y) k) x) y))), (3, .int (nI y))]) hx hb dX0_howManyLost_11 hl (by decide) rfl (fun ls hl => ?_)
        refine lv_iconst (v := 0) hx hb dX0_howManyLost_13 (by decide) ?_
        refine lv_istore (lv' := [(5, .int 0), (4, .int 0), (0, .ref h0), (1, .int (nI o)), (2, .int (nI (cnt2 (fun y x => bit (hd o y) x ∧ bit (orr (fun z => old yr z o) (fun z => hd z y) k) x) y))), (3, .int (nI y))]) hx hb dX0_howManyLost_14 hl (by decide) rfl (fun ls hl => ?_)
        have LOOP_16 : ∀ (fu : Nat) (j : Nat) (hj : j ≤ k) (hn : k - j < fu) (ls : Array Slot) (hl : lv_has ls 6 [(0, .ref h0), (1, .int (nI o)), (2, .int (nI (cnt2 (fun y x => bit (hd o y) x ∧ bit (orr (fun z => old yr z o) (fun z => hd z y) k) x) y))), (3, .int (nI y)), (4, .int (orr (fun z => old yr z o) (fun z => hd z y) j)), (5, .int (nI j))]), W p l e ({ frames := 3, cells := 0, slots := 0, locals := 65 } : Room) s m ([.ref h0, .int (nI o)] : List Value).toArray below meth c s.heap [] 0 0 Q (F0 m 16 ls []) := by
          intro fu
          induction fu with
          | zero => intro j hj hn ls hl; exact absurd hn (Nat.not_lt_zero _)
          | succ fu ih_16 =>
            intro j hj hn ls hl
            refine lv_iload hx hb dX0_howManyLost_16 (lv_at hl 5 rfl) ?_
            refine lv_aload_n hx hb dX0_howManyLost_18 rfl (lv_at hl 0 rfl) ?_
            refine va_get (D := D) (ci := 2) (v := .int (nI k)) (C := RX0) (T := TX0) (N := 4) hx hb hts (by decide +kernel) hown hK hP 0 rfl rfl 2 (by decide) (hts (.fieldLink RX0 21 "LandDeeds$Estate" "size" "I") (by decide +kernel)) (fun _ h9 => h9) rfl dX0_howManyLost_19 ?_
            refine lv_icmp_ge (tgt := 53) hx hb dX0_howManyLost_22 (by decide) (fun c_2 => ?_) (fun c_2 => ?_)
            · skip
              have nc_2 : k ≤ j := (nI_leI (a := k) (b := j) (by omega) (by omega)).mp c_2
              have hjk : j = k := by omega
              refine lv_iload_n hx hb dX0_howManyLost_53 rfl (lv_at hl 2 rfl) ?_
              refine lv_aload_n hx hb dX0_howManyLost_54 rfl (lv_at hl 0 rfl) ?_
              refine lv_iload_n hx hb dX0_howManyLost_55 rfl (lv_at hl 1 rfl) ?_
              refine lv_iload_n hx hb dX0_howManyLost_56 rfl (lv_at hl 3 rfl) ?_
              have hPc := hP.sub (ws' := [(h0, .inr (2, [.ref ap, .ref ay, .int (nI k), .int lo])), (ap, .inl (cP, 6, .inr (.inr (.inr (.inr fp)))))]) [0, 1] rfl
              refine u_callSi (W.runV (As := [.int (nI o), .int (nI y)]) (rest := [.int (nI (cnt2 (fun y x => bit (hd o y) x ∧ bit (orr (fun z => old yr z o) (fun z => hd z y) k) x) y))]) ⟨hx, hb, hml, hown, hts⟩ (c_X0_heldRow l D cI cB cZ cP h0 ap ay k lo fp hd o y (by first | assumption | omega) (by first | assumption | omega) (by first | assumption | omega)) (cwV 2 hts gX0_howManyLost_X0_heldRow rfl rfl rfl (by decide +kernel) ⟨Nat.le_of_ble_eq_true rfl, Nat.le_of_ble_eq_true rfl⟩) (pV (q0 := 0) hPc hW0 hE rfl rfl) rfl rfl hl.1 rfl (lv_room (Nat.le_of_ble_eq_true rfl)) dX0_howManyLost_57 ⟨Nat.le_of_ble_eq_true rfl, Nat.le_of_ble_eq_true rfl⟩) ?_
              refine lv_iload hx hb dX0_howManyLost_60 (lv_at hl 4 rfl) ?_
              refine lv_iand hx hb dX0_howManyLost_62 ?_
              refine u_eqi (show (hd o y) &&& (orr (fun z => old yr z o) (fun z => hd z y) j) = hd o y &&& orr (fun z => old yr z o) (fun z => hd z y) k from by rw [hjk]) ?_
              have hPc := hP.sub (ws' := []) [] rfl
              refine u_callSi (W.runS (As := [.int (hd o y &&& orr (fun z => old yr z o) (fun z => hd z y) k)]) (rest := [.int (nI (cnt2 (fun y x => bit (hd o y) x ∧ bit (orr (fun z => old yr z o) (fun z => hd z y) k) x) y))]) ⟨hx, hb, hml, hown, hts⟩ (c_J6_bitCount_0f7a4 l D cI cB cZ cP (hd o y &&& orr (fun z => old yr z o) (fun z => hd z y) k) ) (va_cwS 1 hts gX0_howManyLost_J6_bitCount_0f7a4 rfl rfl rfl (by decide +kernel) ⟨Nat.le_of_ble_eq_true rfl, Nat.le_of_ble_eq_true rfl⟩) (pS hPc hW0 trivial) rfl rfl hl.1 rfl (lv_room (Nat.le_of_ble_eq_true rfl)) dX0_howManyLost_63 ⟨Nat.le_of_ble_eq_true rfl, Nat.le_of_ble_eq_true rfl⟩) ?_
              refine lv_iadd hx hb dX0_howManyLost_66 ?_
              refine u_eqi (show (nI (cnt2 (fun y x => bit (hd o y) x ∧ bit (orr (fun z => old yr z o) (fun z => hd z y) k) x) y)) + (nI (cnt (bit (hd o y &&& orr (fun z => old yr z o) (fun z => hd z y) k)) 32)) = nI (cnt2 (fun y x => bit (hd o y) x ∧ bit (orr (fun z => old yr z o) (fun z => hd z y) k) x) (y + 1)) from by rw [nI_add, cnt_congr 32 (fun x hx => bit_and _ _ x hx)]; rfl) ?_
              refine lv_istore_n (lv' := [(2, .int (nI (cnt2 (fun y x => bit (hd o y) x ∧ bit (orr (fun z => old yr z o) (fun z => hd z y) k) x) (y + 1)))), (0, .ref h0), (1, .int (nI o)), (3, .int (nI y)), (4, .int (orr (fun z => old yr z o) (fun z => hd z y) j)), (5, .int (nI j))]) hx hb dX0_howManyLost_67 rfl hl (by decide) rfl (fun ls hl => ?_)
              refine lv_iinc (v := nI (y + 1)) (lv' := [(3, .int (nI (y + 1))), (2, .int (nI (cnt2 (fun y x => bit (hd o y) x ∧ bit (orr (fun z => old yr z o) (fun z => hd z y) k) x) (y + 1)))), (0, .ref h0), (1, .int (nI o)), (4, .int (orr (fun z => old yr z o) (fun z => hd z y) j)), (5, .int (nI j))]) hx hb dX0_howManyLost_68 hl (k := 3) rfl (nI_1 _) (by decide) rfl (fun ls hl => ?_)
              refine lv_goto (tgt := 4) hx hb dX0_howManyLost_71 (by decide) ?_
              exact ih_4 (y + 1) (by omega) (by omega) ls (lv_sub hl [2, 3, 1, 0] rfl)
            · skip
              have nc_2 : ¬ (k ≤ j) := fun h => c_2 ((nI_leI (a := k) (b := j) (by omega) (by omega)).mpr h)
              refine lv_aload_n hx hb dX0_howManyLost_25 rfl (lv_at hl 0 rfl) ?_
              refine lv_iload hx hb dX0_howManyLost_26 (lv_at hl 5 rfl) ?_
              refine lv_iload_n hx hb dX0_howManyLost_28 rfl (lv_at hl 1 rfl) ?_
              have hPc := hP.sub (ws' := [(h0, .inr (2, [.ref ap, .ref ay, .int (nI k), .int lo])), (ay, .inl (cI, 6, .inl yr))]) [0, 2] rfl
              refine u_callSi (W.runV (As := [.int (nI j), .int (nI o)]) (rest := []) ⟨hx, hb, hml, hown, hts⟩ (c_X0_isOlder l D cI cB cZ cP h0 ap ay k j o lo yr (by first | assumption | omega) (by first | assumption | omega) (by first | assumption | omega) (hyr)) (cwV 2 hts gX0_howManyLost_X0_isOlder rfl rfl rfl (by decide +kernel) ⟨Nat.le_of_ble_eq_true rfl, Nat.le_of_ble_eq_true rfl⟩) (pV (q0 := 0) hPc hW0 trivial rfl rfl) rfl rfl hl.1 rfl (lv_room (Nat.le_of_ble_eq_true rfl)) dX0_howManyLost_29 ⟨Nat.le_of_ble_eq_true rfl, Nat.le_of_ble_eq_true rfl⟩) ?_
              refine lv_if_eq (tgt := 47) hx hb dX0_howManyLost_32 (by decide) (fun c_3 => ?_) (fun c_3 => ?_)
              · skip
                have nc_3 := zb_eq0.mp c_3
                refine lv_iinc (v := nI (j + 1)) (lv' := [(5, .int (nI (j + 1))), (0, .ref h0), (1, .int (nI o)), (2, .int (nI (cnt2 (fun y x => bit (hd o y) x ∧ bit (orr (fun z => old yr z o) (fun z => hd z y) k) x) y))), (3, .int (nI y)), (4, .int (orr (fun z => old yr z o) (fun z => hd z y) j))]) hx hb dX0_howManyLost_47 hl (k := 5) rfl (nI_1 _) (by decide) rfl (fun ls hl => ?_)
                refine lv_goto (tgt := 16) hx hb dX0_howManyLost_50 (by decide) ?_
                exact ih_16 (j + 1) (by omega) (by omega) ls (by rw [orr_f (P := fun z => old yr z o) nc_3]; exact (lv_sub hl [1, 2, 3, 4, 5, 0] rfl))
              · skip
                have nc_3 := zb_ne0.mp c_3
                refine lv_iload hx hb dX0_howManyLost_35 (lv_at hl 4 rfl) ?_
                refine lv_aload_n hx hb dX0_howManyLost_37 rfl (lv_at hl 0 rfl) ?_
                refine lv_iload hx hb dX0_howManyLost_38 (lv_at hl 5 rfl) ?_
                refine lv_iload_n hx hb dX0_howManyLost_40 rfl (lv_at hl 3 rfl) ?_
                have hPc := hP.sub (ws' := [(h0, .inr (2, [.ref ap, .ref ay, .int (nI k), .int lo])), (ap, .inl (cP, 6, .inr (.inr (.inr (.inr fp)))))]) [0, 1] rfl
                refine u_callSi (W.runV (As := [.int (nI j), .int (nI y)]) (rest := [.int (orr (fun z => old yr z o) (fun z => hd z y) j)]) ⟨hx, hb, hml, hown, hts⟩ (c_X0_heldRow l D cI cB cZ cP h0 ap ay k lo fp hd j y (by first | assumption | omega) (by first | assumption | omega) (by first | assumption | omega)) (cwV 2 hts gX0_howManyLost_X0_heldRow rfl rfl rfl (by decide +kernel) ⟨Nat.le_of_ble_eq_true rfl, Nat.le_of_ble_eq_true rfl⟩) (pV (q0 := 0) hPc hW0 hE rfl rfl) rfl rfl hl.1 rfl (lv_room (Nat.le_of_ble_eq_true rfl)) dX0_howManyLost_41 ⟨Nat.le_of_ble_eq_true rfl, Nat.le_of_ble_eq_true rfl⟩) ?_
                refine lv_ior hx hb dX0_howManyLost_44 ?_
                refine lv_istore (lv' := [(4, .int ((orr (fun z => old yr z o) (fun z => hd z y) j) ||| (hd j y))), (0, .ref h0), (1, .int (nI o)), (2, .int (nI (cnt2 (fun y x => bit (hd o y) x ∧ bit (orr (fun z => old yr z o) (fun z => hd z y) k) x) y))), (3, .int (nI y)), (5, .int (nI j))]) hx hb dX0_howManyLost_45 hl (by decide) rfl (fun ls hl => ?_)
                refine lv_iinc (v := nI (j + 1)) (lv' := [(5, .int (nI (j + 1))), (4, .int ((orr (fun z => old yr z o) (fun z => hd z y) j) ||| (hd j y))), (0, .ref h0), (1, .int (nI o)), (2, .int (nI (cnt2 (fun y x => bit (hd o y) x ∧ bit (orr (fun z => old yr z o) (fun z => hd z y) k) x) y))), (3, .int (nI y))]) hx hb dX0_howManyLost_47 hl (k := 5) rfl (nI_1 _) (by decide) rfl (fun ls hl => ?_)
                refine lv_goto (tgt := 16) hx hb dX0_howManyLost_50 (by decide) ?_
                exact ih_16 (j + 1) (by omega) (by omega) ls (by rw [orr_t (P := fun z => old yr z o) nc_3]; exact (lv_sub hl [2, 3, 4, 5, 1, 0] rfl))
        exact LOOP_16 (k - 0 + 1) 0 (Nat.zero_le _) (Nat.lt_succ_self _) ls (lv_sub hl [2, 3, 4, 5, 1, 0] rfl)
  exact LOOP_4 (32 - 0 + 1) 0 (Nat.zero_le _) (Nat.lt_succ_self _) ls (lv_sub hl [2, 3, 1, 0] rfl)

set_option maxHeartbeats 4000000 in
set_option maxRecDepth 100000 in
theorem c_X0_howManyDisputed (l : Launch) (D : va_G) (cI cB cZ cP : ClassId) (h0 ap ay : Nat) (k : Nat) (lo : Int32) (fp : Nat → Option Nat) (hd : Nat → Nat → Int32) (hk : k ≤ 6) : Met l yX0_howManyDisputed wsX0_howManyDisputed ({ frames := 3, cells := 0, slots := 0, locals := 65 } : Room) (va_Pc [.ref h0] (fun U => va_P D vwCl [(h0, .inr (2, [.ref ap, .ref ay, .int (nI k), .int lo])), (ap, .inl (cP, 6, .inr (.inr (.inr (.inr fp)))))] U.heap ∧ KW D cI cB cZ cP U ∧ (PO D cI fp k hd) U.heap)) (vp_Si (fun r => r = nI (cnt2 (fun y x => bit (ags (fun z => hd z y) k) x) 32))) 0 0 (fun _ => False) := by
  refine Met.ofW (cc := cX0_howManyDisputed) (maxL := 7) (ret := (some .int)) (by decide) rfl ?_
  intro p e s m args below meth c s₁ B hml hv
  obtain ⟨rfl, hP, hW0, hE⟩ := hv
  have hx := B.exec
  have hb := B.bytes
  have hr := B.returns
  have hts := atoms_spec (ws := wsX0_howManyDisputed) B.pre
  have hown : s.vm.findClass RX0 = some m.cls := findClass_of_methodNamed B.named
  have hlocks := B.notSynchronized
  have hK := hW0.1
  have hl := lv_entry ([.ref h0]) (n := 7) (Nat.le_of_ble_eq_true rfl)
  rw [lg_entry_eq]
  generalize (lg_sl ([.ref h0]) ++ List.replicate (7 - (lg_sl ([.ref h0])).length) Slot.unset).toArray = ls at hl ⊢
  have hl : lv_has ls 7 [(0, .ref h0)] := hl
  show W p l e ({ frames := 3, cells := 0, slots := 0, locals := 65 } : Room) s m ([.ref h0] : List Value).toArray below meth c s.heap [] 0 0 _ (F0 m 0 ls [])
  refine u_genQ (fun Q hQ => ?_)
  refine lv_iconst (v := 0) hx hb dX0_howManyDisputed_0 (by decide) ?_
  refine lv_istore_n (lv' := [(1, .int 0), (0, .ref h0)]) hx hb dX0_howManyDisputed_1 rfl hl (by decide) rfl (fun ls hl => ?_)
  refine lv_iconst (v := 0) hx hb dX0_howManyDisputed_2 (by decide) ?_
  refine lv_istore_n (lv' := [(2, .int 0), (1, .int 0), (0, .ref h0)]) hx hb dX0_howManyDisputed_3 rfl hl (by decide) rfl (fun ls hl => ?_)
  have LOOP_4 : ∀ (fu : Nat) (y : Nat) (hy : y ≤ 32) (hn : 32 - y < fu) (ls : Array Slot) (hl : lv_has ls 7 [(0, .ref h0), (1, .int (nI (cnt2 (fun y x => bit (ags (fun z => hd z y) k) x) y))), (2, .int (nI y))]), W p l e ({ frames := 3, cells := 0, slots := 0, locals := 65 } : Room) s m ([.ref h0] : List Value).toArray below meth c s.heap [] 0 0 Q (F0 m 4 ls []) := by
    intro fu
    induction fu with
    | zero => intro y hy hn ls hl; exact absurd hn (Nat.not_lt_zero _)
    | succ fu ih_4 =>
      intro y hy hn ls hl
      refine lv_iload_n hx hb dX0_howManyDisputed_4 rfl (lv_at hl 2 rfl) ?_
      refine lv_bipush (v := 32) hx hb dX0_howManyDisputed_5 (by decide) ?_
      refine lv_icmp_ge (tgt := 70) hx hb dX0_howManyDisputed_7 (by decide) (fun c_1 => ?_) (fun c_1 => ?_)
      · skip
        have nc_1 : 32 ≤ y := (nI_leI (a := 32) (b := y) (by omega) (by omega)).mp c_1
        refine lv_iload_n hx hb dX0_howManyDisputed_70 rfl (lv_at hl 1 rfl) ?_
        rw [← hQ]
        exact W.iret (v := nI (cnt2 (fun y x => bit (ags (fun z => hd z y) k) x) y)) hx hb hr (fun t ht hW => ⟨_, rfl, (by rw [show y = 32 by omega]), ht⟩) (fun q h => absurd h List.not_mem_nil) dX0_howManyDisputed_71
      · skip
        have nc_1 : ¬ (32 ≤ y) := fun h => c_1 ((nI_leI (a := 32) (b := y) (by omega) (by omega)).mpr h)
        refine lv_iconst (v := 0) hx hb dX0_howManyDisputed_10 (by decide) ?_
        refine lv_istore_n (lv' := [(3, .int 0), (0, .ref h0), (1, .int (nI (cnt2 (fun y x => bit (ags (fun z => hd z y) k) x) y))), (2, .int (nI y))]) hx hb dX0_howManyDisputed_11 rfl hl (by decide) rfl (fun ls hl => ?_)
        refine lv_iconst (v := 0) hx hb dX0_howManyDisputed_12 (by decide) ?_
        refine lv_istore (lv' := [(4, .int 0), (3, .int 0), (0, .ref h0), (1, .int (nI (cnt2 (fun y x => bit (ags (fun z => hd z y) k) x) y))), (2, .int (nI y))]) hx hb dX0_howManyDisputed_13 hl (by decide) rfl (fun ls hl => ?_)
        refine lv_iconst (v := 0) hx hb dX0_howManyDisputed_15 (by decide) ?_
        refine lv_istore (lv' := [(5, .int 0), (4, .int 0), (3, .int 0), (0, .ref h0), (1, .int (nI (cnt2 (fun y x => bit (ags (fun z => hd z y) k) x) y))), (2, .int (nI y))]) hx hb dX0_howManyDisputed_16 hl (by decide) rfl (fun ls hl => ?_)
        have LOOP_18 : ∀ (fu : Nat) (j : Nat) (hj : j ≤ k) (hn : k - j < fu) (ls : Array Slot) (hl : lv_has ls 7 [(0, .ref h0), (1, .int (nI (cnt2 (fun y x => bit (ags (fun z => hd z y) k) x) y))), (2, .int (nI y)), (3, .int (orr (fun _ => True) (fun z => hd z y) j)), (4, .int (ags (fun z => hd z y) j)), (5, .int (nI j))]), W p l e ({ frames := 3, cells := 0, slots := 0, locals := 65 } : Room) s m ([.ref h0] : List Value).toArray below meth c s.heap [] 0 0 Q (F0 m 18 ls []) := by
          intro fu
          induction fu with
          | zero => intro j hj hn ls hl; exact absurd hn (Nat.not_lt_zero _)
          | succ fu ih_18 =>
            intro j hj hn ls hl
            refine lv_iload hx hb dX0_howManyDisputed_18 (lv_at hl 5 rfl) ?_
            refine lv_aload_n hx hb dX0_howManyDisputed_20 rfl (lv_at hl 0 rfl) ?_
            refine va_get (D := D) (ci := 2) (v := .int (nI k)) (C := RX0) (T := TX0) (N := 4) hx hb hts (by decide +kernel) hown hK hP 0 rfl rfl 2 (by decide) (hts (.fieldLink RX0 21 "LandDeeds$Estate" "size" "I") (by decide +kernel)) (fun _ h9 => h9) rfl dX0_howManyDisputed_21 ?_
            refine lv_icmp_ge (tgt := 56) hx hb dX0_howManyDisputed_24 (by decide) (fun c_2 => ?_) (fun c_2 => ?_)
            · skip
              have nc_2 : k ≤ j := (nI_leI (a := k) (b := j) (by omega) (by omega)).mp c_2
              have hjk : j = k := by omega
              refine lv_iload_n hx hb dX0_howManyDisputed_56 rfl (lv_at hl 1 rfl) ?_
              refine lv_iload hx hb dX0_howManyDisputed_57 (lv_at hl 4 rfl) ?_
              have hPc := hP.sub (ws' := []) [] rfl
              refine u_callSi (W.runS (As := [.int (ags (fun z => hd z y) j)]) (rest := [.int (nI (cnt2 (fun y x => bit (ags (fun z => hd z y) k) x) y))]) ⟨hx, hb, hml, hown, hts⟩ (c_J6_bitCount_0f7a4 l D cI cB cZ cP (ags (fun z => hd z y) j) ) (va_cwS 1 hts gX0_howManyDisputed_J6_bitCount_0f7a4 rfl rfl rfl (by decide +kernel) ⟨Nat.le_of_ble_eq_true rfl, Nat.le_of_ble_eq_true rfl⟩) (pS hPc hW0 trivial) rfl rfl hl.1 rfl (lv_room (Nat.le_of_ble_eq_true rfl)) dX0_howManyDisputed_59 ⟨Nat.le_of_ble_eq_true rfl, Nat.le_of_ble_eq_true rfl⟩) ?_
              refine lv_iadd hx hb dX0_howManyDisputed_62 ?_
              refine u_eqi (show (nI (cnt2 (fun y x => bit (ags (fun z => hd z y) k) x) y)) + (nI (cnt (bit (ags (fun z => hd z y) j)) 32)) = nI (cnt2 (fun y x => bit (ags (fun z => hd z y) k) x) (y + 1)) from by rw [hjk, nI_add]; rfl) ?_
              refine lv_istore_n (lv' := [(1, .int (nI (cnt2 (fun y x => bit (ags (fun z => hd z y) k) x) (y + 1)))), (0, .ref h0), (2, .int (nI y)), (3, .int (orr (fun _ => True) (fun z => hd z y) j)), (4, .int (ags (fun z => hd z y) j)), (5, .int (nI j))]) hx hb dX0_howManyDisputed_63 rfl hl (by decide) rfl (fun ls hl => ?_)
              refine lv_iinc (v := nI (y + 1)) (lv' := [(2, .int (nI (y + 1))), (1, .int (nI (cnt2 (fun y x => bit (ags (fun z => hd z y) k) x) (y + 1)))), (0, .ref h0), (3, .int (orr (fun _ => True) (fun z => hd z y) j)), (4, .int (ags (fun z => hd z y) j)), (5, .int (nI j))]) hx hb dX0_howManyDisputed_64 hl (k := 2) rfl (nI_1 _) (by decide) rfl (fun ls hl => ?_)
              refine lv_goto (tgt := 4) hx hb dX0_howManyDisputed_67 (by decide) ?_
              exact ih_4 (y + 1) (by omega) (by omega) ls (lv_sub hl [2, 1, 0] rfl)
            · skip
              have nc_2 : ¬ (k ≤ j) := fun h => c_2 ((nI_leI (a := k) (b := j) (by omega) (by omega)).mpr h)
              refine lv_aload_n hx hb dX0_howManyDisputed_27 rfl (lv_at hl 0 rfl) ?_
              refine lv_iload hx hb dX0_howManyDisputed_28 (lv_at hl 5 rfl) ?_
              refine lv_iload_n hx hb dX0_howManyDisputed_30 rfl (lv_at hl 2 rfl) ?_
              have hPc := hP.sub (ws' := [(h0, .inr (2, [.ref ap, .ref ay, .int (nI k), .int lo])), (ap, .inl (cP, 6, .inr (.inr (.inr (.inr fp)))))]) [0, 1] rfl
              refine u_callSi (W.runV (As := [.int (nI j), .int (nI y)]) (rest := []) ⟨hx, hb, hml, hown, hts⟩ (c_X0_heldRow l D cI cB cZ cP h0 ap ay k lo fp hd j y (by first | assumption | omega) (by first | assumption | omega) (by first | assumption | omega)) (cwV 2 hts gX0_howManyDisputed_X0_heldRow rfl rfl rfl (by decide +kernel) ⟨Nat.le_of_ble_eq_true rfl, Nat.le_of_ble_eq_true rfl⟩) (pV (q0 := 0) hPc hW0 hE rfl rfl) rfl rfl hl.1 rfl (lv_room (Nat.le_of_ble_eq_true rfl)) dX0_howManyDisputed_31 ⟨Nat.le_of_ble_eq_true rfl, Nat.le_of_ble_eq_true rfl⟩) ?_
              refine lv_istore (lv' := [(6, .int (hd j y)), (0, .ref h0), (1, .int (nI (cnt2 (fun y x => bit (ags (fun z => hd z y) k) x) y))), (2, .int (nI y)), (3, .int (orr (fun _ => True) (fun z => hd z y) j)), (4, .int (ags (fun z => hd z y) j)), (5, .int (nI j))]) hx hb dX0_howManyDisputed_34 hl (by decide) rfl (fun ls hl => ?_)
              refine lv_iload hx hb dX0_howManyDisputed_36 (lv_at hl 5 rfl) ?_
              refine lv_iload_n hx hb dX0_howManyDisputed_38 rfl (lv_at hl 4 rfl) ?_
              refine lv_iload hx hb dX0_howManyDisputed_39 (lv_at hl 0 rfl) ?_
              refine lv_iand hx hb dX0_howManyDisputed_41 ?_
              refine lv_ior hx hb dX0_howManyDisputed_42 ?_
              refine u_eqi (show (ags (fun z => hd z y) j) ||| ((orr (fun _ => True) (fun z => hd z y) j) &&& (hd j y)) = ags (fun z => hd z y) (j + 1) from rfl) ?_
              refine lv_istore (lv' := [(4, .int (ags (fun z => hd z y) (j + 1))), (6, .int (hd j y)), (0, .ref h0), (1, .int (nI (cnt2 (fun y x => bit (ags (fun z => hd z y) k) x) y))), (2, .int (nI y)), (3, .int (orr (fun _ => True) (fun z => hd z y) j)), (5, .int (nI j))]) hx hb dX0_howManyDisputed_43 hl (by decide) rfl (fun ls hl => ?_)
              refine lv_iload_n hx hb dX0_howManyDisputed_45 rfl (lv_at hl 5 rfl) ?_
              refine lv_iload hx hb dX0_howManyDisputed_46 (lv_at hl 1 rfl) ?_
              refine lv_ior hx hb dX0_howManyDisputed_48 ?_
              refine u_eqi (show (orr (fun _ => True) (fun z => hd z y) j) ||| (hd j y) = orr (fun _ => True) (fun z => hd z y) (j + 1) from (orr_t trivial).symm) ?_
              refine lv_istore_n (lv' := [(3, .int (orr (fun _ => True) (fun z => hd z y) (j + 1))), (4, .int (ags (fun z => hd z y) (j + 1))), (6, .int (hd j y)), (0, .ref h0), (1, .int (nI (cnt2 (fun y x => bit (ags (fun z => hd z y) k) x) y))), (2, .int (nI y)), (5, .int (nI j))]) hx hb dX0_howManyDisputed_49 rfl hl (by decide) rfl (fun ls hl => ?_)
              refine lv_iinc (v := nI (j + 1)) (lv' := [(5, .int (nI (j + 1))), (3, .int (orr (fun _ => True) (fun z => hd z y) (j + 1))), (4, .int (ags (fun z => hd z y) (j + 1))), (6, .int (hd j y)), (0, .ref h0), (1, .int (nI (cnt2 (fun y x => bit (ags (fun z => hd z y) k) x) y))), (2, .int (nI y))]) hx hb dX0_howManyDisputed_50 hl (k := 6) rfl (nI_1 _) (by decide) rfl (fun ls hl => ?_)
              refine lv_goto (tgt := 18) hx hb dX0_howManyDisputed_53 (by decide) ?_
              exact ih_18 (j + 1) (by omega) (by omega) ls (lv_sub hl [4, 5, 6, 1, 2, 0] rfl)
        exact LOOP_18 (k - 0 + 1) 0 (Nat.zero_le _) (Nat.lt_succ_self _) ls (lv_sub hl [3, 4, 5, 2, 1, 0] rfl)
  exact LOOP_4 (32 - 0 + 1) 0 (Nat.zero_le _) (Nat.lt_succ_self _) ls (lv_sub hl [2, 1, 0] rfl)

