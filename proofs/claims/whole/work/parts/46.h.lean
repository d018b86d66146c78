set_option maxHeartbeats 4000000 in
set_option maxRecDepth 100000 in
theorem c_X1_markPostsOn (l : Launch) (D : va_G) (cI cB cZ cP : ClassId) (sz : Nat) (h0 ax ay nn : Nat) (X Y : Nat → Int32) (k ar : Nat) (fr : Nat → Int32) (hn8 : nn ≤ 8) (hk : k < nn) (hpk : isP (X k) (Y k)) (hpn : isP (X (nxt nn k)) (Y (nxt nn k))) : Met l yX1_markPostsOn wsX1_markPostsOn ({ frames := 2, cells := 0, slots := 0, locals := 41 } : Room) (va_Pc [.ref h0, .int (nI k), .ref ar] (fun U => U.heap.size = sz ∧ va_P D vwCl [(h0, .inr (3, [.ref ax, .ref ay, .int (nI nn)])), (ax, .inl (cI, nn, .inl X)), (ay, .inl (cI, nn, .inl Y)), (ar, .inl (cI, 32, .inl fr))] U.heap ∧ KW D cI cB cZ cP U ∧ va_D (fun _ => True) [(h0, .inr (3, [.ref ax, .ref ay, .int (nI nn)])), (ax, .inl (cI, nn, .inl X)), (ay, .inl (cI, nn, .inl Y)), (ar, .inl (cI, 32, .inl fr))] ∧ EF [(h0, .inr (3, [.ref ax, .ref ay, .int (nI nn)])), (ax, .inl (cI, nn, .inl X)), (ay, .inl (cI, nn, .inl Y)), (ar, .inl (cI, 32, .inl fr))] sz E0 U.heap)) (va_Qv (fun (g : Nat → Int32) => ∀ y, y < 32 → ∀ x, x < 32 → (bit (g y) x ↔ bit (fr y) x ∨ ∃ z, z < mkg nn X Y k ∧ mkx nn X Y k z = nI x ∧ mky nn X Y k z = nI y)) (fun (g : Nat → Int32) (t : State) => va_P D vwCl [(h0, .inr (3, [.ref ax, .ref ay, .int (nI nn)])), (ax, .inl (cI, nn, .inl X)), (ay, .inl (cI, nn, .inl Y)), (ar, .inl (cI, 32, .inl g))] t.heap ∧ va_D (va_A [(h0, .inr (3, [.ref ax, .ref ay, .int (nI nn)])), (ax, .inl (cI, nn, .inl X)), (ay, .inl (cI, nn, .inl Y)), (ar, .inl (cI, 32, .inl fr))] sz) [(h0, .inr (3, [.ref ax, .ref ay, .int (nI nn)])), (ax, .inl (cI, nn, .inl X)), (ay, .inl (cI, nn, .inl Y)), (ar, .inl (cI, 32, .inl g))]) (va_A [(h0, .inr (3, [.ref ax, .ref ay, .int (nI nn)])), (ax, .inl (cI, nn, .inl X)), (ay, .inl (cI, nn, .inl Y)), (ar, .inl (cI, 32, .inl fr))] sz)) 0 0 (va_A [(h0, .inr (3, [.ref ax, .ref ay, .int (nI nn)])), (ax, .inl (cI, nn, .inl X)), (ay, .inl (cI, nn, .inl Y)), (ar, .inl (cI, 32, .inl fr))] sz) := by
  refine Met.ofW (cc := cX1_markPostsOn) (maxL := 10) (ret := none) (by decide) rfl ?_
  intro p e s m args below meth c s₁ B hml hv
  obtain ⟨rfl, hsz, hP, hW0, hD0, hE⟩ := hv
  have hx := B.exec
  have hb := B.bytes
  have hr := B.returns
  have hts := atoms_spec (ws := wsX1_markPostsOn) B.pre
  have hown : s.vm.findClass RX1 = some m.cls := findClass_of_methodNamed B.named
  have hlocks := B.notSynchronized
  have hK := hW0.1
  subst hsz
  have hD := hD0.self (sz := s.heap.size)
  unfold EF at hE
  generalize hAe : va_A [(h0, .inr (3, [.ref ax, .ref ay, .int (nI nn)])), (ax, .inl (cI, nn, .inl X)), (ay, .inl (cI, nn, .inl Y)), (ar, .inl (cI, 32, .inl fr))] s.heap.size = A at hD hE ⊢
  have hA : ∀ q : Nat, s.heap.size ≤ q → A q := fun q h => by rw [← hAe]; exact Or.inr h
  have hS : va_S A s.heap s.heap [] := va_S.rf
  have hl := lv_entry ([.ref h0, .int (nI k), .ref ar]) (n := 10) (Nat.le_of_ble_eq_true rfl)
  rw [lg_entry_eq]
  generalize (lg_sl ([.ref h0, .int (nI k), .ref ar]) ++ List.replicate (10 - (lg_sl ([.ref h0, .int (nI k), .ref ar])).length) Slot.unset).toArray = ls at hl ⊢
  have hl : lv_has ls 10 [(0, .ref h0), (1, .int (nI k)), (2, .ref ar)] := hl
  show W p l e ({ frames := 2, cells := 0, slots := 0, locals := 41 } : Room) s m ([.ref h0, .int (nI k), .ref ar] : List Value).toArray below meth c s.heap [] 0 0 _ (F0 m 0 ls [])
  refine u_genQ (fun Q hQ => ?_)
  have hnx := nxt_lt hk
  have hzb := mkg_b hpk hpn
  refine lv_aload_n hx hb dX1_markPostsOn_0 rfl (lv_at hl 0 rfl) ?_
  refine lv_iload_n hx hb dX1_markPostsOn_1 rfl (lv_at hl 1 rfl) ?_
  have hPc := hP.sub (ws' := [(h0, .inr (3, [.ref ax, .ref ay, .int (nI nn)]))]) [0] rfl
  refine u_callSi (W.runV (As := [.int (nI k)]) (rest := []) ⟨hx, hb, hml, hown, hts⟩ (c_X1_next l D cI cB cZ cP h0 ax ay nn k (by first | assumption | omega) (by first | assumption | omega)) (cwV 1 hts gX1_markPostsOn_X1_next rfl rfl rfl (by decide +kernel) ⟨Nat.le_of_ble_eq_true rfl, Nat.le_of_ble_eq_true rfl⟩) (pV (q0 := 0) hPc hW0 trivial rfl rfl) rfl rfl hl.1 rfl (lv_room (Nat.le_of_ble_eq_true rfl)) dX1_markPostsOn_2 ⟨Nat.le_of_ble_eq_true rfl, Nat.le_of_ble_eq_true rfl⟩) ?_
  refine lv_istore_n (lv' := [(3, .int (nI (nxt nn k))), (0, .ref h0), (1, .int (nI k)), (2, .ref ar)]) hx hb dX1_markPostsOn_5 rfl hl (by decide) rfl (fun ls hl => ?_)
  refine lv_aload_n hx hb dX1_markPostsOn_6 rfl (lv_at hl 1 rfl) ?_
  refine va_get (D := D) (ci := 3) (v := .ref ax) (C := RX1) (T := TX1) (N := 3) hx hb hts (by decide +kernel) hown hK hP 0 rfl rfl 0 (by decide) (hts (.fieldLink RX1 7 "LandDeeds$Outline" "xs" "[I") (by decide +kernel)) (fun _ h9 => h9) rfl dX1_markPostsOn_7 ?_
  refine lv_iload_n hx hb dX1_markPostsOn_10 rfl (lv_at hl 0 rfl) ?_
  refine u_iald hx hb hK hP 1 0 rfl rfl rfl ⟨by omega, by omega⟩ dX1_markPostsOn_11 ?_
  refine lv_aload_n hx hb dX1_markPostsOn_12 rfl (lv_at hl 1 rfl) ?_
  refine va_get (D := D) (ci := 3) (v := .ref ax) (C := RX1) (T := TX1) (N := 3) hx hb hts (by decide +kernel) hown hK hP 0 rfl rfl 0 (by decide) (hts (.fieldLink RX1 7 "LandDeeds$Outline" "xs" "[I") (by decide +kernel)) (fun _ h9 => h9) rfl dX1_markPostsOn_13 ?_
  refine lv_iload_n hx hb dX1_markPostsOn_16 rfl (lv_at hl 2 rfl) ?_
  refine u_iald hx hb hK hP 1 0 rfl rfl rfl ⟨by omega, by omega⟩ dX1_markPostsOn_17 ?_
  refine lv_isub hx hb dX1_markPostsOn_18 ?_
  refine lv_istore (lv' := [(4, .int ((X (nxt nn k)) - (X k))), (3, .int (nI (nxt nn k))), (0, .ref h0), (1, .int (nI k)), (2, .ref ar)]) hx hb dX1_markPostsOn_19 hl (by decide) rfl (fun ls hl => ?_)
  refine lv_aload_n hx hb dX1_markPostsOn_21 rfl (lv_at hl 2 rfl) ?_
  refine va_get (D := D) (ci := 3) (v := .ref ay) (C := RX1) (T := TX1) (N := 3) hx hb hts (by decide +kernel) hown hK hP 0 rfl rfl 1 (by decide) (hts (.fieldLink RX1 13 "LandDeeds$Outline" "ys" "[I") (by decide +kernel)) (fun _ h9 => h9) rfl dX1_markPostsOn_22 ?_
  refine lv_iload_n hx hb dX1_markPostsOn_25 rfl (lv_at hl 1 rfl) ?_
  refine u_iald hx hb hK hP 2 0 rfl rfl rfl ⟨by omega, by omega⟩ dX1_markPostsOn_26 ?_
  refine lv_aload_n hx hb dX1_markPostsOn_27 rfl (lv_at hl 2 rfl) ?_
  refine va_get (D := D) (ci := 3) (v := .ref ay) (C := RX1) (T := TX1) (N := 3) hx hb hts (by decide +kernel) hown hK hP 0 rfl rfl 1 (by decide) (hts (.fieldLink RX1 13 "LandDeeds$Outline" "ys" "[I") (by decide +kernel)) (fun _ h9 => h9) rfl dX1_markPostsOn_28 ?_
  refine lv_iload_n hx hb dX1_markPostsOn_31 rfl (lv_at hl 3 rfl) ?_
  refine u_iald hx hb hK hP 2 0 rfl rfl rfl ⟨by omega, by omega⟩ dX1_markPostsOn_32 ?_
  refine lv_isub hx hb dX1_markPostsOn_33 ?_
  refine lv_istore (lv' := [(5, .int ((Y (nxt nn k)) - (Y k))), (4, .int ((X (nxt nn k)) - (X k))), (3, .int (nI (nxt nn k))), (0, .ref h0), (1, .int (nI k)), (2, .ref ar)]) hx hb dX1_markPostsOn_34 hl (by decide) rfl (fun ls hl => ?_)
  refine lv_iload hx hb dX1_markPostsOn_36 (lv_at hl 1 rfl) ?_
  refine va_mabs hx hb (by rw [hml]; exact hl.1.symm) hown (hts (.methodLink RX1 60 Lib.Math.abs.name) (by decide +kernel)) (hts (.static Lib.Math.abs.name) (by decide +kernel)) (hts (.initialized "java/lang/Math") (by decide +kernel)) (hts (.code Lib.Math.abs.name Lib.Math.abs.code 1 (some .int)) (by decide +kernel)) (Nat.le_of_ble_eq_true rfl) (Nat.le_of_ble_eq_true rfl) (Nat.zero_le _) (Nat.zero_le _) dX1_markPostsOn_38 ?_
  refine lv_i2l hx hb dX1_markPostsOn_41 rfl ?_
  refine u_eql (show (ab ((X (nxt nn k)) - (X k))).toInt64 = lN (mka (X (nxt nn k) - X k)) from ab_l hpn.1 hpn.2.1 hpk.1 hpk.2.1) ?_
  refine lv_iload hx hb dX1_markPostsOn_42 (lv_at hl 0 rfl) ?_
  refine va_mabs hx hb (by rw [hml]; exact hl.1.symm) hown (hts (.methodLink RX1 60 Lib.Math.abs.name) (by decide +kernel)) (hts (.static Lib.Math.abs.name) (by decide +kernel)) (hts (.initialized "java/lang/Math") (by decide +kernel)) (hts (.code Lib.Math.abs.name Lib.Math.abs.code 1 (some .int)) (by decide +kernel)) (Nat.le_of_ble_eq_true rfl) (Nat.le_of_ble_eq_true rfl) (Nat.zero_le _) (Nat.zero_le _) dX1_markPostsOn_44 ?_
  refine lv_i2l hx hb dX1_markPostsOn_47 rfl ?_
  refine u_eql (show (ab ((Y (nxt nn k)) - (Y k))).toInt64 = lN (mka (Y (nxt nn k) - Y k)) from ab_l hpn.2.2.1 hpn.2.2.2 hpk.2.2.1 hpk.2.2.2) ?_
  have hPc := hP.sub (ws' := []) [] rfl
  refine u_callSl (va_runSN (As := [.long (lN (mka (X (nxt nn k) - X k))), .long (lN (mka (Y (nxt nn k) - Y k)))]) (rest := []) ⟨hx, hb, hml, hown, hts⟩ (c_X6_greatestDivisor l D cI cB cZ cP (mka (X (nxt nn k) - X k)) (mka (Y (nxt nn k) - Y k)) (mka_b hpn.1 hpn.2.1 hpk.1 hpk.2.1 (by decide)) (mka_b hpn.2.2.1 hpn.2.2.2 hpk.2.2.1 hpk.2.2.2 (by decide))) ⟨va_cnB 2 hts gX1_markPostsOn_X6_greatestDivisor_n63 rfl rfl rfl (hW0.n_RX1_63) (hts (.initialized RX6) (by decide +kernel)) (by decide +kernel) ⟨Nat.le_of_ble_eq_true rfl, Nat.le_of_ble_eq_true rfl⟩, (hts (.static yX6_greatestDivisor) (by decide +kernel)), trivial⟩ (pS hPc hW0 trivial) rfl rfl hl.1 rfl (lv_room (Nat.le_of_ble_eq_true rfl)) dX1_markPostsOn_48 ⟨Nat.le_of_ble_eq_true rfl, Nat.le_of_ble_eq_true rfl⟩).run ?_
  refine lv_l2i hx hb dX1_markPostsOn_51 rfl ?_
  refine u_eqi (show (lN (Nat.gcd (mka (X (nxt nn k) - X k)) (mka (Y (nxt nn k) - Y k)))).toInt32 = nI (mkg nn X Y k) from lN_i _) ?_
  refine lv_istore (lv' := [(6, .int (nI (mkg nn X Y k))), (5, .int ((Y (nxt nn k)) - (Y k))), (4, .int ((X (nxt nn k)) - (X k))), (3, .int (nI (nxt nn k))), (0, .ref h0), (1, .int (nI k)), (2, .ref ar)]) hx hb dX1_markPostsOn_52 hl (by decide) rfl (fun ls hl => ?_)
  refine lv_iconst (v := 0) hx hb dX1_markPostsOn_54 (by decide) ?_
  refine lv_istore (lv' := [(7, .int 0), (6, .int (nI (mkg nn X Y k))), (5, .int ((Y (nxt nn k)) - (Y k))), (4, .int ((X (nxt nn k)) - (X k))), (3, .int (nI (nxt nn k))), (0, .ref h0), (1, .int (nI k)), (2, .ref ar)]) hx hb dX1_markPostsOn_55 hl (by decide) rfl (fun ls hl => ?_)
  have LOOP_57 : ∀ (fu : Nat) (z : Nat) (g : Nat → Int32) (hz : z ≤ mkg nn X Y k) (hg : ∀ y, y < 32 → ∀ x, x < 32 → (bit (g y) x ↔ bit (fr y) x ∨ ∃ w, w < z ∧ mkx nn X Y k w = nI x ∧ mky nn X Y k w = nI y)) (hn : mkg nn X Y k - z < fu) (H : Heap) (locs : List Loc) (hP : va_P D vwCl [(h0, .inr (3, [.ref ax, .ref ay, .int (nI nn)])), (ax, .inl (cI, nn, .inl X)), (ay, .inl (cI, nn, .inl Y)), (ar, .inl (cI, 32, .inl g))] H) (hD : va_D A [(h0, .inr (3, [.ref ax, .ref ay, .int (nI nn)])), (ax, .inl (cI, nn, .inl X)), (ay, .inl (cI, nn, .inl Y)), (ar, .inl (cI, 32, .inl g))]) (hS : va_S A s.heap H locs) (ls : Array Slot) (hl : lv_has ls 10 [(0, .ref h0), (1, .int (nI k)), (2, .ref ar), (4, .int (X (nxt nn k) - X k)), (5, .int (Y (nxt nn k) - Y k)), (6, .int (nI (mkg nn X Y k))), (7, .int (nI z))]), W p l e ({ frames := 2, cells := 0, slots := 0, locals := 41 } : Room) s m ([.ref h0, .int (nI k), .ref ar] : List Value).toArray below meth c H locs 0 0 Q (F0 m 57 ls []) := by
    intro fu
    induction fu with
    | zero => intro z g hz hg hn H locs hP hD hS ls hl; exact absurd hn (Nat.not_lt_zero _)
    | succ fu ih_57 =>
      intro z g hz hg hn H locs hP hD hS ls hl
      refine lv_iload hx hb dX1_markPostsOn_57 (lv_at hl 6 rfl) ?_
      refine lv_iload hx hb dX1_markPostsOn_59 (lv_at hl 5 rfl) ?_
      refine lv_icmp_ge (tgt := 132) hx hb dX1_markPostsOn_61 (by decide) (fun c_1 => ?_) (fun c_1 => ?_)
      · skip
        have nc_1 : mkg nn X Y k ≤ z := (nI_leI (a := (mkg nn X Y k)) (b := z) (by omega) (by omega)).mp c_1
        have hz9 : z = mkg nn X Y k := by omega
        rw [← hQ]
        have hP9 := hP
        have hD9 := hD
        exact W.vret hx hb hr (fun t ht hW => ⟨⟨g, rfl, fun y hy x hx => by rw [← hz9]; exact hg y hy x hx, by rw [ht]; exact hP9, hD9⟩, hS.F ht⟩) hS.2.2 dX1_markPostsOn_132
      · skip
        have nc_1 : ¬ (mkg nn X Y k ≤ z) := fun h => c_1 ((nI_leI (a := (mkg nn X Y k)) (b := z) (by omega) (by omega)).mpr h)
        refine lv_aload_n hx hb dX1_markPostsOn_64 rfl (lv_at hl 0 rfl) ?_
        refine va_get (D := D) (ci := 3) (v := .ref ax) (C := RX1) (T := TX1) (N := 3) hx hb hts (by decide +kernel) hown hK hP 0 rfl rfl 0 (by decide) (hts (.fieldLink RX1 7 "LandDeeds$Outline" "xs" "[I") (by decide +kernel)) (fun _ h9 => h9) rfl dX1_markPostsOn_65 ?_
        refine lv_iload_n hx hb dX1_markPostsOn_68 rfl (lv_at hl 1 rfl) ?_
        refine u_iald hx hb hK hP 1 0 rfl rfl rfl ⟨by omega, by omega⟩ dX1_markPostsOn_69 ?_
        refine lv_iload hx hb dX1_markPostsOn_70 (lv_at hl 3 rfl) ?_
        refine lv_iload hx hb dX1_markPostsOn_72 (lv_at hl 5 rfl) ?_
        refine lv_idiv hx hb dX1_markPostsOn_74 (nI_ne0 (by omega) (by omega)) ?_
        refine lv_iload hx hb dX1_markPostsOn_75 (lv_at hl 6 rfl) ?_
        refine lv_imul hx hb dX1_markPostsOn_77 ?_
        refine lv_iadd hx hb dX1_markPostsOn_78 ?_
        refine u_eqi (show (X k) + (((X (nxt nn k) - X k) / (nI (mkg nn X Y k))) * (nI z)) = mkx nn X Y k z from rfl) ?_
        refine lv_istore (lv' := [(8, .int (mkx nn X Y k z)), (0, .ref h0), (1, .int (nI k)), (2, .ref ar), (4, .int (X (nxt nn k) - X k)), (5, .int (Y (nxt nn k) - Y k)), (6, .int (nI (mkg nn X Y k))), (7, .int (nI z))]) hx hb dX1_markPostsOn_79 hl (by decide) rfl (fun ls hl => ?_)
        refine lv_aload_n hx hb dX1_markPostsOn_81 rfl (lv_at hl 1 rfl) ?_
        refine va_get (D := D) (ci := 3) (v := .ref ay) (C := RX1) (T := TX1) (N := 3) hx hb hts (by decide +kernel) hown hK hP 0 rfl rfl 1 (by decide) (hts (.fieldLink RX1 13 "LandDeeds$Outline" "ys" "[I") (by decide +kernel)) (fun _ h9 => h9) rfl dX1_markPostsOn_82 ?_
        refine lv_iload_n hx hb dX1_markPostsOn_85 rfl (lv_at hl 2 rfl) ?_
        refine u_iald hx hb hK hP 2 0 rfl rfl rfl ⟨by omega, by omega⟩ dX1_markPostsOn_86 ?_
        refine lv_iload hx hb dX1_markPostsOn_87 (lv_at hl 5 rfl) ?_
        refine lv_iload hx hb dX1_markPostsOn_89 (lv_at hl 6 rfl) ?_
        refine lv_idiv hx hb dX1_markPostsOn_91 (nI_ne0 (by omega) (by omega)) ?_
        refine lv_iload hx hb dX1_markPostsOn_92 (lv_at hl 7 rfl) ?_
        refine lv_imul hx hb dX1_markPostsOn_94 ?_
        refine lv_iadd hx hb dX1_markPostsOn_95 ?_
        refine u_eqi (show (Y k) + (((Y (nxt nn k) - Y k) / (nI (mkg nn X Y k))) * (nI z)) = mky nn X Y k z from rfl) ?_
        refine lv_istore (lv' := [(9, .int (mky nn X Y k z)), (8, .int (mkx nn X Y k z)), (0, .ref h0), (1, .int (nI k)), (2, .ref ar), (4, .int (X (nxt nn k) - X k)), (5, .int (Y (nxt nn k) - Y k)), (6, .int (nI (mkg nn X Y k))), (7, .int (nI z))]) hx hb dX1_markPostsOn_96 hl (by decide) rfl (fun ls hl => ?_)
        refine lv_iload hx hb dX1_markPostsOn_98 (lv_at hl 1 rfl) ?_
        refine lv_iload hx hb dX1_markPostsOn_100 (lv_at hl 0 rfl) ?_
        have hPc := hP.sub (ws' := []) [] rfl
        refine u_callSi (va_runSN (As := [.int (mkx nn X Y k z), .int (mky nn X Y k z)]) (rest := []) ⟨hx, hb, hml, hown, hts⟩ (c_X6_isPost l D cI cB cZ cP (mkx nn X Y k z) (mky nn X Y k z) ) ⟨va_cnB 2 hts gX1_markPostsOn_X6_isPost_n26 rfl rfl rfl (hW0.n_RX1_26) (hts (.initialized RX6) (by decide +kernel)) (by decide +kernel) ⟨Nat.le_of_ble_eq_true rfl, Nat.le_of_ble_eq_true rfl⟩, (hts (.static yX6_isPost) (by decide +kernel)), trivial⟩ (pS hPc hW0 trivial) rfl rfl hl.1 rfl (lv_room (Nat.le_of_ble_eq_true rfl)) dX1_markPostsOn_102 ⟨Nat.le_of_ble_eq_true rfl, Nat.le_of_ble_eq_true rfl⟩).run ?_
        refine lv_if_eq (tgt := 126) hx hb dX1_markPostsOn_105 (by decide) (fun c_2 => ?_) (fun c_2 => ?_)
        · skip
          have nc_2 := zb_eq0.mp c_2
          refine lv_iinc (v := nI (z + 1)) (lv' := [(7, .int (nI (z + 1))), (9, .int (mky nn X Y k z)), (8, .int (mkx nn X Y k z)), (0, .ref h0), (1, .int (nI k)), (2, .ref ar), (4, .int (X (nxt nn k) - X k)), (5, .int (Y (nxt nn k) - Y k)), (6, .int (nI (mkg nn X Y k)))]) hx hb dX1_markPostsOn_126 hl (k := 8) rfl (nI_1 _) (by decide) rfl (fun ls hl => ?_)
          refine lv_goto (tgt := 57) hx hb dX1_markPostsOn_129 (by decide) ?_
          exact ih_57 (z + 1) g (by omega) (mk_no hg nc_2) (by omega) _ _ hP hD hS ls (lv_sub hl [3, 4, 5, 6, 7, 8, 0] rfl)
        · skip
          have nc_2 := zb_ne0.mp c_2
          obtain ⟨xx, hxx32, exx⟩ := isP_x nc_2
          obtain ⟨yy, hyy32, eyy⟩ := isP_y nc_2
          rw [exx, eyy] at hl
          refine lv_iload hx hb dX1_markPostsOn_108 (lv_at hl 0 rfl) ?_
          refine lv_aload_n hx hb dX1_markPostsOn_110 rfl (lv_at hl 4 rfl) ?_
          refine va_alen (v := 32) hx hb hK hP 3 0 rfl rfl rfl dX1_markPostsOn_111 ?_
          refine lv_icmp_ge (tgt := 126) hx hb dX1_markPostsOn_112 (by decide) (fun c_3 => ?_) (fun c_3 => ?_)
          · skip
            have nc_3 : 32 ≤ yy := (nI_leI (a := 32) (b := yy) (by omega) (by omega)).mp c_3
            exact absurd nc_3 (by omega)
          · skip
            have nc_3 : ¬ (32 ≤ yy) := fun h => c_3 ((nI_leI (a := 32) (b := yy) (by omega) (by omega)).mpr h)
            refine lv_aload_n hx hb dX1_markPostsOn_115 rfl (lv_at hl 4 rfl) ?_
            refine lv_iload hx hb dX1_markPostsOn_116 (lv_at hl 0 rfl) ?_
            refine lv_dup2_11 hx hb dX1_markPostsOn_118 rfl rfl ?_
            refine u_iald hx hb hK hP 3 0 rfl rfl rfl ⟨by omega, by omega⟩ dX1_markPostsOn_119 ?_
            refine lv_iconst (v := 1) hx hb dX1_markPostsOn_120 (by decide) ?_
            refine lv_iload hx hb dX1_markPostsOn_121 (lv_at hl 1 rfl) ?_
            refine lv_ishl hx hb dX1_markPostsOn_123 ?_
            refine lv_ior hx hb dX1_markPostsOn_124 ?_
            refine u_iast hx hb hK hP hD hS 3 0 rfl rfl rfl ⟨by omega, by omega⟩ dX1_markPostsOn_125 (fun H locs hP hD hS => ?_)
            have hP : va_P D vwCl [(h0, .inr (3, [.ref ax, .ref ay, .int (nI nn)])), (ax, .inl (cI, nn, .inl X)), (ay, .inl (cI, nn, .inl Y)), (ar, .inl (cI, 32, .inl (upd g yy ((g yy) ||| (1 <<< ((nI xx) &&& 31))))))] H := hP
            have hD : va_D A [(h0, .inr (3, [.ref ax, .ref ay, .int (nI nn)])), (ax, .inl (cI, nn, .inl X)), (ay, .inl (cI, nn, .inl Y)), (ar, .inl (cI, 32, .inl (upd g yy ((g yy) ||| (1 <<< ((nI xx) &&& 31))))))] := hD
            refine lv_iinc (v := nI (z + 1)) (lv' := [(7, .int (nI (z + 1))), (9, .int (nI yy)), (8, .int (nI xx)), (0, .ref h0), (1, .int (nI k)), (2, .ref ar), (4, .int (X (nxt nn k) - X k)), (5, .int (Y (nxt nn k) - Y k)), (6, .int (nI (mkg nn X Y k)))]) hx hb dX1_markPostsOn_126 hl (k := 8) rfl (nI_1 _) (by decide) rfl (fun ls hl => ?_)
            refine lv_goto (tgt := 57) hx hb dX1_markPostsOn_129 (by decide) ?_
            exact ih_57 (z + 1) (upd g yy ((g yy) ||| (1 <<< ((nI xx) &&& 31)))) (by omega) (mk_on hg exx eyy hxx32 hyy32) (by omega) _ _ hP hD hS ls (lv_sub hl [3, 4, 5, 6, 7, 8, 0] rfl)
  exact LOOP_57 (mkg nn X Y k - 0 + 1) 0 fr (Nat.zero_le _) (fun y _ x _ => ⟨Or.inl, fun q => q.elim id (fun ⟨w, h, _⟩ => absurd h (Nat.not_lt_zero _))⟩) (Nat.lt_succ_self _) _ _ hP hD hS ls (lv_sub hl [5, 6, 7, 3, 2, 1, 0] rfl)

set_option maxHeartbeats 4000000 in
set_option maxRecDepth 100000 in
theorem c_X1_flipPostsWestOf_u (l : Launch) (D : va_G) (cI cB cZ cP : ClassId) (sz : Nat) (h0 ax ay nn : Nat) (X Y : Nat → Int32) (k ar : Nat) (fr : Nat → Int32) (hn8 : nn ≤ 8) (hk : k < nn) (hpk : isP (X k) (Y k)) (hpn : isP (X (nxt nn k)) (Y (nxt nn k))) (hlh : (Y k).toInt < (Y (nxt nn k)).toInt) : Met l yX1_flipPostsWestOf wsX1_flipPostsWestOf ({ frames := 2, cells := 0, slots := 0, locals := 41 } : Room) (va_Pc [.ref h0, .int (nI k), .ref ar] (fun U => U.heap.size = sz ∧ va_P D vwCl [(h0, .inr (3, [.ref ax, .ref ay, .int (nI nn)])), (ax, .inl (cI, nn, .inl X)), (ay, .inl (cI, nn, .inl Y)), (ar, .inl (cI, 32, .inl fr))] U.heap ∧ KW D cI cB cZ cP U ∧ va_D (fun _ => True) [(h0, .inr (3, [.ref ax, .ref ay, .int (nI nn)])), (ax, .inl (cI, nn, .inl X)), (ay, .inl (cI, nn, .inl Y)), (ar, .inl (cI, 32, .inl fr))] ∧ EF [(h0, .inr (3, [.ref ax, .ref ay, .int (nI nn)])), (ax, .inl (cI, nn, .inl X)), (ay, .inl (cI, nn, .inl Y)), (ar, .inl (cI, 32, .inl fr))] sz E0 U.heap)) (va_Qv (fun (g : Nat → Int32) => ∀ y, y < 32 → ∀ x, x < 32 → (bit (g y) x ↔ ¬ (bit (fr y) x ↔ flp (X k) (Y k) (X (nxt nn k)) (Y (nxt nn k)) (flr (Y k) (Y (nxt nn k))) y x))) (fun (g : Nat → Int32) (t : State) => va_P D vwCl [(h0, .inr (3, [.ref ax, .ref ay, .int (nI nn)])), (ax, .inl (cI, nn, .inl X)), (ay, .inl (cI, nn, .inl Y)), (ar, .inl (cI, 32, .inl g))] t.heap ∧ va_D (va_A [(h0, .inr (3, [.ref ax, .ref ay, .int (nI nn)])), (ax, .inl (cI, nn, .inl X)), (ay, .inl (cI, nn, .inl Y)), (ar, .inl (cI, 32, .inl fr))] sz) [(h0, .inr (3, [.ref ax, .ref ay, .int (nI nn)])), (ax, .inl (cI, nn, .inl X)), (ay, .inl (cI, nn, .inl Y)), (ar, .inl (cI, 32, .inl g))]) (va_A [(h0, .inr (3, [.ref ax, .ref ay, .int (nI nn)])), (ax, .inl (cI, nn, .inl X)), (ay, .inl (cI, nn, .inl Y)), (ar, .inl (cI, 32, .inl fr))] sz)) 0 0 (va_A [(h0, .inr (3, [.ref ax, .ref ay, .int (nI nn)])), (ax, .inl (cI, nn, .inl X)), (ay, .inl (cI, nn, .inl Y)), (ar, .inl (cI, 32, .inl fr))] sz) := by
  refine Met.ofW (cc := cX1_flipPostsWestOf) (maxL := 10) (ret := none) (by decide) rfl ?_
  intro p e s m args below meth c s₁ B hml hv
  obtain ⟨rfl, hsz, hP, hW0, hD0, hE⟩ := hv
  have hx := B.exec
  have hb := B.bytes
  have hr := B.returns
  have hts := atoms_spec (ws := wsX1_flipPostsWestOf) B.pre
  have hown : s.vm.findClass RX1 = some m.cls := findClass_of_methodNamed B.named
  have hlocks := B.notSynchronized
  have hK := hW0.1
  subst hsz
  have hD := hD0.self (sz := s.heap.size)
  unfold EF at hE
  generalize hAe : va_A [(h0, .inr (3, [.ref ax, .ref ay, .int (nI nn)])), (ax, .inl (cI, nn, .inl X)), (ay, .inl (cI, nn, .inl Y)), (ar, .inl (cI, 32, .inl fr))] s.heap.size = A at hD hE ⊢
  have hA : ∀ q : Nat, s.heap.size ≤ q → A q := fun q h => by rw [← hAe]; exact Or.inr h
  have hS : va_S A s.heap s.heap [] := va_S.rf
  have hl := lv_entry ([.ref h0, .int (nI k), .ref ar]) (n := 10) (Nat.le_of_ble_eq_true rfl)
  rw [lg_entry_eq]
  generalize (lg_sl ([.ref h0, .int (nI k), .ref ar]) ++ List.replicate (10 - (lg_sl ([.ref h0, .int (nI k), .ref ar])).length) Slot.unset).toArray = ls at hl ⊢
  have hl : lv_has ls 10 [(0, .ref h0), (1, .int (nI k)), (2, .ref ar)] := hl
  show W p l e ({ frames := 2, cells := 0, slots := 0, locals := 41 } : Room) s m ([.ref h0, .int (nI k), .ref ar] : List Value).toArray below meth c s.heap [] 0 0 _ (F0 m 0 ls [])
  refine u_genQ (fun Q hQ => ?_)
  have hnx := nxt_lt hk
  have hfb := flr_b hpk hpn
  have hrt := flr_t (a := Y k) (b := Y (nxt nn k)) (by have := hpk.2.2; have := hpn.2.2; omega) (by have := hpk.2.2; have := hpn.2.2; omega)
  refine lv_aload_n hx hb dX1_flipPostsWestOf_0 rfl (lv_at hl 0 rfl) ?_
  refine lv_iload_n hx hb dX1_flipPostsWestOf_1 rfl (lv_at hl 1 rfl) ?_
  have hPc := hP.sub (ws' := [(h0, .inr (3, [.ref ax, .ref ay, .int (nI nn)]))]) [0] rfl
  refine u_callSi (W.runV (As := [.int (nI k)]) (rest := []) ⟨hx, hb, hml, hown, hts⟩ (c_X1_next l D cI cB cZ cP h0 ax ay nn k (by first | assumption | omega) (by first | assumption | omega)) (cwV 1 hts gX1_flipPostsWestOf_X1_next rfl rfl rfl (by decide +kernel) ⟨Nat.le_of_ble_eq_true rfl, Nat.le_of_ble_eq_true rfl⟩) (pV (q0 := 0) hPc hW0 trivial rfl rfl) rfl rfl hl.1 rfl (lv_room (Nat.le_of_ble_eq_true rfl)) dX1_flipPostsWestOf_2 ⟨Nat.le_of_ble_eq_true rfl, Nat.le_of_ble_eq_true rfl⟩) ?_
  refine lv_istore_n (lv' := [(3, .int (nI (nxt nn k))), (0, .ref h0), (1, .int (nI k)), (2, .ref ar)]) hx hb dX1_flipPostsWestOf_5 rfl hl (by decide) rfl (fun ls hl => ?_)
  refine lv_aload_n hx hb dX1_flipPostsWestOf_6 rfl (lv_at hl 1 rfl) ?_
  refine va_get (D := D) (ci := 3) (v := .ref ay) (C := RX1) (T := TX1) (N := 3) hx hb hts (by decide +kernel) hown hK hP 0 rfl rfl 1 (by decide) (hts (.fieldLink RX1 13 "LandDeeds$Outline" "ys" "[I") (by decide +kernel)) (fun _ h9 => h9) rfl dX1_flipPostsWestOf_7 ?_
  refine lv_iload_n hx hb dX1_flipPostsWestOf_10 rfl (lv_at hl 2 rfl) ?_
  refine u_iald hx hb hK hP 2 0 rfl rfl rfl ⟨by omega, by omega⟩ dX1_flipPostsWestOf_11 ?_
  refine lv_aload_n hx hb dX1_flipPostsWestOf_12 rfl (lv_at hl 1 rfl) ?_
  refine va_get (D := D) (ci := 3) (v := .ref ay) (C := RX1) (T := TX1) (N := 3) hx hb hts (by decide +kernel) hown hK hP 0 rfl rfl 1 (by decide) (hts (.fieldLink RX1 13 "LandDeeds$Outline" "ys" "[I") (by decide +kernel)) (fun _ h9 => h9) rfl dX1_flipPostsWestOf_13 ?_
  refine lv_iload_n hx hb dX1_flipPostsWestOf_16 rfl (lv_at hl 0 rfl) ?_
  refine u_iald hx hb hK hP 2 0 rfl rfl rfl ⟨by omega, by omega⟩ dX1_flipPostsWestOf_17 ?_
  refine lv_icmp_ge (tgt := 25) hx hb dX1_flipPostsWestOf_18 (by decide) (fun c_1 => ?_) (fun c_1 => ?_)
  · skip
    exact absurd c_1 (by rw [Int32.le_iff_toInt_le]; omega)
  · skip
    refine lv_iload_n hx hb dX1_flipPostsWestOf_21 rfl (lv_at hl 2 rfl) ?_
    refine lv_goto (tgt := 26) hx hb dX1_flipPostsWestOf_22 (by decide) ?_
    refine lv_istore (lv' := [(4, .int (nI k)), (3, .int (nI (nxt nn k))), (0, .ref h0), (1, .int (nI k)), (2, .ref ar)]) hx hb dX1_flipPostsWestOf_26 hl (by decide) rfl (fun ls hl => ?_)
    refine lv_iload hx hb dX1_flipPostsWestOf_28 (lv_at hl 0 rfl) ?_
    refine lv_iload_n hx hb dX1_flipPostsWestOf_30 rfl (lv_at hl 3 rfl) ?_
    refine lv_icmp_ne (tgt := 38) hx hb dX1_flipPostsWestOf_31 (by decide) (fun c_2 => ?_) (fun c_2 => ?_)
    · skip
      have nc_2 : ¬ (k = k) := fun h => c_2 ((nI_eq (a := k) (b := k) (by omega) (by omega)).mpr h)
      exact absurd rfl nc_2
    · skip
      have nc_2 : k = k := (nI_eq (a := k) (b := k) (by omega) (by omega)).mp c_2
      refine lv_iload_n hx hb dX1_flipPostsWestOf_34 rfl (lv_at hl 1 rfl) ?_
      refine lv_goto (tgt := 39) hx hb dX1_flipPostsWestOf_35 (by decide) ?_
      refine lv_istore (lv' := [(5, .int (nI (nxt nn k))), (4, .int (nI k)), (3, .int (nI (nxt nn k))), (0, .ref h0), (1, .int (nI k)), (2, .ref ar)]) hx hb dX1_flipPostsWestOf_39 hl (by decide) rfl (fun ls hl => ?_)
      refine lv_aload_n hx hb dX1_flipPostsWestOf_41 rfl (lv_at hl 3 rfl) ?_
      refine va_get (D := D) (ci := 3) (v := .ref ay) (C := RX1) (T := TX1) (N := 3) hx hb hts (by decide +kernel) hown hK hP 0 rfl rfl 1 (by decide) (hts (.fieldLink RX1 13 "LandDeeds$Outline" "ys" "[I") (by decide +kernel)) (fun _ h9 => h9) rfl dX1_flipPostsWestOf_42 ?_
      refine lv_iload hx hb dX1_flipPostsWestOf_45 (lv_at hl 0 rfl) ?_
      refine u_iald hx hb hK hP 2 0 rfl rfl rfl ⟨by omega, by omega⟩ dX1_flipPostsWestOf_47 ?_
      refine lv_aload_n hx hb dX1_flipPostsWestOf_48 rfl (lv_at hl 3 rfl) ?_
      refine va_get (D := D) (ci := 3) (v := .ref ay) (C := RX1) (T := TX1) (N := 3) hx hb hts (by decide +kernel) hown hK hP 0 rfl rfl 1 (by decide) (hts (.fieldLink RX1 13 "LandDeeds$Outline" "ys" "[I") (by decide +kernel)) (fun _ h9 => h9) rfl dX1_flipPostsWestOf_49 ?_
      refine lv_iload hx hb dX1_flipPostsWestOf_52 (lv_at hl 1 rfl) ?_
      refine u_iald hx hb hK hP 2 0 rfl rfl rfl ⟨by omega, by omega⟩ dX1_flipPostsWestOf_54 ?_
      refine lv_isub hx hb dX1_flipPostsWestOf_55 ?_
      refine u_eqi (show (Y (nxt nn k)) - (Y k) = nI (flr (Y k) (Y (nxt nn k))) from hrt) ?_
      refine lv_istore (lv' := [(6, .int (nI (flr (Y k) (Y (nxt nn k))))), (5, .int (nI (nxt nn k))), (4, .int (nI k)), (3, .int (nI (nxt nn k))), (0, .ref h0), (1, .int (nI k)), (2, .ref ar)]) hx hb dX1_flipPostsWestOf_56 hl (by decide) rfl (fun ls hl => ?_)
      refine lv_iconst (v := 0) hx hb dX1_flipPostsWestOf_58 (by decide) ?_
      refine lv_istore (lv' := [(7, .int 0), (6, .int (nI (flr (Y k) (Y (nxt nn k))))), (5, .int (nI (nxt nn k))), (4, .int (nI k)), (3, .int (nI (nxt nn k))), (0, .ref h0), (1, .int (nI k)), (2, .ref ar)]) hx hb dX1_flipPostsWestOf_59 hl (by decide) rfl (fun ls hl => ?_)
      have LOOP_61 : ∀ (fu : Nat) (z : Nat) (g : Nat → Int32) (hz : z ≤ flr (Y k) (Y (nxt nn k))) (hg : ∀ y, y < 32 → ∀ x, x < 32 → (bit (g y) x ↔ ¬ (bit (fr y) x ↔ flp (X k) (Y k) (X (nxt nn k)) (Y (nxt nn k)) z y x))) (hn : flr (Y k) (Y (nxt nn k)) - z < fu) (H : Heap) (locs : List Loc) (hP : va_P D vwCl [(h0, .inr (3, [.ref ax, .ref ay, .int (nI nn)])), (ax, .inl (cI, nn, .inl X)), (ay, .inl (cI, nn, .inl Y)), (ar, .inl (cI, 32, .inl g))] H) (hD : va_D A [(h0, .inr (3, [.ref ax, .ref ay, .int (nI nn)])), (ax, .inl (cI, nn, .inl X)), (ay, .inl (cI, nn, .inl Y)), (ar, .inl (cI, 32, .inl g))]) (hS : va_S A s.heap H locs) (ls : Array Slot) (hl : lv_has ls 10 [(0, .ref h0), (2, .ref ar), (4, .int (nI k)), (5, .int (nI (nxt nn k))), (6, .int (nI (flr (Y k) (Y (nxt nn k))))), (7, .int (nI z))]), W p l e ({ frames := 2, cells := 0, slots := 0, locals := 41 } : Room) s m ([.ref h0, .int (nI k), .ref ar] : List Value).toArray below meth c H locs 0 0 Q (F0 m 61 ls []) := by
        intro fu
        induction fu with
        | zero => intro z g hz hg hn H locs hP hD hS ls hl; exact absurd hn (Nat.not_lt_zero _)
        | succ fu ih_61 =>
          intro z g hz hg hn H locs hP hD hS ls hl
          refine lv_iload hx hb dX1_flipPostsWestOf_61 (lv_at hl 5 rfl) ?_
          refine lv_iload hx hb dX1_flipPostsWestOf_63 (lv_at hl 4 rfl) ?_
          refine lv_icmp_ge (tgt := 149) hx hb dX1_flipPostsWestOf_65 (by decide) (fun c_3 => ?_) (fun c_3 => ?_)
          · skip
            have nc_3 : flr (Y k) (Y (nxt nn k)) ≤ z := (nI_leI (a := (flr (Y k) (Y (nxt nn k)))) (b := z) (by omega) (by omega)).mp c_3
            have hz9 : z = flr (Y k) (Y (nxt nn k)) := by omega
            rw [← hQ]
            have hP9 := hP
            have hD9 := hD
            exact W.vret hx hb hr (fun t ht hW => ⟨⟨g, rfl, fun y hy x hx => by rw [← hz9]; exact hg y hy x hx, by rw [ht]; exact hP9, hD9⟩, hS.F ht⟩) hS.2.2 dX1_flipPostsWestOf_149
          · skip
            have nc_3 : ¬ (flr (Y k) (Y (nxt nn k)) ≤ z) := fun h => c_3 ((nI_leI (a := (flr (Y k) (Y (nxt nn k)))) (b := z) (by omega) (by omega)).mpr h)
            have hzr : z < flr (Y k) (Y (nxt nn k)) := by omega
            have hfm := flp_m (z := z) hpk hpn (by omega)
            have hpp := fl_isP hpk hpn hzr
            refine lv_aload_n hx hb dX1_flipPostsWestOf_68 rfl (lv_at hl 0 rfl) ?_
            refine va_get (D := D) (ci := 3) (v := .ref ay) (C := RX1) (T := TX1) (N := 3) hx hb hts (by decide +kernel) hown hK hP 0 rfl rfl 1 (by decide) (hts (.fieldLink RX1 13 "LandDeeds$Outline" "ys" "[I") (by decide +kernel)) (fun _ h9 => h9) rfl dX1_flipPostsWestOf_69 ?_
            refine lv_iload hx hb dX1_flipPostsWestOf_72 (lv_at hl 2 rfl) ?_
            refine u_iald hx hb hK hP 2 0 rfl rfl rfl ⟨by omega, by omega⟩ dX1_flipPostsWestOf_74 ?_
            refine lv_iload hx hb dX1_flipPostsWestOf_75 (lv_at hl 5 rfl) ?_
            refine lv_iadd hx hb dX1_flipPostsWestOf_77 ?_
            refine lv_istore (lv' := [(8, .int ((Y k) + (nI z))), (0, .ref h0), (2, .ref ar), (4, .int (nI k)), (5, .int (nI (nxt nn k))), (6, .int (nI (flr (Y k) (Y (nxt nn k))))), (7, .int (nI z))]) hx hb dX1_flipPostsWestOf_78 hl (by decide) rfl (fun ls hl => ?_)
            refine lv_aload_n hx hb dX1_flipPostsWestOf_80 rfl (lv_at hl 1 rfl) ?_
            refine va_get (D := D) (ci := 3) (v := .ref ax) (C := RX1) (T := TX1) (N := 3) hx hb hts (by decide +kernel) hown hK hP 0 rfl rfl 0 (by decide) (hts (.fieldLink RX1 7 "LandDeeds$Outline" "xs" "[I") (by decide +kernel)) (fun _ h9 => h9) rfl dX1_flipPostsWestOf_81 ?_
            refine lv_iload hx hb dX1_flipPostsWestOf_84 (lv_at hl 3 rfl) ?_
            refine u_iald hx hb hK hP 1 0 rfl rfl rfl ⟨by omega, by omega⟩ dX1_flipPostsWestOf_86 ?_
            refine lv_aload_n hx hb dX1_flipPostsWestOf_87 rfl (lv_at hl 1 rfl) ?_
            refine va_get (D := D) (ci := 3) (v := .ref ax) (C := RX1) (T := TX1) (N := 3) hx hb hts (by decide +kernel) hown hK hP 0 rfl rfl 0 (by decide) (hts (.fieldLink RX1 7 "LandDeeds$Outline" "xs" "[I") (by decide +kernel)) (fun _ h9 => h9) rfl dX1_flipPostsWestOf_88 ?_
            refine lv_iload hx hb dX1_flipPostsWestOf_91 (lv_at hl 3 rfl) ?_
            refine u_iald hx hb hK hP 1 0 rfl rfl rfl ⟨by omega, by omega⟩ dX1_flipPostsWestOf_93 ?_
            refine lv_aload_n hx hb dX1_flipPostsWestOf_94 rfl (lv_at hl 1 rfl) ?_
            refine va_get (D := D) (ci := 3) (v := .ref ax) (C := RX1) (T := TX1) (N := 3) hx hb hts (by decide +kernel) hown hK hP 0 rfl rfl 0 (by decide) (hts (.fieldLink RX1 7 "LandDeeds$Outline" "xs" "[I") (by decide +kernel)) (fun _ h9 => h9) rfl dX1_flipPostsWestOf_95 ?_
            refine lv_iload hx hb dX1_flipPostsWestOf_98 (lv_at hl 4 rfl) ?_
            refine u_iald hx hb hK hP 1 0 rfl rfl rfl ⟨by omega, by omega⟩ dX1_flipPostsWestOf_100 ?_
            refine lv_isub hx hb dX1_flipPostsWestOf_101 ?_
            refine lv_iload hx hb dX1_flipPostsWestOf_102 (lv_at hl 6 rfl) ?_
            refine lv_imul hx hb dX1_flipPostsWestOf_104 ?_
            refine lv_iload hx hb dX1_flipPostsWestOf_105 (lv_at hl 5 rfl) ?_
            refine u_fdiv hx hb (by rw [hml]; exact hl.1.symm) hown (hts (.methodLink RX1 67 yJ9_floorDiv_7cf53) (by decide +kernel)) (hts (.static yJ9_floorDiv_7cf53) (by decide +kernel)) (hts (.initialized RJ9) (by decide +kernel)) (hts (.code yJ9_floorDiv_7cf53 cJ9_floorDiv_7cf53 3 (some .int)) (by decide +kernel)) (Nat.le_of_ble_eq_true rfl) (Nat.le_of_ble_eq_true rfl) (Nat.zero_le _) (Nat.zero_le _) (by rw [nI_toInt (by omega)]; omega) hfm.2.1 hfm.2.2 dX1_flipPostsWestOf_107 ?_
            refine lv_isub hx hb dX1_flipPostsWestOf_110 ?_
            refine u_eqi (show (X k) - (fdv (((X k) - (X (nxt nn k))) * (nI z)) (nI (flr (Y k) (Y (nxt nn k))))) = flw (X k) (Y k) (X (nxt nn k)) (Y (nxt nn k)) z from rfl) ?_
            refine lv_istore (lv' := [(9, .int (flw (X k) (Y k) (X (nxt nn k)) (Y (nxt nn k)) z)), (8, .int ((Y k) + (nI z))), (0, .ref h0), (2, .ref ar), (4, .int (nI k)), (5, .int (nI (nxt nn k))), (6, .int (nI (flr (Y k) (Y (nxt nn k))))), (7, .int (nI z))]) hx hb dX1_flipPostsWestOf_111 hl (by decide) rfl (fun ls hl => ?_)
            refine lv_iload hx hb dX1_flipPostsWestOf_113 (lv_at hl 0 rfl) ?_
            refine lv_iload hx hb dX1_flipPostsWestOf_115 (lv_at hl 1 rfl) ?_
            have hPc := hP.sub (ws' := []) [] rfl
            refine u_callSi (va_runSN (As := [.int (flw (X k) (Y k) (X (nxt nn k)) (Y (nxt nn k)) z), .int ((Y k) + (nI z))]) (rest := []) ⟨hx, hb, hml, hown, hts⟩ (c_X6_isPost l D cI cB cZ cP (flw (X k) (Y k) (X (nxt nn k)) (Y (nxt nn k)) z) ((Y k) + (nI z)) ) ⟨va_cnB 2 hts gX1_flipPostsWestOf_X6_isPost_n26 rfl rfl rfl (hW0.n_RX1_26) (hts (.initialized RX6) (by decide +kernel)) (by decide +kernel) ⟨Nat.le_of_ble_eq_true rfl, Nat.le_of_ble_eq_true rfl⟩, (hts (.static yX6_isPost) (by decide +kernel)), trivial⟩ (pS hPc hW0 trivial) rfl rfl hl.1 rfl (lv_room (Nat.le_of_ble_eq_true rfl)) dX1_flipPostsWestOf_117 ⟨Nat.le_of_ble_eq_true rfl, Nat.le_of_ble_eq_true rfl⟩).run ?_
            refine lv_if_eq (tgt := 143) hx hb dX1_flipPostsWestOf_120 (by decide) (fun c_4 => ?_) (fun c_4 => ?_)
            · skip
              have nc_4 := zb_eq0.mp c_4
              exact absurd hpp.1 nc_4
            · skip
              have nc_4 := zb_ne0.mp c_4
              obtain ⟨xx, hxx32, exx⟩ := isP_x nc_4
              obtain ⟨yy, hyy32, eyy⟩ := isP_y nc_4
              rw [exx, eyy] at hl
              refine lv_iload hx hb dX1_flipPostsWestOf_123 (lv_at hl 1 rfl) ?_
              refine lv_aload_n hx hb dX1_flipPostsWestOf_125 rfl (lv_at hl 3 rfl) ?_
              refine va_alen (v := 32) hx hb hK hP 3 0 rfl rfl rfl dX1_flipPostsWestOf_126 ?_
              refine lv_icmp_ge (tgt := 143) hx hb dX1_flipPostsWestOf_127 (by decide) (fun c_5 => ?_) (fun c_5 => ?_)
              · skip
                have nc_5 : 32 ≤ yy := (nI_leI (a := 32) (b := yy) (by omega) (by omega)).mp c_5
                exact absurd nc_5 (by omega)
              · skip
                have nc_5 : ¬ (32 ≤ yy) := fun h => c_5 ((nI_leI (a := 32) (b := yy) (by omega) (by omega)).mpr h)
                refine lv_aload_n hx hb dX1_flipPostsWestOf_130 rfl (lv_at hl 3 rfl) ?_
                refine lv_iload hx hb dX1_flipPostsWestOf_131 (lv_at hl 1 rfl) ?_
                refine lv_dup2_11 hx hb dX1_flipPostsWestOf_133 rfl rfl ?_
                refine u_iald hx hb hK hP 3 0 rfl rfl rfl ⟨by omega, by omega⟩ dX1_flipPostsWestOf_134 ?_
                refine lv_iconst (v := 1) hx hb dX1_flipPostsWestOf_135 (by decide) ?_
                refine lv_iload hx hb dX1_flipPostsWestOf_136 (lv_at hl 0 rfl) ?_
                refine lv_ishl hx hb dX1_flipPostsWestOf_138 ?_
                refine lv_iconst (v := 1) hx hb dX1_flipPostsWestOf_139 (by decide) ?_
                refine lv_isub hx hb dX1_flipPostsWestOf_140 ?_
                refine lv_ixor hx hb dX1_flipPostsWestOf_141 ?_
                refine u_iast hx hb hK hP hD hS 3 0 rfl rfl rfl ⟨by omega, by omega⟩ dX1_flipPostsWestOf_142 (fun H locs hP hD hS => ?_)
                have hP : va_P D vwCl [(h0, .inr (3, [.ref ax, .ref ay, .int (nI nn)])), (ax, .inl (cI, nn, .inl X)), (ay, .inl (cI, nn, .inl Y)), (ar, .inl (cI, 32, .inl (upd g yy ((g yy) ^^^ ((1 <<< ((nI xx) &&& 31)) - 1)))))] H := hP
                have hD : va_D A [(h0, .inr (3, [.ref ax, .ref ay, .int (nI nn)])), (ax, .inl (cI, nn, .inl X)), (ay, .inl (cI, nn, .inl Y)), (ar, .inl (cI, 32, .inl (upd g yy ((g yy) ^^^ ((1 <<< ((nI xx) &&& 31)) - 1)))))] := hD
                refine lv_iinc (v := nI (z + 1)) (lv' := [(7, .int (nI (z + 1))), (9, .int (nI xx)), (8, .int (nI yy)), (0, .ref h0), (2, .ref ar), (4, .int (nI k)), (5, .int (nI (nxt nn k))), (6, .int (nI (flr (Y k) (Y (nxt nn k)))))]) hx hb dX1_flipPostsWestOf_143 hl (k := 7) rfl (nI_1 _) (by decide) rfl (fun ls hl => ?_)
                refine lv_goto (tgt := 61) hx hb dX1_flipPostsWestOf_146 (by decide) ?_
                exact ih_61 (z + 1) (upd g yy ((g yy) ^^^ ((1 <<< ((nI xx) &&& 31)) - 1))) (by omega) (flp_on hg exx eyy hxx32 hyy32 hpp.2) (by omega) _ _ hP hD hS ls (lv_sub hl [3, 4, 5, 6, 7, 0] rfl)
      exact LOOP_61 (flr (Y k) (Y (nxt nn k)) - 0 + 1) 0 fr (Nat.zero_le _) (flp_0 fr) (Nat.lt_succ_self _) _ _ hP hD hS ls (lv_sub hl [5, 7, 3, 2, 1, 0] rfl)

set_option maxHeartbeats 4000000 in
set_option maxRecDepth 100000 in
theorem c_X1_flipPostsWestOf_d (l : Launch) (D : va_G) (cI cB cZ cP : ClassId) (sz : Nat) (h0 ax ay nn : Nat) (X Y : Nat → Int32) (k ar : Nat) (fr : Nat → Int32) (hn8 : nn ≤ 8) (hk : k < nn) (hpk : isP (X k) (Y k)) (hpn : isP (X (nxt nn k)) (Y (nxt nn k))) (hlh : (Y (nxt nn k)).toInt ≤ (Y k).toInt) (hne : ¬ nxt nn k = k) : Met l yX1_flipPostsWestOf wsX1_flipPostsWestOf ({ frames := 2, cells := 0, slots := 0, locals := 41 } : Room) (va_Pc [.ref h0, .int (nI k), .ref ar] (fun U => U.heap.size = sz ∧ va_P D vwCl [(h0, .inr (3, [.ref ax, .ref ay, .int (nI nn)])), (ax, .inl (cI, nn, .inl X)), (ay, .inl (cI, nn, .inl Y)), (ar, .inl (cI, 32, .inl fr))] U.heap ∧ KW D cI cB cZ cP U ∧ va_D (fun _ => True) [(h0, .inr (3, [.ref ax, .ref ay, .int (nI nn)])), (ax, .inl (cI, nn, .inl X)), (ay, .inl (cI, nn, .inl Y)), (ar, .inl (cI, 32, .inl fr))] ∧ EF [(h0, .inr (3, [.ref ax, .ref ay, .int (nI nn)])), (ax, .inl (cI, nn, .inl X)), (ay, .inl (cI, nn, .inl Y)), (ar, .inl (cI, 32, .inl fr))] sz E0 U.heap)) (va_Qv (fun (g : Nat → Int32) => ∀ y, y < 32 → ∀ x, x < 32 → (bit (g y) x ↔ ¬ (bit (fr y) x ↔ flp (X (nxt nn k)) (Y (nxt nn k)) (X k) (Y k) (flr (Y (nxt nn k)) (Y k)) y x))) (fun (g : Nat → Int32) (t : State) => va_P D vwCl [(h0, .inr (3, [.ref ax, .ref ay, .int (nI nn)])), (ax, .inl (cI, nn, .inl X)), (ay, .inl (cI, nn, .inl Y)), (ar, .inl (cI, 32, .inl g))] t.heap ∧ va_D (va_A [(h0, .inr (3, [.ref ax, .ref ay, .int (nI nn)])), (ax, .inl (cI, nn, .inl X)), (ay, .inl (cI, nn, .inl Y)), (ar, .inl (cI, 32, .inl fr))] sz) [(h0, .inr (3, [.ref ax, .ref ay, .int (nI nn)])), (ax, .inl (cI, nn, .inl X)), (ay, .inl (cI, nn, .inl Y)), (ar, .inl (cI, 32, .inl g))]) (va_A [(h0, .inr (3, [.ref ax, .ref ay, .int (nI nn)])), (ax, .inl (cI, nn, .inl X)), (ay, .inl (cI, nn, .inl Y)), (ar, .inl (cI, 32, .inl fr))] sz)) 0 0 (va_A [(h0, .inr (3, [.ref ax, .ref ay, .int (nI nn)])), (ax, .inl (cI, nn, .inl X)), (ay, .inl (cI, nn, .inl Y)), (ar, .inl (cI, 32, .inl fr))] sz) := by
  refine Met.ofW (cc := cX1_flipPostsWestOf) (maxL := 10) (ret := none) (by decide) rfl ?_
  intro p e s m args below meth c s₁ B hml hv
  obtain ⟨rfl, hsz, hP, hW0, hD0, hE⟩ := hv
  have hx := B.exec
  have hb := B.bytes
  have hr := B.returns
  have hts := atoms_spec (ws := wsX1_flipPostsWestOf) B.pre
  have hown : s.vm.findClass RX1 = some m.cls := findClass_of_methodNamed B.named
  have hlocks := B.notSynchronized
  have hK := hW0.1
  subst hsz
  have hD := hD0.self (sz := s.heap.size)
  unfold EF at hE
  generalize hAe : va_A [(h0, .inr (3, [.ref ax, .ref ay, .int (nI nn)])), (ax, .inl (cI, nn, .inl X)), (ay, .inl (cI, nn, .inl Y)), (ar, .inl (cI, 32, .inl fr))] s.heap.size = A at hD hE ⊢
  have hA : ∀ q : Nat, s.heap.size ≤ q → A q := fun q h => by rw [← hAe]; exact Or.inr h
  have hS : va_S A s.heap s.heap [] := va_S.rf
  have hl := lv_entry ([.ref h0, .int (nI k), .ref ar]) (n := 10) (Nat.le_of_ble_eq_true rfl)
  rw [lg_entry_eq]
  generalize (lg_sl ([.ref h0, .int (nI k), .ref ar]) ++ List.replicate (10 - (lg_sl ([.ref h0, .int (nI k), .ref ar])).length) Slot.unset).toArray = ls at hl ⊢
  have hl : lv_has ls 10 [(0, .ref h0), (1, .int (nI k)), (2, .ref ar)] := hl
  show W p l e ({ frames := 2, cells := 0, slots := 0, locals := 41 } : Room) s m ([.ref h0, .int (nI k), .ref ar] : List Value).toArray below meth c s.heap [] 0 0 _ (F0 m 0 ls [])
  refine u_genQ (fun Q hQ => ?_)
  have hnx := nxt_lt hk
  have hfb := flr_b hpn hpk
  have hrt := flr_t (a := Y (nxt nn k)) (b := Y k) (by have := hpk.2.2; have := hpn.2.2; omega) (by have := hpk.2.2; have := hpn.2.2; omega)
  refine lv_aload_n hx hb dX1_flipPostsWestOf_0 rfl (lv_at hl 0 rfl) ?_
  refine lv_iload_n hx hb dX1_flipPostsWestOf_1 rfl (lv_at hl 1 rfl) ?_
  have hPc := hP.sub (ws' := [(h0, .inr (3, [.ref ax, .ref ay, .int (nI nn)]))]) [0] rfl
  refine u_callSi (W.runV (As := [.int (nI k)]) (rest := []) ⟨hx, hb, hml, hown, hts⟩ (c_X1_next l D cI cB cZ cP h0 ax ay nn k (by first | assumption | omega) (by first | assumption | omega)) (cwV 1 hts gX1_flipPostsWestOf_X1_next rfl rfl rfl (by decide +kernel) ⟨Nat.le_of_ble_eq_true rfl, Nat.le_of_ble_eq_true rfl⟩) (pV (q0 := 0) hPc hW0 trivial rfl rfl) rfl rfl hl.1 rfl (lv_room (Nat.le_of_ble_eq_true rfl)) dX1_flipPostsWestOf_2 ⟨Nat.le_of_ble_eq_true rfl, Nat.le_of_ble_eq_true rfl⟩) ?_
  refine lv_istore_n (lv' := [(3, .int (nI (nxt nn k))), (0, .ref h0), (1, .int (nI k)), (2, .ref ar)]) hx hb dX1_flipPostsWestOf_5 rfl hl (by decide) rfl (fun ls hl => ?_)
  refine lv_aload_n hx hb dX1_flipPostsWestOf_6 rfl (lv_at hl 1 rfl) ?_
  refine va_get (D := D) (ci := 3) (v := .ref ay) (C := RX1) (T := TX1) (N := 3) hx hb hts (by decide +kernel) hown hK hP 0 rfl rfl 1 (by decide) (hts (.fieldLink RX1 13 "LandDeeds$Outline" "ys" "[I") (by decide +kernel)) (fun _ h9 => h9) rfl dX1_flipPostsWestOf_7 ?_
  refine lv_iload_n hx hb dX1_flipPostsWestOf_10 rfl (lv_at hl 2 rfl) ?_
  refine u_iald hx hb hK hP 2 0 rfl rfl rfl ⟨by omega, by omega⟩ dX1_flipPostsWestOf_11 ?_
  refine lv_aload_n hx hb dX1_flipPostsWestOf_12 rfl (lv_at hl 1 rfl) ?_
  refine va_get (D := D) (ci := 3) (v := .ref ay) (C := RX1) (T := TX1) (N := 3) hx hb hts (by decide +kernel) hown hK hP 0 rfl rfl 1 (by decide) (hts (.fieldLink RX1 13 "LandDeeds$Outline" "ys" "[I") (by decide +kernel)) (fun _ h9 => h9) rfl dX1_flipPostsWestOf_13 ?_
  refine lv_iload_n hx hb dX1_flipPostsWestOf_16 rfl (lv_at hl 0 rfl) ?_
  refine u_iald hx hb hK hP 2 0 rfl rfl rfl ⟨by omega, by omega⟩ dX1_flipPostsWestOf_17 ?_
  refine lv_icmp_ge (tgt := 25) hx hb dX1_flipPostsWestOf_18 (by decide) (fun c_1 => ?_) (fun c_1 => ?_)
  · skip
    refine lv_iload_n hx hb dX1_flipPostsWestOf_25 rfl (lv_at hl 0 rfl) ?_
    refine lv_istore (lv' := [(4, .int (nI (nxt nn k))), (3, .int (nI (nxt nn k))), (0, .ref h0), (1, .int (nI k)), (2, .ref ar)]) hx hb dX1_flipPostsWestOf_26 hl (by decide) rfl (fun ls hl => ?_)
    refine lv_iload hx hb dX1_flipPostsWestOf_28 (lv_at hl 0 rfl) ?_
    refine lv_iload_n hx hb dX1_flipPostsWestOf_30 rfl (lv_at hl 3 rfl) ?_
    refine lv_icmp_ne (tgt := 38) hx hb dX1_flipPostsWestOf_31 (by decide) (fun c_2 => ?_) (fun c_2 => ?_)
    · skip
      have nc_2 : ¬ (nxt nn k = k) := fun h => c_2 ((nI_eq (a := (nxt nn k)) (b := k) (by omega) (by omega)).mpr h)
      refine lv_iload_n hx hb dX1_flipPostsWestOf_38 rfl (lv_at hl 3 rfl) ?_
      refine lv_istore (lv' := [(5, .int (nI k)), (4, .int (nI (nxt nn k))), (3, .int (nI (nxt nn k))), (0, .ref h0), (1, .int (nI k)), (2, .ref ar)]) hx hb dX1_flipPostsWestOf_39 hl (by decide) rfl (fun ls hl => ?_)
      refine lv_aload_n hx hb dX1_flipPostsWestOf_41 rfl (lv_at hl 3 rfl) ?_
      refine va_get (D := D) (ci := 3) (v := .ref ay) (C := RX1) (T := TX1) (N := 3) hx hb hts (by decide +kernel) hown hK hP 0 rfl rfl 1 (by decide) (hts (.fieldLink RX1 13 "LandDeeds$Outline" "ys" "[I") (by decide +kernel)) (fun _ h9 => h9) rfl dX1_flipPostsWestOf_42 ?_
      refine lv_iload hx hb dX1_flipPostsWestOf_45 (lv_at hl 0 rfl) ?_
      refine u_iald hx hb hK hP 2 0 rfl rfl rfl ⟨by omega, by omega⟩ dX1_flipPostsWestOf_47 ?_
      refine lv_aload_n hx hb dX1_flipPostsWestOf_48 rfl (lv_at hl 3 rfl) ?_
      refine va_get (D := D) (ci := 3) (v := .ref ay) (C := RX1) (T := TX1) (N := 3) hx hb hts (by decide +kernel) hown hK hP 0 rfl rfl 1 (by decide) (hts (.fieldLink RX1 13 "LandDeeds$Outline" "ys" "[I") (by decide +kernel)) (fun _ h9 => h9) rfl dX1_flipPostsWestOf_49 ?_
      refine lv_iload hx hb dX1_flipPostsWestOf_52 (lv_at hl 1 rfl) ?_
      refine u_iald hx hb hK hP 2 0 rfl rfl rfl ⟨by omega, by omega⟩ dX1_flipPostsWestOf_54 ?_
      refine lv_isub hx hb dX1_flipPostsWestOf_55 ?_
      refine u_eqi (show (Y k) - (Y (nxt nn k)) = nI (flr (Y (nxt nn k)) (Y k)) from hrt) ?_
      refine lv_istore (lv' := [(6, .int (nI (flr (Y (nxt nn k)) (Y k)))), (5, .int (nI k)), (4, .int (nI (nxt nn k))), (3, .int (nI (nxt nn k))), (0, .ref h0), (1, .int (nI k)), (2, .ref ar)]) hx hb dX1_flipPostsWestOf_56 hl (by decide) rfl (fun ls hl => ?_)
      refine lv_iconst (v := 0) hx hb dX1_flipPostsWestOf_58 (by decide) ?_
      refine lv_istore (lv' := [(7, .int 0), (6, .int (nI (flr (Y (nxt nn k)) (Y k)))), (5, .int (nI k)), (4, .int (nI (nxt nn k))), (3, .int (nI (nxt nn k))), (0, .ref h0), (1, .int (nI k)), (2, .ref ar)]) hx hb dX1_flipPostsWestOf_59 hl (by decide) rfl (fun ls hl => ?_)
      have LOOP_61 : ∀ (fu : Nat) (z : Nat) (g : Nat → Int32) (hz : z ≤ flr (Y (nxt nn k)) (Y k)) (hg : ∀ y, y < 32 → ∀ x, x < 32 → (bit (g y) x ↔ ¬ (bit (fr y) x ↔ flp (X (nxt nn k)) (Y (nxt nn k)) (X k) (Y k) z y x))) (hn : flr (Y (nxt nn k)) (Y k) - z < fu) (H : Heap) (locs : List Loc) (hP : va_P D vwCl [(h0, .inr (3, [.ref ax, .ref ay, .int (nI nn)])), (ax, .inl (cI, nn, .inl X)), (ay, .inl (cI, nn, .inl Y)), (ar, .inl (cI, 32, .inl g))] H) (hD : va_D A [(h0, .inr (3, [.ref ax, .ref ay, .int (nI nn)])), (ax, .inl (cI, nn, .inl X)), (ay, .inl (cI, nn, .inl Y)), (ar, .inl (cI, 32, .inl g))]) (hS : va_S A s.heap H locs) (ls : Array Slot) (hl : lv_has ls 10 [(0, .ref h0), (2, .ref ar), (4, .int (nI (nxt nn k))), (5, .int (nI k)), (6, .int (nI (flr (Y (nxt nn k)) (Y k)))), (7, .int (nI z))]), W p l e ({ frames := 2, cells := 0, slots := 0, locals := 41 } : Room) s m ([.ref h0, .int (nI k), .ref ar] : List Value).toArray below meth c H locs 0 0 Q (F0 m 61 ls []) := by
        intro fu
        induction fu with
        | zero => intro z g hz hg hn H locs hP hD hS ls hl; exact absurd hn (Nat.not_lt_zero _)
        | succ fu ih_61 =>
          intro z g hz hg hn H locs hP hD hS ls hl
          refine lv_iload hx hb dX1_flipPostsWestOf_61 (lv_at hl 5 rfl) ?_
          refine lv_iload hx hb dX1_flipPostsWestOf_63 (lv_at hl 4 rfl) ?_
          refine lv_icmp_ge (tgt := 149) hx hb dX1_flipPostsWestOf_65 (by decide) (fun c_3 => ?_) (fun c_3 => ?_)
          · skip
            have nc_3 : flr (Y (nxt nn k)) (Y k) ≤ z := (nI_leI (a := (flr (Y (nxt nn k)) (Y k))) (b := z) (by omega) (by omega)).mp c_3
            have hz9 : z = flr (Y (nxt nn k)) (Y k) := by omega
            rw [← hQ]
            have hP9 := hP
            have hD9 := hD
            exact W.vret hx hb hr (fun t ht hW => ⟨⟨g, rfl, fun y hy x hx => by rw [← hz9]; exact hg y hy x hx, by rw [ht]; exact hP9, hD9⟩, hS.F ht⟩) hS.2.2 dX1_flipPostsWestOf_149
          · skip
            have nc_3 : ¬ (flr (Y (nxt nn k)) (Y k) ≤ z) := fun h => c_3 ((nI_leI (a := (flr (Y (nxt nn k)) (Y k))) (b := z) (by omega) (by omega)).mpr h)
            have hzr : z < flr (Y (nxt nn k)) (Y k) := by omega
            have hfm := flp_m (z := z) hpn hpk (by omega)
            have hpp := fl_isP hpn hpk hzr
            refine lv_aload_n hx hb dX1_flipPostsWestOf_68 rfl (lv_at hl 0 rfl) ?_
            refine va_get (D := D) (ci := 3) (v := .ref ay) (C := RX1) (T := TX1) (N := 3) hx hb hts (by decide +kernel) hown hK hP 0 rfl rfl 1 (by decide) (hts (.fieldLink RX1 13 "LandDeeds$Outline" "ys" "[I") (by decide +kernel)) (fun _ h9 => h9) rfl dX1_flipPostsWestOf_69 ?_
            refine lv_iload hx hb dX1_flipPostsWestOf_72 (lv_at hl 2 rfl) ?_
            refine u_iald hx hb hK hP 2 0 rfl rfl rfl ⟨by omega, by omega⟩ dX1_flipPostsWestOf_74 ?_
            refine lv_iload hx hb dX1_flipPostsWestOf_75 (lv_at hl 5 rfl) ?_
            refine lv_iadd hx hb dX1_flipPostsWestOf_77 ?_
            refine lv_istore (lv' := [(8, .int ((Y (nxt nn k)) + (nI z))), (0, .ref h0), (2, .ref ar), (4, .int (nI (nxt nn k))), (5, .int (nI k)), (6, .int (nI (flr (Y (nxt nn k)) (Y k)))), (7, .int (nI z))]) hx hb dX1_flipPostsWestOf_78 hl (by decide) rfl (fun ls hl => ?_)
            refine lv_aload_n hx hb dX1_flipPostsWestOf_80 rfl (lv_at hl 1 rfl) ?_
            refine va_get (D := D) (ci := 3) (v := .ref ax) (C := RX1) (T := TX1) (N := 3) hx hb hts (by decide +kernel) hown hK hP 0 rfl rfl 0 (by decide) (hts (.fieldLink RX1 7 "LandDeeds$Outline" "xs" "[I") (by decide +kernel)) (fun _ h9 => h9) rfl dX1_flipPostsWestOf_81 ?_
            refine lv_iload hx hb dX1_flipPostsWestOf_84 (lv_at hl 3 rfl) ?_
            refine u_iald hx hb hK hP 1 0 rfl rfl rfl ⟨by omega, by omega⟩ dX1_flipPostsWestOf_86 ?_
            refine lv_aload_n hx hb dX1_flipPostsWestOf_87 rfl (lv_at hl 1 rfl) ?_
            refine va_get (D := D) (ci := 3) (v := .ref ax) (C := RX1) (T := TX1) (N := 3) hx hb hts (by decide +kernel) hown hK hP 0 rfl rfl 0 (by decide) (hts (.fieldLink RX1 7 "LandDeeds$Outline" "xs" "[I") (by decide +kernel)) (fun _ h9 => h9) rfl dX1_flipPostsWestOf_88 ?_
            refine lv_iload hx hb dX1_flipPostsWestOf_91 (lv_at hl 3 rfl) ?_
            refine u_iald hx hb hK hP 1 0 rfl rfl rfl ⟨by omega, by omega⟩ dX1_flipPostsWestOf_93 ?_
            refine lv_aload_n hx hb dX1_flipPostsWestOf_94 rfl (lv_at hl 1 rfl) ?_
            refine va_get (D := D) (ci := 3) (v := .ref ax) (C := RX1) (T := TX1) (N := 3) hx hb hts (by decide +kernel) hown hK hP 0 rfl rfl 0 (by decide) (hts (.fieldLink RX1 7 "LandDeeds$Outline" "xs" "[I") (by decide +kernel)) (fun _ h9 => h9) rfl dX1_flipPostsWestOf_95 ?_
            refine lv_iload hx hb dX1_flipPostsWestOf_98 (lv_at hl 4 rfl) ?_
            refine u_iald hx hb hK hP 1 0 rfl rfl rfl ⟨by omega, by omega⟩ dX1_flipPostsWestOf_100 ?_
            refine lv_isub hx hb dX1_flipPostsWestOf_101 ?_
            refine lv_iload hx hb dX1_flipPostsWestOf_102 (lv_at hl 6 rfl) ?_
            refine lv_imul hx hb dX1_flipPostsWestOf_104 ?_
            refine lv_iload hx hb dX1_flipPostsWestOf_105 (lv_at hl 5 rfl) ?_
            refine u_fdiv hx hb (by rw [hml]; exact hl.1.symm) hown (hts (.methodLink RX1 67 yJ9_floorDiv_7cf53) (by decide +kernel)) (hts (.static yJ9_floorDiv_7cf53) (by decide +kernel)) (hts (.initialized RJ9) (by decide +kernel)) (hts (.code yJ9_floorDiv_7cf53 cJ9_floorDiv_7cf53 3 (some .int)) (by decide +kernel)) (Nat.le_of_ble_eq_true rfl) (Nat.le_of_ble_eq_true rfl) (Nat.zero_le _) (Nat.zero_le _) (by rw [nI_toInt (by omega)]; omega) hfm.2.1 hfm.2.2 dX1_flipPostsWestOf_107 ?_
            refine lv_isub hx hb dX1_flipPostsWestOf_110 ?_
            refine u_eqi (show (X (nxt nn k)) - (fdv (((X (nxt nn k)) - (X k)) * (nI z)) (nI (flr (Y (nxt nn k)) (Y k)))) = flw (X (nxt nn k)) (Y (nxt nn k)) (X k) (Y k) z from rfl) ?_
            refine lv_istore (lv' := [(9, .int (flw (X (nxt nn k)) (Y (nxt nn k)) (X k) (Y k) z)), (8, .int ((Y (nxt nn k)) + (nI z))), (0, .ref h0), (2, .ref ar), (4, .int (nI (nxt nn k))), (5, .int (nI k)), (6, .int (nI (flr (Y (nxt nn k)) (Y k)))), (7, .int (nI z))]) hx hb dX1_flipPostsWestOf_111 hl (by decide) rfl (fun ls hl => ?_)
            refine lv_iload hx hb dX1_flipPostsWestOf_113 (lv_at hl 0 rfl) ?_
            refine lv_iload hx hb dX1_flipPostsWestOf_115 (lv_at hl 1 rfl) ?_
            have hPc := hP.sub (ws' := []) [] rfl
            refine u_callSi (va_runSN (As := [.int (flw (X (nxt nn k)) (Y (nxt nn k)) (X k) (Y k) z), .int ((Y (nxt nn k)) + (nI z))]) (rest := []) ⟨hx, hb, hml, hown, hts⟩ (c_X6_isPost l D cI cB cZ cP (flw (X (nxt nn k)) (Y (nxt nn k)) (X k) (Y k) z) ((Y (nxt nn k)) + (nI z)) ) ⟨va_cnB 2 hts gX1_flipPostsWestOf_X6_isPost_n26 rfl rfl rfl (hW0.n_RX1_26) (hts (.initialized RX6) (by decide +kernel)) (by decide +kernel) ⟨Nat.le_of_ble_eq_true rfl, Nat.le_of_ble_eq_true rfl⟩, (hts (.static yX6_isPost) (by decide +kernel)), trivial⟩ (pS hPc hW0 trivial) rfl rfl hl.1 rfl (lv_room (Nat.le_of_ble_eq_true rfl)) dX1_flipPostsWestOf_117 ⟨Nat.le_of_ble_eq_true rfl, Nat.le_of_ble_eq_true rfl⟩).run ?_
            refine lv_if_eq (tgt := 143) hx hb dX1_flipPostsWestOf_120 (by decide) (fun c_4 => ?_) (fun c_4 => ?_)
            · skip
              have nc_4 := zb_eq0.mp c_4
              exact absurd hpp.1 nc_4
            · skip
              have nc_4 := zb_ne0.mp c_4
              obtain ⟨xx, hxx32, exx⟩ := isP_x nc_4
              obtain ⟨yy, hyy32, eyy⟩ := isP_y nc_4
              rw [exx, eyy] at hl
              refine lv_iload hx hb dX1_flipPostsWestOf_123 (lv_at hl 1 rfl) ?_
              refine lv_aload_n hx hb dX1_flipPostsWestOf_125 rfl (lv_at hl 3 rfl) ?_
              refine va_alen (v := 32) hx hb hK hP 3 0 rfl rfl rfl dX1_flipPostsWestOf_126 ?_
              refine lv_icmp_ge (tgt := 143) hx hb dX1_flipPostsWestOf_127 (by decide) (fun c_5 => ?_) (fun c_5 => ?_)
              · skip
                have nc_5 : 32 ≤ yy := (nI_leI (a := 32) (b := yy) (by omega) (by omega)).mp c_5
                exact absurd nc_5 (by omega)
              · skip
                have nc_5 : ¬ (32 ≤ yy) := fun h => c_5 ((nI_leI (a := 32) (b := yy) (by omega) (by omega)).mpr h)
                refine lv_aload_n hx hb dX1_flipPostsWestOf_130 rfl (lv_at hl 3 rfl) ?_
                refine lv_iload hx hb dX1_flipPostsWestOf_131 (lv_at hl 1 rfl) ?_
                refine lv_dup2_11 hx hb dX1_flipPostsWestOf_133 rfl rfl ?_
                refine u_iald hx hb hK hP 3 0 rfl rfl rfl ⟨by omega, by omega⟩ dX1_flipPostsWestOf_134 ?_
                refine lv_iconst (v := 1) hx hb dX1_flipPostsWestOf_135 (by decide) ?_
                refine lv_iload hx hb dX1_flipPostsWestOf_136 (lv_at hl 0 rfl) ?_
                refine lv_ishl hx hb dX1_flipPostsWestOf_138 ?_
                refine lv_iconst (v := 1) hx hb dX1_flipPostsWestOf_139 (by decide) ?_
                refine lv_isub hx hb dX1_flipPostsWestOf_140 ?_
                refine lv_ixor hx hb dX1_flipPostsWestOf_141 ?_
                refine u_iast hx hb hK hP hD hS 3 0 rfl rfl rfl ⟨by omega, by omega⟩ dX1_flipPostsWestOf_142 (fun H locs hP hD hS => ?_)
                have hP : va_P D vwCl [(h0, .inr (3, [.ref ax, .ref ay, .int (nI nn)])), (ax, .inl (cI, nn, .inl X)), (ay, .inl (cI, nn, .inl Y)), (ar, .inl (cI, 32, .inl (upd g yy ((g yy) ^^^ ((1 <<< ((nI xx) &&& 31)) - 1)))))] H := hP
                have hD : va_D A [(h0, .inr (3, [.ref ax, .ref ay, .int (nI nn)])), (ax, .inl (cI, nn, .inl X)), (ay, .inl (cI, nn, .inl Y)), (ar, .inl (cI, 32, .inl (upd g yy ((g yy) ^^^ ((1 <<< ((nI xx) &&& 31)) - 1)))))] := hD
                refine lv_iinc (v := nI (z + 1)) (lv' := [(7, .int (nI (z + 1))), (9, .int (nI xx)), (8, .int (nI yy)), (0, .ref h0), (2, .ref ar), (4, .int (nI (nxt nn k))), (5, .int (nI k)), (6, .int (nI (flr (Y (nxt nn k)) (Y k))))]) hx hb dX1_flipPostsWestOf_143 hl (k := 7) rfl (nI_1 _) (by decide) rfl (fun ls hl => ?_)
                refine lv_goto (tgt := 61) hx hb dX1_flipPostsWestOf_146 (by decide) ?_
                exact ih_61 (z + 1) (upd g yy ((g yy) ^^^ ((1 <<< ((nI xx) &&& 31)) - 1))) (by omega) (flp_on hg exx eyy hxx32 hyy32 hpp.2) (by omega) _ _ hP hD hS ls (lv_sub hl [3, 4, 5, 6, 7, 0] rfl)
      exact LOOP_61 (flr (Y (nxt nn k)) (Y k) - 0 + 1) 0 fr (Nat.zero_le _) (flp_0 fr) (Nat.lt_succ_self _) _ _ hP hD hS ls (lv_sub hl [5, 7, 3, 2, 1, 0] rfl)
    · skip
      have nc_2 : nxt nn k = k := (nI_eq (a := (nxt nn k)) (b := k) (by omega) (by omega)).mp c_2
      exact absurd nc_2 hne
  · skip
    exact absurd (show Y (nxt nn k) ≤ Y k by rw [Int32.le_iff_toInt_le]; omega) c_1

