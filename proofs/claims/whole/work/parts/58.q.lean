set_option maxHeartbeats 4000000 in
set_option maxRecDepth 100000 in
theorem c_X7_endNumber (l : Launch) (D : va_G) (cI cB cZ cP : ClassId) (sz : Nat) (a : Nat → Nat) (v : Nat → Int32) (su sl : Int64) (F : Nat → Nat → Int32) (nc : Nat) (wy nu : Int32) (rt up : Nat → Int32) (h1 : 1 ≤ nc) (h8 : nc ≤ 8) : Met l yX7_endNumber wsX7_endNumber ({ frames := 0, cells := 0, slots := 0, locals := 0 } : Room) (va_Pc [.ref (a 0)] (fun U => U.heap.size = sz ∧ va_P D vwCl (MW cI cZ a (upd (upd (upd v 7 (nI nc)) 9 wy) 10 nu) su sl (updF (updF F 5 rt) 6 up)) U.heap ∧ KW D cI cB cZ cP U ∧ va_D (fun _ => True) (MW cI cZ a (upd (upd (upd v 7 (nI nc)) 9 wy) 10 nu) su sl (updF (updF F 5 rt) 6 up)) ∧ EF (MW cI cZ a (upd (upd (upd v 7 (nI nc)) 9 wy) 10 nu) su sl (updF (updF F 5 rt) 6 up)) sz E0 U.heap)) (va_Qv (fun (u : (Nat → Int32) × (Nat → Int32)) => match u with | (rt1, up1) => endN nc wy nu rt up rt1 up1) (fun (u : (Nat → Int32) × (Nat → Int32)) (t : State) => match u with | (rt1, up1) => va_P D vwCl (MW cI cZ a (upd (upd (upd v 7 (nI nc)) 9 wy) 10 nu) su sl (updF (updF F 5 rt1) 6 up1)) t.heap ∧ va_D (va_A (MW cI cZ a (upd (upd (upd v 7 (nI nc)) 9 wy) 10 nu) su sl (updF (updF F 5 rt) 6 up)) sz) (MW cI cZ a (upd (upd (upd v 7 (nI nc)) 9 wy) 10 nu) su sl (updF (updF F 5 rt1) 6 up1))) (va_A (MW cI cZ a (upd (upd (upd v 7 (nI nc)) 9 wy) 10 nu) su sl (updF (updF F 5 rt) 6 up)) sz)) 0 0 (va_A (MW cI cZ a (upd (upd (upd v 7 (nI nc)) 9 wy) 10 nu) su sl (updF (updF F 5 rt) 6 up)) sz) := by
  refine Met.ofW (cc := cX7_endNumber) (maxL := 2) (ret := none) (by decide) rfl ?_
  intro p e s m args below meth c s₁ B hml hv
  obtain ⟨rfl, hsz, hP, hW0, hD0, hE⟩ := hv
  have hx := B.exec
  have hb := B.bytes
  have hr := B.returns
  have hts := atoms_spec (ws := wsX7_endNumber) B.pre
  have hown : s.vm.findClass RX7 = some m.cls := findClass_of_methodNamed B.named
  have hlocks := B.notSynchronized
  have hK := hW0.1
  subst hsz
  have hD := hD0.self (sz := s.heap.size)
  unfold EF at hE
  generalize hAe : va_A (MW cI cZ a (upd (upd (upd v 7 (nI nc)) 9 wy) 10 nu) su sl (updF (updF F 5 rt) 6 up)) s.heap.size = A at hD hE ⊢
  have hA : ∀ q : Nat, s.heap.size ≤ q → A q := fun q h => by rw [← hAe]; exact Or.inr h
  have hS : va_S A s.heap s.heap [] := va_S.rf
  have hl := lv_entry ([.ref (a 0)]) (n := 2) (Nat.le_of_ble_eq_true rfl)
  rw [lg_entry_eq]
  generalize (lg_sl ([.ref (a 0)]) ++ List.replicate (2 - (lg_sl ([.ref (a 0)])).length) Slot.unset).toArray = ls at hl ⊢
  have hl : lv_has ls 2 [(0, .ref (a 0))] := hl
  show W p l e ({ frames := 0, cells := 0, slots := 0, locals := 0 } : Room) s m ([.ref (a 0)] : List Value).toArray below meth c s.heap [] 0 0 _ (F0 m 0 ls [])
  refine u_genQ (fun Q hQ => ?_)
  refine lv_aload_n hx hb dX7_endNumber_0 rfl (lv_at hl 0 rfl) ?_
  refine va_get (D := D) (ci := 9) (v := .int wy) (C := RX7) (T := TX7) (N := 24) hx hb hts (by decide +kernel) hown hK hP 0 rfl rfl 9 (by decide) (hts (.fieldLink RX7 51 "LandDeedsModel" "way" "I") (by decide +kernel)) (fun _ h9 => h9) rfl dX7_endNumber_1 ?_
  refine lv_bipush (v := 115) hx hb dX7_endNumber_4 (by decide) ?_
  refine lv_icmp_eq (tgt := 18) hx hb dX7_endNumber_6 (by decide) (fun c_1 => ?_) (fun c_1 => ?_)
  · skip
    refine lv_aload_n hx hb dX7_endNumber_18 rfl (lv_at hl 0 rfl) ?_
    refine va_get (D := D) (ci := 9) (v := .int nu) (C := RX7) (T := TX7) (N := 24) hx hb hts (by decide +kernel) hown hK hP 0 rfl rfl 10 (by decide) (hts (.fieldLink RX7 55 "LandDeedsModel" "number" "I") (by decide +kernel)) (fun _ h9 => h9) rfl dX7_endNumber_19 ?_
    refine lv_ineg hx hb dX7_endNumber_22 ?_
    refine lv_goto (tgt := 30) hx hb dX7_endNumber_23 (by decide) ?_
    refine u_eqi (show -nu = far_ wy nu from by unfold far_; rw [if_pos (by simp [*])]) ?_
    refine lv_istore_n (lv' := [(1, .int (far_ wy nu)), (0, .ref (a 0))]) hx hb dX7_endNumber_30 rfl hl (by decide) rfl (fun ls hl => ?_)
    refine lv_aload_n hx hb dX7_endNumber_31 rfl (lv_at hl 1 rfl) ?_
    refine va_get (D := D) (ci := 9) (v := .int wy) (C := RX7) (T := TX7) (N := 24) hx hb hts (by decide +kernel) hown hK hP 0 rfl rfl 9 (by decide) (hts (.fieldLink RX7 51 "LandDeedsModel" "way" "I") (by decide +kernel)) (fun _ h9 => h9) rfl dX7_endNumber_32 ?_
    refine lv_bipush (v := 110) hx hb dX7_endNumber_35 (by decide) ?_
    refine lv_icmp_eq (tgt := 49) hx hb dX7_endNumber_37 (by decide) (fun c_2 => ?_) (fun c_2 => ?_)
    · skip
      refine lv_aload_n hx hb dX7_endNumber_49 rfl (lv_at hl 1 rfl) ?_
      refine va_get (D := D) (ci := 9) (v := .ref (a 6)) (C := RX7) (T := TX7) (N := 24) hx hb hts (by decide +kernel) hown hK hP 0 rfl rfl 6 (by decide) (hts (.fieldLink RX7 26 "LandDeedsModel" "up" "[I") (by decide +kernel)) (fun _ h9 => h9) rfl dX7_endNumber_50 ?_
      refine lv_aload_n hx hb dX7_endNumber_53 rfl (lv_at hl 1 rfl) ?_
      refine va_get (D := D) (ci := 9) (v := .int (nI nc)) (C := RX7) (T := TX7) (N := 24) hx hb hts (by decide +kernel) hown hK hP 0 rfl rfl 7 (by decide) (hts (.fieldLink RX7 58 "LandDeedsModel" "calls" "I") (by decide +kernel)) (fun _ h9 => h9) rfl dX7_endNumber_54 ?_
      refine lv_iconst (v := 1) hx hb dX7_endNumber_57 (by decide) ?_
      refine lv_isub hx hb dX7_endNumber_58 ?_
      refine u_eqi (show (nI nc) - 1 = nI (nc - 1) from nI_sub1 h1) ?_
      refine lv_iload_n hx hb dX7_endNumber_59 rfl (lv_at hl 0 rfl) ?_
      refine u_iast hx hb hK hP hD hS 6 0 rfl rfl rfl ⟨by omega, by omega⟩ dX7_endNumber_60 (fun H locs hP hD hS => ?_)
      have hP : va_P D vwCl (MW cI cZ a (upd (upd (upd v 7 (nI nc)) 9 wy) 10 nu) su sl (updF (updF F 5 rt) 6 (upd up (nc - 1) (far_ wy nu)))) H := hP
      have hD : va_D A (MW cI cZ a (upd (upd (upd v 7 (nI nc)) 9 wy) 10 nu) su sl (updF (updF F 5 rt) 6 (upd up (nc - 1) (far_ wy nu)))) := hD
      refine lv_goto (tgt := 76) hx hb dX7_endNumber_61 (by decide) ?_
      rw [← hQ]
      have hP9 := hP
      have hD9 := hD
      exact W.vret hx hb hr (fun t ht hW => ⟨⟨(rt, upd up (nc - 1) (far_ wy nu)), rfl, Or.inl ⟨by first | exact Or.inl (by assumption) | exact Or.inr (by assumption), rfl, rfl⟩, by rw [ht]; exact hP9, hD9⟩, hS.F ht⟩) hS.2.2 dX7_endNumber_76
    · skip
      refine lv_aload_n hx hb dX7_endNumber_40 rfl (lv_at hl 1 rfl) ?_
      refine va_get (D := D) (ci := 9) (v := .int wy) (C := RX7) (T := TX7) (N := 24) hx hb hts (by decide +kernel) hown hK hP 0 rfl rfl 9 (by decide) (hts (.fieldLink RX7 51 "LandDeedsModel" "way" "I") (by decide +kernel)) (fun _ h9 => h9) rfl dX7_endNumber_41 ?_
      refine lv_bipush (v := 115) hx hb dX7_endNumber_44 (by decide) ?_
      refine lv_icmp_ne (tgt := 64) hx hb dX7_endNumber_46 (by decide) (fun c_3 => ?_) (fun c_3 => ?_)
      · skip
        refine lv_aload_n hx hb dX7_endNumber_64 rfl (lv_at hl 1 rfl) ?_
        refine va_get (D := D) (ci := 9) (v := .ref (a 5)) (C := RX7) (T := TX7) (N := 24) hx hb hts (by decide +kernel) hown hK hP 0 rfl rfl 5 (by decide) (hts (.fieldLink RX7 23 "LandDeedsModel" "right" "[I") (by decide +kernel)) (fun _ h9 => h9) rfl dX7_endNumber_65 ?_
        refine lv_aload_n hx hb dX7_endNumber_68 rfl (lv_at hl 1 rfl) ?_
        refine va_get (D := D) (ci := 9) (v := .int (nI nc)) (C := RX7) (T := TX7) (N := 24) hx hb hts (by decide +kernel) hown hK hP 0 rfl rfl 7 (by decide) (hts (.fieldLink RX7 58 "LandDeedsModel" "calls" "I") (by decide +kernel)) (fun _ h9 => h9) rfl dX7_endNumber_69 ?_
        refine lv_iconst (v := 1) hx hb dX7_endNumber_72 (by decide) ?_
        refine lv_isub hx hb dX7_endNumber_73 ?_
        refine u_eqi (show (nI nc) - 1 = nI (nc - 1) from nI_sub1 h1) ?_
        refine lv_iload_n hx hb dX7_endNumber_74 rfl (lv_at hl 0 rfl) ?_
        refine u_iast hx hb hK hP hD hS 5 0 rfl rfl rfl ⟨by omega, by omega⟩ dX7_endNumber_75 (fun H locs hP hD hS => ?_)
        have hP : va_P D vwCl (MW cI cZ a (upd (upd (upd v 7 (nI nc)) 9 wy) 10 nu) su sl (updF (updF F 5 (upd rt (nc - 1) (far_ wy nu))) 6 up)) H := hP
        have hD : va_D A (MW cI cZ a (upd (upd (upd v 7 (nI nc)) 9 wy) 10 nu) su sl (updF (updF F 5 (upd rt (nc - 1) (far_ wy nu))) 6 up)) := hD
        rw [← hQ]
        have hP9 := hP
        have hD9 := hD
        exact W.vret hx hb hr (fun t ht hW => ⟨⟨(upd rt (nc - 1) (far_ wy nu), up), rfl, Or.inr ⟨by rintro (h | h) <;> simp_all, rfl, rfl⟩, by rw [ht]; exact hP9, hD9⟩, hS.F ht⟩) hS.2.2 dX7_endNumber_76
      · skip
        refine lv_aload_n hx hb dX7_endNumber_49 rfl (lv_at hl 1 rfl) ?_
        refine va_get (D := D) (ci := 9) (v := .ref (a 6)) (C := RX7) (T := TX7) (N := 24) hx hb hts (by decide +kernel) hown hK hP 0 rfl rfl 6 (by decide) (hts (.fieldLink RX7 26 "LandDeedsModel" "up" "[I") (by decide +kernel)) (fun _ h9 => h9) rfl dX7_endNumber_50 ?_
        refine lv_aload_n hx hb dX7_endNumber_53 rfl (lv_at hl 1 rfl) ?_
        refine va_get (D := D) (ci := 9) (v := .int (nI nc)) (C := RX7) (T := TX7) (N := 24) hx hb hts (by decide +kernel) hown hK hP 0 rfl rfl 7 (by decide) (hts (.fieldLink RX7 58 "LandDeedsModel" "calls" "I") (by decide +kernel)) (fun _ h9 => h9) rfl dX7_endNumber_54 ?_
        refine lv_iconst (v := 1) hx hb dX7_endNumber_57 (by decide) ?_
        refine lv_isub hx hb dX7_endNumber_58 ?_
        refine u_eqi (show (nI nc) - 1 = nI (nc - 1) from nI_sub1 h1) ?_
        refine lv_iload_n hx hb dX7_endNumber_59 rfl (lv_at hl 0 rfl) ?_
        refine u_iast hx hb hK hP hD hS 6 0 rfl rfl rfl ⟨by omega, by omega⟩ dX7_endNumber_60 (fun H locs hP hD hS => ?_)
        have hP : va_P D vwCl (MW cI cZ a (upd (upd (upd v 7 (nI nc)) 9 wy) 10 nu) su sl (updF (updF F 5 rt) 6 (upd up (nc - 1) (far_ wy nu)))) H := hP
        have hD : va_D A (MW cI cZ a (upd (upd (upd v 7 (nI nc)) 9 wy) 10 nu) su sl (updF (updF F 5 rt) 6 (upd up (nc - 1) (far_ wy nu)))) := hD
        refine lv_goto (tgt := 76) hx hb dX7_endNumber_61 (by decide) ?_
        rw [← hQ]
        have hP9 := hP
        have hD9 := hD
        exact W.vret hx hb hr (fun t ht hW => ⟨⟨(rt, upd up (nc - 1) (far_ wy nu)), rfl, Or.inl ⟨by first | exact Or.inl (by assumption) | exact Or.inr (by assumption), rfl, rfl⟩, by rw [ht]; exact hP9, hD9⟩, hS.F ht⟩) hS.2.2 dX7_endNumber_76
  · skip
    refine lv_aload_n hx hb dX7_endNumber_9 rfl (lv_at hl 0 rfl) ?_
    refine va_get (D := D) (ci := 9) (v := .int wy) (C := RX7) (T := TX7) (N := 24) hx hb hts (by decide +kernel) hown hK hP 0 rfl rfl 9 (by decide) (hts (.fieldLink RX7 51 "LandDeedsModel" "way" "I") (by decide +kernel)) (fun _ h9 => h9) rfl dX7_endNumber_10 ?_
    refine lv_bipush (v := 119) hx hb dX7_endNumber_13 (by decide) ?_
    refine lv_icmp_ne (tgt := 26) hx hb dX7_endNumber_15 (by decide) (fun c_4 => ?_) (fun c_4 => ?_)
    · skip
      refine lv_aload_n hx hb dX7_endNumber_26 rfl (lv_at hl 0 rfl) ?_
      refine va_get (D := D) (ci := 9) (v := .int nu) (C := RX7) (T := TX7) (N := 24) hx hb hts (by decide +kernel) hown hK hP 0 rfl rfl 10 (by decide) (hts (.fieldLink RX7 55 "LandDeedsModel" "number" "I") (by decide +kernel)) (fun _ h9 => h9) rfl dX7_endNumber_27 ?_
      refine u_eqi (show nu = far_ wy nu from by unfold far_; rw [if_neg (by simp [*])]) ?_
      refine lv_istore_n (lv' := [(1, .int (far_ wy nu)), (0, .ref (a 0))]) hx hb dX7_endNumber_30 rfl hl (by decide) rfl (fun ls hl => ?_)
      refine lv_aload_n hx hb dX7_endNumber_31 rfl (lv_at hl 1 rfl) ?_
      refine va_get (D := D) (ci := 9) (v := .int wy) (C := RX7) (T := TX7) (N := 24) hx hb hts (by decide +kernel) hown hK hP 0 rfl rfl 9 (by decide) (hts (.fieldLink RX7 51 "LandDeedsModel" "way" "I") (by decide +kernel)) (fun _ h9 => h9) rfl dX7_endNumber_32 ?_
      refine lv_bipush (v := 110) hx hb dX7_endNumber_35 (by decide) ?_
      refine lv_icmp_eq (tgt := 49) hx hb dX7_endNumber_37 (by decide) (fun c_5 => ?_) (fun c_5 => ?_)
      · skip
        refine lv_aload_n hx hb dX7_endNumber_49 rfl (lv_at hl 1 rfl) ?_
        refine va_get (D := D) (ci := 9) (v := .ref (a 6)) (C := RX7) (T := TX7) (N := 24) hx hb hts (by decide +kernel) hown hK hP 0 rfl rfl 6 (by decide) (hts (.fieldLink RX7 26 "LandDeedsModel" "up" "[I") (by decide +kernel)) (fun _ h9 => h9) rfl dX7_endNumber_50 ?_
        refine lv_aload_n hx hb dX7_endNumber_53 rfl (lv_at hl 1 rfl) ?_
        refine va_get (D := D) (ci := 9) (v := .int (nI nc)) (C := RX7) (T := TX7) (N := 24) hx hb hts (by decide +kernel) hown hK hP 0 rfl rfl 7 (by decide) (hts (.fieldLink RX7 58 "LandDeedsModel" "calls" "I") (by decide +kernel)) (fun _ h9 => h9) rfl dX7_endNumber_54 ?_
        refine lv_iconst (v := 1) hx hb dX7_endNumber_57 (by decide) ?_
        refine lv_isub hx hb dX7_endNumber_58 ?_
        refine u_eqi (show (nI nc) - 1 = nI (nc - 1) from nI_sub1 h1) ?_
        refine lv_iload_n hx hb dX7_endNumber_59 rfl (lv_at hl 0 rfl) ?_
        refine u_iast hx hb hK hP hD hS 6 0 rfl rfl rfl ⟨by omega, by omega⟩ dX7_endNumber_60 (fun H locs hP hD hS => ?_)
        have hP : va_P D vwCl (MW cI cZ a (upd (upd (upd v 7 (nI nc)) 9 wy) 10 nu) su sl (updF (updF F 5 rt) 6 (upd up (nc - 1) (far_ wy nu)))) H := hP
        have hD : va_D A (MW cI cZ a (upd (upd (upd v 7 (nI nc)) 9 wy) 10 nu) su sl (updF (updF F 5 rt) 6 (upd up (nc - 1) (far_ wy nu)))) := hD
        refine lv_goto (tgt := 76) hx hb dX7_endNumber_61 (by decide) ?_
        rw [← hQ]
        have hP9 := hP
        have hD9 := hD
        exact W.vret hx hb hr (fun t ht hW => ⟨⟨(rt, upd up (nc - 1) (far_ wy nu)), rfl, Or.inl ⟨by first | exact Or.inl (by assumption) | exact Or.inr (by assumption), rfl, rfl⟩, by rw [ht]; exact hP9, hD9⟩, hS.F ht⟩) hS.2.2 dX7_endNumber_76
      · skip
        refine lv_aload_n hx hb dX7_endNumber_40 rfl (lv_at hl 1 rfl) ?_
        refine va_get (D := D) (ci := 9) (v := .int wy) (C := RX7) (T := TX7) (N := 24) hx hb hts (by decide +kernel) hown hK hP 0 rfl rfl 9 (by decide) (hts (.fieldLink RX7 51 "LandDeedsModel" "way" "I") (by decide +kernel)) (fun _ h9 => h9) rfl dX7_endNumber_41 ?_
        refine lv_bipush (v := 115) hx hb dX7_endNumber_44 (by decide) ?_
        refine lv_icmp_ne (tgt := 64) hx hb dX7_endNumber_46 (by decide) (fun c_6 => ?_) (fun c_6 => ?_)
        · skip
          refine lv_aload_n hx hb dX7_endNumber_64 rfl (lv_at hl 1 rfl) ?_
          refine va_get (D := D) (ci := 9) (v := .ref (a 5)) (C := RX7) (T := TX7) (N := 24) hx hb hts (by decide +kernel) hown hK hP 0 rfl rfl 5 (by decide) (hts (.fieldLink RX7 23 "LandDeedsModel" "right" "[I") (by decide +kernel)) (fun _ h9 => h9) rfl dX7_endNumber_65 ?_
          refine lv_aload_n hx hb dX7_endNumber_68 rfl (lv_at hl 1 rfl) ?_
          refine va_get (D := D) (ci := 9) (v := .int (nI nc)) (C := RX7) (T := TX7) (N := 24) hx hb hts (by decide +kernel) hown hK hP 0 rfl rfl 7 (by decide) (hts (.fieldLink RX7 58 "LandDeedsModel" "calls" "I") (by decide +kernel)) (fun _ h9 => h9) rfl dX7_endNumber_69 ?_
          refine lv_iconst (v := 1) hx hb dX7_endNumber_72 (by decide) ?_
          refine lv_isub hx hb dX7_endNumber_73 ?_
          refine u_eqi (show (nI nc) - 1 = nI (nc - 1) from nI_sub1 h1) ?_
          refine lv_iload_n hx hb dX7_endNumber_74 rfl (lv_at hl 0 rfl) ?_
          refine u_iast hx hb hK hP hD hS 5 0 rfl rfl rfl ⟨by omega, by omega⟩ dX7_endNumber_75 (fun H locs hP hD hS => ?_)
          have hP : va_P D vwCl (MW cI cZ a (upd (upd (upd v 7 (nI nc)) 9 wy) 10 nu) su sl (updF (updF F 5 (upd rt (nc - 1) (far_ wy nu))) 6 up)) H := hP
          have hD : va_D A (MW cI cZ a (upd (upd (upd v 7 (nI nc)) 9 wy) 10 nu) su sl (updF (updF F 5 (upd rt (nc - 1) (far_ wy nu))) 6 up)) := hD
          rw [← hQ]
          have hP9 := hP
          have hD9 := hD
          exact W.vret hx hb hr (fun t ht hW => ⟨⟨(upd rt (nc - 1) (far_ wy nu), up), rfl, Or.inr ⟨by rintro (h | h) <;> simp_all, rfl, rfl⟩, by rw [ht]; exact hP9, hD9⟩, hS.F ht⟩) hS.2.2 dX7_endNumber_76
        · skip
          refine lv_aload_n hx hb dX7_endNumber_49 rfl (lv_at hl 1 rfl) ?_
          refine va_get (D := D) (ci := 9) (v := .ref (a 6)) (C := RX7) (T := TX7) (N := 24) hx hb hts (by decide +kernel) hown hK hP 0 rfl rfl 6 (by decide) (hts (.fieldLink RX7 26 "LandDeedsModel" "up" "[I") (by decide +kernel)) (fun _ h9 => h9) rfl dX7_endNumber_50 ?_
          refine lv_aload_n hx hb dX7_endNumber_53 rfl (lv_at hl 1 rfl) ?_
          refine va_get (D := D) (ci := 9) (v := .int (nI nc)) (C := RX7) (T := TX7) (N := 24) hx hb hts (by decide +kernel) hown hK hP 0 rfl rfl 7 (by decide) (hts (.fieldLink RX7 58 "LandDeedsModel" "calls" "I") (by decide +kernel)) (fun _ h9 => h9) rfl dX7_endNumber_54 ?_
          refine lv_iconst (v := 1) hx hb dX7_endNumber_57 (by decide) ?_
          refine lv_isub hx hb dX7_endNumber_58 ?_
          refine u_eqi (show (nI nc) - 1 = nI (nc - 1) from nI_sub1 h1) ?_
          refine lv_iload_n hx hb dX7_endNumber_59 rfl (lv_at hl 0 rfl) ?_
          refine u_iast hx hb hK hP hD hS 6 0 rfl rfl rfl ⟨by omega, by omega⟩ dX7_endNumber_60 (fun H locs hP hD hS => ?_)
          have hP : va_P D vwCl (MW cI cZ a (upd (upd (upd v 7 (nI nc)) 9 wy) 10 nu) su sl (updF (updF F 5 rt) 6 (upd up (nc - 1) (far_ wy nu)))) H := hP
          have hD : va_D A (MW cI cZ a (upd (upd (upd v 7 (nI nc)) 9 wy) 10 nu) su sl (updF (updF F 5 rt) 6 (upd up (nc - 1) (far_ wy nu)))) := hD
          refine lv_goto (tgt := 76) hx hb dX7_endNumber_61 (by decide) ?_
          rw [← hQ]
          have hP9 := hP
          have hD9 := hD
          exact W.vret hx hb hr (fun t ht hW => ⟨⟨(rt, upd up (nc - 1) (far_ wy nu)), rfl, Or.inl ⟨by first | exact Or.inl (by assumption) | exact Or.inr (by assumption), rfl, rfl⟩, by rw [ht]; exact hP9, hD9⟩, hS.F ht⟩) hS.2.2 dX7_endNumber_76
    · skip
      refine lv_aload_n hx hb dX7_endNumber_18 rfl (lv_at hl 0 rfl) ?_
      refine va_get (D := D) (ci := 9) (v := .int nu) (C := RX7) (T := TX7) (N := 24) hx hb hts (by decide +kernel) hown hK hP 0 rfl rfl 10 (by decide) (hts (.fieldLink RX7 55 "LandDeedsModel" "number" "I") (by decide +kernel)) (fun _ h9 => h9) rfl dX7_endNumber_19 ?_
      refine lv_ineg hx hb dX7_endNumber_22 ?_
      refine lv_goto (tgt := 30) hx hb dX7_endNumber_23 (by decide) ?_
      refine u_eqi (show -nu = far_ wy nu from by unfold far_; rw [if_pos (by simp [*])]) ?_
      refine lv_istore_n (lv' := [(1, .int (far_ wy nu)), (0, .ref (a 0))]) hx hb dX7_endNumber_30 rfl hl (by decide) rfl (fun ls hl => ?_)
      refine lv_aload_n hx hb dX7_endNumber_31 rfl (lv_at hl 1 rfl) ?_
      refine va_get (D := D) (ci := 9) (v := .int wy) (C := RX7) (T := TX7) (N := 24) hx hb hts (by decide +kernel) hown hK hP 0 rfl rfl 9 (by decide) (hts (.fieldLink RX7 51 "LandDeedsModel" "way" "I") (by decide +kernel)) (fun _ h9 => h9) rfl dX7_endNumber_32 ?_
      refine lv_bipush (v := 110) hx hb dX7_endNumber_35 (by decide) ?_
      refine lv_icmp_eq (tgt := 49) hx hb dX7_endNumber_37 (by decide) (fun c_7 => ?_) (fun c_7 => ?_)
      · skip
        refine lv_aload_n hx hb dX7_endNumber_49 rfl (lv_at hl 1 rfl) ?_
        refine va_get (D := D) (ci := 9) (v := .ref (a 6)) (C := RX7) (T := TX7) (N := 24) hx hb hts (by decide +kernel) hown hK hP 0 rfl rfl 6 (by decide) (hts (.fieldLink RX7 26 "LandDeedsModel" "up" "[I") (by decide +kernel)) (fun _ h9 => h9) rfl dX7_endNumber_50 ?_
        refine lv_aload_n hx hb dX7_endNumber_53 rfl (lv_at hl 1 rfl) ?_
        refine va_get (D := D) (ci := 9) (v := .int (nI nc)) (C := RX7) (T := TX7) (N := 24) hx hb hts (by decide +kernel) hown hK hP 0 rfl rfl 7 (by decide) (hts (.fieldLink RX7 58 "LandDeedsModel" "calls" "I") (by decide +kernel)) (fun _ h9 => h9) rfl dX7_endNumber_54 ?_
        refine lv_iconst (v := 1) hx hb dX7_endNumber_57 (by decide) ?_
        refine lv_isub hx hb dX7_endNumber_58 ?_
        refine u_eqi (show (nI nc) - 1 = nI (nc - 1) from nI_sub1 h1) ?_
        refine lv_iload_n hx hb dX7_endNumber_59 rfl (lv_at hl 0 rfl) ?_
        refine u_iast hx hb hK hP hD hS 6 0 rfl rfl rfl ⟨by omega, by omega⟩ dX7_endNumber_60 (fun H locs hP hD hS => ?_)
        have hP : va_P D vwCl (MW cI cZ a (upd (upd (upd v 7 (nI nc)) 9 wy) 10 nu) su sl (updF (updF F 5 rt) 6 (upd up (nc - 1) (far_ wy nu)))) H := hP
        have hD : va_D A (MW cI cZ a (upd (upd (upd v 7 (nI nc)) 9 wy) 10 nu) su sl (updF (updF F 5 rt) 6 (upd up (nc - 1) (far_ wy nu)))) := hD
        refine lv_goto (tgt := 76) hx hb dX7_endNumber_61 (by decide) ?_
        rw [← hQ]
        have hP9 := hP
        have hD9 := hD
        exact W.vret hx hb hr (fun t ht hW => ⟨⟨(rt, upd up (nc - 1) (far_ wy nu)), rfl, Or.inl ⟨by first | exact Or.inl (by assumption) | exact Or.inr (by assumption), rfl, rfl⟩, by rw [ht]; exact hP9, hD9⟩, hS.F ht⟩) hS.2.2 dX7_endNumber_76
      · skip
        refine lv_aload_n hx hb dX7_endNumber_40 rfl (lv_at hl 1 rfl) ?_
        refine va_get (D := D) (ci := 9) (v := .int wy) (C := RX7) (T := TX7) (N := 24) hx hb hts (by decide +kernel) hown hK hP 0 rfl rfl 9 (by decide) (hts (.fieldLink RX7 51 "LandDeedsModel" "way" "I") (by decide +kernel)) (fun _ h9 => h9) rfl dX7_endNumber_41 ?_
        refine lv_bipush (v := 115) hx hb dX7_endNumber_44 (by decide) ?_
        refine lv_icmp_ne (tgt := 64) hx hb dX7_endNumber_46 (by decide) (fun c_8 => ?_) (fun c_8 => ?_)
        · skip
          refine lv_aload_n hx hb dX7_endNumber_64 rfl (lv_at hl 1 rfl) ?_
          refine va_get (D := D) (ci := 9) (v := .ref (a 5)) (C := RX7) (T := TX7) (N := 24) hx hb hts (by decide +kernel) hown hK hP 0 rfl rfl 5 (by decide) (hts (.fieldLink RX7 23 "LandDeedsModel" "right" "[I") (by decide +kernel)) (fun _ h9 => h9) rfl dX7_endNumber_65 ?_
          refine lv_aload_n hx hb dX7_endNumber_68 rfl (lv_at hl 1 rfl) ?_
          refine va_get (D := D) (ci := 9) (v := .int (nI nc)) (C := RX7) (T := TX7) (N := 24) hx hb hts (by decide +kernel) hown hK hP 0 rfl rfl 7 (by decide) (hts (.fieldLink RX7 58 "LandDeedsModel" "calls" "I") (by decide +kernel)) (fun _ h9 => h9) rfl dX7_endNumber_69 ?_
          refine lv_iconst (v := 1) hx hb dX7_endNumber_72 (by decide) ?_
          refine lv_isub hx hb dX7_endNumber_73 ?_
          refine u_eqi (show (nI nc) - 1 = nI (nc - 1) from nI_sub1 h1) ?_
          refine lv_iload_n hx hb dX7_endNumber_74 rfl (lv_at hl 0 rfl) ?_
          refine u_iast hx hb hK hP hD hS 5 0 rfl rfl rfl ⟨by omega, by omega⟩ dX7_endNumber_75 (fun H locs hP hD hS => ?_)
          have hP : va_P D vwCl (MW cI cZ a (upd (upd (upd v 7 (nI nc)) 9 wy) 10 nu) su sl (updF (updF F 5 (upd rt (nc - 1) (far_ wy nu))) 6 up)) H := hP
          have hD : va_D A (MW cI cZ a (upd (upd (upd v 7 (nI nc)) 9 wy) 10 nu) su sl (updF (updF F 5 (upd rt (nc - 1) (far_ wy nu))) 6 up)) := hD
          rw [← hQ]
          have hP9 := hP
          have hD9 := hD
          exact W.vret hx hb hr (fun t ht hW => ⟨⟨(upd rt (nc - 1) (far_ wy nu), up), rfl, Or.inr ⟨by rintro (h | h) <;> simp_all, rfl, rfl⟩, by rw [ht]; exact hP9, hD9⟩, hS.F ht⟩) hS.2.2 dX7_endNumber_76
        · skip
          refine lv_aload_n hx hb dX7_endNumber_49 rfl (lv_at hl 1 rfl) ?_
          refine va_get (D := D) (ci := 9) (v := .ref (a 6)) (C := RX7) (T := TX7) (N := 24) hx hb hts (by decide +kernel) hown hK hP 0 rfl rfl 6 (by decide) (hts (.fieldLink RX7 26 "LandDeedsModel" "up" "[I") (by decide +kernel)) (fun _ h9 => h9) rfl dX7_endNumber_50 ?_
          refine lv_aload_n hx hb dX7_endNumber_53 rfl (lv_at hl 1 rfl) ?_
          refine va_get (D := D) (ci := 9) (v := .int (nI nc)) (C := RX7) (T := TX7) (N := 24) hx hb hts (by decide +kernel) hown hK hP 0 rfl rfl 7 (by decide) (hts (.fieldLink RX7 58 "LandDeedsModel" "calls" "I") (by decide +kernel)) (fun _ h9 => h9) rfl dX7_endNumber_54 ?_
          refine lv_iconst (v := 1) hx hb dX7_endNumber_57 (by decide) ?_
          refine lv_isub hx hb dX7_endNumber_58 ?_
          refine u_eqi (show (nI nc) - 1 = nI (nc - 1) from nI_sub1 h1) ?_
          refine lv_iload_n hx hb dX7_endNumber_59 rfl (lv_at hl 0 rfl) ?_
          refine u_iast hx hb hK hP hD hS 6 0 rfl rfl rfl ⟨by omega, by omega⟩ dX7_endNumber_60 (fun H locs hP hD hS => ?_)
          have hP : va_P D vwCl (MW cI cZ a (upd (upd (upd v 7 (nI nc)) 9 wy) 10 nu) su sl (updF (updF F 5 rt) 6 (upd up (nc - 1) (far_ wy nu)))) H := hP
          have hD : va_D A (MW cI cZ a (upd (upd (upd v 7 (nI nc)) 9 wy) 10 nu) su sl (updF (updF F 5 rt) 6 (upd up (nc - 1) (far_ wy nu)))) := hD
          refine lv_goto (tgt := 76) hx hb dX7_endNumber_61 (by decide) ?_
          rw [← hQ]
          have hP9 := hP
          have hD9 := hD
          exact W.vret hx hb hr (fun t ht hW => ⟨⟨(rt, upd up (nc - 1) (far_ wy nu)), rfl, Or.inl ⟨by first | exact Or.inl (by assumption) | exact Or.inr (by assumption), rfl, rfl⟩, by rw [ht]; exact hP9, hD9⟩, hS.F ht⟩) hS.2.2 dX7_endNumber_76

set_option maxHeartbeats 4000000 in
set_option maxRecDepth 100000 in
theorem c_X7_begins (l : Launch) (D : va_G) (cI cB cZ cP : ClassId) (sz : Nat) (a : Nat → Nat) (v : Nat → Int32) (su sl : Int64) (F : Nat → Nat → Int32) (nc at_ : Nat) (wy nu : Int32) (rt up : Nat → Int32) (Sx : TS) (x : Int32) (hM : MRel nc at_ wy nu rt up Sx) (ha : at_ = 0) : Met l yX7_begins wsX7_begins ({ frames := 0, cells := 0, slots := 0, locals := 0 } : Room) (va_Pc [.ref (a 0), .int x] (fun U => U.heap.size = sz ∧ va_P D vwCl (MW cI cZ a (upd (upd (upd (upd v 7 (nI nc)) 8 (nI at_)) 9 wy) 10 nu) su sl (updF (updF F 5 rt) 6 up)) U.heap ∧ KW D cI cB cZ cP U ∧ va_D (fun _ => True) (MW cI cZ a (upd (upd (upd (upd v 7 (nI nc)) 8 (nI at_)) 9 wy) 10 nu) su sl (updF (updF F 5 rt) 6 up)) ∧ EF (MW cI cZ a (upd (upd (upd (upd v 7 (nI nc)) 8 (nI at_)) 9 wy) 10 nu) su sl (updF (updF F 5 rt) 6 up)) sz E0 U.heap)) (va_Qi (fun r (u : Nat × Nat × Int32 × Int32 × (Nat → Int32) × (Nat → Int32)) => match u with | (nc1, at1, wy1, nu1, rt1, up1) => rdR x Sx nc1 at1 wy1 nu1 rt1 up1 r) (fun (u : Nat × Nat × Int32 × Int32 × (Nat → Int32) × (Nat → Int32)) (t : State) => match u with | (nc1, at1, wy1, nu1, rt1, up1) => va_P D vwCl (MW cI cZ a (upd (upd (upd (upd v 7 (nI nc1)) 8 (nI at1)) 9 wy1) 10 nu1) su sl (updF (updF F 5 rt1) 6 up1)) t.heap ∧ va_D (va_A (MW cI cZ a (upd (upd (upd (upd v 7 (nI nc)) 8 (nI at_)) 9 wy) 10 nu) su sl (updF (updF F 5 rt) 6 up)) sz) (MW cI cZ a (upd (upd (upd (upd v 7 (nI nc1)) 8 (nI at1)) 9 wy1) 10 nu1) su sl (updF (updF F 5 rt1) 6 up1))) (va_A (MW cI cZ a (upd (upd (upd (upd v 7 (nI nc)) 8 (nI at_)) 9 wy) 10 nu) su sl (updF (updF F 5 rt) 6 up)) sz)) 0 0 (va_A (MW cI cZ a (upd (upd (upd (upd v 7 (nI nc)) 8 (nI at_)) 9 wy) 10 nu) su sl (updF (updF F 5 rt) 6 up)) sz) := by
  refine Met.ofW (cc := cX7_begins) (maxL := 3) (ret := (some .boolean)) (by decide) rfl ?_
  intro p e s m args below meth c s₁ B hml hv
  obtain ⟨rfl, hsz, hP, hW0, hD0, hE⟩ := hv
  have hx := B.exec
  have hb := B.bytes
  have hr := B.returns
  have hts := atoms_spec (ws := wsX7_begins) B.pre
  have hown : s.vm.findClass RX7 = some m.cls := findClass_of_methodNamed B.named
  have hlocks := B.notSynchronized
  have hK := hW0.1
  subst hsz
  have hD := hD0.self (sz := s.heap.size)
  unfold EF at hE
  generalize hAe : va_A (MW cI cZ a (upd (upd (upd (upd v 7 (nI nc)) 8 (nI at_)) 9 wy) 10 nu) su sl (updF (updF F 5 rt) 6 up)) s.heap.size = A at hD hE ⊢
  have hA : ∀ q : Nat, s.heap.size ≤ q → A q := fun q h => by rw [← hAe]; exact Or.inr h
  have hS : va_S A s.heap s.heap [] := va_S.rf
  have hl := lv_entry ([.ref (a 0), .int x]) (n := 3) (Nat.le_of_ble_eq_true rfl)
  rw [lg_entry_eq]
  generalize (lg_sl ([.ref (a 0), .int x]) ++ List.replicate (3 - (lg_sl ([.ref (a 0), .int x])).length) Slot.unset).toArray = ls at hl ⊢
  have hl : lv_has ls 3 [(0, .ref (a 0)), (1, .int x)] := hl
  show W p l e ({ frames := 0, cells := 0, slots := 0, locals := 0 } : Room) s m ([.ref (a 0), .int x] : List Value).toArray below meth c s.heap [] 0 0 _ (F0 m 0 ls [])
  refine u_genQ (fun Q hQ => ?_)
  have hM9 : MRel nc 0 wy nu rt up Sx := ha ▸ hM
  have h89 := (MRel_at hM9).2.2.2 rfl
  refine lv_iload_n hx hb dX7_begins_0 rfl (lv_at hl 1 rfl) ?_
  refine lv_bipush (v := 110) hx hb dX7_begins_1 (by decide) ?_
  refine lv_icmp_eq (tgt := 12) hx hb dX7_begins_3 (by decide) (fun c_1 => ?_) (fun c_1 => ?_)
  · skip
    refine lv_iconst (v := 1) hx hb dX7_begins_12 (by decide) ?_
    refine lv_goto (tgt := 17) hx hb dX7_begins_13 (by decide) ?_
    refine lv_istore_n (lv' := [(2, .int 1), (0, .ref (a 0)), (1, .int x)]) hx hb dX7_begins_17 rfl hl (by decide) rfl (fun ls hl => ?_)
    refine lv_iload_n hx hb dX7_begins_18 rfl (lv_at hl 0 rfl) ?_
    refine lv_if_ne (tgt := 36) hx hb dX7_begins_19 (by decide) (fun c_2 => ?_) (fun c_2 => ?_)
    · skip
      refine lv_aload_n hx hb dX7_begins_36 rfl (lv_at hl 1 rfl) ?_
      refine va_get (D := D) (ci := 9) (v := .ref (a 6)) (C := RX7) (T := TX7) (N := 24) hx hb hts (by decide +kernel) hown hK hP 0 rfl rfl 6 (by decide) (hts (.fieldLink RX7 26 "LandDeedsModel" "up" "[I") (by decide +kernel)) (fun _ h9 => h9) rfl dX7_begins_37 ?_
      refine lv_aload_n hx hb dX7_begins_40 rfl (lv_at hl 1 rfl) ?_
      refine va_get (D := D) (ci := 9) (v := .int (nI nc)) (C := RX7) (T := TX7) (N := 24) hx hb hts (by decide +kernel) hown hK hP 0 rfl rfl 7 (by decide) (hts (.fieldLink RX7 58 "LandDeedsModel" "calls" "I") (by decide +kernel)) (fun _ h9 => h9) rfl dX7_begins_41 ?_
      refine lv_iconst (v := 0) hx hb dX7_begins_44 (by decide) ?_
      refine u_iast hx hb hK hP hD hS 6 0 rfl rfl rfl ⟨by omega, by omega⟩ dX7_begins_45 (fun H locs hP hD hS => ?_)
      have hP : va_P D vwCl (MW cI cZ a (upd (upd (upd (upd v 7 (nI nc)) 8 (nI at_)) 9 wy) 10 nu) su sl (updF (updF F 5 rt) 6 (upd up nc 0))) H := hP
      have hD : va_D A (MW cI cZ a (upd (upd (upd (upd v 7 (nI nc)) 8 (nI at_)) 9 wy) 10 nu) su sl (updF (updF F 5 rt) 6 (upd up nc 0))) := hD
      refine lv_aload_n hx hb dX7_begins_46 rfl (lv_at hl 1 rfl) ?_
      refine va_get (D := D) (ci := 9) (v := .ref (a 5)) (C := RX7) (T := TX7) (N := 24) hx hb hts (by decide +kernel) hown hK hP 0 rfl rfl 5 (by decide) (hts (.fieldLink RX7 23 "LandDeedsModel" "right" "[I") (by decide +kernel)) (fun _ h9 => h9) rfl dX7_begins_47 ?_
      refine lv_aload_n hx hb dX7_begins_50 rfl (lv_at hl 1 rfl) ?_
      refine va_get (D := D) (ci := 9) (v := .int (nI nc)) (C := RX7) (T := TX7) (N := 24) hx hb hts (by decide +kernel) hown hK hP 0 rfl rfl 7 (by decide) (hts (.fieldLink RX7 58 "LandDeedsModel" "calls" "I") (by decide +kernel)) (fun _ h9 => h9) rfl dX7_begins_51 ?_
      refine lv_iconst (v := 0) hx hb dX7_begins_54 (by decide) ?_
      refine u_iast hx hb hK hP hD hS 5 0 rfl rfl rfl ⟨by omega, by omega⟩ dX7_begins_55 (fun H locs hP hD hS => ?_)
      have hP : va_P D vwCl (MW cI cZ a (upd (upd (upd (upd v 7 (nI nc)) 8 (nI at_)) 9 wy) 10 nu) su sl (updF (updF F 5 (upd rt nc 0)) 6 (upd up nc 0))) H := hP
      have hD : va_D A (MW cI cZ a (upd (upd (upd (upd v 7 (nI nc)) 8 (nI at_)) 9 wy) 10 nu) su sl (updF (updF F 5 (upd rt nc 0)) 6 (upd up nc 0))) := hD
      refine lv_aload_n hx hb dX7_begins_56 rfl (lv_at hl 1 rfl) ?_
      refine lv_dup hx hb dX7_begins_57 rfl ?_
      refine va_get (D := D) (ci := 9) (v := .int (nI nc)) (C := RX7) (T := TX7) (N := 24) hx hb hts (by decide +kernel) hown hK hP 0 rfl rfl 7 (by decide) (hts (.fieldLink RX7 58 "LandDeedsModel" "calls" "I") (by decide +kernel)) (fun _ h9 => h9) rfl dX7_begins_58 ?_
      refine lv_iconst (v := 1) hx hb dX7_begins_61 (by decide) ?_
      refine lv_iadd hx hb dX7_begins_62 ?_
      refine u_eqi (show (nI nc) + 1 = nI (nc + 1) from nI_1 nc) ?_
      refine va_put (D := D) (ci := 9) (v := .int (nI (nc + 1))) (ty := .int) (C := RX7) (T := TX7) (N := 24) hx hb hts (by decide +kernel) tyX7 tyX7_ok nmX7 hown hK hP hD hS 0 rfl rfl 7 (by decide) (hts (.fieldLink RX7 58 "LandDeedsModel" "calls" "I") (by decide +kernel)) (fun _ h9 => h9) rfl (by decide +kernel) rfl rfl (Nat.le_of_ble_eq_true rfl) dX7_begins_63 (fun H locs hP hD hS => ?_)
      have hP : va_P D vwCl (MW cI cZ a (upd (upd (upd (upd v 7 (nI (nc + 1))) 8 (nI at_)) 9 wy) 10 nu) su sl (updF (updF F 5 (upd rt nc 0)) 6 (upd up nc 0))) H := hP
      have hD : va_D A (MW cI cZ a (upd (upd (upd (upd v 7 (nI (nc + 1))) 8 (nI at_)) 9 wy) 10 nu) su sl (updF (updF F 5 (upd rt nc 0)) 6 (upd up nc 0))) := hD
      refine lv_aload_n hx hb dX7_begins_66 rfl (lv_at hl 1 rfl) ?_
      refine lv_iload_n hx hb dX7_begins_67 rfl (lv_at hl 2 rfl) ?_
      refine va_put (D := D) (ci := 9) (v := .int x) (ty := .int) (C := RX7) (T := TX7) (N := 24) hx hb hts (by decide +kernel) tyX7 tyX7_ok nmX7 hown hK hP hD hS 0 rfl rfl 9 (by decide) (hts (.fieldLink RX7 51 "LandDeedsModel" "way" "I") (by decide +kernel)) (fun _ h9 => h9) rfl (by decide +kernel) rfl rfl (Nat.le_of_ble_eq_true rfl) dX7_begins_68 (fun H locs hP hD hS => ?_)
      have hP : va_P D vwCl (MW cI cZ a (upd (upd (upd (upd v 7 (nI (nc + 1))) 8 (nI at_)) 9 x) 10 nu) su sl (updF (updF F 5 (upd rt nc 0)) 6 (upd up nc 0))) H := hP
      have hD : va_D A (MW cI cZ a (upd (upd (upd (upd v 7 (nI (nc + 1))) 8 (nI at_)) 9 x) 10 nu) su sl (updF (updF F 5 (upd rt nc 0)) 6 (upd up nc 0))) := hD
      refine lv_aload_n hx hb dX7_begins_71 rfl (lv_at hl 1 rfl) ?_
      refine lv_iconst (v := 0) hx hb dX7_begins_72 (by decide) ?_
      refine va_put (D := D) (ci := 9) (v := .int 0) (ty := .int) (C := RX7) (T := TX7) (N := 24) hx hb hts (by decide +kernel) tyX7 tyX7_ok nmX7 hown hK hP hD hS 0 rfl rfl 10 (by decide) (hts (.fieldLink RX7 55 "LandDeedsModel" "number" "I") (by decide +kernel)) (fun _ h9 => h9) rfl (by decide +kernel) rfl rfl (Nat.le_of_ble_eq_true rfl) dX7_begins_73 (fun H locs hP hD hS => ?_)
      have hP : va_P D vwCl (MW cI cZ a (upd (upd (upd (upd v 7 (nI (nc + 1))) 8 (nI at_)) 9 x) 10 0) su sl (updF (updF F 5 (upd rt nc 0)) 6 (upd up nc 0))) H := hP
      have hD : va_D A (MW cI cZ a (upd (upd (upd (upd v 7 (nI (nc + 1))) 8 (nI at_)) 9 x) 10 0) su sl (updF (updF F 5 (upd rt nc 0)) 6 (upd up nc 0))) := hD
      refine lv_aload_n hx hb dX7_begins_76 rfl (lv_at hl 1 rfl) ?_
      refine lv_iload_n hx hb dX7_begins_77 rfl (lv_at hl 0 rfl) ?_
      refine lv_if_eq (tgt := 85) hx hb dX7_begins_78 (by decide) (fun c_3 => ?_) (fun c_3 => ?_)
      · skip
        exact absurd c_3 (by decide)
      · skip
        refine lv_iconst (v := 1) hx hb dX7_begins_81 (by decide) ?_
        refine lv_goto (tgt := 86) hx hb dX7_begins_82 (by decide) ?_
        refine va_put (D := D) (ci := 9) (v := .int 1) (ty := .int) (C := RX7) (T := TX7) (N := 24) hx hb hts (by decide +kernel) tyX7 tyX7_ok nmX7 hown hK hP hD hS 0 rfl rfl 8 (by decide) (hts (.fieldLink RX7 61 "LandDeedsModel" "at" "I") (by decide +kernel)) (fun _ h9 => h9) rfl (by decide +kernel) rfl rfl (Nat.le_of_ble_eq_true rfl) dX7_begins_86 (fun H locs hP hD hS => ?_)
        have hP : va_P D vwCl (MW cI cZ a (upd (upd (upd (upd v 7 (nI (nc + 1))) 8 1) 9 x) 10 0) su sl (updF (updF F 5 (upd rt nc 0)) 6 (upd up nc 0))) H := hP
        have hD : va_D A (MW cI cZ a (upd (upd (upd (upd v 7 (nI (nc + 1))) 8 1) 9 x) 10 0) su sl (updF (updF F 5 (upd rt nc 0)) 6 (upd up nc 0))) := hD
        refine lv_iconst (v := 1) hx hb dX7_begins_89 (by decide) ?_
        rw [← hQ]
        have hP9 := hP
        have hD9 := hD
        exact W.zret (v := 1) hx hb hr (by decide) (fun t ht hW => ⟨⟨_, ((nc + 1), 1, x, 0, upd rt nc 0, upd up nc 0), rfl, Or.inl ⟨rfl, rd_bn hM9 (by simp [*])⟩, by rw [ht]; exact hP9, hD9⟩, hS.F ht⟩) hS.2.2 dX7_begins_90
    · skip
      exact absurd c_2 (by decide)
  · skip
    refine lv_iload_n hx hb dX7_begins_6 rfl (lv_at hl 1 rfl) ?_
    refine lv_bipush (v := 115) hx hb dX7_begins_7 (by decide) ?_
    refine lv_icmp_ne (tgt := 16) hx hb dX7_begins_9 (by decide) (fun c_4 => ?_) (fun c_4 => ?_)
    · skip
      refine lv_iconst (v := 0) hx hb dX7_begins_16 (by decide) ?_
      refine lv_istore_n (lv' := [(2, .int 0), (0, .ref (a 0)), (1, .int x)]) hx hb dX7_begins_17 rfl hl (by decide) rfl (fun ls hl => ?_)
      refine lv_iload_n hx hb dX7_begins_18 rfl (lv_at hl 0 rfl) ?_
      refine lv_if_ne (tgt := 36) hx hb dX7_begins_19 (by decide) (fun c_5 => ?_) (fun c_5 => ?_)
      · skip
        exact absurd rfl c_5
      · skip
        refine lv_iload_n hx hb dX7_begins_22 rfl (lv_at hl 2 rfl) ?_
        refine lv_bipush (v := 101) hx hb dX7_begins_23 (by decide) ?_
        refine lv_icmp_eq (tgt := 36) hx hb dX7_begins_25 (by decide) (fun c_6 => ?_) (fun c_6 => ?_)
        · skip
          refine lv_aload_n hx hb dX7_begins_36 rfl (lv_at hl 1 rfl) ?_
          refine va_get (D := D) (ci := 9) (v := .ref (a 6)) (C := RX7) (T := TX7) (N := 24) hx hb hts (by decide +kernel) hown hK hP 0 rfl rfl 6 (by decide) (hts (.fieldLink RX7 26 "LandDeedsModel" "up" "[I") (by decide +kernel)) (fun _ h9 => h9) rfl dX7_begins_37 ?_
          refine lv_aload_n hx hb dX7_begins_40 rfl (lv_at hl 1 rfl) ?_
          refine va_get (D := D) (ci := 9) (v := .int (nI nc)) (C := RX7) (T := TX7) (N := 24) hx hb hts (by decide +kernel) hown hK hP 0 rfl rfl 7 (by decide) (hts (.fieldLink RX7 58 "LandDeedsModel" "calls" "I") (by decide +kernel)) (fun _ h9 => h9) rfl dX7_begins_41 ?_
          refine lv_iconst (v := 0) hx hb dX7_begins_44 (by decide) ?_
          refine u_iast hx hb hK hP hD hS 6 0 rfl rfl rfl ⟨by omega, by omega⟩ dX7_begins_45 (fun H locs hP hD hS => ?_)
          have hP : va_P D vwCl (MW cI cZ a (upd (upd (upd (upd v 7 (nI nc)) 8 (nI at_)) 9 wy) 10 nu) su sl (updF (updF F 5 rt) 6 (upd up nc 0))) H := hP
          have hD : va_D A (MW cI cZ a (upd (upd (upd (upd v 7 (nI nc)) 8 (nI at_)) 9 wy) 10 nu) su sl (updF (updF F 5 rt) 6 (upd up nc 0))) := hD
          refine lv_aload_n hx hb dX7_begins_46 rfl (lv_at hl 1 rfl) ?_
          refine va_get (D := D) (ci := 9) (v := .ref (a 5)) (C := RX7) (T := TX7) (N := 24) hx hb hts (by decide +kernel) hown hK hP 0 rfl rfl 5 (by decide) (hts (.fieldLink RX7 23 "LandDeedsModel" "right" "[I") (by decide +kernel)) (fun _ h9 => h9) rfl dX7_begins_47 ?_
          refine lv_aload_n hx hb dX7_begins_50 rfl (lv_at hl 1 rfl) ?_
          refine va_get (D := D) (ci := 9) (v := .int (nI nc)) (C := RX7) (T := TX7) (N := 24) hx hb hts (by decide +kernel) hown hK hP 0 rfl rfl 7 (by decide) (hts (.fieldLink RX7 58 "LandDeedsModel" "calls" "I") (by decide +kernel)) (fun _ h9 => h9) rfl dX7_begins_51 ?_
          refine lv_iconst (v := 0) hx hb dX7_begins_54 (by decide) ?_
          refine u_iast hx hb hK hP hD hS 5 0 rfl rfl rfl ⟨by omega, by omega⟩ dX7_begins_55 (fun H locs hP hD hS => ?_)
          have hP : va_P D vwCl (MW cI cZ a (upd (upd (upd (upd v 7 (nI nc)) 8 (nI at_)) 9 wy) 10 nu) su sl (updF (updF F 5 (upd rt nc 0)) 6 (upd up nc 0))) H := hP
          have hD : va_D A (MW cI cZ a (upd (upd (upd (upd v 7 (nI nc)) 8 (nI at_)) 9 wy) 10 nu) su sl (updF (updF F 5 (upd rt nc 0)) 6 (upd up nc 0))) := hD
          refine lv_aload_n hx hb dX7_begins_56 rfl (lv_at hl 1 rfl) ?_
          refine lv_dup hx hb dX7_begins_57 rfl ?_
          refine va_get (D := D) (ci := 9) (v := .int (nI nc)) (C := RX7) (T := TX7) (N := 24) hx hb hts (by decide +kernel) hown hK hP 0 rfl rfl 7 (by decide) (hts (.fieldLink RX7 58 "LandDeedsModel" "calls" "I") (by decide +kernel)) (fun _ h9 => h9) rfl dX7_begins_58 ?_
          refine lv_iconst (v := 1) hx hb dX7_begins_61 (by decide) ?_
          refine lv_iadd hx hb dX7_begins_62 ?_
          refine u_eqi (show (nI nc) + 1 = nI (nc + 1) from nI_1 nc) ?_
          refine va_put (D := D) (ci := 9) (v := .int (nI (nc + 1))) (ty := .int) (C := RX7) (T := TX7) (N := 24) hx hb hts (by decide +kernel) tyX7 tyX7_ok nmX7 hown hK hP hD hS 0 rfl rfl 7 (by decide) (hts (.fieldLink RX7 58 "LandDeedsModel" "calls" "I") (by decide +kernel)) (fun _ h9 => h9) rfl (by decide +kernel) rfl rfl (Nat.le_of_ble_eq_true rfl) dX7_begins_63 (fun H locs hP hD hS => ?_)
          have hP : va_P D vwCl (MW cI cZ a (upd (upd (upd (upd v 7 (nI (nc + 1))) 8 (nI at_)) 9 wy) 10 nu) su sl (updF (updF F 5 (upd rt nc 0)) 6 (upd up nc 0))) H := hP
          have hD : va_D A (MW cI cZ a (upd (upd (upd (upd v 7 (nI (nc + 1))) 8 (nI at_)) 9 wy) 10 nu) su sl (updF (updF F 5 (upd rt nc 0)) 6 (upd up nc 0))) := hD
          refine lv_aload_n hx hb dX7_begins_66 rfl (lv_at hl 1 rfl) ?_
          refine lv_iload_n hx hb dX7_begins_67 rfl (lv_at hl 2 rfl) ?_
          refine va_put (D := D) (ci := 9) (v := .int x) (ty := .int) (C := RX7) (T := TX7) (N := 24) hx hb hts (by decide +kernel) tyX7 tyX7_ok nmX7 hown hK hP hD hS 0 rfl rfl 9 (by decide) (hts (.fieldLink RX7 51 "LandDeedsModel" "way" "I") (by decide +kernel)) (fun _ h9 => h9) rfl (by decide +kernel) rfl rfl (Nat.le_of_ble_eq_true rfl) dX7_begins_68 (fun H locs hP hD hS => ?_)
          have hP : va_P D vwCl (MW cI cZ a (upd (upd (upd (upd v 7 (nI (nc + 1))) 8 (nI at_)) 9 x) 10 nu) su sl (updF (updF F 5 (upd rt nc 0)) 6 (upd up nc 0))) H := hP
          have hD : va_D A (MW cI cZ a (upd (upd (upd (upd v 7 (nI (nc + 1))) 8 (nI at_)) 9 x) 10 nu) su sl (updF (updF F 5 (upd rt nc 0)) 6 (upd up nc 0))) := hD
          refine lv_aload_n hx hb dX7_begins_71 rfl (lv_at hl 1 rfl) ?_
          refine lv_iconst (v := 0) hx hb dX7_begins_72 (by decide) ?_
          refine va_put (D := D) (ci := 9) (v := .int 0) (ty := .int) (C := RX7) (T := TX7) (N := 24) hx hb hts (by decide +kernel) tyX7 tyX7_ok nmX7 hown hK hP hD hS 0 rfl rfl 10 (by decide) (hts (.fieldLink RX7 55 "LandDeedsModel" "number" "I") (by decide +kernel)) (fun _ h9 => h9) rfl (by decide +kernel) rfl rfl (Nat.le_of_ble_eq_true rfl) dX7_begins_73 (fun H locs hP hD hS => ?_)
          have hP : va_P D vwCl (MW cI cZ a (upd (upd (upd (upd v 7 (nI (nc + 1))) 8 (nI at_)) 9 x) 10 0) su sl (updF (updF F 5 (upd rt nc 0)) 6 (upd up nc 0))) H := hP
          have hD : va_D A (MW cI cZ a (upd (upd (upd (upd v 7 (nI (nc + 1))) 8 (nI at_)) 9 x) 10 0) su sl (updF (updF F 5 (upd rt nc 0)) 6 (upd up nc 0))) := hD
          refine lv_aload_n hx hb dX7_begins_76 rfl (lv_at hl 1 rfl) ?_
          refine lv_iload_n hx hb dX7_begins_77 rfl (lv_at hl 0 rfl) ?_
          refine lv_if_eq (tgt := 85) hx hb dX7_begins_78 (by decide) (fun c_7 => ?_) (fun c_7 => ?_)
          · skip
            refine lv_iconst (v := 3) hx hb dX7_begins_85 (by decide) ?_
            refine va_put (D := D) (ci := 9) (v := .int 3) (ty := .int) (C := RX7) (T := TX7) (N := 24) hx hb hts (by decide +kernel) tyX7 tyX7_ok nmX7 hown hK hP hD hS 0 rfl rfl 8 (by decide) (hts (.fieldLink RX7 61 "LandDeedsModel" "at" "I") (by decide +kernel)) (fun _ h9 => h9) rfl (by decide +kernel) rfl rfl (Nat.le_of_ble_eq_true rfl) dX7_begins_86 (fun H locs hP hD hS => ?_)
            have hP : va_P D vwCl (MW cI cZ a (upd (upd (upd (upd v 7 (nI (nc + 1))) 8 3) 9 x) 10 0) su sl (updF (updF F 5 (upd rt nc 0)) 6 (upd up nc 0))) H := hP
            have hD : va_D A (MW cI cZ a (upd (upd (upd (upd v 7 (nI (nc + 1))) 8 3) 9 x) 10 0) su sl (updF (updF F 5 (upd rt nc 0)) 6 (upd up nc 0))) := hD
            refine lv_iconst (v := 1) hx hb dX7_begins_89 (by decide) ?_
            rw [← hQ]
            have hP9 := hP
            have hD9 := hD
            exact W.zret (v := 1) hx hb hr (by decide) (fun t ht hW => ⟨⟨_, ((nc + 1), 3, x, 0, upd rt nc 0, upd up nc 0), rfl, Or.inl ⟨rfl, rd_be hM9 (by simp [*]) (by simp [*])⟩, by rw [ht]; exact hP9, hD9⟩, hS.F ht⟩) hS.2.2 dX7_begins_90
          · skip
            exact absurd rfl c_7
        · skip
          refine lv_iload_n hx hb dX7_begins_28 rfl (lv_at hl 2 rfl) ?_
          refine lv_bipush (v := 119) hx hb dX7_begins_29 (by decide) ?_
          refine lv_icmp_eq (tgt := 36) hx hb dX7_begins_31 (by decide) (fun c_8 => ?_) (fun c_8 => ?_)
          · skip
            refine lv_aload_n hx hb dX7_begins_36 rfl (lv_at hl 1 rfl) ?_
            refine va_get (D := D) (ci := 9) (v := .ref (a 6)) (C := RX7) (T := TX7) (N := 24) hx hb hts (by decide +kernel) hown hK hP 0 rfl rfl 6 (by decide) (hts (.fieldLink RX7 26 "LandDeedsModel" "up" "[I") (by decide +kernel)) (fun _ h9 => h9) rfl dX7_begins_37 ?_
            refine lv_aload_n hx hb dX7_begins_40 rfl (lv_at hl 1 rfl) ?_
            refine va_get (D := D) (ci := 9) (v := .int (nI nc)) (C := RX7) (T := TX7) (N := 24) hx hb hts (by decide +kernel) hown hK hP 0 rfl rfl 7 (by decide) (hts (.fieldLink RX7 58 "LandDeedsModel" "calls" "I") (by decide +kernel)) (fun _ h9 => h9) rfl dX7_begins_41 ?_
            refine lv_iconst (v := 0) hx hb dX7_begins_44 (by decide) ?_
            refine u_iast hx hb hK hP hD hS 6 0 rfl rfl rfl ⟨by omega, by omega⟩ dX7_begins_45 (fun H locs hP hD hS => ?_)
            have hP : va_P D vwCl (MW cI cZ a (upd (upd (upd (upd v 7 (nI nc)) 8 (nI at_)) 9 wy) 10 nu) su sl (updF (updF F 5 rt) 6 (upd up nc 0))) H := hP
            have hD : va_D A (MW cI cZ a (upd (upd (upd (upd v 7 (nI nc)) 8 (nI at_)) 9 wy) 10 nu) su sl (updF (updF F 5 rt) 6 (upd up nc 0))) := hD
            refine lv_aload_n hx hb dX7_begins_46 rfl (lv_at hl 1 rfl) ?_
            refine va_get (D := D) (ci := 9) (v := .ref (a 5)) (C := RX7) (T := TX7) (N := 24) hx hb hts (by decide +kernel) hown hK hP 0 rfl rfl 5 (by decide) (hts (.fieldLink RX7 23 "LandDeedsModel" "right" "[I") (by decide +kernel)) (fun _ h9 => h9) rfl dX7_begins_47 ?_
            refine lv_aload_n hx hb dX7_begins_50 rfl (lv_at hl 1 rfl) ?_
            refine va_get (D := D) (ci := 9) (v := .int (nI nc)) (C := RX7) (T := TX7) (N := 24) hx hb hts (by decide +kernel) hown hK hP 0 rfl rfl 7 (by decide) (hts (.fieldLink RX7 58 "LandDeedsModel" "calls" "I") (by decide +kernel)) (fun _ h9 => h9) rfl dX7_begins_51 ?_
            refine lv_iconst (v := 0) hx hb dX7_begins_54 (by decide) ?_
            refine u_iast hx hb hK hP hD hS 5 0 rfl rfl rfl ⟨by omega, by omega⟩ dX7_begins_55 (fun H locs hP hD hS => ?_)
            have hP : va_P D vwCl (MW cI cZ a (upd (upd (upd (upd v 7 (nI nc)) 8 (nI at_)) 9 wy) 10 nu) su sl (updF (updF F 5 (upd rt nc 0)) 6 (upd up nc 0))) H := hP
            have hD : va_D A (MW cI cZ a (upd (upd (upd (upd v 7 (nI nc)) 8 (nI at_)) 9 wy) 10 nu) su sl (updF (updF F 5 (upd rt nc 0)) 6 (upd up nc 0))) := hD
            refine lv_aload_n hx hb dX7_begins_56 rfl (lv_at hl 1 rfl) ?_
            refine lv_dup hx hb dX7_begins_57 rfl ?_
            refine va_get (D := D) (ci := 9) (v := .int (nI nc)) (C := RX7) (T := TX7) (N := 24) hx hb hts (by decide +kernel) hown hK hP 0 rfl rfl 7 (by decide) (hts (.fieldLink RX7 58 "LandDeedsModel" "calls" "I") (by decide +kernel)) (fun _ h9 => h9) rfl dX7_begins_58 ?_
            refine lv_iconst (v := 1) hx hb dX7_begins_61 (by decide) ?_
            refine lv_iadd hx hb dX7_begins_62 ?_
            refine u_eqi (show (nI nc) + 1 = nI (nc + 1) from nI_1 nc) ?_
            refine va_put (D := D) (ci := 9) (v := .int (nI (nc + 1))) (ty := .int) (C := RX7) (T := TX7) (N := 24) hx hb hts (by decide +kernel) tyX7 tyX7_ok nmX7 hown hK hP hD hS 0 rfl rfl 7 (by decide) (hts (.fieldLink RX7 58 "LandDeedsModel" "calls" "I") (by decide +kernel)) (fun _ h9 => h9) rfl (by decide +kernel) rfl rfl (Nat.le_of_ble_eq_true rfl) dX7_begins_63 (fun H locs hP hD hS => ?_)
            have hP : va_P D vwCl (MW cI cZ a (upd (upd (upd (upd v 7 (nI (nc + 1))) 8 (nI at_)) 9 wy) 10 nu) su sl (updF (updF F 5 (upd rt nc 0)) 6 (upd up nc 0))) H := hP
            have hD : va_D A (MW cI cZ a (upd (upd (upd (upd v 7 (nI (nc + 1))) 8 (nI at_)) 9 wy) 10 nu) su sl (updF (updF F 5 (upd rt nc 0)) 6 (upd up nc 0))) := hD
            refine lv_aload_n hx hb dX7_begins_66 rfl (lv_at hl 1 rfl) ?_
            refine lv_iload_n hx hb dX7_begins_67 rfl (lv_at hl 2 rfl) ?_
            refine va_put (D := D) (ci := 9) (v := .int x) (ty := .int) (C := RX7) (T := TX7) (N := 24) hx hb hts (by decide +kernel) tyX7 tyX7_ok nmX7 hown hK hP hD hS 0 rfl rfl 9 (by decide) (hts (.fieldLink RX7 51 "LandDeedsModel" "way" "I") (by decide +kernel)) (fun _ h9 => h9) rfl (by decide +kernel) rfl rfl (Nat.le_of_ble_eq_true rfl) dX7_begins_68 (fun H locs hP hD hS => ?_)
            have hP : va_P D vwCl (MW cI cZ a (upd (upd (upd (upd v 7 (nI (nc + 1))) 8 (nI at_)) 9 x) 10 nu) su sl (updF (updF F 5 (upd rt nc 0)) 6 (upd up nc 0))) H := hP
            have hD : va_D A (MW cI cZ a (upd (upd (upd (upd v 7 (nI (nc + 1))) 8 (nI at_)) 9 x) 10 nu) su sl (updF (updF F 5 (upd rt nc 0)) 6 (upd up nc 0))) := hD
            refine lv_aload_n hx hb dX7_begins_71 rfl (lv_at hl 1 rfl) ?_
            refine lv_iconst (v := 0) hx hb dX7_begins_72 (by decide) ?_
            refine va_put (D := D) (ci := 9) (v := .int 0) (ty := .int) (C := RX7) (T := TX7) (N := 24) hx hb hts (by decide +kernel) tyX7 tyX7_ok nmX7 hown hK hP hD hS 0 rfl rfl 10 (by decide) (hts (.fieldLink RX7 55 "LandDeedsModel" "number" "I") (by decide +kernel)) (fun _ h9 => h9) rfl (by decide +kernel) rfl rfl (Nat.le_of_ble_eq_true rfl) dX7_begins_73 (fun H locs hP hD hS => ?_)
            have hP : va_P D vwCl (MW cI cZ a (upd (upd (upd (upd v 7 (nI (nc + 1))) 8 (nI at_)) 9 x) 10 0) su sl (updF (updF F 5 (upd rt nc 0)) 6 (upd up nc 0))) H := hP
            have hD : va_D A (MW cI cZ a (upd (upd (upd (upd v 7 (nI (nc + 1))) 8 (nI at_)) 9 x) 10 0) su sl (updF (updF F 5 (upd rt nc 0)) 6 (upd up nc 0))) := hD
            refine lv_aload_n hx hb dX7_begins_76 rfl (lv_at hl 1 rfl) ?_
            refine lv_iload_n hx hb dX7_begins_77 rfl (lv_at hl 0 rfl) ?_
            refine lv_if_eq (tgt := 85) hx hb dX7_begins_78 (by decide) (fun c_9 => ?_) (fun c_9 => ?_)
            · skip
              refine lv_iconst (v := 3) hx hb dX7_begins_85 (by decide) ?_
              refine va_put (D := D) (ci := 9) (v := .int 3) (ty := .int) (C := RX7) (T := TX7) (N := 24) hx hb hts (by decide +kernel) tyX7 tyX7_ok nmX7 hown hK hP hD hS 0 rfl rfl 8 (by decide) (hts (.fieldLink RX7 61 "LandDeedsModel" "at" "I") (by decide +kernel)) (fun _ h9 => h9) rfl (by decide +kernel) rfl rfl (Nat.le_of_ble_eq_true rfl) dX7_begins_86 (fun H locs hP hD hS => ?_)
              have hP : va_P D vwCl (MW cI cZ a (upd (upd (upd (upd v 7 (nI (nc + 1))) 8 3) 9 x) 10 0) su sl (updF (updF F 5 (upd rt nc 0)) 6 (upd up nc 0))) H := hP
              have hD : va_D A (MW cI cZ a (upd (upd (upd (upd v 7 (nI (nc + 1))) 8 3) 9 x) 10 0) su sl (updF (updF F 5 (upd rt nc 0)) 6 (upd up nc 0))) := hD
              refine lv_iconst (v := 1) hx hb dX7_begins_89 (by decide) ?_
              rw [← hQ]
              have hP9 := hP
              have hD9 := hD
              exact W.zret (v := 1) hx hb hr (by decide) (fun t ht hW => ⟨⟨_, ((nc + 1), 3, x, 0, upd rt nc 0, upd up nc 0), rfl, Or.inl ⟨rfl, rd_be hM9 (by simp [*]) (by simp [*])⟩, by rw [ht]; exact hP9, hD9⟩, hS.F ht⟩) hS.2.2 dX7_begins_90
            · skip
              exact absurd rfl c_9
          · skip
            refine lv_iconst (v := 0) hx hb dX7_begins_34 (by decide) ?_
            rw [← hQ]
            have hP9 := hP
            have hD9 := hD
            exact W.zret (v := 0) hx hb hr (by decide) (fun t ht hW => ⟨⟨_, (nc, at_, wy, nu, rt, up), rfl, Or.inr ⟨rfl, rd_b0 hM9 (by simp [*]), by omega⟩, by rw [ht]; exact hP9, hD9⟩, hS.F ht⟩) hS.2.2 dX7_begins_35
    · skip
      refine lv_iconst (v := 1) hx hb dX7_begins_12 (by decide) ?_
      refine lv_goto (tgt := 17) hx hb dX7_begins_13 (by decide) ?_
      refine lv_istore_n (lv' := [(2, .int 1), (0, .ref (a 0)), (1, .int x)]) hx hb dX7_begins_17 rfl hl (by decide) rfl (fun ls hl => ?_)
      refine lv_iload_n hx hb dX7_begins_18 rfl (lv_at hl 0 rfl) ?_
      refine lv_if_ne (tgt := 36) hx hb dX7_begins_19 (by decide) (fun c_10 => ?_) (fun c_10 => ?_)
      · skip
        refine lv_aload_n hx hb dX7_begins_36 rfl (lv_at hl 1 rfl) ?_
        refine va_get (D := D) (ci := 9) (v := .ref (a 6)) (C := RX7) (T := TX7) (N := 24) hx hb hts (by decide +kernel) hown hK hP 0 rfl rfl 6 (by decide) (hts (.fieldLink RX7 26 "LandDeedsModel" "up" "[I") (by decide +kernel)) (fun _ h9 => h9) rfl dX7_begins_37 ?_
        refine lv_aload_n hx hb dX7_begins_40 rfl (lv_at hl 1 rfl) ?_
        refine va_get (D := D) (ci := 9) (v := .int (nI nc)) (C := RX7) (T := TX7) (N := 24) hx hb hts (by decide +kernel) hown hK hP 0 rfl rfl 7 (by decide) (hts (.fieldLink RX7 58 "LandDeedsModel" "calls" "I") (by decide +kernel)) (fun _ h9 => h9) rfl dX7_begins_41 ?_
        refine lv_iconst (v := 0) hx hb dX7_begins_44 (by decide) ?_
        refine u_iast hx hb hK hP hD hS 6 0 rfl rfl rfl ⟨by omega, by omega⟩ dX7_begins_45 (fun H locs hP hD hS => ?_)
        have hP : va_P D vwCl (MW cI cZ a (upd (upd (upd (upd v 7 (nI nc)) 8 (nI at_)) 9 wy) 10 nu) su sl (updF (updF F 5 rt) 6 (upd up nc 0))) H := hP
        have hD : va_D A (MW cI cZ a (upd (upd (upd (upd v 7 (nI nc)) 8 (nI at_)) 9 wy) 10 nu) su sl (updF (updF F 5 rt) 6 (upd up nc 0))) := hD
        refine lv_aload_n hx hb dX7_begins_46 rfl (lv_at hl 1 rfl) ?_
        refine va_get (D := D) (ci := 9) (v := .ref (a 5)) (C := RX7) (T := TX7) (N := 24) hx hb hts (by decide +kernel) hown hK hP 0 rfl rfl 5 (by decide) (hts (.fieldLink RX7 23 "LandDeedsModel" "right" "[I") (by decide +kernel)) (fun _ h9 => h9) rfl dX7_begins_47 ?_
        refine lv_aload_n hx hb dX7_begins_50 rfl (lv_at hl 1 rfl) ?_
        refine va_get (D := D) (ci := 9) (v := .int (nI nc)) (C := RX7) (T := TX7) (N := 24) hx hb hts (by decide +kernel) hown hK hP 0 rfl rfl 7 (by decide) (hts (.fieldLink RX7 58 "LandDeedsModel" "calls" "I") (by decide +kernel)) (fun _ h9 => h9) rfl dX7_begins_51 ?_
        refine lv_iconst (v := 0) hx hb dX7_begins_54 (by decide) ?_
        refine u_iast hx hb hK hP hD hS 5 0 rfl rfl rfl ⟨by omega, by omega⟩ dX7_begins_55 (fun H locs hP hD hS => ?_)
        have hP : va_P D vwCl (MW cI cZ a (upd (upd (upd (upd v 7 (nI nc)) 8 (nI at_)) 9 wy) 10 nu) su sl (updF (updF F 5 (upd rt nc 0)) 6 (upd up nc 0))) H := hP
        have hD : va_D A (MW cI cZ a (upd (upd (upd (upd v 7 (nI nc)) 8 (nI at_)) 9 wy) 10 nu) su sl (updF (updF F 5 (upd rt nc 0)) 6 (upd up nc 0))) := hD
        refine lv_aload_n hx hb dX7_begins_56 rfl (lv_at hl 1 rfl) ?_
        refine lv_dup hx hb dX7_begins_57 rfl ?_
        refine va_get (D := D) (ci := 9) (v := .int (nI nc)) (C := RX7) (T := TX7) (N := 24) hx hb hts (by decide +kernel) hown hK hP 0 rfl rfl 7 (by decide) (hts (.fieldLink RX7 58 "LandDeedsModel" "calls" "I") (by decide +kernel)) (fun _ h9 => h9) rfl dX7_begins_58 ?_
        refine lv_iconst (v := 1) hx hb dX7_begins_61 (by decide) ?_
        refine lv_iadd hx hb dX7_begins_62 ?_
        refine u_eqi (show (nI nc) + 1 = nI (nc + 1) from nI_1 nc) ?_
        refine va_put (D := D) (ci := 9) (v := .int (nI (nc + 1))) (ty := .int) (C := RX7) (T := TX7) (N := 24) hx hb hts (by decide +kernel) tyX7 tyX7_ok nmX7 hown hK hP hD hS 0 rfl rfl 7 (by decide) (hts (.fieldLink RX7 58 "LandDeedsModel" "calls" "I") (by decide +kernel)) (fun _ h9 => h9) rfl (by decide +kernel) rfl rfl (Nat.le_of_ble_eq_true rfl) dX7_begins_63 (fun H locs hP hD hS => ?_)
        have hP : va_P D vwCl (MW cI cZ a (upd (upd (upd (upd v 7 (nI (nc + 1))) 8 (nI at_)) 9 wy) 10 nu) su sl (updF (updF F 5 (upd rt nc 0)) 6 (upd up nc 0))) H := hP
        have hD : va_D A (MW cI cZ a (upd (upd (upd (upd v 7 (nI (nc + 1))) 8 (nI at_)) 9 wy) 10 nu) su sl (updF (updF F 5 (upd rt nc 0)) 6 (upd up nc 0))) := hD
        refine lv_aload_n hx hb dX7_begins_66 rfl (lv_at hl 1 rfl) ?_
        refine lv_iload_n hx hb dX7_begins_67 rfl (lv_at hl 2 rfl) ?_
        refine va_put (D := D) (ci := 9) (v := .int x) (ty := .int) (C := RX7) (T := TX7) (N := 24) hx hb hts (by decide +kernel) tyX7 tyX7_ok nmX7 hown hK hP hD hS 0 rfl rfl 9 (by decide) (hts (.fieldLink RX7 51 "LandDeedsModel" "way" "I") (by decide +kernel)) (fun _ h9 => h9) rfl (by decide +kernel) rfl rfl (Nat.le_of_ble_eq_true rfl) dX7_begins_68 (fun H locs hP hD hS => ?_)
        have hP : va_P D vwCl (MW cI cZ a (upd (upd (upd (upd v 7 (nI (nc + 1))) 8 (nI at_)) 9 x) 10 nu) su sl (updF (updF F 5 (upd rt nc 0)) 6 (upd up nc 0))) H := hP
        have hD : va_D A (MW cI cZ a (upd (upd (upd (upd v 7 (nI (nc + 1))) 8 (nI at_)) 9 x) 10 nu) su sl (updF (updF F 5 (upd rt nc 0)) 6 (upd up nc 0))) := hD
        refine lv_aload_n hx hb dX7_begins_71 rfl (lv_at hl 1 rfl) ?_
        refine lv_iconst (v := 0) hx hb dX7_begins_72 (by decide) ?_
        refine va_put (D := D) (ci := 9) (v := .int 0) (ty := .int) (C := RX7) (T := TX7) (N := 24) hx hb hts (by decide +kernel) tyX7 tyX7_ok nmX7 hown hK hP hD hS 0 rfl rfl 10 (by decide) (hts (.fieldLink RX7 55 "LandDeedsModel" "number" "I") (by decide +kernel)) (fun _ h9 => h9) rfl (by decide +kernel) rfl rfl (Nat.le_of_ble_eq_true rfl) dX7_begins_73 (fun H locs hP hD hS => ?_)
        have hP : va_P D vwCl (MW cI cZ a (upd (upd (upd (upd v 7 (nI (nc + 1))) 8 (nI at_)) 9 x) 10 0) su sl (updF (updF F 5 (upd rt nc 0)) 6 (upd up nc 0))) H := hP
        have hD : va_D A (MW cI cZ a (upd (upd (upd (upd v 7 (nI (nc + 1))) 8 (nI at_)) 9 x) 10 0) su sl (updF (updF F 5 (upd rt nc 0)) 6 (upd up nc 0))) := hD
        refine lv_aload_n hx hb dX7_begins_76 rfl (lv_at hl 1 rfl) ?_
        refine lv_iload_n hx hb dX7_begins_77 rfl (lv_at hl 0 rfl) ?_
        refine lv_if_eq (tgt := 85) hx hb dX7_begins_78 (by decide) (fun c_11 => ?_) (fun c_11 => ?_)
        · skip
          exact absurd c_11 (by decide)
        · skip
          refine lv_iconst (v := 1) hx hb dX7_begins_81 (by decide) ?_
          refine lv_goto (tgt := 86) hx hb dX7_begins_82 (by decide) ?_
          refine va_put (D := D) (ci := 9) (v := .int 1) (ty := .int) (C := RX7) (T := TX7) (N := 24) hx hb hts (by decide +kernel) tyX7 tyX7_ok nmX7 hown hK hP hD hS 0 rfl rfl 8 (by decide) (hts (.fieldLink RX7 61 "LandDeedsModel" "at" "I") (by decide +kernel)) (fun _ h9 => h9) rfl (by decide +kernel) rfl rfl (Nat.le_of_ble_eq_true rfl) dX7_begins_86 (fun H locs hP hD hS => ?_)
          have hP : va_P D vwCl (MW cI cZ a (upd (upd (upd (upd v 7 (nI (nc + 1))) 8 1) 9 x) 10 0) su sl (updF (updF F 5 (upd rt nc 0)) 6 (upd up nc 0))) H := hP
          have hD : va_D A (MW cI cZ a (upd (upd (upd (upd v 7 (nI (nc + 1))) 8 1) 9 x) 10 0) su sl (updF (updF F 5 (upd rt nc 0)) 6 (upd up nc 0))) := hD
          refine lv_iconst (v := 1) hx hb dX7_begins_89 (by decide) ?_
          rw [← hQ]
          have hP9 := hP
          have hD9 := hD
          exact W.zret (v := 1) hx hb hr (by decide) (fun t ht hW => ⟨⟨_, ((nc + 1), 1, x, 0, upd rt nc 0, upd up nc 0), rfl, Or.inl ⟨rfl, rd_bn hM9 (by simp [*])⟩, by rw [ht]; exact hP9, hD9⟩, hS.F ht⟩) hS.2.2 dX7_begins_90
      · skip
        exact absurd c_10 (by decide)

set_option maxHeartbeats 4000000 in
set_option maxRecDepth 100000 in
theorem c_X7_reads (l : Launch) (D : va_G) (cI cB cZ cP : ClassId) (sz : Nat) (a : Nat → Nat) (v : Nat → Int32) (su sl : Int64) (F : Nat → Nat → Int32) (nc at_ : Nat) (wy nu : Int32) (rt up : Nat → Int32) (Sx : TS) (x : Int32) (hM : MRel nc at_ wy nu rt up Sx) : Met l yX7_reads wsX7_reads ({ frames := 2, cells := 0, slots := 0, locals := 42 } : Room) (va_Pc [.ref (a 0), .int x] (fun U => U.heap.size = sz ∧ va_P D vwCl (MW cI cZ a (upd (upd (upd (upd v 7 (nI nc)) 8 (nI at_)) 9 wy) 10 nu) su sl (updF (updF F 5 rt) 6 up)) U.heap ∧ KW D cI cB cZ cP U ∧ va_D (fun _ => True) (MW cI cZ a (upd (upd (upd (upd v 7 (nI nc)) 8 (nI at_)) 9 wy) 10 nu) su sl (updF (updF F 5 rt) 6 up)) ∧ EF (MW cI cZ a (upd (upd (upd (upd v 7 (nI nc)) 8 (nI at_)) 9 wy) 10 nu) su sl (updF (updF F 5 rt) 6 up)) sz E0 U.heap)) (va_Qi (fun r (u : Nat × Nat × Int32 × Int32 × (Nat → Int32) × (Nat → Int32)) => match u with | (nc1, at1, wy1, nu1, rt1, up1) => rdR x Sx nc1 at1 wy1 nu1 rt1 up1 r) (fun (u : Nat × Nat × Int32 × Int32 × (Nat → Int32) × (Nat → Int32)) (t : State) => match u with | (nc1, at1, wy1, nu1, rt1, up1) => va_P D vwCl (MW cI cZ a (upd (upd (upd (upd v 7 (nI nc1)) 8 (nI at1)) 9 wy1) 10 nu1) su sl (updF (updF F 5 rt1) 6 up1)) t.heap ∧ va_D (va_A (MW cI cZ a (upd (upd (upd (upd v 7 (nI nc)) 8 (nI at_)) 9 wy) 10 nu) su sl (updF (updF F 5 rt) 6 up)) sz) (MW cI cZ a (upd (upd (upd (upd v 7 (nI nc1)) 8 (nI at1)) 9 wy1) 10 nu1) su sl (updF (updF F 5 rt1) 6 up1))) (va_A (MW cI cZ a (upd (upd (upd (upd v 7 (nI nc)) 8 (nI at_)) 9 wy) 10 nu) su sl (updF (updF F 5 rt) 6 up)) sz)) 0 0 (va_A (MW cI cZ a (upd (upd (upd (upd v 7 (nI nc)) 8 (nI at_)) 9 wy) 10 nu) su sl (updF (updF F 5 rt) 6 up)) sz) := by
  refine Met.ofW (cc := cX7_reads) (maxL := 2) (ret := (some .boolean)) (by decide) rfl ?_
  intro p e s m args below meth c s₁ B hml hv
  obtain ⟨rfl, hsz, hP, hW0, hD0, hE⟩ := hv
  have hx := B.exec
  have hb := B.bytes
  have hr := B.returns
  have hts := atoms_spec (ws := wsX7_reads) B.pre
  have hown : s.vm.findClass RX7 = some m.cls := findClass_of_methodNamed B.named
  have hlocks := B.notSynchronized
  have hK := hW0.1
  subst hsz
  have hD := hD0.self (sz := s.heap.size)
  unfold EF at hE
  generalize hAe : va_A (MW cI cZ a (upd (upd (upd (upd v 7 (nI nc)) 8 (nI at_)) 9 wy) 10 nu) su sl (updF (updF F 5 rt) 6 up)) s.heap.size = A at hD hE ⊢
  have hA : ∀ q : Nat, s.heap.size ≤ q → A q := fun q h => by rw [← hAe]; exact Or.inr h
  have hS : va_S A s.heap s.heap [] := va_S.rf
  have hl := lv_entry ([.ref (a 0), .int x]) (n := 2) (Nat.le_of_ble_eq_true rfl)
  rw [lg_entry_eq]
  generalize (lg_sl ([.ref (a 0), .int x]) ++ List.replicate (2 - (lg_sl ([.ref (a 0), .int x])).length) Slot.unset).toArray = ls at hl ⊢
  have hl : lv_has ls 2 [(0, .ref (a 0)), (1, .int x)] := hl
  show W p l e ({ frames := 2, cells := 0, slots := 0, locals := 42 } : Room) s m ([.ref (a 0), .int x] : List Value).toArray below meth c s.heap [] 0 0 _ (F0 m 0 ls [])
  refine u_genQ (fun Q hQ => ?_)
  have h49 := (MRel_at hM).1
  have h89 := (MRel_at hM).2.1
  have h19 := (MRel_at hM).2.2.1
  refine lv_aload_n hx hb dX7_reads_0 rfl (lv_at hl 0 rfl) ?_
  refine va_get (D := D) (ci := 9) (v := .int (nI at_)) (C := RX7) (T := TX7) (N := 24) hx hb hts (by decide +kernel) hown hK hP 0 rfl rfl 8 (by decide) (hts (.fieldLink RX7 61 "LandDeedsModel" "at" "I") (by decide +kernel)) (fun _ h9 => h9) rfl dX7_reads_1 ?_
  refine lv_if_ne (tgt := 13) hx hb dX7_reads_4 (by decide) (fun c_1 => ?_) (fun c_1 => ?_)
  · skip
    have nc_1 : ¬ (at_ = 0) := fun h => c_1 ((nI_eq (a := at_) (b := 0) (by omega) (by omega)).mpr h)
    have hne : at_ ≠ 0 := nc_1
    refine lv_aload_n hx hb dX7_reads_13 rfl (lv_at hl 0 rfl) ?_
    refine va_get (D := D) (ci := 9) (v := .int (nI at_)) (C := RX7) (T := TX7) (N := 24) hx hb hts (by decide +kernel) hown hK hP 0 rfl rfl 8 (by decide) (hts (.fieldLink RX7 61 "LandDeedsModel" "at" "I") (by decide +kernel)) (fun _ h9 => h9) rfl dX7_reads_14 ?_
    refine lv_iconst (v := 2) hx hb dX7_reads_17 (by decide) ?_
    refine lv_irem hx hb dX7_reads_18 (by decide) ?_
    refine u_eqi (show (nI at_) - (nI at_) / 2 * 2 = nI (at_ % 2) from rem2 (by omega)) ?_
    refine lv_iconst (v := 1) hx hb dX7_reads_19 (by decide) ?_
    refine lv_icmp_ne (tgt := 50) hx hb dX7_reads_20 (by decide) (fun c_2 => ?_) (fun c_2 => ?_)
    · skip
      have nc_2 : ¬ (at_ % 2 = 1) := fun h => c_2 ((nI_eq (a := (at_ % 2)) (b := 1) (by omega) (by omega)).mpr h)
      have hev := (rd_nm hM hne).2 nc_2
      refine lv_iload_n hx hb dX7_reads_50 rfl (lv_at hl 1 rfl) ?_
      have hPc := hP.sub (ws' := []) [] rfl
      refine u_callSi (W.runS (As := [.int x]) (rest := []) ⟨hx, hb, hml, hown, hts⟩ (c_X7_isFigure l D cI cB cZ cP x ) (cwS 1 hts gX7_reads_X7_isFigure rfl rfl rfl (by decide +kernel) ⟨Nat.le_of_ble_eq_true rfl, Nat.le_of_ble_eq_true rfl⟩) (pS hPc hW0 trivial) rfl rfl hl.1 rfl (lv_room (Nat.le_of_ble_eq_true rfl)) dX7_reads_51 ⟨Nat.le_of_ble_eq_true rfl, Nat.le_of_ble_eq_true rfl⟩) ?_
      refine lv_if_eq (tgt := 88) hx hb dX7_reads_54 (by decide) (fun c_3 => ?_) (fun c_3 => ?_)
      · skip
        have nc_3 := zb_eq0.mp c_3
        refine lv_aload_n hx hb dX7_reads_88 rfl (lv_at hl 0 rfl) ?_
        refine va_get (D := D) (ci := 9) (v := .int (nI at_)) (C := RX7) (T := TX7) (N := 24) hx hb hts (by decide +kernel) hown hK hP 0 rfl rfl 8 (by decide) (hts (.fieldLink RX7 61 "LandDeedsModel" "at" "I") (by decide +kernel)) (fun _ h9 => h9) rfl dX7_reads_89 ?_
        refine lv_iconst (v := 2) hx hb dX7_reads_92 (by decide) ?_
        refine lv_icmp_ne (tgt := 124) hx hb dX7_reads_93 (by decide) (fun c_4 => ?_) (fun c_4 => ?_)
        · skip
          have nc_4 : ¬ (at_ = 2) := fun h => c_4 ((nI_eq (a := at_) (b := 2) (by omega) (by omega)).mpr h)
          refine lv_aload_n hx hb dX7_reads_124 rfl (lv_at hl 0 rfl) ?_
          have hPc := hP
          have hDc := hD
          have hFc := va_free (wc := (MW cI cZ a (upd (upd (upd (upd v 7 (nI nc)) 8 (nI at_)) 9 wy) 10 nu) su sl (updF (updF F 5 rt) 6 up))) hD hS hA [0, 1, 2, 3, 4, 5, 6, 7, 8, 9, 10, 11, 12] rfl
          refine va_callv (va_runV (As := []) (rest := []) ⟨hx, hb, hml, hown, hts⟩ (c_X7_endNumber l D cI cB cZ cP s.heap.size a (upd v 8 (nI at_)) su sl F nc wy nu rt up (h19 hne) (by first | assumption | omega)) (cwV 0 hts gX7_reads_X7_endNumber rfl rfl rfl (by decide +kernel) ⟨Nat.le_of_ble_eq_true rfl, Nat.le_of_ble_eq_true rfl⟩) (pVQ (q0 := 0) hPc hDc hW0 EF.t rfl rfl) rfl rfl hl.1 rfl (lv_room (Nat.le_of_ble_eq_true rfl)) dX7_reads_125 ⟨Nat.le_of_ble_eq_true rfl, Nat.le_of_ble_eq_true rfl⟩) hS (fun q _ h => hFc q h) hFc (fun u t H1 locs ht hvm hw hB hz1 hk1 hS => ?_)
          obtain ⟨rt1_5, up1_5⟩ := u
          obtain ⟨hP1, hD1⟩ := hB
          rw [ht] at hP1
          have hw_5 : endN nc wy nu rt up rt1_5 up1_5 := hw
          obtain ⟨hP, hD⟩ := va_join (wr := []) (w1 := (MW cI cZ a (upd (upd (upd (upd v 7 (nI nc)) 8 (nI at_)) 9 wy) 10 nu) su sl (updF (updF F 5 rt1_5) 6 up1_5))) hP hD [0, 1, 2, 3, 4, 5, 6, 7, 8, 9, 10, 11, 12] [] rfl rfl (by decide) (by decide) hk1 hFc hP1 hD1
          generalize H1 = H at hP hS ⊢
          have hP : va_P D vwCl (MW cI cZ a (upd (upd (upd (upd v 7 (nI nc)) 8 (nI at_)) 9 wy) 10 nu) su sl (updF (updF F 5 rt1_5) 6 up1_5)) H := hP
          have hD : va_D A (MW cI cZ a (upd (upd (upd (upd v 7 (nI nc)) 8 (nI at_)) 9 wy) 10 nu) su sl (updF (updF F 5 rt1_5) 6 up1_5)) := hD
          refine lv_aload_n hx hb dX7_reads_128 rfl (lv_at hl 0 rfl) ?_
          refine lv_iconst (v := 0) hx hb dX7_reads_129 (by decide) ?_
          refine va_put (D := D) (ci := 9) (v := .int 0) (ty := .int) (C := RX7) (T := TX7) (N := 24) hx hb hts (by decide +kernel) tyX7 tyX7_ok nmX7 hown hK hP hD hS 0 rfl rfl 8 (by decide) (hts (.fieldLink RX7 61 "LandDeedsModel" "at" "I") (by decide +kernel)) (fun _ h9 => h9) rfl (by decide +kernel) rfl rfl (Nat.le_of_ble_eq_true rfl) dX7_reads_130 (fun H locs hP hD hS => ?_)
          have hP : va_P D vwCl (MW cI cZ a (upd (upd (upd (upd v 7 (nI nc)) 8 0) 9 wy) 10 nu) su sl (updF (updF F 5 rt1_5) 6 up1_5)) H := hP
          have hD : va_D A (MW cI cZ a (upd (upd (upd (upd v 7 (nI nc)) 8 0) 9 wy) 10 nu) su sl (updF (updF F 5 rt1_5) 6 up1_5)) := hD
          refine lv_iload_n hx hb dX7_reads_133 rfl (lv_at hl 1 rfl) ?_
          refine lv_bipush (v := 59) hx hb dX7_reads_134 (by decide) ?_
          refine lv_icmp_ne (tgt := 152) hx hb dX7_reads_136 (by decide) (fun c_6 => ?_) (fun c_6 => ?_)
          · skip
            refine lv_iconst (v := 0) hx hb dX7_reads_152 (by decide) ?_
            rw [← hQ]
            have hP9 := hP
            have hD9 := hD
            exact W.zret (v := 0) hx hb hr (by decide) (fun t ht hW => ⟨⟨_, (nc, 0, wy, nu, rt1_5, up1_5), rfl, Or.inr ⟨rfl, rd_end0 hM hne nc_2 nc_3 (fun q => by have q1 := q.1; have q2 := q.2; first | omega | (rcases q2 with q2 | q2 <;> contradiction)) (fun q => by have q1 := q.1; have q2 := q.2; first | omega | contradiction), h89⟩, by rw [ht]; exact hP9, hD9⟩, hS.F ht⟩) hS.2.2 dX7_reads_153
          · skip
            refine lv_aload_n hx hb dX7_reads_139 rfl (lv_at hl 0 rfl) ?_
            refine va_get (D := D) (ci := 9) (v := .int (nI nc)) (C := RX7) (T := TX7) (N := 24) hx hb hts (by decide +kernel) hown hK hP 0 rfl rfl 7 (by decide) (hts (.fieldLink RX7 58 "LandDeedsModel" "calls" "I") (by decide +kernel)) (fun _ h9 => h9) rfl dX7_reads_140 ?_
            refine lv_bipush (v := 8) hx hb dX7_reads_143 (by decide) ?_
            refine lv_icmp_ge (tgt := 152) hx hb dX7_reads_145 (by decide) (fun c_7 => ?_) (fun c_7 => ?_)
            · skip
              have nc_7 : 8 ≤ nc := (nI_leI (a := 8) (b := nc) (by omega) (by omega)).mp c_7
              refine lv_iconst (v := 0) hx hb dX7_reads_152 (by decide) ?_
              rw [← hQ]
              have hP9 := hP
              have hD9 := hD
              exact W.zret (v := 0) hx hb hr (by decide) (fun t ht hW => ⟨⟨_, (nc, 0, wy, nu, rt1_5, up1_5), rfl, Or.inr ⟨rfl, rd_end0 hM hne nc_2 nc_3 (fun q => by have q1 := q.1; have q2 := q.2; first | omega | (rcases q2 with q2 | q2 <;> contradiction)) (fun q => by have q1 := q.1; have q2 := q.2; first | omega | contradiction), h89⟩, by rw [ht]; exact hP9, hD9⟩, hS.F ht⟩) hS.2.2 dX7_reads_153
            · skip
              have nc_7 : ¬ (8 ≤ nc) := fun h => c_7 ((nI_leI (a := 8) (b := nc) (by omega) (by omega)).mpr h)
              refine lv_iconst (v := 1) hx hb dX7_reads_148 (by decide) ?_
              refine lv_goto (tgt := 153) hx hb dX7_reads_149 (by decide) ?_
              rw [← hQ]
              have hP9 := hP
              have hD9 := hD
              exact W.zret (v := 1) hx hb hr (by decide) (fun t ht hW => ⟨⟨_, (nc, 0, wy, nu, rt1_5, up1_5), rfl, Or.inl ⟨rfl, rd_semi hM hne nc_2 (by assumption) (by omega) hw_5⟩, by rw [ht]; exact hP9, hD9⟩, hS.F ht⟩) hS.2.2 dX7_reads_153
        · skip
          have nc_4 : at_ = 2 := (nI_eq (a := at_) (b := 2) (by omega) (by omega)).mp c_4
          refine lv_iload_n hx hb dX7_reads_96 rfl (lv_at hl 1 rfl) ?_
          refine lv_bipush (v := 101) hx hb dX7_reads_97 (by decide) ?_
          refine lv_icmp_eq (tgt := 108) hx hb dX7_reads_99 (by decide) (fun c_8 => ?_) (fun c_8 => ?_)
          · skip
            refine lv_aload_n hx hb dX7_reads_108 rfl (lv_at hl 0 rfl) ?_
            have hPc := hP
            have hDc := hD
            have hFc := va_free (wc := (MW cI cZ a (upd (upd (upd (upd v 7 (nI nc)) 8 (nI at_)) 9 wy) 10 nu) su sl (updF (updF F 5 rt) 6 up))) hD hS hA [0, 1, 2, 3, 4, 5, 6, 7, 8, 9, 10, 11, 12] rfl
            refine va_callv (va_runV (As := []) (rest := []) ⟨hx, hb, hml, hown, hts⟩ (c_X7_endNumber l D cI cB cZ cP s.heap.size a (upd v 8 (nI at_)) su sl F nc wy nu rt up (h19 hne) (by first | assumption | omega)) (cwV 0 hts gX7_reads_X7_endNumber rfl rfl rfl (by decide +kernel) ⟨Nat.le_of_ble_eq_true rfl, Nat.le_of_ble_eq_true rfl⟩) (pVQ (q0 := 0) hPc hDc hW0 EF.t rfl rfl) rfl rfl hl.1 rfl (lv_room (Nat.le_of_ble_eq_true rfl)) dX7_reads_109 ⟨Nat.le_of_ble_eq_true rfl, Nat.le_of_ble_eq_true rfl⟩) hS (fun q _ h => hFc q h) hFc (fun u t H1 locs ht hvm hw hB hz1 hk1 hS => ?_)
            obtain ⟨rt1_9, up1_9⟩ := u
            obtain ⟨hP1, hD1⟩ := hB
            rw [ht] at hP1
            have hw_9 : endN nc wy nu rt up rt1_9 up1_9 := hw
            obtain ⟨hP, hD⟩ := va_join (wr := []) (w1 := (MW cI cZ a (upd (upd (upd (upd v 7 (nI nc)) 8 (nI at_)) 9 wy) 10 nu) su sl (updF (updF F 5 rt1_9) 6 up1_9))) hP hD [0, 1, 2, 3, 4, 5, 6, 7, 8, 9, 10, 11, 12] [] rfl rfl (by decide) (by decide) hk1 hFc hP1 hD1
            generalize H1 = H at hP hS ⊢
            have hP : va_P D vwCl (MW cI cZ a (upd (upd (upd (upd v 7 (nI nc)) 8 (nI at_)) 9 wy) 10 nu) su sl (updF (updF F 5 rt1_9) 6 up1_9)) H := hP
            have hD : va_D A (MW cI cZ a (upd (upd (upd (upd v 7 (nI nc)) 8 (nI at_)) 9 wy) 10 nu) su sl (updF (updF F 5 rt1_9) 6 up1_9)) := hD
            refine lv_aload_n hx hb dX7_reads_112 rfl (lv_at hl 0 rfl) ?_
            refine lv_iload_n hx hb dX7_reads_113 rfl (lv_at hl 1 rfl) ?_
            refine va_put (D := D) (ci := 9) (v := .int x) (ty := .int) (C := RX7) (T := TX7) (N := 24) hx hb hts (by decide +kernel) tyX7 tyX7_ok nmX7 hown hK hP hD hS 0 rfl rfl 9 (by decide) (hts (.fieldLink RX7 51 "LandDeedsModel" "way" "I") (by decide +kernel)) (fun _ h9 => h9) rfl (by decide +kernel) rfl rfl (Nat.le_of_ble_eq_true rfl) dX7_reads_114 (fun H locs hP hD hS => ?_)
            have hP : va_P D vwCl (MW cI cZ a (upd (upd (upd (upd v 7 (nI nc)) 8 (nI at_)) 9 x) 10 nu) su sl (updF (updF F 5 rt1_9) 6 up1_9)) H := hP
            have hD : va_D A (MW cI cZ a (upd (upd (upd (upd v 7 (nI nc)) 8 (nI at_)) 9 x) 10 nu) su sl (updF (updF F 5 rt1_9) 6 up1_9)) := hD
            refine lv_aload_n hx hb dX7_reads_117 rfl (lv_at hl 0 rfl) ?_
            refine lv_iconst (v := 3) hx hb dX7_reads_118 (by decide) ?_
            refine va_put (D := D) (ci := 9) (v := .int 3) (ty := .int) (C := RX7) (T := TX7) (N := 24) hx hb hts (by decide +kernel) tyX7 tyX7_ok nmX7 hown hK hP hD hS 0 rfl rfl 8 (by decide) (hts (.fieldLink RX7 61 "LandDeedsModel" "at" "I") (by decide +kernel)) (fun _ h9 => h9) rfl (by decide +kernel) rfl rfl (Nat.le_of_ble_eq_true rfl) dX7_reads_119 (fun H locs hP hD hS => ?_)
            have hP : va_P D vwCl (MW cI cZ a (upd (upd (upd (upd v 7 (nI nc)) 8 3) 9 x) 10 nu) su sl (updF (updF F 5 rt1_9) 6 up1_9)) H := hP
            have hD : va_D A (MW cI cZ a (upd (upd (upd (upd v 7 (nI nc)) 8 3) 9 x) 10 nu) su sl (updF (updF F 5 rt1_9) 6 up1_9)) := hD
            refine lv_iconst (v := 1) hx hb dX7_reads_122 (by decide) ?_
            rw [← hQ]
            have hP9 := hP
            have hD9 := hD
            exact W.zret (v := 1) hx hb hr (by decide) (fun t ht hW => ⟨⟨_, (nc, 3, x, nu, rt1_9, up1_9), rfl, Or.inl ⟨rfl, rd_leg hM (by omega) (by first | exact Or.inl (by assumption) | exact Or.inr (by assumption)) hw_9⟩, by rw [ht]; exact hP9, hD9⟩, hS.F ht⟩) hS.2.2 dX7_reads_123
          · skip
            refine lv_iload_n hx hb dX7_reads_102 rfl (lv_at hl 1 rfl) ?_
            refine lv_bipush (v := 119) hx hb dX7_reads_103 (by decide) ?_
            refine lv_icmp_ne (tgt := 124) hx hb dX7_reads_105 (by decide) (fun c_10 => ?_) (fun c_10 => ?_)
            · skip
              refine lv_aload_n hx hb dX7_reads_124 rfl (lv_at hl 0 rfl) ?_
              have hPc := hP
              have hDc := hD
              have hFc := va_free (wc := (MW cI cZ a (upd (upd (upd (upd v 7 (nI nc)) 8 (nI at_)) 9 wy) 10 nu) su sl (updF (updF F 5 rt) 6 up))) hD hS hA [0, 1, 2, 3, 4, 5, 6, 7, 8, 9, 10, 11, 12] rfl
              refine va_callv (va_runV (As := []) (rest := []) ⟨hx, hb, hml, hown, hts⟩ (c_X7_endNumber l D cI cB cZ cP s.heap.size a (upd v 8 (nI at_)) su sl F nc wy nu rt up (h19 hne) (by first | assumption | omega)) (cwV 0 hts gX7_reads_X7_endNumber rfl rfl rfl (by decide +kernel) ⟨Nat.le_of_ble_eq_true rfl, Nat.le_of_ble_eq_true rfl⟩) (pVQ (q0 := 0) hPc hDc hW0 EF.t rfl rfl) rfl rfl hl.1 rfl (lv_room (Nat.le_of_ble_eq_true rfl)) dX7_reads_125 ⟨Nat.le_of_ble_eq_true rfl, Nat.le_of_ble_eq_true rfl⟩) hS (fun q _ h => hFc q h) hFc (fun u t H1 locs ht hvm hw hB hz1 hk1 hS => ?_)
              obtain ⟨rt1_11, up1_11⟩ := u
              obtain ⟨hP1, hD1⟩ := hB
              rw [ht] at hP1
              have hw_11 : endN nc wy nu rt up rt1_11 up1_11 := hw
              obtain ⟨hP, hD⟩ := va_join (wr := []) (w1 := (MW cI cZ a (upd (upd (upd (upd v 7 (nI nc)) 8 (nI at_)) 9 wy) 10 nu) su sl (updF (updF F 5 rt1_11) 6 up1_11))) hP hD [0, 1, 2, 3, 4, 5, 6, 7, 8, 9, 10, 11, 12] [] rfl rfl (by decide) (by decide) hk1 hFc hP1 hD1
              generalize H1 = H at hP hS ⊢
              have hP : va_P D vwCl (MW cI cZ a (upd (upd (upd (upd v 7 (nI nc)) 8 (nI at_)) 9 wy) 10 nu) su sl (updF (updF F 5 rt1_11) 6 up1_11)) H := hP
              have hD : va_D A (MW cI cZ a (upd (upd (upd (upd v 7 (nI nc)) 8 (nI at_)) 9 wy) 10 nu) su sl (updF (updF F 5 rt1_11) 6 up1_11)) := hD
              refine lv_aload_n hx hb dX7_reads_128 rfl (lv_at hl 0 rfl) ?_
              refine lv_iconst (v := 0) hx hb dX7_reads_129 (by decide) ?_
              refine va_put (D := D) (ci := 9) (v := .int 0) (ty := .int) (C := RX7) (T := TX7) (N := 24) hx hb hts (by decide +kernel) tyX7 tyX7_ok nmX7 hown hK hP hD hS 0 rfl rfl 8 (by decide) (hts (.fieldLink RX7 61 "LandDeedsModel" "at" "I") (by decide +kernel)) (fun _ h9 => h9) rfl (by decide +kernel) rfl rfl (Nat.le_of_ble_eq_true rfl) dX7_reads_130 (fun H locs hP hD hS => ?_)
              have hP : va_P D vwCl (MW cI cZ a (upd (upd (upd (upd v 7 (nI nc)) 8 0) 9 wy) 10 nu) su sl (updF (updF F 5 rt1_11) 6 up1_11)) H := hP
              have hD : va_D A (MW cI cZ a (upd (upd (upd (upd v 7 (nI nc)) 8 0) 9 wy) 10 nu) su sl (updF (updF F 5 rt1_11) 6 up1_11)) := hD
              refine lv_iload_n hx hb dX7_reads_133 rfl (lv_at hl 1 rfl) ?_
              refine lv_bipush (v := 59) hx hb dX7_reads_134 (by decide) ?_
              refine lv_icmp_ne (tgt := 152) hx hb dX7_reads_136 (by decide) (fun c_12 => ?_) (fun c_12 => ?_)
              · skip
                refine lv_iconst (v := 0) hx hb dX7_reads_152 (by decide) ?_
                rw [← hQ]
                have hP9 := hP
                have hD9 := hD
                exact W.zret (v := 0) hx hb hr (by decide) (fun t ht hW => ⟨⟨_, (nc, 0, wy, nu, rt1_11, up1_11), rfl, Or.inr ⟨rfl, rd_end0 hM hne nc_2 nc_3 (fun q => by have q1 := q.1; have q2 := q.2; first | omega | (rcases q2 with q2 | q2 <;> contradiction)) (fun q => by have q1 := q.1; have q2 := q.2; first | omega | contradiction), h89⟩, by rw [ht]; exact hP9, hD9⟩, hS.F ht⟩) hS.2.2 dX7_reads_153
              · skip
                refine lv_aload_n hx hb dX7_reads_139 rfl (lv_at hl 0 rfl) ?_
                refine va_get (D := D) (ci := 9) (v := .int (nI nc)) (C := RX7) (T := TX7) (N := 24) hx hb hts (by decide +kernel) hown hK hP 0 rfl rfl 7 (by decide) (hts (.fieldLink RX7 58 "LandDeedsModel" "calls" "I") (by decide +kernel)) (fun _ h9 => h9) rfl dX7_reads_140 ?_
                refine lv_bipush (v := 8) hx hb dX7_reads_143 (by decide) ?_
                refine lv_icmp_ge (tgt := 152) hx hb dX7_reads_145 (by decide) (fun c_13 => ?_) (fun c_13 => ?_)
                · skip
                  have nc_13 : 8 ≤ nc := (nI_leI (a := 8) (b := nc) (by omega) (by omega)).mp c_13
                  refine lv_iconst (v := 0) hx hb dX7_reads_152 (by decide) ?_
                  rw [← hQ]
                  have hP9 := hP
                  have hD9 := hD
                  exact W.zret (v := 0) hx hb hr (by decide) (fun t ht hW => ⟨⟨_, (nc, 0, wy, nu, rt1_11, up1_11), rfl, Or.inr ⟨rfl, rd_end0 hM hne nc_2 nc_3 (fun q => by have q1 := q.1; have q2 := q.2; first | omega | (rcases q2 with q2 | q2 <;> contradiction)) (fun q => by have q1 := q.1; have q2 := q.2; first | omega | contradiction), h89⟩, by rw [ht]; exact hP9, hD9⟩, hS.F ht⟩) hS.2.2 dX7_reads_153
                · skip
                  have nc_13 : ¬ (8 ≤ nc) := fun h => c_13 ((nI_leI (a := 8) (b := nc) (by omega) (by omega)).mpr h)
                  refine lv_iconst (v := 1) hx hb dX7_reads_148 (by decide) ?_
                  refine lv_goto (tgt := 153) hx hb dX7_reads_149 (by decide) ?_
                  rw [← hQ]
                  have hP9 := hP
                  have hD9 := hD
                  exact W.zret (v := 1) hx hb hr (by decide) (fun t ht hW => ⟨⟨_, (nc, 0, wy, nu, rt1_11, up1_11), rfl, Or.inl ⟨rfl, rd_semi hM hne nc_2 (by assumption) (by omega) hw_11⟩, by rw [ht]; exact hP9, hD9⟩, hS.F ht⟩) hS.2.2 dX7_reads_153
            · skip
              refine lv_aload_n hx hb dX7_reads_108 rfl (lv_at hl 0 rfl) ?_
              have hPc := hP
              have hDc := hD
              have hFc := va_free (wc := (MW cI cZ a (upd (upd (upd (upd v 7 (nI nc)) 8 (nI at_)) 9 wy) 10 nu) su sl (updF (updF F 5 rt) 6 up))) hD hS hA [0, 1, 2, 3, 4, 5, 6, 7, 8, 9, 10, 11, 12] rfl
              refine va_callv (va_runV (As := []) (rest := []) ⟨hx, hb, hml, hown, hts⟩ (c_X7_endNumber l D cI cB cZ cP s.heap.size a (upd v 8 (nI at_)) su sl F nc wy nu rt up (h19 hne) (by first | assumption | omega)) (cwV 0 hts gX7_reads_X7_endNumber rfl rfl rfl (by decide +kernel) ⟨Nat.le_of_ble_eq_true rfl, Nat.le_of_ble_eq_true rfl⟩) (pVQ (q0 := 0) hPc hDc hW0 EF.t rfl rfl) rfl rfl hl.1 rfl (lv_room (Nat.le_of_ble_eq_true rfl)) dX7_reads_109 ⟨Nat.le_of_ble_eq_true rfl, Nat.le_of_ble_eq_true rfl⟩) hS (fun q _ h => hFc q h) hFc (fun u t H1 locs ht hvm hw hB hz1 hk1 hS => ?_)
              obtain ⟨rt1_14, up1_14⟩ := u
              obtain ⟨hP1, hD1⟩ := hB
              rw [ht] at hP1
              have hw_14 : endN nc wy nu rt up rt1_14 up1_14 := hw
              obtain ⟨hP, hD⟩ := va_join (wr := []) (w1 := (MW cI cZ a (upd (upd (upd (upd v 7 (nI nc)) 8 (nI at_)) 9 wy) 10 nu) su sl (updF (updF F 5 rt1_14) 6 up1_14))) hP hD [0, 1, 2, 3, 4, 5, 6, 7, 8, 9, 10, 11, 12] [] rfl rfl (by decide) (by decide) hk1 hFc hP1 hD1
              generalize H1 = H at hP hS ⊢
              have hP : va_P D vwCl (MW cI cZ a (upd (upd (upd (upd v 7 (nI nc)) 8 (nI at_)) 9 wy) 10 nu) su sl (updF (updF F 5 rt1_14) 6 up1_14)) H := hP
              have hD : va_D A (MW cI cZ a (upd (upd (upd (upd v 7 (nI nc)) 8 (nI at_)) 9 wy) 10 nu) su sl (updF (updF F 5 rt1_14) 6 up1_14)) := hD
              refine lv_aload_n hx hb dX7_reads_112 rfl (lv_at hl 0 rfl) ?_
              refine lv_iload_n hx hb dX7_reads_113 rfl (lv_at hl 1 rfl) ?_
              refine va_put (D := D) (ci := 9) (v := .int x) (ty := .int) (C := RX7) (T := TX7) (N := 24) hx hb hts (by decide +kernel) tyX7 tyX7_ok nmX7 hown hK hP hD hS 0 rfl rfl 9 (by decide) (hts (.fieldLink RX7 51 "LandDeedsModel" "way" "I") (by decide +kernel)) (fun _ h9 => h9) rfl (by decide +kernel) rfl rfl (Nat.le_of_ble_eq_true rfl) dX7_reads_114 (fun H locs hP hD hS => ?_)
              have hP : va_P D vwCl (MW cI cZ a (upd (upd (upd (upd v 7 (nI nc)) 8 (nI at_)) 9 x) 10 nu) su sl (updF (updF F 5 rt1_14) 6 up1_14)) H := hP
              have hD : va_D A (MW cI cZ a (upd (upd (upd (upd v 7 (nI nc)) 8 (nI at_)) 9 x) 10 nu) su sl (updF (updF F 5 rt1_14) 6 up1_14)) := hD
              refine lv_aload_n hx hb dX7_reads_117 rfl (lv_at hl 0 rfl) ?_
              refine lv_iconst (v := 3) hx hb dX7_reads_118 (by decide) ?_
              refine va_put (D := D) (ci := 9) (v := .int 3) (ty := .int) (C := RX7) (T := TX7) (N := 24) hx hb hts (by decide +kernel) tyX7 tyX7_ok nmX7 hown hK hP hD hS 0 rfl rfl 8 (by decide) (hts (.fieldLink RX7 61 "LandDeedsModel" "at" "I") (by decide +kernel)) (fun _ h9 => h9) rfl (by decide +kernel) rfl rfl (Nat.le_of_ble_eq_true rfl) dX7_reads_119 (fun H locs hP hD hS => ?_)
              have hP : va_P D vwCl (MW cI cZ a (upd (upd (upd (upd v 7 (nI nc)) 8 3) 9 x) 10 nu) su sl (updF (updF F 5 rt1_14) 6 up1_14)) H := hP
              have hD : va_D A (MW cI cZ a (upd (upd (upd (upd v 7 (nI nc)) 8 3) 9 x) 10 nu) su sl (updF (updF F 5 rt1_14) 6 up1_14)) := hD
              refine lv_iconst (v := 1) hx hb dX7_reads_122 (by decide) ?_
              rw [← hQ]
              have hP9 := hP
              have hD9 := hD
              exact W.zret (v := 1) hx hb hr (by decide) (fun t ht hW => ⟨⟨_, (nc, 3, x, nu, rt1_14, up1_14), rfl, Or.inl ⟨rfl, rd_leg hM (by omega) (by first | exact Or.inl (by assumption) | exact Or.inr (by assumption)) hw_14⟩, by rw [ht]; exact hP9, hD9⟩, hS.F ht⟩) hS.2.2 dX7_reads_123
      · skip
        have nc_3 := zb_ne0.mp c_3
        have hfg := nc_3
        refine lv_aload_n hx hb dX7_reads_57 rfl (lv_at hl 0 rfl) ?_
        refine lv_bipush (v := 10) hx hb dX7_reads_58 (by decide) ?_
        refine lv_aload_n hx hb dX7_reads_60 rfl (lv_at hl 0 rfl) ?_
        refine va_get (D := D) (ci := 9) (v := .int nu) (C := RX7) (T := TX7) (N := 24) hx hb hts (by decide +kernel) hown hK hP 0 rfl rfl 10 (by decide) (hts (.fieldLink RX7 55 "LandDeedsModel" "number" "I") (by decide +kernel)) (fun _ h9 => h9) rfl dX7_reads_61 ?_
        refine lv_imul hx hb dX7_reads_64 ?_
        refine lv_iload_n hx hb dX7_reads_65 rfl (lv_at hl 1 rfl) ?_
        refine lv_iadd hx hb dX7_reads_66 ?_
        refine lv_bipush (v := 48) hx hb dX7_reads_67 (by decide) ?_
        refine lv_isub hx hb dX7_reads_69 ?_
        refine u_eqi (show ((10 * nu) + x) - 48 = nI (Sx.2.2.1 * 10 + (x.toInt - 48).toNat) from fig_eq hev.2.2.1 hev.2.1 nc_3.1 nc_3.2) ?_
        refine va_put (D := D) (ci := 9) (v := .int (nI (Sx.2.2.1 * 10 + (x.toInt - 48).toNat))) (ty := .int) (C := RX7) (T := TX7) (N := 24) hx hb hts (by decide +kernel) tyX7 tyX7_ok nmX7 hown hK hP hD hS 0 rfl rfl 10 (by decide) (hts (.fieldLink RX7 55 "LandDeedsModel" "number" "I") (by decide +kernel)) (fun _ h9 => h9) rfl (by decide +kernel) rfl rfl (Nat.le_of_ble_eq_true rfl) dX7_reads_70 (fun H locs hP hD hS => ?_)
        have hP : va_P D vwCl (MW cI cZ a (upd (upd (upd (upd v 7 (nI nc)) 8 (nI at_)) 9 wy) 10 (nI (Sx.2.2.1 * 10 + (x.toInt - 48).toNat))) su sl (updF (updF F 5 rt) 6 up)) H := hP
        have hD : va_D A (MW cI cZ a (upd (upd (upd (upd v 7 (nI nc)) 8 (nI at_)) 9 wy) 10 (nI (Sx.2.2.1 * 10 + (x.toInt - 48).toNat))) su sl (updF (updF F 5 rt) 6 up)) := hD
        refine lv_aload_n hx hb dX7_reads_73 rfl (lv_at hl 0 rfl) ?_
        refine va_get (D := D) (ci := 9) (v := .int (nI (Sx.2.2.1 * 10 + (x.toInt - 48).toNat))) (C := RX7) (T := TX7) (N := 24) hx hb hts (by decide +kernel) hown hK hP 0 rfl rfl 10 (by decide) (hts (.fieldLink RX7 55 "LandDeedsModel" "number" "I") (by decide +kernel)) (fun _ h9 => h9) rfl dX7_reads_74 ?_
        refine lv_bipush (v := 32) hx hb dX7_reads_77 (by decide) ?_
        refine lv_icmp_ge (tgt := 86) hx hb dX7_reads_79 (by decide) (fun c_15 => ?_) (fun c_15 => ?_)
        · skip
          have nc_15 : 32 ≤ Sx.2.2.1 * 10 + (x.toInt - 48).toNat := (nI_leI (a := 32) (b := (Sx.2.2.1 * 10 + (x.toInt - 48).toNat)) (by omega) (by omega)).mp c_15
          refine lv_iconst (v := 0) hx hb dX7_reads_86 (by decide) ?_
          rw [← hQ]
          have hP9 := hP
          have hD9 := hD
          exact W.zret (v := 0) hx hb hr (by decide) (fun t ht hW => ⟨⟨_, (nc, at_, wy, nI (Sx.2.2.1 * 10 + (x.toInt - 48).toNat), rt, up), rfl, Or.inr ⟨rfl, rd_fig0 hM hne nc_3 (by omega), h89⟩, by rw [ht]; exact hP9, hD9⟩, hS.F ht⟩) hS.2.2 dX7_reads_87
        · skip
          have nc_15 : ¬ (32 ≤ Sx.2.2.1 * 10 + (x.toInt - 48).toNat) := fun h => c_15 ((nI_leI (a := 32) (b := (Sx.2.2.1 * 10 + (x.toInt - 48).toNat)) (by omega) (by omega)).mpr h)
          refine lv_iconst (v := 1) hx hb dX7_reads_82 (by decide) ?_
          refine lv_goto (tgt := 87) hx hb dX7_reads_83 (by decide) ?_
          rw [← hQ]
          have hP9 := hP
          have hD9 := hD
          exact W.zret (v := 1) hx hb hr (by decide) (fun t ht hW => ⟨⟨_, (nc, at_, wy, nI (Sx.2.2.1 * 10 + (x.toInt - 48).toNat), rt, up), rfl, Or.inl ⟨rfl, (rd_e hM hne nc_2 nc_3 (by omega))⟩, by rw [ht]; exact hP9, hD9⟩, hS.F ht⟩) hS.2.2 dX7_reads_87
    · skip
      have nc_2 : at_ % 2 = 1 := (nI_eq (a := (at_ % 2)) (b := 1) (by omega) (by omega)).mp c_2
      have hod := (rd_nm hM hne).1 nc_2
      refine lv_aload_n hx hb dX7_reads_23 rfl (lv_at hl 0 rfl) ?_
      refine lv_iload_n hx hb dX7_reads_24 rfl (lv_at hl 1 rfl) ?_
      refine lv_bipush (v := 48) hx hb dX7_reads_25 (by decide) ?_
      refine lv_isub hx hb dX7_reads_27 ?_
      refine va_put (D := D) (ci := 9) (v := .int (x - 48)) (ty := .int) (C := RX7) (T := TX7) (N := 24) hx hb hts (by decide +kernel) tyX7 tyX7_ok nmX7 hown hK hP hD hS 0 rfl rfl 10 (by decide) (hts (.fieldLink RX7 55 "LandDeedsModel" "number" "I") (by decide +kernel)) (fun _ h9 => h9) rfl (by decide +kernel) rfl rfl (Nat.le_of_ble_eq_true rfl) dX7_reads_28 (fun H locs hP hD hS => ?_)
      have hP : va_P D vwCl (MW cI cZ a (upd (upd (upd (upd v 7 (nI nc)) 8 (nI at_)) 9 wy) 10 (x - 48)) su sl (updF (updF F 5 rt) 6 up)) H := hP
      have hD : va_D A (MW cI cZ a (upd (upd (upd (upd v 7 (nI nc)) 8 (nI at_)) 9 wy) 10 (x - 48)) su sl (updF (updF F 5 rt) 6 up)) := hD
      refine lv_aload_n hx hb dX7_reads_31 rfl (lv_at hl 0 rfl) ?_
      refine lv_dup hx hb dX7_reads_32 rfl ?_
      refine va_get (D := D) (ci := 9) (v := .int (nI at_)) (C := RX7) (T := TX7) (N := 24) hx hb hts (by decide +kernel) hown hK hP 0 rfl rfl 8 (by decide) (hts (.fieldLink RX7 61 "LandDeedsModel" "at" "I") (by decide +kernel)) (fun _ h9 => h9) rfl dX7_reads_33 ?_
      refine lv_iconst (v := 1) hx hb dX7_reads_36 (by decide) ?_
      refine lv_iadd hx hb dX7_reads_37 ?_
      refine u_eqi (show (nI at_) + 1 = nI (at_ + 1) from nI_1 at_) ?_
      refine va_put (D := D) (ci := 9) (v := .int (nI (at_ + 1))) (ty := .int) (C := RX7) (T := TX7) (N := 24) hx hb hts (by decide +kernel) tyX7 tyX7_ok nmX7 hown hK hP hD hS 0 rfl rfl 8 (by decide) (hts (.fieldLink RX7 61 "LandDeedsModel" "at" "I") (by decide +kernel)) (fun _ h9 => h9) rfl (by decide +kernel) rfl rfl (Nat.le_of_ble_eq_true rfl) dX7_reads_38 (fun H locs hP hD hS => ?_)
      have hP : va_P D vwCl (MW cI cZ a (upd (upd (upd (upd v 7 (nI nc)) 8 (nI (at_ + 1))) 9 wy) 10 (x - 48)) su sl (updF (updF F 5 rt) 6 up)) H := hP
      have hD : va_D A (MW cI cZ a (upd (upd (upd (upd v 7 (nI nc)) 8 (nI (at_ + 1))) 9 wy) 10 (x - 48)) su sl (updF (updF F 5 rt) 6 up)) := hD
      refine lv_iload_n hx hb dX7_reads_41 rfl (lv_at hl 1 rfl) ?_
      refine lv_bipush (v := 49) hx hb dX7_reads_42 (by decide) ?_
      refine lv_bipush (v := 57) hx hb dX7_reads_44 (by decide) ?_
      have hPc := hP.sub (ws' := []) [] rfl
      refine u_callSi (W.runS (As := [.int x, .int 49, .int 57]) (rest := []) ⟨hx, hb, hml, hown, hts⟩ (c_X7_in l D cI cB cZ cP x 49 57 ) (cwS 3 hts gX7_reads_X7_in rfl rfl rfl (by decide +kernel) ⟨Nat.le_of_ble_eq_true rfl, Nat.le_of_ble_eq_true rfl⟩) (pS hPc hW0 trivial) rfl rfl hl.1 rfl (lv_room (Nat.le_of_ble_eq_true rfl)) dX7_reads_46 ⟨Nat.le_of_ble_eq_true rfl, Nat.le_of_ble_eq_true rfl⟩) ?_
      rw [← hQ]
      have hP9 := hP
      have hD9 := hD
      exact W.zret (v := zb ((49 : Int32).toInt ≤ x.toInt ∧ x.toInt ≤ (57 : Int32).toInt)) hx hb hr (nar_zb _) (fun t ht hW => ⟨⟨_, (nc, (at_ + 1), wy, x - 48, rt, up), rfl, rd_o hM hne nc_2, by rw [ht]; exact hP9, hD9⟩, hS.F ht⟩) hS.2.2 dX7_reads_49
  · skip
    have nc_1 : at_ = 0 := (nI_eq (a := at_) (b := 0) (by omega) (by omega)).mp c_1
    have h00 : at_ = 0 := nc_1
    refine lv_aload_n hx hb dX7_reads_7 rfl (lv_at hl 0 rfl) ?_
    refine lv_iload_n hx hb dX7_reads_8 rfl (lv_at hl 1 rfl) ?_
    have hPc := hP
    have hDc := hD
    have hFc := va_free (wc := (MW cI cZ a (upd (upd (upd (upd v 7 (nI nc)) 8 (nI at_)) 9 wy) 10 nu) su sl (updF (updF F 5 rt) 6 up))) hD hS hA [0, 1, 2, 3, 4, 5, 6, 7, 8, 9, 10, 11, 12] rfl
    refine va_calli (va_runV (As := [.int x]) (rest := []) ⟨hx, hb, hml, hown, hts⟩ (c_X7_begins l D cI cB cZ cP s.heap.size a v su sl F nc at_ wy nu rt up Sx x (by first | assumption | omega) (h00)) (cwV 1 hts gX7_reads_X7_begins rfl rfl rfl (by decide +kernel) ⟨Nat.le_of_ble_eq_true rfl, Nat.le_of_ble_eq_true rfl⟩) (pVQ (q0 := 0) hPc hDc hW0 EF.t rfl rfl) rfl rfl hl.1 rfl (lv_room (Nat.le_of_ble_eq_true rfl)) dX7_reads_9 ⟨Nat.le_of_ble_eq_true rfl, Nat.le_of_ble_eq_true rfl⟩) hS (fun q _ h => hFc q h) hFc (fun r_16 u t H1 locs ht hvm hw hB hz1 hk1 hS => ?_)
    obtain ⟨nc1_16, at1_16, wy1_16, nu1_16, rt1_16, up1_16⟩ := u
    obtain ⟨hP1, hD1⟩ := hB
    rw [ht] at hP1
    have hw_16 : rdR x Sx nc1_16 at1_16 wy1_16 nu1_16 rt1_16 up1_16 r_16 := hw
    obtain ⟨hP, hD⟩ := va_join (wr := []) (w1 := (MW cI cZ a (upd (upd (upd (upd v 7 (nI nc1_16)) 8 (nI at1_16)) 9 wy1_16) 10 nu1_16) su sl (updF (updF F 5 rt1_16) 6 up1_16))) hP hD [0, 1, 2, 3, 4, 5, 6, 7, 8, 9, 10, 11, 12] [] rfl rfl (by decide) (by decide) hk1 hFc hP1 hD1
    generalize H1 = H at hP hS ⊢
    have hP : va_P D vwCl (MW cI cZ a (upd (upd (upd (upd v 7 (nI nc1_16)) 8 (nI at1_16)) 9 wy1_16) 10 nu1_16) su sl (updF (updF F 5 rt1_16) 6 up1_16)) H := hP
    have hD : va_D A (MW cI cZ a (upd (upd (upd (upd v 7 (nI nc1_16)) 8 (nI at1_16)) 9 wy1_16) 10 nu1_16) su sl (updF (updF F 5 rt1_16) 6 up1_16)) := hD
    rw [← hQ]
    have hP9 := hP
    have hD9 := hD
    exact W.zret (v := r_16) hx hb hr (rdR_01 hw_16) (fun t ht hW => ⟨⟨_, (nc1_16, at1_16, wy1_16, nu1_16, rt1_16, up1_16), rfl, hw_16, by rw [ht]; exact hP9, hD9⟩, hS.F ht⟩) hS.2.2 dX7_reads_12

set_option maxHeartbeats 4000000 in
set_option maxRecDepth 100000 in
theorem c_X7_faultNow (l : Launch) (D : va_G) (cI cB cZ cP : ClassId) (sz : Nat) (a : Nat → Nat) (v : Nat → Int32) (su sl : Int64) (F : Nat → Nat → Int32) (n0 : Nat) (hn0 : n0 ≤ 48) : Met l yX7_faultNow wsX7_faultNow ({ frames := 3, cells := 0, slots := 0, locals := 63 } : Room) (va_Pc [.ref (a 0)] (fun U => U.heap.size = sz ∧ va_P D vwCl (MW cI cZ a (upd v 4 (nI n0)) su sl F) U.heap ∧ KW D cI cB cZ cP U ∧ va_D (fun _ => True) (MW cI cZ a (upd v 4 (nI n0)) su sl F) ∧ EF (MW cI cZ a (upd v 4 (nI n0)) su sl F) sz E0 U.heap)) (va_Qi (fun r (u : Nat × Int32 × Int32 × Int32 × (Nat → Int32) × (Nat → Int32)) => match u with | (nc1, at1, wy1, nu1, rt1, up1) => MEnd (F 4) n0 nc1 rt1 up1 r) (fun (u : Nat × Int32 × Int32 × Int32 × (Nat → Int32) × (Nat → Int32)) (t : State) => match u with | (nc1, at1, wy1, nu1, rt1, up1) => va_P D vwCl (MW cI cZ a (upd (upd (upd (upd (upd v 4 (nI n0)) 7 (nI nc1)) 8 at1) 9 wy1) 10 nu1) su sl (updF (updF F 5 rt1) 6 up1)) t.heap ∧ va_D (va_A (MW cI cZ a (upd v 4 (nI n0)) su sl F) sz) (MW cI cZ a (upd (upd (upd (upd (upd v 4 (nI n0)) 7 (nI nc1)) 8 at1) 9 wy1) 10 nu1) su sl (updF (updF F 5 rt1) 6 up1))) (va_A (MW cI cZ a (upd v 4 (nI n0)) su sl F) sz)) 0 0 (va_A (MW cI cZ a (upd v 4 (nI n0)) su sl F) sz) := by
  refine Met.ofW (cc := cX7_faultNow) (maxL := 2) (ret := (some .int)) (by decide) rfl ?_
  intro p e s m args below meth c s₁ B hml hv
  obtain ⟨rfl, hsz, hP, hW0, hD0, hE⟩ := hv
  have hx := B.exec
  have hb := B.bytes
  have hr := B.returns
  have hts := atoms_spec (ws := wsX7_faultNow) B.pre
  have hown : s.vm.findClass RX7 = some m.cls := findClass_of_methodNamed B.named
  have hlocks := B.notSynchronized
  have hK := hW0.1
  subst hsz
  have hD := hD0.self (sz := s.heap.size)
  unfold EF at hE
  generalize hAe : va_A (MW cI cZ a (upd v 4 (nI n0)) su sl F) s.heap.size = A at hD hE ⊢
  have hA : ∀ q : Nat, s.heap.size ≤ q → A q := fun q h => by rw [← hAe]; exact Or.inr h
  have hS : va_S A s.heap s.heap [] := va_S.rf
  have hl := lv_entry ([.ref (a 0)]) (n := 2) (Nat.le_of_ble_eq_true rfl)
  rw [lg_entry_eq]
  generalize (lg_sl ([.ref (a 0)]) ++ List.replicate (2 - (lg_sl ([.ref (a 0)])).length) Slot.unset).toArray = ls at hl ⊢
  have hl : lv_has ls 2 [(0, .ref (a 0))] := hl
  show W p l e ({ frames := 3, cells := 0, slots := 0, locals := 63 } : Room) s m ([.ref (a 0)] : List Value).toArray below meth c s.heap [] 0 0 _ (F0 m 0 ls [])
  refine u_genQ (fun Q hQ => ?_)
  refine lv_aload_n hx hb dX7_faultNow_0 rfl (lv_at hl 0 rfl) ?_
  refine lv_iconst (v := 0) hx hb dX7_faultNow_1 (by decide) ?_
  refine va_put (D := D) (ci := 9) (v := .int 0) (ty := .int) (C := RX7) (T := TX7) (N := 24) hx hb hts (by decide +kernel) tyX7 tyX7_ok nmX7 hown hK hP hD hS 0 rfl rfl 7 (by decide) (hts (.fieldLink RX7 58 "LandDeedsModel" "calls" "I") (by decide +kernel)) (fun _ h9 => h9) rfl (by decide +kernel) rfl rfl (Nat.le_of_ble_eq_true rfl) dX7_faultNow_2 (fun H locs hP hD hS => ?_)
  have hP : va_P D vwCl (MW cI cZ a (upd (upd v 4 (nI n0)) 7 0) su sl F) H := hP
  have hD : va_D A (MW cI cZ a (upd (upd v 4 (nI n0)) 7 0) su sl F) := hD
  refine lv_aload_n hx hb dX7_faultNow_5 rfl (lv_at hl 0 rfl) ?_
  refine lv_iconst (v := 0) hx hb dX7_faultNow_6 (by decide) ?_
  refine va_put (D := D) (ci := 9) (v := .int 0) (ty := .int) (C := RX7) (T := TX7) (N := 24) hx hb hts (by decide +kernel) tyX7 tyX7_ok nmX7 hown hK hP hD hS 0 rfl rfl 8 (by decide) (hts (.fieldLink RX7 61 "LandDeedsModel" "at" "I") (by decide +kernel)) (fun _ h9 => h9) rfl (by decide +kernel) rfl rfl (Nat.le_of_ble_eq_true rfl) dX7_faultNow_7 (fun H locs hP hD hS => ?_)
  have hP : va_P D vwCl (MW cI cZ a (upd (upd (upd v 4 (nI n0)) 7 0) 8 0) su sl F) H := hP
  have hD : va_D A (MW cI cZ a (upd (upd (upd v 4 (nI n0)) 7 0) 8 0) su sl F) := hD
  refine lv_iconst (v := 0) hx hb dX7_faultNow_10 (by decide) ?_
  refine lv_istore_n (lv' := [(1, .int 0), (0, .ref (a 0))]) hx hb dX7_faultNow_11 rfl hl (by decide) rfl (fun ls hl => ?_)
  have LOOP_12 : ∀ (fu : Nat) (z : Nat) (nc : Nat) (at_ : Nat) (wy : Int32) (nu : Int32) (rt : Nat → Int32) (up : Nat → Int32) (hz : z ≤ n0) (hR : MRun (F 4) z nc at_ wy nu rt up) (hn : n0 - z < fu) (H : Heap) (locs : List Loc) (hP : va_P D vwCl (MW cI cZ a (upd (upd (upd (upd (upd v 4 (nI n0)) 7 (nI nc)) 8 (nI at_)) 9 wy) 10 nu) su sl (updF (updF F 5 rt) 6 up)) H) (hD : va_D A (MW cI cZ a (upd (upd (upd (upd (upd v 4 (nI n0)) 7 (nI nc)) 8 (nI at_)) 9 wy) 10 nu) su sl (updF (updF F 5 rt) 6 up))) (hS : va_S A s.heap H locs) (ls : Array Slot) (hl : lv_has ls 2 [(0, .ref (a 0)), (1, .int (nI z))]), W p l e ({ frames := 3, cells := 0, slots := 0, locals := 63 } : Room) s m ([.ref (a 0)] : List Value).toArray below meth c H locs 0 0 Q (F0 m 12 ls []) := by
    intro fu
    induction fu with
    | zero => intro z nc at_ wy nu rt up hz hR hn H locs hP hD hS ls hl; exact absurd hn (Nat.not_lt_zero _)
    | succ fu ih_12 =>
      intro z nc at_ wy nu rt up hz hR hn H locs hP hD hS ls hl
      refine lv_iload_n hx hb dX7_faultNow_12 rfl (lv_at hl 1 rfl) ?_
      refine lv_aload_n hx hb dX7_faultNow_13 rfl (lv_at hl 0 rfl) ?_
      refine va_get (D := D) (ci := 9) (v := .int (nI n0)) (C := RX7) (T := TX7) (N := 24) hx hb hts (by decide +kernel) hown hK hP 0 rfl rfl 4 (by decide) (hts (.fieldLink RX7 74 "LandDeedsModel" "signs" "I") (by decide +kernel)) (fun _ h9 => h9) rfl dX7_faultNow_14 ?_
      refine lv_icmp_ge (tgt := 41) hx hb dX7_faultNow_17 (by decide) (fun c_1 => ?_) (fun c_1 => ?_)
      · skip
        have nc_1 : n0 ≤ z := (nI_leI (a := n0) (b := z) (by omega) (by omega)).mp c_1
        have hz9 : z = n0 := by omega
        have hR := hz9 ▸ hR
        obtain ⟨Sx, hS9, hM⟩ := id hR
        have h49 := (MRel_at hM).1
        have h89 := (MRel_at hM).2.1
        have h19 := (MRel_at hM).2.2.1
        refine lv_aload_n hx hb dX7_faultNow_41 rfl (lv_at hl 0 rfl) ?_
        refine va_get (D := D) (ci := 9) (v := .int (nI at_)) (C := RX7) (T := TX7) (N := 24) hx hb hts (by decide +kernel) hown hK hP 0 rfl rfl 8 (by decide) (hts (.fieldLink RX7 61 "LandDeedsModel" "at" "I") (by decide +kernel)) (fun _ h9 => h9) rfl dX7_faultNow_42 ?_
        refine lv_if_eq (tgt := 66) hx hb dX7_faultNow_45 (by decide) (fun c_2 => ?_) (fun c_2 => ?_)
        · skip
          have nc_2 : at_ = 0 := (nI_eq (a := at_) (b := 0) (by omega) (by omega)).mp c_2
          refine lv_aload_n hx hb dX7_faultNow_66 rfl (lv_at hl 0 rfl) ?_
          refine va_get (D := D) (ci := 9) (v := .int (nI n0)) (C := RX7) (T := TX7) (N := 24) hx hb hts (by decide +kernel) hown hK hP 0 rfl rfl 4 (by decide) (hts (.fieldLink RX7 74 "LandDeedsModel" "signs" "I") (by decide +kernel)) (fun _ h9 => h9) rfl dX7_faultNow_67 ?_
          rw [← hQ]
          have hP9 := hP
          have hD9 := hD
          exact W.iret (v := nI n0) hx hb hr (fun t ht hW => ⟨⟨_, (nc, nI at_, wy, nu, rt, up), rfl, ME_part hn0 hR (by omega), by rw [ht]; exact hP9, hD9⟩, hS.F ht⟩) hS.2.2 dX7_faultNow_70
        · skip
          have nc_2 : ¬ (at_ = 0) := fun h => c_2 ((nI_eq (a := at_) (b := 0) (by omega) (by omega)).mpr h)
          refine lv_aload_n hx hb dX7_faultNow_48 rfl (lv_at hl 0 rfl) ?_
          refine va_get (D := D) (ci := 9) (v := .int (nI at_)) (C := RX7) (T := TX7) (N := 24) hx hb hts (by decide +kernel) hown hK hP 0 rfl rfl 8 (by decide) (hts (.fieldLink RX7 61 "LandDeedsModel" "at" "I") (by decide +kernel)) (fun _ h9 => h9) rfl dX7_faultNow_49 ?_
          refine lv_iconst (v := 2) hx hb dX7_faultNow_52 (by decide) ?_
          refine lv_irem hx hb dX7_faultNow_53 (by decide) ?_
          refine u_eqi (show (nI at_) - (nI at_) / 2 * 2 = nI (at_ % 2) from rem2 (by omega)) ?_
          refine lv_iconst (v := 1) hx hb dX7_faultNow_54 (by decide) ?_
          refine lv_icmp_eq (tgt := 66) hx hb dX7_faultNow_55 (by decide) (fun c_3 => ?_) (fun c_3 => ?_)
          · skip
            have nc_3 : at_ % 2 = 1 := (nI_eq (a := (at_ % 2)) (b := 1) (by omega) (by omega)).mp c_3
            refine lv_aload_n hx hb dX7_faultNow_66 rfl (lv_at hl 0 rfl) ?_
            refine va_get (D := D) (ci := 9) (v := .int (nI n0)) (C := RX7) (T := TX7) (N := 24) hx hb hts (by decide +kernel) hown hK hP 0 rfl rfl 4 (by decide) (hts (.fieldLink RX7 74 "LandDeedsModel" "signs" "I") (by decide +kernel)) (fun _ h9 => h9) rfl dX7_faultNow_67 ?_
            rw [← hQ]
            have hP9 := hP
            have hD9 := hD
            exact W.iret (v := nI n0) hx hb hr (fun t ht hW => ⟨⟨_, (nc, nI at_, wy, nu, rt, up), rfl, ME_part hn0 hR (by omega), by rw [ht]; exact hP9, hD9⟩, hS.F ht⟩) hS.2.2 dX7_faultNow_70
          · skip
            have nc_3 : ¬ (at_ % 2 = 1) := fun h => c_3 ((nI_eq (a := (at_ % 2)) (b := 1) (by omega) (by omega)).mpr h)
            refine lv_aload_n hx hb dX7_faultNow_58 rfl (lv_at hl 0 rfl) ?_
            refine va_get (D := D) (ci := 9) (v := .int (nI nc)) (C := RX7) (T := TX7) (N := 24) hx hb hts (by decide +kernel) hown hK hP 0 rfl rfl 7 (by decide) (hts (.fieldLink RX7 58 "LandDeedsModel" "calls" "I") (by decide +kernel)) (fun _ h9 => h9) rfl dX7_faultNow_59 ?_
            refine lv_iconst (v := 3) hx hb dX7_faultNow_62 (by decide) ?_
            refine lv_icmp_ge (tgt := 71) hx hb dX7_faultNow_63 (by decide) (fun c_4 => ?_) (fun c_4 => ?_)
            · skip
              have nc_4 : 3 ≤ nc := (nI_leI (a := 3) (b := nc) (by omega) (by omega)).mp c_4
              refine lv_aload_n hx hb dX7_faultNow_71 rfl (lv_at hl 0 rfl) ?_
              have hPc := hP
              have hDc := hD
              have hFc := va_free (wc := (MW cI cZ a (upd (upd (upd (upd (upd v 4 (nI n0)) 7 (nI nc)) 8 (nI at_)) 9 wy) 10 nu) su sl (updF (updF F 5 rt) 6 up))) hD hS hA [0, 1, 2, 3, 4, 5, 6, 7, 8, 9, 10, 11, 12] rfl
              refine va_callv (va_runV (As := []) (rest := []) ⟨hx, hb, hml, hown, hts⟩ (c_X7_endNumber l D cI cB cZ cP H.size a (upd (upd v 4 (nI n0)) 8 (nI at_)) su sl F nc wy nu rt up (by omega) (by first | assumption | omega)) (cwV 0 hts gX7_faultNow_X7_endNumber rfl rfl rfl (by decide +kernel) ⟨Nat.le_of_ble_eq_true rfl, Nat.le_of_ble_eq_true rfl⟩) (pVQ (q0 := 0) hPc hDc hW0 EF.t rfl rfl) rfl rfl hl.1 rfl (lv_room (Nat.le_of_ble_eq_true rfl)) dX7_faultNow_72 ⟨Nat.le_of_ble_eq_true rfl, Nat.le_of_ble_eq_true rfl⟩) hS (fun q _ h => hFc q h) hFc (fun u t H1 locs ht hvm hw hB hz1 hk1 hS => ?_)
              obtain ⟨rt1_5, up1_5⟩ := u
              obtain ⟨hP1, hD1⟩ := hB
              rw [ht] at hP1
              have hw_5 : endN nc wy nu rt up rt1_5 up1_5 := hw
              obtain ⟨hP, hD⟩ := va_join (wr := []) (w1 := (MW cI cZ a (upd (upd (upd (upd (upd v 4 (nI n0)) 7 (nI nc)) 8 (nI at_)) 9 wy) 10 nu) su sl (updF (updF F 5 rt1_5) 6 up1_5))) hP hD [0, 1, 2, 3, 4, 5, 6, 7, 8, 9, 10, 11, 12] [] rfl rfl (by decide) (by decide) hk1 hFc hP1 hD1
              generalize H1 = H at hP hS ⊢
              have hP : va_P D vwCl (MW cI cZ a (upd (upd (upd (upd (upd v 4 (nI n0)) 7 (nI nc)) 8 (nI at_)) 9 wy) 10 nu) su sl (updF (updF F 5 rt1_5) 6 up1_5)) H := hP
              have hD : va_D A (MW cI cZ a (upd (upd (upd (upd (upd v 4 (nI n0)) 7 (nI nc)) 8 (nI at_)) 9 wy) 10 nu) su sl (updF (updF F 5 rt1_5) 6 up1_5)) := hD
              refine lv_bipush (v := (-6)) hx hb dX7_faultNow_75 (by decide) ?_
              rw [← hQ]
              have hP9 := hP
              have hD9 := hD
              exact W.iret (v := (-6)) hx hb hr (fun t ht hW => ⟨⟨_, (nc, nI at_, wy, nu, rt1_5, up1_5), rfl, ME_whole hR (by omega) (by omega) (by omega) hw_5, by rw [ht]; exact hP9, hD9⟩, hS.F ht⟩) hS.2.2 dX7_faultNow_77
            · skip
              have nc_4 : ¬ (3 ≤ nc) := fun h => c_4 ((nI_leI (a := 3) (b := nc) (by omega) (by omega)).mpr h)
              refine lv_aload_n hx hb dX7_faultNow_66 rfl (lv_at hl 0 rfl) ?_
              refine va_get (D := D) (ci := 9) (v := .int (nI n0)) (C := RX7) (T := TX7) (N := 24) hx hb hts (by decide +kernel) hown hK hP 0 rfl rfl 4 (by decide) (hts (.fieldLink RX7 74 "LandDeedsModel" "signs" "I") (by decide +kernel)) (fun _ h9 => h9) rfl dX7_faultNow_67 ?_
              rw [← hQ]
              have hP9 := hP
              have hD9 := hD
              exact W.iret (v := nI n0) hx hb hr (fun t ht hW => ⟨⟨_, (nc, nI at_, wy, nu, rt, up), rfl, ME_part hn0 hR (by omega), by rw [ht]; exact hP9, hD9⟩, hS.F ht⟩) hS.2.2 dX7_faultNow_70
      · skip
        have nc_1 : ¬ (n0 ≤ z) := fun h => c_1 ((nI_leI (a := n0) (b := z) (by omega) (by omega)).mpr h)
        have hz8 : z < n0 := by omega
        obtain ⟨Sx, hS9, hM⟩ := id hR
        refine lv_aload_n hx hb dX7_faultNow_20 rfl (lv_at hl 0 rfl) ?_
        refine lv_aload_n hx hb dX7_faultNow_21 rfl (lv_at hl 0 rfl) ?_
        refine va_get (D := D) (ci := 9) (v := .ref (a 4)) (C := RX7) (T := TX7) (N := 24) hx hb hts (by decide +kernel) hown hK hP 0 rfl rfl 3 (by decide) (hts (.fieldLink RX7 20 "LandDeedsModel" "text" "[I") (by decide +kernel)) (fun _ h9 => h9) rfl dX7_faultNow_22 ?_
        refine lv_iload_n hx hb dX7_faultNow_25 rfl (lv_at hl 1 rfl) ?_
        refine u_iald hx hb hK hP 4 0 rfl rfl rfl ⟨by omega, by omega⟩ dX7_faultNow_26 ?_
        have hPc := hP
        have hDc := hD
        have hFc := va_free (wc := (MW cI cZ a (upd (upd (upd (upd (upd v 4 (nI n0)) 7 (nI nc)) 8 (nI at_)) 9 wy) 10 nu) su sl (updF (updF F 5 rt) 6 up))) hD hS hA [0, 1, 2, 3, 4, 5, 6, 7, 8, 9, 10, 11, 12] rfl
        refine va_calli (va_runV (As := [.int ((F 4) z)]) (rest := []) ⟨hx, hb, hml, hown, hts⟩ (c_X7_reads l D cI cB cZ cP H.size a (upd v 4 (nI n0)) su sl F nc at_ wy nu rt up Sx ((F 4) z) (hM)) (cwV 1 hts gX7_faultNow_X7_reads rfl rfl rfl (by decide +kernel) ⟨Nat.le_of_ble_eq_true rfl, Nat.le_of_ble_eq_true rfl⟩) (pVQ (q0 := 0) hPc hDc hW0 EF.t rfl rfl) rfl rfl hl.1 rfl (lv_room (Nat.le_of_ble_eq_true rfl)) dX7_faultNow_27 ⟨Nat.le_of_ble_eq_true rfl, Nat.le_of_ble_eq_true rfl⟩) hS (fun q _ h => hFc q h) hFc (fun r_6 u t H1 locs ht hvm hw hB hz1 hk1 hS => ?_)
        obtain ⟨nc1_6, at1_6, wy1_6, nu1_6, rt1_6, up1_6⟩ := u
        obtain ⟨hP1, hD1⟩ := hB
        rw [ht] at hP1
        have hw_6 : rdR ((F 4) z) Sx nc1_6 at1_6 wy1_6 nu1_6 rt1_6 up1_6 r_6 := hw
        obtain ⟨hP, hD⟩ := va_join (wr := []) (w1 := (MW cI cZ a (upd (upd (upd (upd (upd v 4 (nI n0)) 7 (nI nc1_6)) 8 (nI at1_6)) 9 wy1_6) 10 nu1_6) su sl (updF (updF F 5 rt1_6) 6 up1_6))) hP hD [0, 1, 2, 3, 4, 5, 6, 7, 8, 9, 10, 11, 12] [] rfl rfl (by decide) (by decide) hk1 hFc hP1 hD1
        generalize H1 = H at hP hS ⊢
        have hP : va_P D vwCl (MW cI cZ a (upd (upd (upd (upd (upd v 4 (nI n0)) 7 (nI nc1_6)) 8 (nI at1_6)) 9 wy1_6) 10 nu1_6) su sl (updF (updF F 5 rt1_6) 6 up1_6)) H := hP
        have hD : va_D A (MW cI cZ a (upd (upd (upd (upd (upd v 4 (nI n0)) 7 (nI nc1_6)) 8 (nI at1_6)) 9 wy1_6) 10 nu1_6) su sl (updF (updF F 5 rt1_6) 6 up1_6)) := hD
        refine lv_if_ne (tgt := 35) hx hb dX7_faultNow_30 (by decide) (fun c_7 => ?_) (fun c_7 => ?_)
        · skip
          refine lv_iinc (v := nI (z + 1)) (lv' := [(1, .int (nI (z + 1))), (0, .ref (a 0))]) hx hb dX7_faultNow_35 hl (k := 1) rfl (nI_1 _) (by decide) rfl (fun ls hl => ?_)
          refine lv_goto (tgt := 12) hx hb dX7_faultNow_38 (by decide) ?_
          exact ih_12 (z + 1) nc1_6 at1_6 wy1_6 nu1_6 rt1_6 up1_6 (by omega) (MRun_on hS9 hw_6 c_7) (by omega) _ _ hP hD hS ls (lv_sub hl [1, 0] rfl)
        · skip
          have h9z := c_7
          refine lv_iload_n hx hb dX7_faultNow_33 rfl (lv_at hl 1 rfl) ?_
          rw [← hQ]
          have hP9 := hP
          have hD9 := hD
          exact W.iret (v := nI z) hx hb hr (fun t ht hW => ⟨⟨_, (nc1_6, nI at1_6, wy1_6, nu1_6, rt1_6, up1_6), rfl, by rcases hw_6 with ⟨h9, -⟩ | ⟨-, h9, h8⟩; exact absurd (h9.symm.trans c_7) (by decide); exact ME_stop hz8 hn0 hS9 h9 h8, by rw [ht]; exact hP9, hD9⟩, hS.F ht⟩) hS.2.2 dX7_faultNow_34
  exact LOOP_12 (n0 - 0 + 1) 0 0 0 (v 9) (v 10) (F 5) (F 6) (Nat.zero_le _) (MRun_0 _ _ _ _ _) (Nat.lt_succ_self _) _ _ hP hD hS ls (lv_sub hl [1, 0] rfl)

