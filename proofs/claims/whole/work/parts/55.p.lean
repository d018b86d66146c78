set_option maxHeartbeats 4000000 in
set_option maxRecDepth 100000 in
theorem c_X7_loose (l : Launch) (D : va_G) (cI cB cZ cP : ClassId) (sz : Nat) (a : Nat → Nat) (v : Nat → Int32) (su sl : Int64) (F : Nat → Nat → Int32) (x : Int32) : Met l yX7_loose wsX7_loose ({ frames := 1, cells := 0, slots := 0, locals := 22 } : Room) (va_Pc [.ref (a 0), .int x] (fun U => U.heap.size = sz ∧ va_P D vwCl (MW cI cZ a v su sl F) U.heap ∧ KW D cI cB cZ cP U ∧ va_D (fun _ => True) (MW cI cZ a v su sl F) ∧ EF (MW cI cZ a v su sl F) sz E0 U.heap)) (va_Qi (fun r (u : (Nat → Int32) × Int64 × Int64 × (Nat → Nat → Int32)) => match u with | (v1, su1, sl1, F1) => (¬ (0 ≤ x.toInt ∧ x.toInt ≤ 20) ∧ r = -2 ∧ keepM v F v1 F1) ∨ ((0 ≤ x.toInt ∧ x.toInt ≤ 20) ∧ r = F 1 109 ∧ v1 4 = v 4 ∧ F1 1 = upd (F 1) 109 x ∧ F1 2 = F 2 ∧ F1 3 = F 3 ∧ F1 4 = F 4)) (fun (u : (Nat → Int32) × Int64 × Int64 × (Nat → Nat → Int32)) (t : State) => match u with | (v1, su1, sl1, F1) => va_P D vwCl (MW cI cZ a v1 su1 sl1 F1) t.heap ∧ va_D (va_A (MW cI cZ a v su sl F) sz) (MW cI cZ a v1 su1 sl1 F1)) (va_A (MW cI cZ a v su sl F) sz)) 0 0 (va_A (MW cI cZ a v su sl F) sz) := by
  refine Met.ofW (cc := cX7_loose) (maxL := 3) (ret := (some .int)) (by decide) rfl ?_
  intro p e s m args below meth c s₁ B hml hv
  obtain ⟨rfl, hsz, hP, hW0, hD0, hE⟩ := hv
  have hx := B.exec
  have hb := B.bytes
  have hr := B.returns
  have hts := atoms_spec (ws := wsX7_loose) B.pre
  have hown : s.vm.findClass RX7 = some m.cls := findClass_of_methodNamed B.named
  have hlocks := B.notSynchronized
  have hK := hW0.1
  subst hsz
  have hD := hD0.self (sz := s.heap.size)
  unfold EF at hE
  generalize hAe : va_A (MW cI cZ a v su sl F) s.heap.size = A at hD hE ⊢
  have hA : ∀ q : Nat, s.heap.size ≤ q → A q := fun q h => by rw [← hAe]; exact Or.inr h
  have hS : va_S A s.heap s.heap [] := va_S.rf
  have hl := lv_entry ([.ref (a 0), .int x]) (n := 3) (Nat.le_of_ble_eq_true rfl)
  rw [lg_entry_eq]
  generalize (lg_sl ([.ref (a 0), .int x]) ++ List.replicate (3 - (lg_sl ([.ref (a 0), .int x])).length) Slot.unset).toArray = ls at hl ⊢
  have hl : lv_has ls 3 [(0, .ref (a 0)), (1, .int x)] := hl
  show W p l e ({ frames := 1, cells := 0, slots := 0, locals := 22 } : Room) s m ([.ref (a 0), .int x] : List Value).toArray below meth c s.heap [] 0 0 _ (F0 m 0 ls [])
  refine u_genQ (fun Q hQ => ?_)
  refine lv_iload_n hx hb dX7_loose_0 rfl (lv_at hl 1 rfl) ?_
  refine lv_iconst (v := 0) hx hb dX7_loose_1 (by decide) ?_
  refine lv_bipush (v := 20) hx hb dX7_loose_2 (by decide) ?_
  have hPc := hP.sub (ws' := []) [] rfl
  refine u_callSi (W.runS (As := [.int x, .int 0, .int 20]) (rest := []) ⟨hx, hb, hml, hown, hts⟩ (c_X7_in l D cI cB cZ cP x 0 20 ) (cwS 3 hts gX7_loose_X7_in rfl rfl rfl (by decide +kernel) ⟨Nat.le_of_ble_eq_true rfl, Nat.le_of_ble_eq_true rfl⟩) (pS hPc hW0 trivial) rfl rfl hl.1 rfl (lv_room (Nat.le_of_ble_eq_true rfl)) dX7_loose_4 ⟨Nat.le_of_ble_eq_true rfl, Nat.le_of_ble_eq_true rfl⟩) ?_
  refine lv_if_ne (tgt := 13) hx hb dX7_loose_7 (by decide) (fun c_1 => ?_) (fun c_1 => ?_)
  · skip
    have nc_1 := zb_ne0.mp c_1
    refine lv_aload_n hx hb dX7_loose_13 rfl (lv_at hl 0 rfl) ?_
    refine va_get (D := D) (ci := 9) (v := .ref (a 1)) (C := RX7) (T := TX7) (N := 24) hx hb hts (by decide +kernel) hown hK hP 0 rfl rfl 0 (by decide) (hts (.fieldLink RX7 7 "LandDeedsModel" "state" "[I") (by decide +kernel)) (fun _ h9 => h9) rfl dX7_loose_14 ?_
    refine lv_bipush (v := 109) hx hb dX7_loose_17 (by decide) ?_
    refine u_iald hx hb hK hP 1 0 rfl rfl rfl ⟨by decide, by decide⟩ dX7_loose_19 ?_
    refine lv_istore_n (lv' := [(2, .int ((F 1) 109)), (0, .ref (a 0)), (1, .int x)]) hx hb dX7_loose_20 rfl hl (by decide) rfl (fun ls hl => ?_)
    refine lv_aload_n hx hb dX7_loose_21 rfl (lv_at hl 1 rfl) ?_
    refine va_get (D := D) (ci := 9) (v := .ref (a 1)) (C := RX7) (T := TX7) (N := 24) hx hb hts (by decide +kernel) hown hK hP 0 rfl rfl 0 (by decide) (hts (.fieldLink RX7 7 "LandDeedsModel" "state" "[I") (by decide +kernel)) (fun _ h9 => h9) rfl dX7_loose_22 ?_
    refine lv_bipush (v := 109) hx hb dX7_loose_25 (by decide) ?_
    refine lv_iload_n hx hb dX7_loose_27 rfl (lv_at hl 2 rfl) ?_
    refine u_iast hx hb hK hP hD hS 1 0 rfl rfl rfl ⟨by decide, by decide⟩ dX7_loose_28 (fun H locs hP hD hS => ?_)
    have hP : va_P D vwCl (MW cI cZ a v su sl (updF F 1 (upd (F 1) 109 x))) H := hP
    have hD : va_D A (MW cI cZ a v su sl (updF F 1 (upd (F 1) 109 x))) := hD
    refine lv_iload_n hx hb dX7_loose_29 rfl (lv_at hl 0 rfl) ?_
    rw [← hQ]
    have hP9 := hP
    have hD9 := hD
    exact W.iret (v := (F 1) 109) hx hb hr (fun t ht hW => ⟨⟨_, (v, su, sl, updF F 1 (upd (F 1) 109 x)), rfl, Or.inr ⟨by have h9 := nc_1; rw [li_0, li_20] at h9; exact h9, rfl, rfl, rfl, rfl, rfl, rfl⟩, by rw [ht]; exact hP9, hD9⟩, hS.F ht⟩) hS.2.2 dX7_loose_30
  · skip
    have nc_1 := zb_eq0.mp c_1
    refine lv_bipush (v := (-2)) hx hb dX7_loose_10 (by decide) ?_
    rw [← hQ]
    have hP9 := hP
    have hD9 := hD
    exact W.iret (v := (-2)) hx hb hr (fun t ht hW => ⟨⟨_, (v, su, sl, F), rfl, Or.inl ⟨by have h9 := nc_1; rw [li_0, li_20] at h9; exact h9, rfl, ⟨rfl, rfl, rfl, rfl, rfl⟩⟩, by rw [ht]; exact hP9, hD9⟩, hS.F ht⟩) hS.2.2 dX7_loose_12

set_option maxHeartbeats 4000000 in
set_option maxRecDepth 100000 in
theorem c_X7_year (l : Launch) (D : va_G) (cI cB cZ cP : ClassId) (sz : Nat) (a : Nat → Nat) (v : Nat → Int32) (su sl : Int64) (F : Nat → Nat → Int32) (kk : Nat) (pn : Nat → Nat) (x0 y : Int32) (hSM : stM (F 1) kk pn) : Met l yX7_year wsX7_year ({ frames := 2, cells := 0, slots := 0, locals := 43 } : Room) (va_Pc [.ref (a 0), .int x0, .int y] (fun U => U.heap.size = sz ∧ va_P D vwCl (MW cI cZ a v su sl F) U.heap ∧ KW D cI cB cZ cP U ∧ va_D (fun _ => True) (MW cI cZ a v su sl F) ∧ EF (MW cI cZ a v su sl F) sz E0 U.heap)) (va_Qi (fun r (u : (Nat → Int32) × Int64 × Int64 × (Nat → Nat → Int32)) => match u with | (v1, su1, sl1, F1) => r = aYear kk (F 1) x0 y ∧ v1 4 = v 4 ∧ F1 1 = cif (inP kk x0 ∧ 1 ≤ y.toInt ∧ y.toInt ≤ 999) (upd (F 1) (ix x0) y) (F 1) ∧ F1 2 = F 2 ∧ F1 3 = F 3 ∧ F1 4 = F 4) (fun (u : (Nat → Int32) × Int64 × Int64 × (Nat → Nat → Int32)) (t : State) => match u with | (v1, su1, sl1, F1) => va_P D vwCl (MW cI cZ a v1 su1 sl1 F1) t.heap ∧ va_D (va_A (MW cI cZ a v su sl F) sz) (MW cI cZ a v1 su1 sl1 F1)) (va_A (MW cI cZ a v su sl F) sz)) 0 0 (va_A (MW cI cZ a v su sl F) sz) := by
  refine Met.ofW (cc := cX7_year) (maxL := 5) (ret := (some .int)) (by decide) rfl ?_
  intro p e s m args below meth c s₁ B hml hv
  obtain ⟨rfl, hsz, hP, hW0, hD0, hE⟩ := hv
  have hx := B.exec
  have hb := B.bytes
  have hr := B.returns
  have hts := atoms_spec (ws := wsX7_year) B.pre
  have hown : s.vm.findClass RX7 = some m.cls := findClass_of_methodNamed B.named
  have hlocks := B.notSynchronized
  have hK := hW0.1
  subst hsz
  have hD := hD0.self (sz := s.heap.size)
  unfold EF at hE
  generalize hAe : va_A (MW cI cZ a v su sl F) s.heap.size = A at hD hE ⊢
  have hA : ∀ q : Nat, s.heap.size ≤ q → A q := fun q h => by rw [← hAe]; exact Or.inr h
  have hS : va_S A s.heap s.heap [] := va_S.rf
  have hl := lv_entry ([.ref (a 0), .int x0, .int y]) (n := 5) (Nat.le_of_ble_eq_true rfl)
  rw [lg_entry_eq]
  generalize (lg_sl ([.ref (a 0), .int x0, .int y]) ++ List.replicate (5 - (lg_sl ([.ref (a 0), .int x0, .int y])).length) Slot.unset).toArray = ls at hl ⊢
  have hl : lv_has ls 5 [(0, .ref (a 0)), (1, .int x0), (2, .int y)] := hl
  show W p l e ({ frames := 2, cells := 0, slots := 0, locals := 43 } : Room) s m ([.ref (a 0), .int x0, .int y] : List Value).toArray below meth c s.heap [] 0 0 _ (F0 m 0 ls [])
  refine u_genQ (fun Q hQ => ?_)
  obtain ⟨hs1, hs2, hs3⟩ := id hSM
  refine lv_aload_n hx hb dX7_year_0 rfl (lv_at hl 0 rfl) ?_
  refine lv_iload_n hx hb dX7_year_1 rfl (lv_at hl 1 rfl) ?_
  have hPc := hP
  refine u_callSi (W.runV (As := [.int x0]) (rest := []) ⟨hx, hb, hml, hown, hts⟩ (c_X7_isPlot l D cI cB cZ cP a v su sl F x0 kk (hs2) (hs1)) (cwV 1 hts gX7_year_X7_isPlot rfl rfl rfl (by decide +kernel) ⟨Nat.le_of_ble_eq_true rfl, Nat.le_of_ble_eq_true rfl⟩) (pV (q0 := 0) hPc hW0 trivial rfl rfl) rfl rfl hl.1 rfl (lv_room (Nat.le_of_ble_eq_true rfl)) dX7_year_2 ⟨Nat.le_of_ble_eq_true rfl, Nat.le_of_ble_eq_true rfl⟩) ?_
  refine lv_if_ne (tgt := 10) hx hb dX7_year_5 (by decide) (fun c_1 => ?_) (fun c_1 => ?_)
  · skip
    have nc_1 := zb_ne0.mp c_1
    obtain ⟨pp, hpp, epp, xpp⟩ := inP_nat nc_1 (by omega)
    rw [epp] at hl
    refine lv_iload_n hx hb dX7_year_10 rfl (lv_at hl 2 rfl) ?_
    refine lv_iconst (v := 1) hx hb dX7_year_11 (by decide) ?_
    refine lv_sipush (v := 999) hx hb dX7_year_12 (by decide) ?_
    have hPc := hP.sub (ws' := []) [] rfl
    refine u_callSi (W.runS (As := [.int y, .int 1, .int 999]) (rest := []) ⟨hx, hb, hml, hown, hts⟩ (c_X7_in l D cI cB cZ cP y 1 999 ) (cwS 3 hts gX7_year_X7_in rfl rfl rfl (by decide +kernel) ⟨Nat.le_of_ble_eq_true rfl, Nat.le_of_ble_eq_true rfl⟩) (pS hPc hW0 trivial) rfl rfl hl.1 rfl (lv_room (Nat.le_of_ble_eq_true rfl)) dX7_year_15 ⟨Nat.le_of_ble_eq_true rfl, Nat.le_of_ble_eq_true rfl⟩) ?_
    refine lv_if_ne (tgt := 24) hx hb dX7_year_18 (by decide) (fun c_2 => ?_) (fun c_2 => ?_)
    · skip
      have nc_2 := zb_ne0.mp c_2
      have hw9 : 1 ≤ y.toInt ∧ y.toInt ≤ 999 := by have h9 := nc_2; rw [li_1, li_999] at h9; exact h9
      refine lv_aload_n hx hb dX7_year_24 rfl (lv_at hl 0 rfl) ?_
      refine va_get (D := D) (ci := 9) (v := .ref (a 1)) (C := RX7) (T := TX7) (N := 24) hx hb hts (by decide +kernel) hown hK hP 0 rfl rfl 0 (by decide) (hts (.fieldLink RX7 7 "LandDeedsModel" "state" "[I") (by decide +kernel)) (fun _ h9 => h9) rfl dX7_year_25 ?_
      refine lv_iconst (v := 0) hx hb dX7_year_28 (by decide) ?_
      refine lv_iload_n hx hb dX7_year_29 rfl (lv_at hl 1 rfl) ?_
      refine lv_iadd hx hb dX7_year_30 ?_
      refine u_eqi (show 0 + (nI pp) = nI pp from Int32.zero_add _) ?_
      refine lv_iload_n hx hb dX7_year_31 rfl (lv_at hl 2 rfl) ?_
      refine u_iast hx hb hK hP hD hS 1 0 rfl rfl rfl ⟨by omega, by omega⟩ dX7_year_32 (fun H locs hP hD hS => ?_)
      have hP : va_P D vwCl (MW cI cZ a v su sl (updF F 1 (upd (F 1) pp y))) H := hP
      have hD : va_D A (MW cI cZ a v su sl (updF F 1 (upd (F 1) pp y))) := hD
      refine lv_iconst (v := 0) hx hb dX7_year_33 (by decide) ?_
      refine lv_istore_n (lv' := [(3, .int 0), (0, .ref (a 0)), (1, .int (nI pp)), (2, .int y)]) hx hb dX7_year_34 rfl hl (by decide) rfl (fun ls hl => ?_)
      refine lv_iconst (v := 0) hx hb dX7_year_35 (by decide) ?_
      refine lv_istore (lv' := [(4, .int 0), (3, .int 0), (0, .ref (a 0)), (1, .int (nI pp)), (2, .int y)]) hx hb dX7_year_36 hl (by decide) rfl (fun ls hl => ?_)
      have LOOP_38 : ∀ (fu : Nat) (z : Nat) (hz : z ≤ kk) (hn : kk - z < fu) (H : Heap) (locs : List Loc) (hP : va_P D vwCl (MW cI cZ a v su sl (updF F 1 (upd (F 1) pp y))) H) (hD : va_D A (MW cI cZ a v su sl (updF F 1 (upd (F 1) pp y)))) (hS : va_S A s.heap H locs) (ls : Array Slot) (hl : lv_has ls 5 [(0, .ref (a 0)), (1, .int (nI pp)), (3, .int (nI (cnt (fun z => old (upd (F 1) pp y) z pp) z))), (4, .int (nI z))]), W p l e ({ frames := 2, cells := 0, slots := 0, locals := 43 } : Room) s m ([.ref (a 0), .int x0, .int y] : List Value).toArray below meth c H locs 0 0 Q (F0 m 38 ls []) := by
        intro fu
        induction fu with
        | zero => intro z hz hn H locs hP hD hS ls hl; exact absurd hn (Nat.not_lt_zero _)
        | succ fu ih_38 =>
          intro z hz hn H locs hP hD hS ls hl
          refine lv_iload hx hb dX7_year_38 (lv_at hl 3 rfl) ?_
          refine lv_aload_n hx hb dX7_year_40 rfl (lv_at hl 0 rfl) ?_
          refine va_get (D := D) (ci := 9) (v := .ref (a 1)) (C := RX7) (T := TX7) (N := 24) hx hb hts (by decide +kernel) hown hK hP 0 rfl rfl 0 (by decide) (hts (.fieldLink RX7 7 "LandDeedsModel" "state" "[I") (by decide +kernel)) (fun _ h9 => h9) rfl dX7_year_41 ?_
          refine lv_bipush (v := 108) hx hb dX7_year_44 (by decide) ?_
          refine u_iald hx hb hK hP 1 0 rfl rfl rfl ⟨by decide, by decide⟩ dX7_year_46 ?_
          refine u_eqi (show (upd (F 1) pp y) 108 = nI kk from (pk_un (by omega)).trans hs1) ?_
          refine lv_icmp_ge (tgt := 74) hx hb dX7_year_47 (by decide) (fun c_3 => ?_) (fun c_3 => ?_)
          · skip
            have nc_3 : kk ≤ z := (nI_leI (a := kk) (b := z) (by omega) (by omega)).mp c_3
            refine lv_iload_n hx hb dX7_year_74 rfl (lv_at hl 2 rfl) ?_
            rw [← hQ]
            have hP9 := hP
            have hD9 := hD
            exact W.iret (v := nI (cnt (fun z => old (upd (F 1) pp y) z pp) z)) hx hb hr (fun t ht hW => ⟨⟨_, (v, su, sl, updF F 1 (upd (F 1) pp y)), rfl, ⟨by rw [show aYear kk (F 1) x0 y = _ from (cif_t nc_1).trans (cif_t hw9), xpp, show z = kk by omega], rfl, by rw [cif_t ⟨nc_1, hw9⟩, xpp]; rfl, rfl, rfl, rfl⟩, by rw [ht]; exact hP9, hD9⟩, hS.F ht⟩) hS.2.2 dX7_year_75
          · skip
            have nc_3 : ¬ (kk ≤ z) := fun h => c_3 ((nI_leI (a := kk) (b := z) (by omega) (by omega)).mpr h)
            refine lv_iload_n hx hb dX7_year_50 rfl (lv_at hl 2 rfl) ?_
            refine lv_aload_n hx hb dX7_year_51 rfl (lv_at hl 0 rfl) ?_
            refine lv_iload hx hb dX7_year_52 (lv_at hl 3 rfl) ?_
            refine lv_iload_n hx hb dX7_year_54 rfl (lv_at hl 1 rfl) ?_
            have hPc := hP
            refine u_callSi (W.runV (As := [.int (nI z), .int (nI pp)]) (rest := [.int (nI (cnt (fun z => old (upd (F 1) pp y) z pp) z))]) ⟨hx, hb, hml, hown, hts⟩ (c_X7_isOlder l D cI cB cZ cP a v su sl (updF F 1 (upd (F 1) pp y)) z pp (by omega) (by omega)) (cwV 2 hts gX7_year_X7_isOlder rfl rfl rfl (by decide +kernel) ⟨Nat.le_of_ble_eq_true rfl, Nat.le_of_ble_eq_true rfl⟩) (pV (q0 := 0) hPc hW0 trivial rfl rfl) rfl rfl hl.1 rfl (lv_room (Nat.le_of_ble_eq_true rfl)) dX7_year_55 ⟨Nat.le_of_ble_eq_true rfl, Nat.le_of_ble_eq_true rfl⟩) ?_
            refine lv_if_eq (tgt := 65) hx hb dX7_year_58 (by decide) (fun c_4 => ?_) (fun c_4 => ?_)
            · skip
              have nc_4 := zb_eq0.mp c_4
              refine lv_iconst (v := 0) hx hb dX7_year_65 (by decide) ?_
              refine lv_iadd hx hb dX7_year_66 ?_
              refine u_eqi (show (nI (cnt (fun z => old (upd (F 1) pp y) z pp) z)) + 0 = nI (cnt (fun z => old (upd (F 1) pp y) z pp) z) from Int32.add_zero _) ?_
              refine lv_istore_n (lv' := [(3, .int (nI (cnt (fun z => old (upd (F 1) pp y) z pp) z))), (0, .ref (a 0)), (1, .int (nI pp)), (4, .int (nI z))]) hx hb dX7_year_67 rfl hl (by decide) rfl (fun ls hl => ?_)
              refine lv_iinc (v := nI (z + 1)) (lv' := [(4, .int (nI (z + 1))), (3, .int (nI (cnt (fun z => old (upd (F 1) pp y) z pp) z))), (0, .ref (a 0)), (1, .int (nI pp))]) hx hb dX7_year_68 hl (k := 3) rfl (nI_1 _) (by decide) rfl (fun ls hl => ?_)
              refine lv_goto (tgt := 38) hx hb dX7_year_71 (by decide) ?_
              exact ih_38 (z + 1) (by omega) (by omega) _ _ hP hD hS ls (by rw [cnt_f (P := fun z => old (upd (F 1) pp y) z pp) nc_4]; exact (lv_sub hl [2, 3, 1, 0] rfl))
            · skip
              have nc_4 := zb_ne0.mp c_4
              refine lv_iconst (v := 1) hx hb dX7_year_61 (by decide) ?_
              refine lv_goto (tgt := 66) hx hb dX7_year_62 (by decide) ?_
              refine lv_iadd hx hb dX7_year_66 ?_
              refine u_eqi (show (nI (cnt (fun z => old (upd (F 1) pp y) z pp) z)) + 1 = nI (cnt (fun z => old (upd (F 1) pp y) z pp) z + 1) from nI_1 _) ?_
              refine lv_istore_n (lv' := [(3, .int (nI (cnt (fun z => old (upd (F 1) pp y) z pp) z + 1))), (0, .ref (a 0)), (1, .int (nI pp)), (4, .int (nI z))]) hx hb dX7_year_67 rfl hl (by decide) rfl (fun ls hl => ?_)
              refine lv_iinc (v := nI (z + 1)) (lv' := [(4, .int (nI (z + 1))), (3, .int (nI (cnt (fun z => old (upd (F 1) pp y) z pp) z + 1))), (0, .ref (a 0)), (1, .int (nI pp))]) hx hb dX7_year_68 hl (k := 3) rfl (nI_1 _) (by decide) rfl (fun ls hl => ?_)
              refine lv_goto (tgt := 38) hx hb dX7_year_71 (by decide) ?_
              exact ih_38 (z + 1) (by omega) (by omega) _ _ hP hD hS ls (by rw [cnt_t (P := fun z => old (upd (F 1) pp y) z pp) nc_4]; exact (lv_sub hl [2, 3, 1, 0] rfl))
      exact LOOP_38 (kk - 0 + 1) 0 (Nat.zero_le _) (Nat.lt_succ_self _) _ _ hP hD hS ls (lv_sub hl [2, 3, 1, 0] rfl)
    · skip
      have nc_2 := zb_eq0.mp c_2
      have hw9 : ¬ (1 ≤ y.toInt ∧ y.toInt ≤ 999) := by have h9 := nc_2; rw [li_1, li_999] at h9; exact h9
      refine lv_bipush (v := (-2)) hx hb dX7_year_21 (by decide) ?_
      rw [← hQ]
      have hP9 := hP
      have hD9 := hD
      exact W.iret (v := (-2)) hx hb hr (fun t ht hW => ⟨⟨_, (v, su, sl, F), rfl, ⟨((cif_t nc_1).trans (cif_f hw9)).symm, rfl, (cif_f (fun q => hw9 q.2)).symm, rfl, rfl, rfl⟩, by rw [ht]; exact hP9, hD9⟩, hS.F ht⟩) hS.2.2 dX7_year_23
  · skip
    have nc_1 := zb_eq0.mp c_1
    refine lv_iconst (v := (-1)) hx hb dX7_year_8 (by decide) ?_
    rw [← hQ]
    have hP9 := hP
    have hD9 := hD
    exact W.iret (v := (-1)) hx hb hr (fun t ht hW => ⟨⟨_, (v, su, sl, F), rfl, ⟨(cif_f nc_1).symm, rfl, (cif_f (fun q => nc_1 q.1)).symm, rfl, rfl, rfl⟩, by rw [ht]; exact hP9, hD9⟩, hS.F ht⟩) hS.2.2 dX7_year_9

set_option maxHeartbeats 4000000 in
set_option maxRecDepth 100000 in
theorem c_X7_drop (l : Launch) (D : va_G) (cI cB cZ cP : ClassId) (sz : Nat) (a : Nat → Nat) (v : Nat → Int32) (su sl : Int64) (F : Nat → Nat → Int32) (kk : Nat) (pn : Nat → Nat) (x0 : Int32) (hSM : stM (F 1) kk pn) : Met l yX7_drop wsX7_drop ({ frames := 2, cells := 0, slots := 0, locals := 43 } : Room) (va_Pc [.ref (a 0), .int x0] (fun U => U.heap.size = sz ∧ va_P D vwCl (MW cI cZ a v su sl F) U.heap ∧ KW D cI cB cZ cP U ∧ va_D (fun _ => True) (MW cI cZ a v su sl F) ∧ EF (MW cI cZ a v su sl F) sz E0 U.heap)) (va_Qi (fun r (u : (Nat → Int32) × Int64 × Int64 × (Nat → Nat → Int32)) => match u with | (v1, su1, sl1, F1) => (¬ inP kk x0 ∧ r = -1 ∧ keepM v F v1 F1) ∨ (inP kk x0 ∧ r = nI (kk - 1) ∧ v1 4 = v 4 ∧ DR (F 1) (F1 1) (kk - 1) (ix x0) (kk - 1) ∧ F1 2 = F 2 ∧ F1 3 = F 3 ∧ F1 4 = F 4)) (fun (u : (Nat → Int32) × Int64 × Int64 × (Nat → Nat → Int32)) (t : State) => match u with | (v1, su1, sl1, F1) => va_P D vwCl (MW cI cZ a v1 su1 sl1 F1) t.heap ∧ va_D (va_A (MW cI cZ a v su sl F) sz) (MW cI cZ a v1 su1 sl1 F1)) (va_A (MW cI cZ a v su sl F) sz)) 0 0 (va_A (MW cI cZ a v su sl F) sz) := by
  refine Met.ofW (cc := cX7_drop) (maxL := 4) (ret := (some .int)) (by decide) rfl ?_
  intro p e s m args below meth c s₁ B hml hv
  obtain ⟨rfl, hsz, hP, hW0, hD0, hE⟩ := hv
  have hx := B.exec
  have hb := B.bytes
  have hr := B.returns
  have hts := atoms_spec (ws := wsX7_drop) B.pre
  have hown : s.vm.findClass RX7 = some m.cls := findClass_of_methodNamed B.named
  have hlocks := B.notSynchronized
  have hK := hW0.1
  subst hsz
  have hD := hD0.self (sz := s.heap.size)
  unfold EF at hE
  generalize hAe : va_A (MW cI cZ a v su sl F) s.heap.size = A at hD hE ⊢
  have hA : ∀ q : Nat, s.heap.size ≤ q → A q := fun q h => by rw [← hAe]; exact Or.inr h
  have hS : va_S A s.heap s.heap [] := va_S.rf
  have hl := lv_entry ([.ref (a 0), .int x0]) (n := 4) (Nat.le_of_ble_eq_true rfl)
  rw [lg_entry_eq]
  generalize (lg_sl ([.ref (a 0), .int x0]) ++ List.replicate (4 - (lg_sl ([.ref (a 0), .int x0])).length) Slot.unset).toArray = ls at hl ⊢
  have hl : lv_has ls 4 [(0, .ref (a 0)), (1, .int x0)] := hl
  show W p l e ({ frames := 2, cells := 0, slots := 0, locals := 43 } : Room) s m ([.ref (a 0), .int x0] : List Value).toArray below meth c s.heap [] 0 0 _ (F0 m 0 ls [])
  refine u_genQ (fun Q hQ => ?_)
  obtain ⟨hs1, hs2, hs3⟩ := id hSM
  refine lv_aload_n hx hb dX7_drop_0 rfl (lv_at hl 0 rfl) ?_
  refine lv_iload_n hx hb dX7_drop_1 rfl (lv_at hl 1 rfl) ?_
  have hPc := hP
  refine u_callSi (W.runV (As := [.int x0]) (rest := []) ⟨hx, hb, hml, hown, hts⟩ (c_X7_isPlot l D cI cB cZ cP a v su sl F x0 kk (hs2) (hs1)) (cwV 1 hts gX7_drop_X7_isPlot rfl rfl rfl (by decide +kernel) ⟨Nat.le_of_ble_eq_true rfl, Nat.le_of_ble_eq_true rfl⟩) (pV (q0 := 0) hPc hW0 trivial rfl rfl) rfl rfl hl.1 rfl (lv_room (Nat.le_of_ble_eq_true rfl)) dX7_drop_2 ⟨Nat.le_of_ble_eq_true rfl, Nat.le_of_ble_eq_true rfl⟩) ?_
  refine lv_if_ne (tgt := 10) hx hb dX7_drop_5 (by decide) (fun c_1 => ?_) (fun c_1 => ?_)
  · skip
    have nc_1 := zb_ne0.mp c_1
    obtain ⟨pp, hpp, epp, xpp⟩ := inP_nat nc_1 (by omega)
    rw [epp] at hl
    refine lv_aload_n hx hb dX7_drop_10 rfl (lv_at hl 0 rfl) ?_
    refine va_get (D := D) (ci := 9) (v := .ref (a 1)) (C := RX7) (T := TX7) (N := 24) hx hb hts (by decide +kernel) hown hK hP 0 rfl rfl 0 (by decide) (hts (.fieldLink RX7 7 "LandDeedsModel" "state" "[I") (by decide +kernel)) (fun _ h9 => h9) rfl dX7_drop_11 ?_
    refine lv_bipush (v := 108) hx hb dX7_drop_14 (by decide) ?_
    refine lv_dup2_11 hx hb dX7_drop_16 rfl rfl ?_
    refine u_iald hx hb hK hP 1 0 rfl rfl rfl ⟨by decide, by decide⟩ dX7_drop_17 ?_
    refine u_eqi (show (F 1) 108 = nI kk from hs1) ?_
    refine lv_iconst (v := 1) hx hb dX7_drop_18 (by decide) ?_
    refine lv_isub hx hb dX7_drop_19 ?_
    refine u_eqi (show (nI kk) - 1 = nI (kk - 1) from nI_sub1 (by omega)) ?_
    refine u_iast hx hb hK hP hD hS 1 0 rfl rfl rfl ⟨by decide, by decide⟩ dX7_drop_20 (fun H locs hP hD hS => ?_)
    have hP : va_P D vwCl (MW cI cZ a v su sl (updF F 1 (upd (F 1) 108 (nI (kk - 1))))) H := hP
    have hD : va_D A (MW cI cZ a v su sl (updF F 1 (upd (F 1) 108 (nI (kk - 1))))) := hD
    refine lv_iload_n hx hb dX7_drop_21 rfl (lv_at hl 1 rfl) ?_
    refine lv_istore_n (lv' := [(2, .int (nI pp)), (0, .ref (a 0)), (1, .int (nI pp))]) hx hb dX7_drop_22 rfl hl (by decide) rfl (fun ls hl => ?_)
    have LOOP_23 : ∀ (fu : Nat) (z : Nat) (S1 : Nat → Int32) (hzp : pp ≤ z) (hzk : z ≤ kk - 1) (hDR : DR (F 1) S1 (kk - 1) pp z) (hn : kk - 1 - z < fu) (H : Heap) (locs : List Loc) (hP : va_P D vwCl (MW cI cZ a v su sl (updF F 1 S1)) H) (hD : va_D A (MW cI cZ a v su sl (updF F 1 S1))) (hS : va_S A s.heap H locs) (ls : Array Slot) (hl : lv_has ls 4 [(0, .ref (a 0)), (2, .int (nI z))]), W p l e ({ frames := 2, cells := 0, slots := 0, locals := 43 } : Room) s m ([.ref (a 0), .int x0] : List Value).toArray below meth c H locs 0 0 Q (F0 m 23 ls []) := by
      intro fu
      induction fu with
      | zero => intro z S1 hzp hzk hDR hn H locs hP hD hS ls hl; exact absurd hn (Nat.not_lt_zero _)
      | succ fu ih_23 =>
        intro z S1 hzp hzk hDR hn H locs hP hD hS ls hl
        refine lv_iload_n hx hb dX7_drop_23 rfl (lv_at hl 1 rfl) ?_
        refine lv_aload_n hx hb dX7_drop_24 rfl (lv_at hl 0 rfl) ?_
        refine va_get (D := D) (ci := 9) (v := .ref (a 1)) (C := RX7) (T := TX7) (N := 24) hx hb hts (by decide +kernel) hown hK hP 0 rfl rfl 0 (by decide) (hts (.fieldLink RX7 7 "LandDeedsModel" "state" "[I") (by decide +kernel)) (fun _ h9 => h9) rfl dX7_drop_25 ?_
        refine lv_bipush (v := 108) hx hb dX7_drop_28 (by decide) ?_
        refine u_iald hx hb hK hP 1 0 rfl rfl rfl ⟨by decide, by decide⟩ dX7_drop_30 ?_
        refine u_eqi (show S1 108 = nI (kk - 1) from hDR.1) ?_
        refine lv_icmp_ge (tgt := 154) hx hb dX7_drop_31 (by decide) (fun c_2 => ?_) (fun c_2 => ?_)
        · skip
          have nc_2 : kk - 1 ≤ z := (nI_leI (a := (kk - 1)) (b := z) (by omega) (by omega)).mp c_2
          have hz9 : z = kk - 1 := by omega
          refine lv_aload_n hx hb dX7_drop_154 rfl (lv_at hl 0 rfl) ?_
          refine va_get (D := D) (ci := 9) (v := .ref (a 1)) (C := RX7) (T := TX7) (N := 24) hx hb hts (by decide +kernel) hown hK hP 0 rfl rfl 0 (by decide) (hts (.fieldLink RX7 7 "LandDeedsModel" "state" "[I") (by decide +kernel)) (fun _ h9 => h9) rfl dX7_drop_155 ?_
          refine lv_bipush (v := 108) hx hb dX7_drop_158 (by decide) ?_
          refine u_iald hx hb hK hP 1 0 rfl rfl rfl ⟨by decide, by decide⟩ dX7_drop_160 ?_
          refine u_eqi (show S1 108 = nI (kk - 1) from hDR.1) ?_
          rw [← hQ]
          have hP9 := hP
          have hD9 := hD
          exact W.iret (v := nI (kk - 1)) hx hb hr (fun t ht hW => ⟨⟨_, (v, su, sl, updF F 1 S1), rfl, Or.inr ⟨nc_1, rfl, rfl, by rw [xpp, ← hz9]; exact hz9 ▸ hDR, rfl, rfl, rfl⟩, by rw [ht]; exact hP9, hD9⟩, hS.F ht⟩) hS.2.2 dX7_drop_161
        · skip
          have nc_2 : ¬ (kk - 1 ≤ z) := fun h => c_2 ((nI_leI (a := (kk - 1)) (b := z) (by omega) (by omega)).mpr h)
          have hz8 : z < kk - 1 := by omega
          refine lv_aload_n hx hb dX7_drop_34 rfl (lv_at hl 0 rfl) ?_
          refine va_get (D := D) (ci := 9) (v := .ref (a 1)) (C := RX7) (T := TX7) (N := 24) hx hb hts (by decide +kernel) hown hK hP 0 rfl rfl 0 (by decide) (hts (.fieldLink RX7 7 "LandDeedsModel" "state" "[I") (by decide +kernel)) (fun _ h9 => h9) rfl dX7_drop_35 ?_
          refine lv_iconst (v := 0) hx hb dX7_drop_38 (by decide) ?_
          refine lv_iload_n hx hb dX7_drop_39 rfl (lv_at hl 1 rfl) ?_
          refine lv_iadd hx hb dX7_drop_40 ?_
          refine u_eqi (show 0 + (nI z) = nI z from Int32.zero_add _) ?_
          refine lv_aload_n hx hb dX7_drop_41 rfl (lv_at hl 0 rfl) ?_
          refine va_get (D := D) (ci := 9) (v := .ref (a 1)) (C := RX7) (T := TX7) (N := 24) hx hb hts (by decide +kernel) hown hK hP 0 rfl rfl 0 (by decide) (hts (.fieldLink RX7 7 "LandDeedsModel" "state" "[I") (by decide +kernel)) (fun _ h9 => h9) rfl dX7_drop_42 ?_
          refine lv_iconst (v := 0) hx hb dX7_drop_45 (by decide) ?_
          refine lv_iload_n hx hb dX7_drop_46 rfl (lv_at hl 1 rfl) ?_
          refine lv_iadd hx hb dX7_drop_47 ?_
          refine u_eqi (show 0 + (nI z) = nI z from Int32.zero_add _) ?_
          refine lv_iconst (v := 1) hx hb dX7_drop_48 (by decide) ?_
          refine lv_iadd hx hb dX7_drop_49 ?_
          refine u_eqi (show (nI z) + 1 = nI (z + 1) from nI_1 z) ?_
          refine u_iald hx hb hK hP 1 0 rfl rfl rfl ⟨by omega, by omega⟩ dX7_drop_50 ?_
          refine u_iast hx hb hK hP hD hS 1 0 rfl rfl rfl ⟨by omega, by omega⟩ dX7_drop_51 (fun H locs hP hD hS => ?_)
          have hP : va_P D vwCl (MW cI cZ a v su sl (updF F 1 (upd S1 z (S1 (z + 1))))) H := hP
          have hD : va_D A (MW cI cZ a v su sl (updF F 1 (upd S1 z (S1 (z + 1))))) := hD
          refine lv_aload_n hx hb dX7_drop_52 rfl (lv_at hl 0 rfl) ?_
          refine va_get (D := D) (ci := 9) (v := .ref (a 1)) (C := RX7) (T := TX7) (N := 24) hx hb hts (by decide +kernel) hown hK hP 0 rfl rfl 0 (by decide) (hts (.fieldLink RX7 7 "LandDeedsModel" "state" "[I") (by decide +kernel)) (fun _ h9 => h9) rfl dX7_drop_53 ?_
          refine lv_bipush (v := 6) hx hb dX7_drop_56 (by decide) ?_
          refine lv_iload_n hx hb dX7_drop_58 rfl (lv_at hl 1 rfl) ?_
          refine lv_iadd hx hb dX7_drop_59 ?_
          refine u_eqi (show 6 + (nI z) = nI (6 + z) from nI_add 6 z) ?_
          refine lv_aload_n hx hb dX7_drop_60 rfl (lv_at hl 0 rfl) ?_
          refine va_get (D := D) (ci := 9) (v := .ref (a 1)) (C := RX7) (T := TX7) (N := 24) hx hb hts (by decide +kernel) hown hK hP 0 rfl rfl 0 (by decide) (hts (.fieldLink RX7 7 "LandDeedsModel" "state" "[I") (by decide +kernel)) (fun _ h9 => h9) rfl dX7_drop_61 ?_
          refine lv_bipush (v := 6) hx hb dX7_drop_64 (by decide) ?_
          refine lv_iload_n hx hb dX7_drop_66 rfl (lv_at hl 1 rfl) ?_
          refine lv_iadd hx hb dX7_drop_67 ?_
          refine u_eqi (show 6 + (nI z) = nI (6 + z) from nI_add 6 z) ?_
          refine lv_iconst (v := 1) hx hb dX7_drop_68 (by decide) ?_
          refine lv_iadd hx hb dX7_drop_69 ?_
          refine u_eqi (show (nI (6 + z)) + 1 = nI (6 + z + 1) from nI_1 _) ?_
          refine u_iald hx hb hK hP 1 0 rfl rfl rfl ⟨by omega, by omega⟩ dX7_drop_70 ?_
          refine u_iast hx hb hK hP hD hS 1 0 rfl rfl rfl ⟨by omega, by omega⟩ dX7_drop_71 (fun H locs hP hD hS => ?_)
          have hP : va_P D vwCl (MW cI cZ a v su sl (updF F 1 (upd (upd S1 z (S1 (z + 1))) (6 + z) ((upd S1 z (S1 (z + 1))) (6 + z + 1))))) H := hP
          have hD : va_D A (MW cI cZ a v su sl (updF F 1 (upd (upd S1 z (S1 (z + 1))) (6 + z) ((upd S1 z (S1 (z + 1))) (6 + z + 1))))) := hD
          refine lv_iconst (v := 0) hx hb dX7_drop_72 (by decide) ?_
          refine lv_istore_n (lv' := [(3, .int 0), (0, .ref (a 0)), (2, .int (nI z))]) hx hb dX7_drop_73 rfl hl (by decide) rfl (fun ls hl => ?_)
          have LOOP_74 : ∀ (fu : Nat) (w : Nat) (S2 : Nat → Int32) (hw : w ≤ 8) (hDW : DW (F 1) S2 (kk - 1) pp z w) (hn : 8 - w < fu) (H : Heap) (locs : List Loc) (hP : va_P D vwCl (MW cI cZ a v su sl (updF F 1 S2)) H) (hD : va_D A (MW cI cZ a v su sl (updF F 1 S2))) (hS : va_S A s.heap H locs) (ls : Array Slot) (hl : lv_has ls 4 [(0, .ref (a 0)), (2, .int (nI z)), (3, .int (nI w))]), W p l e ({ frames := 2, cells := 0, slots := 0, locals := 43 } : Room) s m ([.ref (a 0), .int x0] : List Value).toArray below meth c H locs 0 0 Q (F0 m 74 ls []) := by
            intro fu
            induction fu with
            | zero => intro w S2 hw hDW hn H locs hP hD hS ls hl; exact absurd hn (Nat.not_lt_zero _)
            | succ fu ih_74 =>
              intro w S2 hw hDW hn H locs hP hD hS ls hl
              refine lv_iload_n hx hb dX7_drop_74 rfl (lv_at hl 2 rfl) ?_
              refine lv_bipush (v := 8) hx hb dX7_drop_75 (by decide) ?_
              refine lv_icmp_ge (tgt := 148) hx hb dX7_drop_77 (by decide) (fun c_3 => ?_) (fun c_3 => ?_)
              · skip
                have nc_3 : 8 ≤ w := (nI_leI (a := 8) (b := w) (by omega) (by omega)).mp c_3
                have hw8 : w = 8 := by omega
                refine lv_iinc (v := nI (z + 1)) (lv' := [(2, .int (nI (z + 1))), (0, .ref (a 0)), (3, .int (nI w))]) hx hb dX7_drop_148 hl (k := 1) rfl (nI_1 _) (by decide) rfl (fun ls hl => ?_)
                refine lv_goto (tgt := 23) hx hb dX7_drop_151 (by decide) ?_
                exact ih_23 (z + 1) S2 (by omega) (by omega) (DW_e (hw8 ▸ hDW) hzp) (by omega) _ _ hP hD hS ls (lv_sub hl [1, 0] rfl)
              · skip
                have nc_3 : ¬ (8 ≤ w) := fun h => c_3 ((nI_leI (a := 8) (b := w) (by omega) (by omega)).mpr h)
                have hw7 : w < 8 := by omega
                refine lv_aload_n hx hb dX7_drop_80 rfl (lv_at hl 0 rfl) ?_
                refine va_get (D := D) (ci := 9) (v := .ref (a 1)) (C := RX7) (T := TX7) (N := 24) hx hb hts (by decide +kernel) hown hK hP 0 rfl rfl 0 (by decide) (hts (.fieldLink RX7 7 "LandDeedsModel" "state" "[I") (by decide +kernel)) (fun _ h9 => h9) rfl dX7_drop_81 ?_
                refine lv_bipush (v := 12) hx hb dX7_drop_84 (by decide) ?_
                refine lv_bipush (v := 8) hx hb dX7_drop_86 (by decide) ?_
                refine lv_iload_n hx hb dX7_drop_88 rfl (lv_at hl 1 rfl) ?_
                refine lv_imul hx hb dX7_drop_89 ?_
                refine u_eqi (show 8 * (nI z) = nI (8 * z) from nI_m 8 z) ?_
                refine lv_iadd hx hb dX7_drop_90 ?_
                refine u_eqi (show 12 + (nI (8 * z)) = nI (12 + 8 * z) from nI_add 12 _) ?_
                refine lv_iload_n hx hb dX7_drop_91 rfl (lv_at hl 2 rfl) ?_
                refine lv_iadd hx hb dX7_drop_92 ?_
                refine u_eqi (show (nI (12 + 8 * z)) + (nI w) = nI (12 + 8 * z + w) from nI_add _ _) ?_
                refine lv_aload_n hx hb dX7_drop_93 rfl (lv_at hl 0 rfl) ?_
                refine va_get (D := D) (ci := 9) (v := .ref (a 1)) (C := RX7) (T := TX7) (N := 24) hx hb hts (by decide +kernel) hown hK hP 0 rfl rfl 0 (by decide) (hts (.fieldLink RX7 7 "LandDeedsModel" "state" "[I") (by decide +kernel)) (fun _ h9 => h9) rfl dX7_drop_94 ?_
                refine lv_bipush (v := 12) hx hb dX7_drop_97 (by decide) ?_
                refine lv_bipush (v := 8) hx hb dX7_drop_99 (by decide) ?_
                refine lv_iload_n hx hb dX7_drop_101 rfl (lv_at hl 1 rfl) ?_
                refine lv_imul hx hb dX7_drop_102 ?_
                refine u_eqi (show 8 * (nI z) = nI (8 * z) from nI_m 8 z) ?_
                refine lv_iadd hx hb dX7_drop_103 ?_
                refine u_eqi (show 12 + (nI (8 * z)) = nI (12 + 8 * z) from nI_add 12 _) ?_
                refine lv_bipush (v := 8) hx hb dX7_drop_104 (by decide) ?_
                refine lv_iadd hx hb dX7_drop_106 ?_
                refine u_eqi (show (nI (12 + 8 * z)) + 8 = nI (12 + 8 * z + 8) from nI_add _ 8) ?_
                refine lv_iload_n hx hb dX7_drop_107 rfl (lv_at hl 2 rfl) ?_
                refine lv_iadd hx hb dX7_drop_108 ?_
                refine u_eqi (show (nI (12 + 8 * z + 8)) + (nI w) = nI (12 + 8 * z + 8 + w) from nI_add _ _) ?_
                refine u_iald hx hb hK hP 1 0 rfl rfl rfl ⟨by omega, by omega⟩ dX7_drop_109 ?_
                refine u_iast hx hb hK hP hD hS 1 0 rfl rfl rfl ⟨by omega, by omega⟩ dX7_drop_110 (fun H locs hP hD hS => ?_)
                have hP : va_P D vwCl (MW cI cZ a v su sl (updF F 1 (upd S2 (12 + 8 * z + w) (S2 (12 + 8 * z + 8 + w))))) H := hP
                have hD : va_D A (MW cI cZ a v su sl (updF F 1 (upd S2 (12 + 8 * z + w) (S2 (12 + 8 * z + 8 + w))))) := hD
                refine lv_aload_n hx hb dX7_drop_111 rfl (lv_at hl 0 rfl) ?_
                refine va_get (D := D) (ci := 9) (v := .ref (a 1)) (C := RX7) (T := TX7) (N := 24) hx hb hts (by decide +kernel) hown hK hP 0 rfl rfl 0 (by decide) (hts (.fieldLink RX7 7 "LandDeedsModel" "state" "[I") (by decide +kernel)) (fun _ h9 => h9) rfl dX7_drop_112 ?_
                refine lv_bipush (v := 60) hx hb dX7_drop_115 (by decide) ?_
                refine lv_bipush (v := 8) hx hb dX7_drop_117 (by decide) ?_
                refine lv_iload_n hx hb dX7_drop_119 rfl (lv_at hl 1 rfl) ?_
                refine lv_imul hx hb dX7_drop_120 ?_
                refine u_eqi (show 8 * (nI z) = nI (8 * z) from nI_m 8 z) ?_
                refine lv_iadd hx hb dX7_drop_121 ?_
                refine u_eqi (show 60 + (nI (8 * z)) = nI (60 + 8 * z) from nI_add 60 _) ?_
                refine lv_iload_n hx hb dX7_drop_122 rfl (lv_at hl 2 rfl) ?_
                refine lv_iadd hx hb dX7_drop_123 ?_
                refine u_eqi (show (nI (60 + 8 * z)) + (nI w) = nI (60 + 8 * z + w) from nI_add _ _) ?_
                refine lv_aload_n hx hb dX7_drop_124 rfl (lv_at hl 0 rfl) ?_
                refine va_get (D := D) (ci := 9) (v := .ref (a 1)) (C := RX7) (T := TX7) (N := 24) hx hb hts (by decide +kernel) hown hK hP 0 rfl rfl 0 (by decide) (hts (.fieldLink RX7 7 "LandDeedsModel" "state" "[I") (by decide +kernel)) (fun _ h9 => h9) rfl dX7_drop_125 ?_
                refine lv_bipush (v := 60) hx hb dX7_drop_128 (by decide) ?_
                refine lv_bipush (v := 8) hx hb dX7_drop_130 (by decide) ?_
                refine lv_iload_n hx hb dX7_drop_132 rfl (lv_at hl 1 rfl) ?_
                refine lv_imul hx hb dX7_drop_133 ?_
                refine u_eqi (show 8 * (nI z) = nI (8 * z) from nI_m 8 z) ?_
                refine lv_iadd hx hb dX7_drop_134 ?_
                refine u_eqi (show 60 + (nI (8 * z)) = nI (60 + 8 * z) from nI_add 60 _) ?_
                refine lv_bipush (v := 8) hx hb dX7_drop_135 (by decide) ?_
                refine lv_iadd hx hb dX7_drop_137 ?_
                refine u_eqi (show (nI (60 + 8 * z)) + 8 = nI (60 + 8 * z + 8) from nI_add _ 8) ?_
                refine lv_iload_n hx hb dX7_drop_138 rfl (lv_at hl 2 rfl) ?_
                refine lv_iadd hx hb dX7_drop_139 ?_
                refine u_eqi (show (nI (60 + 8 * z + 8)) + (nI w) = nI (60 + 8 * z + 8 + w) from nI_add _ _) ?_
                refine u_iald hx hb hK hP 1 0 rfl rfl rfl ⟨by omega, by omega⟩ dX7_drop_140 ?_
                refine u_iast hx hb hK hP hD hS 1 0 rfl rfl rfl ⟨by omega, by omega⟩ dX7_drop_141 (fun H locs hP hD hS => ?_)
                have hP : va_P D vwCl (MW cI cZ a v su sl (updF F 1 (upd (upd S2 (12 + 8 * z + w) (S2 (12 + 8 * z + 8 + w))) (60 + 8 * z + w) ((upd S2 (12 + 8 * z + w) (S2 (12 + 8 * z + 8 + w))) (60 + 8 * z + 8 + w))))) H := hP
                have hD : va_D A (MW cI cZ a v su sl (updF F 1 (upd (upd S2 (12 + 8 * z + w) (S2 (12 + 8 * z + 8 + w))) (60 + 8 * z + w) ((upd S2 (12 + 8 * z + w) (S2 (12 + 8 * z + 8 + w))) (60 + 8 * z + 8 + w))))) := hD
                refine lv_iinc (v := nI (w + 1)) (lv' := [(3, .int (nI (w + 1))), (0, .ref (a 0)), (2, .int (nI z))]) hx hb dX7_drop_142 hl (k := 2) rfl (nI_1 _) (by decide) rfl (fun ls hl => ?_)
                refine lv_goto (tgt := 74) hx hb dX7_drop_145 (by decide) ?_
                exact ih_74 (w + 1) (upd (upd S2 (12 + 8 * z + w) (S2 (12 + 8 * z + 8 + w))) (60 + 8 * z + w) ((upd S2 (12 + 8 * z + w) (S2 (12 + 8 * z + 8 + w))) (60 + 8 * z + 8 + w))) (by omega) (DW_s hDW (by omega) hw7 hzp) (by omega) _ _ hP hD hS ls (lv_sub hl [1, 2, 0] rfl)
          exact LOOP_74 (8 - 0 + 1) 0 (upd (upd S1 z (S1 (z + 1))) (6 + z) ((upd S1 z (S1 (z + 1))) (6 + z + 1))) (Nat.zero_le _) ((DW_0 hDR (by omega) hzp).2.2) (Nat.lt_succ_self _) _ _ hP hD hS ls (lv_sub hl [1, 2, 0] rfl)
    exact LOOP_23 (kk - 1 - pp + 1) pp (upd (F 1) 108 (nI (kk - 1))) (Nat.le_refl _) (by omega) (DR_0 (by omega)) (Nat.lt_succ_self _) _ _ hP hD hS ls (lv_sub hl [1, 0] rfl)
  · skip
    have nc_1 := zb_eq0.mp c_1
    refine lv_iconst (v := (-1)) hx hb dX7_drop_8 (by decide) ?_
    rw [← hQ]
    have hP9 := hP
    have hD9 := hD
    exact W.iret (v := (-1)) hx hb hr (fun t ht hW => ⟨⟨_, (v, su, sl, F), rfl, Or.inl ⟨nc_1, rfl, ⟨rfl, rfl, rfl, rfl, rfl⟩⟩, by rw [ht]; exact hP9, hD9⟩, hS.F ht⟩) hS.2.2 dX7_drop_9

set_option maxHeartbeats 4000000 in
set_option maxRecDepth 100000 in
theorem c_X7_image (l : Launch) (D : va_G) (cI cB cZ cP : ClassId) (sz : Nat) (a : Nat → Nat) (v : Nat → Int32) (su sl : Int64) (F : Nat → Nat → Int32) (x : Int32) : Met l yX7_image wsX7_image ({ frames := 1, cells := 0, slots := 0, locals := 22 } : Room) (va_Pc [.ref (a 0), .int x] (fun U => U.heap.size = sz ∧ va_P D vwCl (MW cI cZ a v su sl F) U.heap ∧ KW D cI cB cZ cP U ∧ va_D (fun _ => True) (MW cI cZ a v su sl F) ∧ EF (MW cI cZ a v su sl F) sz E0 U.heap)) (va_Qi (fun r (u : (Nat → Int32) × Int64 × Int64 × (Nat → Nat → Int32)) => match u with | (v1, su1, sl1, F1) => (¬ (0 ≤ x.toInt ∧ x.toInt ≤ 1) ∧ r = -2 ∧ keepM v F v1 F1) ∨ ((0 ≤ x.toInt ∧ x.toInt ≤ 1) ∧ r = 1 ∧ v1 4 = v 4 ∧ F1 1 = F 1 ∧ F1 4 = F 4 ∧ F1 3 = upd (F 3) (ix x) 1 ∧ imgE (F1 2) (ix x) (F 1) ∧ ∀ j, (j < 110 * ix x ∨ 110 * ix x + 110 ≤ j) → F1 2 j = F 2 j)) (fun (u : (Nat → Int32) × Int64 × Int64 × (Nat → Nat → Int32)) (t : State) => match u with | (v1, su1, sl1, F1) => va_P D vwCl (MW cI cZ a v1 su1 sl1 F1) t.heap ∧ va_D (va_A (MW cI cZ a v su sl F) sz) (MW cI cZ a v1 su1 sl1 F1)) (va_A (MW cI cZ a v su sl F) sz)) 0 0 (va_A (MW cI cZ a v su sl F) sz) := by
  refine Met.ofW (cc := cX7_image) (maxL := 3) (ret := (some .int)) (by decide) rfl ?_
  intro p e s m args below meth c s₁ B hml hv
  obtain ⟨rfl, hsz, hP, hW0, hD0, hE⟩ := hv
  have hx := B.exec
  have hb := B.bytes
  have hr := B.returns
  have hts := atoms_spec (ws := wsX7_image) B.pre
  have hown : s.vm.findClass RX7 = some m.cls := findClass_of_methodNamed B.named
  have hlocks := B.notSynchronized
  have hK := hW0.1
  subst hsz
  have hD := hD0.self (sz := s.heap.size)
  unfold EF at hE
  generalize hAe : va_A (MW cI cZ a v su sl F) s.heap.size = A at hD hE ⊢
  have hA : ∀ q : Nat, s.heap.size ≤ q → A q := fun q h => by rw [← hAe]; exact Or.inr h
  have hS : va_S A s.heap s.heap [] := va_S.rf
  have hl := lv_entry ([.ref (a 0), .int x]) (n := 3) (Nat.le_of_ble_eq_true rfl)
  rw [lg_entry_eq]
  generalize (lg_sl ([.ref (a 0), .int x]) ++ List.replicate (3 - (lg_sl ([.ref (a 0), .int x])).length) Slot.unset).toArray = ls at hl ⊢
  have hl : lv_has ls 3 [(0, .ref (a 0)), (1, .int x)] := hl
  show W p l e ({ frames := 1, cells := 0, slots := 0, locals := 22 } : Room) s m ([.ref (a 0), .int x] : List Value).toArray below meth c s.heap [] 0 0 _ (F0 m 0 ls [])
  refine u_genQ (fun Q hQ => ?_)
  refine lv_iload_n hx hb dX7_image_0 rfl (lv_at hl 1 rfl) ?_
  refine lv_iconst (v := 0) hx hb dX7_image_1 (by decide) ?_
  refine lv_iconst (v := 1) hx hb dX7_image_2 (by decide) ?_
  have hPc := hP.sub (ws' := []) [] rfl
  refine u_callSi (W.runS (As := [.int x, .int 0, .int 1]) (rest := []) ⟨hx, hb, hml, hown, hts⟩ (c_X7_in l D cI cB cZ cP x 0 1 ) (cwS 3 hts gX7_image_X7_in rfl rfl rfl (by decide +kernel) ⟨Nat.le_of_ble_eq_true rfl, Nat.le_of_ble_eq_true rfl⟩) (pS hPc hW0 trivial) rfl rfl hl.1 rfl (lv_room (Nat.le_of_ble_eq_true rfl)) dX7_image_3 ⟨Nat.le_of_ble_eq_true rfl, Nat.le_of_ble_eq_true rfl⟩) ?_
  refine lv_if_ne (tgt := 12) hx hb dX7_image_6 (by decide) (fun c_1 => ?_) (fun c_1 => ?_)
  · skip
    have nc_1 := zb_ne0.mp c_1
    have hw9 : 0 ≤ x.toInt ∧ x.toInt ≤ 1 := by have h9 := nc_1; rw [li_0, li_1] at h9; exact h9
    obtain ⟨kx, hkx, ekx, xkx⟩ := inP_nat (k := 2) (p := x) ⟨hw9.1, by have := hw9.2; omega⟩ (by decide)
    rw [ekx] at hl
    refine lv_iconst (v := 0) hx hb dX7_image_12 (by decide) ?_
    refine lv_istore_n (lv' := [(2, .int 0), (0, .ref (a 0)), (1, .int (nI kx))]) hx hb dX7_image_13 rfl hl (by decide) rfl (fun ls hl => ?_)
    have LOOP_14 : ∀ (fu : Nat) (z : Nat) (I : Nat → Int32) (hz : z ≤ 110) (hI : ∀ j, j < z → I (110 * kx + j) = F 1 j) (hJ : ∀ j, (j < 110 * kx ∨ 110 * kx + 110 ≤ j) → I j = F 2 j) (hn : 110 - z < fu) (H : Heap) (locs : List Loc) (hP : va_P D vwCl (MW cI cZ a v su sl (updF F 2 I)) H) (hD : va_D A (MW cI cZ a v su sl (updF F 2 I))) (hS : va_S A s.heap H locs) (ls : Array Slot) (hl : lv_has ls 3 [(0, .ref (a 0)), (1, .int (nI kx)), (2, .int (nI z))]), W p l e ({ frames := 1, cells := 0, slots := 0, locals := 22 } : Room) s m ([.ref (a 0), .int x] : List Value).toArray below meth c H locs 0 0 Q (F0 m 14 ls []) := by
      intro fu
      induction fu with
      | zero => intro z I hz hI hJ hn H locs hP hD hS ls hl; exact absurd hn (Nat.not_lt_zero _)
      | succ fu ih_14 =>
        intro z I hz hI hJ hn H locs hP hD hS ls hl
        refine lv_iload_n hx hb dX7_image_14 rfl (lv_at hl 2 rfl) ?_
        refine lv_bipush (v := 110) hx hb dX7_image_15 (by decide) ?_
        refine lv_icmp_ge (tgt := 43) hx hb dX7_image_17 (by decide) (fun c_2 => ?_) (fun c_2 => ?_)
        · skip
          have nc_2 : 110 ≤ z := (nI_leI (a := 110) (b := z) (by omega) (by omega)).mp c_2
          have hz9 : z = 110 := by omega
          refine lv_aload_n hx hb dX7_image_43 rfl (lv_at hl 0 rfl) ?_
          refine va_get (D := D) (ci := 9) (v := .ref (a 3)) (C := RX7) (T := TX7) (N := 24) hx hb hts (by decide +kernel) hown hK hP 0 rfl rfl 2 (by decide) (hts (.fieldLink RX7 16 "LandDeedsModel" "isKept" "[Z") (by decide +kernel)) (fun _ h9 => h9) rfl dX7_image_44 ?_
          refine lv_iload_n hx hb dX7_image_47 rfl (lv_at hl 1 rfl) ?_
          refine lv_iconst (v := 1) hx hb dX7_image_48 (by decide) ?_
          refine u_zast hx hb hK hP hD hS 3 2 rfl rfl rfl ⟨by omega, by omega⟩ dX7_image_49 (fun H locs hP hD hS => ?_)
          have hP : va_P D vwCl (MW cI cZ a v su sl (updF (updF F 2 I) 3 (upd (F 3) kx (vp_nar .boolean 1)))) H := hP
          have hD : va_D A (MW cI cZ a v su sl (updF (updF F 2 I) 3 (upd (F 3) kx (vp_nar .boolean 1)))) := hD
          refine lv_iconst (v := 1) hx hb dX7_image_50 (by decide) ?_
          rw [← hQ]
          have hP9 := hP
          have hD9 := hD
          exact W.iret (v := 1) hx hb hr (fun t ht hW => ⟨⟨_, (v, su, sl, updF (updF F 2 I) 3 (upd (F 3) kx (vp_nar .boolean 1))), rfl, Or.inr ⟨hw9, rfl, rfl, rfl, rfl, by rw [xkx]; rfl, by rw [xkx]; exact fun j hj => hI j (by omega), by rw [xkx]; exact hJ⟩, by rw [ht]; exact hP9, hD9⟩, hS.F ht⟩) hS.2.2 dX7_image_51
        · skip
          have nc_2 : ¬ (110 ≤ z) := fun h => c_2 ((nI_leI (a := 110) (b := z) (by omega) (by omega)).mpr h)
          refine lv_aload_n hx hb dX7_image_20 rfl (lv_at hl 0 rfl) ?_
          refine va_get (D := D) (ci := 9) (v := .ref (a 2)) (C := RX7) (T := TX7) (N := 24) hx hb hts (by decide +kernel) hown hK hP 0 rfl rfl 1 (by decide) (hts (.fieldLink RX7 13 "LandDeedsModel" "images" "[I") (by decide +kernel)) (fun _ h9 => h9) rfl dX7_image_21 ?_
          refine lv_bipush (v := 110) hx hb dX7_image_24 (by decide) ?_
          refine lv_iload_n hx hb dX7_image_26 rfl (lv_at hl 1 rfl) ?_
          refine lv_imul hx hb dX7_image_27 ?_
          refine u_eqi (show 110 * (nI kx) = nI (110 * kx) from nI_m 110 kx) ?_
          refine lv_iload_n hx hb dX7_image_28 rfl (lv_at hl 2 rfl) ?_
          refine lv_iadd hx hb dX7_image_29 ?_
          refine u_eqi (show (nI (110 * kx)) + (nI z) = nI (110 * kx + z) from nI_add _ _) ?_
          refine lv_aload_n hx hb dX7_image_30 rfl (lv_at hl 0 rfl) ?_
          refine va_get (D := D) (ci := 9) (v := .ref (a 1)) (C := RX7) (T := TX7) (N := 24) hx hb hts (by decide +kernel) hown hK hP 0 rfl rfl 0 (by decide) (hts (.fieldLink RX7 7 "LandDeedsModel" "state" "[I") (by decide +kernel)) (fun _ h9 => h9) rfl dX7_image_31 ?_
          refine lv_iload_n hx hb dX7_image_34 rfl (lv_at hl 2 rfl) ?_
          refine u_iald hx hb hK hP 1 0 rfl rfl rfl ⟨by omega, by omega⟩ dX7_image_35 ?_
          refine u_iast hx hb hK hP hD hS 2 0 rfl rfl rfl ⟨by omega, by omega⟩ dX7_image_36 (fun H locs hP hD hS => ?_)
          have hP : va_P D vwCl (MW cI cZ a v su sl (updF F 2 (upd I (110 * kx + z) ((F 1) z)))) H := hP
          have hD : va_D A (MW cI cZ a v su sl (updF F 2 (upd I (110 * kx + z) ((F 1) z)))) := hD
          refine lv_iinc (v := nI (z + 1)) (lv' := [(2, .int (nI (z + 1))), (0, .ref (a 0)), (1, .int (nI kx))]) hx hb dX7_image_37 hl (k := 2) rfl (nI_1 _) (by decide) rfl (fun ls hl => ?_)
          refine lv_goto (tgt := 14) hx hb dX7_image_40 (by decide) ?_
          exact ih_14 (z + 1) (upd I (110 * kx + z) ((F 1) z)) (by omega) (img_on hI (I0 := I)) (img_off hJ (by omega)) (by omega) _ _ hP hD hS ls (lv_sub hl [1, 2, 0] rfl)
    exact LOOP_14 (110 - 0 + 1) 0 (F 2) (Nat.zero_le _) (fun j h => absurd h (Nat.not_lt_zero _)) (fun _ _ => rfl) (Nat.lt_succ_self _) _ _ hP hD hS ls (lv_sub hl [1, 2, 0] rfl)
  · skip
    have nc_1 := zb_eq0.mp c_1
    have hw9 : ¬ (0 ≤ x.toInt ∧ x.toInt ≤ 1) := by have h9 := nc_1; rw [li_0, li_1] at h9; exact h9
    refine lv_bipush (v := (-2)) hx hb dX7_image_9 (by decide) ?_
    rw [← hQ]
    have hP9 := hP
    have hD9 := hD
    exact W.iret (v := (-2)) hx hb hr (fun t ht hW => ⟨⟨_, (v, su, sl, F), rfl, Or.inl ⟨hw9, rfl, ⟨rfl, rfl, rfl, rfl, rfl⟩⟩, by rw [ht]; exact hP9, hD9⟩, hS.F ht⟩) hS.2.2 dX7_image_11

set_option maxHeartbeats 4000000 in
set_option maxRecDepth 100000 in
theorem c_X7_restore (l : Launch) (D : va_G) (cI cB cZ cP : ClassId) (sz : Nat) (a : Nat → Nat) (v : Nat → Int32) (su sl : Int64) (F : Nat → Nat → Int32) (x : Int32) : Met l yX7_restore wsX7_restore ({ frames := 1, cells := 0, slots := 0, locals := 22 } : Room) (va_Pc [.ref (a 0), .int x] (fun U => U.heap.size = sz ∧ va_P D vwCl (MW cI cZ a v su sl F) U.heap ∧ KW D cI cB cZ cP U ∧ va_D (fun _ => True) (MW cI cZ a v su sl F) ∧ EF (MW cI cZ a v su sl F) sz E0 U.heap)) (va_Qi (fun r (u : (Nat → Int32) × Int64 × Int64 × (Nat → Nat → Int32)) => match u with | (v1, su1, sl1, F1) => (¬ (0 ≤ x.toInt ∧ x.toInt ≤ 1) ∧ r = -2 ∧ keepM v F v1 F1) ∨ ((0 ≤ x.toInt ∧ x.toInt ≤ 1) ∧ F 3 (ix x) = 0 ∧ r = -3 ∧ keepM v F v1 F1) ∨ ((0 ≤ x.toInt ∧ x.toInt ≤ 1) ∧ ¬ F 3 (ix x) = 0 ∧ r = 1 ∧ v1 4 = v 4 ∧ F1 2 = F 2 ∧ F1 3 = F 3 ∧ F1 4 = F 4 ∧ imgE (F 2) (ix x) (F1 1))) (fun (u : (Nat → Int32) × Int64 × Int64 × (Nat → Nat → Int32)) (t : State) => match u with | (v1, su1, sl1, F1) => va_P D vwCl (MW cI cZ a v1 su1 sl1 F1) t.heap ∧ va_D (va_A (MW cI cZ a v su sl F) sz) (MW cI cZ a v1 su1 sl1 F1)) (va_A (MW cI cZ a v su sl F) sz)) 0 0 (va_A (MW cI cZ a v su sl F) sz) := by
  refine Met.ofW (cc := cX7_restore) (maxL := 3) (ret := (some .int)) (by decide) rfl ?_
  intro p e s m args below meth c s₁ B hml hv
  obtain ⟨rfl, hsz, hP, hW0, hD0, hE⟩ := hv
  have hx := B.exec
  have hb := B.bytes
  have hr := B.returns
  have hts := atoms_spec (ws := wsX7_restore) B.pre
  have hown : s.vm.findClass RX7 = some m.cls := findClass_of_methodNamed B.named
  have hlocks := B.notSynchronized
  have hK := hW0.1
  subst hsz
  have hD := hD0.self (sz := s.heap.size)
  unfold EF at hE
  generalize hAe : va_A (MW cI cZ a v su sl F) s.heap.size = A at hD hE ⊢
  have hA : ∀ q : Nat, s.heap.size ≤ q → A q := fun q h => by rw [← hAe]; exact Or.inr h
  have hS : va_S A s.heap s.heap [] := va_S.rf
  have hl := lv_entry ([.ref (a 0), .int x]) (n := 3) (Nat.le_of_ble_eq_true rfl)
  rw [lg_entry_eq]
  generalize (lg_sl ([.ref (a 0), .int x]) ++ List.replicate (3 - (lg_sl ([.ref (a 0), .int x])).length) Slot.unset).toArray = ls at hl ⊢
  have hl : lv_has ls 3 [(0, .ref (a 0)), (1, .int x)] := hl
  show W p l e ({ frames := 1, cells := 0, slots := 0, locals := 22 } : Room) s m ([.ref (a 0), .int x] : List Value).toArray below meth c s.heap [] 0 0 _ (F0 m 0 ls [])
  refine u_genQ (fun Q hQ => ?_)
  refine lv_iload_n hx hb dX7_restore_0 rfl (lv_at hl 1 rfl) ?_
  refine lv_iconst (v := 0) hx hb dX7_restore_1 (by decide) ?_
  refine lv_iconst (v := 1) hx hb dX7_restore_2 (by decide) ?_
  have hPc := hP.sub (ws' := []) [] rfl
  refine u_callSi (W.runS (As := [.int x, .int 0, .int 1]) (rest := []) ⟨hx, hb, hml, hown, hts⟩ (c_X7_in l D cI cB cZ cP x 0 1 ) (cwS 3 hts gX7_restore_X7_in rfl rfl rfl (by decide +kernel) ⟨Nat.le_of_ble_eq_true rfl, Nat.le_of_ble_eq_true rfl⟩) (pS hPc hW0 trivial) rfl rfl hl.1 rfl (lv_room (Nat.le_of_ble_eq_true rfl)) dX7_restore_3 ⟨Nat.le_of_ble_eq_true rfl, Nat.le_of_ble_eq_true rfl⟩) ?_
  refine lv_if_ne (tgt := 12) hx hb dX7_restore_6 (by decide) (fun c_1 => ?_) (fun c_1 => ?_)
  · skip
    have nc_1 := zb_ne0.mp c_1
    have hw9 : 0 ≤ x.toInt ∧ x.toInt ≤ 1 := by have h9 := nc_1; rw [li_0, li_1] at h9; exact h9
    obtain ⟨kx, hkx, ekx, xkx⟩ := inP_nat (k := 2) (p := x) ⟨hw9.1, by have := hw9.2; omega⟩ (by decide)
    rw [ekx] at hl
    refine lv_aload_n hx hb dX7_restore_12 rfl (lv_at hl 0 rfl) ?_
    refine va_get (D := D) (ci := 9) (v := .ref (a 3)) (C := RX7) (T := TX7) (N := 24) hx hb hts (by decide +kernel) hown hK hP 0 rfl rfl 2 (by decide) (hts (.fieldLink RX7 16 "LandDeedsModel" "isKept" "[Z") (by decide +kernel)) (fun _ h9 => h9) rfl dX7_restore_13 ?_
    refine lv_iload_n hx hb dX7_restore_16 rfl (lv_at hl 1 rfl) ?_
    refine u_zald hx hb hK hP 3 2 rfl rfl rfl ⟨by omega, by omega⟩ dX7_restore_17 ?_
    refine lv_if_ne (tgt := 24) hx hb dX7_restore_18 (by decide) (fun c_2 => ?_) (fun c_2 => ?_)
    · skip
      refine lv_iconst (v := 0) hx hb dX7_restore_24 (by decide) ?_
      refine lv_istore_n (lv' := [(2, .int 0), (0, .ref (a 0)), (1, .int (nI kx))]) hx hb dX7_restore_25 rfl hl (by decide) rfl (fun ls hl => ?_)
      have LOOP_26 : ∀ (fu : Nat) (z : Nat) (I : Nat → Int32) (hz : z ≤ 110) (hI : ∀ j, j < z → I j = F 2 (110 * kx + j)) (hn : 110 - z < fu) (H : Heap) (locs : List Loc) (hP : va_P D vwCl (MW cI cZ a v su sl (updF F 1 I)) H) (hD : va_D A (MW cI cZ a v su sl (updF F 1 I))) (hS : va_S A s.heap H locs) (ls : Array Slot) (hl : lv_has ls 3 [(0, .ref (a 0)), (1, .int (nI kx)), (2, .int (nI z))]), W p l e ({ frames := 1, cells := 0, slots := 0, locals := 22 } : Room) s m ([.ref (a 0), .int x] : List Value).toArray below meth c H locs 0 0 Q (F0 m 26 ls []) := by
        intro fu
        induction fu with
        | zero => intro z I hz hI hn H locs hP hD hS ls hl; exact absurd hn (Nat.not_lt_zero _)
        | succ fu ih_26 =>
          intro z I hz hI hn H locs hP hD hS ls hl
          refine lv_iload_n hx hb dX7_restore_26 rfl (lv_at hl 2 rfl) ?_
          refine lv_bipush (v := 110) hx hb dX7_restore_27 (by decide) ?_
          refine lv_icmp_ge (tgt := 55) hx hb dX7_restore_29 (by decide) (fun c_3 => ?_) (fun c_3 => ?_)
          · skip
            have nc_3 : 110 ≤ z := (nI_leI (a := 110) (b := z) (by omega) (by omega)).mp c_3
            have hz9 : z = 110 := by omega
            refine lv_iconst (v := 1) hx hb dX7_restore_55 (by decide) ?_
            rw [← hQ]
            have hP9 := hP
            have hD9 := hD
            exact W.iret (v := 1) hx hb hr (fun t ht hW => ⟨⟨_, (v, su, sl, updF F 1 I), rfl, Or.inr (Or.inr ⟨hw9, by rw [xkx]; exact c_2, rfl, rfl, rfl, rfl, rfl, by rw [xkx]; exact fun j hj => (hI j (by omega)).symm⟩), by rw [ht]; exact hP9, hD9⟩, hS.F ht⟩) hS.2.2 dX7_restore_56
          · skip
            have nc_3 : ¬ (110 ≤ z) := fun h => c_3 ((nI_leI (a := 110) (b := z) (by omega) (by omega)).mpr h)
            refine lv_aload_n hx hb dX7_restore_32 rfl (lv_at hl 0 rfl) ?_
            refine va_get (D := D) (ci := 9) (v := .ref (a 1)) (C := RX7) (T := TX7) (N := 24) hx hb hts (by decide +kernel) hown hK hP 0 rfl rfl 0 (by decide) (hts (.fieldLink RX7 7 "LandDeedsModel" "state" "[I") (by decide +kernel)) (fun _ h9 => h9) rfl dX7_restore_33 ?_
            refine lv_iload_n hx hb dX7_restore_36 rfl (lv_at hl 2 rfl) ?_
            refine lv_aload_n hx hb dX7_restore_37 rfl (lv_at hl 0 rfl) ?_
            refine va_get (D := D) (ci := 9) (v := .ref (a 2)) (C := RX7) (T := TX7) (N := 24) hx hb hts (by decide +kernel) hown hK hP 0 rfl rfl 1 (by decide) (hts (.fieldLink RX7 13 "LandDeedsModel" "images" "[I") (by decide +kernel)) (fun _ h9 => h9) rfl dX7_restore_38 ?_
            refine lv_bipush (v := 110) hx hb dX7_restore_41 (by decide) ?_
            refine lv_iload_n hx hb dX7_restore_43 rfl (lv_at hl 1 rfl) ?_
            refine lv_imul hx hb dX7_restore_44 ?_
            refine u_eqi (show 110 * (nI kx) = nI (110 * kx) from nI_m 110 kx) ?_
            refine lv_iload_n hx hb dX7_restore_45 rfl (lv_at hl 2 rfl) ?_
            refine lv_iadd hx hb dX7_restore_46 ?_
            refine u_eqi (show (nI (110 * kx)) + (nI z) = nI (110 * kx + z) from nI_add _ _) ?_
            refine u_iald hx hb hK hP 2 0 rfl rfl rfl ⟨by omega, by omega⟩ dX7_restore_47 ?_
            refine u_iast hx hb hK hP hD hS 1 0 rfl rfl rfl ⟨by omega, by omega⟩ dX7_restore_48 (fun H locs hP hD hS => ?_)
            have hP : va_P D vwCl (MW cI cZ a v su sl (updF F 1 (upd I z ((F 2) (110 * kx + z))))) H := hP
            have hD : va_D A (MW cI cZ a v su sl (updF F 1 (upd I z ((F 2) (110 * kx + z))))) := hD
            refine lv_iinc (v := nI (z + 1)) (lv' := [(2, .int (nI (z + 1))), (0, .ref (a 0)), (1, .int (nI kx))]) hx hb dX7_restore_49 hl (k := 2) rfl (nI_1 _) (by decide) rfl (fun ls hl => ?_)
            refine lv_goto (tgt := 26) hx hb dX7_restore_52 (by decide) ?_
            exact ih_26 (z + 1) (upd I z ((F 2) (110 * kx + z))) (by omega) (upd_on (f := fun j => F 2 (110 * kx + j)) hI rfl) (by omega) _ _ hP hD hS ls (lv_sub hl [1, 2, 0] rfl)
      exact LOOP_26 (110 - 0 + 1) 0 (F 1) (Nat.zero_le _) (fun j h => absurd h (Nat.not_lt_zero _)) (Nat.lt_succ_self _) _ _ hP hD hS ls (lv_sub hl [1, 2, 0] rfl)
    · skip
      refine lv_bipush (v := (-3)) hx hb dX7_restore_21 (by decide) ?_
      rw [← hQ]
      have hP9 := hP
      have hD9 := hD
      exact W.iret (v := (-3)) hx hb hr (fun t ht hW => ⟨⟨_, (v, su, sl, F), rfl, Or.inr (Or.inl ⟨hw9, by rw [xkx]; exact c_2, rfl, ⟨rfl, rfl, rfl, rfl, rfl⟩⟩), by rw [ht]; exact hP9, hD9⟩, hS.F ht⟩) hS.2.2 dX7_restore_23
  · skip
    have nc_1 := zb_eq0.mp c_1
    have hw9 : ¬ (0 ≤ x.toInt ∧ x.toInt ≤ 1) := by have h9 := nc_1; rw [li_0, li_1] at h9; exact h9
    refine lv_bipush (v := (-2)) hx hb dX7_restore_9 (by decide) ?_
    rw [← hQ]
    have hP9 := hP
    have hD9 := hD
    exact W.iret (v := (-2)) hx hb hr (fun t ht hW => ⟨⟨_, (v, su, sl, F), rfl, Or.inl ⟨hw9, rfl, ⟨rfl, rfl, rfl, rfl, rfl⟩⟩, by rw [ht]; exact hP9, hD9⟩, hS.F ht⟩) hS.2.2 dX7_restore_11

set_option maxHeartbeats 4000000 in
set_option maxRecDepth 100000 in
theorem c_X7_count (l : Launch) (D : va_G) (cI cB cZ cP : ClassId) (sz : Nat) (a : Nat → Nat) (v : Nat → Int32) (su sl : Int64) (F : Nat → Nat → Int32) (kk : Nat) (pn : Nat → Nat) (x : Int32) (hSM : stM (F 1) kk pn) : Met l yX7_count wsX7_count ({ frames := 6, cells := 0, slots := 0, locals := 140 } : Room) (va_Pc [.ref (a 0), .int x] (fun U => U.heap.size = sz ∧ va_P D vwCl (MW cI cZ a v su sl F) U.heap ∧ KW D cI cB cZ cP U ∧ va_D (fun _ => True) (MW cI cZ a v su sl F) ∧ EF (MW cI cZ a v su sl F) sz E0 U.heap)) (va_Qi (fun r (u : (Nat → Int32) × Int64 × Int64 × (Nat → Nat → Int32)) => match u with | (v1, su1, sl1, F1) => r = aCount kk pn (pX (F 1)) (pY (F 1)) (v 4) (F 1 109) (F 3 0) (F 3 1) x ∧ keepM v F v1 F1) (fun (u : (Nat → Int32) × Int64 × Int64 × (Nat → Nat → Int32)) (t : State) => match u with | (v1, su1, sl1, F1) => va_P D vwCl (MW cI cZ a v1 su1 sl1 F1) t.heap ∧ va_D (va_A (MW cI cZ a v su sl F) sz) (MW cI cZ a v1 su1 sl1 F1)) (va_A (MW cI cZ a v su sl F) sz)) 0 0 (va_A (MW cI cZ a v su sl F) sz) := by
  refine Met.ofW (cc := cX7_count) (maxL := 2) (ret := (some .int)) (by decide) rfl ?_
  intro p e s m args below meth c s₁ B hml hv
  obtain ⟨rfl, hsz, hP, hW0, hD0, hE⟩ := hv
  have hx := B.exec
  have hb := B.bytes
  have hr := B.returns
  have hts := atoms_spec (ws := wsX7_count) B.pre
  have hown : s.vm.findClass RX7 = some m.cls := findClass_of_methodNamed B.named
  have hlocks := B.notSynchronized
  have hK := hW0.1
  subst hsz
  have hD := hD0.self (sz := s.heap.size)
  unfold EF at hE
  generalize hAe : va_A (MW cI cZ a v su sl F) s.heap.size = A at hD hE ⊢
  have hA : ∀ q : Nat, s.heap.size ≤ q → A q := fun q h => by rw [← hAe]; exact Or.inr h
  have hS : va_S A s.heap s.heap [] := va_S.rf
  have hl := lv_entry ([.ref (a 0), .int x]) (n := 2) (Nat.le_of_ble_eq_true rfl)
  rw [lg_entry_eq]
  generalize (lg_sl ([.ref (a 0), .int x]) ++ List.replicate (2 - (lg_sl ([.ref (a 0), .int x])).length) Slot.unset).toArray = ls at hl ⊢
  have hl : lv_has ls 2 [(0, .ref (a 0)), (1, .int x)] := hl
  show W p l e ({ frames := 6, cells := 0, slots := 0, locals := 140 } : Room) s m ([.ref (a 0), .int x] : List Value).toArray below meth c s.heap [] 0 0 _ (F0 m 0 ls [])
  refine u_genQ (fun Q hQ => ?_)
  obtain ⟨hs1, hs2, hs3⟩ := id hSM
  refine lv_iload_n hx hb dX7_count_0 rfl (lv_at hl 1 rfl) ?_
  by_cases c_1 : x = 0
  · skip
    refine lv_tableIn (off := 35) (tgt := 36) hx hb dX7_count_1 (by rw [c_1]; decide) (by rw [c_1]; decide) (by rw [c_1]; rfl) (by decide) ?_
    refine lv_aload_n hx hb dX7_count_36 rfl (lv_at hl 0 rfl) ?_
    refine va_get (D := D) (ci := 9) (v := .ref (a 1)) (C := RX7) (T := TX7) (N := 24) hx hb hts (by decide +kernel) hown hK hP 0 rfl rfl 0 (by decide) (hts (.fieldLink RX7 7 "LandDeedsModel" "state" "[I") (by decide +kernel)) (fun _ h9 => h9) rfl dX7_count_37 ?_
    refine lv_bipush (v := 108) hx hb dX7_count_40 (by decide) ?_
    refine u_iald hx hb hK hP 1 0 rfl rfl rfl ⟨by decide, by decide⟩ dX7_count_42 ?_
    refine u_eqi (show (F 1) 108 = nI kk from hs1) ?_
    rw [← hQ]
    have hP9 := hP
    have hD9 := hD
    exact W.iret (v := nI kk) hx hb hr (fun t ht hW => ⟨⟨_, (v, su, sl, F), rfl, ⟨(cif_t c_1).symm, ⟨rfl, rfl, rfl, rfl, rfl⟩⟩, by rw [ht]; exact hP9, hD9⟩, hS.F ht⟩) hS.2.2 dX7_count_43
  by_cases c_2 : x = 1
  · skip
    refine lv_tableIn (off := 43) (tgt := 44) hx hb dX7_count_1 (by rw [c_2]; decide) (by rw [c_2]; decide) (by rw [c_2]; rfl) (by decide) ?_
    refine lv_aload_n hx hb dX7_count_44 rfl (lv_at hl 0 rfl) ?_
    refine va_get (D := D) (ci := 9) (v := .int (v 4)) (C := RX7) (T := TX7) (N := 24) hx hb hts (by decide +kernel) hown hK hP 0 rfl rfl 4 (by decide) (hts (.fieldLink RX7 74 "LandDeedsModel" "signs" "I") (by decide +kernel)) (fun _ h9 => h9) rfl dX7_count_45 ?_
    rw [← hQ]
    have hP9 := hP
    have hD9 := hD
    exact W.iret (v := v 4) hx hb hr (fun t ht hW => ⟨⟨_, (v, su, sl, F), rfl, ⟨((cif_f c_1).trans (cif_t c_2)).symm, ⟨rfl, rfl, rfl, rfl, rfl⟩⟩, by rw [ht]; exact hP9, hD9⟩, hS.F ht⟩) hS.2.2 dX7_count_48
  by_cases c_3 : x = 2
  · skip
    refine lv_tableIn (off := 48) (tgt := 49) hx hb dX7_count_1 (by rw [c_3]; decide) (by rw [c_3]; decide) (by rw [c_3]; rfl) (by decide) ?_
    refine lv_aload_n hx hb dX7_count_49 rfl (lv_at hl 0 rfl) ?_
    refine va_get (D := D) (ci := 9) (v := .ref (a 1)) (C := RX7) (T := TX7) (N := 24) hx hb hts (by decide +kernel) hown hK hP 0 rfl rfl 0 (by decide) (hts (.fieldLink RX7 7 "LandDeedsModel" "state" "[I") (by decide +kernel)) (fun _ h9 => h9) rfl dX7_count_50 ?_
    refine lv_bipush (v := 109) hx hb dX7_count_53 (by decide) ?_
    refine u_iald hx hb hK hP 1 0 rfl rfl rfl ⟨by decide, by decide⟩ dX7_count_55 ?_
    rw [← hQ]
    have hP9 := hP
    have hD9 := hD
    exact W.iret (v := (F 1) 109) hx hb hr (fun t ht hW => ⟨⟨_, (v, su, sl, F), rfl, ⟨((cif_f c_1).trans ((cif_f c_2).trans (cif_t c_3))).symm, ⟨rfl, rfl, rfl, rfl, rfl⟩⟩, by rw [ht]; exact hP9, hD9⟩, hS.F ht⟩) hS.2.2 dX7_count_56
  by_cases c_4 : x = 3
  · skip
    refine lv_tableIn (off := 56) (tgt := 57) hx hb dX7_count_1 (by rw [c_4]; decide) (by rw [c_4]; decide) (by rw [c_4]; rfl) (by decide) ?_
    refine lv_aload_n hx hb dX7_count_57 rfl (lv_at hl 0 rfl) ?_
    have hPc := hP
    have hDc := hD
    have hFc := va_free (wc := (MW cI cZ a v su sl F)) hD hS hA [0, 1, 2, 3, 4, 5, 6, 7, 8, 9, 10, 11, 12] rfl
    refine va_calli (va_runV (As := []) (rest := []) ⟨hx, hb, hml, hown, hts⟩ (c_X7_heldByMore l D cI cB cZ cP s.heap.size a v su sl F kk pn (by first | assumption | omega)) (cwV 0 hts gX7_count_X7_heldByMore rfl rfl rfl (by decide +kernel) ⟨Nat.le_of_ble_eq_true rfl, Nat.le_of_ble_eq_true rfl⟩) (pVQ (q0 := 0) hPc hDc hW0 EF.t rfl rfl) rfl rfl hl.1 rfl (lv_room (Nat.le_of_ble_eq_true rfl)) dX7_count_58 ⟨Nat.le_of_ble_eq_true rfl, Nat.le_of_ble_eq_true rfl⟩) hS (fun q _ h => hFc q h) hFc (fun r_5 u t H1 locs ht hvm hw hB hz1 hk1 hS => ?_)
    obtain ⟨v1_5, su1_5, sl1_5, F1_5⟩ := u
    obtain ⟨hP1, hD1⟩ := hB
    rw [ht] at hP1
    have hw_5 : r_5 = aMore kk pn (pX (F 1)) (pY (F 1)) ∧ keepM v F v1_5 F1_5 := hw
    obtain ⟨hP, hD⟩ := va_join (wr := []) (w1 := (MW cI cZ a v1_5 su1_5 sl1_5 F1_5)) hP hD [0, 1, 2, 3, 4, 5, 6, 7, 8, 9, 10, 11, 12] [] rfl rfl (by decide) (by decide) hk1 hFc hP1 hD1
    generalize H1 = H at hP hS ⊢
    have hP : va_P D vwCl (MW cI cZ a v1_5 su1_5 sl1_5 F1_5) H := hP
    have hD : va_D A (MW cI cZ a v1_5 su1_5 sl1_5 F1_5) := hD
    rw [← hQ]
    have hP9 := hP
    have hD9 := hD
    exact W.iret (v := r_5) hx hb hr (fun t ht hW => ⟨⟨_, (v1_5, su1_5, sl1_5, F1_5), rfl, ⟨hw_5.1.trans ((cif_f c_1).trans ((cif_f c_2).trans ((cif_f c_3).trans (cif_t c_4)))).symm, ⟨hw_5.2.1, hw_5.2.2.1, hw_5.2.2.2.1, hw_5.2.2.2.2.1, hw_5.2.2.2.2.2⟩⟩, by rw [ht]; exact hP9, hD9⟩, hS.F ht⟩) hS.2.2 dX7_count_61
  by_cases c_6 : x = 4
  · skip
    refine lv_tableIn (off := 61) (tgt := 62) hx hb dX7_count_1 (by rw [c_6]; decide) (by rw [c_6]; decide) (by rw [c_6]; rfl) (by decide) ?_
    refine lv_aload_n hx hb dX7_count_62 rfl (lv_at hl 0 rfl) ?_
    refine va_get (D := D) (ci := 9) (v := .ref (a 3)) (C := RX7) (T := TX7) (N := 24) hx hb hts (by decide +kernel) hown hK hP 0 rfl rfl 2 (by decide) (hts (.fieldLink RX7 16 "LandDeedsModel" "isKept" "[Z") (by decide +kernel)) (fun _ h9 => h9) rfl dX7_count_63 ?_
    refine lv_iconst (v := 0) hx hb dX7_count_66 (by decide) ?_
    refine u_zald hx hb hK hP 3 2 rfl rfl rfl ⟨by decide, by decide⟩ dX7_count_67 ?_
    refine lv_if_eq (tgt := 75) hx hb dX7_count_68 (by decide) (fun c_7 => ?_) (fun c_7 => ?_)
    · skip
      refine lv_iconst (v := 0) hx hb dX7_count_75 (by decide) ?_
      refine lv_aload_n hx hb dX7_count_76 rfl (lv_at hl 0 rfl) ?_
      refine va_get (D := D) (ci := 9) (v := .ref (a 3)) (C := RX7) (T := TX7) (N := 24) hx hb hts (by decide +kernel) hown hK hP 0 rfl rfl 2 (by decide) (hts (.fieldLink RX7 16 "LandDeedsModel" "isKept" "[Z") (by decide +kernel)) (fun _ h9 => h9) rfl dX7_count_77 ?_
      refine lv_iconst (v := 1) hx hb dX7_count_80 (by decide) ?_
      refine u_zald hx hb hK hP 3 2 rfl rfl rfl ⟨by decide, by decide⟩ dX7_count_81 ?_
      refine lv_if_eq (tgt := 89) hx hb dX7_count_82 (by decide) (fun c_8 => ?_) (fun c_8 => ?_)
      · skip
        refine lv_iconst (v := 0) hx hb dX7_count_89 (by decide) ?_
        refine lv_iadd hx hb dX7_count_90 ?_
        refine u_eqi (show 0 + 0 = kb (F 3 0) 1 + kb (F 3 1) 2 from by unfold kb; rw [if_pos c_7, if_pos c_8]) ?_
        rw [← hQ]
        have hP9 := hP
        have hD9 := hD
        exact W.iret (v := kb (F 3 0) 1 + kb (F 3 1) 2) hx hb hr (fun t ht hW => ⟨⟨_, (v, su, sl, F), rfl, ⟨((cif_f c_1).trans ((cif_f c_2).trans ((cif_f c_3).trans ((cif_f c_4).trans (cif_t c_6))))).symm, ⟨rfl, rfl, rfl, rfl, rfl⟩⟩, by rw [ht]; exact hP9, hD9⟩, hS.F ht⟩) hS.2.2 dX7_count_91
      · skip
        refine lv_iconst (v := 2) hx hb dX7_count_85 (by decide) ?_
        refine lv_goto (tgt := 90) hx hb dX7_count_86 (by decide) ?_
        refine lv_iadd hx hb dX7_count_90 ?_
        refine u_eqi (show 0 + 2 = kb (F 3 0) 1 + kb (F 3 1) 2 from by unfold kb; rw [if_pos c_7, if_neg c_8]) ?_
        rw [← hQ]
        have hP9 := hP
        have hD9 := hD
        exact W.iret (v := kb (F 3 0) 1 + kb (F 3 1) 2) hx hb hr (fun t ht hW => ⟨⟨_, (v, su, sl, F), rfl, ⟨((cif_f c_1).trans ((cif_f c_2).trans ((cif_f c_3).trans ((cif_f c_4).trans (cif_t c_6))))).symm, ⟨rfl, rfl, rfl, rfl, rfl⟩⟩, by rw [ht]; exact hP9, hD9⟩, hS.F ht⟩) hS.2.2 dX7_count_91
    · skip
      refine lv_iconst (v := 1) hx hb dX7_count_71 (by decide) ?_
      refine lv_goto (tgt := 76) hx hb dX7_count_72 (by decide) ?_
      refine lv_aload_n hx hb dX7_count_76 rfl (lv_at hl 0 rfl) ?_
      refine va_get (D := D) (ci := 9) (v := .ref (a 3)) (C := RX7) (T := TX7) (N := 24) hx hb hts (by decide +kernel) hown hK hP 0 rfl rfl 2 (by decide) (hts (.fieldLink RX7 16 "LandDeedsModel" "isKept" "[Z") (by decide +kernel)) (fun _ h9 => h9) rfl dX7_count_77 ?_
      refine lv_iconst (v := 1) hx hb dX7_count_80 (by decide) ?_
      refine u_zald hx hb hK hP 3 2 rfl rfl rfl ⟨by decide, by decide⟩ dX7_count_81 ?_
      refine lv_if_eq (tgt := 89) hx hb dX7_count_82 (by decide) (fun c_9 => ?_) (fun c_9 => ?_)
      · skip
        refine lv_iconst (v := 0) hx hb dX7_count_89 (by decide) ?_
        refine lv_iadd hx hb dX7_count_90 ?_
        refine u_eqi (show 1 + 0 = kb (F 3 0) 1 + kb (F 3 1) 2 from by unfold kb; rw [if_neg c_7, if_pos c_9]) ?_
        rw [← hQ]
        have hP9 := hP
        have hD9 := hD
        exact W.iret (v := kb (F 3 0) 1 + kb (F 3 1) 2) hx hb hr (fun t ht hW => ⟨⟨_, (v, su, sl, F), rfl, ⟨((cif_f c_1).trans ((cif_f c_2).trans ((cif_f c_3).trans ((cif_f c_4).trans (cif_t c_6))))).symm, ⟨rfl, rfl, rfl, rfl, rfl⟩⟩, by rw [ht]; exact hP9, hD9⟩, hS.F ht⟩) hS.2.2 dX7_count_91
      · skip
        refine lv_iconst (v := 2) hx hb dX7_count_85 (by decide) ?_
        refine lv_goto (tgt := 90) hx hb dX7_count_86 (by decide) ?_
        refine lv_iadd hx hb dX7_count_90 ?_
        refine u_eqi (show 1 + 2 = kb (F 3 0) 1 + kb (F 3 1) 2 from by unfold kb; rw [if_neg c_7, if_neg c_9]) ?_
        rw [← hQ]
        have hP9 := hP
        have hD9 := hD
        exact W.iret (v := kb (F 3 0) 1 + kb (F 3 1) 2) hx hb hr (fun t ht hW => ⟨⟨_, (v, su, sl, F), rfl, ⟨((cif_f c_1).trans ((cif_f c_2).trans ((cif_f c_3).trans ((cif_f c_4).trans (cif_t c_6))))).symm, ⟨rfl, rfl, rfl, rfl, rfl⟩⟩, by rw [ht]; exact hP9, hD9⟩, hS.F ht⟩) hS.2.2 dX7_count_91
  refine lv_tableOut (tgt := 92) hx hb dX7_count_1 (by have := u_sw5 ‹¬ x = 0› ‹¬ x = 1› ‹¬ x = 2› ‹¬ x = 3› ‹¬ x = 4›; omega) (by decide) ?_
  refine lv_bipush (v := (-2)) hx hb dX7_count_92 (by decide) ?_
  rw [← hQ]
  have hP9 := hP
  have hD9 := hD
  exact W.iret (v := (-2)) hx hb hr (fun t ht hW => ⟨⟨_, (v, su, sl, F), rfl, ⟨((cif_f c_1).trans ((cif_f c_2).trans ((cif_f c_3).trans ((cif_f c_4).trans (cif_f c_6))))).symm, ⟨rfl, rfl, rfl, rfl, rfl⟩⟩, by rw [ht]; exact hP9, hD9⟩, hS.F ht⟩) hS.2.2 dX7_count_94

