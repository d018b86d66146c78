set_option maxHeartbeats 4000000 in
set_option maxRecDepth 100000 in
theorem c_X0_init (l : Launch) (D : va_G) (cI cB cZ cP : ClassId) (sz : Nat) (h0 : Nat) : Met l yX0_init wsX0_init ({ frames := 1, cells := 2, slots := 12, locals := 12 } : Room) (va_Pc [.ref h0] (fun U => U.heap.size = sz ∧ va_P D vwCl [(h0, .inr (2, [.null, .null, .int 0, .int 0]))] U.heap ∧ KW D cI cB cZ cP U ∧ va_D (fun _ => True) [(h0, .inr (2, [.null, .null, .int 0, .int 0]))] ∧ EF [(h0, .inr (2, [.null, .null, .int 0, .int 0]))] sz E0 U.heap)) (va_Qv (fun (u : Nat × Nat) => match u with | (q1, q2) => True) (fun (u : Nat × Nat) (t : State) => match u with | (q1, q2) => va_P D vwCl [(h0, .inr (2, [.ref q1, .ref q2, .int 0, .int 0])), (q1, .inl (cP, 6, .inr (.inr (.inr (.inr (fun _ => none)))))), (q2, .inl (cI, 6, .inl (fun _ => 0)))] t.heap ∧ va_D (va_A [(h0, .inr (2, [.null, .null, .int 0, .int 0]))] sz) [(h0, .inr (2, [.ref q1, .ref q2, .int 0, .int 0])), (q1, .inl (cP, 6, .inr (.inr (.inr (.inr (fun _ => none)))))), (q2, .inl (cI, 6, .inl (fun _ => 0)))]) (va_A [(h0, .inr (2, [.null, .null, .int 0, .int 0]))] sz)) 2 12 (va_A [(h0, .inr (2, [.null, .null, .int 0, .int 0]))] sz) := by
  refine Met.ofW (cc := cX0_init) (maxL := 1) (ret := none) (by decide) rfl ?_
  intro p e s m args below meth c s₁ B hml hv
  obtain ⟨rfl, hsz, hP, hW0, hD0, hE⟩ := hv
  have hx := B.exec
  have hb := B.bytes
  have hr := B.returns
  have hts := atoms_spec (ws := wsX0_init) B.pre
  have hown : s.vm.findClass RX0 = some m.cls := findClass_of_methodNamed B.named
  have hlocks := B.notSynchronized
  have hK := hW0.1
  have hin : meth.name = "<init>" := (name_of_methodNamed B.named B.method).1
  subst hsz
  have hD := hD0.self (sz := s.heap.size)
  unfold EF at hE
  generalize hAe : va_A [(h0, .inr (2, [.null, .null, .int 0, .int 0]))] s.heap.size = A at hD hE ⊢
  have hA : ∀ q : Nat, s.heap.size ≤ q → A q := fun q h => by rw [← hAe]; exact Or.inr h
  have hS : va_S A s.heap s.heap [] := va_S.rf
  have hl := lv_entry ([.ref h0]) (n := 1) (Nat.le_of_ble_eq_true rfl)
  rw [lg_entry_eq]
  generalize (lg_sl ([.ref h0]) ++ List.replicate (1 - (lg_sl ([.ref h0])).length) Slot.unset).toArray = ls at hl ⊢
  have hl : lv_has ls 1 [(0, .ref h0)] := hl
  show W p l e ({ frames := 1, cells := 2, slots := 12, locals := 12 } : Room) s m ([.ref h0] : List Value).toArray below meth c s.heap [] 0 0 _ (F0 m 0 ls [])
  refine u_genQ (fun Q hQ => ?_)
  refine lv_aload_n hx hb dX0_init_0 rfl (lv_at hl 0 rfl) ?_
  refine W.objInit hx hb hown (hts (.methodLink RX0 3 objectInit) (by decide +kernel)) (hts (.instanceMethod objectInit) (by decide +kernel)) (hts (.code objectInit ⟨#[0xb1]⟩ 1 none) (by decide +kernel)) rfl (by rw [hml]; exact hl.1) rfl dX0_init_1 (Nat.le_of_ble_eq_true rfl) (Nat.le_of_ble_eq_true rfl) ?_
  refine W.eq (g2 := F0 m 4 ls []) rfl ?_
  refine lv_aload_n hx hb dX0_init_4 rfl (lv_at hl 0 rfl) ?_
  refine lv_bipush (v := 6) hx hb dX0_init_5 (by decide) ?_
  refine u_newaP hx hb hown (hts (.classLink RX0 9 RX2) (by decide +kernel)) hW0.2.1 hK 3 rfl hP hD hS hA (N := 6) rfl (by omega) (Nat.le_of_ble_eq_true rfl) (Nat.le_of_ble_eq_true rfl) dX0_init_7 (fun q_1 H hP hD hS => ?_)
  have hP : va_P D vwCl [(h0, .inr (2, [.null, .null, .int 0, .int 0])), (q_1, .inl (cP, 6, .inr (.inr (.inr (.inr (fun _ => none))))))] H := hP
  have hD : va_D A [(h0, .inr (2, [.null, .null, .int 0, .int 0])), (q_1, .inl (cP, 6, .inr (.inr (.inr (.inr (fun _ => none))))))] := hD
  refine va_putF (D := D) (ci := 2) (v := .ref q_1) (ty := .array (.object "LandDeeds$Plot")) (C := RX0) (T := TX0) (N := 4) hx hb hts (by decide +kernel) tyX0 tyX0_ok nmX0 hown hK hP hD hS 0 rfl rfl 0 (by decide) (hts (.fieldLink RX0 11 "LandDeeds$Estate" "plots" "[LLandDeeds$Plot;") (by decide +kernel)) (fun _ h9 => h9) rfl hin rfl (by decide +kernel) rfl rfl (Nat.le_of_ble_eq_true rfl) dX0_init_10 (fun H locs hP hD hS => ?_)
  have hP : va_P D vwCl [(h0, .inr (2, [.ref q_1, .null, .int 0, .int 0])), (q_1, .inl (cP, 6, .inr (.inr (.inr (.inr (fun _ => none))))))] H := hP
  have hD : va_D A [(h0, .inr (2, [.ref q_1, .null, .int 0, .int 0])), (q_1, .inl (cP, 6, .inr (.inr (.inr (.inr (fun _ => none))))))] := hD
  refine lv_aload_n hx hb dX0_init_13 rfl (lv_at hl 0 rfl) ?_
  refine lv_bipush (v := 6) hx hb dX0_init_14 (by decide) ?_
  refine u_newaI hx hb (hts (.arrayClass .int) (by decide +kernel)) hK 0 rfl hP hD hS hA (N := 6) rfl (by omega) (Nat.le_of_ble_eq_true rfl) (Nat.le_of_ble_eq_true rfl) dX0_init_16 (fun q_2 H hP hD hS => ?_)
  have hP : va_P D vwCl [(h0, .inr (2, [.ref q_1, .null, .int 0, .int 0])), (q_1, .inl (cP, 6, .inr (.inr (.inr (.inr (fun _ => none)))))), (q_2, .inl (cI, 6, .inl (fun _ => 0)))] H := hP
  have hD : va_D A [(h0, .inr (2, [.ref q_1, .null, .int 0, .int 0])), (q_1, .inl (cP, 6, .inr (.inr (.inr (.inr (fun _ => none)))))), (q_2, .inl (cI, 6, .inl (fun _ => 0)))] := hD
  refine va_putF (D := D) (ci := 2) (v := .ref q_2) (ty := .array .int) (C := RX0) (T := TX0) (N := 4) hx hb hts (by decide +kernel) tyX0 tyX0_ok nmX0 hown hK hP hD hS 0 rfl rfl 1 (by decide) (hts (.fieldLink RX0 17 "LandDeeds$Estate" "years" "[I") (by decide +kernel)) (fun _ h9 => h9) rfl hin rfl (by decide +kernel) rfl rfl (Nat.le_of_ble_eq_true rfl) dX0_init_18 (fun H locs hP hD hS => ?_)
  have hP : va_P D vwCl [(h0, .inr (2, [.ref q_1, .ref q_2, .int 0, .int 0])), (q_1, .inl (cP, 6, .inr (.inr (.inr (.inr (fun _ => none)))))), (q_2, .inl (cI, 6, .inl (fun _ => 0)))] H := hP
  have hD : va_D A [(h0, .inr (2, [.ref q_1, .ref q_2, .int 0, .int 0])), (q_1, .inl (cP, 6, .inr (.inr (.inr (.inr (fun _ => none)))))), (q_2, .inl (cI, 6, .inl (fun _ => 0)))] := hD
  rw [← hQ]
  have hP9 := hP
  have hD9 := hD
  exact W.vret hx hb hr (fun t ht hW => ⟨⟨(q_1, q_2), rfl, trivial, by rw [ht]; exact hP9, hD9⟩, hS.F ht⟩) hS.2.2 dX0_init_21

set_option maxHeartbeats 4000000 in
set_option maxRecDepth 100000 in
theorem c_X0_setYear (l : Launch) (D : va_G) (cI cB cZ cP : ClassId) (sz : Nat) (h0 ap ay : Nat) (k : Nat) (lo : Int32) (yr : Nat → Int32) (j : Nat) (x : Int32) (hk : k ≤ 6) (hj : j < k) : Met l yX0_setYear wsX0_setYear ({ frames := 1, cells := 0, slots := 0, locals := 21 } : Room) (va_Pc [.ref h0, .int (nI j), .int x] (fun U => U.heap.size = sz ∧ va_P D vwCl [(h0, .inr (2, [.ref ap, .ref ay, .int (nI k), .int lo])), (ay, .inl (cI, 6, .inl yr))] U.heap ∧ KW D cI cB cZ cP U ∧ va_D (fun _ => True) [(h0, .inr (2, [.ref ap, .ref ay, .int (nI k), .int lo])), (ay, .inl (cI, 6, .inl yr))] ∧ EF [(h0, .inr (2, [.ref ap, .ref ay, .int (nI k), .int lo])), (ay, .inl (cI, 6, .inl yr))] sz E0 U.heap)) (va_Qv (fun (_ : Unit) => True) (fun (_ : Unit) (t : State) => va_P D vwCl [(h0, .inr (2, [.ref ap, .ref ay, .int (nI k), .int lo])), (ay, .inl (cI, 6, .inl (upd yr j x)))] t.heap ∧ va_D (va_A [(h0, .inr (2, [.ref ap, .ref ay, .int (nI k), .int lo])), (ay, .inl (cI, 6, .inl yr))] sz) [(h0, .inr (2, [.ref ap, .ref ay, .int (nI k), .int lo])), (ay, .inl (cI, 6, .inl (upd yr j x)))]) (va_A [(h0, .inr (2, [.ref ap, .ref ay, .int (nI k), .int lo])), (ay, .inl (cI, 6, .inl yr))] sz)) 0 0 (va_A [(h0, .inr (2, [.ref ap, .ref ay, .int (nI k), .int lo])), (ay, .inl (cI, 6, .inl yr))] sz) := by
  refine Met.ofW (cc := cX0_setYear) (maxL := 3) (ret := none) (by decide) rfl ?_
  intro p e s m args below meth c s₁ B hml hv
  obtain ⟨rfl, hsz, hP, hW0, hD0, hE⟩ := hv
  have hx := B.exec
  have hb := B.bytes
  have hr := B.returns
  have hts := atoms_spec (ws := wsX0_setYear) B.pre
  have hown : s.vm.findClass RX0 = some m.cls := findClass_of_methodNamed B.named
  have hlocks := B.notSynchronized
  have hK := hW0.1
  subst hsz
  have hD := hD0.self (sz := s.heap.size)
  unfold EF at hE
  generalize hAe : va_A [(h0, .inr (2, [.ref ap, .ref ay, .int (nI k), .int lo])), (ay, .inl (cI, 6, .inl yr))] s.heap.size = A at hD hE ⊢
  have hA : ∀ q : Nat, s.heap.size ≤ q → A q := fun q h => by rw [← hAe]; exact Or.inr h
  have hS : va_S A s.heap s.heap [] := va_S.rf
  have hl := lv_entry ([.ref h0, .int (nI j), .int x]) (n := 3) (Nat.le_of_ble_eq_true rfl)
  rw [lg_entry_eq]
  generalize (lg_sl ([.ref h0, .int (nI j), .int x]) ++ List.replicate (3 - (lg_sl ([.ref h0, .int (nI j), .int x])).length) Slot.unset).toArray = ls at hl ⊢
  have hl : lv_has ls 3 [(0, .ref h0), (1, .int (nI j)), (2, .int x)] := hl
  show W p l e ({ frames := 1, cells := 0, slots := 0, locals := 21 } : Room) s m ([.ref h0, .int (nI j), .int x] : List Value).toArray below meth c s.heap [] 0 0 _ (F0 m 0 ls [])
  refine u_genQ (fun Q hQ => ?_)
  refine lv_aload_n hx hb dX0_setYear_0 rfl (lv_at hl 0 rfl) ?_
  refine lv_iload_n hx hb dX0_setYear_1 rfl (lv_at hl 1 rfl) ?_
  have hPc := hP.sub (ws' := [(h0, .inr (2, [.ref ap, .ref ay, .int (nI k), .int lo]))]) [0] rfl
  refine u_callSi (W.runV (As := [.int (nI j)]) (rest := []) ⟨hx, hb, hml, hown, hts⟩ (c_X0_has l D cI cB cZ cP h0 ap ay k lo (nI j) (by first | assumption | omega)) (cwV 1 hts gX0_setYear_X0_has rfl rfl rfl (by decide +kernel) ⟨Nat.le_of_ble_eq_true rfl, Nat.le_of_ble_eq_true rfl⟩) (pV (q0 := 0) hPc hW0 trivial rfl rfl) rfl rfl hl.1 rfl (lv_room (Nat.le_of_ble_eq_true rfl)) dX0_setYear_2 ⟨Nat.le_of_ble_eq_true rfl, Nat.le_of_ble_eq_true rfl⟩) ?_
  refine lv_if_eq (tgt := 15) hx hb dX0_setYear_5 (by decide) (fun c_1 => ?_) (fun c_1 => ?_)
  · skip
    have nc_1 := zb_eq0.mp c_1
    exact absurd nc_1 (not_not_intro (by rw [nI_toInt (by omega)]; omega))
  · skip
    have nc_1 := zb_ne0.mp c_1
    refine lv_aload_n hx hb dX0_setYear_8 rfl (lv_at hl 0 rfl) ?_
    refine va_get (D := D) (ci := 2) (v := .ref ay) (C := RX0) (T := TX0) (N := 4) hx hb hts (by decide +kernel) hown hK hP 0 rfl rfl 1 (by decide) (hts (.fieldLink RX0 17 "LandDeeds$Estate" "years" "[I") (by decide +kernel)) (fun _ h9 => h9) rfl dX0_setYear_9 ?_
    refine lv_iload_n hx hb dX0_setYear_12 rfl (lv_at hl 1 rfl) ?_
    refine lv_iload_n hx hb dX0_setYear_13 rfl (lv_at hl 2 rfl) ?_
    refine u_iast hx hb hK hP hD hS 1 0 rfl rfl rfl ⟨by omega, by omega⟩ dX0_setYear_14 (fun H locs hP hD hS => ?_)
    have hP : va_P D vwCl [(h0, .inr (2, [.ref ap, .ref ay, .int (nI k), .int lo])), (ay, .inl (cI, 6, .inl (upd yr j x)))] H := hP
    have hD : va_D A [(h0, .inr (2, [.ref ap, .ref ay, .int (nI k), .int lo])), (ay, .inl (cI, 6, .inl (upd yr j x)))] := hD
    rw [← hQ]
    have hP9 := hP
    have hD9 := hD
    exact W.vret hx hb hr (fun t ht hW => ⟨⟨(), rfl, trivial, by rw [ht]; exact hP9, hD9⟩, hS.F ht⟩) hS.2.2 dX0_setYear_15

set_option maxHeartbeats 4000000 in
set_option maxRecDepth 100000 in
theorem c_X0_add (l : Launch) (D : va_G) (cI cB cZ cP : ClassId) (sz : Nat) (h0 ap ay : Nat) (k : Nat) (lo : Int32) (yr : Nat → Int32) (fp : Nat → Option Nat) (pa : Nat) (x : Int32) (hk : k < 6) : Met l yX0_add wsX0_add ({ frames := 0, cells := 0, slots := 0, locals := 0 } : Room) (va_Pc [.ref h0, .ref pa, .int x] (fun U => U.heap.size = sz ∧ va_P D vwCl [(h0, .inr (2, [.ref ap, .ref ay, .int (nI k), .int lo])), (ap, .inl (cP, 6, .inr (.inr (.inr (.inr fp))))), (ay, .inl (cI, 6, .inl yr))] U.heap ∧ KW D cI cB cZ cP U ∧ va_D (fun _ => True) [(h0, .inr (2, [.ref ap, .ref ay, .int (nI k), .int lo])), (ap, .inl (cP, 6, .inr (.inr (.inr (.inr fp))))), (ay, .inl (cI, 6, .inl yr))] ∧ EF [(h0, .inr (2, [.ref ap, .ref ay, .int (nI k), .int lo])), (ap, .inl (cP, 6, .inr (.inr (.inr (.inr fp))))), (ay, .inl (cI, 6, .inl yr))] sz (E1 D pa) U.heap)) (va_Qi (fun r (_ : Unit) => r = nI k) (fun (_ : Unit) (t : State) => va_P D vwCl [(h0, .inr (2, [.ref ap, .ref ay, .int (nI (k + 1)), .int lo])), (ap, .inl (cP, 6, .inr (.inr (.inr (.inr (va_up fp k (some pa))))))), (ay, .inl (cI, 6, .inl (upd yr k x)))] t.heap ∧ va_D (va_A [(h0, .inr (2, [.ref ap, .ref ay, .int (nI k), .int lo])), (ap, .inl (cP, 6, .inr (.inr (.inr (.inr fp))))), (ay, .inl (cI, 6, .inl yr))] sz) [(h0, .inr (2, [.ref ap, .ref ay, .int (nI (k + 1)), .int lo])), (ap, .inl (cP, 6, .inr (.inr (.inr (.inr (va_up fp k (some pa))))))), (ay, .inl (cI, 6, .inl (upd yr k x)))]) (va_A [(h0, .inr (2, [.ref ap, .ref ay, .int (nI k), .int lo])), (ap, .inl (cP, 6, .inr (.inr (.inr (.inr fp))))), (ay, .inl (cI, 6, .inl yr))] sz)) 0 0 (va_A [(h0, .inr (2, [.ref ap, .ref ay, .int (nI k), .int lo])), (ap, .inl (cP, 6, .inr (.inr (.inr (.inr fp))))), (ay, .inl (cI, 6, .inl yr))] sz) := by
  refine Met.ofW (cc := cX0_add) (maxL := 3) (ret := (some .int)) (by decide) rfl ?_
  intro p e s m args below meth c s₁ B hml hv
  obtain ⟨rfl, hsz, hP, hW0, hD0, hE⟩ := hv
  have hx := B.exec
  have hb := B.bytes
  have hr := B.returns
  have hts := atoms_spec (ws := wsX0_add) B.pre
  have hown : s.vm.findClass RX0 = some m.cls := findClass_of_methodNamed B.named
  have hlocks := B.notSynchronized
  have hK := hW0.1
  subst hsz
  have hD := hD0.self (sz := s.heap.size)
  unfold EF at hE
  generalize hAe : va_A [(h0, .inr (2, [.ref ap, .ref ay, .int (nI k), .int lo])), (ap, .inl (cP, 6, .inr (.inr (.inr (.inr fp))))), (ay, .inl (cI, 6, .inl yr))] s.heap.size = A at hD hE ⊢
  have hA : ∀ q : Nat, s.heap.size ≤ q → A q := fun q h => by rw [← hAe]; exact Or.inr h
  have hS : va_S A s.heap s.heap [] := va_S.rf
  have hl := lv_entry ([.ref h0, .ref pa, .int x]) (n := 3) (Nat.le_of_ble_eq_true rfl)
  rw [lg_entry_eq]
  generalize (lg_sl ([.ref h0, .ref pa, .int x]) ++ List.replicate (3 - (lg_sl ([.ref h0, .ref pa, .int x])).length) Slot.unset).toArray = ls at hl ⊢
  have hl : lv_has ls 3 [(0, .ref h0), (1, .ref pa), (2, .int x)] := hl
  show W p l e ({ frames := 0, cells := 0, slots := 0, locals := 0 } : Room) s m ([.ref h0, .ref pa, .int x] : List Value).toArray below meth c s.heap [] 0 0 _ (F0 m 0 ls [])
  refine u_genQ (fun Q hQ => ?_)
  refine lv_aload_n hx hb dX0_add_0 rfl (lv_at hl 0 rfl) ?_
  refine va_get (D := D) (ci := 2) (v := .int (nI k)) (C := RX0) (T := TX0) (N := 4) hx hb hts (by decide +kernel) hown hK hP 0 rfl rfl 2 (by decide) (hts (.fieldLink RX0 21 "LandDeeds$Estate" "size" "I") (by decide +kernel)) (fun _ h9 => h9) rfl dX0_add_1 ?_
  refine lv_if_lt (tgt := 16) hx hb dX0_add_4 (by decide) (fun c_1 => ?_) (fun c_1 => ?_)
  · skip
    have nc_1 : k < 0 := (nI_ltI (a := k) (b := 0) (by omega) (by omega)).mp c_1
    exact absurd nc_1 (by omega)
  · skip
    have nc_1 : ¬ (k < 0) := fun h => c_1 ((nI_ltI (a := k) (b := 0) (by omega) (by omega)).mpr h)
    refine lv_aload_n hx hb dX0_add_7 rfl (lv_at hl 0 rfl) ?_
    refine va_get (D := D) (ci := 2) (v := .int (nI k)) (C := RX0) (T := TX0) (N := 4) hx hb hts (by decide +kernel) hown hK hP 0 rfl rfl 2 (by decide) (hts (.fieldLink RX0 21 "LandDeeds$Estate" "size" "I") (by decide +kernel)) (fun _ h9 => h9) rfl dX0_add_8 ?_
    refine lv_bipush (v := 6) hx hb dX0_add_11 (by decide) ?_
    refine lv_icmp_lt (tgt := 19) hx hb dX0_add_13 (by decide) (fun c_2 => ?_) (fun c_2 => ?_)
    · skip
      have nc_2 : k < 6 := (nI_ltI (a := k) (b := 6) (by omega) (by omega)).mp c_2
      refine lv_aload_n hx hb dX0_add_19 rfl (lv_at hl 0 rfl) ?_
      refine va_get (D := D) (ci := 2) (v := .ref ap) (C := RX0) (T := TX0) (N := 4) hx hb hts (by decide +kernel) hown hK hP 0 rfl rfl 0 (by decide) (hts (.fieldLink RX0 11 "LandDeeds$Estate" "plots" "[LLandDeeds$Plot;") (by decide +kernel)) (fun _ h9 => h9) rfl dX0_add_20 ?_
      refine lv_aload_n hx hb dX0_add_23 rfl (lv_at hl 0 rfl) ?_
      refine va_get (D := D) (ci := 2) (v := .int (nI k)) (C := RX0) (T := TX0) (N := 4) hx hb hts (by decide +kernel) hown hK hP 0 rfl rfl 2 (by decide) (hts (.fieldLink RX0 21 "LandDeeds$Estate" "size" "I") (by decide +kernel)) (fun _ h9 => h9) rfl dX0_add_24 ?_
      refine lv_aload_n hx hb dX0_add_27 rfl (lv_at hl 1 rfl) ?_
      refine u_asto (o := some pa) hx hb hK hP hD hS 1 3 rfl rfl rfl ⟨by omega, by omega⟩ (fun v hv => by cases hv; exact any_plot hK (hE _ hS.2.1).choose_spec) dX0_add_28 (fun H locs hP hD hS => ?_)
      have hP : va_P D vwCl [(h0, .inr (2, [.ref ap, .ref ay, .int (nI k), .int lo])), (ap, .inl (cP, 6, .inr (.inr (.inr (.inr (va_up fp k (some pa))))))), (ay, .inl (cI, 6, .inl yr))] H := hP
      have hD : va_D A [(h0, .inr (2, [.ref ap, .ref ay, .int (nI k), .int lo])), (ap, .inl (cP, 6, .inr (.inr (.inr (.inr (va_up fp k (some pa))))))), (ay, .inl (cI, 6, .inl yr))] := hD
      refine lv_aload_n hx hb dX0_add_29 rfl (lv_at hl 0 rfl) ?_
      refine va_get (D := D) (ci := 2) (v := .ref ay) (C := RX0) (T := TX0) (N := 4) hx hb hts (by decide +kernel) hown hK hP 0 rfl rfl 1 (by decide) (hts (.fieldLink RX0 17 "LandDeeds$Estate" "years" "[I") (by decide +kernel)) (fun _ h9 => h9) rfl dX0_add_30 ?_
      refine lv_aload_n hx hb dX0_add_33 rfl (lv_at hl 0 rfl) ?_
      refine va_get (D := D) (ci := 2) (v := .int (nI k)) (C := RX0) (T := TX0) (N := 4) hx hb hts (by decide +kernel) hown hK hP 0 rfl rfl 2 (by decide) (hts (.fieldLink RX0 21 "LandDeeds$Estate" "size" "I") (by decide +kernel)) (fun _ h9 => h9) rfl dX0_add_34 ?_
      refine lv_iload_n hx hb dX0_add_37 rfl (lv_at hl 2 rfl) ?_
      refine u_iast hx hb hK hP hD hS 2 0 rfl rfl rfl ⟨by omega, by omega⟩ dX0_add_38 (fun H locs hP hD hS => ?_)
      have hP : va_P D vwCl [(h0, .inr (2, [.ref ap, .ref ay, .int (nI k), .int lo])), (ap, .inl (cP, 6, .inr (.inr (.inr (.inr (va_up fp k (some pa))))))), (ay, .inl (cI, 6, .inl (upd yr k x)))] H := hP
      have hD : va_D A [(h0, .inr (2, [.ref ap, .ref ay, .int (nI k), .int lo])), (ap, .inl (cP, 6, .inr (.inr (.inr (.inr (va_up fp k (some pa))))))), (ay, .inl (cI, 6, .inl (upd yr k x)))] := hD
      refine lv_aload_n hx hb dX0_add_39 rfl (lv_at hl 0 rfl) ?_
      refine lv_dup hx hb dX0_add_40 rfl ?_
      refine va_get (D := D) (ci := 2) (v := .int (nI k)) (C := RX0) (T := TX0) (N := 4) hx hb hts (by decide +kernel) hown hK hP 0 rfl rfl 2 (by decide) (hts (.fieldLink RX0 21 "LandDeeds$Estate" "size" "I") (by decide +kernel)) (fun _ h9 => h9) rfl dX0_add_41 ?_
      refine lv_iconst (v := 1) hx hb dX0_add_44 (by decide) ?_
      refine lv_iadd hx hb dX0_add_45 ?_
      refine u_eqi (show (nI k) + 1 = nI (k + 1) from nI_1 k) ?_
      refine va_put (D := D) (ci := 2) (v := .int (nI (k + 1))) (ty := .int) (C := RX0) (T := TX0) (N := 4) hx hb hts (by decide +kernel) tyX0 tyX0_ok nmX0 hown hK hP hD hS 0 rfl rfl 2 (by decide) (hts (.fieldLink RX0 21 "LandDeeds$Estate" "size" "I") (by decide +kernel)) (fun _ h9 => h9) rfl (by decide +kernel) rfl rfl (Nat.le_of_ble_eq_true rfl) dX0_add_46 (fun H locs hP hD hS => ?_)
      have hP : va_P D vwCl [(h0, .inr (2, [.ref ap, .ref ay, .int (nI (k + 1)), .int lo])), (ap, .inl (cP, 6, .inr (.inr (.inr (.inr (va_up fp k (some pa))))))), (ay, .inl (cI, 6, .inl (upd yr k x)))] H := hP
      have hD : va_D A [(h0, .inr (2, [.ref ap, .ref ay, .int (nI (k + 1)), .int lo])), (ap, .inl (cP, 6, .inr (.inr (.inr (.inr (va_up fp k (some pa))))))), (ay, .inl (cI, 6, .inl (upd yr k x)))] := hD
      refine lv_aload_n hx hb dX0_add_49 rfl (lv_at hl 0 rfl) ?_
      refine va_get (D := D) (ci := 2) (v := .int (nI (k + 1))) (C := RX0) (T := TX0) (N := 4) hx hb hts (by decide +kernel) hown hK hP 0 rfl rfl 2 (by decide) (hts (.fieldLink RX0 21 "LandDeeds$Estate" "size" "I") (by decide +kernel)) (fun _ h9 => h9) rfl dX0_add_50 ?_
      refine lv_iconst (v := 1) hx hb dX0_add_53 (by decide) ?_
      refine lv_isub hx hb dX0_add_54 ?_
      refine u_eqi (show (nI (k + 1)) - 1 = nI k from nI_pred k) ?_
      rw [← hQ]
      have hP9 := hP
      have hD9 := hD
      exact W.iret (v := nI k) hx hb hr (fun t ht hW => ⟨⟨_, (), rfl, rfl, by rw [ht]; exact hP9, hD9⟩, hS.F ht⟩) hS.2.2 dX0_add_55
    · skip
      have nc_2 : ¬ (k < 6) := fun h => c_2 ((nI_ltI (a := k) (b := 6) (by omega) (by omega)).mpr h)
      exact absurd hk nc_2

set_option maxHeartbeats 4000000 in
set_option maxRecDepth 100000 in
theorem c_X0_remove (l : Launch) (D : va_G) (cI cB cZ cP : ClassId) (sz : Nat) (h0 ap ay : Nat) (k : Nat) (lo : Int32) (yr : Nat → Int32) (fp : Nat → Option Nat) (j : Nat) (hk : k ≤ 6) (hj : j < k) : Met l yX0_remove wsX0_remove ({ frames := 1, cells := 0, slots := 0, locals := 21 } : Room) (va_Pc [.ref h0, .int (nI j)] (fun U => U.heap.size = sz ∧ va_P D vwCl [(h0, .inr (2, [.ref ap, .ref ay, .int (nI k), .int lo])), (ap, .inl (cP, 6, .inr (.inr (.inr (.inr fp))))), (ay, .inl (cI, 6, .inl yr))] U.heap ∧ KW D cI cB cZ cP U ∧ va_D (fun _ => True) [(h0, .inr (2, [.ref ap, .ref ay, .int (nI k), .int lo])), (ap, .inl (cP, 6, .inr (.inr (.inr (.inr fp))))), (ay, .inl (cI, 6, .inl yr))] ∧ EF [(h0, .inr (2, [.ref ap, .ref ay, .int (nI k), .int lo])), (ap, .inl (cP, 6, .inr (.inr (.inr (.inr fp))))), (ay, .inl (cI, 6, .inl yr))] sz (EP D fp) U.heap)) (va_Qv (fun (_ : Unit) => True) (fun (_ : Unit) (t : State) => va_P D vwCl [(h0, .inr (2, [.ref ap, .ref ay, .int (nI (k - 1)), .int lo])), (ap, .inl (cP, 6, .inr (.inr (.inr (.inr (shf fp j (k - 1))))))), (ay, .inl (cI, 6, .inl (shf yr j (k - 1))))] t.heap ∧ va_D (va_A [(h0, .inr (2, [.ref ap, .ref ay, .int (nI k), .int lo])), (ap, .inl (cP, 6, .inr (.inr (.inr (.inr fp))))), (ay, .inl (cI, 6, .inl yr))] sz) [(h0, .inr (2, [.ref ap, .ref ay, .int (nI (k - 1)), .int lo])), (ap, .inl (cP, 6, .inr (.inr (.inr (.inr (shf fp j (k - 1))))))), (ay, .inl (cI, 6, .inl (shf yr j (k - 1))))]) (va_A [(h0, .inr (2, [.ref ap, .ref ay, .int (nI k), .int lo])), (ap, .inl (cP, 6, .inr (.inr (.inr (.inr fp))))), (ay, .inl (cI, 6, .inl yr))] sz)) 0 0 (va_A [(h0, .inr (2, [.ref ap, .ref ay, .int (nI k), .int lo])), (ap, .inl (cP, 6, .inr (.inr (.inr (.inr fp))))), (ay, .inl (cI, 6, .inl yr))] sz) := by
  refine Met.ofW (cc := cX0_remove) (maxL := 3) (ret := none) (by decide) rfl ?_
  intro p e s m args below meth c s₁ B hml hv
  obtain ⟨rfl, hsz, hP, hW0, hD0, hE⟩ := hv
  have hx := B.exec
  have hb := B.bytes
  have hr := B.returns
  have hts := atoms_spec (ws := wsX0_remove) B.pre
  have hown : s.vm.findClass RX0 = some m.cls := findClass_of_methodNamed B.named
  have hlocks := B.notSynchronized
  have hK := hW0.1
  subst hsz
  have hD := hD0.self (sz := s.heap.size)
  unfold EF at hE
  generalize hAe : va_A [(h0, .inr (2, [.ref ap, .ref ay, .int (nI k), .int lo])), (ap, .inl (cP, 6, .inr (.inr (.inr (.inr fp))))), (ay, .inl (cI, 6, .inl yr))] s.heap.size = A at hD hE ⊢
  have hA : ∀ q : Nat, s.heap.size ≤ q → A q := fun q h => by rw [← hAe]; exact Or.inr h
  have hS : va_S A s.heap s.heap [] := va_S.rf
  have hl := lv_entry ([.ref h0, .int (nI j)]) (n := 3) (Nat.le_of_ble_eq_true rfl)
  rw [lg_entry_eq]
  generalize (lg_sl ([.ref h0, .int (nI j)]) ++ List.replicate (3 - (lg_sl ([.ref h0, .int (nI j)])).length) Slot.unset).toArray = ls at hl ⊢
  have hl : lv_has ls 3 [(0, .ref h0), (1, .int (nI j))] := hl
  show W p l e ({ frames := 1, cells := 0, slots := 0, locals := 21 } : Room) s m ([.ref h0, .int (nI j)] : List Value).toArray below meth c s.heap [] 0 0 _ (F0 m 0 ls [])
  refine u_genQ (fun Q hQ => ?_)
  refine lv_aload_n hx hb dX0_remove_0 rfl (lv_at hl 0 rfl) ?_
  refine lv_iload_n hx hb dX0_remove_1 rfl (lv_at hl 1 rfl) ?_
  have hPc := hP.sub (ws' := [(h0, .inr (2, [.ref ap, .ref ay, .int (nI k), .int lo]))]) [0] rfl
  refine u_callSi (W.runV (As := [.int (nI j)]) (rest := []) ⟨hx, hb, hml, hown, hts⟩ (c_X0_has l D cI cB cZ cP h0 ap ay k lo (nI j) (by first | assumption | omega)) (cwV 1 hts gX0_remove_X0_has rfl rfl rfl (by decide +kernel) ⟨Nat.le_of_ble_eq_true rfl, Nat.le_of_ble_eq_true rfl⟩) (pV (q0 := 0) hPc hW0 trivial rfl rfl) rfl rfl hl.1 rfl (lv_room (Nat.le_of_ble_eq_true rfl)) dX0_remove_2 ⟨Nat.le_of_ble_eq_true rfl, Nat.le_of_ble_eq_true rfl⟩) ?_
  refine lv_if_ne (tgt := 9) hx hb dX0_remove_5 (by decide) (fun c_1 => ?_) (fun c_1 => ?_)
  · skip
    have nc_1 := zb_ne0.mp c_1
    rw [← shf_0 fp j, ← shf_0 yr j] at hP hD
    refine lv_iload_n hx hb dX0_remove_9 rfl (lv_at hl 1 rfl) ?_
    refine lv_istore_n (lv' := [(2, .int (nI j)), (0, .ref h0), (1, .int (nI j))]) hx hb dX0_remove_10 rfl hl (by decide) rfl (fun ls hl => ?_)
    have LOOP_11 : ∀ (fu : Nat) (z : Nat) (hz1 : j ≤ z) (hz2 : z < k) (hn : k - z < fu) (H : Heap) (locs : List Loc) (hP : va_P D vwCl [(h0, .inr (2, [.ref ap, .ref ay, .int (nI k), .int lo])), (ap, .inl (cP, 6, .inr (.inr (.inr (.inr (shf fp j z)))))), (ay, .inl (cI, 6, .inl (shf yr j z)))] H) (hD : va_D A [(h0, .inr (2, [.ref ap, .ref ay, .int (nI k), .int lo])), (ap, .inl (cP, 6, .inr (.inr (.inr (.inr (shf fp j z)))))), (ay, .inl (cI, 6, .inl (shf yr j z)))]) (hS : va_S A s.heap H locs) (ls : Array Slot) (hl : lv_has ls 3 [(0, .ref h0), (2, .int (nI z))]), W p l e ({ frames := 1, cells := 0, slots := 0, locals := 21 } : Room) s m ([.ref h0, .int (nI j)] : List Value).toArray below meth c H locs 0 0 Q (F0 m 11 ls []) := by
      intro fu
      induction fu with
      | zero => intro z hz1 hz2 hn H locs hP hD hS ls hl; exact absurd hn (Nat.not_lt_zero _)
      | succ fu ih_11 =>
        intro z hz1 hz2 hn H locs hP hD hS ls hl
        refine lv_iload_n hx hb dX0_remove_11 rfl (lv_at hl 1 rfl) ?_
        refine lv_iconst (v := 1) hx hb dX0_remove_12 (by decide) ?_
        refine lv_iadd hx hb dX0_remove_13 ?_
        refine u_eqi (show (nI z) + 1 = nI (z + 1) from nI_1 z) ?_
        refine lv_aload_n hx hb dX0_remove_14 rfl (lv_at hl 0 rfl) ?_
        refine va_get (D := D) (ci := 2) (v := .int (nI k)) (C := RX0) (T := TX0) (N := 4) hx hb hts (by decide +kernel) hown hK hP 0 rfl rfl 2 (by decide) (hts (.fieldLink RX0 21 "LandDeeds$Estate" "size" "I") (by decide +kernel)) (fun _ h9 => h9) rfl dX0_remove_15 ?_
        refine lv_icmp_ge (tgt := 63) hx hb dX0_remove_18 (by decide) (fun c_2 => ?_) (fun c_2 => ?_)
        · skip
          have nc_2 : k ≤ z + 1 := (nI_leI (a := k) (b := (z + 1)) (by omega) (by omega)).mp c_2
          have hz : z = k - 1 := by omega
          rw [hz] at hP hD
          refine lv_aload_n hx hb dX0_remove_63 rfl (lv_at hl 0 rfl) ?_
          refine lv_dup hx hb dX0_remove_64 rfl ?_
          refine va_get (D := D) (ci := 2) (v := .int (nI k)) (C := RX0) (T := TX0) (N := 4) hx hb hts (by decide +kernel) hown hK hP 0 rfl rfl 2 (by decide) (hts (.fieldLink RX0 21 "LandDeeds$Estate" "size" "I") (by decide +kernel)) (fun _ h9 => h9) rfl dX0_remove_65 ?_
          refine lv_iconst (v := 1) hx hb dX0_remove_68 (by decide) ?_
          refine lv_isub hx hb dX0_remove_69 ?_
          refine u_eqi (show (nI k) - 1 = nI (k - 1) from nI_sub1 (by omega)) ?_
          refine va_put (D := D) (ci := 2) (v := .int (nI (k - 1))) (ty := .int) (C := RX0) (T := TX0) (N := 4) hx hb hts (by decide +kernel) tyX0 tyX0_ok nmX0 hown hK hP hD hS 0 rfl rfl 2 (by decide) (hts (.fieldLink RX0 21 "LandDeeds$Estate" "size" "I") (by decide +kernel)) (fun _ h9 => h9) rfl (by decide +kernel) rfl rfl (Nat.le_of_ble_eq_true rfl) dX0_remove_70 (fun H locs hP hD hS => ?_)
          have hP : va_P D vwCl [(h0, .inr (2, [.ref ap, .ref ay, .int (nI (k - 1)), .int lo])), (ap, .inl (cP, 6, .inr (.inr (.inr (.inr (shf fp j (k - 1))))))), (ay, .inl (cI, 6, .inl (shf yr j (k - 1))))] H := hP
          have hD : va_D A [(h0, .inr (2, [.ref ap, .ref ay, .int (nI (k - 1)), .int lo])), (ap, .inl (cP, 6, .inr (.inr (.inr (.inr (shf fp j (k - 1))))))), (ay, .inl (cI, 6, .inl (shf yr j (k - 1))))] := hD
          rw [← hQ]
          have hP9 := hP
          have hD9 := hD
          exact W.vret hx hb hr (fun t ht hW => ⟨⟨(), rfl, trivial, by rw [ht]; exact hP9, hD9⟩, hS.F ht⟩) hS.2.2 dX0_remove_73
        · skip
          have nc_2 : ¬ (k ≤ z + 1) := fun h => c_2 ((nI_leI (a := k) (b := (z + 1)) (by omega) (by omega)).mpr h)
          refine lv_iload_n hx hb dX0_remove_21 rfl (lv_at hl 1 rfl) ?_
          refine lv_iconst (v := 1) hx hb dX0_remove_22 (by decide) ?_
          refine lv_iadd hx hb dX0_remove_23 ?_
          refine u_eqi (show (nI z) + 1 = nI (z + 1) from nI_1 z) ?_
          refine lv_bipush (v := 6) hx hb dX0_remove_24 (by decide) ?_
          refine lv_icmp_ge (tgt := 63) hx hb dX0_remove_26 (by decide) (fun c_3 => ?_) (fun c_3 => ?_)
          · skip
            have nc_3 : 6 ≤ z + 1 := (nI_leI (a := 6) (b := (z + 1)) (by omega) (by omega)).mp c_3
            exact absurd nc_3 (by omega)
          · skip
            have nc_3 : ¬ (6 ≤ z + 1) := fun h => c_3 ((nI_leI (a := 6) (b := (z + 1)) (by omega) (by omega)).mpr h)
            refine lv_aload_n hx hb dX0_remove_29 rfl (lv_at hl 0 rfl) ?_
            refine va_get (D := D) (ci := 2) (v := .ref ap) (C := RX0) (T := TX0) (N := 4) hx hb hts (by decide +kernel) hown hK hP 0 rfl rfl 0 (by decide) (hts (.fieldLink RX0 11 "LandDeeds$Estate" "plots" "[LLandDeeds$Plot;") (by decide +kernel)) (fun _ h9 => h9) rfl dX0_remove_30 ?_
            refine lv_iload_n hx hb dX0_remove_33 rfl (lv_at hl 1 rfl) ?_
            refine lv_aload_n hx hb dX0_remove_34 rfl (lv_at hl 0 rfl) ?_
            refine va_get (D := D) (ci := 2) (v := .ref ap) (C := RX0) (T := TX0) (N := 4) hx hb hts (by decide +kernel) hown hK hP 0 rfl rfl 0 (by decide) (hts (.fieldLink RX0 11 "LandDeeds$Estate" "plots" "[LLandDeeds$Plot;") (by decide +kernel)) (fun _ h9 => h9) rfl dX0_remove_35 ?_
            refine lv_iload_n hx hb dX0_remove_38 rfl (lv_at hl 1 rfl) ?_
            refine lv_iconst (v := 1) hx hb dX0_remove_39 (by decide) ?_
            refine lv_iadd hx hb dX0_remove_40 ?_
            refine u_eqi (show (nI z) + 1 = nI (z + 1) from nI_1 z) ?_
            refine u_aldo hx hb hK hP 1 3 rfl rfl rfl ⟨by omega, by omega⟩ dX0_remove_41 ?_
            refine u_asto (o := (shf fp j z) (z + 1)) hx hb hK hP hD hS 1 3 rfl rfl rfl ⟨by omega, by omega⟩ (fun v hv => any_plot hK ((hE _ hS.2.1) (z + 1) (by omega) v (by rw [← hv, shf_at])).choose_spec) dX0_remove_42 (fun H locs hP hD hS => ?_)
            have hP : va_P D vwCl [(h0, .inr (2, [.ref ap, .ref ay, .int (nI k), .int lo])), (ap, .inl (cP, 6, .inr (.inr (.inr (.inr (va_up (shf fp j z) z ((shf fp j z) (z + 1)))))))), (ay, .inl (cI, 6, .inl (shf yr j z)))] H := hP
            have hD : va_D A [(h0, .inr (2, [.ref ap, .ref ay, .int (nI k), .int lo])), (ap, .inl (cP, 6, .inr (.inr (.inr (.inr (va_up (shf fp j z) z ((shf fp j z) (z + 1)))))))), (ay, .inl (cI, 6, .inl (shf yr j z)))] := hD
            rw [show (va_up (shf fp j z) z ((shf fp j z) (z + 1))) = shf fp j (z + 1) from by rw [shf_at]; exact shf_vu fp hz1] at hP hD
            refine lv_aload_n hx hb dX0_remove_43 rfl (lv_at hl 0 rfl) ?_
            refine va_get (D := D) (ci := 2) (v := .ref ay) (C := RX0) (T := TX0) (N := 4) hx hb hts (by decide +kernel) hown hK hP 0 rfl rfl 1 (by decide) (hts (.fieldLink RX0 17 "LandDeeds$Estate" "years" "[I") (by decide +kernel)) (fun _ h9 => h9) rfl dX0_remove_44 ?_
            refine lv_iload_n hx hb dX0_remove_47 rfl (lv_at hl 1 rfl) ?_
            refine lv_aload_n hx hb dX0_remove_48 rfl (lv_at hl 0 rfl) ?_
            refine va_get (D := D) (ci := 2) (v := .ref ay) (C := RX0) (T := TX0) (N := 4) hx hb hts (by decide +kernel) hown hK hP 0 rfl rfl 1 (by decide) (hts (.fieldLink RX0 17 "LandDeeds$Estate" "years" "[I") (by decide +kernel)) (fun _ h9 => h9) rfl dX0_remove_49 ?_
            refine lv_iload_n hx hb dX0_remove_52 rfl (lv_at hl 1 rfl) ?_
            refine lv_iconst (v := 1) hx hb dX0_remove_53 (by decide) ?_
            refine lv_iadd hx hb dX0_remove_54 ?_
            refine u_eqi (show (nI z) + 1 = nI (z + 1) from nI_1 z) ?_
            refine u_iald hx hb hK hP 2 0 rfl rfl rfl ⟨by omega, by omega⟩ dX0_remove_55 ?_
            refine u_eqi (show (shf yr j z) (z + 1) = yr (z + 1) from shf_at yr j z) ?_
            refine u_iast hx hb hK hP hD hS 2 0 rfl rfl rfl ⟨by omega, by omega⟩ dX0_remove_56 (fun H locs hP hD hS => ?_)
            have hP : va_P D vwCl [(h0, .inr (2, [.ref ap, .ref ay, .int (nI k), .int lo])), (ap, .inl (cP, 6, .inr (.inr (.inr (.inr (shf fp j (z + 1))))))), (ay, .inl (cI, 6, .inl (upd (shf yr j z) z (yr (z + 1)))))] H := hP
            have hD : va_D A [(h0, .inr (2, [.ref ap, .ref ay, .int (nI k), .int lo])), (ap, .inl (cP, 6, .inr (.inr (.inr (.inr (shf fp j (z + 1))))))), (ay, .inl (cI, 6, .inl (upd (shf yr j z) z (yr (z + 1)))))] := hD
            rw [show (upd (shf yr j z) z (yr (z + 1))) = shf yr j (z + 1) from shf_up yr hz1] at hP hD
            refine lv_iinc (v := nI (z + 1)) (lv' := [(2, .int (nI (z + 1))), (0, .ref h0)]) hx hb dX0_remove_57 hl (k := 1) rfl (nI_1 _) (by decide) rfl (fun ls hl => ?_)
            refine lv_goto (tgt := 11) hx hb dX0_remove_60 (by decide) ?_
            exact ih_11 (z + 1) (by omega) (by omega) (by omega) _ _ hP hD hS ls (lv_sub hl [1, 0] rfl)
    exact LOOP_11 (k - j + 1) j (Nat.le_refl _) (hj) (Nat.lt_succ_self _) _ _ hP hD hS ls (lv_sub hl [1, 0] rfl)
  · skip
    have nc_1 := zb_eq0.mp c_1
    exact absurd (show 0 ≤ (nI j).toInt ∧ (nI j).toInt < k by rw [nI_toInt (by omega)]; omega) nc_1

set_option maxHeartbeats 4000000 in
set_option maxRecDepth 100000 in
theorem c_X0_become (l : Launch) (D : va_G) (cI cB cZ cP : ClassId) (sz : Nat) (h0 ap ay : Nat) (k : Nat) (lo : Int32) (yr : Nat → Int32) (fp : Nat → Option Nat) (h1 bp bey : Nat) (k2 : Nat) (lo2 : Int32) (yr2 : Nat → Int32) (fp2 : Nat → Option Nat) : Met l yX0_become wsX0_become ({ frames := 0, cells := 0, slots := 0, locals := 0 } : Room) (va_Pc [.ref h0, .ref h1] (fun U => U.heap.size = sz ∧ va_P D vwCl [(h0, .inr (2, [.ref ap, .ref ay, .int (nI k), .int lo])), (ap, .inl (cP, 6, .inr (.inr (.inr (.inr fp))))), (ay, .inl (cI, 6, .inl yr)), (h1, .inr (2, [.ref bp, .ref bey, .int (nI k2), .int lo2])), (bp, .inl (cP, 6, .inr (.inr (.inr (.inr fp2))))), (bey, .inl (cI, 6, .inl yr2))] U.heap ∧ KW D cI cB cZ cP U ∧ va_D (fun _ => True) [(h0, .inr (2, [.ref ap, .ref ay, .int (nI k), .int lo])), (ap, .inl (cP, 6, .inr (.inr (.inr (.inr fp))))), (ay, .inl (cI, 6, .inl yr)), (h1, .inr (2, [.ref bp, .ref bey, .int (nI k2), .int lo2])), (bp, .inl (cP, 6, .inr (.inr (.inr (.inr fp2))))), (bey, .inl (cI, 6, .inl yr2))] ∧ EF [(h0, .inr (2, [.ref ap, .ref ay, .int (nI k), .int lo])), (ap, .inl (cP, 6, .inr (.inr (.inr (.inr fp))))), (ay, .inl (cI, 6, .inl yr)), (h1, .inr (2, [.ref bp, .ref bey, .int (nI k2), .int lo2])), (bp, .inl (cP, 6, .inr (.inr (.inr (.inr fp2))))), (bey, .inl (cI, 6, .inl yr2))] sz (EP D fp2) U.heap)) (va_Qv (fun (_ : Unit) => True) (fun (_ : Unit) (t : State) => va_P D vwCl [(h0, .inr (2, [.ref ap, .ref ay, .int (nI k2), .int lo2])), (ap, .inl (cP, 6, .inr (.inr (.inr (.inr (cpy fp2 fp 6)))))), (ay, .inl (cI, 6, .inl (cpy yr2 yr 6))), (h1, .inr (2, [.ref bp, .ref bey, .int (nI k2), .int lo2])), (bp, .inl (cP, 6, .inr (.inr (.inr (.inr fp2))))), (bey, .inl (cI, 6, .inl yr2))] t.heap ∧ va_D (va_A [(h0, .inr (2, [.ref ap, .ref ay, .int (nI k), .int lo])), (ap, .inl (cP, 6, .inr (.inr (.inr (.inr fp))))), (ay, .inl (cI, 6, .inl yr)), (h1, .inr (2, [.ref bp, .ref bey, .int (nI k2), .int lo2])), (bp, .inl (cP, 6, .inr (.inr (.inr (.inr fp2))))), (bey, .inl (cI, 6, .inl yr2))] sz) [(h0, .inr (2, [.ref ap, .ref ay, .int (nI k2), .int lo2])), (ap, .inl (cP, 6, .inr (.inr (.inr (.inr (cpy fp2 fp 6)))))), (ay, .inl (cI, 6, .inl (cpy yr2 yr 6))), (h1, .inr (2, [.ref bp, .ref bey, .int (nI k2), .int lo2])), (bp, .inl (cP, 6, .inr (.inr (.inr (.inr fp2))))), (bey, .inl (cI, 6, .inl yr2))]) (va_A [(h0, .inr (2, [.ref ap, .ref ay, .int (nI k), .int lo])), (ap, .inl (cP, 6, .inr (.inr (.inr (.inr fp))))), (ay, .inl (cI, 6, .inl yr)), (h1, .inr (2, [.ref bp, .ref bey, .int (nI k2), .int lo2])), (bp, .inl (cP, 6, .inr (.inr (.inr (.inr fp2))))), (bey, .inl (cI, 6, .inl yr2))] sz)) 0 0 (va_A [(h0, .inr (2, [.ref ap, .ref ay, .int (nI k), .int lo])), (ap, .inl (cP, 6, .inr (.inr (.inr (.inr fp))))), (ay, .inl (cI, 6, .inl yr)), (h1, .inr (2, [.ref bp, .ref bey, .int (nI k2), .int lo2])), (bp, .inl (cP, 6, .inr (.inr (.inr (.inr fp2))))), (bey, .inl (cI, 6, .inl yr2))] sz) := by
  refine Met.ofW (cc := cX0_become) (maxL := 3) (ret := none) (by decide) rfl ?_
  intro p e s m args below meth c s₁ B hml hv
  obtain ⟨rfl, hsz, hP, hW0, hD0, hE⟩ := hv
  have hx := B.exec
  have hb := B.bytes
  have hr := B.returns
  have hts := atoms_spec (ws := wsX0_become) B.pre
  have hown : s.vm.findClass RX0 = some m.cls := findClass_of_methodNamed B.named
  have hlocks := B.notSynchronized
  have hK := hW0.1
  subst hsz
  have hD := hD0.self (sz := s.heap.size)
  unfold EF at hE
  generalize hAe : va_A [(h0, .inr (2, [.ref ap, .ref ay, .int (nI k), .int lo])), (ap, .inl (cP, 6, .inr (.inr (.inr (.inr fp))))), (ay, .inl (cI, 6, .inl yr)), (h1, .inr (2, [.ref bp, .ref bey, .int (nI k2), .int lo2])), (bp, .inl (cP, 6, .inr (.inr (.inr (.inr fp2))))), (bey, .inl (cI, 6, .inl yr2))] s.heap.size = A at hD hE ⊢
  have hA : ∀ q : Nat, s.heap.size ≤ q → A q := fun q h => by rw [← hAe]; exact Or.inr h
  have hS : va_S A s.heap s.heap [] := va_S.rf
  have hl := lv_entry ([.ref h0, .ref h1]) (n := 3) (Nat.le_of_ble_eq_true rfl)
  rw [lg_entry_eq]
  generalize (lg_sl ([.ref h0, .ref h1]) ++ List.replicate (3 - (lg_sl ([.ref h0, .ref h1])).length) Slot.unset).toArray = ls at hl ⊢
  have hl : lv_has ls 3 [(0, .ref h0), (1, .ref h1)] := hl
  show W p l e ({ frames := 0, cells := 0, slots := 0, locals := 0 } : Room) s m ([.ref h0, .ref h1] : List Value).toArray below meth c s.heap [] 0 0 _ (F0 m 0 ls [])
  refine u_genQ (fun Q hQ => ?_)
  rw [← cpy_0 fp2 fp, ← cpy_0 yr2 yr] at hP hD
  refine lv_iconst (v := 0) hx hb dX0_become_0 (by decide) ?_
  refine lv_istore_n (lv' := [(2, .int 0), (0, .ref h0), (1, .ref h1)]) hx hb dX0_become_1 rfl hl (by decide) rfl (fun ls hl => ?_)
  have LOOP_2 : ∀ (fu : Nat) (z : Nat) (hz : z ≤ 6) (hn : 6 - z < fu) (H : Heap) (locs : List Loc) (hP : va_P D vwCl [(h0, .inr (2, [.ref ap, .ref ay, .int (nI k), .int lo])), (ap, .inl (cP, 6, .inr (.inr (.inr (.inr (cpy fp2 fp z)))))), (ay, .inl (cI, 6, .inl (cpy yr2 yr z))), (h1, .inr (2, [.ref bp, .ref bey, .int (nI k2), .int lo2])), (bp, .inl (cP, 6, .inr (.inr (.inr (.inr fp2))))), (bey, .inl (cI, 6, .inl yr2))] H) (hD : va_D A [(h0, .inr (2, [.ref ap, .ref ay, .int (nI k), .int lo])), (ap, .inl (cP, 6, .inr (.inr (.inr (.inr (cpy fp2 fp z)))))), (ay, .inl (cI, 6, .inl (cpy yr2 yr z))), (h1, .inr (2, [.ref bp, .ref bey, .int (nI k2), .int lo2])), (bp, .inl (cP, 6, .inr (.inr (.inr (.inr fp2))))), (bey, .inl (cI, 6, .inl yr2))]) (hS : va_S A s.heap H locs) (ls : Array Slot) (hl : lv_has ls 3 [(0, .ref h0), (1, .ref h1), (2, .int (nI z))]), W p l e ({ frames := 0, cells := 0, slots := 0, locals := 0 } : Room) s m ([.ref h0, .ref h1] : List Value).toArray below meth c H locs 0 0 Q (F0 m 2 ls []) := by
    intro fu
    induction fu with
    | zero => intro z hz hn H locs hP hD hS ls hl; exact absurd hn (Nat.not_lt_zero _)
    | succ fu ih_2 =>
      intro z hz hn H locs hP hD hS ls hl
      refine lv_iload_n hx hb dX0_become_2 rfl (lv_at hl 2 rfl) ?_
      refine lv_bipush (v := 6) hx hb dX0_become_3 (by decide) ?_
      refine lv_icmp_ge (tgt := 38) hx hb dX0_become_5 (by decide) (fun c_1 => ?_) (fun c_1 => ?_)
      · skip
        have nc_1 : 6 ≤ z := (nI_leI (a := 6) (b := z) (by omega) (by omega)).mp c_1
        have hz6 : z = 6 := by omega
        rw [hz6] at hP hD
        refine lv_aload_n hx hb dX0_become_38 rfl (lv_at hl 0 rfl) ?_
        refine lv_aload_n hx hb dX0_become_39 rfl (lv_at hl 1 rfl) ?_
        refine va_get (D := D) (ci := 2) (v := .int (nI k2)) (C := RX0) (T := TX0) (N := 4) hx hb hts (by decide +kernel) hown hK hP 3 rfl rfl 2 (by decide) (hts (.fieldLink RX0 21 "LandDeeds$Estate" "size" "I") (by decide +kernel)) (fun _ h9 => h9) rfl dX0_become_40 ?_
        refine va_put (D := D) (ci := 2) (v := .int (nI k2)) (ty := .int) (C := RX0) (T := TX0) (N := 4) hx hb hts (by decide +kernel) tyX0 tyX0_ok nmX0 hown hK hP hD hS 0 rfl rfl 2 (by decide) (hts (.fieldLink RX0 21 "LandDeeds$Estate" "size" "I") (by decide +kernel)) (fun _ h9 => h9) rfl (by decide +kernel) rfl rfl (Nat.le_of_ble_eq_true rfl) dX0_become_43 (fun H locs hP hD hS => ?_)
        have hP : va_P D vwCl [(h0, .inr (2, [.ref ap, .ref ay, .int (nI k2), .int lo])), (ap, .inl (cP, 6, .inr (.inr (.inr (.inr (cpy fp2 fp 6)))))), (ay, .inl (cI, 6, .inl (cpy yr2 yr 6))), (h1, .inr (2, [.ref bp, .ref bey, .int (nI k2), .int lo2])), (bp, .inl (cP, 6, .inr (.inr (.inr (.inr fp2))))), (bey, .inl (cI, 6, .inl yr2))] H := hP
        have hD : va_D A [(h0, .inr (2, [.ref ap, .ref ay, .int (nI k2), .int lo])), (ap, .inl (cP, 6, .inr (.inr (.inr (.inr (cpy fp2 fp 6)))))), (ay, .inl (cI, 6, .inl (cpy yr2 yr 6))), (h1, .inr (2, [.ref bp, .ref bey, .int (nI k2), .int lo2])), (bp, .inl (cP, 6, .inr (.inr (.inr (.inr fp2))))), (bey, .inl (cI, 6, .inl yr2))] := hD
        refine lv_aload_n hx hb dX0_become_46 rfl (lv_at hl 0 rfl) ?_
        refine lv_aload_n hx hb dX0_become_47 rfl (lv_at hl 1 rfl) ?_
        refine va_get (D := D) (ci := 2) (v := .int lo2) (C := RX0) (T := TX0) (N := 4) hx hb hts (by decide +kernel) hown hK hP 3 rfl rfl 3 (by decide) (hts (.fieldLink RX0 29 "LandDeeds$Estate" "loose" "I") (by decide +kernel)) (fun _ h9 => h9) rfl dX0_become_48 ?_
        refine va_put (D := D) (ci := 2) (v := .int lo2) (ty := .int) (C := RX0) (T := TX0) (N := 4) hx hb hts (by decide +kernel) tyX0 tyX0_ok nmX0 hown hK hP hD hS 0 rfl rfl 3 (by decide) (hts (.fieldLink RX0 29 "LandDeeds$Estate" "loose" "I") (by decide +kernel)) (fun _ h9 => h9) rfl (by decide +kernel) rfl rfl (Nat.le_of_ble_eq_true rfl) dX0_become_51 (fun H locs hP hD hS => ?_)
        have hP : va_P D vwCl [(h0, .inr (2, [.ref ap, .ref ay, .int (nI k2), .int lo2])), (ap, .inl (cP, 6, .inr (.inr (.inr (.inr (cpy fp2 fp 6)))))), (ay, .inl (cI, 6, .inl (cpy yr2 yr 6))), (h1, .inr (2, [.ref bp, .ref bey, .int (nI k2), .int lo2])), (bp, .inl (cP, 6, .inr (.inr (.inr (.inr fp2))))), (bey, .inl (cI, 6, .inl yr2))] H := hP
        have hD : va_D A [(h0, .inr (2, [.ref ap, .ref ay, .int (nI k2), .int lo2])), (ap, .inl (cP, 6, .inr (.inr (.inr (.inr (cpy fp2 fp 6)))))), (ay, .inl (cI, 6, .inl (cpy yr2 yr 6))), (h1, .inr (2, [.ref bp, .ref bey, .int (nI k2), .int lo2])), (bp, .inl (cP, 6, .inr (.inr (.inr (.inr fp2))))), (bey, .inl (cI, 6, .inl yr2))] := hD
        rw [← hQ]
        have hP9 := hP
        have hD9 := hD
        exact W.vret hx hb hr (fun t ht hW => ⟨⟨(), rfl, trivial, by rw [ht]; exact hP9, hD9⟩, hS.F ht⟩) hS.2.2 dX0_become_54
      · skip
        have nc_1 : ¬ (6 ≤ z) := fun h => c_1 ((nI_leI (a := 6) (b := z) (by omega) (by omega)).mpr h)
        refine lv_aload_n hx hb dX0_become_8 rfl (lv_at hl 0 rfl) ?_
        refine va_get (D := D) (ci := 2) (v := .ref ap) (C := RX0) (T := TX0) (N := 4) hx hb hts (by decide +kernel) hown hK hP 0 rfl rfl 0 (by decide) (hts (.fieldLink RX0 11 "LandDeeds$Estate" "plots" "[LLandDeeds$Plot;") (by decide +kernel)) (fun _ h9 => h9) rfl dX0_become_9 ?_
        refine lv_iload_n hx hb dX0_become_12 rfl (lv_at hl 2 rfl) ?_
        refine lv_aload_n hx hb dX0_become_13 rfl (lv_at hl 1 rfl) ?_
        refine va_get (D := D) (ci := 2) (v := .ref bp) (C := RX0) (T := TX0) (N := 4) hx hb hts (by decide +kernel) hown hK hP 3 rfl rfl 0 (by decide) (hts (.fieldLink RX0 11 "LandDeeds$Estate" "plots" "[LLandDeeds$Plot;") (by decide +kernel)) (fun _ h9 => h9) rfl dX0_become_14 ?_
        refine lv_iload_n hx hb dX0_become_17 rfl (lv_at hl 2 rfl) ?_
        refine u_aldo hx hb hK hP 4 3 rfl rfl rfl ⟨by omega, by omega⟩ dX0_become_18 ?_
        refine u_asto (o := fp2 z) hx hb hK hP hD hS 1 3 rfl rfl rfl ⟨by omega, by omega⟩ (fun v hv => any_plot hK ((hE _ hS.2.1) z (by omega) v hv).choose_spec) dX0_become_19 (fun H locs hP hD hS => ?_)
        have hP : va_P D vwCl [(h0, .inr (2, [.ref ap, .ref ay, .int (nI k), .int lo])), (ap, .inl (cP, 6, .inr (.inr (.inr (.inr (va_up (cpy fp2 fp z) z (fp2 z))))))), (ay, .inl (cI, 6, .inl (cpy yr2 yr z))), (h1, .inr (2, [.ref bp, .ref bey, .int (nI k2), .int lo2])), (bp, .inl (cP, 6, .inr (.inr (.inr (.inr fp2))))), (bey, .inl (cI, 6, .inl yr2))] H := hP
        have hD : va_D A [(h0, .inr (2, [.ref ap, .ref ay, .int (nI k), .int lo])), (ap, .inl (cP, 6, .inr (.inr (.inr (.inr (va_up (cpy fp2 fp z) z (fp2 z))))))), (ay, .inl (cI, 6, .inl (cpy yr2 yr z))), (h1, .inr (2, [.ref bp, .ref bey, .int (nI k2), .int lo2])), (bp, .inl (cP, 6, .inr (.inr (.inr (.inr fp2))))), (bey, .inl (cI, 6, .inl yr2))] := hD
        rw [show (va_up (cpy fp2 fp z) z (fp2 z)) = cpy fp2 fp (z + 1) from cpy_vu _ _ _] at hP hD
        refine lv_aload_n hx hb dX0_become_20 rfl (lv_at hl 0 rfl) ?_
        refine va_get (D := D) (ci := 2) (v := .ref ay) (C := RX0) (T := TX0) (N := 4) hx hb hts (by decide +kernel) hown hK hP 0 rfl rfl 1 (by decide) (hts (.fieldLink RX0 17 "LandDeeds$Estate" "years" "[I") (by decide +kernel)) (fun _ h9 => h9) rfl dX0_become_21 ?_
        refine lv_iload_n hx hb dX0_become_24 rfl (lv_at hl 2 rfl) ?_
        refine lv_aload_n hx hb dX0_become_25 rfl (lv_at hl 1 rfl) ?_
        refine va_get (D := D) (ci := 2) (v := .ref bey) (C := RX0) (T := TX0) (N := 4) hx hb hts (by decide +kernel) hown hK hP 3 rfl rfl 1 (by decide) (hts (.fieldLink RX0 17 "LandDeeds$Estate" "years" "[I") (by decide +kernel)) (fun _ h9 => h9) rfl dX0_become_26 ?_
        refine lv_iload_n hx hb dX0_become_29 rfl (lv_at hl 2 rfl) ?_
        refine u_iald hx hb hK hP 5 0 rfl rfl rfl ⟨by omega, by omega⟩ dX0_become_30 ?_
        refine u_iast hx hb hK hP hD hS 2 0 rfl rfl rfl ⟨by omega, by omega⟩ dX0_become_31 (fun H locs hP hD hS => ?_)
        have hP : va_P D vwCl [(h0, .inr (2, [.ref ap, .ref ay, .int (nI k), .int lo])), (ap, .inl (cP, 6, .inr (.inr (.inr (.inr (cpy fp2 fp (z + 1))))))), (ay, .inl (cI, 6, .inl (upd (cpy yr2 yr z) z (yr2 z)))), (h1, .inr (2, [.ref bp, .ref bey, .int (nI k2), .int lo2])), (bp, .inl (cP, 6, .inr (.inr (.inr (.inr fp2))))), (bey, .inl (cI, 6, .inl yr2))] H := hP
        have hD : va_D A [(h0, .inr (2, [.ref ap, .ref ay, .int (nI k), .int lo])), (ap, .inl (cP, 6, .inr (.inr (.inr (.inr (cpy fp2 fp (z + 1))))))), (ay, .inl (cI, 6, .inl (upd (cpy yr2 yr z) z (yr2 z)))), (h1, .inr (2, [.ref bp, .ref bey, .int (nI k2), .int lo2])), (bp, .inl (cP, 6, .inr (.inr (.inr (.inr fp2))))), (bey, .inl (cI, 6, .inl yr2))] := hD
        rw [show (upd (cpy yr2 yr z) z (yr2 z)) = cpy yr2 yr (z + 1) from cpy_up _ _ _] at hP hD
        refine lv_iinc (v := nI (z + 1)) (lv' := [(2, .int (nI (z + 1))), (0, .ref h0), (1, .ref h1)]) hx hb dX0_become_32 hl (k := 2) rfl (nI_1 _) (by decide) rfl (fun ls hl => ?_)
        refine lv_goto (tgt := 2) hx hb dX0_become_35 (by decide) ?_
        exact ih_2 (z + 1) (by omega) (by omega) _ _ hP hD hS ls (lv_sub hl [1, 2, 0] rfl)
  exact LOOP_2 (6 - 0 + 1) 0 (Nat.zero_le _) (Nat.lt_succ_self _) _ _ hP hD hS ls (lv_sub hl [1, 2, 0] rfl)

set_option maxHeartbeats 4000000 in
set_option maxRecDepth 100000 in
theorem c_X3_init (l : Launch) (D : va_G) (cI cB cZ cP : ClassId) (sz : Nat) (h0 : Nat) : Met l yX3_init wsX3_init ({ frames := 1, cells := 0, slots := 0, locals := 12 } : Room) (va_Pc [.ref h0] (fun U => U.heap.size = sz ∧ va_P D vwCl [(h0, .inr (5, [.long 0, .long 0]))] U.heap ∧ KW D cI cB cZ cP U ∧ va_D (fun _ => True) [(h0, .inr (5, [.long 0, .long 0]))] ∧ EF [(h0, .inr (5, [.long 0, .long 0]))] sz E0 U.heap)) (va_Qv (fun (_ : Unit) => True) (fun (_ : Unit) (t : State) => va_P D vwCl [(h0, .inr (5, [.long 0, .long 1]))] t.heap ∧ va_D (va_A [(h0, .inr (5, [.long 0, .long 0]))] sz) [(h0, .inr (5, [.long 0, .long 1]))]) (va_A [(h0, .inr (5, [.long 0, .long 0]))] sz)) 0 0 (va_A [(h0, .inr (5, [.long 0, .long 0]))] sz) := by
  refine Met.ofW (cc := cX3_init) (maxL := 1) (ret := none) (by decide) rfl ?_
  intro p e s m args below meth c s₁ B hml hv
  obtain ⟨rfl, hsz, hP, hW0, hD0, hE⟩ := hv
  have hx := B.exec
  have hb := B.bytes
  have hr := B.returns
  have hts := atoms_spec (ws := wsX3_init) B.pre
  have hown : s.vm.findClass RX3 = some m.cls := findClass_of_methodNamed B.named
  have hlocks := B.notSynchronized
  have hK := hW0.1
  have hin : meth.name = "<init>" := (name_of_methodNamed B.named B.method).1
  subst hsz
  have hD := hD0.self (sz := s.heap.size)
  unfold EF at hE
  generalize hAe : va_A [(h0, .inr (5, [.long 0, .long 0]))] s.heap.size = A at hD hE ⊢
  have hA : ∀ q : Nat, s.heap.size ≤ q → A q := fun q h => by rw [← hAe]; exact Or.inr h
  have hS : va_S A s.heap s.heap [] := va_S.rf
  have hl := lv_entry ([.ref h0]) (n := 1) (Nat.le_of_ble_eq_true rfl)
  rw [lg_entry_eq]
  generalize (lg_sl ([.ref h0]) ++ List.replicate (1 - (lg_sl ([.ref h0])).length) Slot.unset).toArray = ls at hl ⊢
  have hl : lv_has ls 1 [(0, .ref h0)] := hl
  show W p l e ({ frames := 1, cells := 0, slots := 0, locals := 12 } : Room) s m ([.ref h0] : List Value).toArray below meth c s.heap [] 0 0 _ (F0 m 0 ls [])
  refine u_genQ (fun Q hQ => ?_)
  refine lv_aload_n hx hb dX3_init_0 rfl (lv_at hl 0 rfl) ?_
  refine W.objInit hx hb hown (hts (.methodLink RX3 1 objectInit) (by decide +kernel)) (hts (.instanceMethod objectInit) (by decide +kernel)) (hts (.code objectInit ⟨#[0xb1]⟩ 1 none) (by decide +kernel)) rfl (by rw [hml]; exact hl.1) rfl dX3_init_1 (Nat.le_of_ble_eq_true rfl) (Nat.le_of_ble_eq_true rfl) ?_
  refine W.eq (g2 := F0 m 4 ls []) rfl ?_
  refine lv_aload_n hx hb dX3_init_4 rfl (lv_at hl 0 rfl) ?_
  refine lv_lconst (v := 1) hx hb dX3_init_5 (by decide) ?_
  refine va_put (D := D) (ci := 5) (v := .long 1) (ty := .long) (C := RX3) (T := TX3) (N := 2) hx hb hts (by decide +kernel) tyX3 tyX3_ok nmX3 hown hK hP hD hS 0 rfl rfl 1 (by decide) (hts (.fieldLink RX3 7 "LandDeeds$Ratio" "lower" "J") (by decide +kernel)) (fun _ h9 => h9) rfl (by decide +kernel) rfl rfl (Nat.le_of_ble_eq_true rfl) dX3_init_6 (fun H locs hP hD hS => ?_)
  have hP : va_P D vwCl [(h0, .inr (5, [.long 0, .long 1]))] H := hP
  have hD : va_D A [(h0, .inr (5, [.long 0, .long 1]))] := hD
  rw [← hQ]
  have hP9 := hP
  have hD9 := hD
  exact W.vret hx hb hr (fun t ht hW => ⟨⟨(), rfl, trivial, by rw [ht]; exact hP9, hD9⟩, hS.F ht⟩) hS.2.2 dX3_init_9

set_option maxHeartbeats 4000000 in
set_option maxRecDepth 100000 in
theorem c_X3_clear (l : Launch) (D : va_G) (cI cB cZ cP : ClassId) (sz : Nat) (h0 : Nat) (u0 w0 : Int64) : Met l yX3_clear wsX3_clear ({ frames := 0, cells := 0, slots := 0, locals := 0 } : Room) (va_Pc [.ref h0] (fun U => U.heap.size = sz ∧ va_P D vwCl [(h0, .inr (5, [.long u0, .long w0]))] U.heap ∧ KW D cI cB cZ cP U ∧ va_D (fun _ => True) [(h0, .inr (5, [.long u0, .long w0]))] ∧ EF [(h0, .inr (5, [.long u0, .long w0]))] sz E0 U.heap)) (va_Qv (fun (_ : Unit) => True) (fun (_ : Unit) (t : State) => va_P D vwCl [(h0, .inr (5, [.long 0, .long 1]))] t.heap ∧ va_D (va_A [(h0, .inr (5, [.long u0, .long w0]))] sz) [(h0, .inr (5, [.long 0, .long 1]))]) (va_A [(h0, .inr (5, [.long u0, .long w0]))] sz)) 0 0 (va_A [(h0, .inr (5, [.long u0, .long w0]))] sz) := by
  refine Met.ofW (cc := cX3_clear) (maxL := 1) (ret := none) (by decide) rfl ?_
  intro p e s m args below meth c s₁ B hml hv
  obtain ⟨rfl, hsz, hP, hW0, hD0, hE⟩ := hv
  have hx := B.exec
  have hb := B.bytes
  have hr := B.returns
  have hts := atoms_spec (ws := wsX3_clear) B.pre
  have hown : s.vm.findClass RX3 = some m.cls := findClass_of_methodNamed B.named
  have hlocks := B.notSynchronized
  have hK := hW0.1
  subst hsz
  have hD := hD0.self (sz := s.heap.size)
  unfold EF at hE
  generalize hAe : va_A [(h0, .inr (5, [.long u0, .long w0]))] s.heap.size = A at hD hE ⊢
  have hA : ∀ q : Nat, s.heap.size ≤ q → A q := fun q h => by rw [← hAe]; exact Or.inr h
  have hS : va_S A s.heap s.heap [] := va_S.rf
  have hl := lv_entry ([.ref h0]) (n := 1) (Nat.le_of_ble_eq_true rfl)
  rw [lg_entry_eq]
  generalize (lg_sl ([.ref h0]) ++ List.replicate (1 - (lg_sl ([.ref h0])).length) Slot.unset).toArray = ls at hl ⊢
  have hl : lv_has ls 1 [(0, .ref h0)] := hl
  show W p l e ({ frames := 0, cells := 0, slots := 0, locals := 0 } : Room) s m ([.ref h0] : List Value).toArray below meth c s.heap [] 0 0 _ (F0 m 0 ls [])
  refine u_genQ (fun Q hQ => ?_)
  refine lv_aload_n hx hb dX3_clear_0 rfl (lv_at hl 0 rfl) ?_
  refine lv_lconst (v := 0) hx hb dX3_clear_1 (by decide) ?_
  refine va_put (D := D) (ci := 5) (v := .long 0) (ty := .long) (C := RX3) (T := TX3) (N := 2) hx hb hts (by decide +kernel) tyX3 tyX3_ok nmX3 hown hK hP hD hS 0 rfl rfl 0 (by decide) (hts (.fieldLink RX3 13 "LandDeeds$Ratio" "upper" "J") (by decide +kernel)) (fun _ h9 => h9) rfl (by decide +kernel) rfl rfl (Nat.le_of_ble_eq_true rfl) dX3_clear_2 (fun H locs hP hD hS => ?_)
  have hP : va_P D vwCl [(h0, .inr (5, [.long 0, .long w0]))] H := hP
  have hD : va_D A [(h0, .inr (5, [.long 0, .long w0]))] := hD
  refine lv_aload_n hx hb dX3_clear_5 rfl (lv_at hl 0 rfl) ?_
  refine lv_lconst (v := 1) hx hb dX3_clear_6 (by decide) ?_
  refine va_put (D := D) (ci := 5) (v := .long 1) (ty := .long) (C := RX3) (T := TX3) (N := 2) hx hb hts (by decide +kernel) tyX3 tyX3_ok nmX3 hown hK hP hD hS 0 rfl rfl 1 (by decide) (hts (.fieldLink RX3 7 "LandDeeds$Ratio" "lower" "J") (by decide +kernel)) (fun _ h9 => h9) rfl (by decide +kernel) rfl rfl (Nat.le_of_ble_eq_true rfl) dX3_clear_7 (fun H locs hP hD hS => ?_)
  have hP : va_P D vwCl [(h0, .inr (5, [.long 0, .long 1]))] H := hP
  have hD : va_D A [(h0, .inr (5, [.long 0, .long 1]))] := hD
  rw [← hQ]
  have hP9 := hP
  have hD9 := hD
  exact W.vret hx hb hr (fun t ht hW => ⟨⟨(), rfl, trivial, by rw [ht]; exact hP9, hD9⟩, hS.F ht⟩) hS.2.2 dX3_clear_10

set_option maxHeartbeats 4000000 in
set_option maxRecDepth 100000 in
theorem c_X3_dropSign (l : Launch) (D : va_G) (cI cB cZ cP : ClassId) (sz : Nat) (h0 : Nat) (u0 w0 : Int64) : Met l yX3_dropSign wsX3_dropSign ({ frames := 1, cells := 0, slots := 0, locals := 14 } : Room) (va_Pc [.ref h0] (fun U => U.heap.size = sz ∧ va_P D vwCl [(h0, .inr (5, [.long u0, .long w0]))] U.heap ∧ KW D cI cB cZ cP U ∧ va_D (fun _ => True) [(h0, .inr (5, [.long u0, .long w0]))] ∧ EF [(h0, .inr (5, [.long u0, .long w0]))] sz E0 U.heap)) (va_Qv (fun (_ : Unit) => True) (fun (_ : Unit) (t : State) => va_P D vwCl [(h0, .inr (5, [.long (abL u0), .long w0]))] t.heap ∧ va_D (va_A [(h0, .inr (5, [.long u0, .long w0]))] sz) [(h0, .inr (5, [.long (abL u0), .long w0]))]) (va_A [(h0, .inr (5, [.long u0, .long w0]))] sz)) 0 0 (va_A [(h0, .inr (5, [.long u0, .long w0]))] sz) := by
  refine Met.ofW (cc := cX3_dropSign) (maxL := 1) (ret := none) (by decide) rfl ?_
  intro p e s m args below meth c s₁ B hml hv
  obtain ⟨rfl, hsz, hP, hW0, hD0, hE⟩ := hv
  have hx := B.exec
  have hb := B.bytes
  have hr := B.returns
  have hts := atoms_spec (ws := wsX3_dropSign) B.pre
  have hown : s.vm.findClass RX3 = some m.cls := findClass_of_methodNamed B.named
  have hlocks := B.notSynchronized
  have hK := hW0.1
  subst hsz
  have hD := hD0.self (sz := s.heap.size)
  unfold EF at hE
  generalize hAe : va_A [(h0, .inr (5, [.long u0, .long w0]))] s.heap.size = A at hD hE ⊢
  have hA : ∀ q : Nat, s.heap.size ≤ q → A q := fun q h => by rw [← hAe]; exact Or.inr h
  have hS : va_S A s.heap s.heap [] := va_S.rf
  have hl := lv_entry ([.ref h0]) (n := 1) (Nat.le_of_ble_eq_true rfl)
  rw [lg_entry_eq]
  generalize (lg_sl ([.ref h0]) ++ List.replicate (1 - (lg_sl ([.ref h0])).length) Slot.unset).toArray = ls at hl ⊢
  have hl : lv_has ls 1 [(0, .ref h0)] := hl
  show W p l e ({ frames := 1, cells := 0, slots := 0, locals := 14 } : Room) s m ([.ref h0] : List Value).toArray below meth c s.heap [] 0 0 _ (F0 m 0 ls [])
  refine u_genQ (fun Q hQ => ?_)
  refine lv_aload_n hx hb dX3_dropSign_0 rfl (lv_at hl 0 rfl) ?_
  refine lv_aload_n hx hb dX3_dropSign_1 rfl (lv_at hl 0 rfl) ?_
  refine va_get (D := D) (ci := 5) (v := .long u0) (C := RX3) (T := TX3) (N := 2) hx hb hts (by decide +kernel) hown hK hP 0 rfl rfl 0 (by decide) (hts (.fieldLink RX3 13 "LandDeeds$Ratio" "upper" "J") (by decide +kernel)) (fun _ h9 => h9) rfl dX3_dropSign_2 ?_
  refine va_mabs_long hx hb (by rw [hml]; exact hl.1.symm) hown (hts (.methodLink RX3 16 Lib.MathLoose.abs_long.x) (by decide +kernel)) (hts (.static Lib.MathLoose.abs_long.x) (by decide +kernel)) (hts (.initialized "java/lang/Math") (by decide +kernel)) (hts (.code Lib.MathLoose.abs_long.x Lib.MathLoose.abs_long.code 2 (some .long)) (by decide +kernel)) (Nat.le_of_ble_eq_true rfl) (Nat.le_of_ble_eq_true rfl) (Nat.zero_le _) (Nat.zero_le _) dX3_dropSign_5 ?_
  refine va_put (D := D) (ci := 5) (v := .long (abL u0)) (ty := .long) (C := RX3) (T := TX3) (N := 2) hx hb hts (by decide +kernel) tyX3 tyX3_ok nmX3 hown hK hP hD hS 0 rfl rfl 0 (by decide) (hts (.fieldLink RX3 13 "LandDeeds$Ratio" "upper" "J") (by decide +kernel)) (fun _ h9 => h9) rfl (by decide +kernel) rfl rfl (Nat.le_of_ble_eq_true rfl) dX3_dropSign_8 (fun H locs hP hD hS => ?_)
  have hP : va_P D vwCl [(h0, .inr (5, [.long (abL u0), .long w0]))] H := hP
  have hD : va_D A [(h0, .inr (5, [.long (abL u0), .long w0]))] := hD
  rw [← hQ]
  have hP9 := hP
  have hD9 := hD
  exact W.vret hx hb hr (fun t ht hW => ⟨⟨(), rfl, trivial, by rw [ht]; exact hP9, hD9⟩, hS.F ht⟩) hS.2.2 dX3_dropSign_11

set_option maxHeartbeats 4000000 in
set_option maxRecDepth 100000 in
theorem c_X4_init (l : Launch) (D : va_G) (cI cB cZ cP : ClassId) (sz : Nat) (h0 : Nat) : Met l yX4_init wsX4_init ({ frames := 1, cells := 3, slots := 64, locals := 12 } : Room) (va_Pc [.ref h0] (fun U => U.heap.size = sz ∧ va_P D vwCl [(h0, .inr (6, [.null, .null, .null, .int 0, .int 0, .int 0, .int 0, .int 0]))] U.heap ∧ KW D cI cB cZ cP U ∧ va_D (fun _ => True) [(h0, .inr (6, [.null, .null, .null, .int 0, .int 0, .int 0, .int 0, .int 0]))] ∧ EF [(h0, .inr (6, [.null, .null, .null, .int 0, .int 0, .int 0, .int 0, .int 0]))] sz E0 U.heap)) (va_Qv (fun (u : Nat × Nat × Nat) => match u with | (q1, q2, q3) => True) (fun (u : Nat × Nat × Nat) (t : State) => match u with | (q1, q2, q3) => va_P D vwCl [(h0, .inr (6, [.ref q1, .ref q2, .ref q3, .int 0, .int 0, .int 0, .int 0, .int 0])), (q1, .inl (cI, 48, .inl (fun _ => 0))), (q2, .inl (cI, 8, .inl (fun _ => 0))), (q3, .inl (cI, 8, .inl (fun _ => 0)))] t.heap ∧ va_D (va_A [(h0, .inr (6, [.null, .null, .null, .int 0, .int 0, .int 0, .int 0, .int 0]))] sz) [(h0, .inr (6, [.ref q1, .ref q2, .ref q3, .int 0, .int 0, .int 0, .int 0, .int 0])), (q1, .inl (cI, 48, .inl (fun _ => 0))), (q2, .inl (cI, 8, .inl (fun _ => 0))), (q3, .inl (cI, 8, .inl (fun _ => 0)))]) (va_A [(h0, .inr (6, [.null, .null, .null, .int 0, .int 0, .int 0, .int 0, .int 0]))] sz)) 3 64 (va_A [(h0, .inr (6, [.null, .null, .null, .int 0, .int 0, .int 0, .int 0, .int 0]))] sz) := by
  refine Met.ofW (cc := cX4_init) (maxL := 1) (ret := none) (by decide) rfl ?_
  intro p e s m args below meth c s₁ B hml hv
  obtain ⟨rfl, hsz, hP, hW0, hD0, hE⟩ := hv
  have hx := B.exec
  have hb := B.bytes
  have hr := B.returns
  have hts := atoms_spec (ws := wsX4_init) B.pre
  have hown : s.vm.findClass RX4 = some m.cls := findClass_of_methodNamed B.named
  have hlocks := B.notSynchronized
  have hK := hW0.1
  have hin : meth.name = "<init>" := (name_of_methodNamed B.named B.method).1
  subst hsz
  have hD := hD0.self (sz := s.heap.size)
  unfold EF at hE
  generalize hAe : va_A [(h0, .inr (6, [.null, .null, .null, .int 0, .int 0, .int 0, .int 0, .int 0]))] s.heap.size = A at hD hE ⊢
  have hA : ∀ q : Nat, s.heap.size ≤ q → A q := fun q h => by rw [← hAe]; exact Or.inr h
  have hS : va_S A s.heap s.heap [] := va_S.rf
  have hl := lv_entry ([.ref h0]) (n := 1) (Nat.le_of_ble_eq_true rfl)
  rw [lg_entry_eq]
  generalize (lg_sl ([.ref h0]) ++ List.replicate (1 - (lg_sl ([.ref h0])).length) Slot.unset).toArray = ls at hl ⊢
  have hl : lv_has ls 1 [(0, .ref h0)] := hl
  show W p l e ({ frames := 1, cells := 3, slots := 64, locals := 12 } : Room) s m ([.ref h0] : List Value).toArray below meth c s.heap [] 0 0 _ (F0 m 0 ls [])
  refine u_genQ (fun Q hQ => ?_)
  refine lv_aload_n hx hb dX4_init_0 rfl (lv_at hl 0 rfl) ?_
  refine W.objInit hx hb hown (hts (.methodLink RX4 3 objectInit) (by decide +kernel)) (hts (.instanceMethod objectInit) (by decide +kernel)) (hts (.code objectInit ⟨#[0xb1]⟩ 1 none) (by decide +kernel)) rfl (by rw [hml]; exact hl.1) rfl dX4_init_1 (Nat.le_of_ble_eq_true rfl) (Nat.le_of_ble_eq_true rfl) ?_
  refine W.eq (g2 := F0 m 4 ls []) rfl ?_
  refine lv_aload_n hx hb dX4_init_4 rfl (lv_at hl 0 rfl) ?_
  refine lv_bipush (v := 48) hx hb dX4_init_5 (by decide) ?_
  refine u_newaI hx hb (hts (.arrayClass .int) (by decide +kernel)) hK 0 rfl hP hD hS hA (N := 48) rfl (by omega) (Nat.le_of_ble_eq_true rfl) (Nat.le_of_ble_eq_true rfl) dX4_init_7 (fun q_1 H hP hD hS => ?_)
  have hP : va_P D vwCl [(h0, .inr (6, [.null, .null, .null, .int 0, .int 0, .int 0, .int 0, .int 0])), (q_1, .inl (cI, 48, .inl (fun _ => 0)))] H := hP
  have hD : va_D A [(h0, .inr (6, [.null, .null, .null, .int 0, .int 0, .int 0, .int 0, .int 0])), (q_1, .inl (cI, 48, .inl (fun _ => 0)))] := hD
  refine va_putF (D := D) (ci := 6) (v := .ref q_1) (ty := .array .int) (C := RX4) (T := TX4) (N := 8) hx hb hts (by decide +kernel) tyX4 tyX4_ok nmX4 hown hK hP hD hS 0 rfl rfl 0 (by decide) (hts (.fieldLink RX4 9 "LandDeeds$Text" "signs" "[I") (by decide +kernel)) (fun _ h9 => h9) rfl hin rfl (by decide +kernel) rfl rfl (Nat.le_of_ble_eq_true rfl) dX4_init_9 (fun H locs hP hD hS => ?_)
  have hP : va_P D vwCl [(h0, .inr (6, [.ref q_1, .null, .null, .int 0, .int 0, .int 0, .int 0, .int 0])), (q_1, .inl (cI, 48, .inl (fun _ => 0)))] H := hP
  have hD : va_D A [(h0, .inr (6, [.ref q_1, .null, .null, .int 0, .int 0, .int 0, .int 0, .int 0])), (q_1, .inl (cI, 48, .inl (fun _ => 0)))] := hD
  refine lv_aload_n hx hb dX4_init_12 rfl (lv_at hl 0 rfl) ?_
  refine lv_bipush (v := 8) hx hb dX4_init_13 (by decide) ?_
  refine u_newaI hx hb (hts (.arrayClass .int) (by decide +kernel)) hK 0 rfl hP hD hS hA (N := 8) rfl (by omega) (Nat.le_of_ble_eq_true rfl) (Nat.le_of_ble_eq_true rfl) dX4_init_15 (fun q_2 H hP hD hS => ?_)
  have hP : va_P D vwCl [(h0, .inr (6, [.ref q_1, .null, .null, .int 0, .int 0, .int 0, .int 0, .int 0])), (q_1, .inl (cI, 48, .inl (fun _ => 0))), (q_2, .inl (cI, 8, .inl (fun _ => 0)))] H := hP
  have hD : va_D A [(h0, .inr (6, [.ref q_1, .null, .null, .int 0, .int 0, .int 0, .int 0, .int 0])), (q_1, .inl (cI, 48, .inl (fun _ => 0))), (q_2, .inl (cI, 8, .inl (fun _ => 0)))] := hD
  refine va_putF (D := D) (ci := 6) (v := .ref q_2) (ty := .array .int) (C := RX4) (T := TX4) (N := 8) hx hb hts (by decide +kernel) tyX4 tyX4_ok nmX4 hown hK hP hD hS 0 rfl rfl 1 (by decide) (hts (.fieldLink RX4 15 "LandDeeds$Text" "east" "[I") (by decide +kernel)) (fun _ h9 => h9) rfl hin rfl (by decide +kernel) rfl rfl (Nat.le_of_ble_eq_true rfl) dX4_init_17 (fun H locs hP hD hS => ?_)
  have hP : va_P D vwCl [(h0, .inr (6, [.ref q_1, .ref q_2, .null, .int 0, .int 0, .int 0, .int 0, .int 0])), (q_1, .inl (cI, 48, .inl (fun _ => 0))), (q_2, .inl (cI, 8, .inl (fun _ => 0)))] H := hP
  have hD : va_D A [(h0, .inr (6, [.ref q_1, .ref q_2, .null, .int 0, .int 0, .int 0, .int 0, .int 0])), (q_1, .inl (cI, 48, .inl (fun _ => 0))), (q_2, .inl (cI, 8, .inl (fun _ => 0)))] := hD
  refine lv_aload_n hx hb dX4_init_20 rfl (lv_at hl 0 rfl) ?_
  refine lv_bipush (v := 8) hx hb dX4_init_21 (by decide) ?_
  refine u_newaI hx hb (hts (.arrayClass .int) (by decide +kernel)) hK 0 rfl hP hD hS hA (N := 8) rfl (by omega) (Nat.le_of_ble_eq_true rfl) (Nat.le_of_ble_eq_true rfl) dX4_init_23 (fun q_3 H hP hD hS => ?_)
  have hP : va_P D vwCl [(h0, .inr (6, [.ref q_1, .ref q_2, .null, .int 0, .int 0, .int 0, .int 0, .int 0])), (q_1, .inl (cI, 48, .inl (fun _ => 0))), (q_2, .inl (cI, 8, .inl (fun _ => 0))), (q_3, .inl (cI, 8, .inl (fun _ => 0)))] H := hP
  have hD : va_D A [(h0, .inr (6, [.ref q_1, .ref q_2, .null, .int 0, .int 0, .int 0, .int 0, .int 0])), (q_1, .inl (cI, 48, .inl (fun _ => 0))), (q_2, .inl (cI, 8, .inl (fun _ => 0))), (q_3, .inl (cI, 8, .inl (fun _ => 0)))] := hD
  refine va_putF (D := D) (ci := 6) (v := .ref q_3) (ty := .array .int) (C := RX4) (T := TX4) (N := 8) hx hb hts (by decide +kernel) tyX4 tyX4_ok nmX4 hown hK hP hD hS 0 rfl rfl 2 (by decide) (hts (.fieldLink RX4 18 "LandDeeds$Text" "north" "[I") (by decide +kernel)) (fun _ h9 => h9) rfl hin rfl (by decide +kernel) rfl rfl (Nat.le_of_ble_eq_true rfl) dX4_init_25 (fun H locs hP hD hS => ?_)
  have hP : va_P D vwCl [(h0, .inr (6, [.ref q_1, .ref q_2, .ref q_3, .int 0, .int 0, .int 0, .int 0, .int 0])), (q_1, .inl (cI, 48, .inl (fun _ => 0))), (q_2, .inl (cI, 8, .inl (fun _ => 0))), (q_3, .inl (cI, 8, .inl (fun _ => 0)))] H := hP
  have hD : va_D A [(h0, .inr (6, [.ref q_1, .ref q_2, .ref q_3, .int 0, .int 0, .int 0, .int 0, .int 0])), (q_1, .inl (cI, 48, .inl (fun _ => 0))), (q_2, .inl (cI, 8, .inl (fun _ => 0))), (q_3, .inl (cI, 8, .inl (fun _ => 0)))] := hD
  rw [← hQ]
  have hP9 := hP
  have hD9 := hD
  exact W.vret hx hb hr (fun t ht hW => ⟨⟨(q_1, q_2, q_3), rfl, trivial, by rw [ht]; exact hP9, hD9⟩, hS.F ht⟩) hS.2.2 dX4_init_28

set_option maxHeartbeats 4000000 in
set_option maxRecDepth 100000 in
theorem c_X5_init (l : Launch) (D : va_G) (cI cB cZ cP : ClassId) (sz : Nat) (h0 : Nat) : Met l yX5_init wsX5_init ({ frames := 1, cells := 2, slots := 1056, locals := 12 } : Room) (va_Pc [.ref h0] (fun U => U.heap.size = sz ∧ va_P D vwCl [(h0, .inr (7, [.null, .null, .int 0, .int 0, .int 0, .int 0, .int 0, .int 0]))] U.heap ∧ KW D cI cB cZ cP U ∧ va_D (fun _ => True) [(h0, .inr (7, [.null, .null, .int 0, .int 0, .int 0, .int 0, .int 0, .int 0]))] ∧ EF [(h0, .inr (7, [.null, .null, .int 0, .int 0, .int 0, .int 0, .int 0, .int 0]))] sz E0 U.heap)) (va_Qv (fun (u : Nat × Nat) => match u with | (q1, q2) => True) (fun (u : Nat × Nat) (t : State) => match u with | (q1, q2) => va_P D vwCl [(h0, .inr (7, [.ref q1, .ref q2, .int 0, .int 0, .int 0, .int 0, .int 0, .int 0])), (q1, .inl (cI, 32, .inl (fun _ => 0))), (q2, .inl (cI, 1024, .inl (fun _ => 0)))] t.heap ∧ va_D (va_A [(h0, .inr (7, [.null, .null, .int 0, .int 0, .int 0, .int 0, .int 0, .int 0]))] sz) [(h0, .inr (7, [.ref q1, .ref q2, .int 0, .int 0, .int 0, .int 0, .int 0, .int 0])), (q1, .inl (cI, 32, .inl (fun _ => 0))), (q2, .inl (cI, 1024, .inl (fun _ => 0)))]) (va_A [(h0, .inr (7, [.null, .null, .int 0, .int 0, .int 0, .int 0, .int 0, .int 0]))] sz)) 2 1056 (va_A [(h0, .inr (7, [.null, .null, .int 0, .int 0, .int 0, .int 0, .int 0, .int 0]))] sz) := by
  refine Met.ofW (cc := cX5_init) (maxL := 1) (ret := none) (by decide) rfl ?_
  intro p e s m args below meth c s₁ B hml hv
  obtain ⟨rfl, hsz, hP, hW0, hD0, hE⟩ := hv
  have hx := B.exec
  have hb := B.bytes
  have hr := B.returns
  have hts := atoms_spec (ws := wsX5_init) B.pre
  have hown : s.vm.findClass RX5 = some m.cls := findClass_of_methodNamed B.named
  have hlocks := B.notSynchronized
  have hK := hW0.1
  have hin : meth.name = "<init>" := (name_of_methodNamed B.named B.method).1
  subst hsz
  have hD := hD0.self (sz := s.heap.size)
  unfold EF at hE
  generalize hAe : va_A [(h0, .inr (7, [.null, .null, .int 0, .int 0, .int 0, .int 0, .int 0, .int 0]))] s.heap.size = A at hD hE ⊢
  have hA : ∀ q : Nat, s.heap.size ≤ q → A q := fun q h => by rw [← hAe]; exact Or.inr h
  have hS : va_S A s.heap s.heap [] := va_S.rf
  have hl := lv_entry ([.ref h0]) (n := 1) (Nat.le_of_ble_eq_true rfl)
  rw [lg_entry_eq]
  generalize (lg_sl ([.ref h0]) ++ List.replicate (1 - (lg_sl ([.ref h0])).length) Slot.unset).toArray = ls at hl ⊢
  have hl : lv_has ls 1 [(0, .ref h0)] := hl
  show W p l e ({ frames := 1, cells := 2, slots := 1056, locals := 12 } : Room) s m ([.ref h0] : List Value).toArray below meth c s.heap [] 0 0 _ (F0 m 0 ls [])
  refine u_genQ (fun Q hQ => ?_)
  refine lv_aload_n hx hb dX5_init_0 rfl (lv_at hl 0 rfl) ?_
  refine W.objInit hx hb hown (hts (.methodLink RX5 3 objectInit) (by decide +kernel)) (hts (.instanceMethod objectInit) (by decide +kernel)) (hts (.code objectInit ⟨#[0xb1]⟩ 1 none) (by decide +kernel)) rfl (by rw [hml]; exact hl.1) rfl dX5_init_1 (Nat.le_of_ble_eq_true rfl) (Nat.le_of_ble_eq_true rfl) ?_
  refine W.eq (g2 := F0 m 4 ls []) rfl ?_
  refine lv_aload_n hx hb dX5_init_4 rfl (lv_at hl 0 rfl) ?_
  refine lv_bipush (v := 32) hx hb dX5_init_5 (by decide) ?_
  refine u_newaI hx hb (hts (.arrayClass .int) (by decide +kernel)) hK 0 rfl hP hD hS hA (N := 32) rfl (by omega) (Nat.le_of_ble_eq_true rfl) (Nat.le_of_ble_eq_true rfl) dX5_init_7 (fun q_1 H hP hD hS => ?_)
  have hP : va_P D vwCl [(h0, .inr (7, [.null, .null, .int 0, .int 0, .int 0, .int 0, .int 0, .int 0])), (q_1, .inl (cI, 32, .inl (fun _ => 0)))] H := hP
  have hD : va_D A [(h0, .inr (7, [.null, .null, .int 0, .int 0, .int 0, .int 0, .int 0, .int 0])), (q_1, .inl (cI, 32, .inl (fun _ => 0)))] := hD
  refine va_putF (D := D) (ci := 7) (v := .ref q_1) (ty := .array .int) (C := RX5) (T := TX5) (N := 8) hx hb hts (by decide +kernel) tyX5 tyX5_ok nmX5 hown hK hP hD hS 0 rfl rfl 0 (by decide) (hts (.fieldLink RX5 9 "LandDeeds$Wastes" "open" "[I") (by decide +kernel)) (fun _ h9 => h9) rfl hin rfl (by decide +kernel) rfl rfl (Nat.le_of_ble_eq_true rfl) dX5_init_9 (fun H locs hP hD hS => ?_)
  have hP : va_P D vwCl [(h0, .inr (7, [.ref q_1, .null, .int 0, .int 0, .int 0, .int 0, .int 0, .int 0])), (q_1, .inl (cI, 32, .inl (fun _ => 0)))] H := hP
  have hD : va_D A [(h0, .inr (7, [.ref q_1, .null, .int 0, .int 0, .int 0, .int 0, .int 0, .int 0])), (q_1, .inl (cI, 32, .inl (fun _ => 0)))] := hD
  refine lv_aload_n hx hb dX5_init_12 rfl (lv_at hl 0 rfl) ?_
  refine lv_sipush (v := 1024) hx hb dX5_init_13 (by decide) ?_
  refine u_newaI hx hb (hts (.arrayClass .int) (by decide +kernel)) hK 0 rfl hP hD hS hA (N := 1024) rfl (by omega) (Nat.le_of_ble_eq_true rfl) (Nat.le_of_ble_eq_true rfl) dX5_init_16 (fun q_2 H hP hD hS => ?_)
  have hP : va_P D vwCl [(h0, .inr (7, [.ref q_1, .null, .int 0, .int 0, .int 0, .int 0, .int 0, .int 0])), (q_1, .inl (cI, 32, .inl (fun _ => 0))), (q_2, .inl (cI, 1024, .inl (fun _ => 0)))] H := hP
  have hD : va_D A [(h0, .inr (7, [.ref q_1, .null, .int 0, .int 0, .int 0, .int 0, .int 0, .int 0])), (q_1, .inl (cI, 32, .inl (fun _ => 0))), (q_2, .inl (cI, 1024, .inl (fun _ => 0)))] := hD
  refine va_putF (D := D) (ci := 7) (v := .ref q_2) (ty := .array .int) (C := RX5) (T := TX5) (N := 8) hx hb hts (by decide +kernel) tyX5 tyX5_ok nmX5 hown hK hP hD hS 0 rfl rfl 1 (by decide) (hts (.fieldLink RX5 15 "LandDeeds$Wastes" "found" "[I") (by decide +kernel)) (fun _ h9 => h9) rfl hin rfl (by decide +kernel) rfl rfl (Nat.le_of_ble_eq_true rfl) dX5_init_18 (fun H locs hP hD hS => ?_)
  have hP : va_P D vwCl [(h0, .inr (7, [.ref q_1, .ref q_2, .int 0, .int 0, .int 0, .int 0, .int 0, .int 0])), (q_1, .inl (cI, 32, .inl (fun _ => 0))), (q_2, .inl (cI, 1024, .inl (fun _ => 0)))] H := hP
  have hD : va_D A [(h0, .inr (7, [.ref q_1, .ref q_2, .int 0, .int 0, .int 0, .int 0, .int 0, .int 0])), (q_1, .inl (cI, 32, .inl (fun _ => 0))), (q_2, .inl (cI, 1024, .inl (fun _ => 0)))] := hD
  rw [← hQ]
  have hP9 := hP
  have hD9 := hD
  exact W.vret hx hb hr (fun t ht hW => ⟨⟨(q_1, q_2), rfl, trivial, by rw [ht]; exact hP9, hD9⟩, hS.F ht⟩) hS.2.2 dX5_init_21

