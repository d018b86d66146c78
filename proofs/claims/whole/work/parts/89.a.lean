/-- between two calls -/
def LST (D : va_G) (cI cB cZ cP : ClassId) (A : Nat → Prop) (h0 am : Nat) (H : Heap) : Prop := ∃ (tx as ae an es ap ay i1 ap1 ay1 i2 ap2 ay2 wa ao af ra : Nat) (a : Nat → Nat) (n0 nc pt nm k k1 k2 : Nat) (tw kp lo lo1 lo2 gq ps gg gm fx fy : Int32) (u0 w0 su sl : Int64) (fe fn yr yr1 yr2 O Tt v : Nat → Int32) (fp fp1 fp2 : Nat → Option Nat) (F : Nat → Nat → Int32) (Pl : Nat → Option PD), a 0 = am ∧ va_P D vwCl [(h0, .inr (8, [.ref tx, .ref es, .ref i1, .ref i2, .ref wa, .ref ra, .int kp])), (tx, .inr (6, [.ref as, .ref ae, .ref an, .int (nI n0), .int (nI nc), .int (nI pt), .int tw, .int (nI nm)])), (as, .inl (cI, 48, .inl (F 4))), (ae, .inl (cI, 8, .inl fe)), (an, .inl (cI, 8, .inl fn)), (es, .inr (2, [.ref ap, .ref ay, .int (nI k), .int lo])), (ap, .inl (cP, 6, .inr (.inr (.inr (.inr fp))))), (ay, .inl (cI, 6, .inl yr)), (i1, .inr (2, [.ref ap1, .ref ay1, .int (nI k1), .int lo1])), (ap1, .inl (cP, 6, .inr (.inr (.inr (.inr fp1))))), (ay1, .inl (cI, 6, .inl yr1)), (i2, .inr (2, [.ref ap2, .ref ay2, .int (nI k2), .int lo2])), (ap2, .inl (cP, 6, .inr (.inr (.inr (.inr fp2))))), (ay2, .inl (cI, 6, .inl yr2)), (wa, .inr (7, [.ref ao, .ref af, .int gq, .int ps, .int gg, .int gm, .int fx, .int fy])), (ao, .inl (cI, 32, .inl O)), (af, .inl (cI, 1024, .inl Tt)), (ra, .inr (5, [.long u0, .long w0])), (a 0, .inr (9, [.ref (a 1), .ref (a 2), .ref (a 3), .ref (a 4), .int (v 4), .ref (a 5), .ref (a 6), .int (v 7), .int (v 8), .int (v 9), .int (v 10), .ref (a 7), .ref (a 8), .int (v 13), .int (v 14), .int (v 15), .ref (a 9), .ref (a 10), .int (v 18), .long su, .long sl, .ref (a 11), .ref (a 12), .int (v 23)])), (a 1, .inl (cI, 110, .inl (F 1))), (a 2, .inl (cI, 220, .inl (F 2))), (a 3, .inl (cZ, 2, .inl (F 3))), (a 4, .inl (cI, 48, .inl (F 4))), (a 5, .inl (cI, 8, .inl (F 5))), (a 6, .inl (cI, 8, .inl (F 6))), (a 7, .inl (cI, 8, .inl (F 7))), (a 8, .inl (cI, 8, .inl (F 8))), (a 9, .inl (cI, 1024, .inl (F 9))), (a 10, .inl (cI, 64, .inl (F 10))), (a 11, .inl (cI, 1024, .inl (F 11))), (a 12, .inl (cI, 1024, .inl (F 12)))] H ∧ va_D A [(h0, .inr (8, [.ref tx, .ref es, .ref i1, .ref i2, .ref wa, .ref ra, .int kp])), (tx, .inr (6, [.ref as, .ref ae, .ref an, .int (nI n0), .int (nI nc), .int (nI pt), .int tw, .int (nI nm)])), (as, .inl (cI, 48, .inl (F 4))), (ae, .inl (cI, 8, .inl fe)), (an, .inl (cI, 8, .inl fn)), (es, .inr (2, [.ref ap, .ref ay, .int (nI k), .int lo])), (ap, .inl (cP, 6, .inr (.inr (.inr (.inr fp))))), (ay, .inl (cI, 6, .inl yr)), (i1, .inr (2, [.ref ap1, .ref ay1, .int (nI k1), .int lo1])), (ap1, .inl (cP, 6, .inr (.inr (.inr (.inr fp1))))), (ay1, .inl (cI, 6, .inl yr1)), (i2, .inr (2, [.ref ap2, .ref ay2, .int (nI k2), .int lo2])), (ap2, .inl (cP, 6, .inr (.inr (.inr (.inr fp2))))), (ay2, .inl (cI, 6, .inl yr2)), (wa, .inr (7, [.ref ao, .ref af, .int gq, .int ps, .int gg, .int gm, .int fx, .int fy])), (ao, .inl (cI, 32, .inl O)), (af, .inl (cI, 1024, .inl Tt)), (ra, .inr (5, [.long u0, .long w0])), (a 0, .inr (9, [.ref (a 1), .ref (a 2), .ref (a 3), .ref (a 4), .int (v 4), .ref (a 5), .ref (a 6), .int (v 7), .int (v 8), .int (v 9), .int (v 10), .ref (a 7), .ref (a 8), .int (v 13), .int (v 14), .int (v 15), .ref (a 9), .ref (a 10), .int (v 18), .long su, .long sl, .ref (a 11), .ref (a 12), .int (v 23)])), (a 1, .inl (cI, 110, .inl (F 1))), (a 2, .inl (cI, 220, .inl (F 2))), (a 3, .inl (cZ, 2, .inl (F 3))), (a 4, .inl (cI, 48, .inl (F 4))), (a 5, .inl (cI, 8, .inl (F 5))), (a 6, .inl (cI, 8, .inl (F 6))), (a 7, .inl (cI, 8, .inl (F 7))), (a 8, .inl (cI, 8, .inl (F 8))), (a 9, .inl (cI, 1024, .inl (F 9))), (a 10, .inl (cI, 64, .inl (F 10))), (a 11, .inl (cI, 1024, .inl (F 11))), (a 12, .inl (cI, 1024, .inl (F 12)))] ∧ PFh [h0, tx, as, ae, an, es, ap, ay, i1, ap1, ay1, i2, ap2, ay2, wa, ao, af, ra, a 0, a 1, a 2, a 3, a 4, a 5, a 6, a 7, a 8, a 9, a 10, a 11, a 12] (PLA D cI cB Pl) H ∧ LR Pl v F n0 nm k k1 k2 kp lo lo1 lo2 fp fp1 fp2 yr yr1 yr2
def LK (p : Program) (s : State) (m : MethodId) (c : Code) (b L : Nat) (xs : Nat → Int32) (D : va_G) (cI cB cZ cP : ClassId) (tz1 tz2 : Nat) (A : Nat → Prop) : Prop :=
  p.tables.exec = Jvm.exec ∧ c.code = cL_law ∧ c.maxLocals = 4 ∧ s.vm.findClass RL = some m.cls ∧ (∀ w ∈ wsL_law, w.before #[Value.ref b] s = true) ∧ va_X b L xs s s.heap ∧ b < s.heap.size ∧ KW D cI cB cZ cP s ∧ ZZ tz1 tz2 A s s.heap ∧ (∀ q, s.heap.size ≤ q → A q) ∧ ¬ A b
theorem u_sld {p : Program} {l : Launch} {e : Env} {R : Room} {s : State} {m : MethodId} {args : Array Value} {below : List Frame} {meth : Method} {c : Code} {H H0 : Heap} {locs : List Loc} {cells slots : Nat} {Q : State → Prop} {pc : Nat} {ls : Array Slot} {rest : List Value} {cc : ByteArray} {A : Nat → Prop} (hexec : p.tables.exec = Jvm.exec) (hb : c.code = cc) {b L : Nat} {xs : Nat → Int32} (hX : va_X b L xs s H0) (hbl : b < H0.size) (hbA : ¬ A b) (hS : va_S A H0 H locs) {i : Int32} {k : Nat} (hi : i = nI k) (hk : k < L ∧ L < 2 ^ 31) (hdg : decode cc pc = .ok (.iaload, 1))
    (kk : W p l e R s m args below meth c H locs cells slots Q (F0 m (pc + 1) ls (.int (xs k) :: rest))) : W p l e R s m args below meth c H locs cells slots Q (F0 m pc ls (.int i :: .ref b :: rest)) := by
  subst hi
  refine va_sld hexec hb hX hbl hbA hS (vp_in_nI hk.1 hk.2) hdg ?_
  rw [nI_clamp (by omega)]
  exact kk

set_option maxHeartbeats 4000000 in
set_option maxRecDepth 100000 in
theorem c_X7_deed_2 (l : Launch) (D : va_G) (cI cB cZ cP : ClassId) (sz : Nat) (a : Nat → Nat) (v : Nat → Int32) (su sl : Int64) (F : Nat → Nat → Int32) (n0 kk : Nat) (x y yr : Int32) (hn0 : n0 ≤ 48) (hkk : kk ≤ 6) (e1 : F 1 108 = nI kk) : Met l yX7_deed wsX7_deed ({ frames := 6, cells := 0, slots := 0, locals := 136 } : Room) (va_Pc [.ref (a 0), .int x, .int y, .int yr] (fun U => U.heap.size = sz ∧ va_P D vwCl (MW cI cZ a (upd v 4 (nI n0)) su sl F) U.heap ∧ KW D cI cB cZ cP U ∧ va_D (fun _ => True) (MW cI cZ a (upd v 4 (nI n0)) su sl F) ∧ EF (MW cI cZ a (upd v 4 (nI n0)) su sl F) sz E0 U.heap)) (va_Qi (fun r (u : (Nat → Int32) × Int64 × Int64 × (Nat → Nat → Int32)) => match u with | (v1, su1, sl1, F1) => ∃ oo, DEED (F 4) n0 (F 1 109) kk x y yr r oo ∧ F1 2 = F 2 ∧ F1 3 = F 3 ∧ ((oo = none ∧ v1 4 = nI n0 ∧ F1 1 = F 1 ∧ F1 4 = F 4) ∨ ∃ nc X Y, oo = some (nc, X, Y) ∧ v1 4 = 0 ∧ F1 4 = F 4 ∧ ADD (F 1) (F1 1) kk nc X Y yr)) (fun (u : (Nat → Int32) × Int64 × Int64 × (Nat → Nat → Int32)) (t : State) => match u with | (v1, su1, sl1, F1) => va_P D vwCl (MW cI cZ a v1 su1 sl1 F1) t.heap ∧ va_D (va_A (MW cI cZ a (upd v 4 (nI n0)) su sl F) sz) (MW cI cZ a v1 su1 sl1 F1)) (va_A (MW cI cZ a (upd v 4 (nI n0)) su sl F) sz)) 0 0 (va_A (MW cI cZ a (upd v 4 (nI n0)) su sl F) sz) := by
  refine Met.ofW (cc := cX7_deed) (maxL := 6) (ret := (some .int)) (by decide) rfl ?_
  intro p e s m args below meth c s₁ B hml hv
  obtain ⟨rfl, hsz, hP, hW0, hD0, hE⟩ := hv
  have hx := B.exec
  have hb := B.bytes
  have hr := B.returns
  have hts := atoms_spec (ws := wsX7_deed) B.pre
  have hown : s.vm.findClass RX7 = some m.cls := findClass_of_methodNamed B.named
  have hlocks := B.notSynchronized
  have hK := hW0.1
  subst hsz
  have hD := hD0.self (sz := s.heap.size)
  unfold EF at hE
  generalize hAe : va_A (MW cI cZ a (upd v 4 (nI n0)) su sl F) s.heap.size = A at hD hE ⊢
  have hA : ∀ q : Nat, s.heap.size ≤ q → A q := fun q h => by rw [← hAe]; exact Or.inr h
  have hS : va_S A s.heap s.heap [] := va_S.rf
  have hl := lv_entry ([.ref (a 0), .int x, .int y, .int yr]) (n := 6) (Nat.le_of_ble_eq_true rfl)
  rw [lg_entry_eq]
  generalize (lg_sl ([.ref (a 0), .int x, .int y, .int yr]) ++ List.replicate (6 - (lg_sl ([.ref (a 0), .int x, .int y, .int yr])).length) Slot.unset).toArray = ls at hl ⊢
  have hl : lv_has ls 6 [(0, .ref (a 0)), (1, .int x), (2, .int y), (3, .int yr)] := hl
  show W p l e ({ frames := 6, cells := 0, slots := 0, locals := 136 } : Room) s m ([.ref (a 0), .int x, .int y, .int yr] : List Value).toArray below meth c s.heap [] 0 0 _ (F0 m 0 ls [])
  refine u_genQ (fun Q hQ => ?_)
  refine lv_iload_n hx hb dX7_deed_0 rfl (lv_at hl 1 rfl) ?_
  refine lv_iload_n hx hb dX7_deed_1 rfl (lv_at hl 2 rfl) ?_
  have hPc := hP.sub (ws' := []) [] rfl
  refine u_callSi (W.runS (As := [.int x, .int y]) (rest := []) ⟨hx, hb, hml, hown, hts⟩ (c_X7_isPost l D cI cB cZ cP x y ) (cwS 2 hts gX7_deed_X7_isPost rfl rfl rfl (by decide +kernel) ⟨Nat.le_of_ble_eq_true rfl, Nat.le_of_ble_eq_true rfl⟩) (pS hPc hW0 trivial) rfl rfl hl.1 rfl (lv_room (Nat.le_of_ble_eq_true rfl)) dX7_deed_2 ⟨Nat.le_of_ble_eq_true rfl, Nat.le_of_ble_eq_true rfl⟩) ?_
  refine lv_if_eq (tgt := 19) hx hb dX7_deed_5 (by decide) (fun c_1 => ?_) (fun c_1 => ?_)
  · skip
    have nc_1 := zb_eq0.mp c_1
    have hny9 : ¬ (isP x y ∧ 1 ≤ yr.toInt ∧ yr.toInt ≤ 999) := fun q => nc_1 q.1
    refine lv_bipush (v := (-2)) hx hb dX7_deed_19 (by decide) ?_
    rw [← hQ]
    have hP9 := hP
    have hD9 := hD
    exact W.iret (v := (-2)) hx hb hr (fun t ht hW => ⟨⟨_, (upd v 4 (nI n0), su, sl, F), rfl, ⟨none, Or.inl ⟨hny9, rfl, rfl⟩, rfl, rfl, Or.inl ⟨rfl, rfl, rfl, rfl⟩⟩, by rw [ht]; exact hP9, hD9⟩, hS.F ht⟩) hS.2.2 dX7_deed_21
  · skip
    have nc_1 := zb_ne0.mp c_1
    refine lv_iload_n hx hb dX7_deed_8 rfl (lv_at hl 3 rfl) ?_
    refine lv_iconst (v := 1) hx hb dX7_deed_9 (by decide) ?_
    refine lv_sipush (v := 999) hx hb dX7_deed_10 (by decide) ?_
    have hPc := hP.sub (ws' := []) [] rfl
    refine u_callSi (W.runS (As := [.int yr, .int 1, .int 999]) (rest := []) ⟨hx, hb, hml, hown, hts⟩ (c_X7_in l D cI cB cZ cP yr 1 999 ) (cwS 3 hts gX7_deed_X7_in rfl rfl rfl (by decide +kernel) ⟨Nat.le_of_ble_eq_true rfl, Nat.le_of_ble_eq_true rfl⟩) (pS hPc hW0 trivial) rfl rfl hl.1 rfl (lv_room (Nat.le_of_ble_eq_true rfl)) dX7_deed_13 ⟨Nat.le_of_ble_eq_true rfl, Nat.le_of_ble_eq_true rfl⟩) ?_
    refine lv_if_ne (tgt := 22) hx hb dX7_deed_16 (by decide) (fun c_2 => ?_) (fun c_2 => ?_)
    · skip
      have nc_2 := zb_ne0.mp c_2
      have hpy9 : isP x y ∧ 1 ≤ yr.toInt ∧ yr.toInt ≤ 999 := ⟨nc_1, by have h9 := nc_2; rw [li_1, li_999] at h9; exact h9⟩
      refine lv_aload_n hx hb dX7_deed_22 rfl (lv_at hl 0 rfl) ?_
      have hPc := hP
      have hDc := hD
      have hFc := va_free (wc := (MW cI cZ a (upd v 4 (nI n0)) su sl F)) hD hS hA [0, 1, 2, 3, 4, 5, 6, 7, 8, 9, 10, 11, 12] rfl
      refine va_calli (va_runV (As := []) (rest := []) ⟨hx, hb, hml, hown, hts⟩ (c_X7_faultNow l D cI cB cZ cP s.heap.size a v su sl F n0 (by first | assumption | omega)) (cwV 0 hts gX7_deed_X7_faultNow rfl rfl rfl (by decide +kernel) ⟨Nat.le_of_ble_eq_true rfl, Nat.le_of_ble_eq_true rfl⟩) (pVQ (q0 := 0) hPc hDc hW0 EF.t rfl rfl) rfl rfl hl.1 rfl (lv_room (Nat.le_of_ble_eq_true rfl)) dX7_deed_23 ⟨Nat.le_of_ble_eq_true rfl, Nat.le_of_ble_eq_true rfl⟩) hS (fun q _ h => hFc q h) hFc (fun r_3 u t H1 locs ht hvm hw hB hz1 hk1 hS => ?_)
      obtain ⟨nc1_3, at1_3, wy1_3, nu1_3, rt1_3, up1_3⟩ := u
      obtain ⟨hP1, hD1⟩ := hB
      rw [ht] at hP1
      have hw_3 : MEnd (F 4) n0 nc1_3 rt1_3 up1_3 r_3 := hw
      obtain ⟨hP, hD⟩ := va_join (wr := []) (w1 := (MW cI cZ a (upd (upd (upd (upd (upd v 4 (nI n0)) 7 (nI nc1_3)) 8 at1_3) 9 wy1_3) 10 nu1_3) su sl (updF (updF F 5 rt1_3) 6 up1_3))) hP hD [0, 1, 2, 3, 4, 5, 6, 7, 8, 9, 10, 11, 12] [] rfl rfl (by decide) (by decide) hk1 hFc hP1 hD1
      generalize H1 = H at hP hS ⊢
      have hP : va_P D vwCl (MW cI cZ a (upd (upd (upd (upd (upd v 4 (nI n0)) 7 (nI nc1_3)) 8 at1_3) 9 wy1_3) 10 nu1_3) su sl (updF (updF F 5 rt1_3) 6 up1_3)) H := hP
      have hD : va_D A (MW cI cZ a (upd (upd (upd (upd (upd v 4 (nI n0)) 7 (nI nc1_3)) 8 at1_3) 9 wy1_3) 10 nu1_3) su sl (updF (updF F 5 rt1_3) 6 up1_3)) := hD
      refine lv_if_lt (tgt := 32) hx hb dX7_deed_26 (by decide) (fun c_4 => ?_) (fun c_4 => ?_)
      · skip
        obtain ⟨fe9, fn9, ht9, ho9, hq9, hj9⟩ := ME_get hw_3 hn0 c_4
        have e9x := isum_congr nc1_3 (fun j hj => (hj9 j hj).1)
        have e9y := isum_congr nc1_3 (fun j hj => (hj9 j hj).2)
        have h88 : nc1_3 ≤ 8 := ho9.2.1
        refine lv_aload_n hx hb dX7_deed_32 rfl (lv_at hl 0 rfl) ?_
        refine lv_iload_n hx hb dX7_deed_33 rfl (lv_at hl 1 rfl) ?_
        refine lv_iload_n hx hb dX7_deed_34 rfl (lv_at hl 2 rfl) ?_
        have hPc := hP
        have hDc := hD
        have hFc := va_free (wc := (MW cI cZ a (upd (upd (upd (upd (upd v 4 (nI n0)) 7 (nI nc1_3)) 8 at1_3) 9 wy1_3) 10 nu1_3) su sl (updF (updF F 5 rt1_3) 6 up1_3))) hD hS hA [0, 1, 2, 3, 4, 5, 6, 7, 8, 9, 10, 11, 12] rfl
        refine va_callv (va_runV (As := [.int x, .int y]) (rest := []) ⟨hx, hb, hml, hown, hts⟩ (c_X7_layCorners l D cI cB cZ cP H.size a (upd (upd (upd (upd v 4 (nI n0)) 8 at1_3) 9 wy1_3) 10 nu1_3) su sl F nc1_3 rt1_3 up1_3 x y (ho9.2.1) (far_ne hq9)) (cwV 2 hts gX7_deed_X7_layCorners rfl rfl rfl (by decide +kernel) ⟨Nat.le_of_ble_eq_true rfl, Nat.le_of_ble_eq_true rfl⟩) (pVQ (q0 := 0) hPc hDc hW0 EF.t rfl rfl) rfl rfl hl.1 rfl (lv_room (Nat.le_of_ble_eq_true rfl)) dX7_deed_35 ⟨Nat.le_of_ble_eq_true rfl, Nat.le_of_ble_eq_true rfl⟩) hS (fun q _ h => hFc q h) hFc (fun u t H1 locs ht hvm hw hB hz1 hk1 hS => ?_)
        obtain ⟨X1_5, Y1_5⟩ := u
        obtain ⟨hP1, hD1⟩ := hB
        rw [ht] at hP1
        have hw_5 : ∀ j, j < nc1_3 → X1_5 j = crn nc1_3 x rt1_3 rt1_3 up1_3 j ∧ Y1_5 j = crn nc1_3 y up1_3 rt1_3 up1_3 j := hw
        obtain ⟨hP, hD⟩ := va_join (wr := []) (w1 := (MW cI cZ a (upd (upd (upd (upd (upd (upd (upd (upd v 4 (nI n0)) 7 (nI nc1_3)) 8 at1_3) 9 wy1_3) 10 nu1_3) 13 (isum rt1_3 nc1_3)) 14 (isum up1_3 nc1_3)) 15 (isum (stp rt1_3 up1_3) nc1_3)) su sl (updF (updF (updF (updF F 5 rt1_3) 6 up1_3) 7 X1_5) 8 Y1_5))) hP hD [0, 1, 2, 3, 4, 5, 6, 7, 8, 9, 10, 11, 12] [] rfl rfl (by decide) (by decide) hk1 hFc hP1 hD1
        generalize H1 = H at hP hS ⊢
        have hP : va_P D vwCl (MW cI cZ a (upd (upd (upd (upd (upd (upd (upd (upd v 4 (nI n0)) 7 (nI nc1_3)) 8 at1_3) 9 wy1_3) 10 nu1_3) 13 (isum rt1_3 nc1_3)) 14 (isum up1_3 nc1_3)) 15 (isum (stp rt1_3 up1_3) nc1_3)) su sl (updF (updF (updF (updF F 5 rt1_3) 6 up1_3) 7 X1_5) 8 Y1_5)) H := hP
        have hD : va_D A (MW cI cZ a (upd (upd (upd (upd (upd (upd (upd (upd v 4 (nI n0)) 7 (nI nc1_3)) 8 at1_3) 9 wy1_3) 10 nu1_3) 13 (isum rt1_3 nc1_3)) 14 (isum up1_3 nc1_3)) 15 (isum (stp rt1_3 up1_3) nc1_3)) su sl (updF (updF (updF (updF F 5 rt1_3) 6 up1_3) 7 X1_5) 8 Y1_5)) := hD
        have hc9 : ∀ j, j < nc1_3 → X1_5 j = crn nc1_3 x fe9 fe9 fn9 j ∧ Y1_5 j = crn nc1_3 y fn9 fe9 fn9 j := fun j hj => ⟨(hw_5 j hj).1.trans (crn_congr (fun j hj => (hj9 j hj).1) hj9 hj), (hw_5 j hj).2.trans (crn_congr (fun j hj => (hj9 j hj).2) hj9 hj)⟩
        have hsn9 := stn_congr hc9
        refine lv_aload_n hx hb dX7_deed_38 rfl (lv_at hl 0 rfl) ?_
        refine va_get (D := D) (ci := 9) (v := .int (isum rt1_3 nc1_3)) (C := RX7) (T := TX7) (N := 24) hx hb hts (by decide +kernel) hown hK hP 0 rfl rfl 13 (by decide) (hts (.fieldLink RX7 88 "LandDeedsModel" "missX" "I") (by decide +kernel)) (fun _ h9 => h9) rfl dX7_deed_39 ?_
        have hPc := hP.sub (ws' := []) [] rfl
        refine u_callSi (W.runS (As := [.int (isum rt1_3 nc1_3)]) (rest := []) ⟨hx, hb, hml, hown, hts⟩ (c_X7_size l D cI cB cZ cP (isum rt1_3 nc1_3) ) (cwS 1 hts gX7_deed_X7_size rfl rfl rfl (by decide +kernel) ⟨Nat.le_of_ble_eq_true rfl, Nat.le_of_ble_eq_true rfl⟩) (pS hPc hW0 trivial) rfl rfl hl.1 rfl (lv_room (Nat.le_of_ble_eq_true rfl)) dX7_deed_42 ⟨Nat.le_of_ble_eq_true rfl, Nat.le_of_ble_eq_true rfl⟩) ?_
        refine lv_aload_n hx hb dX7_deed_45 rfl (lv_at hl 0 rfl) ?_
        refine va_get (D := D) (ci := 9) (v := .int (isum up1_3 nc1_3)) (C := RX7) (T := TX7) (N := 24) hx hb hts (by decide +kernel) hown hK hP 0 rfl rfl 14 (by decide) (hts (.fieldLink RX7 91 "LandDeedsModel" "missY" "I") (by decide +kernel)) (fun _ h9 => h9) rfl dX7_deed_46 ?_
        have hPc := hP.sub (ws' := []) [] rfl
        refine u_callSi (W.runS (As := [.int (isum up1_3 nc1_3)]) (rest := [.int (ab (isum rt1_3 nc1_3))]) ⟨hx, hb, hml, hown, hts⟩ (c_X7_size l D cI cB cZ cP (isum up1_3 nc1_3) ) (cwS 1 hts gX7_deed_X7_size rfl rfl rfl (by decide +kernel) ⟨Nat.le_of_ble_eq_true rfl, Nat.le_of_ble_eq_true rfl⟩) (pS hPc hW0 trivial) rfl rfl hl.1 rfl (lv_room (Nat.le_of_ble_eq_true rfl)) dX7_deed_49 ⟨Nat.le_of_ble_eq_true rfl, Nat.le_of_ble_eq_true rfl⟩) ?_
        refine lv_iadd hx hb dX7_deed_52 ?_
        refine lv_aload_n hx hb dX7_deed_53 rfl (lv_at hl 0 rfl) ?_
        refine va_get (D := D) (ci := 9) (v := .ref (a 1)) (C := RX7) (T := TX7) (N := 24) hx hb hts (by decide +kernel) hown hK hP 0 rfl rfl 0 (by decide) (hts (.fieldLink RX7 7 "LandDeedsModel" "state" "[I") (by decide +kernel)) (fun _ h9 => h9) rfl dX7_deed_54 ?_
        refine lv_bipush (v := 109) hx hb dX7_deed_57 (by decide) ?_
        refine u_iald hx hb hK hP 1 0 rfl rfl rfl ⟨by decide, by decide⟩ dX7_deed_59 ?_
        refine lv_icmp_le (tgt := 66) hx hb dX7_deed_60 (by decide) (fun c_6 => ?_) (fun c_6 => ?_)
        · skip
          refine lv_aload_n hx hb dX7_deed_66 rfl (lv_at hl 0 rfl) ?_
          have hPc := hP
          refine u_callSi (W.runV (As := []) (rest := []) ⟨hx, hb, hml, hown, hts⟩ (c_X7_stands l D cI cB cZ cP a (upd (upd (upd (upd (upd (upd (upd v 4 (nI n0)) 8 at1_3) 9 wy1_3) 10 nu1_3) 13 (isum rt1_3 nc1_3)) 14 (isum up1_3 nc1_3)) 15 (isum (stp rt1_3 up1_3) nc1_3)) su sl (updF (updF F 5 rt1_3) 6 up1_3) nc1_3 X1_5 Y1_5 (ho9.2.1) (ho9.1)) (cwV 0 hts gX7_deed_X7_stands rfl rfl rfl (by decide +kernel) ⟨Nat.le_of_ble_eq_true rfl, Nat.le_of_ble_eq_true rfl⟩) (pV (q0 := 0) hPc hW0 trivial rfl rfl) rfl rfl hl.1 rfl (lv_room (Nat.le_of_ble_eq_true rfl)) dX7_deed_67 ⟨Nat.le_of_ble_eq_true rfl, Nat.le_of_ble_eq_true rfl⟩) ?_
          refine lv_if_ne (tgt := 76) hx hb dX7_deed_70 (by decide) (fun c_7 => ?_) (fun c_7 => ?_)
          · skip
            have nc_7 := zb_ne0.mp c_7
            refine lv_aload_n hx hb dX7_deed_76 rfl (lv_at hl 0 rfl) ?_
            refine va_get (D := D) (ci := 9) (v := .ref (a 1)) (C := RX7) (T := TX7) (N := 24) hx hb hts (by decide +kernel) hown hK hP 0 rfl rfl 0 (by decide) (hts (.fieldLink RX7 7 "LandDeedsModel" "state" "[I") (by decide +kernel)) (fun _ h9 => h9) rfl dX7_deed_77 ?_
            refine lv_bipush (v := 108) hx hb dX7_deed_80 (by decide) ?_
            refine u_iald hx hb hK hP 1 0 rfl rfl rfl ⟨by decide, by decide⟩ dX7_deed_82 ?_
            refine u_eqi (show (F 1) 108 = nI kk from e1) ?_
            refine lv_bipush (v := 6) hx hb dX7_deed_83 (by decide) ?_
            refine lv_icmp_ne (tgt := 91) hx hb dX7_deed_85 (by decide) (fun c_8 => ?_) (fun c_8 => ?_)
            · skip
              have nc_8 : ¬ (kk = 6) := fun h => c_8 ((nI_eq (a := kk) (b := 6) (by omega) (by omega)).mpr h)
              have hlo9 : ¬ F 1 109 < ab (isum fe9 nc1_3) + ab (isum fn9 nc1_3) := by rw [← e9x, ← e9y]; exact fun q => absurd c_6 (Int32.not_le.mpr q)
              have hst9 := hsn9.mp nc_7
              have hk69 : ¬ kk = 6 := nc_8
              refine lv_aload_n hx hb dX7_deed_91 rfl (lv_at hl 0 rfl) ?_
              refine va_get (D := D) (ci := 9) (v := .ref (a 1)) (C := RX7) (T := TX7) (N := 24) hx hb hts (by decide +kernel) hown hK hP 0 rfl rfl 0 (by decide) (hts (.fieldLink RX7 7 "LandDeedsModel" "state" "[I") (by decide +kernel)) (fun _ h9 => h9) rfl dX7_deed_92 ?_
              refine lv_bipush (v := 108) hx hb dX7_deed_95 (by decide) ?_
              refine u_iald hx hb hK hP 1 0 rfl rfl rfl ⟨by decide, by decide⟩ dX7_deed_97 ?_
              refine u_eqi (show (F 1) 108 = nI kk from e1) ?_
              refine lv_istore (lv' := [(4, .int (nI kk)), (0, .ref (a 0)), (1, .int x), (2, .int y), (3, .int yr)]) hx hb dX7_deed_98 hl (by decide) rfl (fun ls hl => ?_)
              refine lv_aload_n hx hb dX7_deed_100 rfl (lv_at hl 1 rfl) ?_
              refine va_get (D := D) (ci := 9) (v := .ref (a 1)) (C := RX7) (T := TX7) (N := 24) hx hb hts (by decide +kernel) hown hK hP 0 rfl rfl 0 (by decide) (hts (.fieldLink RX7 7 "LandDeedsModel" "state" "[I") (by decide +kernel)) (fun _ h9 => h9) rfl dX7_deed_101 ?_
              refine lv_iconst (v := 0) hx hb dX7_deed_104 (by decide) ?_
              refine lv_iload hx hb dX7_deed_105 (lv_at hl 0 rfl) ?_
              refine lv_iadd hx hb dX7_deed_107 ?_
              refine u_eqi (show (0 : Int32) + (nI kk) = nI kk from Int32.zero_add _) ?_
              refine lv_iload_n hx hb dX7_deed_108 rfl (lv_at hl 4 rfl) ?_
              refine u_iast hx hb hK hP hD hS 1 0 rfl rfl rfl ⟨by omega, by omega⟩ dX7_deed_109 (fun H locs hP hD hS => ?_)
              have hP : va_P D vwCl (MW cI cZ a (upd (upd (upd (upd (upd (upd (upd (upd v 4 (nI n0)) 7 (nI nc1_3)) 8 at1_3) 9 wy1_3) 10 nu1_3) 13 (isum rt1_3 nc1_3)) 14 (isum up1_3 nc1_3)) 15 (isum (stp rt1_3 up1_3) nc1_3)) su sl (updF (updF (updF (updF (updF F 1 (upd (F 1) kk yr)) 5 rt1_3) 6 up1_3) 7 X1_5) 8 Y1_5)) H := hP
              have hD : va_D A (MW cI cZ a (upd (upd (upd (upd (upd (upd (upd (upd v 4 (nI n0)) 7 (nI nc1_3)) 8 at1_3) 9 wy1_3) 10 nu1_3) 13 (isum rt1_3 nc1_3)) 14 (isum up1_3 nc1_3)) 15 (isum (stp rt1_3 up1_3) nc1_3)) su sl (updF (updF (updF (updF (updF F 1 (upd (F 1) kk yr)) 5 rt1_3) 6 up1_3) 7 X1_5) 8 Y1_5)) := hD
              refine lv_aload_n hx hb dX7_deed_110 rfl (lv_at hl 1 rfl) ?_
              refine va_get (D := D) (ci := 9) (v := .ref (a 1)) (C := RX7) (T := TX7) (N := 24) hx hb hts (by decide +kernel) hown hK hP 0 rfl rfl 0 (by decide) (hts (.fieldLink RX7 7 "LandDeedsModel" "state" "[I") (by decide +kernel)) (fun _ h9 => h9) rfl dX7_deed_111 ?_
              refine lv_bipush (v := 6) hx hb dX7_deed_114 (by decide) ?_
              refine lv_iload hx hb dX7_deed_116 (lv_at hl 0 rfl) ?_
              refine lv_iadd hx hb dX7_deed_118 ?_
              refine u_eqi (show (6 : Int32) + (nI kk) = nI (6 + kk) from nI_add 6 kk) ?_
              refine lv_aload_n hx hb dX7_deed_119 rfl (lv_at hl 1 rfl) ?_
              refine va_get (D := D) (ci := 9) (v := .int (nI nc1_3)) (C := RX7) (T := TX7) (N := 24) hx hb hts (by decide +kernel) hown hK hP 0 rfl rfl 7 (by decide) (hts (.fieldLink RX7 58 "LandDeedsModel" "calls" "I") (by decide +kernel)) (fun _ h9 => h9) rfl dX7_deed_120 ?_
              refine u_iast hx hb hK hP hD hS 1 0 rfl rfl rfl ⟨by omega, by omega⟩ dX7_deed_123 (fun H locs hP hD hS => ?_)
              have hP : va_P D vwCl (MW cI cZ a (upd (upd (upd (upd (upd (upd (upd (upd v 4 (nI n0)) 7 (nI nc1_3)) 8 at1_3) 9 wy1_3) 10 nu1_3) 13 (isum rt1_3 nc1_3)) 14 (isum up1_3 nc1_3)) 15 (isum (stp rt1_3 up1_3) nc1_3)) su sl (updF (updF (updF (updF (updF F 1 (upd (upd (F 1) kk yr) (6 + kk) (nI nc1_3))) 5 rt1_3) 6 up1_3) 7 X1_5) 8 Y1_5)) H := hP
              have hD : va_D A (MW cI cZ a (upd (upd (upd (upd (upd (upd (upd (upd v 4 (nI n0)) 7 (nI nc1_3)) 8 at1_3) 9 wy1_3) 10 nu1_3) 13 (isum rt1_3 nc1_3)) 14 (isum up1_3 nc1_3)) 15 (isum (stp rt1_3 up1_3) nc1_3)) su sl (updF (updF (updF (updF (updF F 1 (upd (upd (F 1) kk yr) (6 + kk) (nI nc1_3))) 5 rt1_3) 6 up1_3) 7 X1_5) 8 Y1_5)) := hD
              refine lv_iconst (v := 0) hx hb dX7_deed_124 (by decide) ?_
              refine lv_istore (lv' := [(5, .int 0), (4, .int (nI kk)), (0, .ref (a 0)), (1, .int x), (2, .int y), (3, .int yr)]) hx hb dX7_deed_125 hl (by decide) rfl (fun ls hl => ?_)
              have LOOP_127 : ∀ (fu : Nat) (z : Nat) (S1 : Nat → Int32) (hz : z ≤ nc1_3) (hAW : ADW (F 1) S1 kk nc1_3 X1_5 Y1_5 yr z) (hn : nc1_3 - z < fu) (H : Heap) (locs : List Loc) (hP : va_P D vwCl (MW cI cZ a (upd (upd (upd (upd (upd (upd (upd (upd v 4 (nI n0)) 7 (nI nc1_3)) 8 at1_3) 9 wy1_3) 10 nu1_3) 13 (isum rt1_3 nc1_3)) 14 (isum up1_3 nc1_3)) 15 (isum (stp rt1_3 up1_3) nc1_3)) su sl (updF (updF (updF (updF (updF F 1 S1) 5 rt1_3) 6 up1_3) 7 X1_5) 8 Y1_5)) H) (hD : va_D A (MW cI cZ a (upd (upd (upd (upd (upd (upd (upd (upd v 4 (nI n0)) 7 (nI nc1_3)) 8 at1_3) 9 wy1_3) 10 nu1_3) 13 (isum rt1_3 nc1_3)) 14 (isum up1_3 nc1_3)) 15 (isum (stp rt1_3 up1_3) nc1_3)) su sl (updF (updF (updF (updF (updF F 1 S1) 5 rt1_3) 6 up1_3) 7 X1_5) 8 Y1_5))) (hS : va_S A s.heap H locs) (ls : Array Slot) (hl : lv_has ls 6 [(0, .ref (a 0)), (4, .int (nI kk)), (5, .int (nI z))]), W p l e ({ frames := 6, cells := 0, slots := 0, locals := 136 } : Room) s m ([.ref (a 0), .int x, .int y, .int yr] : List Value).toArray below meth c H locs 0 0 Q (F0 m 127 ls []) := by
                intro fu
                induction fu with
                | zero => intro z S1 hz hAW hn H locs hP hD hS ls hl; exact absurd hn (Nat.not_lt_zero _)
                | succ fu ih_127 =>
                  intro z S1 hz hAW hn H locs hP hD hS ls hl
                  refine lv_iload hx hb dX7_deed_127 (lv_at hl 2 rfl) ?_
                  refine lv_aload_n hx hb dX7_deed_129 rfl (lv_at hl 0 rfl) ?_
                  refine va_get (D := D) (ci := 9) (v := .int (nI nc1_3)) (C := RX7) (T := TX7) (N := 24) hx hb hts (by decide +kernel) hown hK hP 0 rfl rfl 7 (by decide) (hts (.fieldLink RX7 58 "LandDeedsModel" "calls" "I") (by decide +kernel)) (fun _ h9 => h9) rfl dX7_deed_130 ?_
                  refine lv_icmp_ge (tgt := 188) hx hb dX7_deed_133 (by decide) (fun c_9 => ?_) (fun c_9 => ?_)
                  · skip
                    have nc_9 : nc1_3 ≤ z := (nI_leI (a := nc1_3) (b := z) (by omega) (by omega)).mp c_9
                    have hz9 : z = nc1_3 := by omega
                    refine lv_aload_n hx hb dX7_deed_188 rfl (lv_at hl 0 rfl) ?_
                    refine va_get (D := D) (ci := 9) (v := .ref (a 1)) (C := RX7) (T := TX7) (N := 24) hx hb hts (by decide +kernel) hown hK hP 0 rfl rfl 0 (by decide) (hts (.fieldLink RX7 7 "LandDeedsModel" "state" "[I") (by decide +kernel)) (fun _ h9 => h9) rfl dX7_deed_189 ?_
                    refine lv_bipush (v := 108) hx hb dX7_deed_192 (by decide) ?_
                    refine lv_dup2_11 hx hb dX7_deed_194 rfl rfl ?_
                    refine u_iald hx hb hK hP 1 0 rfl rfl rfl ⟨by decide, by decide⟩ dX7_deed_195 ?_
                    refine u_eqi (show S1 108 = nI kk from hAW.1) ?_
                    refine lv_iconst (v := 1) hx hb dX7_deed_196 (by decide) ?_
                    refine lv_iadd hx hb dX7_deed_197 ?_
                    refine u_eqi (show (nI kk) + 1 = nI (kk + 1) from nI_1 kk) ?_
                    refine u_iast hx hb hK hP hD hS 1 0 rfl rfl rfl ⟨by decide, by decide⟩ dX7_deed_198 (fun H locs hP hD hS => ?_)
                    have hP : va_P D vwCl (MW cI cZ a (upd (upd (upd (upd (upd (upd (upd (upd v 4 (nI n0)) 7 (nI nc1_3)) 8 at1_3) 9 wy1_3) 10 nu1_3) 13 (isum rt1_3 nc1_3)) 14 (isum up1_3 nc1_3)) 15 (isum (stp rt1_3 up1_3) nc1_3)) su sl (updF (updF (updF (updF (updF F 1 (upd S1 108 (nI (kk + 1)))) 5 rt1_3) 6 up1_3) 7 X1_5) 8 Y1_5)) H := hP
                    have hD : va_D A (MW cI cZ a (upd (upd (upd (upd (upd (upd (upd (upd v 4 (nI n0)) 7 (nI nc1_3)) 8 at1_3) 9 wy1_3) 10 nu1_3) 13 (isum rt1_3 nc1_3)) 14 (isum up1_3 nc1_3)) 15 (isum (stp rt1_3 up1_3) nc1_3)) su sl (updF (updF (updF (updF (updF F 1 (upd S1 108 (nI (kk + 1)))) 5 rt1_3) 6 up1_3) 7 X1_5) 8 Y1_5)) := hD
                    refine lv_aload_n hx hb dX7_deed_199 rfl (lv_at hl 0 rfl) ?_
                    refine lv_iconst (v := 0) hx hb dX7_deed_200 (by decide) ?_
                    refine va_put (D := D) (ci := 9) (v := .int 0) (ty := .int) (C := RX7) (T := TX7) (N := 24) hx hb hts (by decide +kernel) tyX7 tyX7_ok nmX7 hown hK hP hD hS 0 rfl rfl 4 (by decide) (hts (.fieldLink RX7 74 "LandDeedsModel" "signs" "I") (by decide +kernel)) (fun _ h9 => h9) rfl (by decide +kernel) rfl rfl (Nat.le_of_ble_eq_true rfl) dX7_deed_201 (fun H locs hP hD hS => ?_)
                    have hP : va_P D vwCl (MW cI cZ a (upd (upd (upd (upd (upd (upd (upd (upd v 4 0) 7 (nI nc1_3)) 8 at1_3) 9 wy1_3) 10 nu1_3) 13 (isum rt1_3 nc1_3)) 14 (isum up1_3 nc1_3)) 15 (isum (stp rt1_3 up1_3) nc1_3)) su sl (updF (updF (updF (updF (updF F 1 (upd S1 108 (nI (kk + 1)))) 5 rt1_3) 6 up1_3) 7 X1_5) 8 Y1_5)) H := hP
                    have hD : va_D A (MW cI cZ a (upd (upd (upd (upd (upd (upd (upd (upd v 4 0) 7 (nI nc1_3)) 8 at1_3) 9 wy1_3) 10 nu1_3) 13 (isum rt1_3 nc1_3)) 14 (isum up1_3 nc1_3)) 15 (isum (stp rt1_3 up1_3) nc1_3)) su sl (updF (updF (updF (updF (updF F 1 (upd S1 108 (nI (kk + 1)))) 5 rt1_3) 6 up1_3) 7 X1_5) 8 Y1_5)) := hD
                    refine lv_iload hx hb dX7_deed_204 (lv_at hl 1 rfl) ?_
                    rw [← hQ]
                    have hP9 := hP
                    have hD9 := hD
                    exact W.iret (v := nI kk) hx hb hr (fun t ht hW => ⟨⟨_, (upd (upd (upd (upd (upd (upd (upd (upd v 4 0) 7 (nI nc1_3)) 8 at1_3) 9 wy1_3) 10 nu1_3) 13 (isum rt1_3 nc1_3)) 14 (isum up1_3 nc1_3)) 15 (isum (stp rt1_3 up1_3) nc1_3), su, sl, updF (updF (updF (updF (updF F 1 (upd S1 108 (nI (kk + 1)))) 5 rt1_3) 6 up1_3) 7 X1_5) 8 Y1_5), rfl, ⟨_, (Or.inr (Or.inr ⟨hpy9, _, _, _, ht9, Or.inr (Or.inr (Or.inr ⟨hlo9, hst9, hk69, rfl, rfl⟩))⟩)), rfl, rfl, Or.inr ⟨_, _, _, rfl, rfl, rfl, ADW_e (by omega) h88 (hz9 ▸ hAW) hc9⟩⟩, by rw [ht]; exact hP9, hD9⟩, hS.F ht⟩) hS.2.2 dX7_deed_206
                  · skip
                    have nc_9 : ¬ (nc1_3 ≤ z) := fun h => c_9 ((nI_leI (a := nc1_3) (b := z) (by omega) (by omega)).mpr h)
                    refine lv_aload_n hx hb dX7_deed_136 rfl (lv_at hl 0 rfl) ?_
                    refine va_get (D := D) (ci := 9) (v := .ref (a 1)) (C := RX7) (T := TX7) (N := 24) hx hb hts (by decide +kernel) hown hK hP 0 rfl rfl 0 (by decide) (hts (.fieldLink RX7 7 "LandDeedsModel" "state" "[I") (by decide +kernel)) (fun _ h9 => h9) rfl dX7_deed_137 ?_
                    refine lv_bipush (v := 12) hx hb dX7_deed_140 (by decide) ?_
                    refine lv_bipush (v := 8) hx hb dX7_deed_142 (by decide) ?_
                    refine lv_iload hx hb dX7_deed_144 (lv_at hl 1 rfl) ?_
                    refine lv_imul hx hb dX7_deed_146 ?_
                    refine u_eqi (show (8 : Int32) * (nI kk) = nI (8 * kk) from nI_m 8 kk) ?_
                    refine lv_iadd hx hb dX7_deed_147 ?_
                    refine u_eqi (show (12 : Int32) + (nI (8 * kk)) = nI (12 + 8 * kk) from nI_add 12 _) ?_
                    refine lv_iload hx hb dX7_deed_148 (lv_at hl 2 rfl) ?_
                    refine lv_iadd hx hb dX7_deed_150 ?_
                    refine u_eqi (show (nI (12 + 8 * kk)) + (nI z) = nI (12 + 8 * kk + z) from nI_add _ _) ?_
                    refine lv_aload_n hx hb dX7_deed_151 rfl (lv_at hl 0 rfl) ?_
                    refine va_get (D := D) (ci := 9) (v := .ref (a 7)) (C := RX7) (T := TX7) (N := 24) hx hb hts (by decide +kernel) hown hK hP 0 rfl rfl 11 (by decide) (hts (.fieldLink RX7 29 "LandDeedsModel" "cx" "[I") (by decide +kernel)) (fun _ h9 => h9) rfl dX7_deed_152 ?_
                    refine lv_iload hx hb dX7_deed_155 (lv_at hl 2 rfl) ?_
                    refine u_iald hx hb hK hP 7 0 rfl rfl rfl ⟨by omega, by omega⟩ dX7_deed_157 ?_
                    refine u_iast hx hb hK hP hD hS 1 0 rfl rfl rfl ⟨by omega, by omega⟩ dX7_deed_158 (fun H locs hP hD hS => ?_)
                    have hP : va_P D vwCl (MW cI cZ a (upd (upd (upd (upd (upd (upd (upd (upd v 4 (nI n0)) 7 (nI nc1_3)) 8 at1_3) 9 wy1_3) 10 nu1_3) 13 (isum rt1_3 nc1_3)) 14 (isum up1_3 nc1_3)) 15 (isum (stp rt1_3 up1_3) nc1_3)) su sl (updF (updF (updF (updF (updF F 1 (upd S1 (12 + 8 * kk + z) (X1_5 z))) 5 rt1_3) 6 up1_3) 7 X1_5) 8 Y1_5)) H := hP
                    have hD : va_D A (MW cI cZ a (upd (upd (upd (upd (upd (upd (upd (upd v 4 (nI n0)) 7 (nI nc1_3)) 8 at1_3) 9 wy1_3) 10 nu1_3) 13 (isum rt1_3 nc1_3)) 14 (isum up1_3 nc1_3)) 15 (isum (stp rt1_3 up1_3) nc1_3)) su sl (updF (updF (updF (updF (updF F 1 (upd S1 (12 + 8 * kk + z) (X1_5 z))) 5 rt1_3) 6 up1_3) 7 X1_5) 8 Y1_5)) := hD
                    refine lv_aload_n hx hb dX7_deed_159 rfl (lv_at hl 0 rfl) ?_
                    refine va_get (D := D) (ci := 9) (v := .ref (a 1)) (C := RX7) (T := TX7) (N := 24) hx hb hts (by decide +kernel) hown hK hP 0 rfl rfl 0 (by decide) (hts (.fieldLink RX7 7 "LandDeedsModel" "state" "[I") (by decide +kernel)) (fun _ h9 => h9) rfl dX7_deed_160 ?_
                    refine lv_bipush (v := 60) hx hb dX7_deed_163 (by decide) ?_
                    refine lv_bipush (v := 8) hx hb dX7_deed_165 (by decide) ?_
                    refine lv_iload hx hb dX7_deed_167 (lv_at hl 1 rfl) ?_
                    refine lv_imul hx hb dX7_deed_169 ?_
                    refine u_eqi (show (8 : Int32) * (nI kk) = nI (8 * kk) from nI_m 8 kk) ?_
                    refine lv_iadd hx hb dX7_deed_170 ?_
                    refine u_eqi (show (60 : Int32) + (nI (8 * kk)) = nI (60 + 8 * kk) from nI_add 60 _) ?_
                    refine lv_iload hx hb dX7_deed_171 (lv_at hl 2 rfl) ?_
                    refine lv_iadd hx hb dX7_deed_173 ?_
                    refine u_eqi (show (nI (60 + 8 * kk)) + (nI z) = nI (60 + 8 * kk + z) from nI_add _ _) ?_
                    refine lv_aload_n hx hb dX7_deed_174 rfl (lv_at hl 0 rfl) ?_
                    refine va_get (D := D) (ci := 9) (v := .ref (a 8)) (C := RX7) (T := TX7) (N := 24) hx hb hts (by decide +kernel) hown hK hP 0 rfl rfl 12 (by decide) (hts (.fieldLink RX7 32 "LandDeedsModel" "cy" "[I") (by decide +kernel)) (fun _ h9 => h9) rfl dX7_deed_175 ?_
                    refine lv_iload hx hb dX7_deed_178 (lv_at hl 2 rfl) ?_
                    refine u_iald hx hb hK hP 8 0 rfl rfl rfl ⟨by omega, by omega⟩ dX7_deed_180 ?_
                    refine u_iast hx hb hK hP hD hS 1 0 rfl rfl rfl ⟨by omega, by omega⟩ dX7_deed_181 (fun H locs hP hD hS => ?_)
                    have hP : va_P D vwCl (MW cI cZ a (upd (upd (upd (upd (upd (upd (upd (upd v 4 (nI n0)) 7 (nI nc1_3)) 8 at1_3) 9 wy1_3) 10 nu1_3) 13 (isum rt1_3 nc1_3)) 14 (isum up1_3 nc1_3)) 15 (isum (stp rt1_3 up1_3) nc1_3)) su sl (updF (updF (updF (updF (updF F 1 (upd (upd S1 (12 + 8 * kk + z) (X1_5 z)) (60 + 8 * kk + z) (Y1_5 z))) 5 rt1_3) 6 up1_3) 7 X1_5) 8 Y1_5)) H := hP
                    have hD : va_D A (MW cI cZ a (upd (upd (upd (upd (upd (upd (upd (upd v 4 (nI n0)) 7 (nI nc1_3)) 8 at1_3) 9 wy1_3) 10 nu1_3) 13 (isum rt1_3 nc1_3)) 14 (isum up1_3 nc1_3)) 15 (isum (stp rt1_3 up1_3) nc1_3)) su sl (updF (updF (updF (updF (updF F 1 (upd (upd S1 (12 + 8 * kk + z) (X1_5 z)) (60 + 8 * kk + z) (Y1_5 z))) 5 rt1_3) 6 up1_3) 7 X1_5) 8 Y1_5)) := hD
                    refine lv_iinc (v := nI (z + 1)) (lv' := [(5, .int (nI (z + 1))), (0, .ref (a 0)), (4, .int (nI kk))]) hx hb dX7_deed_182 hl (k := 2) rfl (nI_1 _) (by decide) rfl (fun ls hl => ?_)
                    refine lv_goto (tgt := 127) hx hb dX7_deed_185 (by decide) ?_
                    exact ih_127 (z + 1) (upd (upd S1 (12 + 8 * kk + z) (X1_5 z)) (60 + 8 * kk + z) (Y1_5 z)) (by omega) (ADW_s (by omega) (by omega) hAW) (by omega) _ _ hP hD hS ls (lv_sub hl [1, 2, 0] rfl)
              exact LOOP_127 (nc1_3 - 0 + 1) 0 (upd (upd (F 1) kk yr) (6 + kk) (nI nc1_3)) (Nat.zero_le _) (ADW_0 (by omega) e1) (Nat.lt_succ_self _) _ _ hP hD hS ls (lv_sub hl [2, 1, 0] rfl)
            · skip
              have nc_8 : kk = 6 := (nI_eq (a := kk) (b := 6) (by omega) (by omega)).mp c_8
              refine lv_bipush (v := (-4)) hx hb dX7_deed_88 (by decide) ?_
              rw [← hQ]
              have hP9 := hP
              have hD9 := hD
              exact W.iret (v := (-4)) hx hb hr (fun t ht hW => ⟨⟨_, (upd (upd (upd (upd (upd (upd (upd (upd v 4 (nI n0)) 7 (nI nc1_3)) 8 at1_3) 9 wy1_3) 10 nu1_3) 13 (isum rt1_3 nc1_3)) 14 (isum up1_3 nc1_3)) 15 (isum (stp rt1_3 up1_3) nc1_3), su, sl, updF (updF (updF (updF F 5 rt1_3) 6 up1_3) 7 X1_5) 8 Y1_5), rfl, ⟨none, (Or.inr (Or.inr ⟨hpy9, _, _, _, ht9, Or.inr (Or.inr (Or.inl ⟨by rw [← e9x, ← e9y]; exact fun q => absurd c_6 (Int32.not_le.mpr q), hsn9.mp nc_7, nc_8, rfl, rfl⟩))⟩)), rfl, rfl, Or.inl ⟨rfl, rfl, rfl, rfl⟩⟩, by rw [ht]; exact hP9, hD9⟩, hS.F ht⟩) hS.2.2 dX7_deed_90
          · skip
            have nc_7 := zb_eq0.mp c_7
            refine lv_bipush (v := (-8)) hx hb dX7_deed_73 (by decide) ?_
            rw [← hQ]
            have hP9 := hP
            have hD9 := hD
            exact W.iret (v := (-8)) hx hb hr (fun t ht hW => ⟨⟨_, (upd (upd (upd (upd (upd (upd (upd (upd v 4 (nI n0)) 7 (nI nc1_3)) 8 at1_3) 9 wy1_3) 10 nu1_3) 13 (isum rt1_3 nc1_3)) 14 (isum up1_3 nc1_3)) 15 (isum (stp rt1_3 up1_3) nc1_3), su, sl, updF (updF (updF (updF F 5 rt1_3) 6 up1_3) 7 X1_5) 8 Y1_5), rfl, ⟨none, (Or.inr (Or.inr ⟨hpy9, _, _, _, ht9, Or.inr (Or.inl ⟨by rw [← e9x, ← e9y]; exact fun q => absurd c_6 (Int32.not_le.mpr q), fun q => nc_7 (hsn9.mpr q), rfl, rfl⟩)⟩)), rfl, rfl, Or.inl ⟨rfl, rfl, rfl, rfl⟩⟩, by rw [ht]; exact hP9, hD9⟩, hS.F ht⟩) hS.2.2 dX7_deed_75
        · skip
          refine lv_bipush (v := (-5)) hx hb dX7_deed_63 (by decide) ?_
          rw [← hQ]
          have hP9 := hP
          have hD9 := hD
          exact W.iret (v := (-5)) hx hb hr (fun t ht hW => ⟨⟨_, (upd (upd (upd (upd (upd (upd (upd (upd v 4 (nI n0)) 7 (nI nc1_3)) 8 at1_3) 9 wy1_3) 10 nu1_3) 13 (isum rt1_3 nc1_3)) 14 (isum up1_3 nc1_3)) 15 (isum (stp rt1_3 up1_3) nc1_3), su, sl, updF (updF (updF (updF F 5 rt1_3) 6 up1_3) 7 X1_5) 8 Y1_5), rfl, ⟨none, (Or.inr (Or.inr ⟨hpy9, _, _, _, ht9, Or.inl ⟨by rw [← e9x, ← e9y]; exact Int32.not_le.mp c_6, rfl, rfl⟩⟩)), rfl, rfl, Or.inl ⟨rfl, rfl, rfl, rfl⟩⟩, by rw [ht]; exact hP9, hD9⟩, hS.F ht⟩) hS.2.2 dX7_deed_65
      · skip
        have hno9 := ME_no hw_3 hn0 c_4
        refine lv_bipush (v := (-7)) hx hb dX7_deed_29 (by decide) ?_
        rw [← hQ]
        have hP9 := hP
        have hD9 := hD
        exact W.iret (v := (-7)) hx hb hr (fun t ht hW => ⟨⟨_, (upd (upd (upd (upd (upd v 4 (nI n0)) 7 (nI nc1_3)) 8 at1_3) 9 wy1_3) 10 nu1_3, su, sl, updF (updF F 5 rt1_3) 6 up1_3), rfl, ⟨none, Or.inr (Or.inl ⟨hpy9, hno9, rfl, rfl⟩), rfl, rfl, Or.inl ⟨rfl, rfl, rfl, rfl⟩⟩, by rw [ht]; exact hP9, hD9⟩, hS.F ht⟩) hS.2.2 dX7_deed_31
    · skip
      have nc_2 := zb_eq0.mp c_2
      have hny9 : ¬ (isP x y ∧ 1 ≤ yr.toInt ∧ yr.toInt ≤ 999) := fun q => nc_2 (by rw [li_1, li_999]; exact q.2)
      refine lv_bipush (v := (-2)) hx hb dX7_deed_19 (by decide) ?_
      rw [← hQ]
      have hP9 := hP
      have hD9 := hD
      exact W.iret (v := (-2)) hx hb hr (fun t ht hW => ⟨⟨_, (upd v 4 (nI n0), su, sl, F), rfl, ⟨none, Or.inl ⟨hny9, rfl, rfl⟩, rfl, rfl, Or.inl ⟨rfl, rfl, rfl, rfl⟩⟩, by rw [ht]; exact hP9, hD9⟩, hS.F ht⟩) hS.2.2 dX7_deed_21

