/-! the tables' words that are no words of a list: private methods between the nested classes, and the array classes -/
def KW (D : va_G) (cI cB cZ cP : ClassId) (U : State) : Prop :=
  va_K D vwCl [(cI, .int), (cB, .byte), (cZ, .boolean), (cP, .object RX2)] U ∧ va_AO RX2 U ∧
  va_Nw (.methodLinkNest RX6 9 yX4_init RX6) U ∧ va_Nw (.methodLinkNest RX6 18 yX0_init RX6) U ∧ va_Nw (.methodLinkNest RX6 31 yX5_init RX6) U ∧ va_Nw (.methodLinkNest RX6 38 yX3_init RX6) U ∧
  va_Nw (.methodLinkNest RX1 26 yX6_isPost RX6) U ∧ va_Nw (.methodLinkNest RX1 63 yX6_greatestDivisor RX6) U ∧ va_Nw (.methodLinkNest RX2 52 yX6_howManyInBoth RX6) U ∧ va_Nw (.methodLinkNest RX0 44 yX6_isPlace RX6) U ∧
  va_Nw (.methodLinkNest RX3 22 yX6_greatestDivisor RX6) U ∧ va_Nw (.methodLinkNest RX0 54 yX6_isIn RX6) U ∧ va_Nw (.methodLinkNest RX5 45 yX6_isIn RX6) U ∧ va_Nw (.methodLinkNest RX5 63 yX6_isPost RX6) U
theorem KW.n_RX6_9 {D : va_G} {cI cB cZ cP : ClassId} {U : State} (h : KW D cI cB cZ cP U) : va_Nw (.methodLinkNest RX6 9 yX4_init RX6) U := h.2.2.1
theorem KW.n_RX6_18 {D : va_G} {cI cB cZ cP : ClassId} {U : State} (h : KW D cI cB cZ cP U) : va_Nw (.methodLinkNest RX6 18 yX0_init RX6) U := h.2.2.2.1
theorem KW.n_RX6_31 {D : va_G} {cI cB cZ cP : ClassId} {U : State} (h : KW D cI cB cZ cP U) : va_Nw (.methodLinkNest RX6 31 yX5_init RX6) U := h.2.2.2.2.1
theorem KW.n_RX6_38 {D : va_G} {cI cB cZ cP : ClassId} {U : State} (h : KW D cI cB cZ cP U) : va_Nw (.methodLinkNest RX6 38 yX3_init RX6) U := h.2.2.2.2.2.1
theorem KW.n_RX1_26 {D : va_G} {cI cB cZ cP : ClassId} {U : State} (h : KW D cI cB cZ cP U) : va_Nw (.methodLinkNest RX1 26 yX6_isPost RX6) U := h.2.2.2.2.2.2.1
theorem KW.n_RX1_63 {D : va_G} {cI cB cZ cP : ClassId} {U : State} (h : KW D cI cB cZ cP U) : va_Nw (.methodLinkNest RX1 63 yX6_greatestDivisor RX6) U := h.2.2.2.2.2.2.2.1
theorem KW.n_RX2_52 {D : va_G} {cI cB cZ cP : ClassId} {U : State} (h : KW D cI cB cZ cP U) : va_Nw (.methodLinkNest RX2 52 yX6_howManyInBoth RX6) U := h.2.2.2.2.2.2.2.2.1
theorem KW.n_RX0_44 {D : va_G} {cI cB cZ cP : ClassId} {U : State} (h : KW D cI cB cZ cP U) : va_Nw (.methodLinkNest RX0 44 yX6_isPlace RX6) U := h.2.2.2.2.2.2.2.2.2.1
theorem KW.n_RX3_22 {D : va_G} {cI cB cZ cP : ClassId} {U : State} (h : KW D cI cB cZ cP U) : va_Nw (.methodLinkNest RX3 22 yX6_greatestDivisor RX6) U := h.2.2.2.2.2.2.2.2.2.2.1
theorem KW.n_RX0_54 {D : va_G} {cI cB cZ cP : ClassId} {U : State} (h : KW D cI cB cZ cP U) : va_Nw (.methodLinkNest RX0 54 yX6_isIn RX6) U := h.2.2.2.2.2.2.2.2.2.2.2.1
theorem KW.n_RX5_45 {D : va_G} {cI cB cZ cP : ClassId} {U : State} (h : KW D cI cB cZ cP U) : va_Nw (.methodLinkNest RX5 45 yX6_isIn RX6) U := h.2.2.2.2.2.2.2.2.2.2.2.2.1
theorem KW.n_RX5_63 {D : va_G} {cI cB cZ cP : ClassId} {U : State} (h : KW D cI cB cZ cP U) : va_Nw (.methodLinkNest RX5 63 yX6_isPost RX6) U := h.2.2.2.2.2.2.2.2.2.2.2.2.2
theorem KW.warm {D : va_G} {cI cB cZ cP : ClassId} {s U : State} (hW : s.WarmedH U.vm) (h : KW D cI cB cZ cP s) : KW D cI cB cZ cP U := by
  obtain ⟨h0, ha, h1, h2, h3, h4, h5, h6, h7, h8, h9, h10, h11, h12⟩ := h
  exact ⟨va_K.moved hW.alike h0, va_AO.moved hW.alike ha, va_Nw.warmM hW h1, va_Nw.warmM hW h2, va_Nw.warmM hW h3, va_Nw.warmM hW h4, va_Nw.warmM hW h5, va_Nw.warmM hW h6, va_Nw.warmM hW h7, va_Nw.warmM hW h8, va_Nw.warmM hW h9, va_Nw.warmM hW h10, va_Nw.warmM hW h11, va_Nw.warmM hW h12⟩
theorem KW.same {D : va_G} {cI cB cZ cP : ClassId} {s U : State} (hv : s.vm = U.vm) (h : KW D cI cB cZ cP s) : KW D cI cB cZ cP U := by
  obtain ⟨h0, ha, h1, h2, h3, h4, h5, h6, h7, h8, h9, h10, h11, h12⟩ := h
  exact ⟨va_K.moved (hv ▸ Vm.Alike.refl s.vm) h0, va_AO.moved (hv ▸ Vm.Alike.refl s.vm) ha, va_Nw.same rfl hv h1, va_Nw.same rfl hv h2, va_Nw.same rfl hv h3, va_Nw.same rfl hv h4, va_Nw.same rfl hv h5, va_Nw.same rfl hv h6, va_Nw.same rfl hv h7, va_Nw.same rfl hv h8, va_Nw.same rfl hv h9, va_Nw.same rfl hv h10, va_Nw.same rfl hv h11, va_Nw.same rfl hv h12⟩
def E0 : Heap → Prop := fun _ => True
/-- a fact of the heap that no change within a world's own cells touches -/
def EF (ws : va_W) (sz : Nat) (E : Heap → Prop) (H : Heap) : Prop := ∀ H1 : Heap, (∀ q : Nat, q < H.size → ¬ va_A ws sz q → H1[q]? = H[q]?) → E H1
theorem EF.t {ws : va_W} {sz : Nat} {H : Heap} : EF ws sz E0 H := fun _ _ => trivial
theorem EF.sub {E : Heap → Prop} {H0 H : Heap} {A : Nat → Prop} {wc : va_W} (hE : ∀ H1 : Heap, (∀ q : Nat, q < H0.size → ¬ A q → H1[q]? = H0[q]?) → E H1) (hs : H0.size ≤ H.size) (hS : ∀ q : Nat, q < H0.size → ¬ A q → H[q]? = H0[q]?) (hF : ∀ q, va_A wc H.size q → A q) : EF wc H.size E H :=
  fun H1 h1 => hE H1 (fun q hq hA => (h1 q (Nat.lt_of_lt_of_le hq hs) (fun z => hA (hF q z))).trans (hS q hq hA))
theorem pS {D : va_G} {cI cB cZ cP : ClassId} {s : State} {H : Heap} {av : List Value} {ws : va_W} {E : Heap → Prop} (hP : va_P D vwCl ws H) (hK : KW D cI cB cZ cP s) (hE : E H) : PreS s H (va_Pc av (fun U => va_P D vwCl ws U.heap ∧ KW D cI cB cZ cP U ∧ E U.heap)) av :=
  ⟨fun a U g mk q => ⟨q.1, q.2.1, KW.same (s := U) (U := U.calling g mk a) rfl q.2.2.1, q.2.2.2⟩, fun U hU hW => ⟨rfl, by rw [hU]; exact hP, hK.warm hW, by rw [hU]; exact hE⟩⟩
theorem pV {D : va_G} {cI cB cZ cP : ClassId} {s : State} {H : Heap} {b q0 ci : Nat} {q : vw_C} {fs As : List Value} {ws : va_W} {E : Heap → Prop} (hP : va_P D vwCl ws H) (hK : KW D cI cB cZ cP s) (hE : E H) (hc : vwCl[ci]? = some q) (he : ws[q0]? = some (b, .inr (ci, fs))) :
    PreV s H q.1 b (va_Pc (.ref b :: As) (fun U => va_P D vwCl ws U.heap ∧ KW D cI cB cZ cP U ∧ E U.heap)) As :=
  ⟨fun a U g mk q => ⟨q.1, q.2.1, KW.same (s := U) (U := U.calling g mk a) rfl q.2.2.1, q.2.2.2⟩, va_recv hK.1 hP hc he, fun U hU hW => ⟨rfl, by rw [hU]; exact hP, hK.warm hW, by rw [hU]; exact hE⟩⟩
theorem pSQ {D : va_G} {cI cB cZ cP : ClassId} {s : State} {H : Heap} {av : List Value} {ws : va_W} {A : Nat → Prop} {E : Heap → Prop} (hP : va_P D vwCl ws H) (hD : va_D A ws) (hK : KW D cI cB cZ cP s) (hE : EF ws H.size E H) : PreS s H (va_Pc av (fun U => U.heap.size = H.size ∧ va_P D vwCl ws U.heap ∧ KW D cI cB cZ cP U ∧ va_D (fun _ => True) ws ∧ EF ws H.size E U.heap)) av :=
  ⟨fun a U g mk q => ⟨q.1, q.2.1, q.2.2.1, KW.same (s := U) (U := U.calling g mk a) rfl q.2.2.2.1, q.2.2.2.2.1, q.2.2.2.2.2⟩, fun U hU hW => ⟨rfl, by rw [hU], by rw [hU]; exact hP, hK.warm hW, hD.weaken (fun _ _ _ _ => trivial), by rw [hU]; exact hE⟩⟩
theorem pVQ {D : va_G} {cI cB cZ cP : ClassId} {s : State} {H : Heap} {b q0 ci : Nat} {q : vw_C} {fs As : List Value} {ws : va_W} {A : Nat → Prop} {E : Heap → Prop} (hP : va_P D vwCl ws H) (hD : va_D A ws) (hK : KW D cI cB cZ cP s) (hE : EF ws H.size E H) (hc : vwCl[ci]? = some q) (he : ws[q0]? = some (b, .inr (ci, fs))) :
    PreV s H q.1 b (va_Pc (.ref b :: As) (fun U => U.heap.size = H.size ∧ va_P D vwCl ws U.heap ∧ KW D cI cB cZ cP U ∧ va_D (fun _ => True) ws ∧ EF ws H.size E U.heap)) As :=
  ⟨fun a U g mk q => ⟨q.1, q.2.1, q.2.2.1, KW.same (s := U) (U := U.calling g mk a) rfl q.2.2.2.1, q.2.2.2.2.1, q.2.2.2.2.2⟩, va_recv hK.1 hP hc he, fun U hU hW => ⟨rfl, by rw [hU], by rw [hU]; exact hP, hK.warm hW, hD.weaken (fun _ _ _ _ => trivial), by rw [hU]; exact hE⟩⟩
/-! rows of the walk -/
def bI (b : Bool) : Int32 := if b then 1 else 0
def mx (x y : Int32) : Int32 := if x < y then y else x
def mn (x y : Int32) : Int32 := if y < x then y else x
def ab (x : Int32) : Int32 := if 0 ≤ x then x else 0 - x
def abL (x : Int64) : Int64 := if 0 < x then x else -x
theorem nar_bI (b : Bool) : narrow .boolean (.int (bI b)) = .int (bI b) := by cases b <;> rfl
section UW
variable {p : Program} {l : Launch} {e : Env} {R : Room} {s : State} {m : MethodId} {args : Array Value} {below : List Frame} {meth : Method} {c : Code} {H H0 : Heap} {locs : List Loc} {cells slots : Nat} {Q : State → Prop}
variable {pc : Nat} {ls : Array Slot} {rest st0 : List Value} {a : Array Value} {cc : ByteArray} {D : va_G} {cl : List vw_C} {tys : List (ClassId × FieldType)} {ws : va_W} {A : Nat → Prop} {b : Nat}
theorem u_genQ {g : JFrame} {Q0 : State → Prop} (h : ∀ Q : State → Prop, Q0 = Q → W p l e R s m args below meth c H locs cells slots Q g) : W p l e R s m args below meth c H locs cells slots Q0 g := h Q0 rfl
theorem u_eqi {x y : Int32} (h : x = y) (k : W p l e R s m args below meth c H locs cells slots Q (F0 m pc ls (.int y :: rest))) : W p l e R s m args below meth c H locs cells slots Q (F0 m pc ls (.int x :: rest)) := h ▸ k
theorem u_eql {x y : Int64} (h : x = y) (k : W p l e R s m args below meth c H locs cells slots Q (F0 m pc ls (.long y :: rest))) : W p l e R s m args below meth c H locs cells slots Q (F0 m pc ls (.long x :: rest)) := h ▸ k
theorem u_callSi {v : Int32} (hr : CallRun p l e R s m args below meth c H locs cells slots 0 0 (F0 m pc ls st0) rest (vp_Si (fun r => r = v) a) (fun _ => False)) (kk : W p l e R s m args below meth c H locs cells slots Q (F0 m (pc + 3) ls (.int v :: rest))) : W p l e R s m args below meth c H locs cells slots Q (F0 m pc ls st0) :=
  vp_callSi hr (fun r h => h ▸ kk)
theorem u_callSl {v : Int64} (hr : CallRun p l e R s m args below meth c H locs cells slots 0 0 (F0 m pc ls st0) rest (vp_Sl (fun r => r = v) a) (fun _ => False)) (kk : W p l e R s m args below meth c H locs cells slots Q (F0 m (pc + 3) ls (.long v :: rest))) : W p l e R s m args below meth c H locs cells slots Q (F0 m pc ls st0) :=
  vp_callSl hr (fun r h => h ▸ kk)
theorem u_callSq {v : Option Nat} (hr : CallRun p l e R s m args below meth c H locs cells slots 0 0 (F0 m pc ls st0) rest (va_Sq (fun r => r = v) a) (fun _ => False)) (kk : W p l e R s m args below meth c H locs cells slots Q (F0 m (pc + 3) ls (va_rf v :: rest))) : W p l e R s m args below meth c H locs cells slots Q (F0 m pc ls st0) :=
  va_csq hr (fun r h => h ▸ kk)
theorem u_iald (hexec : p.tables.exec = Jvm.exec) (hb : c.code = cc) (hK : va_K D cl tys s) (hP : va_P D cl ws H) (q0 t0 : Nat) {cA : ClassId} {n : Nat} {f : Nat → Int32} (ha : ws[q0]? = some (b, .inl (cA, n, .inl f))) (ht : tys[t0]? = some (cA, .int)) {i : Int32} {k : Nat} (hi : i = nI k) (hk : k < n ∧ n < 2 ^ 31) (hdg : decode cc pc = .ok (.iaload, 1))
    (kk : W p l e R s m args below meth c H locs cells slots Q (F0 m (pc + 1) ls (.int (f k) :: rest))) : W p l e R s m args below meth c H locs cells slots Q (F0 m pc ls (.int i :: .ref b :: rest)) := by
  subst hi
  refine va_iald hexec hb hK hP q0 t0 ha ht (vp_in_nI hk.1 hk.2) hdg ?_
  rw [nI_clamp (by omega)]
  exact kk
theorem u_bald (hexec : p.tables.exec = Jvm.exec) (hb : c.code = cc) (hK : va_K D cl tys s) (hP : va_P D cl ws H) (q0 t0 : Nat) {cA : ClassId} {n : Nat} {f : Nat → Int32} (ha : ws[q0]? = some (b, .inl (cA, n, .inl f))) (ht : tys[t0]? = some (cA, .byte)) {i : Int32} {k : Nat} (hi : i = nI k) (hk : k < n ∧ n < 2 ^ 31) (hdg : decode cc pc = .ok (.baload, 1))
    (kk : W p l e R s m args below meth c H locs cells slots Q (F0 m (pc + 1) ls (.int (f k) :: rest))) : W p l e R s m args below meth c H locs cells slots Q (F0 m pc ls (.int i :: .ref b :: rest)) := by
  subst hi
  refine va_bald hexec hb hK hP q0 t0 ha ht (vp_in_nI hk.1 hk.2) hdg ?_
  rw [nI_clamp (by omega)]
  exact kk
theorem u_zald (hexec : p.tables.exec = Jvm.exec) (hb : c.code = cc) (hK : va_K D cl tys s) (hP : va_P D cl ws H) (q0 t0 : Nat) {cA : ClassId} {n : Nat} {f : Nat → Int32} (ha : ws[q0]? = some (b, .inl (cA, n, .inl f))) (ht : tys[t0]? = some (cA, .boolean)) {i : Int32} {k : Nat} (hi : i = nI k) (hk : k < n ∧ n < 2 ^ 31) (hdg : decode cc pc = .ok (.baload, 1))
    (kk : W p l e R s m args below meth c H locs cells slots Q (F0 m (pc + 1) ls (.int (f k) :: rest))) : W p l e R s m args below meth c H locs cells slots Q (F0 m pc ls (.int i :: .ref b :: rest)) := by
  subst hi
  refine va_zald hexec hb hK hP q0 t0 ha ht (vp_in_nI hk.1 hk.2) hdg ?_
  rw [nI_clamp (by omega)]
  exact kk
theorem u_iast (hexec : p.tables.exec = Jvm.exec) (hb : c.code = cc) (hK : va_K D cl tys s) (hP : va_P D cl ws H) (hD : va_D A ws) (hS : va_S A H0 H locs) (q0 t0 : Nat) {cA : ClassId} {n : Nat} {f : Nat → Int32} (ha : ws[q0]? = some (b, .inl (cA, n, .inl f))) (ht : tys[t0]? = some (cA, .int)) {i : Int32} {x : Int32} {k : Nat} (hi : i = nI k) (hk : k < n ∧ n < 2 ^ 31) (hdg : decode cc pc = .ok (.iastore, 1))
    (kk : ∀ (H1 : Heap) (locs1 : List Loc), va_P D cl (ws.set q0 (b, .inl (cA, n, .inl (upd f k x)))) H1 → va_D A (ws.set q0 (b, .inl (cA, n, .inl (upd f k x)))) → va_S A H0 H1 locs1 → W p l e R s m args below meth c H1 locs1 cells slots Q (F0 m (pc + 1) ls rest)) : W p l e R s m args below meth c H locs cells slots Q (F0 m pc ls (.int x :: .int i :: .ref b :: rest)) := by
  subst hi
  refine va_iast hexec hb hK hP hD hS q0 t0 ha ht (vp_in_nI hk.1 hk.2) hdg ?_
  rw [nI_clamp (by omega)]
  exact kk
theorem u_bast (hexec : p.tables.exec = Jvm.exec) (hb : c.code = cc) (hK : va_K D cl tys s) (hP : va_P D cl ws H) (hD : va_D A ws) (hS : va_S A H0 H locs) (q0 t0 : Nat) {cA : ClassId} {n : Nat} {f : Nat → Int32} (ha : ws[q0]? = some (b, .inl (cA, n, .inl f))) (ht : tys[t0]? = some (cA, .byte)) {i : Int32} {x : Int32} {k : Nat} (hi : i = nI k) (hk : k < n ∧ n < 2 ^ 31) (hdg : decode cc pc = .ok (.bastore, 1))
    (kk : ∀ (H1 : Heap) (locs1 : List Loc), va_P D cl (ws.set q0 (b, .inl (cA, n, .inl (upd f k (vp_nar .byte x))))) H1 → va_D A (ws.set q0 (b, .inl (cA, n, .inl (upd f k (vp_nar .byte x))))) → va_S A H0 H1 locs1 → W p l e R s m args below meth c H1 locs1 cells slots Q (F0 m (pc + 1) ls rest)) : W p l e R s m args below meth c H locs cells slots Q (F0 m pc ls (.int x :: .int i :: .ref b :: rest)) := by
  subst hi
  refine va_bast hexec hb hK hP hD hS q0 t0 ha ht (vp_in_nI hk.1 hk.2) hdg ?_
  rw [nI_clamp (by omega)]
  exact kk
theorem u_zast (hexec : p.tables.exec = Jvm.exec) (hb : c.code = cc) (hK : va_K D cl tys s) (hP : va_P D cl ws H) (hD : va_D A ws) (hS : va_S A H0 H locs) (q0 t0 : Nat) {cA : ClassId} {n : Nat} {f : Nat → Int32} (ha : ws[q0]? = some (b, .inl (cA, n, .inl f))) (ht : tys[t0]? = some (cA, .boolean)) {i : Int32} {x : Int32} {k : Nat} (hi : i = nI k) (hk : k < n ∧ n < 2 ^ 31) (hdg : decode cc pc = .ok (.bastore, 1))
    (kk : ∀ (H1 : Heap) (locs1 : List Loc), va_P D cl (ws.set q0 (b, .inl (cA, n, .inl (upd f k (vp_nar .boolean x))))) H1 → va_D A (ws.set q0 (b, .inl (cA, n, .inl (upd f k (vp_nar .boolean x))))) → va_S A H0 H1 locs1 → W p l e R s m args below meth c H1 locs1 cells slots Q (F0 m (pc + 1) ls rest)) : W p l e R s m args below meth c H locs cells slots Q (F0 m pc ls (.int x :: .int i :: .ref b :: rest)) := by
  subst hi
  refine va_zast hexec hb hK hP hD hS q0 t0 ha ht (vp_in_nI hk.1 hk.2) hdg ?_
  rw [nI_clamp (by omega)]
  exact kk
theorem u_callSr {pa : Nat} (hr : CallRun p l e R s m args below meth c H locs cells slots 0 0 (F0 m pc ls st0) rest (va_Sq (fun r => r = some pa) a) (fun _ => False)) (kk : W p l e R s m args below meth c H locs cells slots Q (F0 m (pc + 3) ls (.ref pa :: rest))) : W p l e R s m args below meth c H locs cells slots Q (F0 m pc ls st0) :=
  va_csq hr (fun r h => h ▸ kk)
theorem u_callSn (hr : CallRun p l e R s m args below meth c H locs cells slots 0 0 (F0 m pc ls st0) rest (va_Sq (fun r => r = none) a) (fun _ => False)) (kk : W p l e R s m args below meth c H locs cells slots Q (F0 m (pc + 3) ls (.null :: rest))) : W p l e R s m args below meth c H locs cells slots Q (F0 m pc ls st0) :=
  va_csq hr (fun r h => h ▸ kk)
theorem u_aldo (hexec : p.tables.exec = Jvm.exec) (hb : c.code = cc) (hK : va_K D cl tys s) (hP : va_P D cl ws H) (q0 t0 : Nat) {cA : ClassId} {C : String} {n : Nat} {f : Nat → Option Nat} (ha : ws[q0]? = some (b, .inl (cA, n, .inr (.inr (.inr (.inr f)))))) (ht : tys[t0]? = some (cA, .object C)) {i : Int32} {k : Nat} (hi : i = nI k) (hk : k < n ∧ n < 2 ^ 31) (hdg : decode cc pc = .ok (.aaload, 1))
    (kk : W p l e R s m args below meth c H locs cells slots Q (F0 m (pc + 1) ls (va_rf (f k) :: rest))) : W p l e R s m args below meth c H locs cells slots Q (F0 m pc ls (.int i :: .ref b :: rest)) := by
  subst hi
  refine va_aldq hexec hb hK hP q0 t0 ha ht (vp_in_nI hk.1 hk.2) hdg ?_
  rw [nI_clamp (by omega)]
  exact kk
theorem u_aldr (hexec : p.tables.exec = Jvm.exec) (hb : c.code = cc) (hK : va_K D cl tys s) (hP : va_P D cl ws H) (q0 t0 : Nat) {cA : ClassId} {C : String} {n pa : Nat} {f : Nat → Option Nat} (ha : ws[q0]? = some (b, .inl (cA, n, .inr (.inr (.inr (.inr f)))))) (ht : tys[t0]? = some (cA, .object C)) {i : Int32} {k : Nat} (hi : i = nI k) (hk : k < n ∧ n < 2 ^ 31) (hf : f k = some pa) (hdg : decode cc pc = .ok (.aaload, 1))
    (kk : W p l e R s m args below meth c H locs cells slots Q (F0 m (pc + 1) ls (.ref pa :: rest))) : W p l e R s m args below meth c H locs cells slots Q (F0 m pc ls (.int i :: .ref b :: rest)) := by
  refine u_aldo hexec hb hK hP q0 t0 ha ht hi hk hdg ?_
  rw [hf]
  exact kk
theorem u_newaI (hexec : p.tables.exec = Jvm.exec) (hb : c.code = cc) {cA : ClassId} (harr : (Cond.arrayClass .int).before args s = true) (hK : va_K D cl tys s) (t0 : Nat) (ht : tys[t0]? = some (cA, .int)) (hP : va_P D cl ws H) (hD : va_D A ws) (hS : va_S A H0 H locs) (hA : ∀ q, H0.size ≤ q → A q)
    {n : Int32} {N : Nat} (hn : n = nI N) (hN : N ≤ 65536) (hcells : cells + 1 ≤ R.cells) (hslots : slots + N ≤ R.slots) (hdg : decode cc pc = .ok (.newarray .int, 2))
    (kk : ∀ (q : Nat) (H1 : Heap), va_P D cl (ws ++ [(q, .inl (cA, N, .inl (fun _ => 0)))]) H1 → va_D A (ws ++ [(q, .inl (cA, N, .inl (fun _ => 0)))]) → va_S A H0 H1 locs → W p l e R s m args below meth c H1 locs (cells + 1) (slots + N) Q (F0 m (pc + 2) ls (.ref q :: rest))) : W p l e R s m args below meth c H locs cells slots Q (F0 m pc ls (.int n :: rest)) := by
  subst hn
  refine va_newa (atype := .int) (ty := .int) (a0 := (N, .inl (fun _ => 0))) hexec hb harr rfl hK hP hD hS hA (fun cA => rfl) (nI_pos (by omega)) (nI_clamp (by omega)) (by show N * 4 ≤ _; omega) hcells hslots hdg ?_
  intro q cA1 H1 hK1 hP1 hD1 hS1
  have h1 : s.vm.findClass _ = some cA1 := (hK1.2 tys.length (cA1, .int) (by simp)).2
  have h2 : s.vm.findClass _ = some cA := (hK.2 t0 (cA, .int) ht).2
  obtain rfl : cA1 = cA := Option.some.inj (h1.symm.trans h2)
  exact kk q H1 hP1 hD1 hS1
theorem u_newaB (hexec : p.tables.exec = Jvm.exec) (hb : c.code = cc) {cA : ClassId} (harr : (Cond.arrayClass .byte).before args s = true) (hK : va_K D cl tys s) (t0 : Nat) (ht : tys[t0]? = some (cA, .byte)) (hP : va_P D cl ws H) (hD : va_D A ws) (hS : va_S A H0 H locs) (hA : ∀ q, H0.size ≤ q → A q)
    {n : Int32} {N : Nat} (hn : n = nI N) (hN : N ≤ 65536) (hcells : cells + 1 ≤ R.cells) (hslots : slots + N ≤ R.slots) (hdg : decode cc pc = .ok (.newarray .byte, 2))
    (kk : ∀ (q : Nat) (H1 : Heap), va_P D cl (ws ++ [(q, .inl (cA, N, .inl (fun _ => 0)))]) H1 → va_D A (ws ++ [(q, .inl (cA, N, .inl (fun _ => 0)))]) → va_S A H0 H1 locs → W p l e R s m args below meth c H1 locs (cells + 1) (slots + N) Q (F0 m (pc + 2) ls (.ref q :: rest))) : W p l e R s m args below meth c H locs cells slots Q (F0 m pc ls (.int n :: rest)) := by
  subst hn
  refine va_newa (atype := .byte) (ty := .byte) (a0 := (N, .inl (fun _ => 0))) hexec hb harr rfl hK hP hD hS hA (fun cA => rfl) (nI_pos (by omega)) (nI_clamp (by omega)) (by show N * 1 ≤ _; omega) hcells hslots hdg ?_
  intro q cA1 H1 hK1 hP1 hD1 hS1
  have h1 : s.vm.findClass _ = some cA1 := (hK1.2 tys.length (cA1, .byte) (by simp)).2
  have h2 : s.vm.findClass _ = some cA := (hK.2 t0 (cA, .byte) ht).2
  obtain rfl : cA1 = cA := Option.some.inj (h1.symm.trans h2)
  exact kk q H1 hP1 hD1 hS1
theorem u_newaZ (hexec : p.tables.exec = Jvm.exec) (hb : c.code = cc) {cA : ClassId} (harr : (Cond.arrayClass .boolean).before args s = true) (hK : va_K D cl tys s) (t0 : Nat) (ht : tys[t0]? = some (cA, .boolean)) (hP : va_P D cl ws H) (hD : va_D A ws) (hS : va_S A H0 H locs) (hA : ∀ q, H0.size ≤ q → A q)
    {n : Int32} {N : Nat} (hn : n = nI N) (hN : N ≤ 65536) (hcells : cells + 1 ≤ R.cells) (hslots : slots + N ≤ R.slots) (hdg : decode cc pc = .ok (.newarray .boolean, 2))
    (kk : ∀ (q : Nat) (H1 : Heap), va_P D cl (ws ++ [(q, .inl (cA, N, .inl (fun _ => 0)))]) H1 → va_D A (ws ++ [(q, .inl (cA, N, .inl (fun _ => 0)))]) → va_S A H0 H1 locs → W p l e R s m args below meth c H1 locs (cells + 1) (slots + N) Q (F0 m (pc + 2) ls (.ref q :: rest))) : W p l e R s m args below meth c H locs cells slots Q (F0 m pc ls (.int n :: rest)) := by
  subst hn
  refine va_newa (atype := .boolean) (ty := .boolean) (a0 := (N, .inl (fun _ => 0))) hexec hb harr rfl hK hP hD hS hA (fun cA => rfl) (nI_pos (by omega)) (nI_clamp (by omega)) (by show N * 1 ≤ _; omega) hcells hslots hdg ?_
  intro q cA1 H1 hK1 hP1 hD1 hS1
  have h1 : s.vm.findClass _ = some cA1 := (hK1.2 tys.length (cA1, .boolean) (by simp)).2
  have h2 : s.vm.findClass _ = some cA := (hK.2 t0 (cA, .boolean) ht).2
  obtain rfl : cA1 = cA := Option.some.inj (h1.symm.trans h2)
  exact kk q H1 hP1 hD1 hS1
theorem u_newaP (hexec : p.tables.exec = Jvm.exec) (hb : c.code = cc) {cA : ClassId} {own C : String} {index : Nat} (hown : s.vm.findClass own = some m.cls) (hclink : (Cond.classLink own index C).before args s = true) (hover : va_AO C s) (hK : va_K D cl tys s) (t0 : Nat) (ht : tys[t0]? = some (cA, .object C)) (hP : va_P D cl ws H) (hD : va_D A ws) (hS : va_S A H0 H locs) (hA : ∀ q, H0.size ≤ q → A q)
    {n : Int32} {N : Nat} (hn : n = nI N) (hN : N ≤ 65536) (hcells : cells + 1 ≤ R.cells) (hslots : slots + N ≤ R.slots) (hdg : decode cc pc = .ok (.anewarray index, 3))
    (kk : ∀ (q : Nat) (H1 : Heap), va_P D cl (ws ++ [(q, .inl (cA, N, .inr (.inr (.inr (.inr (fun _ => none))))))]) H1 → va_D A (ws ++ [(q, .inl (cA, N, .inr (.inr (.inr (.inr (fun _ => none))))))]) → va_S A H0 H1 locs → W p l e R s m args below meth c H1 locs (cells + 1) (slots + N) Q (F0 m (pc + 3) ls (.ref q :: rest))) : W p l e R s m args below meth c H locs cells slots Q (F0 m pc ls (.int n :: rest)) := by
  subst hn
  refine va_newq hexec hb hown hclink hover hK hP hD hS hA (nI_pos (by omega)) (nI_clamp (by omega)) (by omega) hcells hslots hdg ?_
  intro q cA1 H1 hK1 hP1 hD1 hS1
  obtain ⟨-, -, -, -, -, h1⟩ := (hK1.2 tys.length (cA1, .object C) (by simp)).2
  obtain ⟨-, -, -, -, -, h2⟩ := (hK.2 t0 (cA, .object C) ht).2
  obtain rfl : cA1 = cA := Option.some.inj (h1.symm.trans h2)
  exact kk q H1 hP1 hD1 hS1
theorem u_asto (hexec : p.tables.exec = Jvm.exec) (hb : c.code = cc) (hK : va_K D cl tys s) (hP : va_P D cl ws H) (hD : va_D A ws) (hS : va_S A H0 H locs) (q0 t0 : Nat) {E : String} {cA : ClassId} {n : Nat} {o : Option Nat} {f : Nat → Option Nat} (ha : ws[q0]? = some (b, .inl (cA, n, .inr (.inr (.inr (.inr f)))))) (ht : tys[t0]? = some (cA, .object E)) {i : Int32} {k : Nat} (hi : i = nI k) (hk : k < n ∧ n < 2 ^ 31) (hany : ∀ v, o = some v → va_Any E s H v) (hdg : decode cc pc = .ok (.aastore, 1))
    (kk : ∀ (H1 : Heap) (locs1 : List Loc), va_P D cl (ws.set q0 (b, .inl (cA, n, .inr (.inr (.inr (.inr (va_up f k o))))))) H1 → va_D A (ws.set q0 (b, .inl (cA, n, .inr (.inr (.inr (.inr (va_up f k o))))))) → va_S A H0 H1 locs1 → W p l e R s m args below meth c H1 locs1 cells slots Q (F0 m (pc + 1) ls rest)) : W p l e R s m args below meth c H locs cells slots Q (F0 m pc ls (va_rf o :: .int i :: .ref b :: rest)) := by
  subst hi
  cases o with
  | none =>
    refine va_astqN hexec hb hK hP hD hS q0 t0 ha ht (vp_in_nI hk.1 hk.2) hdg ?_
    rw [nI_clamp (by omega)]
    exact kk
  | some v =>
    refine va_astqM hexec hb hK hP hD hS q0 t0 ha ht (hany v rfl) (vp_in_nI hk.1 hk.2) hdg ?_
    rw [nI_clamp (by omega)]
    exact kk
end UW
theorem any_plot {D : va_G} {tys : List (ClassId × FieldType)} {s : State} {H : Heap} {a : Nat} {fs : List Value} (hK : va_K D vwCl tys s) (hP : va_P D vwCl [(a, .inr (4, fs))] H) : va_Any RX2 s H a := by
  obtain ⟨r', hr', cellV, g1, g2, g3, -⟩ := hP 0 _ rfl
  have hcls := (hK.1 4 _ rfl).2
  obtain ⟨kC, hkC, -⟩ := hcls.2
  refine ⟨cellV, g1, by rw [g3]; rfl, ⟨kC, by rw [g2]; exact hkC⟩, fun comp hc => ?_⟩
  have e : comp = D.1 4 := Option.some.inj (hc.symm.trans hcls.1)
  subst e
  rw [g2]
  exact va_assign hcls
/-- what an array of plots holds, are plots -/
def EP (D : va_G) (fp : Nat → Option Nat) (H : Heap) : Prop := ∀ j, j < 6 → ∀ a, fp j = some a → ∃ fs, va_P D vwCl [(a, .inr (4, fs))] H
def E1 (D : va_G) (pa : Nat) (H : Heap) : Prop := ∃ fs, va_P D vwCl [(pa, .inr (4, fs))] H
def shf {α : Type} (f : Nat → α) (p z : Nat) : Nat → α := fun j => if p ≤ j ∧ j < z then f (j + 1) else f j
theorem shf_0 {α : Type} (f : Nat → α) (p : Nat) : shf f p p = f := by
  funext j; unfold shf; rw [if_neg (by omega)]
theorem shf_at {α : Type} (f : Nat → α) (p z : Nat) : shf f p z (z + 1) = f (z + 1) := by unfold shf; rw [if_neg (by omega)]
theorem shf_vu {α : Type} (f : Nat → α) {p z : Nat} (h : p ≤ z) : va_up (shf f p z) z (f (z + 1)) = shf f p (z + 1) := by
  funext j; unfold va_up shf
  by_cases e : j = z
  · subst e; rw [if_pos rfl, if_pos ⟨h, by omega⟩]
  · rw [if_neg e]
    by_cases q : p ≤ j ∧ j < z
    · rw [if_pos q, if_pos (by omega)]
    · rw [if_neg q, if_neg (by omega)]
theorem shf_up (f : Nat → Int32) {p z : Nat} (h : p ≤ z) : upd (shf f p z) z (f (z + 1)) = shf f p (z + 1) := shf_vu f h
def cpy {α : Type} (f g : Nat → α) (z : Nat) : Nat → α := fun j => if j < z then f j else g j
theorem cpy_0 {α : Type} (f g : Nat → α) : cpy f g 0 = g := by funext j; unfold cpy; rw [if_neg (by omega)]
theorem cpy_vu {α : Type} (f g : Nat → α) (z : Nat) : va_up (cpy f g z) z (f z) = cpy f g (z + 1) := by
  funext j; unfold va_up cpy
  by_cases e : j = z
  · subst e; rw [if_pos rfl, if_pos (by omega)]
  · rw [if_neg e]
    by_cases q : j < z
    · rw [if_pos q, if_pos (by omega)]
    · rw [if_neg q, if_neg (by omega)]
theorem cpy_up (f g : Nat → Int32) (z : Nat) : upd (cpy f g z) z (f z) = cpy f g (z + 1) := cpy_vu f g z
theorem vP_app {D : va_G} {cl : List vw_C} {w1 w2 : va_W} {H : Heap} (h1 : va_P D cl w1 H) (h2 : va_P D cl w2 H) : va_P D cl (w1 ++ w2) H := by
  intro k q hq
  rcases List.mem_append.mp (List.mem_of_getElem? hq) with h | h
  · obtain ⟨j, hj⟩ := List.getElem?_of_mem h
    exact h1 j q hj
  · obtain ⟨j, hj⟩ := List.getElem?_of_mem h
    exact h2 j q hj
theorem bI_t {P : Prop} {_ : Decidable P} (h : P) : (1 : Int32) = bI (decide P) := by rw [decide_eq_true h]; rfl
theorem bI_f {P : Prop} {_ : Decidable P} (h : ¬ P) : (0 : Int32) = bI (decide P) := by rw [decide_eq_false h]; rfl
theorem li_0 : (0 : Int32).toInt = 0 := by decide
theorem li_1 : (1 : Int32).toInt = 1 := by decide
theorem li_2 : (2 : Int32).toInt = 2 := by decide
theorem li_3 : (3 : Int32).toInt = 3 := by decide
theorem li_4 : (4 : Int32).toInt = 4 := by decide
theorem li_5 : (5 : Int32).toInt = 5 := by decide
theorem li_6 : (6 : Int32).toInt = 6 := by decide
theorem li_7 : (7 : Int32).toInt = 7 := by decide
theorem li_8 : (8 : Int32).toInt = 8 := by decide
theorem li_9 : (9 : Int32).toInt = 9 := by decide
theorem li_10 : (10 : Int32).toInt = 10 := by decide
theorem li_12 : (12 : Int32).toInt = 12 := by decide
theorem li_20 : (20 : Int32).toInt = 20 := by decide
theorem li_31 : (31 : Int32).toInt = 31 := by decide
theorem li_32 : (32 : Int32).toInt = 32 := by decide
theorem li_33 : (33 : Int32).toInt = 33 := by decide
theorem li_47 : (47 : Int32).toInt = 47 := by decide
theorem li_48 : (48 : Int32).toInt = 48 := by decide
theorem li_49 : (49 : Int32).toInt = 49 := by decide
theorem li_57 : (57 : Int32).toInt = 57 := by decide
theorem li_59 : (59 : Int32).toInt = 59 := by decide
theorem li_60 : (60 : Int32).toInt = 60 := by decide
theorem li_101 : (101 : Int32).toInt = 101 := by decide
theorem li_108 : (108 : Int32).toInt = 108 := by decide
theorem li_109 : (109 : Int32).toInt = 109 := by decide
theorem li_110 : (110 : Int32).toInt = 110 := by decide
theorem li_115 : (115 : Int32).toInt = 115 := by decide
theorem li_119 : (119 : Int32).toInt = 119 := by decide
theorem li_126 : (126 : Int32).toInt = 126 := by decide
theorem li_999 : (999 : Int32).toInt = 999 := by decide
theorem li_1000 : (1000 : Int32).toInt = 1000 := by decide
theorem li_1023 : (1023 : Int32).toInt = 1023 := by decide
theorem li_1024 : (1024 : Int32).toInt = 1024 := by decide
theorem li_2000 : (2000 : Int32).toInt = 2000 := by decide
theorem li_m1 : (-1 : Int32).toInt = -1 := by decide
theorem li_m6 : (-6 : Int32).toInt = -6 := by decide
theorem bI_eq0 {b : Bool} : bI b = 0 ↔ b = false := by cases b <;> decide
theorem bI_eq1 {b : Bool} : bI b = 1 ↔ b = true := by cases b <;> decide
theorem bI_ne0 {b : Bool} : ¬ bI b = 0 ↔ b = true := by cases b <;> decide
theorem u_join {G : Prop} (F : Int32 → Prop) (v : Int32) (hG : F v → G) (hF : F v) : G := hG hF
theorem u_sw2 {x : Int32} (h0 : ¬ x = 0) (h1 : ¬ x = 1) : x.toInt < 0 ∨ 1 < x.toInt := by
  have a0 := lv_neT h0 (a := 0) rfl; have a1 := lv_neT h1 (a := 1) rfl; omega
theorem u_sw3 {x : Int32} (h0 : ¬ x = 0) (h1 : ¬ x = 1) (h2 : ¬ x = 2) : x.toInt < 0 ∨ 2 < x.toInt := by
  have a0 := lv_neT h0 (a := 0) rfl; have a1 := lv_neT h1 (a := 1) rfl; have a2 := lv_neT h2 (a := 2) rfl; omega
theorem u_sw4 {x : Int32} (h0 : ¬ x = 0) (h1 : ¬ x = 1) (h2 : ¬ x = 2) (h3 : ¬ x = 3) : x.toInt < 0 ∨ 3 < x.toInt := by
  have a0 := lv_neT h0 (a := 0) rfl; have a1 := lv_neT h1 (a := 1) rfl; have a2 := lv_neT h2 (a := 2) rfl; have a3 := lv_neT h3 (a := 3) rfl; omega
theorem u_sw5 {x : Int32} (h0 : ¬ x = 0) (h1 : ¬ x = 1) (h2 : ¬ x = 2) (h3 : ¬ x = 3) (h4 : ¬ x = 4) : x.toInt < 0 ∨ 4 < x.toInt := by
  have a0 := lv_neT h0 (a := 0) rfl; have a1 := lv_neT h1 (a := 1) rfl; have a2 := lv_neT h2 (a := 2) rfl; have a3 := lv_neT h3 (a := 3) rfl; have a4 := lv_neT h4 (a := 4) rfl; omega
theorem u_sw7 {x : Int32} (h0 : ¬ x = 0) (h1 : ¬ x = 1) (h2 : ¬ x = 2) (h3 : ¬ x = 3) (h4 : ¬ x = 4) (h5 : ¬ x = 5) (h6 : ¬ x = 6) : x.toInt < 0 ∨ 6 < x.toInt := by
  have a0 := lv_neT h0 (a := 0) rfl; have a1 := lv_neT h1 (a := 1) rfl; have a2 := lv_neT h2 (a := 2) rfl; have a3 := lv_neT h3 (a := 3) rfl; have a4 := lv_neT h4 (a := 4) rfl; have a5 := lv_neT h5 (a := 5) rfl; have a6 := lv_neT h6 (a := 6) rfl; omega
