/-! the JDK's statics that texts are made with; calls that hand them on -/
def ZZ (tz1 tz2 : Nat) (A : Nat → Prop) (U : State) (H : Heap) : Prop :=
  va_Z "java/lang/String" "COMPACT_STRINGS" "Z" (.int 1) A U H ∧ va_Z "java/lang/Integer" "DigitOnes" "[B" (.ref tz1) A U H ∧ va_Z "java/lang/Integer" "DigitTens" "[B" (.ref tz2) A U H ∧
  va_T .byte tz1 100 (fun j => .int (nI (48 + j % 10))) A U H ∧ va_T .byte tz2 100 (fun j => .int (nI (48 + j / 10))) A U H ∧
  va_Zq "jdk/internal/util/Preconditions" "SIOOBE_FORMATTER" "Ljava/util/function/BiFunction;" A U H ∧ va_Nw (.castable "[B" "java/lang/Cloneable") U
theorem ZZ.moved {tz1 tz2 : Nat} {A : Nat → Prop} {s U : State} {H : Heap} (hv : s.vm.Alike U.vm) (hw : va_Nw (.castable "[B" "java/lang/Cloneable") s → va_Nw (.castable "[B" "java/lang/Cloneable") U) (h : ZZ tz1 tz2 A s H) : ZZ tz1 tz2 A U H := by
  obtain ⟨h1, h2, h3, h4, h5, h6, h7⟩ := h
  refine ⟨h1.moved hv, h2.moved hv, h3.moved hv, h4.moved hv, h5.moved hv, ?_, hw h7⟩
  rcases h6 with h6 | ⟨t, h6⟩
  · exact Or.inl (h6.moved hv)
  · exact Or.inr ⟨t, h6.moved hv⟩
theorem ZZ.to {tz1 tz2 : Nat} {A B : Nat → Prop} {s : State} {H H1 : Heap} (h : ZZ tz1 tz2 A s H) (hq : ∀ a : Nat, a < H.size → ¬ A a → H1[a]? = H[a]?) (hAB : ∀ q, B q → A q) : ZZ tz1 tz2 B s H1 := by
  obtain ⟨h1, h2, h3, h4, h5, h6, h7⟩ := h
  refine ⟨(h1.kept hq).narrow hAB, (h2.kept hq).narrow hAB, (h3.kept hq).narrow hAB, (h4.kept hq).narrow hAB, (h5.kept hq).narrow hAB, ?_, h7⟩
  rcases h6 with h6 | ⟨t, h6⟩
  · exact Or.inl ((h6.kept hq).narrow hAB)
  · exact Or.inr ⟨t, (h6.kept hq).narrow hAB⟩
theorem ZZ.calling {tz1 tz2 : Nat} {A : Nat → Prop} {s U : State} {H : Heap} (hv : s.vm = U.vm) (h : ZZ tz1 tz2 A s H) : ZZ tz1 tz2 A U H :=
  h.moved (hv ▸ Vm.Alike.refl s.vm) (fun q => va_Nw.same rfl hv q)
theorem ZZ.warm {tz1 tz2 : Nat} {A : Nat → Prop} {s U : State} {H : Heap} (hW : s.WarmedH U.vm) (h : ZZ tz1 tz2 A s H) : ZZ tz1 tz2 A U H :=
  h.moved hW.alike (fun q => va_Nw.warmC hW q)
theorem pSZ {D : va_G} {cI cB cZ cP : ClassId} {s : State} {H : Heap} {av : List Value} {ws : va_W} {E : Heap → Prop} {tz1 tz2 : Nat} {B : Nat → Prop} (hP : va_P D vwCl ws H) (hK : KW D cI cB cZ cP s) (hE : E H) (hZ : ZZ tz1 tz2 B s H) : PreS s H (va_Pc av (fun U => va_P D vwCl ws U.heap ∧ KW D cI cB cZ cP U ∧ E U.heap ∧ ZZ tz1 tz2 B U U.heap)) av :=
  ⟨fun a U g mk q => ⟨q.1, q.2.1, KW.same (s := U) (U := U.calling g mk a) rfl q.2.2.1, q.2.2.2.1, ZZ.calling (s := U) (U := U.calling g mk a) rfl q.2.2.2.2⟩, fun U hU hW => ⟨rfl, by rw [hU]; exact hP, hK.warm hW, by rw [hU]; exact hE, by rw [hU]; exact hZ.warm hW⟩⟩
theorem pVZ {D : va_G} {cI cB cZ cP : ClassId} {s : State} {H : Heap} {b q0 ci : Nat} {q : vw_C} {fs As : List Value} {ws : va_W} {E : Heap → Prop} {tz1 tz2 : Nat} {B : Nat → Prop} (hP : va_P D vwCl ws H) (hK : KW D cI cB cZ cP s) (hE : E H) (hZ : ZZ tz1 tz2 B s H) (hc : vwCl[ci]? = some q) (he : ws[q0]? = some (b, .inr (ci, fs))) :
    PreV s H q.1 b (va_Pc (.ref b :: As) (fun U => va_P D vwCl ws U.heap ∧ KW D cI cB cZ cP U ∧ E U.heap ∧ ZZ tz1 tz2 B U U.heap)) As :=
  ⟨fun a U g mk q => ⟨q.1, q.2.1, KW.same (s := U) (U := U.calling g mk a) rfl q.2.2.1, q.2.2.2.1, ZZ.calling (s := U) (U := U.calling g mk a) rfl q.2.2.2.2⟩, va_recv hK.1 hP hc he, fun U hU hW => ⟨rfl, by rw [hU]; exact hP, hK.warm hW, by rw [hU]; exact hE, by rw [hU]; exact hZ.warm hW⟩⟩
theorem pSQZ {D : va_G} {cI cB cZ cP : ClassId} {s : State} {H : Heap} {av : List Value} {ws : va_W} {A : Nat → Prop} {E : Heap → Prop} {tz1 tz2 : Nat} {B : Nat → Prop} (hP : va_P D vwCl ws H) (hD : va_D A ws) (hK : KW D cI cB cZ cP s) (hE : EF ws H.size E H) (hZ : ZZ tz1 tz2 B s H) : PreS s H (va_Pc av (fun U => U.heap.size = H.size ∧ va_P D vwCl ws U.heap ∧ KW D cI cB cZ cP U ∧ va_D (fun _ => True) ws ∧ EF ws H.size E U.heap ∧ ZZ tz1 tz2 B U U.heap)) av :=
  ⟨fun a U g mk q => ⟨q.1, q.2.1, q.2.2.1, KW.same (s := U) (U := U.calling g mk a) rfl q.2.2.2.1, q.2.2.2.2.1, q.2.2.2.2.2.1, ZZ.calling (s := U) (U := U.calling g mk a) rfl q.2.2.2.2.2.2⟩, fun U hU hW => ⟨rfl, by rw [hU], by rw [hU]; exact hP, hK.warm hW, hD.weaken (fun _ _ _ _ => trivial), by rw [hU]; exact hE, by rw [hU]; exact hZ.warm hW⟩⟩
theorem pVQZ {D : va_G} {cI cB cZ cP : ClassId} {s : State} {H : Heap} {b q0 ci : Nat} {q : vw_C} {fs As : List Value} {ws : va_W} {A : Nat → Prop} {E : Heap → Prop} {tz1 tz2 : Nat} {B : Nat → Prop} (hP : va_P D vwCl ws H) (hD : va_D A ws) (hK : KW D cI cB cZ cP s) (hE : EF ws H.size E H) (hZ : ZZ tz1 tz2 B s H) (hc : vwCl[ci]? = some q) (he : ws[q0]? = some (b, .inr (ci, fs))) :
    PreV s H q.1 b (va_Pc (.ref b :: As) (fun U => U.heap.size = H.size ∧ va_P D vwCl ws U.heap ∧ KW D cI cB cZ cP U ∧ va_D (fun _ => True) ws ∧ EF ws H.size E U.heap ∧ ZZ tz1 tz2 B U U.heap)) As :=
  ⟨fun a U g mk q => ⟨q.1, q.2.1, q.2.2.1, KW.same (s := U) (U := U.calling g mk a) rfl q.2.2.2.1, q.2.2.2.2.1, q.2.2.2.2.2.1, ZZ.calling (s := U) (U := U.calling g mk a) rfl q.2.2.2.2.2.2⟩, va_recv hK.1 hP hc he, fun U hU hW => ⟨rfl, by rw [hU], by rw [hU]; exact hP, hK.warm hW, hD.weaken (fun _ _ _ _ => trivial), by rw [hU]; exact hE, by rw [hU]; exact hZ.warm hW⟩⟩
theorem KW.sb {D : va_G} {cI cB cZ cP : ClassId} {U : State} (h : KW D cI cB cZ cP U) : ClassAt U RJ4 (D.1 1) := (h.1.1 1 _ rfl).2
theorem KW.arrB {D : va_G} {cI cB cZ cP : ClassId} {U : State} (h : KW D cI cB cZ cP U) : U.vm.findClass "[B" = some cB := (h.1.2 1 (cB, .byte) rfl).2
/-- a letter is a byte as it stands -/
def ltr (x : Int32) : Prop := 0 ≤ x.toInt ∧ x.toInt < 128
theorem ltr_nat {x : Int32} (h : ltr x) : ∃ j, j < 128 ∧ x = nI j := by
  obtain ⟨j, h1, h2, -⟩ := inP_nat (k := 128) (p := x) h (by decide); exact ⟨j, h1, h2⟩
theorem ltr_b {x : Int32} (h : ltr x) : vp_nar .byte x.toInt8.toInt32 = x := by
  obtain ⟨j, hj, rfl⟩ := ltr_nat h
  have : ∀ j, j < 128 → vp_nar .byte (nI j).toInt8.toInt32 = nI j := by decide +kernel
  exact this j hj
theorem ltr_b1 {x : Int32} (h : ltr x) : vp_nar .byte x = x := by
  obtain ⟨j, hj, rfl⟩ := ltr_nat h
  have : ∀ j, j < 128 → vp_nar .byte (nI j) = nI j := by decide +kernel
  exact this j hj
theorem ltr_c {x : Int32} (h : ltr x) : ((x &&& 255).toUInt32 % 65536).toInt32 = x := by
  obtain ⟨j, hj, rfl⟩ := ltr_nat h
  have : ∀ j, j < 128 → ((nI j &&& 255).toUInt32 % 65536).toInt32 = nI j := by decide +kernel
  exact this j hj
theorem ltr_255 {x : Int32} (h : ltr x) : ¬ 255 < x := by
  rw [Int32.lt_iff_toInt_lt]; have : (255 : Int32).toInt = 255 := rfl; unfold ltr at h; omega
/-- bytes that are letters -/
def lat (a : Nat → Int32) : Prop := ∀ j, ltr (a j)
theorem lat_0 : lat (fun _ => 0) := fun _ => (by decide : (0 : Int) ≤ (0 : Int32).toInt ∧ (0 : Int32).toInt < 128)
theorem lat_up {a : Nat → Int32} {k : Nat} {x : Int32} (h : lat a) (hx : ltr x) : lat (upd a k x) := by
  intro j
  by_cases e : j = k
  · subst e; rw [pk_us]; exact hx
  · rw [pk_un e]; exact h j
theorem lat_cp {a b : Nat → Int32} {sp dp k : Nat} (h : lat a) (hb : lat b) : lat (va_cpy a b sp dp k) := by
  intro j
  unfold va_cpy
  split
  · exact h _
  · exact hb j
theorem ltr_fits {x : Int32} (h : ltr x) : fits .byte (.int x) = true := by
  obtain ⟨j, hj, rfl⟩ := ltr_nat h
  have : ∀ j, j < 128 → fits .byte (.int (nI j)) = true := by decide +kernel
  exact this j hj
theorem row_cp {a b : Nat → Int32} {wt : List Int32} {k : Nat} (h : rowIs a wt) (hk : wt.length ≤ k) : rowIs (va_cpy a b 0 0 k) wt := by
  intro j hj
  unfold va_cpy
  rw [if_pos ⟨Nat.zero_le _, by omega⟩, Nat.zero_add, Nat.sub_zero]
  exact h j hj
/-- how many bytes a builder may hold here -/
def cap (k : Nat) : Prop := k = 16 ∨ k = 34 ∨ k = 70
theorem shr0 (x : Int32) : x >>> ((0 : Int32) &&& 31) = x := by
  have : ((0 : Int32) &&& 31) = 0 := by decide
  rw [this]; exact Int32.shiftRight_zero
theorem shl0 (x : Int32) : x <<< ((0 : Int32) &&& 31) = x := by
  have : ((0 : Int32) &&& 31) = 0 := by decide
  rw [this]; exact Int32.shiftLeft_zero
