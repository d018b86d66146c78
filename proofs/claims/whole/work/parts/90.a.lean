theorem tb_in {s : State} {args : Array Value} (hts : ∀ w ∈ lw_tbl, w.before args s = true) : ∀ w ∈ tables_1, w.before args s = true := fun w h => hts w (List.mem_append.mpr (Or.inr (List.mem_append.mpr (Or.inr h))))
theorem law_arr {s : State} {args : Array Value} {ty : FieldType} (h : (Cond.arrayClass ty).before args s = true) : ∃ cA, ArrOfT s cA ty ∧ s.vm.findClass ("[" ++ ty.toString) = some cA := by
  obtain ⟨c, k, comp, h1, h2, h3⟩ := Cond.arrayClass_spec h
  exact ⟨c, fun n z => ⟨fun k h => (by cases h), k, h2, comp, h3⟩, h1⟩
set_option maxRecDepth 20000 in
theorem law_kw {s : State} {args : Array Value} (hts : ∀ w ∈ lw_tbl, w.before args s = true) : ∃ (D : va_G) (cI cB cZ cP : ClassId), KW D cI cB cZ cP s := by
  have h0 := tb_in hts
  obtain ⟨c0, iS0, hKn0⟩ := u_known (C := RJ0) (T := TJ0) (N := 4) (n := 4) hts inJ0 ((h0 _ (List.mem_of_getElem? (i := 475) (by decide +kernel))) : (Cond.instantiable RJ0 4).before args s = true)
  obtain ⟨c1, iS1, hKn1⟩ := u_known (C := RJ4) (T := TJ4) (N := 4) (n := 4) hts inJ4 ((h0 _ (List.mem_of_getElem? (i := 310) (by decide +kernel))) : (Cond.instantiable RJ4 4).before args s = true)
  obtain ⟨c2, iS2, hKn2⟩ := u_known (C := RX0) (T := TX0) (N := 4) (n := 4) hts inX0 ((h0 _ (List.mem_of_getElem? (i := 64) (by decide +kernel))) : (Cond.instantiable RX0 4).before args s = true)
  obtain ⟨c3, iS3, hKn3⟩ := u_known (C := RX1) (T := TX1) (N := 3) (n := 3) hts inX1 ((h0 _ (List.mem_of_getElem? (i := 223) (by decide +kernel))) : (Cond.instantiable RX1 3).before args s = true)
  obtain ⟨c4, iS4, hKn4⟩ := u_known (C := RX2) (T := TX2) (N := 5) (n := 5) hts inX2 ((h0 _ (List.mem_of_getElem? (i := 300) (by decide +kernel))) : (Cond.instantiable RX2 5).before args s = true)
  obtain ⟨c5, iS5, hKn5⟩ := u_known (C := RX3) (T := TX3) (N := 2) (n := 2) hts inX3 ((h0 _ (List.mem_of_getElem? (i := 123) (by decide +kernel))) : (Cond.instantiable RX3 2).before args s = true)
  obtain ⟨c6, iS6, hKn6⟩ := u_known (C := RX4) (T := TX4) (N := 8) (n := 8) hts inX4 ((h0 _ (List.mem_of_getElem? (i := 29) (by decide +kernel))) : (Cond.instantiable RX4 8).before args s = true)
  obtain ⟨c7, iS7, hKn7⟩ := u_known (C := RX5) (T := TX5) (N := 8) (n := 8) hts inX5 ((h0 _ (List.mem_of_getElem? (i := 87) (by decide +kernel))) : (Cond.instantiable RX5 8).before args s = true)
  obtain ⟨c8, iS8, hKn8⟩ := u_known (C := RX6) (T := TX6) (N := 7) (n := 7) hts inX6 ((h0 _ (List.mem_of_getElem? (i := 21) (by decide +kernel))) : (Cond.instantiable RX6 7).before args s = true)
  obtain ⟨c9, iS9, hKn9⟩ := u_known (C := RX7) (T := TX7) (N := 24) (n := 24) hts inX7 ((h0 _ (List.mem_of_getElem? (i := 796) (by decide +kernel))) : (Cond.instantiable RX7 24).before args s = true)
  obtain ⟨dC, dI, hKc⟩ : ∃ (dC : Nat → ClassId) (dI : Nat → Nat → Nat), ∀ (k : Nat) (q : vw_C), vwCl[k]? = some q → u_Kn s q.1 q.2.1 q.2.2 (dC k) (dI k) := by
    refine ⟨fun k => if k = 0 then c0 else if k = 1 then c1 else if k = 2 then c2 else if k = 3 then c3 else if k = 4 then c4 else if k = 5 then c5 else if k = 6 then c6 else if k = 7 then c7 else if k = 8 then c8 else c9, fun k => if k = 0 then iS0 else if k = 1 then iS1 else if k = 2 then iS2 else if k = 3 then iS3 else if k = 4 then iS4 else if k = 5 then iS5 else if k = 6 then iS6 else if k = 7 then iS7 else if k = 8 then iS8 else iS9, ?_⟩
    intro k q hq
    match k, hq with
    | 0, hq => cases hq; exact hKn0
    | 1, hq => cases hq; exact hKn1
    | 2, hq => cases hq; exact hKn2
    | 3, hq => cases hq; exact hKn3
    | 4, hq => cases hq; exact hKn4
    | 5, hq => cases hq; exact hKn5
    | 6, hq => cases hq; exact hKn6
    | 7, hq => cases hq; exact hKn7
    | 8, hq => cases hq; exact hKn8
    | 9, hq => cases hq; exact hKn9
    | k + 10, hq => simp [vwCl] at hq
  obtain ⟨cI, hI1, hI2⟩ := law_arr (ty := .int) (h0 _ (List.mem_of_getElem? (i := 62) (by decide +kernel)))
  obtain ⟨cB, hB1, hB2⟩ := law_arr (ty := .byte) (h0 _ (List.mem_of_getElem? (i := 340) (by decide +kernel)))
  obtain ⟨cZ, hZ1, hZ2⟩ := law_arr (ty := .boolean) (h0 _ (List.mem_of_getElem? (i := 874) (by decide +kernel)))
  have hAO : va_AO RX2 s := va_AO.of (A := args) (h0 _ (List.mem_of_getElem? (i := 70) (by decide +kernel)))
  obtain ⟨comp, cP, kP, f1, -, f2, f3, f4⟩ := Cond.arrayOver_spec hAO
  have hP1 : ArrOfT s cP (.object RX2) := fun N z => ⟨(fun k h => by cases h), kP, f2, comp, f3⟩
  refine ⟨(dC, dI), cI, cB, cZ, cP, ⟨hKc, fun k q hq => ?_⟩, hAO, va_Nw.of rfl (h0 _ (List.mem_of_getElem? (i := 30) (by decide +kernel))), va_Nw.of rfl (h0 _ (List.mem_of_getElem? (i := 65) (by decide +kernel))), va_Nw.of rfl (h0 _ (List.mem_of_getElem? (i := 88) (by decide +kernel))), va_Nw.of rfl (h0 _ (List.mem_of_getElem? (i := 124) (by decide +kernel))), va_Nw.of rfl (h0 _ (List.mem_of_getElem? (i := 266) (by decide +kernel))), va_Nw.of rfl (h0 _ (List.mem_of_getElem? (i := 561) (by decide +kernel))), va_Nw.of rfl (h0 _ (List.mem_of_getElem? (i := 634) (by decide +kernel))), va_Nw.of rfl (h0 _ (List.mem_of_getElem? (i := 656) (by decide +kernel))), va_Nw.of rfl (h0 _ (List.mem_of_getElem? (i := 721) (by decide +kernel))), va_Nw.of rfl (h0 _ (List.mem_of_getElem? (i := 743) (by decide +kernel))), va_Nw.of rfl (h0 _ (List.mem_of_getElem? (i := 757) (by decide +kernel))), va_Nw.of rfl (h0 _ (List.mem_of_getElem? (i := 770) (by decide +kernel)))⟩
  match k, hq with
  | 0, hq => cases hq; exact ⟨hI1, hI2⟩
  | 1, hq => cases hq; exact ⟨hB1, hB2⟩
  | 2, hq => cases hq; exact ⟨hZ1, hZ2⟩
  | 3, hq => cases hq; exact ⟨hP1, kP, comp, f2, f3, f1, f4⟩
  | k + 4, hq => simp at hq

