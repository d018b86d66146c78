/-! Math.floorDiv, a call (the library's own law of it) -/
theorem u_fdiv {p : Program} {l : Launch} {e : Env} {R : Room} {s : State} {m : MethodId} {args : Array Value} {below : List Frame} {meth : Method} {c : Code} {H : Heap} {locs : List Loc} {cells slots : Nat} {Q : State → Prop} {pc : Nat} {ls : Array Slot} {rest : List Value} {cc : ByteArray}
    (hexec : p.tables.exec = Jvm.exec) (hb : c.code = cc) (hml : c.maxLocals = ls.size) {own : String} {index : Nat} (hown : s.vm.findClass own = some m.cls) (hlink : (Cond.methodLink own index yJ9_floorDiv_7cf53).before args s = true) (hstat : (Cond.static yJ9_floorDiv_7cf53).before args s = true) (hini : (Cond.initialized RJ9).before args s = true)
    (hcode : (Cond.code yJ9_floorDiv_7cf53 cJ9_floorDiv_7cf53 3 (some .int)).before args s = true) (hframes : 1 ≤ R.frames) (hlocals : (rest.map fun v => v.category).sum + 14 ≤ R.locals) (hc : cells ≤ R.cells) (hs : slots ≤ R.slots) {x y : Int32} (hy : 0 < y.toInt) (hx1 : -1073741824 < x.toInt) (hx2 : x.toInt < 1073741824)
    (hdg : decode cc pc = .ok (.invokestatic index, 3)) (kk : W p l e R s m args below meth c H locs cells slots Q (F0 m (pc + 3) ls (.int (fdv x y) :: rest))) : W p l e R s m args below meth c H locs cells slots Q (F0 m pc ls (.int y :: .int x :: rest)) := by
  have hne : y ≠ 0 := fun q => by rw [q, li_0] at hy; omega
  have hv : Jvm.Free.JP.Math_floorDiv_II.val x y = fdv x y := by
    unfold Jvm.Free.JP.Math_floorDiv_II.val
    by_cases h1 : (x ^^^ y) < 0
    · rw [if_pos h1]
      by_cases h2 : x / y * y = x
      · rw [if_pos h2]; exact fdv_e hy hx1 hx2 h2
      · rw [if_neg h2]; exact fdv_m hy hx1 hx2 h1 h2
    · rw [if_neg h1]; exact fdv_p hy hx1 hx2 (Int32.not_lt.mp h1)
  have htab : Jvm.Free.JP.Math_floorDiv_II.tab.before args s = true := by
    have e1 : (Cond.code Jvm.Free.JP.Math_floorDiv_II.yN Jvm.Free.JP.Math_floorDiv_II.yB 3 (some .int)).before args s = true := hcode
    have e2 : (Cond.initialized Jvm.Free.JP.Math_floorDiv_II.yN.cls).before args s = true := hini
    exact Jvm.Free.XT.unparts e1 (fun w hw => by rcases List.mem_cons.mp hw with rfl | h; exact e2; exact absurd h List.not_mem_nil)
  intro T hT X
  have hK := Jvm.Free.JP.Math_floorDiv_II.pays (l := l) (R := R) (p := p) (e := e) (below := below) (s := s) (sargs := args) (len := 3) (W := (rest.map fun v => v.category).sum) x y htab hframes hlocals
  obtain ⟨v, vm₁, ⟨U', l2, c2, s2⟩, hW₁, X', ⟨⟨hp1, hp2⟩, h1, h2, h3⟩, st⟩ := callS X hexec (y := yJ9_floorDiv_7cf53) (bytes := cJ9_floorDiv_7cf53) (maxL := 3) (ret := some .int) hown hlink hstat hini hcode ⟨by decide, by decide⟩ hK (g := F0 m pc ls (.int y :: .int x :: rest)) rfl hml.symm (argsL := [.int x, .int y]) (rest := rest)
    (fun sig h => by have : parseMethodDescriptor "(II)I" = some { parameters := [.int, .int], returnType := some .int } := by decide +kernel
                     rw [show yJ9_floorDiv_7cf53.desc = "(II)I" from rfl, this] at h; rw [← Option.some.inj h]; rfl) rfl (by show 2 * 0 + _ ≤ _; omega) (by rw [hb]; exact hdg)
    (fun vm₁ hW₁ => ⟨hc, hs, rfl, hne⟩)
  dsimp only [Pt.U, Pt.locs, Pt.cells, Pt.slots] at X' hp1 hp2 h1 h2 h3 st
  subst h2; subst h3; subst h1; subst hp1
  obtain ⟨t2, a1, b1⟩ := kk U' (by rw [hp2]; exact hT) (Stand.forget X' (fun q h => by simp at h)) 
  exact ⟨t2, st t2 (by rw [hv]; exact a1), b1⟩
