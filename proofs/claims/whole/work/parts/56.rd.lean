/-! the reference reads THE TEXT: its numbers against what is told -/
def far_ (wy nu : Int32) : Int32 := if wy = 115 ∨ wy = 119 then -nu else nu
def MRel (nc at_ : Nat) (wy nu : Int32) (rt up : Nat → Int32) (S : TS) : Prop := S.1 = nc ∧ nc ≤ 8 ∧ okT S ∧
  ((at_ = 0 ∧ S.2.1 = 0 ∧ nc < 8 ∧ ∀ j, j < nc → rt j = S.2.2.2.2.1 j ∧ up j = S.2.2.2.2.2 j) ∨
   (S.2.1 = 1 ∧ 1 ≤ nc ∧ (wy = 110 ∨ wy = 115) ∧ S.2.2.2.1 = dirT wy ∧ ((at_ = 1 ∧ S.2.2.1 = 0) ∨ (at_ = 2 ∧ 0 < S.2.2.1 ∧ S.2.2.1 ≤ 31 ∧ nu = nI S.2.2.1 ∧ S.2.2.2.2.2 (nc - 1) = dirT wy * nI S.2.2.1)) ∧ rt (nc - 1) = S.2.2.2.2.1 (nc - 1) ∧ ∀ j, j < nc - 1 → rt j = S.2.2.2.2.1 j ∧ up j = S.2.2.2.2.2 j) ∨
   (S.2.1 = 2 ∧ 1 ≤ nc ∧ (wy = 101 ∨ wy = 119) ∧ S.2.2.2.1 = dirT wy ∧ ((at_ = 3 ∧ S.2.2.1 = 0) ∨ (at_ = 4 ∧ 0 < S.2.2.1 ∧ S.2.2.1 ≤ 31 ∧ nu = nI S.2.2.1 ∧ S.2.2.2.2.1 (nc - 1) = dirT wy * nI S.2.2.1)) ∧ up (nc - 1) = S.2.2.2.2.2 (nc - 1) ∧ ∀ j, j < nc - 1 → rt j = S.2.2.2.2.1 j ∧ up j = S.2.2.2.2.2 j))
theorem far_t {wy : Int32} {n : Nat} (h : wy = 110 ∨ wy = 115 ∨ wy = 101 ∨ wy = 119) : far_ wy (nI n) = dirT wy * nI n := by
  rcases h with rfl | rfl | rfl | rfl
  · show nI n = 1 * nI n; rw [Int32.one_mul]
  · show -nI n = (-1) * nI n; rw [Int32.neg_mul, Int32.one_mul]
  · show nI n = 1 * nI n; rw [Int32.one_mul]
  · show -nI n = (-1) * nI n; rw [Int32.neg_mul, Int32.one_mul]
theorem MRel_at {nc at_ : Nat} {wy nu : Int32} {rt up : Nat → Int32} {S : TS} (h : MRel nc at_ wy nu rt up S) : at_ ≤ 4 ∧ nc ≤ 8 ∧ (at_ ≠ 0 → 1 ≤ nc) ∧ (at_ = 0 → nc < 8) := by
  obtain ⟨h1, h2, h0, h3⟩ := h
  rcases h3 with ⟨a, b, c, -⟩ | ⟨a, b, -, -, c, -⟩ | ⟨a, b, -, -, c, -⟩
  · exact ⟨by omega, h2, fun q => absurd a q, fun _ => c⟩
  · rcases c with ⟨c, -⟩ | ⟨c, -⟩ <;> exact ⟨by omega, h2, fun _ => b, fun q => by omega⟩
  · rcases c with ⟨c, -⟩ | ⟨c, -⟩ <;> exact ⟨by omega, h2, fun _ => b, fun q => by omega⟩
theorem okT_step {x : Int32} {S S1 : TS} (hO : okT S) (h : stepT x S = some S1) : okT S1 := by
  obtain ⟨S2, a, b, c⟩ := (stepT_rel (x := x) (S := S) (S' := S) ⟨rfl, rfl, fun _ => ⟨rfl, rfl⟩, fun _ _ => ⟨rfl, rfl⟩⟩ hO).2 S1 h
  exact c
theorem rd_bn {nc : Nat} {wy nu x : Int32} {rt up : Nat → Int32} {S : TS} (h : MRel nc 0 wy nu rt up S) (hx : x = 110 ∨ x = 115) : ∃ S1, stepT x S = some S1 ∧ MRel (nc + 1) 1 x 0 (upd rt nc 0) (upd up nc 0) S1 := by
  obtain ⟨nc', pt, nm, tw, fe, fn⟩ := S
  obtain ⟨h1, h2, h0, h3⟩ := h
  rcases h3 with ⟨-, b, c, d⟩ | ⟨-, -, -, -, c, -⟩ | ⟨-, -, -, -, c, -⟩
  · simp only at h1 b d; subst h1
    have e := stepT_ocn (tw := tw) (nm := nm) (fe := fe) (fn := fn) b c hx
    refine ⟨_, e, rfl, by omega, okT_step h0 e, Or.inr (Or.inl ⟨rfl, by omega, hx, rfl, Or.inl ⟨rfl, rfl⟩, ?_, fun j hj => ?_⟩)⟩
    · show upd rt nc' 0 (nc' + 1 - 1) = upd fe nc' 0 (nc' + 1 - 1); rw [Nat.add_sub_cancel, pk_us, pk_us]
    · rw [Nat.add_sub_cancel] at hj
      exact ⟨by rw [pk_un (by omega)]; show _ = upd fe nc' 0 j; rw [pk_un (by omega)]; exact (d j hj).1, by rw [pk_un (by omega)]; show _ = upd fn nc' 0 j; rw [pk_un (by omega)]; exact (d j hj).2⟩
  · rcases c with ⟨c, -⟩ | ⟨c, -⟩ <;> omega
  · rcases c with ⟨c, -⟩ | ⟨c, -⟩ <;> omega
theorem rd_be {nc : Nat} {wy nu x : Int32} {rt up : Nat → Int32} {S : TS} (h : MRel nc 0 wy nu rt up S) (hx : x = 101 ∨ x = 119) (hx2 : ¬ (x = 110 ∨ x = 115)) : ∃ S1, stepT x S = some S1 ∧ MRel (nc + 1) 3 x 0 (upd rt nc 0) (upd up nc 0) S1 := by
  obtain ⟨nc', pt, nm, tw, fe, fn⟩ := S
  obtain ⟨h1, h2, h0, h3⟩ := h
  rcases h3 with ⟨-, b, c, d⟩ | ⟨-, -, -, -, c, -⟩ | ⟨-, -, -, -, c, -⟩
  · simp only at h1 b d; subst h1
    have e := stepT_oce (tw := tw) (nm := nm) (fe := fe) (fn := fn) b c hx hx2
    refine ⟨_, e, rfl, by omega, okT_step h0 e, Or.inr (Or.inr ⟨rfl, by omega, hx, rfl, Or.inl ⟨rfl, rfl⟩, ?_, fun j hj => ?_⟩)⟩
    · show upd up nc' 0 (nc' + 1 - 1) = upd fn nc' 0 (nc' + 1 - 1); rw [Nat.add_sub_cancel, pk_us, pk_us]
    · rw [Nat.add_sub_cancel] at hj
      exact ⟨by rw [pk_un (by omega)]; show _ = upd fe nc' 0 j; rw [pk_un (by omega)]; exact (d j hj).1, by rw [pk_un (by omega)]; show _ = upd fn nc' 0 j; rw [pk_un (by omega)]; exact (d j hj).2⟩
  · rcases c with ⟨c, -⟩ | ⟨c, -⟩ <;> omega
  · rcases c with ⟨c, -⟩ | ⟨c, -⟩ <;> omega
theorem rd_b0 {nc : Nat} {wy nu x : Int32} {rt up : Nat → Int32} {S : TS} (h : MRel nc 0 wy nu rt up S) (hx : ¬ (x = 110 ∨ x = 115 ∨ x = 101 ∨ x = 119)) : stepT x S = none := by
  obtain ⟨nc', pt, nm, tw, fe, fn⟩ := S
  obtain ⟨h1, h2, h0, h3⟩ := h
  rcases h3 with ⟨-, b, c, d⟩ | ⟨-, -, -, -, c, -⟩ | ⟨-, -, -, -, c, -⟩
  · exact stepT_oc0 b (fun q => hx q.1)
  · rcases c with ⟨c, -⟩ | ⟨c, -⟩ <;> omega
  · rcases c with ⟨c, -⟩ | ⟨c, -⟩ <;> omega
/-- a figure -/
theorem rd_fig {nc at_ : Nat} {wy nu x : Int32} {rt up : Nat → Int32} {S : TS} (h : MRel nc at_ wy nu rt up S) (ha : at_ ≠ 0) (hx : 48 ≤ x.toInt ∧ x.toInt ≤ 57) (hg : 1 ≤ S.2.2.1 * 10 + (x.toInt - 48).toNat ∧ S.2.2.1 * 10 + (x.toInt - 48).toNat ≤ 31) :
    ∃ S1, stepT x S = some S1 ∧ MRel nc (if at_ % 2 = 1 then at_ + 1 else at_) wy (nI (S.2.2.1 * 10 + (x.toInt - 48).toNat)) rt up S1 := by
  obtain ⟨nc', pt, nm, tw, fe, fn⟩ := S
  obtain ⟨h1, h2, h0, h3⟩ := h
  simp only at h1 hg; subst h1
  rcases h3 with ⟨a, -⟩ | ⟨a, b, c, d, e, f, g⟩ | ⟨a, b, c, d, e, f, g⟩
  · exact absurd a ha
  · simp only at a d e f g; subst a; subst d
    have es : stepT x (nc', 1, nm, dirT wy, fe, fn) = some (nc', 1, nm * 10 + (x.toInt - 48).toNat, dirT wy, fe, upd fn (nc' - 1) (dirT wy * nI (nm * 10 + (x.toInt - 48).toNat))) := by
      unfold stepT; simp only; rw [if_neg (by decide), if_pos hx, if_pos hg]; rfl
    have ea : (if at_ % 2 = 1 then at_ + 1 else at_) = 2 := by rcases e with ⟨e, -⟩ | ⟨e, -⟩ <;> rw [e] <;> rfl
    refine ⟨_, es, rfl, h2, okT_step h0 es, Or.inr (Or.inl ⟨rfl, b, c, rfl, Or.inr ⟨ea, by simp only; omega, hg.2, rfl, pk_us⟩, f, fun j hj => ⟨(g j hj).1, ?_⟩⟩)⟩
    show _ = upd fn (nc' - 1) _ j
    rw [pk_un (by omega)]; exact (g j hj).2
  · simp only at a d e f g; subst a; subst d
    have es : stepT x (nc', 2, nm, dirT wy, fe, fn) = some (nc', 2, nm * 10 + (x.toInt - 48).toNat, dirT wy, upd fe (nc' - 1) (dirT wy * nI (nm * 10 + (x.toInt - 48).toNat)), fn) := by
      unfold stepT; simp only; rw [if_neg (by decide), if_pos hx, if_pos hg]; rfl
    have ea : (if at_ % 2 = 1 then at_ + 1 else at_) = 4 := by rcases e with ⟨e, -⟩ | ⟨e, -⟩ <;> rw [e] <;> rfl
    refine ⟨_, es, rfl, h2, okT_step h0 es, Or.inr (Or.inr ⟨rfl, b, c, rfl, Or.inr ⟨ea, by simp only; omega, hg.2, rfl, pk_us⟩, f, fun j hj => ⟨?_, (g j hj).2⟩⟩)⟩
    show _ = upd fe (nc' - 1) _ j
    rw [pk_un (by omega)]; exact (g j hj).1
theorem rd_fig0 {nc at_ : Nat} {wy nu x : Int32} {rt up : Nat → Int32} {S : TS} (h : MRel nc at_ wy nu rt up S) (ha : at_ ≠ 0) (hx : 48 ≤ x.toInt ∧ x.toInt ≤ 57) (hg : ¬ (1 ≤ S.2.2.1 * 10 + (x.toInt - 48).toNat ∧ S.2.2.1 * 10 + (x.toInt - 48).toNat ≤ 31)) : stepT x S = none := by
  obtain ⟨nc', pt, nm, tw, fe, fn⟩ := S
  obtain ⟨h1, h2, h0, h3⟩ := h
  have hp : ¬ pt = 0 := by
    rcases h3 with ⟨a, -⟩ | ⟨a, -⟩ | ⟨a, -⟩
    · exact absurd a ha
    · simp only at a; omega
    · simp only at a; omega
  unfold stepT; simp only; rw [if_neg hp, if_pos hx, if_neg hg]
theorem rd_nm {nc at_ : Nat} {wy nu : Int32} {rt up : Nat → Int32} {S : TS} (h : MRel nc at_ wy nu rt up S) (ha : at_ ≠ 0) : (at_ % 2 = 1 → S.2.2.1 = 0) ∧ (¬ at_ % 2 = 1 → 0 < S.2.2.1 ∧ S.2.2.1 ≤ 31 ∧ nu = nI S.2.2.1 ∧ ¬ S.2.1 = 0 ∧ (S.2.1 = 1 ↔ at_ = 2)) := by
  obtain ⟨h1, h2, h0, h3⟩ := h
  rcases h3 with ⟨a, -⟩ | ⟨a, -, -, -, e, -⟩ | ⟨a, -, -, -, e, -⟩
  · exact absurd a ha
  · rcases e with ⟨e, f⟩ | ⟨e, f, g, k, -⟩
    · exact ⟨fun _ => f, fun q => by omega⟩
    · exact ⟨fun q => by omega, fun _ => ⟨f, g, k, by omega, by omega⟩⟩
  · rcases e with ⟨e, f⟩ | ⟨e, f, g, k, -⟩
    · exact ⟨fun _ => f, fun q => by omega⟩
    · exact ⟨fun q => by omega, fun _ => ⟨f, g, k, by omega, by omega⟩⟩
theorem rd_odd0 {nc at_ : Nat} {wy nu x : Int32} {rt up : Nat → Int32} {S : TS} (h : MRel nc at_ wy nu rt up S) (ha : at_ % 2 = 1) (hx : ¬ (49 ≤ x.toInt ∧ x.toInt ≤ 57)) : stepT x S = none := by
  have ha0 : at_ ≠ 0 := by omega
  have hz := (rd_nm h ha0).1 ha
  by_cases q : 48 ≤ x.toInt ∧ x.toInt ≤ 57
  · exact rd_fig0 h ha0 q (by rw [hz]; omega)
  · obtain ⟨nc', pt, nm, tw, fe, fn⟩ := S
    have hp : ¬ pt = 0 := by
      obtain ⟨h1, h2, h0, h3⟩ := h
      rcases h3 with ⟨a, -⟩ | ⟨a, -⟩ | ⟨a, -⟩
      · exact absurd a ha0
      · simp only at a; omega
      · simp only at a; omega
    rw [stepT_nd hp q]; exact if_pos hz
/-- what endNumber leaves -/
def endN (nc : Nat) (wy nu : Int32) (rt up rt1 up1 : Nat → Int32) : Prop := ((wy = 110 ∨ wy = 115) ∧ rt1 = rt ∧ up1 = upd up (nc - 1) (far_ wy nu)) ∨ (¬ (wy = 110 ∨ wy = 115) ∧ up1 = up ∧ rt1 = upd rt (nc - 1) (far_ wy nu))
theorem endN_all {nc at_ : Nat} {wy nu : Int32} {rt up rt1 up1 : Nat → Int32} {S : TS} (h : MRel nc at_ wy nu rt up S) (ha : at_ ≠ 0) (ha2 : ¬ at_ % 2 = 1) (he : endN nc wy nu rt up rt1 up1) : ∀ j, j < nc → rt1 j = S.2.2.2.2.1 j ∧ up1 j = S.2.2.2.2.2 j := by
  obtain ⟨nc', pt, nm, tw, fe, fn⟩ := S
  obtain ⟨h1, h2, h0, h3⟩ := h
  simp only at h1 ⊢; subst h1
  rcases h3 with ⟨a, -⟩ | ⟨a, b, c, d, e, f, g⟩ | ⟨a, b, c, d, e, f, g⟩
  · exact absurd a ha
  · simp only at a d e f g
    rcases e with ⟨e, -⟩ | ⟨e, e1, e2, e3, e4⟩
    · omega
    · rcases he with ⟨-, q1, q2⟩ | ⟨q, -⟩
      · intro j hj
        rw [q1, q2]
        by_cases z : j = nc' - 1
        · subst z; exact ⟨f, by rw [pk_us, e3, far_t (by rcases c with c | c; exact Or.inl c; exact Or.inr (Or.inl c)), e4]⟩
        · rw [pk_un z]; exact g j (by omega)
      · exact absurd c q
  · simp only at a d e f g
    rcases e with ⟨e, -⟩ | ⟨e, e1, e2, e3, e4⟩
    · omega
    · rcases he with ⟨q, -⟩ | ⟨-, q1, q2⟩
      · rcases c with rfl | rfl <;> rcases q with q | q <;> exact absurd q (by decide)
      · intro j hj
        rw [q1, q2]
        by_cases z : j = nc' - 1
        · subst z; exact ⟨by rw [pk_us, e3, far_t (by rcases c with c | c; exact Or.inr (Or.inr (Or.inl c)); exact Or.inr (Or.inr (Or.inr c))), e4], f⟩
        · rw [pk_un z]; exact g j (by omega)
theorem rd_leg {nc at_ : Nat} {wy nu x : Int32} {rt up rt1 up1 : Nat → Int32} {S : TS} (h : MRel nc at_ wy nu rt up S) (ha : at_ = 2) (hx : x = 101 ∨ x = 119) (he : endN nc wy nu rt up rt1 up1) : ∃ S1, stepT x S = some S1 ∧ MRel nc 3 x nu rt1 up1 S1 := by
  have hn := (rd_nm h (by omega)).2 (by omega)
  have hall := endN_all h (by omega) (by omega) he
  obtain ⟨h1, h2, h0, h3⟩ := id h
  have hb := (MRel_at h).2.2.1 (by omega)
  obtain ⟨nc', pt, nm, tw, fe, fn⟩ := S
  simp only at h1 hn hall; subst h1
  have hp1 : pt = 1 := hn.2.2.2.2.mpr ha
  have hnd : ¬ (48 ≤ x.toInt ∧ x.toInt ≤ 57) := by rcases hx with rfl | rfl <;> decide
  have es : stepT x (nc', pt, nm, tw, fe, fn) = some (nc', 2, 0, dirT x, fe, fn) := by
    rw [stepT_nd hn.2.2.2.1 hnd, if_neg (by omega), if_pos ⟨hp1, hx⟩]
  exact ⟨_, es, rfl, h2, okT_step h0 es, Or.inr (Or.inr ⟨rfl, hb, hx, rfl, Or.inl ⟨rfl, rfl⟩, (hall (nc' - 1) (by omega)).2, fun j hj => hall j (by omega)⟩)⟩
theorem rd_semi {nc at_ : Nat} {wy nu x : Int32} {rt up rt1 up1 : Nat → Int32} {S : TS} (h : MRel nc at_ wy nu rt up S) (ha : at_ ≠ 0) (ha2 : ¬ at_ % 2 = 1) (hx : x = 59) (hc : nc < 8) (he : endN nc wy nu rt up rt1 up1) : ∃ S1, stepT x S = some S1 ∧ MRel nc 0 wy nu rt1 up1 S1 := by
  have hn := (rd_nm h ha).2 ha2
  have hall := endN_all h ha ha2 he
  obtain ⟨h1, h2, h0, h3⟩ := id h
  obtain ⟨nc', pt, nm, tw, fe, fn⟩ := S
  simp only at h1 hn hall; subst h1; subst hx
  have es : stepT 59 (nc', pt, nm, tw, fe, fn) = some (nc', 0, nm, tw, fe, fn) := by
    rw [stepT_nd hn.2.2.2.1 (by decide), if_neg (by omega), if_neg (fun q => by rcases q.2 with q | q <;> exact absurd q (by decide)), if_pos ⟨rfl, hc⟩]
  exact ⟨_, es, rfl, h2, okT_step h0 es, Or.inl ⟨rfl, rfl, hc, hall⟩⟩
theorem rd_end0 {nc at_ : Nat} {wy nu x : Int32} {rt up : Nat → Int32} {S : TS} (h : MRel nc at_ wy nu rt up S) (ha : at_ ≠ 0) (ha2 : ¬ at_ % 2 = 1) (hd : ¬ (48 ≤ x.toInt ∧ x.toInt ≤ 57)) (hl : ¬ (at_ = 2 ∧ (x = 101 ∨ x = 119))) (hs : ¬ (x = 59 ∧ nc < 8)) : stepT x S = none := by
  have hn := (rd_nm h ha).2 ha2
  obtain ⟨h1, -⟩ := h
  obtain ⟨nc', pt, nm, tw, fe, fn⟩ := S
  simp only at h1 hn; subst h1
  rw [stepT_nd hn.2.2.2.1 hd, if_neg (by omega), if_neg (fun q => hl ⟨hn.2.2.2.2.mp q.1, q.2⟩), if_neg hs]
