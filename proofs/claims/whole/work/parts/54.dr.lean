/-! plots that go, images -/
def rowE (S1 : Nat → Int32) (q1 : Nat) (S : Nat → Int32) (q : Nat) : Prop := S1 q1 = S q ∧ S1 (6 + q1) = S (6 + q) ∧ ∀ j, j < 8 → S1 (12 + 8 * q1 + j) = S (12 + 8 * q + j) ∧ S1 (60 + 8 * q1 + j) = S (60 + 8 * q + j)
theorem rowE.rf (S : Nat → Int32) (q : Nat) : rowE S q S q := ⟨rfl, rfl, fun _ _ => ⟨rfl, rfl⟩⟩
/-- rows from p on up to z have come from those behind them; n plots are left -/
def DR (S S1 : Nat → Int32) (n p z : Nat) : Prop := S1 108 = nI n ∧ S1 109 = S 109 ∧ (∀ q, p ≤ q → q < z → rowE S1 q S (q + 1)) ∧ ∀ q, q < 6 → (q < p ∨ z ≤ q) → rowE S1 q S q
/-- the row z half way: years and sizes are in place, and the first w corners -/
def DW (S S1 : Nat → Int32) (n p z w : Nat) : Prop := S1 108 = nI n ∧ S1 109 = S 109 ∧ (∀ q, p ≤ q → q < z → rowE S1 q S (q + 1)) ∧ (∀ q, q < 6 → (q < p ∨ z < q) → rowE S1 q S q) ∧ S1 z = S (z + 1) ∧ S1 (6 + z) = S (6 + (z + 1)) ∧
  (∀ j, j < w → S1 (12 + 8 * z + j) = S (12 + 8 * (z + 1) + j) ∧ S1 (60 + 8 * z + j) = S (60 + 8 * (z + 1) + j))
theorem rowE_un {S1 S : Nat → Int32} {q1 q k : Nat} {x : Int32} (h : rowE S1 q1 S q) (h1 : q1 ≠ k) (h2 : 6 + q1 ≠ k) (h3 : ∀ j, j < 8 → 12 + 8 * q1 + j ≠ k ∧ 60 + 8 * q1 + j ≠ k) : rowE (upd S1 k x) q1 S q :=
  ⟨by rw [pk_un h1]; exact h.1, by rw [pk_un h2]; exact h.2.1, fun j hj => ⟨by rw [pk_un (h3 j hj).1]; exact (h.2.2 j hj).1, by rw [pk_un (h3 j hj).2]; exact (h.2.2 j hj).2⟩⟩
theorem DR_0 {S : Nat → Int32} {n p : Nat} (hp : p < 6) : DR S (upd S 108 (nI n)) n p p :=
  ⟨pk_us, pk_un (by decide), fun q h1 h2 => absurd h2 (by omega), fun q hq _ => rowE_un (rowE.rf S q) (by omega) (by omega) (fun j hj => by omega)⟩
theorem DW_0 {S S1 : Nat → Int32} {n p z : Nat} (h : DR S S1 n p z) (hz : z + 1 < 6) (hpz : p ≤ z) : S1 (z + 1) = S (z + 1) ∧ upd S1 z (S1 (z + 1)) (6 + z + 1) = S (6 + (z + 1)) ∧ DW S (upd (upd S1 z (S1 (z + 1))) (6 + z) (upd S1 z (S1 (z + 1)) (6 + z + 1))) n p z 0 := by
  obtain ⟨h1, h2, h3, h4⟩ := h
  have e1 : S1 (z + 1) = S (z + 1) := (h4 (z + 1) hz (Or.inr (by omega))).1
  have e2 : upd S1 z (S1 (z + 1)) (6 + z + 1) = S (6 + (z + 1)) := by rw [pk_un (by omega)]; exact (h4 (z + 1) hz (Or.inr (by omega))).2.1
  refine ⟨e1, e2, ?_⟩
  rw [e1] at e2
  rw [e1, e2]
  refine ⟨by rw [pk_un (by omega), pk_un (by omega)]; exact h1, by rw [pk_un (by omega), pk_un (by omega)]; exact h2, fun q a b => ?_, fun q a b => ?_, by rw [pk_un (by omega), pk_us], pk_us, fun j hj => absurd hj (Nat.not_lt_zero _)⟩
  · exact rowE_un (rowE_un (h3 q a b) (by omega) (by omega) (fun j hj => by omega)) (by omega) (by omega) (fun j hj => by omega)
  · exact rowE_un (rowE_un (h4 q a (by omega)) (by omega) (by omega) (fun j hj => by omega)) (by omega) (by omega) (fun j hj => by omega)
theorem DW_s {S S1 : Nat → Int32} {n p z w : Nat} (h : DW S S1 n p z w) (hz : z + 1 < 6) (hw : w < 8) (hpz : p ≤ z) :
    DW S (upd (upd S1 (12 + 8 * z + w) (S1 (12 + 8 * z + 8 + w))) (60 + 8 * z + w) (upd S1 (12 + 8 * z + w) (S1 (12 + 8 * z + 8 + w)) (60 + 8 * z + 8 + w))) n p z (w + 1) := by
  obtain ⟨h1, h2, h3, h4, h5, h6, h7⟩ := h
  have hr := h4 (z + 1) hz (Or.inr (by omega))
  have e1 : S1 (12 + 8 * z + 8 + w) = S (12 + 8 * (z + 1) + w) := by rw [show 12 + 8 * z + 8 + w = 12 + 8 * (z + 1) + w by omega]; exact (hr.2.2 w hw).1
  have e2 : upd S1 (12 + 8 * z + w) (S1 (12 + 8 * z + 8 + w)) (60 + 8 * z + 8 + w) = S (60 + 8 * (z + 1) + w) := by rw [pk_un (by omega), show 60 + 8 * z + 8 + w = 60 + 8 * (z + 1) + w by omega]; exact (hr.2.2 w hw).2
  rw [e1] at e2
  rw [e1, e2]
  refine ⟨by rw [pk_un (by omega), pk_un (by omega)]; exact h1, by rw [pk_un (by omega), pk_un (by omega)]; exact h2, fun q a b => ?_, fun q a b => ?_, by rw [pk_un (by omega), pk_un (by omega)]; exact h5, by rw [pk_un (by omega), pk_un (by omega)]; exact h6, fun j hj => ?_⟩
  · exact rowE_un (rowE_un (h3 q a b) (by omega) (by omega) (fun j hj => by omega)) (by omega) (by omega) (fun j hj => by omega)
  · exact rowE_un (rowE_un (h4 q a b) (by omega) (by omega) (fun j hj => by omega)) (by omega) (by omega) (fun j hj => by omega)
  · by_cases q : j = w
    · subst q
      exact ⟨by rw [pk_un (by omega), pk_us], pk_us⟩
    · rw [pk_un (by omega), pk_un (by omega), pk_un (by omega), pk_un (by omega)]
      exact h7 j (by omega)
theorem DW_e {S S1 : Nat → Int32} {n p z : Nat} (h : DW S S1 n p z 8) (hpz : p ≤ z) : DR S S1 n p (z + 1) := by
  obtain ⟨h1, h2, h3, h4, h5, h6, h7⟩ := h
  refine ⟨h1, h2, fun q a b => ?_, fun q a b => h4 q a (by omega)⟩
  by_cases e : q = z
  · subst e; exact ⟨h5, h6, h7⟩
  · exact h3 q a (by omega)
def kb (z n : Int32) : Int32 := if z = 0 then 0 else n
noncomputable def aCount (k : Nat) (pn : PN) (PX PY : PF) (sg lo k0 k1 w : Int32) : Int32 := cif (w = 0) (nI k) (cif (w = 1) sg (cif (w = 2) lo (cif (w = 3) (aMore k pn PX PY) (cif (w = 4) (kb k0 1 + kb k1 2) (-2)))))
def imgE (I : Nat → Int32) (kx : Nat) (S : Nat → Int32) : Prop := ∀ j, j < 110 → I (110 * kx + j) = S j
theorem img_on {I I0 S : Nat → Int32} {kx z : Nat} (h : ∀ j, j < z → I (110 * kx + j) = S j) : ∀ j, j < z + 1 → upd I (110 * kx + z) (S z) (110 * kx + j) = S j := by
  intro j hj
  by_cases e : j = z
  · subst e; rw [pk_us]
  · rw [pk_un (by omega)]; exact h j (by omega)
theorem img_off {I I0 : Nat → Int32} {kx z : Nat} {x : Int32} (h : ∀ j, (j < 110 * kx ∨ 110 * kx + 110 ≤ j) → I j = I0 j) (hz : z < 110) : ∀ j, (j < 110 * kx ∨ 110 * kx + 110 ≤ j) → upd I (110 * kx + z) x j = I0 j := by
  intro j hj
  rw [pk_un (by omega)]; exact h j hj
