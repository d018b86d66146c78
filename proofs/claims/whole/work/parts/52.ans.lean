/-! the answers -/
noncomputable def cif {α : Type} (P : Prop) (a b : α) : α := @ite _ P (Classical.propDecidable P) a b
theorem cif_t {α : Type} {P : Prop} {a b : α} (h : P) : cif P a b = a := if_pos h
theorem cif_f {α : Type} {P : Prop} {a b : α} (h : ¬ P) : cif P a b = b := if_neg h
def inP (k : Nat) (p : Int32) : Prop := 0 ≤ p.toInt ∧ p.toInt < k
def ix (p : Int32) : Nat := p.toInt.toNat
theorem ix_nI {j : Nat} (h : j < 2 ^ 31) : ix (nI j) = j := by unfold ix; rw [nI_toInt h]; omega
theorem inP_nat {k : Nat} {p : Int32} (h : 0 ≤ p.toInt ∧ p.toInt < k) (hk : k < 2 ^ 31) : ∃ j, j < k ∧ p = nI j ∧ ix p = j := by
  refine ⟨p.toInt.toNat, by omega, Int32.toInt_inj.mp ?_, rfl⟩
  rw [nI_toInt (by omega)]; omega
abbrev PN : Type := Nat → Nat
abbrev PF : Type := Nat → Nat → Int32
/-- plot p holds the post i -/
def hlp (pn : PN) (PX PY : PF) (p i : Nat) : Prop := 0 < lies (pn p) (PX p) (PY p) (qX i) (qY i)
noncomputable def aLies (k : Nat) (pn : PN) (PX PY : PF) (p x y : Int32) : Int32 := cif (inP k p) (cif (isP x y) (nI (lies (pn (ix p)) (PX (ix p)) (PY (ix p)) x y)) (-2)) (-1)
noncomputable def aCorner (k : Nat) (pn : PN) (PX PY : PF) (p q w : Int32) : Int32 := cif (inP k p) (cif (0 ≤ w.toInt ∧ w.toInt ≤ 1) (cif (inP (pn (ix p)) q) (cif (w = 0) (PX (ix p) (ix q)) (PY (ix p) (ix q))) (-6)) (-2)) (-1)
noncomputable def ownr (k : Nat) (pn : PN) (PX PY : PF) (yr : Nat → Int32) (i : Nat) : Option Nat := own (fun z => hlp pn PX PY z i) yr k
noncomputable def aLost (k : Nat) (pn : PN) (PX PY : PF) (yr : Nat → Int32) (p : Nat) : Int32 := nI (cnt (fun i => hlp pn PX PY p i ∧ ¬ ownr k pn PX PY yr i = some p) 1024)
noncomputable def aAbout (k : Nat) (pn : PN) (PX PY : PF) (yr : Nat → Int32) (p w : Int32) : Int32 := cif (inP k p)
  (cif (w = 0) (yr (ix p)) (cif (w = 1) (nI (pn (ix p))) (cif (w = 2) (ab (isum (twt (pn (ix p)) (PX (ix p)) (PY (ix p))) (pn (ix p)))) (cif (w = 3) (zb (0 < isum (twt (pn (ix p)) (PX (ix p)) (PY (ix p))) (pn (ix p))))
    (cif (w = 4) (nI (cnt (fun z => lies (pn (ix p)) (PX (ix p)) (PY (ix p)) (qX z) (qY z) = 2) 1024)) (cif (w = 5) (nI (cnt (fun z => lies (pn (ix p)) (PX (ix p)) (PY (ix p)) (qX z) (qY z) = 1) 1024)) (cif (w = 6) (aLost k pn PX PY yr (ix p)) (-2)))))))) (-1)
noncomputable def aRight (k : Nat) (pn : PN) (PX PY : PF) (yr : Nat → Int32) (x y : Int32) : Int32 := cif (isP x y) (oI (ownr k pn PX PY yr (32 * ix y + ix x))) (-2)
def cmmn (w : Int32) (a b : Nat) : Prop := (w = 0 ∧ a = 2 ∧ b = 2) ∨ (w = 1 ∧ a = 1 ∧ b = 1) ∨ (w = 2 ∧ 0 < a ∧ 0 < b)
noncomputable def aCommon (k : Nat) (pn : PN) (PX PY : PF) (p q w : Int32) : Int32 := cif (inP k p ∧ inP k q) (cif (0 ≤ w.toInt ∧ w.toInt ≤ 2)
  (nI (cnt (fun i => cmmn w (lies (pn (ix q)) (PX (ix q)) (PY (ix q)) (qX i) (qY i)) (lies (pn (ix p)) (PX (ix p)) (PY (ix p)) (qX i) (qY i))) 1024)) (-2)) (-1)
noncomputable def aMore (k : Nat) (pn : PN) (PX PY : PF) : Int32 := nI (cnt (fun i => 1 < cnt (fun p => hlp pn PX PY p i) k) 1024)
noncomputable def aYear (k : Nat) (yr : Nat → Int32) (p y : Int32) : Int32 := cif (inP k p) (cif (1 ≤ y.toInt ∧ y.toInt ≤ 999) (nI (cnt (fun z => old (upd yr (ix p) y) z (ix p)) k)) (-2)) (-1)
theorem one_if {P : Nat → Prop} {z : Nat} (h : P z) : cnt P z + 1 = cnt P (z + 1) := (cnt_t h).symm
theorem oI_eq {r : Option Nat} {k p : Nat} (hb : ∀ o, r = some o → o < k) (hk : k < 2 ^ 31) (hp : p < 2 ^ 31) (h : oI r = nI p) : r = some p := by
  cases r with
  | none =>
    have h1 := congrArg Int32.toInt h
    rw [nI_toInt hp] at h1
    have : (-6 : Int32).toInt = -6 := li_m6
    exact absurd (this.symm.trans h1) (by omega)
  | some j =>
    have := hb j rfl
    exact congrArg some ((nI_eq (by omega) hp).mp h)
theorem isum_congr {f g : Nat → Int32} : ∀ n, (∀ j, j < n → f j = g j) → isum f n = isum g n
  | 0, _ => rfl
  | n + 1, h => by show _ + _ = _ + _; rw [isum_congr n (fun j hj => h j (by omega)), h n (by omega)]
theorem twt_congr {n : Nat} {X Y X' Y' : Nat → Int32} (h : ∀ j, j < n → X j = X' j ∧ Y j = Y' j) : ∀ j, j < n → twt n X Y j = twt n X' Y' j := by
  intro j hj
  have h1 := h j hj
  have h2 := h (nxt n j) (nxt_lt hj)
  unfold twt
  rw [h1.1, h1.2, h2.1, h2.2]
theorem cmmn_n {ww a b : Nat} (h : ww ≤ 2) : cmmn (nI ww) a b ↔ (ww = 0 ∧ a = 2 ∧ b = 2) ∨ (ww = 1 ∧ a = 1 ∧ b = 1) ∨ (ww = 2 ∧ 0 < a ∧ 0 < b) := by
  unfold cmmn
  rw [show (nI ww = 0) = (ww = 0) from propext (nI_eq (b := 0) (by omega) (by decide)), show (nI ww = 1) = (ww = 1) from propext (nI_eq (b := 1) (by omega) (by decide)), show (nI ww = 2) = (ww = 2) from propext (nI_eq (b := 2) (by omega) (by decide))]
