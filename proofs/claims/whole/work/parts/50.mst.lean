/-! the reference's state -/
def pX (S : Nat → Int32) (p : Nat) : Nat → Int32 := fun j => S (12 + 8 * p + j)
def pY (S : Nat → Int32) (p : Nat) : Nat → Int32 := fun j => S (60 + 8 * p + j)
/-- the state holds k plots, of pn corners -/
def stM (S : Nat → Int32) (k : Nat) (pn : Nat → Nat) : Prop := S 108 = nI k ∧ k ≤ 6 ∧ ∀ p, p < k → S (6 + p) = nI (pn p) ∧ pn p ≤ 8
def qX (i : Nat) : Int32 := nI (i % 32)
def qY (i : Nat) : Int32 := nI (i / 32)
/-- plot p holds the post i -/
def hlm (S : Nat → Int32) (pn : Nat → Nat) (p i : Nat) : Prop := 0 < lies (pn p) (pX S p) (pY S p) (qX i) (qY i)
def keepM (v : Nat → Int32) (F : Nat → Nat → Int32) (v1 : Nat → Int32) (F1 : Nat → Nat → Int32) : Prop := v1 4 = v 4 ∧ F1 1 = F 1 ∧ F1 2 = F 2 ∧ F1 3 = F 3 ∧ F1 4 = F 4
theorem cnt_congr2 {P Q : Nat → Prop} {n : Nat} (h : ∀ j, j < n → (P j ↔ Q j)) : cnt P n = cnt Q n := cnt_congr n h
theorem lies_congr {n : Nat} {X Y X' Y' : Nat → Int32} (h : ∀ j, j < n → X j = X' j ∧ Y j = Y' j) (x y : Int32) : lies n X Y x y = lies n X' Y' x y := by
  have e : ∀ k, k < n → (sdT n X Y k x y = sdT n X' Y' k x y ∧ (sdO n X Y k x y ↔ sdO n X' Y' k x y)) := by
    intro k hk
    have h1 := h k hk
    have h2 := h (nxt n k) (nxt_lt hk)
    unfold sdT sdO
    rw [h1.1, h1.2, h2.1, h2.2]
    exact ⟨rfl, Iff.rfl⟩
  have e1 : (∃ k, k < n ∧ sdO n X Y k x y) ↔ (∃ k, k < n ∧ sdO n X' Y' k x y) := ⟨fun ⟨k, a, b⟩ => ⟨k, a, (e k a).2.mp b⟩, fun ⟨k, a, b⟩ => ⟨k, a, (e k a).2.mpr b⟩⟩
  have e2 : cnt (crs n X Y x y) n = cnt (crs n X' Y' x y) n := by
    apply cnt_congr
    intro k hk
    unfold crs
    rw [(e k hk).1, (h k hk).2, (h (nxt n k) (nxt_lt hk)).2]
  unfold lies
  rw [e2]
  by_cases q : ∃ k, k < n ∧ sdO n X Y k x y
  · rw [if_pos q, if_pos (e1.mp q)]
  · rw [if_neg q, if_neg (fun z => q (e1.mpr z))]
theorem lies_le (n : Nat) (X Y : Nat → Int32) (x y : Int32) : lies n X Y x y ≤ 2 := by
  unfold lies
  by_cases q : ∃ k, k < n ∧ sdO n X Y k x y
  · rw [if_pos q]; omega
  · rw [if_neg q]; split <;> omega
theorem div32 {i : Nat} (h : i < 1024) : nI i / 32 = nI (i / 32) ∧ nI i - nI i / 32 * 32 = nI (i % 32) := by
  have e : nI i / 32 = nI (i / 32) := by
    apply Int32.toInt_inj.mp
    rw [Int32.toInt_div_of_ne_right _ _ (by decide), nI_toInt (by omega), nI_toInt (by omega), li_32, Int.tdiv_eq_ediv_of_nonneg (by omega)]
    omega
  refine ⟨e, ?_⟩
  rw [e]
  have : nI (i / 32) * 32 = nI (i / 32 * 32) := nI_m _ 32
  rw [this]
  apply Int32.toInt_inj.mp
  rw [tI_sub (by rw [nI_toInt (by omega), nI_toInt (by omega)]; omega) (by rw [nI_toInt (by omega), nI_toInt (by omega)]; omega), nI_toInt (by omega), nI_toInt (by omega), nI_toInt (by omega)]
  omega
theorem nI_sub {a b : Nat} (h : b ≤ a) : nI a - nI b = nI (a - b) := by
  obtain ⟨d, rfl⟩ : ∃ d, a = b + d := ⟨a - b, by omega⟩
  rw [Nat.add_sub_cancel_left, ← nI_add, Int32.add_comm]
  exact Int32.add_sub_cancel _ _
theorem oI_neg {r : Option Nat} (hb : ∀ o, r = some o → o < 2 ^ 31) (h : oI r < 0) : r = none := by
  cases r with
  | none => rfl
  | some j => exact absurd h (nI_pos (hb j rfl))
theorem oI_nn {r : Option Nat} {k : Nat} (hb : ∀ o, r = some o → o < k) (h : ¬ oI r < 0) : ∃ o, r = some o ∧ o < k := by
  cases r with
  | none => exact absurd (by decide) h
  | some j => exact ⟨j, rfl, hb j rfl⟩
theorem lo_on {O f : Nat → Int32} {z : Nat} {x : Int32} (h : ∀ j, j < z → O j = f j) (hx : x = f z) : ∀ j, j < z + 1 → upd O z x j = f j := upd_on h hx
theorem lo_keep {O f : Nat → Int32} {z : Nat} (h : ∀ j, j < z → O j = f j) (hx : O z = f z) : ∀ j, j < z + 1 → O j = f j := by
  intro j hj
  by_cases e : j = z
  · subst e; exact hx
  · exact h j (by omega)
theorem lo_off {O f : Nat → Int32} {z N : Nat} {x : Int32} (h : ∀ j, z ≤ j → j < N → O j = f j) : ∀ j, z + 1 ≤ j → j < N → upd O z x j = f j := by
  intro j h1 h2
  rw [pk_un (by omega)]; exact h j (by omega) h2
