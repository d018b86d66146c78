/-! numbers: ints of the machine and whole numbers -/
noncomputable def zb (P : Prop) : Int32 := @ite _ P (Classical.propDecidable P) 1 0
theorem zb_t {P : Prop} (h : P) : (1 : Int32) = zb P := by unfold zb; rw [if_pos h]
theorem zb_f {P : Prop} (h : ¬ P) : (0 : Int32) = zb P := by unfold zb; rw [if_neg h]
theorem zb_eq0 {P : Prop} : zb P = 0 ↔ ¬ P := by
  by_cases h : P
  · rw [← zb_t h]; exact ⟨fun q => absurd q (by decide), fun q => absurd h q⟩
  · rw [← zb_f h]; exact ⟨fun _ => h, fun _ => rfl⟩
theorem zb_ne0 {P : Prop} : ¬ zb P = 0 ↔ P := by
  rw [zb_eq0]; exact Classical.not_not
theorem zb_iff {P Q : Prop} (h : P ↔ Q) : zb P = zb Q := by rw [propext h]
theorem nar_zb (P : Prop) : narrow .boolean (.int (zb P)) = .int (zb P) := by
  by_cases h : P
  · rw [← zb_t h]; rfl
  · rw [← zb_f h]; rfl
theorem bm {z : Int} (h1 : -2147483648 ≤ z) (h2 : z ≤ 2147483647) : z.bmod (2 ^ 32) = z := by
  rw [Int.bmod_eq_of_le] <;> omega
theorem tI_add {a b : Int32} (h1 : -2147483648 ≤ a.toInt + b.toInt) (h2 : a.toInt + b.toInt ≤ 2147483647) : (a + b).toInt = a.toInt + b.toInt := by rw [Int32.toInt_add, bm h1 h2]
theorem tI_sub {a b : Int32} (h1 : -2147483648 ≤ a.toInt - b.toInt) (h2 : a.toInt - b.toInt ≤ 2147483647) : (a - b).toInt = a.toInt - b.toInt := by rw [Int32.toInt_sub, bm h1 h2]
theorem tI_mul {a b : Int32} (h1 : -2147483648 ≤ a.toInt * b.toInt) (h2 : a.toInt * b.toInt ≤ 2147483647) : (a * b).toInt = a.toInt * b.toInt := by rw [Int32.toInt_mul, bm h1 h2]
theorem tI_neg {a : Int32} (h1 : -2147483647 ≤ a.toInt) : (-a).toInt = -a.toInt := by
  have h2 : a.toInt ≤ 2147483647 := by have := Int32.toInt_lt a; omega
  rw [Int32.toInt_neg, bm (by omega) (by omega)]
def isP (x y : Int32) : Prop := 0 ≤ x.toInt ∧ x.toInt ≤ 31 ∧ 0 ≤ y.toInt ∧ y.toInt ≤ 31
def old (yr : Nat → Int32) (j o : Nat) : Prop := (yr j).toInt < (yr o).toInt ∨ (yr j).toInt = (yr o).toInt ∧ j < o
def isum (f : Nat → Int32) : Nat → Int32
  | 0 => 0
  | k + 1 => isum f k + f k
noncomputable def cnt (P : Nat → Prop) : Nat → Nat
  | 0 => 0
  | k + 1 => cnt P k + @ite _ (P k) (Classical.propDecidable _) 1 0
theorem cnt_t {P : Nat → Prop} {k : Nat} (h : P k) : cnt P (k + 1) = cnt P k + 1 := by show _ + _ = _; rw [if_pos h]
theorem cnt_f {P : Nat → Prop} {k : Nat} (h : ¬ P k) : cnt P (k + 1) = cnt P k := by show _ + _ = _; rw [if_neg h, Nat.add_zero]
theorem cnt_le (P : Nat → Prop) : ∀ k, cnt P k ≤ k
  | 0 => Nat.le_refl _
  | k + 1 => by
    by_cases h : P k
    · rw [cnt_t h]; have := cnt_le P k; omega
    · rw [cnt_f h]; have := cnt_le P k; omega
theorem cnt_congr {P Q : Nat → Prop} : ∀ k, (∀ j, j < k → (P j ↔ Q j)) → cnt P k = cnt Q k
  | 0, _ => rfl
  | k + 1, h => by
    have ih := cnt_congr k (fun j hj => h j (by omega))
    by_cases hp : P k
    · rw [cnt_t hp, cnt_t ((h k (by omega)).mp hp), ih]
    · rw [cnt_f hp, cnt_f (fun q => hp ((h k (by omega)).mpr q)), ih]
def stp (fe fn : Nat → Int32) (k : Nat) : Int32 := ab (fe k) + ab (fn k)
def updF (F : Nat → Nat → Int32) (k : Nat) (g : Nat → Int32) : Nat → Nat → Int32 := fun j => if j = k then g else F j
abbrev MW (cI cZ : ClassId) (a : Nat → Nat) (v : Nat → Int32) (su sl : Int64) (F : Nat → Nat → Int32) : va_W :=
  [(a 0, .inr (9, [.ref (a 1), .ref (a 2), .ref (a 3), .ref (a 4), .int (v 4), .ref (a 5), .ref (a 6), .int (v 7), .int (v 8), .int (v 9), .int (v 10), .ref (a 7), .ref (a 8), .int (v 13), .int (v 14), .int (v 15), .ref (a 9), .ref (a 10), .int (v 18), .long su, .long sl, .ref (a 11), .ref (a 12), .int (v 23)])),
   (a 1, .inl (cI, 110, .inl (F 1))), (a 2, .inl (cI, 220, .inl (F 2))), (a 3, .inl (cZ, 2, .inl (F 3))), (a 4, .inl (cI, 48, .inl (F 4))), (a 5, .inl (cI, 8, .inl (F 5))), (a 6, .inl (cI, 8, .inl (F 6))), (a 7, .inl (cI, 8, .inl (F 7))), (a 8, .inl (cI, 8, .inl (F 8))),
   (a 9, .inl (cI, 1024, .inl (F 9))), (a 10, .inl (cI, 64, .inl (F 10))), (a 11, .inl (cI, 1024, .inl (F 11))), (a 12, .inl (cI, 1024, .inl (F 12)))]
/-! the corners' sides, as the class has them -/
def nxt (n k : Nat) : Nat := if k + 1 < n then k + 1 else 0
theorem nxt_lt {n k : Nat} (h : k < n) : nxt n k < n := by unfold nxt; split <;> omega
def tn (ax ay bx bey x y : Int32) : Int32 := (bx - ax) * (y - ay) - (bey - ay) * (x - ax)
def onS (ax ay bx bey x y : Int32) : Prop := tn ax ay bx bey x y = 0 ∧ ¬ x < mn ax bx ∧ ¬ mx ax bx < x ∧ ¬ y < mn ay bey ∧ ¬ mx ay bey < y
abbrev sdT (n : Nat) (X Y : Nat → Int32) (k : Nat) (x y : Int32) : Int32 := tn (X k) (Y k) (X (nxt n k)) (Y (nxt n k)) x y
abbrev sdO (n : Nat) (X Y : Nat → Int32) (k : Nat) (x y : Int32) : Prop := onS (X k) (Y k) (X (nxt n k)) (Y (nxt n k)) x y
def mere (n : Nat) (X Y : Nat → Int32) (k : Nat) : Prop := X k = X (nxt n k) ∧ Y k = Y (nxt n k)
def fld (n : Nat) (X Y : Nat → Int32) (k j : Nat) : Prop := (X k - X j) * (Y (nxt n j) - Y j) = (Y k - Y j) * (X (nxt n j) - X j) ∧ ¬ (X k - X j) * (X (nxt n j) - X j) + (Y k - Y j) * (Y (nxt n j) - Y j) ≤ 0
def tch (n : Nat) (X Y : Nat → Int32) (k j : Nat) : Prop := sdO n X Y k (X j) (Y j) ∨ sdO n X Y k (X (nxt n j)) (Y (nxt n j)) ∨ sdO n X Y j (X k) (Y k) ∨ sdO n X Y j (X (nxt n k)) (Y (nxt n k)) ∨
  (sdT n X Y k (X j) (Y j) * sdT n X Y k (X (nxt n j)) (Y (nxt n j)) < 0 ∧ sdT n X Y j (X k) (Y k) * sdT n X Y j (X (nxt n k)) (Y (nxt n k)) < 0)
def clsh (n : Nat) (X Y : Nat → Int32) (k j : Nat) : Prop := (nxt n k = j ∧ fld n X Y k j) ∨ (¬ nxt n k = j ∧ nxt n j = k ∧ fld n X Y j k) ∨ (¬ nxt n k = j ∧ ¬ nxt n j = k ∧ tch n X Y k j)
def stn (n : Nat) (X Y : Nat → Int32) : Prop := (∀ z, z < n → isP (X z) (Y z) ∧ ¬ mere n X Y z) ∧ ∀ z, z < n → ∀ w, z < w → w < n → ¬ clsh n X Y z w
def twt (n : Nat) (X Y : Nat → Int32) (k : Nat) : Int32 := X k * Y (nxt n k) - X (nxt n k) * Y k
def sgn (z : Int32) : Int32 := if z ≤ 0 then (if 0 ≤ z then 0 else -1) else 1
theorem sgn_0 {z : Int32} : sgn z = 0 ↔ z = 0 := by
  unfold sgn
  by_cases h : z ≤ 0
  · rw [if_pos h]
    by_cases h2 : 0 ≤ z
    · rw [if_pos h2]; exact ⟨fun _ => Int32.le_antisymm h h2, fun _ => rfl⟩
    · rw [if_neg h2]; exact ⟨fun q => absurd q (by decide), fun q => absurd (q ▸ Int32.le_refl 0) h2⟩
  · rw [if_neg h]; exact ⟨fun q => absurd q (by decide), fun q => absurd (q ▸ Int32.le_refl 0) h⟩
theorem sgn_pos {z : Int32} : 0 < sgn z ↔ 0 < z := by
  unfold sgn
  by_cases h : z ≤ 0
  · rw [if_pos h]
    by_cases h2 : 0 ≤ z
    · rw [if_pos h2]; exact ⟨fun q => absurd q (by decide), fun q => absurd h (Int32.not_le.mpr q)⟩
    · rw [if_neg h2]; exact ⟨fun q => absurd q (by decide), fun q => absurd h (Int32.not_le.mpr q)⟩
  · rw [if_neg h]; exact ⟨fun _ => Int32.not_le.mp h, fun _ => by decide⟩
theorem sgn_neg {z : Int32} : sgn z < 0 ↔ z < 0 := by
  unfold sgn
  by_cases h : z ≤ 0
  · rw [if_pos h]
    by_cases h2 : 0 ≤ z
    · rw [if_pos h2]; exact ⟨fun q => absurd q (by decide), fun q => absurd h2 (Int32.not_le.mpr q)⟩
    · rw [if_neg h2]; exact ⟨fun _ => Int32.not_le.mp h2, fun _ => by decide⟩
  · rw [if_neg h]; exact ⟨fun q => absurd q (by decide), fun q => absurd (Int32.le_of_lt q) h⟩
theorem mn_t {a b : Int32} : (mn a b).toInt = min a.toInt b.toInt := by
  unfold mn
  by_cases h : b < a
  · rw [if_pos h]; rw [Int32.lt_iff_toInt_lt] at h; omega
  · rw [if_neg h]; rw [Int32.lt_iff_toInt_lt] at h; omega
theorem mx_t {a b : Int32} : (mx a b).toInt = max a.toInt b.toInt := by
  unfold mx
  by_cases h : a < b
  · rw [if_pos h]; rw [Int32.lt_iff_toInt_lt] at h; omega
  · rw [if_neg h]; rw [Int32.lt_iff_toInt_lt] at h; omega
def crs (n : Nat) (X Y : Nat → Int32) (x y : Int32) (k : Nat) : Prop := ((Y k).toInt ≤ y.toInt ∧ y.toInt < (Y (nxt n k)).toInt ∧ 0 < (sdT n X Y k x y).toInt) ∨ ((Y (nxt n k)).toInt ≤ y.toInt ∧ y.toInt < (Y k).toInt ∧ (sdT n X Y k x y).toInt < 0)
noncomputable def lies (n : Nat) (X Y : Nat → Int32) (x y : Int32) : Nat := @ite _ (∃ k, k < n ∧ sdO n X Y k x y) (Classical.propDecidable _) 1 (if cnt (crs n X Y x y) n % 2 = 1 then 2 else 0)
theorem lies_1 {n : Nat} {X Y : Nat → Int32} {x y : Int32} (h : ∃ k, k < n ∧ sdO n X Y k x y) : (1 : Int32) = nI (lies n X Y x y) := by unfold lies; rw [if_pos h]; rfl
theorem lies_2 {n : Nat} {X Y : Nat → Int32} {x y : Int32} (h : ¬ ∃ k, k < n ∧ sdO n X Y k x y) (h2 : cnt (crs n X Y x y) n % 2 ≠ 0) : (2 : Int32) = nI (lies n X Y x y) := by unfold lies; rw [if_neg h, if_pos (by omega)]; rfl
theorem lies_0 {n : Nat} {X Y : Nat → Int32} {x y : Int32} (h : ¬ ∃ k, k < n ∧ sdO n X Y k x y) (h2 : cnt (crs n X Y x y) n % 2 = 0) : (0 : Int32) = nI (lies n X Y x y) := by unfold lies; rw [if_neg h, if_neg (by omega)]; rfl
theorem sgn_posle {z : Int32} : 0 ≤ sgn z ↔ 0 ≤ z := by rw [← Int32.not_lt, ← Int32.not_lt, sgn_neg]
theorem sgn_negle {z : Int32} : sgn z ≤ 0 ↔ z ≤ 0 := by rw [← Int32.not_lt, ← Int32.not_lt, sgn_pos]
theorem sgI_pos {z : Int32} : 0 < (sgn z).toInt ↔ 0 < z.toInt := by have := sgn_pos (z := z); rw [Int32.lt_iff_toInt_lt, Int32.lt_iff_toInt_lt, li_0] at this; exact this
theorem sgI_neg {z : Int32} : (sgn z).toInt < 0 ↔ z.toInt < 0 := by have := sgn_neg (z := z); rw [Int32.lt_iff_toInt_lt, Int32.lt_iff_toInt_lt, li_0] at this; exact this
theorem sgI_le {z : Int32} : 0 ≤ (sgn z).toInt ↔ 0 ≤ z.toInt := by have := sgI_neg (z := z); omega
theorem sgI_ge {z : Int32} : (sgn z).toInt ≤ 0 ↔ z.toInt ≤ 0 := by have := sgI_pos (z := z); omega
