/-! rows of posts: bits -/
def bit (w : Int32) (x : Nat) : Prop := w.toUInt32.toNat.testBit x = true
noncomputable def cnt2 (P : Nat → Nat → Prop) : Nat → Nat
  | 0 => 0
  | y + 1 => cnt2 P y + cnt (P y) 32
theorem bitc_eq (x : Int32) : (let a := x - ((x.toUInt32 >>> ((1 : Int32).toUInt32 &&& Int32.toUInt32 31)).toInt32 &&& 1431655765)
    let b := (a &&& 858993459) + ((a.toUInt32 >>> ((2 : Int32).toUInt32 &&& Int32.toUInt32 31)).toInt32 &&& 858993459)
    let d := (b + (b.toUInt32 >>> ((4 : Int32).toUInt32 &&& Int32.toUInt32 31)).toInt32) &&& 252645135
    let f := d + (d.toUInt32 >>> ((8 : Int32).toUInt32 &&& Int32.toUInt32 31)).toInt32
    let g := f + (f.toUInt32 >>> ((16 : Int32).toUInt32 &&& Int32.toUInt32 31)).toInt32
    g &&& 63) = nI (cnt (bit x) 32) := sorry
theorem isIn_bit {w : Int32} {x : Nat} (hx : x < 32) : (w.toUInt32 >>> ((nI x).toUInt32 &&& Int32.toUInt32 31)).toInt32 &&& 1 = 1 ↔ bit w x := sorry
theorem bit_and (a b : Int32) (x : Nat) (hx : x < 32) : bit (a &&& b) x ↔ bit a x ∧ bit b x := by
  unfold bit; rw [Int32.toUInt32_and, UInt32.toNat_and, Nat.testBit_and, Bool.and_eq_true]
theorem bit_or (a b : Int32) (x : Nat) (hx : x < 32) : bit (a ||| b) x ↔ bit a x ∨ bit b x := by
  unfold bit; rw [Int32.toUInt32_or, UInt32.toNat_or, Nat.testBit_or, Bool.or_eq_true]
theorem bit_xor (a b : Int32) (x : Nat) (hx : x < 32) : bit (a ^^^ b) x ↔ ¬ (bit a x ↔ bit b x) := by
  unfold bit; rw [Int32.toUInt32_xor, UInt32.toNat_xor, Nat.testBit_xor]; cases Nat.testBit _ _ <;> cases Nat.testBit _ _ <;> simp
/-- the rows of those of the first k that P names, one over the other -/
noncomputable def orr (P : Nat → Prop) (h : Nat → Int32) : Nat → Int32
  | 0 => 0
  | k + 1 => @ite _ (P k) (Classical.propDecidable _) (orr P h k ||| h k) (orr P h k)
theorem orr_t {P : Nat → Prop} {h : Nat → Int32} {k : Nat} (hp : P k) : orr P h (k + 1) = orr P h k ||| h k := if_pos hp
theorem orr_f {P : Nat → Prop} {h : Nat → Int32} {k : Nat} (hp : ¬ P k) : orr P h (k + 1) = orr P h k := if_neg hp
noncomputable def ags (h : Nat → Int32) : Nat → Int32
  | 0 => 0
  | k + 1 => ags h k ||| (orr (fun _ => True) h k &&& h k)
/-- whose the right is, of the first k -/
noncomputable def own (hd : Nat → Prop) (yr : Nat → Int32) : Nat → Option Nat
  | 0 => none
  | k + 1 => @ite _ (hd k ∧ (own hd yr k = none ∨ ∃ o, own hd yr k = some o ∧ old yr k o)) (Classical.propDecidable _) (some k) (own hd yr k)
theorem own_t {hd : Nat → Prop} {yr : Nat → Int32} {k : Nat} (h1 : hd k) (h2 : own hd yr k = none ∨ ∃ o, own hd yr k = some o ∧ old yr k o) : own hd yr (k + 1) = some k := if_pos ⟨h1, h2⟩
theorem own_f {hd : Nat → Prop} {yr : Nat → Int32} {k : Nat} (h : ¬ (hd k ∧ (own hd yr k = none ∨ ∃ o, own hd yr k = some o ∧ old yr k o))) : own hd yr (k + 1) = own hd yr k := if_neg h
theorem own_lt (hd : Nat → Prop) (yr : Nat → Int32) : ∀ k o, own hd yr k = some o → o < k
  | 0, o, h => by simp [own] at h
  | k + 1, o, h => by
    by_cases q : hd k ∧ (own hd yr k = none ∨ ∃ o, own hd yr k = some o ∧ old yr k o)
    · rw [own_t q.1 q.2] at h; cases h; omega
    · rw [own_f q] at h; have := own_lt hd yr k o h; omega
def oI (r : Option Nat) : Int32 := match r with
  | none => -6
  | some j => nI j
theorem oI_none {r : Option Nat} (h : oI r = -6) (hb : ∀ o, r = some o → o < 2 ^ 31 := by intro o ho; have := own_lt _ _ _ _ ho; omega) : r = none := by
  cases r with
  | none => rfl
  | some j =>
    have h1 := congrArg Int32.toInt h
    have h2 : (nI j).toInt = -6 := h1.trans li_m6
    rw [nI_toInt (hb j rfl)] at h2
    omega
theorem oI_some {r : Option Nat} {k : Nat} (hb : ∀ o, r = some o → o < k) (h : ¬ oI r = -6) : ∃ o, r = some o ∧ o < k := by
  cases r with
  | none => exact absurd rfl h
  | some j => exact ⟨j, rfl, hb j rfl⟩
/-- the plots of an estate: each at its address, with the posts that it holds -/
def PO (D : va_G) (cI : ClassId) (fp : Nat → Option Nat) (k : Nat) (hd : Nat → Nat → Int32) (H : Heap) : Prop := ∀ j, j < k → ∃ pa o1 o2 o3 o4 o5 : Nat, fp j = some pa ∧ va_P D vwCl [(pa, .inr (4, [.ref o1, .ref o2, .ref o3, .ref o4, .ref o5])), (o5, .inl (cI, 32, .inl (hd j)))] H
