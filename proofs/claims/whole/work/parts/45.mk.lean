/-! posts on a side, posts west of a side: what the class does -/
def fdv (x y : Int32) : Int32 := Int32.ofInt (x.toInt / y.toInt)
theorem xor_neg (x y : Int32) : x ^^^ y < 0 ↔ ¬ (x < 0 ↔ y < 0) := by
  have h : ∀ z : Int32, z < 0 ↔ z.toBitVec.msb = true := by
    intro z
    rw [Int32.lt_iff_toInt_lt, li_0]
    show z.toBitVec.toInt < 0 ↔ _
    exact BitVec.msb_eq_toInt ▸ (by simp)
  rw [h, h, h, Int32.toBitVec_xor, BitVec.msb_xor]
  cases x.toBitVec.msb <;> cases y.toBitVec.msb <;> simp
theorem fdv_q {x y : Int32} (hy : 0 < y.toInt) (h1 : -1073741824 < x.toInt) (h2 : x.toInt < 1073741824) : (x / y).toInt = x.toInt.tdiv y.toInt :=
  Int32.toInt_div_of_ne_left x y (fun q => by rw [q] at h1; exact absurd h1 (by decide))
theorem fdv_t {x y : Int32} (hy : 0 < y.toInt) (h1 : -1073741824 < x.toInt) (h2 : x.toInt < 1073741824) : (fdv x y).toInt = x.toInt / y.toInt := by
  unfold fdv
  have a1 : x.toInt / y.toInt ≤ 1073741824 := by
    rcases Int.le_total 0 x.toInt with q | q
    · have := Int.ediv_le_self (b := y.toInt) q; omega
    · have := Int.ediv_le_ediv hy q; rw [Int.zero_ediv] at this; omega
  have a2 : -1073741825 ≤ x.toInt / y.toInt := by
    rcases Int.le_total 0 x.toInt with q | q
    · have := Int.ediv_nonneg (a := x.toInt) (b := y.toInt) q (by omega); omega
    · have := Int.le_ediv_of_mul_le (c := y.toInt) (a := -1073741824) (b := x.toInt) hy (by
        have : (1 : Int) * 1073741824 ≤ y.toInt * 1073741824 := Int.mul_le_mul_of_nonneg_right (by omega) (by omega)
        rw [Int.neg_mul, Int.mul_comm]; omega)
      omega
  exact Int32.toInt_ofInt_of_le (by omega) (by omega)
theorem fdv_p {x y : Int32} (hy : 0 < y.toInt) (h1 : -1073741824 < x.toInt) (h2 : x.toInt < 1073741824) (h : 0 ≤ x ^^^ y) : x / y = fdv x y := by
  have hx : ¬ x < 0 := fun q => (Int32.not_lt.mpr h) ((xor_neg x y).mpr (fun z => by have := z.mp q; rw [Int32.lt_iff_toInt_lt, li_0] at this; omega))
  rw [Int32.lt_iff_toInt_lt, li_0] at hx
  apply Int32.toInt_inj.mp
  rw [fdv_q hy h1 h2, fdv_t hy h1 h2, Int.tdiv_eq_ediv_of_nonneg (by omega)]
theorem fdv_mul {x y : Int32} (hy : 0 < y.toInt) (h1 : -1073741824 < x.toInt) (h2 : x.toInt < 1073741824) : (x / y * y).toInt = x.toInt.tdiv y.toInt * y.toInt := by
  have e := fdv_q hy h1 h2
  have hm := Int.mul_tdiv_add_tmod x.toInt y.toInt
  have ha : (x.toInt.tmod y.toInt).natAbs ≤ x.toInt.natAbs := by rw [Int.natAbs_tmod]; exact Nat.mod_le _ _
  have hb : (y.toInt * x.toInt.tdiv y.toInt).natAbs ≤ x.toInt.natAbs := by
    rw [Int.natAbs_mul, Int.natAbs_tdiv]; exact Nat.mul_div_le _ _
  rw [Int.mul_comm] at hb
  rw [tI_mul (by rw [e]; omega) (by rw [e]; omega), e]
theorem fdv_e {x y : Int32} (hy : 0 < y.toInt) (h1 : -1073741824 < x.toInt) (h2 : x.toInt < 1073741824) (h : x / y * y = x) : x / y = fdv x y := by
  apply Int32.toInt_inj.mp
  have := congrArg Int32.toInt h
  rw [fdv_mul hy h1 h2] at this
  rw [fdv_q hy h1 h2, fdv_t hy h1 h2]
  exact Int.tdiv_eq_ediv_of_dvd ⟨_, by rw [Int.mul_comm]; exact this.symm⟩
theorem fdv_m {x y : Int32} (hy : 0 < y.toInt) (h1 : -1073741824 < x.toInt) (h2 : x.toInt < 1073741824) (h : x ^^^ y < 0) (hne : ¬ x / y * y = x) : x / y - 1 = fdv x y := by
  have hx : x < 0 := by
    rcases Classical.em (x < 0) with q | q
    · exact q
    · exact absurd ⟨fun z => absurd z q, fun z => by rw [Int32.lt_iff_toInt_lt, li_0] at z; omega⟩ ((xor_neg x y).mp h)
  rw [Int32.lt_iff_toInt_lt, li_0] at hx
  have hne2 : ¬ x.toInt.tdiv y.toInt * y.toInt = x.toInt := fun q => hne (Int32.toInt_inj.mp (by rw [fdv_mul hy h1 h2, q]))
  apply Int32.toInt_inj.mp
  have e := fdv_q hy h1 h2
  have hb : (x.toInt.tdiv y.toInt).natAbs ≤ x.toInt.natAbs := by rw [Int.natAbs_tdiv]; exact Nat.div_le_self _ _
  rw [tI_sub (by rw [e, li_1]; omega) (by rw [e, li_1]; omega), e, li_1, fdv_t hy h1 h2]
  have hnd : ¬ y.toInt ∣ x.toInt := fun q => hne2 (by rw [Int.tdiv_eq_ediv_of_dvd q, Int.ediv_mul_cancel q])
  have hn : ¬ x.toInt ≥ 0 := by omega
  rw [Int.tdiv_eq_ediv, if_neg (by simp only [not_or]; exact ⟨hn, hnd⟩), Int.sign_eq_one_of_pos hy]
  omega
def mka (z : Int32) : Nat := z.toInt.natAbs
def mkg (n : Nat) (X Y : Nat → Int32) (k : Nat) : Nat := Nat.gcd (mka (X (nxt n k) - X k)) (mka (Y (nxt n k) - Y k))
def mkx (n : Nat) (X Y : Nat → Int32) (k z : Nat) : Int32 := X k + (X (nxt n k) - X k) / nI (mkg n X Y k) * nI z
def mky (n : Nat) (X Y : Nat → Int32) (k z : Nat) : Int32 := Y k + (Y (nxt n k) - Y k) / nI (mkg n X Y k) * nI z
theorem mka_le {a b : Int32} (h1 : 0 ≤ a.toInt) (h2 : a.toInt ≤ 31) (h3 : 0 ≤ b.toInt) (h4 : b.toInt ≤ 31) : mka (a - b) ≤ 31 := by
  unfold mka; rw [tI_sub (by omega) (by omega)]; omega
theorem mka_b {a b : Int32} {M : Nat} (h1 : 0 ≤ a.toInt) (h2 : a.toInt ≤ 31) (h3 : 0 ≤ b.toInt) (h4 : b.toInt ≤ 31) (hM : 31 < M) : mka (a - b) < M := Nat.lt_of_le_of_lt (mka_le h1 h2 h3 h4) hM
theorem ab_t {a : Int32} (h : -1000 ≤ a.toInt) (h2 : a.toInt ≤ 1000) : (ab a).toInt = a.toInt.natAbs := by
  unfold ab
  by_cases q : (0 : Int32) ≤ a
  · rw [if_pos q]; rw [Int32.le_iff_toInt_le, li_0] at q; omega
  · rw [if_neg q]; rw [Int32.le_iff_toInt_le, li_0] at q; rw [tI_sub (by rw [li_0]; omega) (by rw [li_0]; omega), li_0]; omega
theorem ab_l {a b : Int32} (h1 : 0 ≤ a.toInt) (h2 : a.toInt ≤ 31) (h3 : 0 ≤ b.toInt) (h4 : b.toInt ≤ 31) : (ab (a - b)).toInt64 = lN (mka (a - b)) := by
  have e := tI_sub (a := a) (b := b) (by omega) (by omega)
  have hl := mka_le h1 h2 h3 h4
  apply Int64.toInt_inj.mp
  rw [Int32.toInt_toInt64, ab_t (by omega) (by omega), lN_t (by omega)]; rfl
theorem mkg_b {n k : Nat} {X Y : Nat → Int32} (h1 : isP (X k) (Y k)) (h2 : isP (X (nxt n k)) (Y (nxt n k))) : mkg n X Y k ≤ 31 := by
  have a1 := mka_le h2.1 h2.2.1 h1.1 h1.2.1
  have a2 := mka_le h2.2.2.1 h2.2.2.2 h1.2.2.1 h1.2.2.2
  unfold mkg
  rcases Nat.eq_zero_or_pos (mka (X (nxt n k) - X k)) with q | q
  · rw [q, Nat.gcd_zero_left]; exact a2
  · exact Nat.le_trans (Nat.gcd_le_left _ q) a1
theorem isP_x {x y : Int32} (h : isP x y) : ∃ j, j < 32 ∧ x = nI j := by
  refine ⟨x.toInt.toNat, by have := h.1; have := h.2.1; omega, Int32.toInt_inj.mp ?_⟩
  have := h.1; have := h.2.1
  rw [nI_toInt (by omega)]; omega
theorem isP_y {x y : Int32} (h : isP x y) : ∃ j, j < 32 ∧ y = nI j := by
  refine ⟨y.toInt.toNat, by have := h.2.2.1; have := h.2.2.2; omega, Int32.toInt_inj.mp ?_⟩
  have := h.2.2.1; have := h.2.2.2
  rw [nI_toInt (by omega)]; omega
theorem bit_shl {a x : Nat} (ha : a < 32) (hx : x < 32) : bit ((1 : Int32) <<< (nI a &&& 31)) x ↔ x = a := by
  have : ∀ a, a < 32 → ∀ x, x < 32 → (((1 : Int32) <<< (nI a &&& 31)).toUInt32.toNat.testBit x = decide (x = a)) := by decide +kernel
  unfold bit
  rw [this a ha x hx, decide_eq_true_eq]
theorem mk_on {n k z xx yy : Nat} {X Y g fr : Nat → Int32} (hg : ∀ y, y < 32 → ∀ x, x < 32 → (bit (g y) x ↔ bit (fr y) x ∨ ∃ w, w < z ∧ mkx n X Y k w = nI x ∧ mky n X Y k w = nI y)) (ex : mkx n X Y k z = nI xx) (ey : mky n X Y k z = nI yy) (hx0 : xx < 32) (hy0 : yy < 32) :
    ∀ y, y < 32 → ∀ x, x < 32 → (bit (upd g yy (g yy ||| (1 <<< (nI xx &&& 31))) y) x ↔ bit (fr y) x ∨ ∃ w, w < z + 1 ∧ mkx n X Y k w = nI x ∧ mky n X Y k w = nI y) := by
  intro y hy x hx
  have inj : ∀ {a b : Nat}, a < 32 → b < 32 → nI a = nI b → a = b := fun h1 h2 h3 => (nI_eq (by omega) (by omega)).mp h3
  by_cases e : y = yy
  · subst e
    rw [pk_us, bit_or _ _ x hx, bit_shl hx0 hx, hg y hy x hx]
    constructor
    · rintro ((h | ⟨w, h1, h2⟩) | h)
      · exact Or.inl h
      · exact Or.inr ⟨w, by omega, h2⟩
      · exact Or.inr ⟨z, by omega, by rw [ex, h], ey⟩
    · rintro (h | ⟨w, h1, h2, h3⟩)
      · exact Or.inl (Or.inl h)
      · by_cases q : w = z
        · subst q; exact Or.inr (inj hx hx0 (h2.symm.trans ex))
        · exact Or.inl (Or.inr ⟨w, by omega, h2, h3⟩)
  · rw [pk_un e, hg y hy x hx]
    constructor
    · rintro (h | ⟨w, h1, h2⟩)
      · exact Or.inl h
      · exact Or.inr ⟨w, by omega, h2⟩
    · rintro (h | ⟨w, h1, h2, h3⟩)
      · exact Or.inl h
      · by_cases q : w = z
        · subst q; exact absurd (inj hy hy0 (h3.symm.trans ey)) e
        · exact Or.inr ⟨w, by omega, h2, h3⟩
theorem mk_no {n k z : Nat} {X Y g fr : Nat → Int32} (hg : ∀ y, y < 32 → ∀ x, x < 32 → (bit (g y) x ↔ bit (fr y) x ∨ ∃ w, w < z ∧ mkx n X Y k w = nI x ∧ mky n X Y k w = nI y)) (h : ¬ isP (mkx n X Y k z) (mky n X Y k z)) :
    ∀ y, y < 32 → ∀ x, x < 32 → (bit (g y) x ↔ bit (fr y) x ∨ ∃ w, w < z + 1 ∧ mkx n X Y k w = nI x ∧ mky n X Y k w = nI y) := by
  intro y hy x hx
  rw [hg y hy x hx]
  constructor
  · rintro (q | ⟨w, h1, h2⟩)
    · exact Or.inl q
    · exact Or.inr ⟨w, by omega, h2⟩
  · rintro (q | ⟨w, h1, h2, h3⟩)
    · exact Or.inl q
    · by_cases e : w = z
      · subst e
        exact absurd (by unfold isP; rw [h2, h3, nI_toInt (by omega), nI_toInt (by omega)]; omega) h
      · exact Or.inr ⟨w, by omega, h2, h3⟩
