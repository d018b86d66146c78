/-! fractions: as they are added, in lowest terms -/
theorem ratU_q (q : Rat) (u : Int) {l : Nat} (hl : 0 < l) : ratU q.num q.den u l = (q + mkRat u l).num := by
  have e : q + mkRat u l = mkRat (q.num * l + u * q.den) (q.den * l) := by
    conv => lhs; rw [← Rat.mkRat_self q]
    exact Rat.mkRat_add_mkRat _ _ q.den_nz (by omega)
  have hd : ¬ q.den * l = 0 := by have := Nat.mul_pos q.den_pos hl; omega
  rw [e, Rat.num_mkRat, if_neg hd, Nat.gcd_comm]
  rfl
theorem ratL_q (q : Rat) (u : Int) {l : Nat} (hl : 0 < l) : ratL q.num q.den u l = (q + mkRat u l).den := by
  have e : q + mkRat u l = mkRat (q.num * l + u * q.den) (q.den * l) := by
    conv => lhs; rw [← Rat.mkRat_self q]
    exact Rat.mkRat_add_mkRat _ _ q.den_nz (by omega)
  have hd : ¬ q.den * l = 0 := by have := Nat.mul_pos q.den_pos hl; omega
  rw [e, Rat.den_mkRat, if_neg hd, Nat.gcd_comm]
  rfl
def rsum (f : Nat → Rat) : Nat → Rat
  | 0 => 0
  | k + 1 => rsum f k + f k
/-- k fractions have been added, none of them greater than 4000 -/
def qB (k : Nat) (q : Rat) : Prop := q.den ≤ 31 ^ k ∧ q.num.natAbs ≤ 4000 * k * q.den
theorem qB_0 : qB 0 0 := ⟨Nat.le_refl _, Nat.le_refl _⟩
theorem natAbs_div_le {N : Int} {g : Nat} (hg : (g : Int) ∣ N) (h0 : 0 < g) : (N / (g : Int)).natAbs * g = N.natAbs := by
  obtain ⟨c, rfl⟩ := hg
  rw [Int.mul_ediv_cancel_left _ (by omega), Int.natAbs_mul, Int.natAbs_natCast, Nat.mul_comm]
theorem qB_fit {k : Nat} {q : Rat} {u : Int} {l : Nat} (h : qB k q) (hk : k < 8) (hl : l ≤ 31) (hu : u.natAbs ≤ 4000 * l) : (q.num * l + u * q.den).natAbs ≤ 4000 * (k + 1) * (q.den * l) ∧ (q.num * l + u * q.den).natAbs < 2 ^ 57 ∧ q.den * l < 2 ^ 40 := by
  obtain ⟨h1, h2⟩ := h
  have e1 : (q.num * l + u * q.den).natAbs ≤ q.num.natAbs * l + u.natAbs * q.den := by
    refine Nat.le_trans (Int.natAbs_add_le _ _) ?_
    rw [Int.natAbs_mul, Int.natAbs_mul, Int.natAbs_natCast, Int.natAbs_natCast]
    exact Nat.le_refl _
  have e2 : q.num.natAbs * l ≤ 4000 * k * q.den * l := Nat.mul_le_mul_right _ h2
  have e3 : u.natAbs * q.den ≤ 4000 * l * q.den := Nat.mul_le_mul_right _ hu
  have e4 : 4000 * k * q.den * l + 4000 * l * q.den = 4000 * (k + 1) * (q.den * l) := by
    rw [show 4000 * (k + 1) = 4000 * k + 4000 by omega, Nat.add_mul]; congr 1
    · ac_rfl
    · ac_rfl
  have e5 : q.den * l ≤ 31 ^ 8 := by
    have a : q.den * l ≤ 31 ^ k * 31 := Nat.mul_le_mul h1 hl
    have b : 31 ^ k * 31 ≤ 31 ^ 8 := by rw [← Nat.pow_succ]; exact Nat.pow_le_pow_right (by decide) (by omega)
    omega
  have e6 : 4000 * (k + 1) * (q.den * l) ≤ 4000 * 8 * 31 ^ 8 := Nat.mul_le_mul (by omega) e5
  have e7 : 31 ^ 8 < 2 ^ 40 := by decide
  have e8 : 4000 * 8 * 31 ^ 8 < 2 ^ 57 := by decide
  exact ⟨by omega, by omega, by omega⟩
theorem qB_s {k : Nat} {q : Rat} {u : Int} {l : Nat} (h : qB k q) (hk : k < 8) (hl0 : 0 < l) (hl : l ≤ 31) (hu : u.natAbs ≤ 4000 * l) : qB (k + 1) (q + mkRat u l) := by
  have hf := (qB_fit h hk hl hu).1
  have hg : (ratG q.num q.den u l : Int) ∣ (q.num * l + u * q.den) := Int.ofNat_dvd_left.mpr (Nat.gcd_dvd_left _ _)
  have hp := ratG_pos (U := q.num) (u := u) q.den_pos hl0
  have hg2 : ratG q.num q.den u l ∣ q.den * l := Nat.gcd_dvd_right _ _
  unfold qB
  rw [← ratU_q q u hl0, ← ratL_q q u hl0]
  constructor
  · have a : ratL q.num q.den u l ≤ q.den * l := Nat.div_le_self _ _
    have b : q.den * l ≤ 31 ^ k * 31 := Nat.mul_le_mul h.1 hl
    rw [Nat.pow_succ]; omega
  · have a := natAbs_div_le hg hp
    have b : ratL q.num q.den u l * ratG q.num q.den u l = q.den * l := Nat.div_mul_cancel hg2
    have c : (ratU q.num q.den u l).natAbs * ratG q.num q.den u l ≤ 4000 * (k + 1) * ratL q.num q.den u l * ratG q.num q.den u l := by
      rw [Nat.mul_assoc, b]; show ((q.num * l + u * q.den) / (ratG q.num q.den u l : Int)).natAbs * _ ≤ _; rw [a]; exact hf
    exact Nat.le_of_mul_le_mul_right c hp
theorem i2l_t (x : Int32) : x.toInt64 = lI x.toInt := by
  apply Int64.toInt_inj.mp
  have h1 := Int32.toInt_lt x
  have h2 := Int32.le_toInt x
  rw [lI_t (by omega) (by omega)]
  exact Int32.toInt_toInt64 x
theorem i2l_n {x : Int32} (h : 0 ≤ x.toInt) : x.toInt64 = lN x.toInt.toNat := by
  rw [i2l_t, lN_I]; congr 1; omega
/-! west of a line, side by side, as the reference adds -/
def lo_ (n : Nat) (X : Nat → Int32) (k : Nat) : Int32 := if X (nxt n k) ≤ X k then X (nxt n k) else X k
def hi_ (n : Nat) (X : Nat → Int32) (k : Nat) : Int32 := if X (nxt n k) ≤ X k then X k else X (nxt n k)
def mU (n : Nat) (X Y : Nat → Int32) (c : Int32) (k : Nat) : Int32 := if hi_ n X k ≤ c then (Y (nxt n k) - Y k) * (lo_ n X k + hi_ n X k) else if c ≤ lo_ n X k then (Y (nxt n k) - Y k) * 2 * c else (Y (nxt n k) - Y k) * (2 * c * hi_ n X k - c * c - lo_ n X k * lo_ n X k)
def mL (n : Nat) (X : Nat → Int32) (c : Int32) (k : Nat) : Int32 := if hi_ n X k ≤ c then 1 else if c ≤ lo_ n X k then 1 else hi_ n X k - lo_ n X k
def mT (n : Nat) (X Y : Nat → Int32) (c : Int32) (k : Nat) : Rat := mkRat (mU n X Y c k).toInt (mL n X c k).toInt.toNat
def b31 (x : Int32) : Prop := 0 ≤ x.toInt ∧ x.toInt ≤ 31
theorem lohi {n : Nat} {X : Nat → Int32} {k : Nat} (h1 : b31 (X k)) (h2 : b31 (X (nxt n k))) : b31 (lo_ n X k) ∧ b31 (hi_ n X k) ∧ (lo_ n X k).toInt ≤ (hi_ n X k).toInt := by
  unfold lo_ hi_
  by_cases q : X (nxt n k) ≤ X k
  · rw [if_pos q, if_pos q]; rw [Int32.le_iff_toInt_le] at q; exact ⟨h2, h1, q⟩
  · rw [if_neg q, if_neg q]; rw [Int32.le_iff_toInt_le] at q; exact ⟨h1, h2, by omega⟩
theorem mul_le_b {a b A B : Int} (ha : -A ≤ a) (ha2 : a ≤ A) (hb : -B ≤ b) (hb2 : b ≤ B) (hA : 0 ≤ A) : -(A * B) ≤ a * b ∧ a * b ≤ A * B := by
  have hab : (a * b).natAbs ≤ (A * B).natAbs := by
    rw [Int.natAbs_mul, Int.natAbs_mul]
    exact Nat.mul_le_mul (by omega) (by omega)
  have hAB : 0 ≤ A * B := Int.mul_nonneg hA (by omega)
  omega
theorem mU_t {n : Nat} {X Y : Nat → Int32} {c : Int32} {k : Nat} (h1 : b31 (X k)) (h2 : b31 (X (nxt n k))) (h3 : b31 (Y k)) (h4 : b31 (Y (nxt n k))) (hc : b31 c) :
    ((hi_ n X k).toInt ≤ c.toInt → (mU n X Y c k).toInt = ((Y (nxt n k)).toInt - (Y k).toInt) * ((lo_ n X k).toInt + (hi_ n X k).toInt) ∧ (mL n X c k).toInt = 1) ∧
    (¬ (hi_ n X k).toInt ≤ c.toInt → c.toInt ≤ (lo_ n X k).toInt → (mU n X Y c k).toInt = ((Y (nxt n k)).toInt - (Y k).toInt) * 2 * c.toInt ∧ (mL n X c k).toInt = 1) ∧
    (¬ (hi_ n X k).toInt ≤ c.toInt → ¬ c.toInt ≤ (lo_ n X k).toInt → (mU n X Y c k).toInt = ((Y (nxt n k)).toInt - (Y k).toInt) * (2 * c.toInt * (hi_ n X k).toInt - c.toInt * c.toInt - (lo_ n X k).toInt * (lo_ n X k).toInt) ∧ (mL n X c k).toInt = (hi_ n X k).toInt - (lo_ n X k).toInt) := by
  obtain ⟨g1, g2, g3⟩ := lohi h1 h2
  generalize hlo : lo_ n X k = lo at *
  generalize hhi : hi_ n X k = hi at *
  unfold b31 at *
  have eN : (Y (nxt n k) - Y k).toInt = (Y (nxt n k)).toInt - (Y k).toInt := tI_sub (by omega) (by omega)
  generalize hN : Y (nxt n k) - Y k = N at *
  have e2 : (2 : Int32).toInt = 2 := rfl
  have bN : -31 ≤ N.toInt ∧ N.toInt ≤ 31 := by omega
  refine ⟨fun q => ?_, fun q q2 => ?_, fun q q2 => ?_⟩
  · unfold mU mL; rw [hlo, hhi, hN, if_pos (Int32.le_iff_toInt_le.mpr q), if_pos (Int32.le_iff_toInt_le.mpr q)]
    have e3 : (lo + hi).toInt = lo.toInt + hi.toInt := tI_add (by omega) (by omega)
    have b := mul_le_b (A := 31) (B := 62) (a := N.toInt) (b := (lo + hi).toInt) (by omega) (by omega) (by omega) (by omega) (by omega)
    rw [tI_mul (by omega) (by omega), e3, eN]
    exact ⟨rfl, rfl⟩
  · unfold mU mL; rw [hlo, hhi, hN, if_neg (fun z => q (Int32.le_iff_toInt_le.mp z)), if_neg (fun z => q (Int32.le_iff_toInt_le.mp z)), if_pos (Int32.le_iff_toInt_le.mpr q2), if_pos (Int32.le_iff_toInt_le.mpr q2)]
    have e3 : (N * 2).toInt = N.toInt * 2 := by rw [tI_mul (by rw [e2]; omega) (by rw [e2]; omega), e2]
    have b := mul_le_b (A := 62) (B := 31) (a := (N * 2).toInt) (b := c.toInt) (by omega) (by omega) (by omega) (by omega) (by omega)
    rw [tI_mul (by omega) (by omega), e3, eN]
    exact ⟨rfl, rfl⟩
  · unfold mU mL; rw [hlo, hhi, hN, if_neg (fun z => q (Int32.le_iff_toInt_le.mp z)), if_neg (fun z => q (Int32.le_iff_toInt_le.mp z)), if_neg (fun z => q2 (Int32.le_iff_toInt_le.mp z)), if_neg (fun z => q2 (Int32.le_iff_toInt_le.mp z))]
    have e3 : (2 * c).toInt = 2 * c.toInt := by rw [tI_mul (by rw [e2]; omega) (by rw [e2]; omega), e2]
    have b1 := mul_le_b (A := 62) (B := 31) (a := (2 * c).toInt) (b := hi.toInt) (by omega) (by omega) (by omega) (by omega) (by omega)
    have b2 := mul_le_b (A := 31) (B := 31) (a := c.toInt) (b := c.toInt) (by omega) (by omega) (by omega) (by omega) (by omega)
    have b3 := mul_le_b (A := 31) (B := 31) (a := lo.toInt) (b := lo.toInt) (by omega) (by omega) (by omega) (by omega) (by omega)
    have e4 : (2 * c * hi).toInt = (2 * c).toInt * hi.toInt := tI_mul (by omega) (by omega)
    have e5 : (c * c).toInt = c.toInt * c.toInt := tI_mul (by omega) (by omega)
    have e6 : (lo * lo).toInt = lo.toInt * lo.toInt := tI_mul (by omega) (by omega)
    have e7 : (2 * c * hi - c * c).toInt = (2 * c * hi).toInt - (c * c).toInt := tI_sub (by omega) (by omega)
    have e8 : (2 * c * hi - c * c - lo * lo).toInt = (2 * c * hi).toInt - (c * c).toInt - (lo * lo).toInt := by rw [tI_sub (by omega) (by omega), e7]
    have b4 := mul_le_b (A := 31) (B := 4000) (a := N.toInt) (b := (2 * c * hi - c * c - lo * lo).toInt) (by omega) (by omega) (by omega) (by omega) (by omega)
    rw [tI_mul (by omega) (by omega), e8, eN, e4, e3, e5, e6, tI_sub (by omega) (by omega)]
    exact ⟨rfl, rfl⟩
/-- a term is no greater than 4000 -/
theorem mT_b {n : Nat} {X Y : Nat → Int32} {c : Int32} {k : Nat} (h1 : b31 (X k)) (h2 : b31 (X (nxt n k))) (h3 : b31 (Y k)) (h4 : b31 (Y (nxt n k))) (hc : b31 c) : 0 < (mL n X c k).toInt.toNat ∧ (mL n X c k).toInt.toNat ≤ 31 ∧ (mU n X Y c k).toInt.natAbs ≤ 4000 * (mL n X c k).toInt.toNat ∧ 0 ≤ (mL n X c k).toInt := by
  obtain ⟨t1, t2, t3⟩ := mU_t (n := n) h1 h2 h3 h4 hc
  obtain ⟨g1, g2, g3⟩ := lohi h1 h2
  generalize hlo : (lo_ n X k).toInt = lo at *
  generalize hhi : (hi_ n X k).toInt = hi at *
  unfold b31 at *
  rw [hlo] at g1
  rw [hhi] at g2
  by_cases q : hi ≤ c.toInt
  · obtain ⟨a, b⟩ := t1 q
    rw [a, b]
    have := mul_le_b (A := 31) (B := 62) (a := (Y (nxt n k)).toInt - (Y k).toInt) (b := lo + hi) (by omega) (by omega) (by omega) (by omega) (by omega)
    omega
  · by_cases q2 : c.toInt ≤ lo
    · obtain ⟨a, b⟩ := t2 q q2
      rw [a, b]
      have := mul_le_b (A := 62) (B := 31) (a := ((Y (nxt n k)).toInt - (Y k).toInt) * 2) (b := c.toInt) (by omega) (by omega) (by omega) (by omega) (by omega)
      omega
    · obtain ⟨a, b⟩ := t3 q q2
      rw [a, b]
      -- 2 c hi - c² - lo² = (hi - lo)(hi + lo) - (hi - c)², and hi - c < hi - lo
      have e : 2 * c.toInt * hi - c.toInt * c.toInt - lo * lo = (hi - lo) * (hi + lo) - (hi - c.toInt) * (hi - c.toInt) := by grind
      have b1 : 0 ≤ (hi - c.toInt) * (hi - c.toInt) := Int.mul_nonneg (by omega) (by omega)
      have b2 : (hi - c.toInt) * (hi - c.toInt) ≤ (hi - lo) * 31 := by
        have := Int.mul_le_mul (a := hi - c.toInt) (b := hi - c.toInt) (c := hi - lo) (d := 31) (by omega) (by omega) (by omega) (by omega)
        exact this
      have b3 : (hi - lo) * (hi + lo) ≤ (hi - lo) * 62 := Int.mul_le_mul_of_nonneg_left (by omega) (by omega)
      have b4 : 0 ≤ (hi - lo) * (hi + lo) := Int.mul_nonneg (by omega) (by omega)
      have b5 : -((hi - lo) * 62) ≤ 2 * c.toInt * hi - c.toInt * c.toInt - lo * lo ∧ 2 * c.toInt * hi - c.toInt * c.toInt - lo * lo ≤ (hi - lo) * 62 := by rw [e]; omega
      have := mul_le_b (A := 31) (B := (hi - lo) * 62) (a := (Y (nxt n k)).toInt - (Y k).toInt) (b := 2 * c.toInt * hi - c.toInt * c.toInt - lo * lo) (by omega) (by omega) b5.1 b5.2 (by omega)
      refine ⟨by omega, by omega, ?_, by omega⟩
      omega
def wQ0 (n : Nat) (X Y : Nat → Int32) (c : Int32) : Rat := rsum (mT n X Y c) n
def wQ (n : Nat) (X Y : Nat → Int32) (c : Int32) : Rat := if 0 ≤ isum (twt n X Y) n then wQ0 n X Y c else -wQ0 n X Y c
theorem qB_sum {n : Nat} {X Y : Nat → Int32} {c : Int32} (h8 : n ≤ 8) (hp : ∀ z, z < n → isP (X z) (Y z)) (hc : b31 c) : ∀ k, k ≤ n → qB k (rsum (mT n X Y c) k)
  | 0, _ => qB_0
  | k + 1, hk => by
    have p1 := hp k (by omega)
    have p2 := hp (nxt n k) (nxt_lt (by omega))
    obtain ⟨a, b, d, -⟩ := mT_b (n := n) (X := X) (Y := Y) (c := c) (k := k) ⟨p1.1, p1.2.1⟩ ⟨p2.1, p2.2.1⟩ ⟨p1.2.2.1, p1.2.2.2⟩ ⟨p2.2.2.1, p2.2.2.2⟩ hc
    exact qB_s (qB_sum h8 hp hc k (by omega)) (by omega) a b d
noncomputable def aWest (k : Nat) (pn : PN) (PX PY : PF) (p x w : Int32) : Int64 := cif (inP k p) (cif ((0 ≤ x.toInt ∧ x.toInt ≤ 31) ∧ 0 ≤ w.toInt ∧ w.toInt ≤ 1) (cif (w = 0) (lI (wQ (pn (ix p)) (PX (ix p)) (PY (ix p)) x).num) (lN (wQ (pn (ix p)) (PX (ix p)) (PY (ix p)) x).den)) (-2)) (-1)
noncomputable def lst (P : Nat → Prop) : Nat → Nat → Int32
  | _, 0 => -6
  | z, n + 1 => cif (P z) (nI z) (lst P (z + 1) n)
theorem lst_congr {P Q : Nat → Prop} : ∀ (n z : Nat), (∀ j, z ≤ j → j < z + n → (P j ↔ Q j)) → lst P z n = lst Q z n
  | 0, _, _ => rfl
  | n + 1, z, h => by
    show cif _ _ _ = cif _ _ _
    rw [lst_congr n (z + 1) (fun j h1 h2 => h j (by omega) (by omega)), propext (h z (by omega) (by omega))]
def enough (n : Nat) (X Y : Nat → Int32) (wish : Int32) (c : Nat) : Prop := ¬ lI (wQ n X Y (nI c)).num < wish.toInt64 * lN (wQ n X Y (nI c)).den
noncomputable def aLine (k : Nat) (pn : PN) (PX PY : PF) (p w : Int32) : Int32 := cif (inP k p) (cif (1 ≤ w.toInt ∧ w.toInt ≤ 2000) (lst (enough (pn (ix p)) (PX (ix p)) (PY (ix p)) w) 0 32) (-2)) (-1)
theorem lst_no {P : Nat → Prop} {z : Nat} (hz : z < 32) (h : ¬ P z) {r : Int32} (hL : r = lst P z (32 - z)) : r = lst P (z + 1) (32 - (z + 1)) := by
  rw [hL, show 32 - z = (32 - (z + 1)) + 1 by omega]
  exact cif_f h
theorem lst_yes {P : Nat → Prop} {z : Nat} (hz : z < 32) (h : P z) {r : Int32} (hL : r = lst P z (32 - z)) : nI z = r := by
  rw [hL, show 32 - z = (32 - (z + 1)) + 1 by omega]
  exact (cif_t h).symm
theorem mT_congr {n : Nat} {X Y X' Y' : Nat → Int32} (h : ∀ j, j < n → X j = X' j ∧ Y j = Y' j) (c : Int32) : ∀ j, j < n → mT n X Y c j = mT n X' Y' c j := by
  intro j hj
  have h1 := h j hj
  have h2 := h (nxt n j) (nxt_lt hj)
  unfold mT mU mL lo_ hi_
  rw [h1.1, h1.2, h2.1, h2.2]
theorem rsum_congr {f g : Nat → Rat} : ∀ n, (∀ j, j < n → f j = g j) → rsum f n = rsum g n
  | 0, _ => rfl
  | n + 1, h => by show _ + _ = _ + _; rw [rsum_congr n (fun j hj => h j (by omega)), h n (by omega)]
theorem wQ_congr {n : Nat} {X Y X' Y' : Nat → Int32} (h : ∀ j, j < n → X j = X' j ∧ Y j = Y' j) (c : Int32) : wQ n X Y c = wQ n X' Y' c := by
  unfold wQ wQ0
  rw [rsum_congr n (mT_congr h c), isum_congr n (twt_congr h)]
