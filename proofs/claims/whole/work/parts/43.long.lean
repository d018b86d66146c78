/-! longs; greatest divisors; fractions -/
abbrev lI (z : Int) : Int64 := Int64.ofInt z
theorem lI_t {z : Int} (h1 : -9223372036854775808 ≤ z) (h2 : z ≤ 9223372036854775807) : (lI z).toInt = z := Int64.toInt_ofInt_of_le (by omega) (by omega)
theorem lN_I (n : Nat) : lN n = lI (n : Int) := Int64.ofInt_eq_ofNat.symm
theorem lN_t {n : Nat} (h : n < 2 ^ 63) : (lN n).toInt = n := by rw [lN_I]; exact lI_t (by omega) (by omega)
theorem lN_eq0 {n : Nat} (h : n < 2 ^ 62) (e : lN n = 0) : n = 0 := by
  have := congrArg Int64.toInt e
  rw [lN_t (by omega)] at this
  have h0 : (0 : Int64).toInt = 0 := rfl
  omega
theorem lI_mulN (z : Int) (n : Nat) : lI z * lN n = lI (z * n) := by rw [lN_I]; exact (Int64.ofInt_mul _ _).symm
theorem lI_div {a b : Int} (h1 : -9223372036854775807 ≤ a) (h2 : a ≤ 9223372036854775807) (h3 : -9223372036854775807 ≤ b) (h4 : b ≤ 9223372036854775807) : lI a / lI b = lI (a.tdiv b) :=
  (Int64.ofInt_tdiv (by show -9223372036854775808 ≤ a; omega) (by show a ≤ 9223372036854775807; omega) (by show -9223372036854775808 ≤ b; omega) (by show b ≤ 9223372036854775807; omega)).symm
theorem lrem_eq {p q : Nat} (hq : ¬ q = 0) (hp : p < 2 ^ 62) (hq2 : q < 2 ^ 62) : lN p - lN p / lN q * lN q = lN (p % q) := by
  rw [lN_I, lN_I, lI_div (by omega) (by omega) (by omega) (by omega), ← Int64.ofInt_mul, ← Int64.ofInt_sub, lN_I]
  congr 1
  rw [Int.tdiv_eq_ediv_of_nonneg (by omega)]
  have := Int.emod_add_mul_ediv (p : Int) (q : Int)
  rw [Int.natCast_emod, Int.mul_comm]
  omega
/-- what holds while the greatest divisor is sought: ix rounds are done -/
def gcI (ga gb ix gp gq : Nat) : Prop := Nat.gcd gp gq = Nat.gcd ga gb ∧ gp < 2 ^ 57 ∧ gq < 2 ^ 57 ∧ ((ix = 0 ∧ gp * gq < 2 ^ 97) ∨ (0 < ix ∧ gq < gp ∧ gp * gq * 2 ^ (ix - 1) < 2 ^ 97))
theorem gcI_0 {ga gb : Nat} (h1 : ga < 2 ^ 57) (h2 : gb < 2 ^ 40) : gcI ga gb 0 ga gb := by
  refine ⟨rfl, h1, by omega, Or.inl ⟨rfl, ?_⟩⟩
  have := Nat.mul_lt_mul'' h1 h2
  rw [← Nat.pow_add] at this; exact this
theorem gcI_b {ga gb ix gp gq : Nat} (h : gcI ga gb ix gp gq) : gp < 2 ^ 62 ∧ gq < 2 ^ 62 := ⟨by have := h.2.1; omega, by have := h.2.2.1; omega⟩
theorem gcI_s {ga gb ix gp gq : Nat} (h : gcI ga gb ix gp gq) (hq : ¬ gq = 0) : gcI ga gb (ix + 1) gq (gp % gq) := by
  obtain ⟨h1, h2, h3, h4⟩ := h
  have hlt : gp % gq < gq := Nat.mod_lt _ (by omega)
  refine ⟨by rw [← h1, Nat.gcd_comm gp gq, Nat.gcd_rec gq gp, Nat.gcd_comm], h3, by omega, Or.inr ⟨by omega, hlt, ?_⟩⟩
  rw [Nat.add_sub_cancel]
  rcases h4 with ⟨rfl, h5⟩ | ⟨h5, h6, h7⟩
  · rw [Nat.pow_zero, Nat.mul_one]
    have : gq * (gp % gq) ≤ gp * gq := by rw [Nat.mul_comm gp]; exact Nat.mul_le_mul_left _ (Nat.mod_le _ _)
    omega
  · obtain ⟨j, rfl⟩ : ∃ j, ix = j + 1 := ⟨ix - 1, by omega⟩
    rw [Nat.add_sub_cancel] at h7
    have h8 : 2 * (gp % gq) ≤ gp := by
      have := Nat.mod_add_div gp gq
      have h9 : gq * 1 ≤ gq * (gp / gq) := Nat.mul_le_mul_left _ (Nat.div_pos (by omega) (by omega))
      omega
    have h9 : gq * (gp % gq) * 2 ^ (j + 1) ≤ gp * gq * 2 ^ j := by
      have : gq * (gp % gq) * 2 ^ (j + 1) = gq * (2 * (gp % gq)) * 2 ^ j := by rw [Nat.pow_succ]; ac_rfl
      rw [this, Nat.mul_comm gp]
      exact Nat.mul_le_mul_right _ (Nat.mul_le_mul_left _ h8)
    omega
theorem gcI_end {ga gb ix gp gq : Nat} (h : gcI ga gb ix gp gq) (hix : 100 ≤ ix) : gq = 0 := by
  obtain ⟨h1, h2, h3, h4⟩ := h
  rcases h4 with ⟨h5, -⟩ | ⟨-, h6, h7⟩
  · omega
  · rcases Nat.eq_zero_or_pos gq with q | q
    · exact q
    · have h8 : 1 ≤ gp * gq := Nat.mul_pos (by omega) q
      have h9 : 2 ^ 98 ≤ 2 ^ (ix - 1) := Nat.pow_le_pow_right (by omega) (by omega)
      have h10 := Nat.mul_le_mul h8 h9
      omega
theorem gcI_gcd {ga gb ix gp gq : Nat} (h : gcI ga gb ix gp gq) (hq : gq = 0) : lN gp = lN (Nat.gcd ga gb) := by
  have := h.1
  rw [hq, Nat.gcd_zero_right] at this
  rw [this]
def ratG (U : Int) (L : Nat) (u : Int) (l : Nat) : Nat := Nat.gcd (U * l + u * L).natAbs (L * l)
def ratU (U : Int) (L : Nat) (u : Int) (l : Nat) : Int := (U * l + u * L) / (ratG U L u l : Int)
def ratL (U : Int) (L : Nat) (u : Int) (l : Nat) : Nat := L * l / ratG U L u l
theorem ratG_pos {U u : Int} {L l : Nat} (h1 : 0 < L) (h2 : 0 < l) : 0 < ratG U L u l := Nat.gcd_pos_of_pos_right _ (Nat.mul_pos h1 h2)
theorem ratG_le {U u : Int} {L l : Nat} (h1 : 0 < L) (h2 : 0 < l) : ratG U L u l ≤ L * l := Nat.gcd_le_right _ (Nat.mul_pos h1 h2)
theorem abL_t {N : Int} (h : N.natAbs < 2 ^ 57) : abL (lI N) = lN N.natAbs := by
  have ht : (lI N).toInt = N := lI_t (by omega) (by omega)
  unfold abL
  by_cases q : (0 : Int64) < lI N
  · rw [if_pos q]
    rw [Int64.lt_iff_toInt_lt, ht] at q
    have h0 : (0 : Int64).toInt = 0 := rfl
    rw [lN_I]; congr 1; omega
  · rw [if_neg q]
    rw [Int64.lt_iff_toInt_lt, ht] at q
    have h0 : (0 : Int64).toInt = 0 := rfl
    rw [lN_I, ← Int64.ofInt_neg]; congr 1; omega
theorem div_U {U u2 : Int} {L l2 : Nat} (h1 : 0 < L) (h2 : 0 < l2) (hN : (U * l2 + u2 * L).natAbs < 2 ^ 57) (hM : L * l2 < 2 ^ 40 := by assumption) : lI (U * l2 + u2 * L) / lN (Nat.gcd (U * l2 + u2 * L).natAbs (L * l2)) = lI (ratU U L u2 l2) := by
  have hle := ratG_le (U := U) (u := u2) h1 h2
  have hg : (ratG U L u2 l2 : Int) ∣ (U * l2 + u2 * L) := Int.ofNat_dvd_left.mpr (Nat.gcd_dvd_left _ _)
  rw [lN_I, lI_div (by omega) (by omega) (by show _ ≤ ((ratG U L u2 l2 : Nat) : Int); omega) (by show ((ratG U L u2 l2 : Nat) : Int) ≤ _; omega)]
  show lI ((U * l2 + u2 * L).tdiv (ratG U L u2 l2 : Nat)) = _
  rw [Int.tdiv_eq_ediv_of_dvd hg]
  rfl
theorem div_L {U u2 : Int} {L l2 : Nat} (h1 : 0 < L) (h2 : 0 < l2) (hM : L * l2 < 2 ^ 40) (hN : (U * l2 + u2 * L).natAbs < 2 ^ 57) : lN (L * l2) / lN (Nat.gcd (U * l2 + u2 * L).natAbs (L * l2)) = lN (ratL U L u2 l2) := by
  have hle := ratG_le (U := U) (u := u2) h1 h2
  rw [lN_I, lN_I, lI_div (by omega) (by omega) (by show _ ≤ ((ratG U L u2 l2 : Nat) : Int); omega) (by show ((ratG U L u2 l2 : Nat) : Int) ≤ _; omega), lN_I]
  congr 1
theorem gcd_ne {U u2 : Int} {L l2 : Nat} (h1 : 0 < L) (h2 : 0 < l2) (hM : L * l2 < 2 ^ 40) : ¬ lN (Nat.gcd (U * l2 + u2 * L).natAbs (L * l2)) = 0 := by
  intro q
  have hle := ratG_le (U := U) (u := u2) h1 h2
  have hp := ratG_pos (U := U) (u := u2) h1 h2
  have := lN_eq0 (n := ratG U L u2 l2) (by omega) q
  omega
theorem gcd_1 {U u2 : Int} {L l2 : Nat} (h1 : 0 < L) (h2 : 0 < l2) (h : lN (Nat.gcd (U * l2 + u2 * L).natAbs (L * l2)) ≤ 1) (hM : L * l2 < 2 ^ 40 := by assumption) : lI (U * l2 + u2 * L) = lI (ratU U L u2 l2) ∧ lN (L * l2) = lN (ratL U L u2 l2) := by
  have hle := ratG_le (U := U) (u := u2) h1 h2
  have hp := ratG_pos (U := U) (u := u2) h1 h2
  have e : ratG U L u2 l2 = 1 := by
    have q : lN (ratG U L u2 l2) ≤ 1 := h
    rw [Int64.le_iff_toInt_le, lN_t (by omega)] at q
    have h0 : (1 : Int64).toInt = 1 := rfl
    omega
  unfold ratU ratL
  rw [e]
  exact ⟨by congr 1; exact (Int.ediv_one _).symm, by congr 1; exact (Nat.div_one _).symm⟩
