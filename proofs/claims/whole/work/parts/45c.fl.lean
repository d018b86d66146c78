/-! posts west of a side -/
def flr (a b : Int32) : Nat := (b.toInt - a.toInt).toNat
def flw (ax ay bx bey : Int32) (z : Nat) : Int32 := ax - fdv ((ax - bx) * nI z) (nI (flr ay bey))
def flp (ax ay bx bey : Int32) (z y x : Nat) : Prop := ∃ w : Nat, w < z ∧ ay.toInt + w = y ∧ (x : Int) < (flw ax ay bx bey w).toInt
theorem flr_t {a b : Int32} (h1 : 0 ≤ a.toInt ∧ a.toInt ≤ b.toInt) (h2 : b.toInt ≤ 31) : b - a = nI (flr a b) := by
  apply Int32.toInt_inj.mp
  rw [tI_sub (by omega) (by omega)]
  unfold flr
  rw [nI_toInt (by omega)]; omega
theorem flr_b {ax ay bx bey : Int32} (h1 : isP ax ay) (h2 : isP bx bey) : flr ay bey ≤ 31 := by
  unfold flr; have := h1.2.2; have := h2.2.2; omega
theorem flp_m {ax ay bx bey : Int32} {z : Nat} (h1 : isP ax ay) (h2 : isP bx bey) (hz : z ≤ 31) : ((ax - bx) * nI z).toInt = (ax.toInt - bx.toInt) * z ∧ -1073741824 < ((ax - bx) * nI z).toInt ∧ ((ax - bx) * nI z).toInt < 1073741824 := by
  have a := h1.1; have b := h1.2.1; have c := h2.1; have d := h2.2.1
  have e := tI_sub (a := ax) (b := bx) (by omega) (by omega)
  have f := nI_toInt (n := z) (by omega)
  have m := mulb (a := ax.toInt - bx.toInt) (b := (z : Int)) (M := 31) (N := 31) (by omega) (by omega) (by omega) (by omega)
  rw [tI_mul (by rw [e, f]; omega) (by rw [e, f]; omega), e, f]
  exact ⟨rfl, by omega, by omega⟩
theorem flw_t {ax ay bx bey : Int32} {z : Nat} (h1 : isP ax ay) (h2 : isP bx bey) (hz : z < flr ay bey) : (flw ax ay bx bey z).toInt = ax.toInt - (ax.toInt - bx.toInt) * z / (flr ay bey : Int) ∧ 0 ≤ (flw ax ay bx bey z).toInt ∧ (flw ax ay bx bey z).toInt ≤ 31 := by
  have hb := flr_b h1 h2
  obtain ⟨m1, m2, m3⟩ := flp_m (z := z) h1 h2 (by omega)
  have a := h1.1; have b := h1.2.1; have c := h2.1; have d := h2.2.1
  have hr := nI_toInt (n := flr ay bey) (by omega)
  have ht := fdv_t (x := (ax - bx) * nI z) (y := nI (flr ay bey)) (by omega) m2 m3
  rw [m1, hr] at ht
  have hR : (0 : Int) < (flr ay bey : Int) := by omega
  have q : min 0 (ax.toInt - bx.toInt) ≤ (ax.toInt - bx.toInt) * z / (flr ay bey : Int) ∧ (ax.toInt - bx.toInt) * z / (flr ay bey : Int) ≤ max 0 (ax.toInt - bx.toInt) := by
    rcases Int.le_total 0 (ax.toInt - bx.toInt) with g | g
    · have g1 : 0 ≤ (ax.toInt - bx.toInt) * z / (flr ay bey : Int) := Int.ediv_nonneg (Int.mul_nonneg g (by omega)) (by omega)
      have g2 : (ax.toInt - bx.toInt) * z / (flr ay bey : Int) ≤ ax.toInt - bx.toInt := by
        apply Int.ediv_le_of_le_mul hR
        exact Int.mul_le_mul_of_nonneg_left (by omega) g
      omega
    · have g1 : (ax.toInt - bx.toInt) * z / (flr ay bey : Int) ≤ 0 := by
        apply Int.ediv_le_of_le_mul hR
        have := Int.mul_nonneg (a := -(ax.toInt - bx.toInt)) (b := (z : Int)) (by omega) (by omega)
        rw [Int.neg_mul] at this; omega
      have g2 : ax.toInt - bx.toInt ≤ (ax.toInt - bx.toInt) * z / (flr ay bey : Int) := by
        apply Int.le_ediv_of_mul_le hR
        have := Int.mul_le_mul_of_nonneg_left (a := (z : Int)) (b := (flr ay bey : Int)) (c := -(ax.toInt - bx.toInt)) (by omega) (by omega)
        rw [Int.neg_mul, Int.neg_mul] at this; omega
      omega
  have e : (flw ax ay bx bey z).toInt = ax.toInt - (ax.toInt - bx.toInt) * z / (flr ay bey : Int) := by
    unfold flw; rw [tI_sub (by rw [ht]; omega) (by rw [ht]; omega), ht]
  exact ⟨e, by omega, by omega⟩
theorem fl_isP {ax ay bx bey : Int32} {z : Nat} (h1 : isP ax ay) (h2 : isP bx bey) (hz : z < flr ay bey) : isP (flw ax ay bx bey z) (ay + nI z) ∧ (ay + nI z).toInt = ay.toInt + z := by
  have hb := flr_b h1 h2
  have := flw_t h1 h2 hz
  have c := h1.2.2; have d := h2.2.2
  have hf := nI_toInt (n := z) (by omega)
  have e : (ay + nI z).toInt = ay.toInt + z := by rw [tI_add (by omega) (by omega), hf]
  unfold flr at hz
  exact ⟨⟨this.2.1, this.2.2, by omega, by omega⟩, e⟩
theorem bit_shm {a x : Nat} (ha : a < 32) (hx : x < 32) : bit ((1 : Int32) <<< (nI a &&& 31) - 1) x ↔ x < a := by
  have : ∀ a, a < 32 → ∀ x, x < 32 → (((1 : Int32) <<< (nI a &&& 31) - 1).toUInt32.toNat.testBit x = decide (x < a)) := by decide +kernel
  unfold bit
  rw [this a ha x hx, decide_eq_true_eq]
theorem flp_0 {ax ay bx bey : Int32} (fr : Nat → Int32) : ∀ y, y < 32 → ∀ x, x < 32 → (bit (fr y) x ↔ ¬ (bit (fr y) x ↔ flp ax ay bx bey 0 y x)) := by
  intro y _ x _
  have : ¬ flp ax ay bx bey 0 y x := fun ⟨w, h, _⟩ => absurd h (Nat.not_lt_zero _)
  by_cases q : bit (fr y) x <;> simp [q, this]
theorem flp_on {ax ay bx bey : Int32} {z xx yy : Nat} {g fr : Nat → Int32} (hg : ∀ y, y < 32 → ∀ x, x < 32 → (bit (g y) x ↔ ¬ (bit (fr y) x ↔ flp ax ay bx bey z y x))) (ex : flw ax ay bx bey z = nI xx) (ey : ay + nI z = nI yy) (hx0 : xx < 32) (hy0 : yy < 32) (e9 : (ay + nI z).toInt = ay.toInt + z) :
    ∀ y, y < 32 → ∀ x, x < 32 → (bit (upd g yy (g yy ^^^ ((1 <<< (nI xx &&& 31)) - 1)) y) x ↔ ¬ (bit (fr y) x ↔ flp ax ay bx bey (z + 1) y x)) := by
  intro y hy x hx
  have eyI : ay.toInt + z = yy := by rw [← e9, ey, nI_toInt (by omega)]
  have exI : (flw ax ay bx bey z).toInt = xx := by rw [ex, nI_toInt (by omega)]
  have st : flp ax ay bx bey (z + 1) y x ↔ (flp ax ay bx bey z y x ∨ (y = yy ∧ x < xx)) := by
    constructor
    · rintro ⟨w, h1, h2, h3⟩
      by_cases q : w = z
      · subst q; right; exact ⟨by omega, by omega⟩
      · left; exact ⟨w, by omega, h2, h3⟩
    · rintro (⟨w, h1, h2, h3⟩ | ⟨h1, h2⟩)
      · exact ⟨w, by omega, h2, h3⟩
      · exact ⟨z, by omega, by omega, by omega⟩
  rw [st]
  by_cases e : y = yy
  · subst e
    have no : ¬ flp ax ay bx bey z y x := fun ⟨w, h1, h2, _⟩ => by omega
    rw [pk_us, bit_xor _ _ x hx, bit_shm hx0 hx, hg y hy x hx]
    by_cases q1 : bit (fr y) x <;> by_cases q2 : x < xx <;> simp [q1, q2, no]
  · rw [pk_un e, hg y hy x hx]
    by_cases q1 : bit (fr y) x <;> by_cases q2 : flp ax ay bx bey z y x <;> simp [q1, q2, e]
