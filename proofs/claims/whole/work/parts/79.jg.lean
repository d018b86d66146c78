/-! what lies west of a line: class and reference -/
def jd_R (a b c : Int) : Int := if a < c then (if c < b then c - a else b - a) else 0
theorem jd_run (a b y1 y2 q : Int) (hab : a < b) (ha : 0 ≤ a) : ∀ c : Nat, zsum (fun i => (if a ≤ (i : Int) ∧ (i : Int) < b then 1 else 0) * (q * (2 * y1 * (b - a) + (y2 - y1) * (2 * (i : Int) + 1 - 2 * a)))) c = q * (jd_R a b c * (2 * y1 * (b - a) + (y2 - y1) * jd_R a b c))
  | 0 => by
    have : jd_R a b ((0 : Nat) : Int) = 0 := by unfold jd_R; rw [if_neg (by omega)]
    rw [this, Int.zero_mul, Int.mul_zero]; rfl
  | c + 1 => by
    show zsum _ c + (ite _ _ _) * _ = _
    rw [jd_run a b y1 y2 q hab ha c]
    by_cases q1 : (c : Int) < a
    · have e1 : jd_R a b (c : Int) = 0 := by unfold jd_R; rw [if_neg (by omega)]
      have e2 : jd_R a b ((c + 1 : Nat) : Int) = 0 := by unfold jd_R; rw [if_neg (by omega)]
      rw [if_neg (by omega), e1, e2]; simp
    · by_cases q2 : (c : Int) < b
      · have e1 : jd_R a b (c : Int) = c - a := by
          unfold jd_R
          by_cases q3 : a < (c : Int)
          · rw [if_pos q3, if_pos q2]
          · rw [if_neg q3]; omega
        have e2 : jd_R a b ((c + 1 : Nat) : Int) = c - a + 1 := by
          unfold jd_R
          rw [if_pos (by omega)]
          by_cases q3 : ((c + 1 : Nat) : Int) < b
          · rw [if_pos q3]; omega
          · rw [if_neg q3]; omega
        rw [if_pos ⟨by omega, q2⟩, e1, e2]
        generalize (c : Int) = z
        grind
      · have e1 : jd_R a b (c : Int) = b - a := by unfold jd_R; rw [if_pos (by omega), if_neg (by omega)]
        have e2 : jd_R a b ((c + 1 : Nat) : Int) = b - a := by unfold jd_R; rw [if_pos (by omega), if_neg (by omega)]
        rw [if_neg (by omega), e1, e2, Int.zero_mul, Int.add_zero]
def jd_N (n : Nat) (x y : Nat → Int) (c k : Nat) : Int := zsum (fun i => jd_e n x y k (64 * (i : Int) + 63) * jd_h n x y k (i : Int)) c
def jd_G (x y : Nat → Int) (a b : Nat) (c : Int) : Int := jd_M / (x b - x a) * (jd_R (x a) (x b) c * (2 * y a * (x b - x a) + (y b - y a) * jd_R (x a) (x b) c))
theorem jd_Nup {n : Nat} {x y : Nat → Int} {k : Nat} (b1 : 0 ≤ x k ∧ x k ≤ 31 ∧ 0 ≤ y k ∧ y k ≤ 31) (b2 : 0 ≤ x (nxt n k) ∧ x (nxt n k) ≤ 31 ∧ 0 ≤ y (nxt n k) ∧ y (nxt n k) ≤ 31) (h : x k < x (nxt n k)) (c : Nat) : jd_N n x y c k = jd_G x y k (nxt n k) c := by
  have hl : jd_l x y k < jd_l x y (nxt n k) := by unfold jd_l; omega
  unfold jd_N jd_G
  rw [← jd_run _ _ _ _ _ h b1.1 c]
  apply zsum_congr
  intro i _
  unfold jd_h jd_H jd_lo jd_hi
  rw [if_pos hl, if_pos hl]
  congr 1
  unfold jd_e jd_l
  by_cases q : x k ≤ (i : Int) <;> by_cases q2 : (i : Int) < x (nxt n k)
  · rw [if_pos (by omega), if_neg (by omega), if_pos ⟨q, q2⟩]; rfl
  · rw [if_pos (by omega), if_pos (by omega), if_neg (by omega)]; rfl
  · rw [if_neg (by omega), if_neg (by omega), if_neg (by omega)]; rfl
  · omega
theorem jd_Ndn {n : Nat} {x y : Nat → Int} {k : Nat} (b1 : 0 ≤ x k ∧ x k ≤ 31 ∧ 0 ≤ y k ∧ y k ≤ 31) (b2 : 0 ≤ x (nxt n k) ∧ x (nxt n k) ≤ 31 ∧ 0 ≤ y (nxt n k) ∧ y (nxt n k) ≤ 31) (h : x (nxt n k) < x k) (c : Nat) : jd_N n x y c k = - jd_G x y (nxt n k) k c := by
  have hl : ¬ jd_l x y k < jd_l x y (nxt n k) := by unfold jd_l; omega
  unfold jd_N jd_G
  rw [← jd_run _ _ _ _ _ h b2.1 c]
  have e : ∀ z : Int, -z = -1 * z := fun z => by omega
  rw [e, ← zsum_mul]
  apply zsum_congr
  intro i _
  unfold jd_h jd_H jd_lo jd_hi
  rw [if_neg hl, if_neg hl]
  show _ = -1 * (ite _ _ _ * _)
  rw [← Int.mul_assoc (-1)]
  congr 1
  unfold jd_e jd_l
  by_cases q : x (nxt n k) ≤ (i : Int) <;> by_cases q2 : (i : Int) < x k
  · rw [if_neg (by omega), if_pos (by omega), if_pos ⟨q, q2⟩]; rfl
  · rw [if_pos (by omega), if_pos (by omega), if_neg (by omega)]; rfl
  · rw [if_neg (by omega), if_neg (by omega), if_neg (by omega)]; rfl
  · omega
theorem jd_N0 {n : Nat} {x y : Nat → Int} {k : Nat} (b1 : 0 ≤ y k ∧ y k ≤ 31) (b2 : 0 ≤ y (nxt n k) ∧ y (nxt n k) ≤ 31) (h : x (nxt n k) = x k) (c : Nat) : jd_N n x y c k = 0 := by
  apply zsum_0
  intro i _
  have : jd_e n x y k (64 * (i : Int) + 63) = 0 := by
    unfold jd_e jd_l
    by_cases q : x k ≤ (i : Int)
    · rw [if_pos (by omega), if_pos (by omega)]; rfl
    · rw [if_neg (by omega), if_neg (by omega)]; rfl
  show _ * _ = _
  rw [this, Int.zero_mul]
theorem zsum_swap (f : Nat → Nat → Int) (c : Nat) : ∀ n, zsum (fun k => zsum (fun i => f i k) c) n = zsum (fun i => zsum (fun k => f i k) n) c
  | 0 => (zsum_0 c (fun _ _ => rfl)).symm
  | n + 1 => by
    show zsum (fun k => zsum (fun i => f i k) c) n + zsum (fun i => f i n) c = _
    rw [zsum_swap f c n, ← zsum_add]; rfl
theorem jd_ZN (n : Nat) (x y : Nat → Int) (c : Nat) : zsum (jd_N n x y c) n = jd_Z n x y c := zsum_swap (fun i k => jd_e n x y k (64 * (i : Int) + 63) * jd_h n x y k (i : Int)) c n
/-- the reference's side, times the same number -/
def jd_m (x y : Nat → Int) (n : Nat) (c : Int) (k : Nat) : Int := 2 * jd_M * (min (x (nxt n k)) c * y (nxt n k) - min (x k) c * y k)
theorem rsum_mk (f : Nat → Int) (M : Nat) (hM : M ≠ 0) (g : Nat → Rat) : ∀ n, (∀ k, k < n → g k = mkRat (f k) M) → rsum g n = mkRat (zsum f n) M
  | 0, _ => by show (0 : Rat) = mkRat 0 M; rw [Rat.zero_mkRat]
  | n + 1, h => by
    show rsum g n + g n = mkRat (zsum f n + f n) M
    rw [rsum_mk f M hM g n (fun k hk => h k (by omega)), h n (by omega), Rat.mkRat_add_mkRat _ _ hM hM]
    rw [Rat.mkRat_eq_iff (Nat.mul_ne_zero hM hM) hM]
    rw [← Int.add_mul, Int.mul_assoc, Int.natCast_mul]
theorem mkRat_up {u v : Int} {b M : Nat} (hb : b ≠ 0) (hM : M ≠ 0) (h : u * M = v * b) : mkRat u b = mkRat v M := (Rat.mkRat_eq_iff hb hM).mpr h
section JG
variable {n : Nat} {X Y : Nat → Int32} {c : Int32} {k : Nat}
theorem jd_bT {fr to_ : Nat} (h1 : isP (X fr) (Y fr)) (h2 : isP (X to_) (Y to_)) (hc : b31 c) {tm : Int32} (ht : tm = 1 ∨ tm = -1) (hx : (X fr).toInt < (X to_).toInt) : bT X Y fr to_ c tm = mkRat (tm.toInt * jd_G (fun k => (X k).toInt) (fun k => (Y k).toInt) fr to_ c.toInt) 72201776446800 := by
  obtain ⟨eB, eR, eU⟩ := bU_t h1 h2 hc ht
  unfold isP at h1 h2; unfold b31 at hc
  unfold bT
  have eg : jd_G (fun k => (X k).toInt) (fun k => (Y k).toInt) fr to_ c.toInt = jd_M / ((X to_).toInt - (X fr).toInt) * (jd_R (X fr).toInt (X to_).toInt c.toInt * (2 * (Y fr).toInt * ((X to_).toInt - (X fr).toInt) + ((Y to_).toInt - (Y fr).toInt) * jd_R (X fr).toInt (X to_).toInt c.toInt)) := rfl
  rw [eg]
  have hq := jd_div (b := (X to_).toInt - (X fr).toInt) (by omega) (by omega)
  by_cases g : 0 < (bR X fr to_ c).toInt
  · have er : jd_R (X fr).toInt (X to_).toInt c.toInt = (bR X fr to_ c).toInt := by
      unfold jd_R
      by_cases q : c.toInt < (X to_).toInt
      · rw [if_pos (by omega), if_pos q]; omega
      · rw [if_pos (by omega), if_neg q]; omega
    rw [cif_t ⟨by omega, g⟩, er, eU]
    apply mkRat_up (by omega) (by decide)
    rw [Int.toNat_of_nonneg (by omega), eB]
    generalize (bR X fr to_ c).toInt = RR at *
    generalize (X to_).toInt - (X fr).toInt = B at *
    generalize (Y to_).toInt - (Y fr).toInt = dy at *
    have e0 : ((72201776446800 : Nat) : Int) = jd_M := rfl
    rw [e0]
    generalize jd_M / B = qq at *
    rw [← hq.1]; grind
  · have er : jd_R (X fr).toInt (X to_).toInt c.toInt = 0 := by
      unfold jd_R; rw [if_neg (by omega)]
    rw [cif_f (fun z => g z.2), er, Int.zero_mul, Int.mul_zero, Int.mul_zero, Rat.zero_mkRat]
theorem jd_cT (h1 : isP (X k) (Y k)) (h2 : isP (X (nxt n k)) (Y (nxt n k))) (hc : b31 c) : cT n X Y c k = mkRat (jd_N n (fun k => (X k).toInt) (fun k => (Y k).toInt) c.toInt.toNat k) 72201776446800 := by
  have ec : ((c.toInt.toNat : Nat) : Int) = c.toInt := by unfold b31 at hc; omega
  unfold cT
  rcases Int.lt_trichotomy (X k).toInt (X (nxt n k)).toInt with q | q | q
  · rw [cif_f (by rw [Int32.le_iff_toInt_le]; omega), jd_bT h1 h2 hc (Or.inl rfl) q, jd_Nup (x := fun k => (X k).toInt) (y := fun k => (Y k).toInt) h1 h2 q, ec, li_1, Int.one_mul]
  · rw [cif_t (by rw [Int32.le_iff_toInt_le]; omega), jd_N0 (x := fun k => (X k).toInt) (y := fun k => (Y k).toInt) h1.2.2 h2.2.2 q.symm]
    unfold bT
    obtain ⟨eB, -⟩ := bU_t h2 h1 hc (tm := -1) (Or.inr rfl)
    rw [cif_f (by intro z; have := z.1; omega), Rat.zero_mkRat]
  · rw [cif_t (by rw [Int32.le_iff_toInt_le]; omega), jd_bT h2 h1 hc (Or.inr rfl) q, jd_Ndn (x := fun k => (X k).toInt) (y := fun k => (Y k).toInt) h1 h2 q, ec]
    congr 1
    rw [li_m1]; omega
theorem jd_mT (h1 : isP (X k) (Y k)) (h2 : isP (X (nxt n k)) (Y (nxt n k))) (hc : b31 c) : mT n X Y c k = mkRat (jd_m (fun k => (X k).toInt) (fun k => (Y k).toInt) n c.toInt k - jd_N n (fun k => (X k).toInt) (fun k => (Y k).toInt) c.toInt.toNat k) 72201776446800 := by
  have ec : ((c.toInt.toNat : Nat) : Int) = c.toInt := by unfold b31 at hc; omega
  obtain ⟨m1, m2, m3⟩ := mU_t (n := n) (X := X) (Y := Y) (c := c) (k := k) ⟨h1.1, h1.2.1⟩ ⟨h2.1, h2.2.1⟩ ⟨h1.2.2.1, h1.2.2.2⟩ ⟨h2.2.2.1, h2.2.2.2⟩ hc
  have em : jd_m (fun k => (X k).toInt) (fun k => (Y k).toInt) n c.toInt k = 2 * jd_M * (min (X (nxt n k)).toInt c.toInt * (Y (nxt n k)).toInt - min (X k).toInt c.toInt * (Y k).toInt) := rfl
  have elo : (lo_ n X k).toInt = min (X (nxt n k)).toInt (X k).toInt := by
    unfold lo_
    by_cases q : X (nxt n k) ≤ X k
    · rw [if_pos q]; rw [Int32.le_iff_toInt_le] at q; omega
    · rw [if_neg q]; rw [Int32.le_iff_toInt_le] at q; omega
  have ehi : (hi_ n X k).toInt = max (X (nxt n k)).toInt (X k).toInt := by
    unfold hi_
    by_cases q : X (nxt n k) ≤ X k
    · rw [if_pos q]; rw [Int32.le_iff_toInt_le] at q; omega
    · rw [if_neg q]; rw [Int32.le_iff_toInt_le] at q; omega
  have e0 : ((72201776446800 : Nat) : Int) = jd_M := rfl
  have eN : jd_N n (fun k => (X k).toInt) (fun k => (Y k).toInt) c.toInt.toNat k = if (X k).toInt < (X (nxt n k)).toInt then jd_M / ((X (nxt n k)).toInt - (X k).toInt) * (jd_R (X k).toInt (X (nxt n k)).toInt c.toInt * (2 * (Y k).toInt * ((X (nxt n k)).toInt - (X k).toInt) + ((Y (nxt n k)).toInt - (Y k).toInt) * jd_R (X k).toInt (X (nxt n k)).toInt c.toInt)) else
      if (X (nxt n k)).toInt < (X k).toInt then -(jd_M / ((X k).toInt - (X (nxt n k)).toInt) * (jd_R (X (nxt n k)).toInt (X k).toInt c.toInt * (2 * (Y (nxt n k)).toInt * ((X k).toInt - (X (nxt n k)).toInt) + ((Y k).toInt - (Y (nxt n k)).toInt) * jd_R (X (nxt n k)).toInt (X k).toInt c.toInt))) else 0 := by
    rcases Int.lt_trichotomy (X k).toInt (X (nxt n k)).toInt with q | q | q
    · rw [if_pos q, jd_Nup (x := fun k => (X k).toInt) (y := fun k => (Y k).toInt) h1 h2 q, ec]; rfl
    · rw [if_neg (by omega), if_neg (by omega), jd_N0 (x := fun k => (X k).toInt) (y := fun k => (Y k).toInt) h1.2.2 h2.2.2 q.symm]
    · rw [if_neg (by omega), if_pos q, jd_Ndn (x := fun k => (X k).toInt) (y := fun k => (Y k).toInt) h1 h2 q, ec]; rfl
  rw [em, eN]
  unfold isP at h1 h2; unfold b31 at hc
  unfold mT
  rw [elo, ehi] at m1 m2 m3
  generalize mU n X Y c k = U at *
  generalize mL n X c k = LL at *
  generalize (X k).toInt = a at *
  generalize (X (nxt n k)).toInt = b at *
  generalize (Y k).toInt = ya at *
  generalize (Y (nxt n k)).toInt = yb at *
  generalize c.toInt = z at *
  by_cases q1 : max b a ≤ z
  · obtain ⟨u1, u2⟩ := m1 q1
    rw [u1, u2]
    apply mkRat_up (by decide) (by decide)
    rw [e0]
    rcases Int.lt_trichotomy a b with q | q | q
    · have hq := (jd_div (b := b - a) (by omega) (by omega)).1
      have er : jd_R a b z = b - a := by unfold jd_R; rw [if_pos (by omega), if_neg (by omega)]
      rw [if_pos q, er, show min b z = b by omega, show min a z = a by omega, show min b a = a by omega, show max b a = b by omega]
      generalize jd_M / (b - a) = qq at *
      show _ = _ * (1 : Int)
      rw [← hq]; grind
    · subst q
      rw [if_neg (by omega), if_neg (by omega), show min a z = a by omega, show min a a = a by omega, show max a a = a by omega]
      show _ = _ * (1 : Int)
      grind
    · have hq := (jd_div (b := a - b) (by omega) (by omega)).1
      have er : jd_R b a z = a - b := by unfold jd_R; rw [if_pos (by omega), if_neg (by omega)]
      rw [if_neg (by omega), if_pos q, er, show min b z = b by omega, show min a z = a by omega, show min b a = b by omega, show max b a = a by omega]
      generalize jd_M / (a - b) = qq at *
      show _ = _ * (1 : Int)
      rw [← hq]; grind
  · by_cases q2 : z ≤ min b a
    · obtain ⟨u1, u2⟩ := m2 q1 q2
      rw [u1, u2]
      apply mkRat_up (by decide) (by decide)
      rw [e0, show min b z = z by omega, show min a z = z by omega]
      show _ = _ * (1 : Int)
      rcases Int.lt_trichotomy a b with q | q | q
      · have er : jd_R a b z = 0 := by unfold jd_R; rw [if_neg (by omega)]
        rw [if_pos q, er, Int.zero_mul, Int.mul_zero]; grind
      · rw [if_neg (by omega), if_neg (by omega)]; grind
      · have er : jd_R b a z = 0 := by unfold jd_R; rw [if_neg (by omega)]
        rw [if_neg (by omega), if_pos q, er, Int.zero_mul, Int.mul_zero]; grind
    · obtain ⟨u1, u2⟩ := m3 q1 q2
      rw [u1, u2]
      apply mkRat_up (by omega) (by decide)
      rw [e0, Int.toNat_of_nonneg (by omega)]
      rcases Int.lt_trichotomy a b with q | q | q
      · have hq := (jd_div (b := b - a) (by omega) (by omega)).1
        have er : jd_R a b z = z - a := by unfold jd_R; rw [if_pos (by omega), if_pos (by omega)]
        rw [if_pos q, er, show min b z = z by omega, show min a z = a by omega, show min b a = a by omega, show max b a = b by omega]
        generalize jd_M / (b - a) = qq at *
        rw [← hq]; grind
      · omega
      · have hq := (jd_div (b := a - b) (by omega) (by omega)).1
        have er : jd_R b a z = z - b := by unfold jd_R; rw [if_pos (by omega), if_pos (by omega)]
        rw [if_neg (by omega), if_pos q, er, show min b z = b by omega, show min a z = z by omega, show min b a = b by omega, show max b a = a by omega]
        generalize jd_M / (a - b) = qq at *
        rw [← hq]; grind
end JG
/-- twice the area -/
theorem jd_twt {n : Nat} {X Y : Nat → Int32} (h8 : n ≤ 8) (hp : ∀ z, z < n → isP (X z) (Y z)) : ∀ k, k ≤ n → (isum (twt n X Y) k).toInt = zsum (fun j => (X j).toInt * (Y (nxt n j)).toInt - (X (nxt n j)).toInt * (Y j).toInt) k ∧ -(2000 * k : Int) ≤ (isum (twt n X Y) k).toInt ∧ (isum (twt n X Y) k).toInt ≤ 2000 * k
  | 0, _ => ⟨rfl, by show -(2000 * ((0 : Nat) : Int)) ≤ (0 : Int); omega, by show (0 : Int) ≤ 2000 * ((0 : Nat) : Int); omega⟩
  | k + 1, hk => by
    obtain ⟨i1, i2, i3⟩ := jd_twt h8 hp k (by omega)
    have p1 := hp k (by omega); have p2 := hp _ (nxt_lt (show k < n by omega))
    unfold isP at p1 p2
    have a1 := mul_le_b (A := 31) (B := 31) (a := (X k).toInt) (b := (Y (nxt n k)).toInt) (by omega) (by omega) (by omega) (by omega) (by omega)
    have a2 := mul_le_b (A := 31) (B := 31) (a := (X (nxt n k)).toInt) (b := (Y k).toInt) (by omega) (by omega) (by omega) (by omega) (by omega)
    have e1 : (X k * Y (nxt n k)).toInt = (X k).toInt * (Y (nxt n k)).toInt := tI_mul (by omega) (by omega)
    have e2 : (X (nxt n k) * Y k).toInt = (X (nxt n k)).toInt * (Y k).toInt := tI_mul (by omega) (by omega)
    have e3 : (twt n X Y k).toInt = (X k).toInt * (Y (nxt n k)).toInt - (X (nxt n k)).toInt * (Y k).toInt := by
      unfold twt; rw [tI_sub (by omega) (by omega), e1, e2]
    have e4 : (isum (twt n X Y) (k + 1)).toInt = (isum (twt n X Y) k).toInt + (twt n X Y k).toInt := tI_add (by omega) (by omega)
    refine ⟨?_, by omega, by omega⟩
    rw [e4, i1, e3]; rfl
theorem jd_Z31 {n : Nat} {X Y : Nat → Int32} (hn : 0 < n) (hp : ∀ z, z < n → isP (X z) (Y z)) : jd_Z n (fun k => (X k).toInt) (fun k => (Y k).toInt) 31 = - jd_M * zsum (fun j => (X j).toInt * (Y (nxt n j)).toInt - (X (nxt n j)).toInt * (Y j).toInt) n := by
  rw [← jd_ZN]
  have e : ∀ k, k < n → jd_N n (fun k => (X k).toInt) (fun k => (Y k).toInt) 31 k = - jd_M * (fun j => (X j).toInt * (Y (nxt n j)).toInt - (X (nxt n j)).toInt * (Y j).toInt) k + (jd_M * (fun j => (fun j => (X j).toInt * (Y j).toInt) (nxt n j)) k + - jd_M * (fun j => (X j).toInt * (Y j).toInt) k) := by
    intro k hk
    have h1 := hp k hk; have h2 := hp _ (nxt_lt hk)
    show _ = - jd_M * ((X k).toInt * (Y (nxt n k)).toInt - (X (nxt n k)).toInt * (Y k).toInt) + (jd_M * ((X (nxt n k)).toInt * (Y (nxt n k)).toInt) + - jd_M * ((X k).toInt * (Y k).toInt))
    rcases Int.lt_trichotomy (X k).toInt (X (nxt n k)).toInt with q | q | q
    · rw [jd_Nup (x := fun k => (X k).toInt) (y := fun k => (Y k).toInt) h1 h2 q]
      show jd_M / ((X (nxt n k)).toInt - (X k).toInt) * (jd_R (X k).toInt (X (nxt n k)).toInt 31 * (2 * (Y k).toInt * ((X (nxt n k)).toInt - (X k).toInt) + ((Y (nxt n k)).toInt - (Y k).toInt) * jd_R (X k).toInt (X (nxt n k)).toInt 31)) = _
      unfold isP at h1 h2
      have hq := (jd_div (b := (X (nxt n k)).toInt - (X k).toInt) (by omega) (by omega)).1
      have er : jd_R (X k).toInt (X (nxt n k)).toInt 31 = (X (nxt n k)).toInt - (X k).toInt := by unfold jd_R; rw [if_pos (by omega), if_neg (by omega)]
      rw [er]
      generalize (X k).toInt = a at *
      generalize (X (nxt n k)).toInt = b at *
      generalize jd_M / (b - a) = qq at *
      rw [← hq]; grind
    · rw [jd_N0 (x := fun k => (X k).toInt) (y := fun k => (Y k).toInt) h1.2.2 h2.2.2 q.symm, q]; grind
    · rw [jd_Ndn (x := fun k => (X k).toInt) (y := fun k => (Y k).toInt) h1 h2 q]
      show -(jd_M / ((X k).toInt - (X (nxt n k)).toInt) * (jd_R (X (nxt n k)).toInt (X k).toInt 31 * (2 * (Y (nxt n k)).toInt * ((X k).toInt - (X (nxt n k)).toInt) + ((Y k).toInt - (Y (nxt n k)).toInt) * jd_R (X (nxt n k)).toInt (X k).toInt 31))) = _
      unfold isP at h1 h2
      have hq := (jd_div (b := (X k).toInt - (X (nxt n k)).toInt) (by omega) (by omega)).1
      have er : jd_R (X (nxt n k)).toInt (X k).toInt 31 = (X k).toInt - (X (nxt n k)).toInt := by unfold jd_R; rw [if_pos (by omega), if_neg (by omega)]
      rw [er]
      generalize (X k).toInt = a at *
      generalize (X (nxt n k)).toInt = b at *
      generalize jd_M / (a - b) = qq at *
      rw [← hq]; grind
  rw [zsum_congr n e, zsum_add, zsum_add, zsum_mul, zsum_mul, zsum_mul, zsum_cyc hn (fun j => (X j).toInt * (Y j).toInt)]
  generalize zsum (fun j => (X j).toInt * (Y (nxt n j)).toInt - (X (nxt n j)).toInt * (Y j).toInt) n = u
  generalize zsum (fun j => (X j).toInt * (Y j).toInt) n = v
  show -72201776446800 * u + (72201776446800 * v + -72201776446800 * v) = -72201776446800 * u
  omega
/-- class and reference measure the same -/
theorem west_eq {n : Nat} {X Y : Nat → Int32} {c : Int32} (hn : 3 ≤ n) (h8 : n ≤ 8) (hs : stn n X Y) (hc : b31 c) : ((rsum (cT n X Y c) n).num.natAbs : Int) = (wQ n X Y c).num ∧ (rsum (cT n X Y c) n).den = (wQ n X Y c).den := by
  have hp : ∀ z, z < n → isP (X z) (Y z) := fun z hz => (hs.1 z hz).1
  have hS := jd_of hn hs
  have q1 : rsum (cT n X Y c) n = mkRat (jd_Z n (fun k => (X k).toInt) (fun k => (Y k).toInt) c.toInt.toNat) 72201776446800 := by
    rw [rsum_mk (jd_N n (fun k => (X k).toInt) (fun k => (Y k).toInt) c.toInt.toNat) 72201776446800 (by decide) _ n (fun k hk => jd_cT (hp k hk) (hp _ (nxt_lt hk)) hc), jd_ZN]
  have q2 : wQ0 n X Y c = mkRat (- jd_Z n (fun k => (X k).toInt) (fun k => (Y k).toInt) c.toInt.toNat) 72201776446800 := by
    unfold wQ0
    rw [rsum_mk (fun k => jd_m (fun k => (X k).toInt) (fun k => (Y k).toInt) n c.toInt k - jd_N n (fun k => (X k).toInt) (fun k => (Y k).toInt) c.toInt.toNat k) 72201776446800 (by decide) _ n (fun k hk => jd_mT (hp k hk) (hp _ (nxt_lt hk)) hc)]
    congr 1
    have e : ∀ k, k < n → jd_m (fun k => (X k).toInt) (fun k => (Y k).toInt) n c.toInt k - jd_N n (fun k => (X k).toInt) (fun k => (Y k).toInt) c.toInt.toNat k = -1 * jd_N n (fun k => (X k).toInt) (fun k => (Y k).toInt) c.toInt.toNat k + (2 * jd_M * (fun j => (fun j => min (X j).toInt c.toInt * (Y j).toInt) (nxt n j)) k + - (2 * jd_M) * (fun j => min (X j).toInt c.toInt * (Y j).toInt) k) := by
      intro k _
      have em : jd_m (fun k => (X k).toInt) (fun k => (Y k).toInt) n c.toInt k = 2 * jd_M * (min (X (nxt n k)).toInt c.toInt * (Y (nxt n k)).toInt - min (X k).toInt c.toInt * (Y k).toInt) := rfl
      rw [em]
      show _ = _ + (2 * jd_M * (min (X (nxt n k)).toInt c.toInt * (Y (nxt n k)).toInt) + - (2 * jd_M) * (min (X k).toInt c.toInt * (Y k).toInt))
      generalize min (X (nxt n k)).toInt c.toInt * (Y (nxt n k)).toInt = u
      generalize min (X k).toInt c.toInt * (Y k).toInt = v
      generalize jd_N n (fun k => (X k).toInt) (fun k => (Y k).toInt) c.toInt.toNat k = w
      show 2 * 72201776446800 * (u - v) - w = -1 * w + (2 * 72201776446800 * u + -(2 * 72201776446800) * v)
      omega
    rw [zsum_congr n e, zsum_add, zsum_add, zsum_mul, zsum_mul, zsum_mul, zsum_cyc (n := n) (by omega) (fun j => min (X j).toInt c.toInt * (Y j).toInt), jd_ZN]
    generalize zsum (fun j => min (X j).toInt c.toInt * (Y j).toInt) n = v
    generalize jd_Z n (fun k => (X k).toInt) (fun k => (Y k).toInt) c.toInt.toNat = w
    show -1 * w + (2 * 72201776446800 * v + -(2 * 72201776446800) * v) = -w
    omega
  have q3 : wQ0 n X Y c = - rsum (cT n X Y c) n := by rw [q1, q2, Rat.neg_mkRat]
  have hk : (rsum (cT n X Y c) n).num * jd_M = jd_Z n (fun k => (X k).toInt) (fun k => (Y k).toInt) c.toInt.toNat * (rsum (cT n X Y c) n).den := by
    have := q1
    rw [← Rat.mkRat_self (rsum (cT n X Y c) n)] at this
    have h2 := (Rat.mkRat_eq_iff (rsum (cT n X Y c) n).den_nz (by decide)).mp this
    exact h2
  have hdp : (0 : Int) < ((rsum (cT n X Y c) n).den : Int) := by have := (rsum (cT n X Y c) n).den_pos; omega
  have tw := jd_twt h8 hp n (Nat.le_refl _)
  have z31 := jd_Z31 (by omega) hp
  rw [← tw.1] at z31
  have z31 : jd_Z n (fun k => (X k).toInt) (fun k => (Y k).toInt) 31 = -72201776446800 * (isum (twt n X Y) n).toInt := z31
  have hsg : (0 ≤ (isum (twt n X Y) n).toInt ∧ jd_Z n (fun k => (X k).toInt) (fun k => (Y k).toInt) c.toInt.toNat ≤ 0) ∨ (¬ 0 ≤ (isum (twt n X Y) n).toInt ∧ 0 ≤ jd_Z n (fun k => (X k).toInt) (fun k => (Y k).toInt) c.toInt.toNat) := by
    rcases jd_sign hS with g | g
    · left; have a := g 31; have b := g c.toInt.toNat; exact ⟨by omega, b⟩
    · have a := g c.toInt.toNat 31 (by unfold b31 at hc; omega)
      by_cases e : 0 ≤ (isum (twt n X Y) n).toInt
      · left; exact ⟨e, by omega⟩
      · right; exact ⟨e, a.1⟩
  generalize jd_Z n (fun k => (X k).toInt) (fun k => (Y k).toInt) c.toInt.toNat = Z at *
  unfold wQ
  rw [q3]
  generalize rsum (cT n X Y c) n = q at *
  rcases hsg with ⟨s1, s2⟩ | ⟨s1, s2⟩
  · rw [if_pos (by rw [Int32.le_iff_toInt_le, li_0]; exact s1), Rat.neg_num, Rat.neg_den]
    refine ⟨?_, rfl⟩
    have : q.num ≤ 0 := by
      rcases Int.lt_or_le 0 q.num with w | w
      · have := Int.mul_pos w (show (0 : Int) < jd_M by decide)
        have := Int.mul_nonneg (a := -Z) (b := (q.den : Int)) (by omega) (by omega)
        rw [Int.neg_mul] at this; omega
      · exact w
    omega
  · rw [if_neg (by rw [Int32.le_iff_toInt_le, li_0]; exact s1), Rat.neg_neg]
    refine ⟨?_, rfl⟩
    have : 0 ≤ q.num := by
      rcases Int.lt_or_le q.num 0 with w | w
      · have := jd_mnp w (show (0 : Int) < jd_M by decide)
        have := Int.mul_nonneg (a := Z) (b := (q.den : Int)) s2 (by omega)
        omega
      · exact w
    omega
