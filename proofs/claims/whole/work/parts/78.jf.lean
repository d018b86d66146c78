/-! simple polygons: slab by slab -/
abbrev jd_M : Int := 72201776446800
theorem jd_dvd : ∀ m : Nat, m < 32 → 0 < m → jd_M / (m : Int) * (m : Int) = jd_M ∧ 0 < jd_M / (m : Int) := by decide +kernel
theorem jd_div {b : Int} (h1 : 1 ≤ b) (h2 : b ≤ 31) : jd_M / b * b = jd_M ∧ 0 < jd_M / b := by
  obtain ⟨m, rfl⟩ : ∃ m : Nat, b = (m : Int) := ⟨b.toNat, by omega⟩
  exact jd_dvd m (by omega) (by omega)
def jd_H (x y : Nat → Int) (a b : Nat) (m : Int) : Int := 2 * y a * (x b - x a) + (y b - y a) * (m - 2 * x a)
def jd_h (n : Nat) (x y : Nat → Int) (k : Nat) (i : Int) : Int := jd_M / (x (jd_hi n x y k) - x (jd_lo n x y k)) * jd_H x y (jd_lo n x y k) (jd_hi n x y k) (2 * i + 1)
theorem jd_w2 {u v w w' : Int} (hu : u ≤ 0) (hv : v ≤ 0) (h : u < 0 ∨ v < 0) (hw : 0 < w) (hw' : 0 < w') : u * w + v * w' < 0 := by
  have n1 : u * w ≤ 0 := by
    rcases Int.lt_or_le u 0 with q | q
    · have := jd_mnp q hw; omega
    · rw [show u = 0 by omega, Int.zero_mul]; omega
  have n2 : v * w' ≤ 0 := by
    rcases Int.lt_or_le v 0 with q | q
    · have := jd_mnp q hw'; omega
    · rw [show v = 0 by omega, Int.zero_mul]; omega
  rcases h with h | h
  · have := jd_mnp h hw; omega
  · have := jd_mnp h hw'; omega
theorem jd_D1 (x y : Nat → Int) (a b c d : Nat) (m : Int) : jd_H x y c d m * (x b - x a) - jd_H x y a b m * (x d - x c) = jd_c x y a b c * (2 * x d - m) + jd_c x y a b d * (m - 2 * x c) := by
  unfold jd_H jd_c; grind
theorem jd_D2 (x y : Nat → Int) (a b c d : Nat) (m : Int) : jd_H x y c d m * (x b - x a) - jd_H x y a b m * (x d - x c) = (- jd_c x y c d a) * (2 * x b - m) + (- jd_c x y c d b) * (m - 2 * x a) := by
  unfold jd_H jd_c; grind
theorem jd_D3 (x y : Nat → Int) (a b c d : Nat) (m : Int) : (jd_H x y c d m * (x b - x a) - jd_H x y a b m * (x d - x c)) * (x b - x c) = jd_c x y a b c * ((x d - x c) * (2 * x b - m)) + (- jd_c x y c d b) * ((x b - x a) * (m - 2 * x c)) := by
  unfold jd_H jd_c; grind
theorem jd_D4 (x y : Nat → Int) (a b c d : Nat) (m : Int) : (jd_H x y c d m * (x b - x a) - jd_H x y a b m * (x d - x c)) * (x d - x a) = (- jd_c x y c d a) * ((x b - x a) * (2 * x d - m)) + jd_c x y a b d * ((x d - x c) * (m - 2 * x a)) := by
  unfold jd_H jd_c; grind
section JF
variable {n : Nat} {x y : Nat → Int}
theorem jd_bx (h : jd_S n x y) {k : Nat} (hk : k < n) : (0 ≤ x (jd_lo n x y k) ∧ x (jd_lo n x y k) ≤ 31 ∧ 0 ≤ y (jd_lo n x y k) ∧ y (jd_lo n x y k) ≤ 31) ∧ (0 ≤ x (jd_hi n x y k) ∧ x (jd_hi n x y k) ≤ 31 ∧ 0 ≤ y (jd_hi n x y k) ∧ y (jd_hi n x y k) ≤ 31) := by
  have o := jd_ord h hk
  exact ⟨h.2.1 _ o.2.1, h.2.1 _ o.2.2.1⟩
theorem jd_lk (h : jd_S n x y) {j k : Nat} (hj : j < n) (hk : k < n) (hjk : j ≠ k) {i : Int} (j1 : x (jd_lo n x y j) ≤ i) (j2 : i < x (jd_hi n x y j)) (k1 : x (jd_lo n x y k) ≤ i) (k2 : i < x (jd_hi n x y k)) (hb : jd_b n x y j k) : jd_h n x y j i < jd_h n x y k i := by
  have bj := jd_bx h hj; have bk := jd_bx h hk
  have hl : ∀ k, jd_l x y k = 64 * x k + y k := fun _ => rfl
  have o1 : jd_l x y (jd_lo n x y j) < jd_l x y (jd_hi n x y k) := by rw [hl, hl]; omega
  have o2 : jd_l x y (jd_lo n x y k) < jd_l x y (jd_hi n x y j) := by rw [hl, hl]; omega
  obtain ⟨g1, g2⟩ : jd_dl n x y j k ≤ 0 ∧ jd_dr n x y j k ≤ 0 := by
    rcases jd_tot h hj hk hjk o1 o2 with ⟨_, _, g⟩ | ⟨g, _⟩
    · exact g
    · exact absurd hb g
  have d1 := jd_D1 x y (jd_lo n x y k) (jd_hi n x y k) (jd_lo n x y j) (jd_hi n x y j) (2 * i + 1)
  have d2 := jd_D2 x y (jd_lo n x y k) (jd_hi n x y k) (jd_lo n x y j) (jd_hi n x y j) (2 * i + 1)
  have d3 := jd_D3 x y (jd_lo n x y k) (jd_hi n x y k) (jd_lo n x y j) (jd_hi n x y j) (2 * i + 1)
  have d4 := jd_D4 x y (jd_lo n x y k) (jd_hi n x y k) (jd_lo n x y j) (jd_hi n x y j) (2 * i + 1)
  have qj := jd_div (b := x (jd_hi n x y j) - x (jd_lo n x y j)) (by omega) (by omega)
  have qk := jd_div (b := x (jd_hi n x y k) - x (jd_lo n x y k)) (by omega) (by omega)
  unfold jd_b at hb
  unfold jd_dl at g1 hb; unfold jd_dr at g2 hb
  unfold jd_t at g1 g2 hb
  unfold jd_h
  generalize jd_H x y (jd_lo n x y j) (jd_hi n x y j) (2 * i + 1) = Hj at *
  generalize jd_H x y (jd_lo n x y k) (jd_hi n x y k) (2 * i + 1) = Hk at *
  generalize jd_c x y (jd_lo n x y k) (jd_hi n x y k) (jd_lo n x y j) = Ac at *
  generalize jd_c x y (jd_lo n x y k) (jd_hi n x y k) (jd_hi n x y j) = Ad at *
  generalize jd_c x y (jd_lo n x y j) (jd_hi n x y j) (jd_lo n x y k) = Ca at *
  generalize jd_c x y (jd_lo n x y j) (jd_hi n x y j) (jd_hi n x y k) = Cb at *
  generalize x (jd_lo n x y j) = xc at *
  generalize x (jd_hi n x y j) = xd at *
  generalize x (jd_lo n x y k) = xa at *
  generalize x (jd_hi n x y k) = xb at *
  have hD : Hj * (xb - xa) - Hk * (xd - xc) < 0 := by
    by_cases p : jd_l x y (jd_lo n x y j) < jd_l x y (jd_lo n x y k) <;> by_cases q : jd_l x y (jd_hi n x y k) < jd_l x y (jd_hi n x y j)
    · rw [if_pos p] at g1 hb; rw [if_pos q] at g2 hb
      rw [d2]; exact jd_w2 g1 g2 hb (by omega) (by omega)
    · rw [if_pos p] at g1 hb; rw [if_neg q] at g2 hb
      refine jd_nn (b := xd - xa) (by omega) ?_
      rw [d4]; exact jd_w2 g1 g2 hb (Int.mul_pos (by omega) (by omega)) (Int.mul_pos (by omega) (by omega))
    · rw [if_neg p] at g1 hb; rw [if_pos q] at g2 hb
      refine jd_nn (b := xb - xc) (by omega) ?_
      rw [d3]; exact jd_w2 g1 g2 hb (Int.mul_pos (by omega) (by omega)) (Int.mul_pos (by omega) (by omega))
    · rw [if_neg p] at g1 hb; rw [if_neg q] at g2 hb
      rw [d1]; exact jd_w2 g1 g2 hb (by omega) (by omega)
  generalize jd_M / (xd - xc) = u at *
  generalize jd_M / (xb - xa) = v at *
  have e1 : (u * Hj - v * Hk) * ((xd - xc) * (xb - xa)) = (u * (xd - xc)) * (Hj * (xb - xa)) - (v * (xb - xa)) * (Hk * (xd - xc)) := by grind
  rw [qj.1, qk.1] at e1
  have e2 : (u * Hj - v * Hk) * ((xd - xc) * (xb - xa)) < 0 := by rw [e1, ← Int.mul_sub]; exact jd_mpn (by decide) hD
  have e3 := jd_nn (b := (xd - xc) * (xb - xa)) (Int.mul_pos (by omega) (by omega)) e2
  omega
theorem jd_esp (h : jd_S n x y) {k : Nat} (hk : k < n) (i : Int) : (jd_e n x y k (64 * i + 63) = 0) ∨ ((x (jd_lo n x y k) ≤ i ∧ i < x (jd_hi n x y k)) ∧ ((jd_e n x y k (64 * i + 63) = 1 ∧ jd_l x y k < jd_l x y (nxt n k)) ∨ (jd_e n x y k (64 * i + 63) = -1 ∧ ¬ jd_l x y k < jd_l x y (nxt n k)))) := by
  have b1 := h.2.1 k hk; have b2 := h.2.1 _ (jd_nx h.1 hk).1
  have hl : ∀ k, jd_l x y k = 64 * x k + y k := fun _ => rfl
  unfold jd_e
  rcases (jd_ord h hk).2.2.2 with ⟨o, e1, e2⟩ | ⟨o, e1, e2⟩
  · rw [e1, e2]
    rw [hl, hl] at *
    by_cases q : 64 * x k + y k < 64 * i + 63 <;> by_cases q2 : 64 * x (nxt n k) + y (nxt n k) < 64 * i + 63
    · left; rw [if_pos q, if_pos q2]; rfl
    · right; rw [if_pos q, if_neg q2]; exact ⟨by omega, Or.inl ⟨rfl, o⟩⟩
    · omega
    · left; rw [if_neg q, if_neg q2]; rfl
  · rw [e1, e2]
    rw [hl, hl] at *
    by_cases q : 64 * x k + y k < 64 * i + 63 <;> by_cases q2 : 64 * x (nxt n k) + y (nxt n k) < 64 * i + 63
    · left; rw [if_pos q, if_pos q2]; rfl
    · omega
    · right; rw [if_neg q, if_pos q2]; exact ⟨by omega, Or.inr ⟨rfl, by omega⟩⟩
    · left; rw [if_neg q, if_neg q2]; rfl
theorem jd_bd (a : Nat → Int) : ∀ n : Nat, ∃ B : Int, ∀ k, k < n → -B < a k ∧ a k < B
  | 0 => ⟨0, fun k hk => absurd hk (Nat.not_lt_zero _)⟩
  | n + 1 => by
    obtain ⟨B, hB⟩ := jd_bd a n
    refine ⟨B.natAbs + (a n).natAbs + 1, fun k hk => ?_⟩
    by_cases e : k = n
    · rw [e]; omega
    · have := hB k (by omega); omega
/-- the sides over one slab: their heights, with signs, added -/
def jd_A (n : Nat) (x y : Nat → Int) (i : Int) : Int := zsum (fun k => jd_e n x y k (64 * i + 63) * jd_h n x y k i) n
theorem jd_slab (h : jd_S n x y) (i : Int) : (jd_L n x y 0 = 1 → jd_A n x y i ≤ 0) ∧ (jd_L n x y 0 = 0 → 0 ≤ jd_A n x y i) := by
  have h0 : zsum (fun k => jd_e n x y k (64 * i + 63)) n = 0 := by
    have e : ∀ k, k < n → jd_e n x y k (64 * i + 63) = (fun k => if jd_l x y k < 64 * i + 63 then (1 : Int) else 0) k + -1 * (fun k => (fun k => if jd_l x y k < 64 * i + 63 then (1 : Int) else 0) (nxt n k)) k := by
      intro k _
      show jd_e n x y k (64 * i + 63) = ite _ _ _ + -1 * ite _ _ _
      unfold jd_e; omega
    rw [zsum_congr n e, zsum_add, zsum_mul, zsum_cyc (n := n) (by have := h.1; omega) (fun k => if jd_l x y k < 64 * i + 63 then (1 : Int) else 0)]; omega
  have lay := jd_lay (n := n) (d := fun k => jd_e n x y k (64 * i + 63)) (a := fun k => jd_h n x y k i) (z := jd_z n x y) (Λ := jd_L n x y 0) (by
      intro j k hj hk hjk dj dk
      rcases jd_esp h hj i with z | ⟨⟨j1, j2⟩, _⟩
      · exact absurd z dj
      rcases jd_esp h hk i with z | ⟨⟨k1, k2⟩, _⟩
      · exact absurd z dk
      have bj := jd_bx h hj; have bk := jd_bx h hk
      have hl : ∀ k, jd_l x y k = 64 * x k + y k := fun _ => rfl
      have o1 : jd_l x y (jd_lo n x y j) < jd_l x y (jd_hi n x y k) := by rw [hl, hl]; omega
      have o2 : jd_l x y (jd_lo n x y k) < jd_l x y (jd_hi n x y j) := by rw [hl, hl]; omega
      unfold jd_z
      rcases jd_tot h hj hk hjk o1 o2 with ⟨g, _⟩ | ⟨g, g2⟩
      · left; exact ⟨cif_t g, jd_lk h hj hk hjk j1 j2 k1 k2 g⟩
      · right; exact ⟨cif_f g, jd_lk h hk hj (fun z => hjk z.symm) k1 k2 j1 j2 g2⟩)
    (fun k _ => jd_zz k) (by
      intro k hk dk
      rcases jd_esp h hk i with z | ⟨⟨k1, k2⟩, g⟩
      · exact absurd z dk
      have bk := jd_bx h hk
      have hl : ∀ k, jd_l x y k = 64 * x k + y k := fun _ => rfl
      have s := jd_sv h hk (τ := 64 * i + 63) (by rw [hl]; omega) (by rw [hl]; omega)
      rw [jd_La h k hk] at s
      rw [← s]
      show _ + ite (jd_e n x y k (64 * i + 63) = 1) _ _ = _ + _
      rcases g with ⟨g1, g2⟩ | ⟨g1, g2⟩
      · rw [if_pos g1, if_pos g2]; rfl
      · rw [if_neg (by omega), if_neg g2]; rfl)
    (by
      intro k hk
      rcases jd_esp h hk i with z | ⟨_, ⟨g, _⟩ | ⟨g, _⟩⟩
      · exact Or.inl z
      · exact Or.inr (Or.inl g)
      · exact Or.inr (Or.inr g)) h0
  obtain ⟨B, hB⟩ := jd_bd (fun k => jd_h n x y k i) n
  constructor
  · intro q
    have := jd_hsum (n := n) (d := fun k => jd_e n x y k (64 * i + 63)) (a := fun k => jd_h n x y k i) (s := 1) (M := B) (fun t => by rw [Int.one_mul]; exact (lay t).1 q) h0 hB
    rw [Int.one_mul] at this
    exact this
  · intro q
    have := jd_hsum (n := n) (d := fun k => jd_e n x y k (64 * i + 63)) (a := fun k => jd_h n x y k i) (s := -1) (M := B) (fun t => by have := (lay t).2 q; omega) h0 hB
    have e : jd_A n x y i = zsum (fun k => jd_e n x y k (64 * i + 63) * jd_h n x y k i) n := rfl
    rw [e]
    generalize zsum (fun k => jd_e n x y k (64 * i + 63) * jd_h n x y k i) n = Z at *
    omega
/-- the slabs up to a line -/
def jd_Z (n : Nat) (x y : Nat → Int) (c : Nat) : Int := zsum (fun i => jd_A n x y (i : Int)) c
theorem jd_sign (h : jd_S n x y) : (∀ c, jd_Z n x y c ≤ 0) ∨ (∀ c d, c ≤ d → 0 ≤ jd_Z n x y c ∧ jd_Z n x y c ≤ jd_Z n x y d) := by
  rcases jd_01 h with q | q
  · right
    intro c d hcd
    have m : ∀ c, jd_Z n x y c ≤ jd_Z n x y (c + 1) := fun c => by
      have := (jd_slab h (c : Int)).2 q
      show _ ≤ jd_Z n x y c + jd_A n x y (c : Int); omega
    have p : ∀ c, 0 ≤ jd_Z n x y c := by
      intro c
      induction c with
      | zero => exact Int.le_refl _
      | succ c ih => have := m c; omega
    refine ⟨p c, ?_⟩
    induction d with
    | zero => rw [show c = 0 by omega]; exact Int.le_refl _
    | succ d ih =>
      by_cases e : c = d + 1
      · rw [e]; exact Int.le_refl _
      · have := ih (by omega); have := m d; omega
  · left
    intro c
    induction c with
    | zero => exact Int.le_refl _
    | succ c ih =>
      have := (jd_slab h (c : Int)).1 q
      show jd_Z n x y c + jd_A n x y (c : Int) ≤ 0; omega
end JF
/-- a plot that stands is a simple polygon -/
theorem jd_of {n : Nat} {X Y : Nat → Int32} (hn : 3 ≤ n) (hs : stn n X Y) : jd_S n (fun k => (X k).toInt) (fun k => (Y k).toInt) := by
  obtain ⟨hp, hf, ht⟩ := (stn_iff hn).mp hs
  have hP : ∀ z, z < n → isP (X z) (Y z) := fun z hz => (hp z hz).1
  have hb : ∀ k, k < n → 0 ≤ (X k).toInt ∧ (X k).toInt ≤ 31 ∧ 0 ≤ (Y k).toInt ∧ (Y k).toInt ≤ 31 := fun k hk => hP k hk
  have hl : ∀ k, jd_l (fun k => (X k).toInt) (fun k => (Y k).toInt) k = 64 * (X k).toInt + (Y k).toInt := fun _ => rfl
  have ap : ∀ j k, j < n → k < n → jd_l (fun k => (X k).toInt) (fun k => (Y k).toInt) j = jd_l (fun k => (X k).toInt) (fun k => (Y k).toInt) k → j = k := by
    intro j k hj hk e
    rw [hl, hl] at e
    have b1 := hb j hj; have b2 := hb k hk
    have ex : (X j).toInt = (X k).toInt := by omega
    have ey : (Y j).toInt = (Y k).toInt := by omega
    apply Classical.byContradiction
    intro hne
    have nj := nxt_lt hj
    by_cases q1 : nxt n j = k
    · exact (hp j hj).2 (by unfold mere; rw [q1]; exact ⟨Int32.toInt_inj.mp ex, Int32.toInt_inj.mp ey⟩)
    by_cases q2 : nxt n k = j
    · exact (hp k hk).2 (by unfold mere; rw [q2]; exact ⟨Int32.toInt_inj.mp ex.symm, Int32.toInt_inj.mp ey.symm⟩)
    refine ht j hj k hk (fun z => hne z.symm) (fun z => q1 z.symm) (fun z => q2 z.symm) (Or.inl ?_)
    unfold sdO
    rw [onS_t (hP j hj) (hP _ nj) (hP k hk), ← ex, ← ey]
    refine ⟨?_, by omega, by omega, by omega, by omega⟩
    rw [Int.sub_self, Int.sub_self, Int.mul_zero, Int.mul_zero]; rfl
  refine ⟨hn, hb, ap, ?_, ?_⟩
  · intro k j hk hj l1 l2 e
    have hk' := nxt_lt hk
    have bk := hb k hk; have bk' := hb _ hk'; have bj := hb j hj
    have njk : j ≠ k ∧ j ≠ nxt n k := by
      constructor
      · intro z; subst z
        unfold jd_lo at l1; unfold jd_hi at l2
        by_cases q : jd_l (fun k => (X k).toInt) (fun k => (Y k).toInt) j < jd_l (fun k => (X k).toInt) (fun k => (Y k).toInt) (nxt n j)
        · rw [if_pos q] at l1 l2; omega
        · rw [if_neg q] at l1 l2; omega
      · intro z; subst z
        unfold jd_lo at l1; unfold jd_hi at l2
        by_cases q : jd_l (fun k => (X k).toInt) (fun k => (Y k).toInt) k < jd_l (fun k => (X k).toInt) (fun k => (Y k).toInt) (nxt n k)
        · rw [if_pos q] at l1 l2; omega
        · rw [if_neg q] at l1 l2; omega
    have on : sdO n X Y k (X j) (Y j) := by
      unfold sdO
      rw [onS_t (hP k hk) (hP _ hk') (hP j hj)]
      unfold jd_t at e
      unfold jd_lo at l1 e; unfold jd_hi at l2 e
      by_cases q : jd_l (fun k => (X k).toInt) (fun k => (Y k).toInt) k < jd_l (fun k => (X k).toInt) (fun k => (Y k).toInt) (nxt n k)
      · rw [if_pos q] at l1 l2 e; rw [if_pos q] at e
        rw [hl, hl] at l1 l2 q
        have e' : ((X (nxt n k)).toInt - (X k).toInt) * ((Y j).toInt - (Y k).toInt) - ((Y (nxt n k)).toInt - (Y k).toInt) * ((X j).toInt - (X k).toInt) = 0 := e
        refine ⟨e', by omega, by omega, ?_⟩
        by_cases g : (X j).toInt = (X k).toInt
        · rw [g, Int.sub_self, Int.mul_zero] at e'
          by_cases g2 : (X (nxt n k)).toInt = (X k).toInt
          · omega
          · have := Int.mul_eq_zero.mp (show ((X (nxt n k)).toInt - (X k).toInt) * ((Y j).toInt - (Y k).toInt) = 0 by omega)
            omega
        · have := scl (p := (Y j).toInt - (Y k).toInt) (q := (Y (nxt n k)).toInt - (Y k).toInt) (a := (X (nxt n k)).toInt - (X k).toInt) (b := (X j).toInt - (X k).toInt) (by rw [Int.mul_comm]; omega) (by omega) (by omega)
          rcases Int.le_total 0 ((Y (nxt n k)).toInt - (Y k).toInt) with w | w
          · have := this.1 w; omega
          · have := this.2 w; omega
      · rw [if_neg q] at l1 l2 e; rw [if_neg q] at e
        rw [hl, hl] at l1 l2 q
        rw [jd_csw] at e
        have e' : ((X (nxt n k)).toInt - (X k).toInt) * ((Y j).toInt - (Y k).toInt) - ((Y (nxt n k)).toInt - (Y k).toInt) * ((X j).toInt - (X k).toInt) = 0 := Int.neg_eq_zero.mp e
        refine ⟨e', by omega, by omega, ?_⟩
        by_cases g : (X j).toInt = (X k).toInt
        · rw [g, Int.sub_self, Int.mul_zero] at e'
          by_cases g2 : (X (nxt n k)).toInt = (X k).toInt
          · omega
          · have := Int.mul_eq_zero.mp (show ((X (nxt n k)).toInt - (X k).toInt) * ((Y j).toInt - (Y k).toInt) = 0 by omega)
            omega
        · have := scl (p := (Y j).toInt - (Y k).toInt) (q := (Y (nxt n k)).toInt - (Y k).toInt) (a := (X k).toInt - (X (nxt n k)).toInt) (b := (X k).toInt - (X j).toInt) (by grind) (by omega) (by omega)
          rcases Int.le_total 0 ((Y (nxt n k)).toInt - (Y k).toInt) with w | w
          · have := this.1 w; omega
          · have := this.2 w; omega
    by_cases q : nxt n j = k
    · refine hf j hj ((fld_iff hj (by rw [q]; exact hk) hP (fun z hz => (hp z hz).2)).mpr (Or.inr ?_))
      rw [q]; exact on
    · exact ht k hk j hj njk.1 njk.2 (fun z => q z.symm) (Or.inl on)
  · intro j k hj hk hjk n1 n2 hc
    have hj' := nxt_lt hj; have hk' := nxt_lt hk
    refine ht j hj k hk (fun z => hjk z.symm) (fun z => n1 z.symm) (fun z => n2 z.symm) ?_
    right; right; right; right
    have sq : ∀ k j, jd_t n (fun k => (X k).toInt) (fun k => (Y k).toInt) k (jd_lo n (fun k => (X k).toInt) (fun k => (Y k).toInt) j) * jd_t n (fun k => (X k).toInt) (fun k => (Y k).toInt) k (jd_hi n (fun k => (X k).toInt) (fun k => (Y k).toInt) j) = jd_c (fun k => (X k).toInt) (fun k => (Y k).toInt) k (nxt n k) j * jd_c (fun k => (X k).toInt) (fun k => (Y k).toInt) k (nxt n k) (nxt n j) := by
      intro k j
      unfold jd_t jd_lo jd_hi
      split <;> split
      · rfl
      · rw [Int.mul_comm]
      · rw [jd_csw, jd_csw (c := nxt n j), Int.neg_mul_neg]
      · rw [jd_csw, jd_csw (c := j), Int.neg_mul_neg, Int.mul_comm]
    rw [sq, sq] at hc
    have tq : ∀ k j, k < n → j < n → (sdT n X Y k (X j) (Y j) * sdT n X Y k (X (nxt n j)) (Y (nxt n j))).toInt = jd_c (fun k => (X k).toInt) (fun k => (Y k).toInt) k (nxt n k) j * jd_c (fun k => (X k).toInt) (fun k => (Y k).toInt) k (nxt n k) (nxt n j) := by
      intro k j hk hj
      have t1 := tn_t (hP k hk) (hP _ (nxt_lt hk)) (hP j hj)
      have t2 := tn_t (hP k hk) (hP _ (nxt_lt hk)) (hP _ (nxt_lt hj))
      have m := mul_le_b (A := 1922) (B := 1922) t1.2.1 t1.2.2 t2.2.1 t2.2.2 (by omega)
      show (tn (X k) (Y k) (X (nxt n k)) (Y (nxt n k)) (X j) (Y j) * tn (X k) (Y k) (X (nxt n k)) (Y (nxt n k)) (X (nxt n j)) (Y (nxt n j))).toInt = _
      rw [tI_mul (by omega) (by omega), t1.1, t2.1]; rfl
    rw [Int32.lt_iff_toInt_lt, Int32.lt_iff_toInt_lt, tq j k hj hk, tq k j hk hj, li_0]
    exact hc
