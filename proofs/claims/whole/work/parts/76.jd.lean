/-! simple polygons: the sides that a line meets, in their order, go to and fro -/
def zsum (f : Nat → Int) : Nat → Int
  | 0 => 0
  | k + 1 => zsum f k + f k
theorem zsum_congr {f g : Nat → Int} : ∀ n, (∀ j, j < n → f j = g j) → zsum f n = zsum g n
  | 0, _ => rfl
  | n + 1, h => by show _ + _ = _ + _; rw [zsum_congr n (fun j hj => h j (by omega)), h n (by omega)]
theorem zsum_add (f g : Nat → Int) : ∀ n, zsum (fun j => f j + g j) n = zsum f n + zsum g n
  | 0 => rfl
  | n + 1 => by
    show zsum (fun j => f j + g j) n + (f n + g n) = (zsum f n + f n) + (zsum g n + g n)
    rw [zsum_add f g n]; omega
theorem zsum_mul (c : Int) (f : Nat → Int) : ∀ n, zsum (fun j => c * f j) n = c * zsum f n
  | 0 => by show (0 : Int) = c * 0; rw [Int.mul_zero]
  | n + 1 => by
    show zsum (fun j => c * f j) n + c * f n = c * (zsum f n + f n)
    rw [zsum_mul c f n, Int.mul_add]
theorem zsum_0 {f : Nat → Int} : ∀ n, (∀ j, j < n → f j = 0) → zsum f n = 0
  | 0, _ => rfl
  | n + 1, h => by show _ + _ = _; rw [zsum_0 n (fun j hj => h j (by omega)), h n (by omega)]; rfl
theorem zsum_shift (g : Nat → Int) : ∀ n, zsum (fun j => g (j + 1)) n + g 0 = zsum g n + g n
  | 0 => rfl
  | n + 1 => by
    show zsum (fun j => g (j + 1)) n + g (n + 1) + g 0 = zsum g n + g n + g (n + 1)
    have := zsum_shift g n; omega
theorem zsum_cyc {n : Nat} (hn : 0 < n) (g : Nat → Int) : zsum (fun j => g (nxt n j)) n = zsum g n := by
  obtain ⟨m, rfl⟩ : ∃ m, n = m + 1 := ⟨n - 1, by omega⟩
  show zsum (fun j => g (nxt (m + 1) j)) m + g (nxt (m + 1) m) = zsum g m + g m
  rw [zsum_congr (g := fun j => g (j + 1)) m (fun j hj => by show g _ = g _; unfold nxt; rw [if_pos (by omega)]), show nxt (m + 1) m = 0 from by unfold nxt; rw [if_neg (by omega)]]
  exact zsum_shift g m
theorem zsum_one {f g : Nat → Int} {j : Nat} : ∀ n, j < n → (∀ i, i < n → i ≠ j → f i = g i) → zsum f n = zsum g n + (f j - g j)
  | 0, h, _ => absurd h (Nat.not_lt_zero _)
  | n + 1, hj, h => by
    show zsum f n + f n = zsum g n + g n + (f j - g j)
    by_cases e : j = n
    · subst e
      rw [zsum_congr j (fun i hi => h i (by omega) (by omega))]; omega
    · rw [zsum_one n (by omega) (fun i hi => h i (by omega)), h n (by omega) (fun q => e q.symm)]; omega
theorem zsum_two {f g : Nat → Int} {j k n : Nat} (hj : j < n) (hk : k < n) (hjk : j ≠ k) (h : ∀ i, i < n → i ≠ j → i ≠ k → f i = g i) : zsum f n = zsum g n + (f j - g j) + (f k - g k) := by
  have h1 := zsum_one (f := f) (g := fun i => if i = j then g j else f i) (j := j) n hj (fun i _ hi => by show f i = ite _ _ _; rw [if_neg hi])
  have h2 := zsum_one (f := fun i => if i = j then g j else f i) (g := g) (j := k) n hk (fun i hi hik => by
    show ite _ _ _ = g i
    by_cases e : i = j
    · rw [if_pos e, e]
    · rw [if_neg e, h i hi e hik])
  rw [if_pos rfl] at h1; rw [if_neg (fun q => hjk q.symm)] at h2
  omega
theorem jd_max {P : Nat → Prop} {a : Nat → Int} : ∀ n, (∃ k, k < n ∧ P k) → ∃ k, k < n ∧ P k ∧ ∀ j, j < n → P j → a j ≤ a k
  | 0, ⟨k, h, _⟩ => absurd h (Nat.not_lt_zero _)
  | n + 1, ⟨k0, h0, p0⟩ => by
    by_cases q : ∃ k, k < n ∧ P k
    · obtain ⟨k, a1, a2, a3⟩ := jd_max (a := a) n q
      by_cases p : P n ∧ a k < a n
      · refine ⟨n, by omega, p.1, fun j hj pj => ?_⟩
        by_cases e : j = n
        · rw [e]; exact Int.le_refl _
        · have := a3 j (by omega) pj; omega
      · refine ⟨k, by omega, a2, fun j hj pj => ?_⟩
        by_cases e : j = n
        · subst e
          rcases Int.lt_or_le (a k) (a j) with g | g
          · exact absurd ⟨pj, g⟩ p
          · exact g
        · exact a3 j (by omega) pj
    · have e : k0 = n := Classical.byContradiction (fun z => q ⟨k0, by omega, p0⟩)
      subst e
      refine ⟨k0, by omega, p0, fun j hj pj => ?_⟩
      have : j = k0 := Classical.byContradiction (fun z => q ⟨j, by omega, pj⟩)
      rw [this]; exact Int.le_refl _
theorem jd_pp {a b : Int} (hb : 0 < b) (h : 0 < a * b) : 0 < a := by
  rcases Int.lt_or_le 0 a with q | q
  · exact q
  · have := Int.mul_nonneg (a := -a) (b := b) (by omega) (by omega)
    rw [Int.neg_mul] at this; omega
theorem jd_nn {a b : Int} (hb : 0 < b) (h : a * b < 0) : a < 0 := by
  have := jd_pp (a := -a) hb (by rw [Int.neg_mul]; omega)
  omega
theorem jd_mpn {a b : Int} (ha : 0 < a) (hb : b < 0) : a * b < 0 := by
  have := Int.mul_pos (a := a) (b := -b) ha (by omega)
  rw [Int.mul_neg] at this; omega
theorem jd_mnp {a b : Int} (ha : a < 0) (hb : 0 < b) : a * b < 0 := by rw [Int.mul_comm]; exact jd_mpn hb ha
theorem jd_mnn {a b : Int} (ha : a < 0) (hb : b < 0) : 0 < a * b := by
  have := Int.mul_pos (a := -a) (b := -b) (by omega) (by omega)
  rw [Int.mul_neg, Int.neg_mul, Int.neg_neg] at this; exact this
theorem jd_algA {Ac Ad Ca Cb la lb lc ld : Int} (h1 : Ad - Ac + Cb - Ca = 0) (h2 : Ad * lc - Ac * ld + Cb * la - Ca * lb = 0) (q1 : la < lc) (q2 : lc < ld) (q3 : ld < lb) (hc : Ac < 0) (hd : 0 < Ad) : 0 < Ca ∧ Cb < 0 := by
  have e1 : Ca * (lb - la) = Ad * (lc - la) - Ac * (ld - la) := by grind
  have e2 : Cb * (lb - la) = Ad * (lc - lb) - Ac * (ld - lb) := by grind
  have a1 := Int.mul_pos (a := Ad) (b := lc - la) hd (by omega)
  have a2 := jd_mnp (a := Ac) (b := ld - la) hc (by omega)
  have a3 := jd_mpn (a := Ad) (b := lc - lb) hd (by omega)
  have a4 := jd_mnn (a := Ac) (b := ld - lb) hc (by omega)
  exact ⟨jd_pp (b := lb - la) (by omega) (by omega), jd_nn (b := lb - la) (by omega) (by omega)⟩
theorem jd_algB {Ac Ad Ca Cb la lb lc ld : Int} (h1 : Ad - Ac + Cb - Ca = 0) (h2 : Ad * lc - Ac * ld + Cb * la - Ca * lb = 0) (q1 : la < lc) (q2 : lc < lb) (q3 : lb < ld) (hc : Ac < 0) (hd : Cb < 0) : 0 < Ad ∧ 0 < Ca := by
  have e1 : Ad * (lb - lc) = - (Ac * (ld - lb)) - Cb * (lb - la) := by grind
  have e2 : Ca * (lb - lc) = - (Ac * (ld - lc)) - Cb * (lc - la) := by grind
  have a1 := jd_mnp (a := Ac) (b := ld - lb) hc (by omega)
  have a2 := jd_mnp (a := Cb) (b := lb - la) hd (by omega)
  have a3 := jd_mnp (a := Ac) (b := ld - lc) hc (by omega)
  have a4 := jd_mnp (a := Cb) (b := lc - la) hd (by omega)
  exact ⟨jd_pp (b := lb - lc) (by omega) (by omega), jd_pp (b := lb - lc) (by omega) (by omega)⟩
def jd_l (x y : Nat → Int) (k : Nat) : Int := 64 * x k + y k
def jd_c (x y : Nat → Int) (a b c : Nat) : Int := (x b - x a) * (y c - y a) - (y b - y a) * (x c - x a)
def jd_lo (n : Nat) (x y : Nat → Int) (k : Nat) : Nat := if jd_l x y k < jd_l x y (nxt n k) then k else nxt n k
def jd_hi (n : Nat) (x y : Nat → Int) (k : Nat) : Nat := if jd_l x y k < jd_l x y (nxt n k) then nxt n k else k
def jd_t (n : Nat) (x y : Nat → Int) (k j : Nat) : Int := jd_c x y (jd_lo n x y k) (jd_hi n x y k) j
theorem jd_id1 (x y : Nat → Int) (a b c d : Nat) : jd_c x y a b d - jd_c x y a b c + jd_c x y c d b - jd_c x y c d a = 0 := by
  unfold jd_c; grind
theorem jd_id2 (x y : Nat → Int) (a b c d : Nat) : jd_c x y a b d * jd_l x y c - jd_c x y a b c * jd_l x y d + jd_c x y c d b * jd_l x y a - jd_c x y c d a * jd_l x y b = 0 := by
  unfold jd_c jd_l; grind
theorem jd_caa (x y : Nat → Int) (a b : Nat) : jd_c x y a b a = 0 ∧ jd_c x y a b b = 0 := by
  unfold jd_c; constructor <;> grind
theorem jd_csw (x y : Nat → Int) (a b c : Nat) : jd_c x y b a c = - jd_c x y a b c := by
  unfold jd_c; grind
/-- a simple polygon -/
def jd_S (n : Nat) (x y : Nat → Int) : Prop := 3 ≤ n ∧ (∀ k, k < n → 0 ≤ x k ∧ x k ≤ 31 ∧ 0 ≤ y k ∧ y k ≤ 31) ∧ (∀ j k, j < n → k < n → jd_l x y j = jd_l x y k → j = k) ∧
  (∀ k j, k < n → j < n → jd_l x y (jd_lo n x y k) < jd_l x y j → jd_l x y j < jd_l x y (jd_hi n x y k) → jd_t n x y k j ≠ 0) ∧
  (∀ j k, j < n → k < n → j ≠ k → nxt n j ≠ k → nxt n k ≠ j → ¬ (jd_t n x y j (jd_lo n x y k) * jd_t n x y j (jd_hi n x y k) < 0 ∧ jd_t n x y k (jd_lo n x y j) * jd_t n x y k (jd_hi n x y j) < 0))
theorem jd_nx {n k : Nat} (h3 : 3 ≤ n) (hk : k < n) : nxt n k < n ∧ nxt n k ≠ k ∧ nxt n (nxt n k) ≠ k := by
  unfold nxt
  by_cases q : k + 1 < n
  · rw [if_pos q]
    by_cases q2 : k + 1 + 1 < n
    · rw [if_pos q2]; omega
    · rw [if_neg q2]; omega
  · rw [if_neg q, if_pos (by omega)]; omega
theorem jd_nxi {n j k : Nat} (hj : j < n) (hk : k < n) (h : nxt n j = nxt n k) : j = k := by
  unfold nxt at h
  by_cases q : j + 1 < n <;> by_cases q2 : k + 1 < n
  · rw [if_pos q, if_pos q2] at h; omega
  · rw [if_pos q, if_neg q2] at h; omega
  · rw [if_neg q, if_pos q2] at h; omega
  · omega
theorem jd_pv {n k : Nat} (hk : k < n) : ∃ j, j < n ∧ nxt n j = k := by
  by_cases q : k = 0
  · refine ⟨n - 1, by omega, ?_⟩
    unfold nxt; rw [if_neg (by omega), q]
  · refine ⟨k - 1, by omega, ?_⟩
    unfold nxt; rw [if_pos (by omega)]; omega
section JD
variable {n : Nat} {x y : Nat → Int}
theorem jd_ord (h : jd_S n x y) {k : Nat} (hk : k < n) : jd_l x y (jd_lo n x y k) < jd_l x y (jd_hi n x y k) ∧ jd_lo n x y k < n ∧ jd_hi n x y k < n ∧
    ((jd_l x y k < jd_l x y (nxt n k) ∧ jd_lo n x y k = k ∧ jd_hi n x y k = nxt n k) ∨ (jd_l x y (nxt n k) < jd_l x y k ∧ jd_lo n x y k = nxt n k ∧ jd_hi n x y k = k)) := by
  have hn := jd_nx h.1 hk
  unfold jd_lo jd_hi
  by_cases q : jd_l x y k < jd_l x y (nxt n k)
  · rw [if_pos q, if_pos q]; exact ⟨q, hk, hn.1, Or.inl ⟨q, rfl, rfl⟩⟩
  · have : jd_l x y (nxt n k) ≠ jd_l x y k := fun z => hn.2.1 (h.2.2.1 _ _ hn.1 hk z)
    rw [if_neg q, if_neg q]; exact ⟨by omega, hn.1, hk, Or.inr ⟨by omega, rfl, rfl⟩⟩
theorem jd_tll (k : Nat) : jd_t n x y k (jd_lo n x y k) = 0 := (jd_caa x y _ _).1
theorem jd_thh (k : Nat) : jd_t n x y k (jd_hi n x y k) = 0 := (jd_caa x y _ _).2
def jd_dl (n : Nat) (x y : Nat → Int) (j k : Nat) : Int := if jd_l x y (jd_lo n x y j) < jd_l x y (jd_lo n x y k) then - jd_t n x y j (jd_lo n x y k) else jd_t n x y k (jd_lo n x y j)
def jd_dr (n : Nat) (x y : Nat → Int) (j k : Nat) : Int := if jd_l x y (jd_hi n x y k) < jd_l x y (jd_hi n x y j) then - jd_t n x y j (jd_hi n x y k) else jd_t n x y k (jd_hi n x y j)
theorem jd_dla (h : jd_S n x y) {j k : Nat} (hj : j < n) (hk : k < n) : jd_dl n x y k j = - jd_dl n x y j k := by
  have oj := jd_ord h hj; have ok := jd_ord h hk
  unfold jd_dl
  by_cases q : jd_l x y (jd_lo n x y j) < jd_l x y (jd_lo n x y k)
  · rw [if_pos q, if_neg (by omega), Int.neg_neg]
  · by_cases q2 : jd_l x y (jd_lo n x y k) < jd_l x y (jd_lo n x y j)
    · rw [if_neg q, if_pos q2]
    · have e := h.2.2.1 _ _ oj.2.1 ok.2.1 (by omega)
      rw [if_neg q, if_neg q2, ← e, jd_tll, e, jd_tll]; rfl
theorem jd_dra (h : jd_S n x y) {j k : Nat} (hj : j < n) (hk : k < n) : jd_dr n x y k j = - jd_dr n x y j k := by
  have oj := jd_ord h hj; have ok := jd_ord h hk
  unfold jd_dr
  by_cases q : jd_l x y (jd_hi n x y k) < jd_l x y (jd_hi n x y j)
  · rw [if_pos q, if_neg (by omega), Int.neg_neg]
  · by_cases q2 : jd_l x y (jd_hi n x y j) < jd_l x y (jd_hi n x y k)
    · rw [if_neg q, if_pos q2]
    · have e := h.2.2.1 _ _ oj.2.2.1 ok.2.2.1 (by omega)
      rw [if_neg q, if_neg q2, ← e, jd_thh, e, jd_thh]; rfl
theorem jd_nc (h : jd_S n x y) {j k : Nat} (hj : j < n) (hk : k < n) (hjk : j ≠ k) (o1 : jd_l x y (jd_lo n x y j) < jd_l x y (jd_hi n x y k)) (o2 : jd_l x y (jd_lo n x y k) < jd_l x y (jd_hi n x y j)) : ¬ (jd_dl n x y j k < 0 ∧ 0 < jd_dr n x y j k) := by
  rintro ⟨g1, g2⟩
  have oj := jd_ord h hj; have ok := jd_ord h hk
  have nl : jd_lo n x y j ≠ jd_lo n x y k := by
    intro e
    unfold jd_dl at g1
    rw [if_neg (by rw [e]; omega), e, jd_tll] at g1; omega
  have nh : jd_hi n x y j ≠ jd_hi n x y k := by
    intro e
    unfold jd_dr at g2
    rw [if_neg (by rw [e]; omega), e, jd_thh] at g2; omega
  have n1 : nxt n j ≠ k := by
    intro e
    rcases oj.2.2.2 with ⟨-, a1, a2⟩ | ⟨-, a1, a2⟩ <;> rcases ok.2.2.2 with ⟨-, b1, b2⟩ | ⟨-, b1, b2⟩
    · rw [a2, e] at o2; rw [b1] at o2; omega
    · exact nh (by rw [a2, b2, e])
    · exact nl (by rw [a1, b1, e])
    · rw [a1, e, b2] at o1; omega
  have n2 : nxt n k ≠ j := by
    intro e
    rcases oj.2.2.2 with ⟨-, a1, a2⟩ | ⟨-, a1, a2⟩ <;> rcases ok.2.2.2 with ⟨-, b1, b2⟩ | ⟨-, b1, b2⟩
    · rw [b2, e, a1] at o1; omega
    · exact nl (by rw [a1, b1, e])
    · exact nh (by rw [a2, b2, e])
    · rw [b1, e, a2] at o2; omega
  have nl' : jd_l x y (jd_lo n x y j) ≠ jd_l x y (jd_lo n x y k) := fun z => nl (h.2.2.1 _ _ oj.2.1 ok.2.1 z)
  have nh' : jd_l x y (jd_hi n x y j) ≠ jd_l x y (jd_hi n x y k) := fun z => nh (h.2.2.1 _ _ oj.2.2.1 ok.2.2.1 z)
  have no := h.2.2.2.2 j k hj hk hjk n1 n2
  have i1 := jd_id1 x y (jd_lo n x y k) (jd_hi n x y k) (jd_lo n x y j) (jd_hi n x y j)
  have i2 := jd_id2 x y (jd_lo n x y k) (jd_hi n x y k) (jd_lo n x y j) (jd_hi n x y j)
  have s1 := oj.1; have s2 := ok.1
  unfold jd_dl at g1; unfold jd_dr at g2
  unfold jd_t at g1 g2 no
  revert i1 i2 g1 g2 no nl' nh' s1 s2 o1 o2
  generalize jd_l x y (jd_lo n x y k) = la
  generalize jd_l x y (jd_hi n x y k) = lb
  generalize jd_l x y (jd_lo n x y j) = lc
  generalize jd_l x y (jd_hi n x y j) = ld
  generalize jd_c x y (jd_lo n x y k) (jd_hi n x y k) (jd_lo n x y j) = Ac
  generalize jd_c x y (jd_lo n x y k) (jd_hi n x y k) (jd_hi n x y j) = Ad
  generalize jd_c x y (jd_lo n x y j) (jd_hi n x y j) (jd_lo n x y k) = Ca
  generalize jd_c x y (jd_lo n x y j) (jd_hi n x y j) (jd_hi n x y k) = Cb
  intro o1 o2 g1 g2 nl' nh' no i1 i2 s1 s2
  by_cases p : lc < la <;> by_cases q : lb < ld
  · rw [if_pos p] at g1; rw [if_pos q] at g2
    have := jd_algA (Ac := -Ca) (Ad := -Cb) (Ca := -Ac) (Cb := -Ad) (la := lc) (lb := ld) (lc := la) (ld := lb) (by omega) (by grind) p s2 q (by omega) (by omega)
    exact no ⟨jd_mpn (by omega) (by omega), jd_mnp (by omega) (by omega)⟩
  · rw [if_pos p] at g1; rw [if_neg q] at g2
    have := jd_algB (Ac := -Ca) (Ad := -Cb) (Ca := -Ac) (Cb := -Ad) (la := lc) (lb := ld) (lc := la) (ld := lb) (by omega) (by grind) p o2 (by omega) (by omega) (by omega)
    exact no ⟨jd_mpn (by omega) (by omega), jd_mnp (by omega) (by omega)⟩
  · rw [if_neg p] at g1; rw [if_pos q] at g2
    have := jd_algB (Ac := Ac) (Ad := Ad) (Ca := Ca) (Cb := Cb) (la := la) (lb := lb) (lc := lc) (ld := ld) i1 i2 (by omega) o1 q g1 (by omega)
    exact no ⟨jd_mpn (by omega) (by omega), jd_mnp (by omega) (by omega)⟩
  · rw [if_neg p] at g1; rw [if_neg q] at g2
    have := jd_algA (Ac := Ac) (Ad := Ad) (Ca := Ca) (Cb := Cb) (la := la) (lb := lb) (lc := lc) (ld := ld) i1 i2 (by omega) s1 (by omega) g1 g2
    exact no ⟨jd_mpn (by omega) (by omega), jd_mnp (by omega) (by omega)⟩
/-- side j runs below side k -/
def jd_b (n : Nat) (x y : Nat → Int) (j k : Nat) : Prop := jd_dl n x y j k < 0 ∨ jd_dr n x y j k < 0
theorem jd_nc2 (h : jd_S n x y) {j k : Nat} (hj : j < n) (hk : k < n) (hjk : j ≠ k) (o1 : jd_l x y (jd_lo n x y j) < jd_l x y (jd_hi n x y k)) (o2 : jd_l x y (jd_lo n x y k) < jd_l x y (jd_hi n x y j)) : ¬ (0 < jd_dl n x y j k ∧ jd_dr n x y j k < 0) := by
  intro g
  have a := jd_dla h hj hk; have b := jd_dra h hj hk
  exact jd_nc h hk hj (fun z => hjk z.symm) o2 o1 ⟨by omega, by omega⟩
/-- by an end of j that lies over k -/
theorem jd_f1 (h : jd_S n x y) {j k w : Nat} (hj : j < n) (hk : k < n) (hw : w = jd_lo n x y j ∨ w = jd_hi n x y j) (w1 : jd_l x y (jd_lo n x y k) < jd_l x y w) (w2 : jd_l x y w < jd_l x y (jd_hi n x y k)) : jd_t n x y k w ≠ 0 ∧ (jd_b n x y j k ↔ jd_t n x y k w < 0) := by
  have oj := jd_ord h hj; have ok := jd_ord h hk
  have hwn : w < n := by rcases hw with e | e <;> rw [e] <;> omega
  have ne := h.2.2.2.1 k w hk hwn w1 w2
  have hjk : j ≠ k := by
    intro e; subst e
    rcases hw with e | e <;> subst e <;> omega
  refine ⟨ne, ?_⟩
  rcases hw with e | e
  · have e1 : jd_dl n x y j k = jd_t n x y k w := by unfold jd_dl; rw [← e, if_neg (by omega)]
    have c := jd_nc2 h hj hk hjk (by rw [← e]; exact w2) (by rw [e] at w1; omega)
    unfold jd_b
    constructor
    · rintro (z | z)
      · omega
      · rcases Int.lt_trichotomy (jd_t n x y k w) 0 with q | q | q
        · exact q
        · exact absurd q ne
        · exact absurd ⟨by omega, z⟩ c
    · intro z; left; omega
  · have e1 : jd_dr n x y j k = jd_t n x y k w := by unfold jd_dr; rw [← e, if_neg (by omega)]
    have c := jd_nc h hj hk hjk (by rw [e] at w2; omega) (by rw [← e]; exact w1)
    unfold jd_b
    constructor
    · rintro (z | z)
      · rcases Int.lt_trichotomy (jd_t n x y k w) 0 with q | q | q
        · exact q
        · exact absurd q ne
        · exact absurd ⟨z, by omega⟩ c
      · omega
    · intro z; right; omega
/-- by an end of k that lies over j -/
theorem jd_f2 (h : jd_S n x y) {j k w : Nat} (hj : j < n) (hk : k < n) (hw : w = jd_lo n x y k ∨ w = jd_hi n x y k) (w1 : jd_l x y (jd_lo n x y j) < jd_l x y w) (w2 : jd_l x y w < jd_l x y (jd_hi n x y j)) : jd_b n x y j k ↔ 0 < jd_t n x y j w := by
  obtain ⟨ne, hb⟩ := jd_f1 h hk hj hw w1 w2
  have oj := jd_ord h hj; have ok := jd_ord h hk
  have hjk : j ≠ k := by
    intro e; subst e
    rcases hw with e | e <;> subst e <;> omega
  have a := jd_dla h hj hk; have b := jd_dra h hj hk
  have o1 : jd_l x y (jd_lo n x y j) < jd_l x y (jd_hi n x y k) := by rcases hw with e | e <;> rw [e] at w1 <;> omega
  have o2 : jd_l x y (jd_lo n x y k) < jd_l x y (jd_hi n x y j) := by rcases hw with e | e <;> rw [e] at w2 <;> omega
  have c1 := jd_nc h hj hk hjk o1 o2
  have c2 := jd_nc2 h hj hk hjk o1 o2
  rcases hw with e | e
  · have e1 : jd_dl n x y j k = - jd_t n x y j w := by unfold jd_dl; rw [← e, if_pos w1]
    unfold jd_b
    constructor
    · rintro (z | z)
      · omega
      · rcases Int.lt_trichotomy (jd_t n x y j w) 0 with q | q | q
        · exact absurd ⟨by omega, z⟩ c2
        · exact absurd q ne
        · exact q
    · intro z; left; omega
  · have e1 : jd_dr n x y j k = - jd_t n x y j w := by unfold jd_dr; rw [← e, if_pos w2]
    unfold jd_b
    constructor
    · rintro (z | z)
      · rcases Int.lt_trichotomy (jd_t n x y j w) 0 with q | q | q
        · exact absurd ⟨z, by omega⟩ c1
        · exact absurd q ne
        · exact q
      · omega
    · intro z; right; omega
/-- of two sides that run over one another just one runs below -/
theorem jd_tot (h : jd_S n x y) {j k : Nat} (hj : j < n) (hk : k < n) (hjk : j ≠ k) (o1 : jd_l x y (jd_lo n x y j) < jd_l x y (jd_hi n x y k)) (o2 : jd_l x y (jd_lo n x y k) < jd_l x y (jd_hi n x y j)) : (jd_b n x y j k ∧ ¬ jd_b n x y k j ∧ jd_dl n x y j k ≤ 0 ∧ jd_dr n x y j k ≤ 0) ∨ (¬ jd_b n x y j k ∧ jd_b n x y k j) := by
  have oj := jd_ord h hj; have ok := jd_ord h hk
  have a := jd_dla h hj hk; have b := jd_dra h hj hk
  have c1 := jd_nc h hj hk hjk o1 o2
  have c2 := jd_nc2 h hj hk hjk o1 o2
  have nz : ¬ (jd_dl n x y j k = 0 ∧ jd_dr n x y j k = 0) := by
    rintro ⟨z1, z2⟩
    have el : jd_lo n x y j = jd_lo n x y k := by
      apply h.2.2.1 _ _ oj.2.1 ok.2.1
      rcases Int.lt_trichotomy (jd_l x y (jd_lo n x y j)) (jd_l x y (jd_lo n x y k)) with q | q | q
      · unfold jd_dl at z1; rw [if_pos q] at z1
        exact absurd (by omega) (h.2.2.2.1 j _ hj ok.2.1 q o2)
      · exact q
      · unfold jd_dl at z1; rw [if_neg (by omega)] at z1
        exact absurd z1 (h.2.2.2.1 k _ hk oj.2.1 q o1)
    have eh : jd_hi n x y j = jd_hi n x y k := by
      apply h.2.2.1 _ _ oj.2.2.1 ok.2.2.1
      rcases Int.lt_trichotomy (jd_l x y (jd_hi n x y j)) (jd_l x y (jd_hi n x y k)) with q | q | q
      · unfold jd_dr at z2; rw [if_neg (by omega)] at z2
        exact absurd z2 (h.2.2.2.1 k _ hk oj.2.2.1 o2 q)
      · exact q
      · unfold jd_dr at z2; rw [if_pos q] at z2
        exact absurd (by omega) (h.2.2.2.1 j _ hj ok.2.2.1 o1 q)
    have nk := jd_nx h.1 hk
    rcases oj.2.2.2 with ⟨-, a1, a2⟩ | ⟨-, a1, a2⟩ <;> rcases ok.2.2.2 with ⟨-, b1, b2⟩ | ⟨-, b1, b2⟩
    · exact hjk (by rw [← a1, ← b1, el])
    · have e1 : j = nxt n k := by rw [← a1, ← b1, el]
      have e2 : nxt n j = k := by rw [← a2, ← b2, eh]
      rw [e1] at e2; exact nk.2.2 e2
    · have e1 : j = nxt n k := by rw [← a2, ← b2, eh]
      have e2 : nxt n j = k := by rw [← a1, ← b1, el]
      rw [e1] at e2; exact nk.2.2 e2
    · exact hjk (by rw [← a2, ← b2, eh])
  unfold jd_b
  by_cases p : jd_dl n x y j k < 0 ∨ jd_dr n x y j k < 0
  · left; exact ⟨p, by omega, by omega, by omega⟩
  · right; exact ⟨p, by omega⟩
end JD
