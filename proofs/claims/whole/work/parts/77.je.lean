/-! simple polygons: the number of times round is one all along a side's left -/
def jd_i (P : Prop) (h : Decidable P) : Int := @ite _ P h 1 0
noncomputable def jd_z (n : Nat) (x y : Nat → Int) (j k : Nat) : Int := cif (jd_b n x y j k) 1 0
def jd_e (n : Nat) (x y : Nat → Int) (j : Nat) (τ : Int) : Int := (if jd_l x y j < τ then 1 else 0) - (if jd_l x y (nxt n j) < τ then 1 else 0)
noncomputable def jd_s (n : Nat) (x y : Nat → Int) (k : Nat) (τ : Int) : Int := zsum (fun j => jd_z n x y j k * jd_e n x y j τ) n
noncomputable def jd_L (n : Nat) (x y : Nat → Int) (k : Nat) : Int := jd_s n x y k (jd_l x y (jd_lo n x y k) + 1) + (if jd_l x y k < jd_l x y (nxt n k) then 1 else 0)
section JE
variable {n : Nat} {x y : Nat → Int}
theorem jd_zz (k : Nat) : jd_z n x y k k = 0 := by
  apply cif_f
  unfold jd_b jd_dl jd_dr
  rw [if_neg (by omega), if_neg (by omega), jd_tll, jd_thh]; omega
theorem jd_z01 (j k : Nat) : jd_z n x y j k = 0 ∨ jd_z n x y j k = 1 := by
  unfold jd_z
  by_cases q : jd_b n x y j k
  · right; exact cif_t q
  · left; exact cif_f q
theorem jd_ends (h : jd_S n x y) {k : Nat} (hk : k < n) : (k = jd_lo n x y k ∨ k = jd_hi n x y k) ∧ (nxt n k = jd_lo n x y k ∨ nxt n k = jd_hi n x y k) := by
  rcases (jd_ord h hk).2.2.2 with ⟨-, a, b⟩ | ⟨-, a, b⟩
  · exact ⟨Or.inl a.symm, Or.inr b.symm⟩
  · exact ⟨Or.inr b.symm, Or.inl a.symm⟩
theorem jd_step (h : jd_S n x y) {k : Nat} (hk : k < n) {τ : Int} (t1 : jd_l x y (jd_lo n x y k) < τ) (t2 : τ < jd_l x y (jd_hi n x y k)) : jd_s n x y k τ = jd_s n x y k (τ + 1) := by
  have key : ∀ j, j < n → jd_z n x y j k * jd_e n x y j τ = jd_z n x y j k * jd_e n x y j (τ + 1) + ((fun w => if jd_l x y w = τ then cif (jd_t n x y k w < 0) (1 : Int) 0 else 0) (nxt n j) + -1 * (fun w => if jd_l x y w = τ then cif (jd_t n x y k w < 0) (1 : Int) 0 else 0) j) := by
    intro j hj
    have hn := jd_nx h.1 hj
    have en := jd_ends h hj
    have ap : jd_l x y (nxt n j) ≠ jd_l x y j := fun z => hn.2.1 (h.2.2.1 _ _ hn.1 hj z)
    show _ = _ + (ite _ _ _ + -1 * ite _ _ _)
    by_cases a : jd_l x y j = τ
    · have f := (jd_f1 h hj hk en.1 (by omega) (by omega)).2
      have e1 : cif (jd_t n x y k j < 0) (1 : Int) 0 = jd_z n x y j k := by unfold jd_z; rw [propext f]
      have e2 : jd_e n x y j τ = jd_e n x y j (τ + 1) - 1 := by
        unfold jd_e
        rw [if_neg (by omega : ¬ jd_l x y j < τ), if_pos (by omega : jd_l x y j < τ + 1)]
        by_cases q : jd_l x y (nxt n j) < τ
        · rw [if_pos q, if_pos (by omega)]; omega
        · rw [if_neg q, if_neg (by omega)]; omega
      rw [if_neg (by omega), if_pos a, e1, e2, Int.mul_sub]; omega
    · by_cases b : jd_l x y (nxt n j) = τ
      · have f := (jd_f1 h hj hk en.2 (by omega) (by omega)).2
        have e1 : cif (jd_t n x y k (nxt n j) < 0) (1 : Int) 0 = jd_z n x y j k := by unfold jd_z; rw [propext f]
        have e2 : jd_e n x y j τ = jd_e n x y j (τ + 1) + 1 := by
          unfold jd_e
          rw [if_neg (by omega : ¬ jd_l x y (nxt n j) < τ), if_pos (by omega : jd_l x y (nxt n j) < τ + 1)]
          by_cases q : jd_l x y j < τ
          · rw [if_pos q, if_pos (by omega)]; omega
          · rw [if_neg q, if_neg (by omega)]; omega
        rw [if_pos b, if_neg a, e1, e2, Int.mul_add]; omega
      · have e2 : jd_e n x y j τ = jd_e n x y j (τ + 1) := by
          unfold jd_e
          by_cases q : jd_l x y j < τ <;> by_cases q2 : jd_l x y (nxt n j) < τ
          · rw [if_pos q, if_pos q2, if_pos (by omega), if_pos (by omega)]
          · rw [if_pos q, if_neg q2, if_pos (by omega), if_neg (by omega)]
          · rw [if_neg q, if_pos q2, if_neg (by omega), if_pos (by omega)]
          · rw [if_neg q, if_neg q2, if_neg (by omega), if_neg (by omega)]
        rw [if_neg a, if_neg b, e2]; omega
  unfold jd_s
  rw [zsum_congr n key, zsum_add, zsum_add, zsum_mul, zsum_cyc (n := n) (by have := h.1; omega) (fun w => if jd_l x y w = τ then cif (jd_t n x y k w < 0) (1 : Int) 0 else 0)]
  omega
theorem jd_const (h : jd_S n x y) {k : Nat} (hk : k < n) : ∀ (m : Nat) (τ : Int), τ = jd_l x y (jd_lo n x y k) + 1 + m → τ ≤ jd_l x y (jd_hi n x y k) → jd_s n x y k τ = jd_s n x y k (jd_l x y (jd_lo n x y k) + 1)
  | 0, τ, e, _ => by rw [e]; congr 1; omega
  | m + 1, τ, e, t2 => by
    have a := jd_const h hk m (τ - 1) (by omega) (by omega)
    have b := jd_step h hk (τ := τ - 1) (by omega) (by omega)
    rw [← a, b]; congr 1; omega
theorem jd_sv (h : jd_S n x y) {k : Nat} (hk : k < n) {τ : Int} (t1 : jd_l x y (jd_lo n x y k) < τ) (t2 : τ ≤ jd_l x y (jd_hi n x y k)) : jd_s n x y k τ + (if jd_l x y k < jd_l x y (nxt n k) then 1 else 0) = jd_L n x y k := by
  unfold jd_L
  rw [jd_const h hk (τ - (jd_l x y (jd_lo n x y k) + 1)).toNat τ (by omega) t2]
theorem jd_e_in (h : jd_S n x y) {i : Nat} (hi : i < n) {τ : Int} (a : jd_l x y i ≠ τ) (b : jd_l x y (nxt n i) ≠ τ) : jd_e n x y i τ = 0 ∨ (jd_l x y (jd_lo n x y i) < τ ∧ τ < jd_l x y (jd_hi n x y i)) := by
  unfold jd_e
  rcases (jd_ord h hi).2.2.2 with ⟨o, e1, e2⟩ | ⟨o, e1, e2⟩
  · rw [e1, e2]
    by_cases q : jd_l x y i < τ <;> by_cases q2 : jd_l x y (nxt n i) < τ
    · left; rw [if_pos q, if_pos q2]; rfl
    · right; omega
    · omega
    · left; rw [if_neg q, if_neg q2]; rfl
  · rw [e1, e2]
    by_cases q : jd_l x y i < τ <;> by_cases q2 : jd_l x y (nxt n i) < τ
    · left; rw [if_pos q, if_pos q2]; rfl
    · omega
    · right; omega
    · left; rw [if_neg q, if_neg q2]; rfl
noncomputable def jd_T (n : Nat) (x y : Nat → Int) (j k : Nat) : Int := zsum (fun i => cif (i = j ∨ i = k) 0 (cif (0 < jd_t n x y i k) (1 : Int) 0 * jd_e n x y i (jd_l x y k))) n
theorem jd_cor (h : jd_S n x y) {j k : Nat} (hj : j < n) (hk : k < n) (hjk : nxt n j = k) {τ : Int} (hτ : τ = jd_l x y k ∨ τ = jd_l x y k + 1) :
    jd_s n x y j τ = jd_T n x y j k + jd_z n x y k j * jd_e n x y k τ ∧ jd_s n x y k τ = jd_T n x y j k + jd_z n x y j k * jd_e n x y j τ := by
  have hne : j ≠ k := by intro e; rw [e] at hjk; exact (jd_nx h.1 hk).2.1 hjk
  have off : ∀ i, i < n → i ≠ j → i ≠ k → ∀ m, (m = j ∨ m = k) → jd_z n x y i m * jd_e n x y i τ = (fun i => cif (i = j ∨ i = k) 0 (cif (0 < jd_t n x y i k) (1 : Int) 0 * jd_e n x y i (jd_l x y k))) i := by
    intro i hi i1 i2 m hm
    show _ = cif _ _ _
    rw [cif_f (by omega)]
    have a : jd_l x y i ≠ jd_l x y k := fun z => i2 (h.2.2.1 _ _ hi hk z)
    have hni := (jd_nx h.1 hi).1
    have b : jd_l x y (nxt n i) ≠ jd_l x y k := fun z => i1 (jd_nxi hi hj (by rw [hjk]; exact h.2.2.1 _ _ hni hk z))
    have e : jd_e n x y i τ = jd_e n x y i (jd_l x y k) := by
      rcases hτ with e | e
      · rw [e]
      · rw [e]; unfold jd_e
        by_cases q : jd_l x y i < jd_l x y k <;> by_cases q2 : jd_l x y (nxt n i) < jd_l x y k
        · rw [if_pos q, if_pos q2, if_pos (by omega), if_pos (by omega)]
        · rw [if_pos q, if_neg q2, if_pos (by omega), if_neg (by omega)]
        · rw [if_neg q, if_pos q2, if_neg (by omega), if_pos (by omega)]
        · rw [if_neg q, if_neg q2, if_neg (by omega), if_neg (by omega)]
    rw [e]
    rcases jd_e_in h hi a b with z | ⟨z1, z2⟩
    · rw [z, Int.mul_zero, Int.mul_zero]
    · congr 1
      have hmn : m < n := by rcases hm with q | q <;> omega
      have hw : k = jd_lo n x y m ∨ k = jd_hi n x y m := by
        rcases hm with q | q
        · subst q; rw [← hjk]; exact (jd_ends h hj).2
        · subst q; exact (jd_ends h hk).1
      unfold jd_z
      rw [propext (jd_f2 h hi hmn hw z1 z2)]
  have t1 := zsum_two (f := fun i => jd_z n x y i j * jd_e n x y i τ) (g := fun i => cif (i = j ∨ i = k) 0 (cif (0 < jd_t n x y i k) (1 : Int) 0 * jd_e n x y i (jd_l x y k))) hj hk hne (fun i hi i1 i2 => off i hi i1 i2 j (Or.inl rfl))
  have t2 := zsum_two (f := fun i => jd_z n x y i k * jd_e n x y i τ) (g := fun i => cif (i = j ∨ i = k) 0 (cif (0 < jd_t n x y i k) (1 : Int) 0 * jd_e n x y i (jd_l x y k))) hj hk hne (fun i hi i1 i2 => off i hi i1 i2 k (Or.inr rfl))
  rw [cif_t (show j = j ∨ j = k from Or.inl rfl), cif_t (show k = j ∨ k = k from Or.inr rfl), jd_zz, Int.zero_mul] at t1 t2
  unfold jd_s jd_T
  exact ⟨by rw [t1]; omega, by rw [t2]; omega⟩
theorem jd_turn (h : jd_S n x y) {j k : Nat} (hj : j < n) (hk : k < n) (hjk : nxt n j = k) (hs : jd_lo n x y j = jd_lo n x y k ∨ jd_hi n x y j = jd_hi n x y k) : jd_z n x y j k + jd_z n x y k j = 1 := by
  have hne : j ≠ k := by intro e; rw [e] at hjk; exact (jd_nx h.1 hk).2.1 hjk
  have oj := jd_ord h hj; have ok := jd_ord h hk
  have o1 : jd_l x y (jd_lo n x y j) < jd_l x y (jd_hi n x y k) := by rcases hs with e | e <;> first | (rw [e]; exact ok.1) | (rw [← e]; exact oj.1)
  have o2 : jd_l x y (jd_lo n x y k) < jd_l x y (jd_hi n x y j) := by rcases hs with e | e <;> first | (rw [← e]; exact oj.1) | (rw [e]; exact ok.1)
  unfold jd_z
  rcases jd_tot h hj hk hne o1 o2 with ⟨a, b, _⟩ | ⟨a, b⟩
  · rw [cif_t a, cif_f b]; rfl
  · rw [cif_f a, cif_t b]; rfl
theorem jd_Ls (h : jd_S n x y) {j k : Nat} (hj : j < n) (hk : k < n) (hjk : nxt n j = k) : jd_L n x y j = jd_L n x y k := by
  have oj := jd_ord h hj; have ok := jd_ord h hk
  have c0 := jd_cor h hj hk hjk (τ := jd_l x y k) (Or.inl rfl)
  have c1 := jd_cor h hj hk hjk (τ := jd_l x y k + 1) (Or.inr rfl)
  rw [hjk] at oj
  rcases oj.2.2.2 with ⟨u1, a1, a2⟩ | ⟨u1, a1, a2⟩ <;> rcases ok.2.2.2 with ⟨v1, b1, b2⟩ | ⟨v1, b1, b2⟩
  · have s1 := jd_sv h hj (τ := jd_l x y k) (by rw [a1]; omega) (by rw [a2]; omega)
    have s2 := jd_sv h hk (τ := jd_l x y k + 1) (by rw [b1]; omega) (by rw [b2]; omega)
    have e1 : jd_e n x y k (jd_l x y k) = 0 := by unfold jd_e; rw [if_neg (by omega), if_neg (by omega)]; rfl
    have e2 : jd_e n x y j (jd_l x y k + 1) = 0 := by unfold jd_e; rw [hjk, if_pos (by omega), if_pos (by omega)]; rfl
    rw [hjk, if_pos u1, c0.1, e1, Int.mul_zero] at s1
    rw [if_pos v1, c1.2, e2, Int.mul_zero] at s2
    omega
  · have s1 := jd_sv h hj (τ := jd_l x y k) (by rw [a1]; omega) (by rw [a2]; omega)
    have s2 := jd_sv h hk (τ := jd_l x y k) (by rw [b1]; omega) (by rw [b2]; omega)
    have e1 : jd_e n x y k (jd_l x y k) = -1 := by unfold jd_e; rw [if_neg (by omega), if_pos (by omega)]; rfl
    have e2 : jd_e n x y j (jd_l x y k) = 1 := by unfold jd_e; rw [hjk, if_pos (by omega), if_neg (by omega)]; rfl
    have tr := jd_turn h hj hk hjk (Or.inr (by rw [a2, b2]))
    rw [hjk, if_pos u1, c0.1, e1] at s1
    rw [if_neg (by omega), c0.2, e2] at s2
    omega
  · have s1 := jd_sv h hj (τ := jd_l x y k + 1) (by rw [a1]; omega) (by rw [a2]; omega)
    have s2 := jd_sv h hk (τ := jd_l x y k + 1) (by rw [b1]; omega) (by rw [b2]; omega)
    have e1 : jd_e n x y k (jd_l x y k + 1) = 1 := by unfold jd_e; rw [if_pos (by omega), if_neg (by omega)]; rfl
    have e2 : jd_e n x y j (jd_l x y k + 1) = -1 := by unfold jd_e; rw [hjk, if_neg (by omega), if_pos (by omega)]; rfl
    have tr := jd_turn h hj hk hjk (Or.inl (by rw [a1, b1]))
    rw [hjk, if_neg (by omega), c1.1, e1] at s1
    rw [if_pos v1, c1.2, e2] at s2
    omega
  · have s1 := jd_sv h hj (τ := jd_l x y k + 1) (by rw [a1]; omega) (by rw [a2]; omega)
    have s2 := jd_sv h hk (τ := jd_l x y k) (by rw [b1]; omega) (by rw [b2]; omega)
    have e1 : jd_e n x y k (jd_l x y k + 1) = 0 := by unfold jd_e; rw [if_pos (by omega), if_pos (by omega)]; rfl
    have e2 : jd_e n x y j (jd_l x y k) = 0 := by unfold jd_e; rw [hjk, if_neg (by omega), if_neg (by omega)]; rfl
    rw [hjk, if_neg (by omega), c1.1, e1, Int.mul_zero] at s1
    rw [if_neg (by omega), c0.2, e2, Int.mul_zero] at s2
    omega
theorem jd_La (h : jd_S n x y) : ∀ k, k < n → jd_L n x y k = jd_L n x y 0
  | 0, _ => rfl
  | k + 1, hk => by rw [← jd_La h k (by omega)]; exact (jd_Ls h (by omega) hk (by unfold nxt; rw [if_pos hk])).symm
theorem jd_01 (h : jd_S n x y) : jd_L n x y 0 = 0 ∨ jd_L n x y 0 = 1 := by
  obtain ⟨k, hk, -, hm⟩ := jd_max (P := fun _ => True) (a := fun k => - jd_l x y k) n ⟨0, by have := h.1; omega, trivial⟩
  obtain ⟨j, hj, hjk⟩ := jd_pv hk
  have hne : j ≠ k := by intro e; rw [e] at hjk; exact (jd_nx h.1 hk).2.1 hjk
  have ok := jd_ord h hk
  have hmin : ∀ i, i < n → i ≠ k → jd_l x y k < jd_l x y i := by
    intro i hi hik
    have a : - jd_l x y i ≤ - jd_l x y k := hm i hi trivial
    have b : jd_l x y i ≠ jd_l x y k := fun z => hik (h.2.2.1 _ _ hi hk z)
    omega
  have u : jd_l x y k < jd_l x y (nxt n k) := hmin _ (jd_nx h.1 hk).1 (jd_nx h.1 hk).2.1
  rcases ok.2.2.2 with ⟨-, b1, b2⟩ | ⟨z, -, -⟩
  · have s2 := jd_sv h hk (τ := jd_l x y k + 1) (by rw [b1]; omega) (by rw [b2]; omega)
    have hz := zsum_two (f := fun i => jd_z n x y i k * jd_e n x y i (jd_l x y k + 1)) (g := fun _ => 0) hj hk hne (fun i hi i1 i2 => by
      show jd_z n x y i k * jd_e n x y i (jd_l x y k + 1) = 0
      have a := hmin i hi i2
      have b := hmin _ (jd_nx h.1 hi).1 (fun z => i1 (jd_nxi hi hj (by rw [hjk]; exact z)))
      have : jd_e n x y i (jd_l x y k + 1) = 0 := by unfold jd_e; rw [if_neg (by omega), if_neg (by omega)]; rfl
      rw [this, Int.mul_zero])
    have e2 : jd_e n x y j (jd_l x y k + 1) = -1 := by
      have a := hmin j hj hne
      unfold jd_e; rw [hjk, if_neg (by omega), if_pos (by omega)]; rfl
    simp only [jd_zz, Int.zero_mul, e2, zsum_0 n (fun _ _ => rfl)] at hz
    unfold jd_s at s2
    rw [if_pos u, hz, jd_La h k hk] at s2
    rcases jd_z01 (n := n) (x := x) (y := y) j k with q | q <;> rw [q] at s2 <;> omega
  · omega
end JE
/-- sums of heights with signs to and fro -/
theorem jd_lay {n : Nat} {d a : Nat → Int} {z : Nat → Nat → Int} {Λ : Int} (hz : ∀ j k, j < n → k < n → j ≠ k → d j ≠ 0 → d k ≠ 0 → (z j k = 1 ∧ a j < a k) ∨ (z j k = 0 ∧ a k < a j)) (hzz : ∀ k, k < n → z k k = 0)
    (hS : ∀ k, k < n → d k ≠ 0 → zsum (fun j => z j k * d j) n + (if d k = 1 then 1 else 0) = Λ) (hd : ∀ k, k < n → d k = 0 ∨ d k = 1 ∨ d k = -1) (h0 : zsum d n = 0) :
    ∀ t : Int, (Λ = 1 → zsum (fun k => if t < a k then d k else 0) n ≤ 0) ∧ (Λ = 0 → 0 ≤ zsum (fun k => if t < a k then d k else 0) n) := by
  intro t
  have hs : zsum (fun k => if t < a k then d k else 0) n + zsum (fun k => if t < a k then 0 else d k) n = 0 := by
    rw [← zsum_add, ← h0]
    apply zsum_congr
    intro j _
    show ite _ _ _ + ite _ _ _ = _
    by_cases q : t < a j
    · rw [if_pos q, if_pos q]; omega
    · rw [if_neg q, if_neg q]; omega
  by_cases q : ∃ k, k < n ∧ (d k ≠ 0 ∧ a k ≤ t)
  · obtain ⟨k, hk, ⟨p1, p2⟩, hm⟩ := jd_max (P := fun k => d k ≠ 0 ∧ a k ≤ t) (a := a) n q
    have e := zsum_one (f := fun k => if t < a k then 0 else d k) (g := fun j => z j k * d j) (j := k) n hk (fun i hi hik => by
      show ite _ _ _ = z i k * d i
      by_cases w : d i = 0
      · rw [w, Int.mul_zero]; split <;> rfl
      · rcases hz i k hi hk hik w p1 with ⟨c1, c2⟩ | ⟨c1, c2⟩
        · rw [c1, if_neg (by omega), Int.one_mul]
        · rw [c1, Int.zero_mul]
          rcases Int.lt_or_le t (a i) with g | g
          · rw [if_pos g]
          · have := hm i hi ⟨w, g⟩; omega)
    rw [if_neg (by omega), hzz k hk, Int.zero_mul] at e
    have s := hS k hk p1
    rcases hd k hk with w | w | w
    · exact absurd w p1
    · rw [w] at s e; rw [if_pos rfl] at s
      exact ⟨fun _ => by omega, fun _ => by omega⟩
    · rw [w] at s e; rw [if_neg (by decide)] at s
      exact ⟨fun _ => by omega, fun _ => by omega⟩
  · have : zsum (fun k => if t < a k then 0 else d k) n = 0 := zsum_0 n (fun j hj => by
      show ite _ _ _ = _
      by_cases w : t < a j
      · rw [if_pos w]
      · rw [if_neg w]
        exact Classical.byContradiction (fun g => q ⟨j, hj, g, by omega⟩))
    exact ⟨fun _ => by omega, fun _ => by omega⟩
def jd_p (z : Int) : Int := if 0 < z then z else 0
theorem jd_layer {n : Nat} {d a : Nat → Int} {s : Int} (hG : ∀ t : Int, s * zsum (fun k => if t < a k then d k else 0) n ≤ 0) : ∀ (N : Nat) (t : Int), (∀ k, k < n → a k ≤ t + N) → s * zsum (fun k => d k * jd_p (a k - t)) n ≤ 0
  | 0, t, h => by
    rw [zsum_0 n (fun j hj => by
      show d j * jd_p (a j - t) = 0
      have := h j hj
      unfold jd_p; rw [if_neg (by omega), Int.mul_zero]), Int.mul_zero]; omega
  | N + 1, t, h => by
    have e : zsum (fun k => d k * jd_p (a k - t)) n = zsum (fun k => d k * jd_p (a k - (t + 1))) n + zsum (fun k => if t < a k then d k else 0) n := by
      rw [← zsum_add]
      apply zsum_congr
      intro j _
      show d j * jd_p (a j - t) = d j * jd_p (a j - (t + 1)) + ite _ _ _
      unfold jd_p
      by_cases q : t < a j
      · rw [if_pos q, if_pos (by omega)]
        by_cases q2 : 0 < a j - (t + 1)
        · rw [if_pos q2, show a j - t = (a j - (t + 1)) + 1 by omega, Int.mul_add]; omega
        · rw [if_neg q2, show a j - t = 1 by omega]; omega
      · rw [if_neg q, if_neg (by omega), if_neg (by omega)]; omega
    have a1 := jd_layer hG N (t + 1) (fun k hk => by have := h k hk; omega)
    have a2 := hG t
    rw [e, Int.mul_add]; omega
theorem jd_hsum {n : Nat} {d a : Nat → Int} {s M : Int} (hG : ∀ t : Int, s * zsum (fun k => if t < a k then d k else 0) n ≤ 0) (h0 : zsum d n = 0) (hM : ∀ k, k < n → -M < a k ∧ a k < M) : s * zsum (fun k => d k * a k) n ≤ 0 := by
  have e : zsum (fun k => d k * jd_p (a k - -M)) n = zsum (fun k => d k * a k) n := by
    rw [zsum_congr (g := fun k => d k * a k + M * d k) n (fun j hj => by
      have := hM j hj
      show d j * jd_p (a j - -M) = d j * a j + M * d j
      unfold jd_p
      rw [if_pos (by omega), show a j - -M = a j + M by omega, Int.mul_add, Int.mul_comm M]), zsum_add, zsum_mul, h0]
    omega
  rw [← e]
  exact jd_layer hG (M + M).toNat (-M) (fun k hk => by have := hM k hk; omega)
