/-! sides and corners: what the class and the reference look at, in whole numbers -/
theorem mulb {a b M N : Int} (h1 : -M ≤ a) (h2 : a ≤ M) (h3 : -N ≤ b) (h4 : b ≤ N) : -(M * N) ≤ a * b ∧ a * b ≤ M * N := by
  have ha : a.natAbs ≤ M.natAbs := by omega
  have hb : b.natAbs ≤ N.natAbs := by omega
  have hM : (M.natAbs : Int) = M := by omega
  have hN : (N.natAbs : Int) = N := by omega
  have h := Nat.mul_le_mul ha hb
  rw [← Int.natAbs_mul] at h
  have h5 : (M * N) = ((M.natAbs * N.natAbs : Nat) : Int) := by rw [Int.natCast_mul, hM, hN]
  omega
theorem tn_t {ax ay bx bey x y : Int32} (ha : isP ax ay) (hb : isP bx bey) (hc : isP x y) :
    (tn ax ay bx bey x y).toInt = (bx.toInt - ax.toInt) * (y.toInt - ay.toInt) - (bey.toInt - ay.toInt) * (x.toInt - ax.toInt) ∧ -1922 ≤ (tn ax ay bx bey x y).toInt ∧ (tn ax ay bx bey x y).toInt ≤ 1922 := by
  obtain ⟨a1, a2, a3, a4⟩ := ha
  obtain ⟨b1, b2, b3, b4⟩ := hb
  obtain ⟨c1, c2, c3, c4⟩ := hc
  have e1 := tI_sub (a := bx) (b := ax) (by omega) (by omega)
  have e2 := tI_sub (a := y) (b := ay) (by omega) (by omega)
  have e3 := tI_sub (a := bey) (b := ay) (by omega) (by omega)
  have e4 := tI_sub (a := x) (b := ax) (by omega) (by omega)
  have m1 := mulb (a := bx.toInt - ax.toInt) (b := y.toInt - ay.toInt) (M := 31) (N := 31) (by omega) (by omega) (by omega) (by omega)
  have m2 := mulb (a := bey.toInt - ay.toInt) (b := x.toInt - ax.toInt) (M := 31) (N := 31) (by omega) (by omega) (by omega) (by omega)
  have f1 : ((bx - ax) * (y - ay)).toInt = (bx.toInt - ax.toInt) * (y.toInt - ay.toInt) := by rw [tI_mul (by rw [e1, e2]; omega) (by rw [e1, e2]; omega), e1, e2]
  have f2 : ((bey - ay) * (x - ax)).toInt = (bey.toInt - ay.toInt) * (x.toInt - ax.toInt) := by rw [tI_mul (by rw [e3, e4]; omega) (by rw [e3, e4]; omega), e3, e4]
  have g : (tn ax ay bx bey x y).toInt = (bx.toInt - ax.toInt) * (y.toInt - ay.toInt) - (bey.toInt - ay.toInt) * (x.toInt - ax.toInt) := by
    unfold tn; rw [tI_sub (by rw [f1, f2]; omega) (by rw [f1, f2]; omega), f1, f2]
  refine ⟨g, ?_, ?_⟩ <;> rw [g] <;> omega
theorem sgn_mul {ax ay bx bey cx cy dx dy : Int32} (ha : isP ax ay) (hb : isP bx bey) (hc : isP cx cy) (hd : isP dx dy) :
    sgn (tn ax ay bx bey cx cy) * sgn (tn ax ay bx bey dx dy) < 0 ↔ tn ax ay bx bey cx cy * tn ax ay bx bey dx dy < 0 := by
  obtain ⟨-, u1, u2⟩ := tn_t ha hb hc
  obtain ⟨-, v1, v2⟩ := tn_t ha hb hd
  generalize tn ax ay bx bey cx cy = u at u1 u2
  generalize tn ax ay bx bey dx dy = v at v1 v2
  have mb := mulb (a := u.toInt) (b := v.toInt) (M := 1922) (N := 1922) (by omega) (by omega) (by omega) (by omega)
  rw [Int32.lt_iff_toInt_lt (x := u * v), tI_mul (by omega) (by omega), li_0]
  unfold sgn
  by_cases p1 : u ≤ 0
  · rw [if_pos p1]
    by_cases p2 : 0 ≤ u
    · rw [if_pos p2]
      have e : u = 0 := Int32.le_antisymm p1 p2
      subst e
      rw [Int32.zero_mul, li_0, Int.zero_mul]
      exact ⟨fun h => absurd h (by decide), fun h => absurd h (by decide)⟩
    · rw [if_neg p2]
      rw [Int32.le_iff_toInt_le, li_0] at p2
      by_cases q1 : v ≤ 0
      · rw [if_pos q1]
        have q3 := q1
        rw [Int32.le_iff_toInt_le, li_0] at q3
        have := Int.mul_nonneg_of_nonpos_of_nonpos (a := u.toInt) (b := v.toInt) (by omega) q3
        by_cases q2 : 0 ≤ v
        · rw [if_pos q2]; exact ⟨fun h => absurd h (by decide), fun h => by omega⟩
        · rw [if_neg q2]; exact ⟨fun h => absurd h (by decide), fun h => by omega⟩
      · rw [if_neg q1]
        rw [Int32.le_iff_toInt_le, li_0] at q1
        have := Int.mul_neg_of_neg_of_pos (a := u.toInt) (b := v.toInt) (by omega) (by omega)
        exact ⟨fun _ => this, fun _ => by decide⟩
  · rw [if_neg p1]
    rw [Int32.le_iff_toInt_le, li_0] at p1
    by_cases q1 : v ≤ 0
    · rw [if_pos q1]
      by_cases q2 : 0 ≤ v
      · rw [if_pos q2]
        have e : v = 0 := Int32.le_antisymm q1 q2
        subst e
        rw [Int32.mul_zero, li_0, Int.mul_zero]
        exact ⟨fun h => absurd h (by decide), fun h => absurd h (by decide)⟩
      · rw [if_neg q2]
        rw [Int32.le_iff_toInt_le, li_0] at q2
        have := Int.mul_neg_of_pos_of_neg (a := u.toInt) (b := v.toInt) (by omega) (by omega)
        exact ⟨fun _ => this, fun _ => by decide⟩
    · rw [if_neg q1]
      rw [Int32.le_iff_toInt_le, li_0] at q1
      have := Int.mul_pos (a := u.toInt) (b := v.toInt) (by omega) (by omega)
      exact ⟨fun h => absurd h (by decide), fun h => by omega⟩
theorem scl {p q a b : Int} (h : p * a = q * b) (hb : 0 < b) (hba : b ≤ a) : (0 ≤ q → 0 ≤ p ∧ p ≤ q) ∧ (q ≤ 0 → q ≤ p ∧ p ≤ 0) := by
  have ha : 0 < a := by omega
  constructor
  · intro hq
    have h1 : 0 * a ≤ p * a := by rw [h, Int.zero_mul]; exact Int.mul_nonneg hq (by omega)
    have h2 : p * a ≤ q * a := by rw [h]; exact Int.mul_le_mul_of_nonneg_left hba hq
    exact ⟨Int.le_of_mul_le_mul_right h1 ha, Int.le_of_mul_le_mul_right h2 ha⟩
  · intro hq
    have h1 : p * a ≤ 0 * a := by
      rw [h, Int.zero_mul]
      have := Int.mul_nonneg (a := -q) (b := b) (by omega) (by omega)
      rw [Int.neg_mul] at this; omega
    have h2 : q * a ≤ p * a := by
      rw [h]
      have := Int.mul_le_mul_of_nonneg_left (a := b) (b := a) (c := -q) hba (by omega)
      rw [Int.neg_mul, Int.neg_mul] at this; omega
    exact ⟨Int.le_of_mul_le_mul_right h2 ha, Int.le_of_mul_le_mul_right h1 ha⟩
/-- two arrows from one point, along one line: they point the same way, if one lies in the other -/
theorem arrows {ux uy wx wy : Int} (hu : ¬ (ux = 0 ∧ uy = 0)) (hw : ¬ (wx = 0 ∧ wy = 0)) (hc : ux * wy = uy * wx) :
    0 < ux * wx + uy * wy ↔ ((min 0 ux ≤ wx ∧ wx ≤ max 0 ux ∧ min 0 uy ≤ wy ∧ wy ≤ max 0 uy) ∨ (min 0 wx ≤ ux ∧ ux ≤ max 0 wx ∧ min 0 wy ≤ uy ∧ uy ≤ max 0 wy)) := by
  have key : ∀ {ux uy wx wy : Int}, 0 < ux → 0 < wx → wx ≤ ux → ux * wy = uy * wx → min 0 ux ≤ wx ∧ wx ≤ max 0 ux ∧ min 0 uy ≤ wy ∧ wy ≤ max 0 uy := by
    intro ux uy wx wy h1 h2 h3 h4
    have h5 := scl (p := wy) (q := uy) (a := ux) (b := wx) (by rw [Int.mul_comm]; exact h4) h2 h3
    rcases Int.le_total 0 uy with q | q
    · have := h5.1 q; omega
    · have := h5.2 q; omega
  have keyn : ∀ {ux uy wx wy : Int}, ux < 0 → wx < 0 → ux ≤ wx → ux * wy = uy * wx → min 0 ux ≤ wx ∧ wx ≤ max 0 ux ∧ min 0 uy ≤ wy ∧ wy ≤ max 0 uy := by
    intro ux uy wx wy h1 h2 h3 h4
    have h5 := scl (p := wy) (q := uy) (a := -ux) (b := -wx) (by rw [Int.mul_neg, Int.mul_neg, Int.mul_comm, h4]) (by omega) (by omega)
    rcases Int.le_total 0 uy with q | q
    · have := h5.1 q; omega
    · have := h5.2 q; omega
  have sw : ∀ {a b : Int}, 0 < a * b → (0 < a ∧ 0 < b) ∨ (a < 0 ∧ b < 0) := by
    intro a b h
    rcases Int.lt_trichotomy a 0 with q | q | q
    · right; refine ⟨q, ?_⟩
      rcases Int.lt_trichotomy b 0 with z | z | z
      · exact z
      · rw [z, Int.mul_zero] at h; omega
      · have := Int.mul_neg_of_neg_of_pos q z; omega
    · rw [q, Int.zero_mul] at h; omega
    · left; refine ⟨q, ?_⟩
      rcases Int.lt_trichotomy b 0 with z | z | z
      · have := Int.mul_neg_of_pos_of_neg q z; omega
      · rw [z, Int.mul_zero] at h; omega
      · exact z
  constructor
  · intro hd
    by_cases h0 : ux = 0
    · have hy : uy ≠ 0 := fun q => hu ⟨h0, q⟩
      rw [h0, Int.zero_mul] at hc
      have hx : wx = 0 := by
        rcases Int.mul_eq_zero.mp hc.symm with q | q
        · exact absurd q hy
        · exact q
      rw [h0, hx, Int.zero_mul, Int.zero_add] at hd
      rcases sw hd with ⟨q1, q2⟩ | ⟨q1, q2⟩ <;> rw [h0, hx] <;> omega
    · have hx : wx ≠ 0 := by
        intro q
        rw [q, Int.mul_zero] at hc
        rcases Int.mul_eq_zero.mp hc with z | z
        · exact h0 z
        · exact hw ⟨q, z⟩
      have e : (ux * wx + uy * wy) * (ux * wx) = (ux * ux + uy * uy) * (wx * wx) := by
        have : uy * wy * (ux * wx) = uy * uy * (wx * wx) := by
          calc uy * wy * (ux * wx) = (ux * wy) * (uy * wx) := by ac_rfl
            _ = (uy * wx) * (uy * wx) := by rw [hc]
            _ = uy * uy * (wx * wx) := by ac_rfl
        rw [Int.add_mul, this, Int.add_mul]
        congr 1
        ac_rfl
      have hp : 0 < (ux * ux + uy * uy) * (wx * wx) := by
        apply Int.mul_pos
        · have a1 : 0 < ux * ux := by rcases Int.lt_or_gt_of_ne h0 with q | q; exact Int.mul_pos_of_neg_of_neg q q; exact Int.mul_pos q q
          have a2 : 0 ≤ uy * uy := by rcases Int.le_total 0 uy with q | q; exact Int.mul_nonneg q q; exact Int.mul_nonneg_of_nonpos_of_nonpos q q
          omega
        · rcases Int.lt_or_gt_of_ne hx with q | q
          · exact Int.mul_pos_of_neg_of_neg q q
          · exact Int.mul_pos q q
      rw [← e] at hp
      rcases sw hp with ⟨-, q⟩ | ⟨q, -⟩
      · rcases sw q with ⟨q1, q2⟩ | ⟨q1, q2⟩
        · rcases Int.le_total wx ux with z | z
          · exact Or.inl (key q1 q2 z hc)
          · exact Or.inr (key q2 q1 z (by rw [Int.mul_comm wx, Int.mul_comm wy]; exact hc.symm))
        · rcases Int.le_total ux wx with z | z
          · exact Or.inl (keyn q1 q2 z hc)
          · exact Or.inr (keyn q2 q1 z (by rw [Int.mul_comm wx, Int.mul_comm wy]; exact hc.symm))
      · omega
  · have pos : ∀ {ux uy wx wy : Int}, ¬ (wx = 0 ∧ wy = 0) → min 0 ux ≤ wx ∧ wx ≤ max 0 ux ∧ min 0 uy ≤ wy ∧ wy ≤ max 0 uy → 0 < ux * wx + uy * wy := by
      intro ux uy wx wy hw h
      have nn : ∀ {a b : Int}, min 0 a ≤ b → b ≤ max 0 a → 0 ≤ a * b ∧ (b ≠ 0 → 0 < a * b) := by
        intro a b g1 g2
        rcases Int.lt_trichotomy a 0 with q | q | q
        · refine ⟨Int.mul_nonneg_of_nonpos_of_nonpos (by omega) (by omega), fun z => Int.mul_pos_of_neg_of_neg q (by omega)⟩
        · have : b = 0 := by omega
          rw [this, Int.mul_zero]; exact ⟨Int.le_refl _, fun z => absurd rfl z⟩
        · refine ⟨Int.mul_nonneg (by omega) (by omega), fun z => Int.mul_pos q (by omega)⟩
      have a1 := nn h.1 h.2.1
      have a2 := nn h.2.2.1 h.2.2.2
      by_cases z : wx = 0
      · have := a2.2 (fun q => hw ⟨z, q⟩); omega
      · have := a1.2 z; omega
    rintro (h | h)
    · exact pos hw h
    · have := pos (ux := wx) (uy := wy) hu h
      rw [Int.mul_comm wx, Int.mul_comm wy] at this; exact this
theorem onS_t {ax ay bx bey x y : Int32} (ha : isP ax ay) (hb : isP bx bey) (hc : isP x y) : onS ax ay bx bey x y ↔
    ((bx.toInt - ax.toInt) * (y.toInt - ay.toInt) - (bey.toInt - ay.toInt) * (x.toInt - ax.toInt) = 0 ∧ min ax.toInt bx.toInt ≤ x.toInt ∧ x.toInt ≤ max ax.toInt bx.toInt ∧ min ay.toInt bey.toInt ≤ y.toInt ∧ y.toInt ≤ max ay.toInt bey.toInt) := by
  unfold onS
  rw [← Int32.toInt_inj (y := 0), (tn_t ha hb hc).1, li_0]
  simp only [Int32.lt_iff_toInt_lt, mn_t, mx_t, Int.not_lt]
theorem fld_t {n k j : Nat} {X Y : Nat → Int32} (h1 : isP (X k) (Y k)) (h2 : isP (X j) (Y j)) (h3 : isP (X (nxt n j)) (Y (nxt n j))) : fld n X Y k j ↔
    (((X k).toInt - (X j).toInt) * ((Y (nxt n j)).toInt - (Y j).toInt) = ((Y k).toInt - (Y j).toInt) * ((X (nxt n j)).toInt - (X j).toInt) ∧
      0 < ((X k).toInt - (X j).toInt) * ((X (nxt n j)).toInt - (X j).toInt) + ((Y k).toInt - (Y j).toInt) * ((Y (nxt n j)).toInt - (Y j).toInt)) := by
  unfold fld
  obtain ⟨a1, a2, a3, a4⟩ := h1
  obtain ⟨b1, b2, b3, b4⟩ := h2
  obtain ⟨c1, c2, c3, c4⟩ := h3
  generalize X (nxt n j) = xe at c1 c2
  generalize Y (nxt n j) = ye at c3 c4
  have e1 := tI_sub (a := X k) (b := X j) (by omega) (by omega)
  have e2 := tI_sub (a := ye) (b := Y j) (by omega) (by omega)
  have e3 := tI_sub (a := Y k) (b := Y j) (by omega) (by omega)
  have e4 := tI_sub (a := xe) (b := X j) (by omega) (by omega)
  have m1 := mulb (a := (X k).toInt - (X j).toInt) (b := ye.toInt - (Y j).toInt) (M := 31) (N := 31) (by omega) (by omega) (by omega) (by omega)
  have m2 := mulb (a := (Y k).toInt - (Y j).toInt) (b := xe.toInt - (X j).toInt) (M := 31) (N := 31) (by omega) (by omega) (by omega) (by omega)
  have m3 := mulb (a := (X k).toInt - (X j).toInt) (b := xe.toInt - (X j).toInt) (M := 31) (N := 31) (by omega) (by omega) (by omega) (by omega)
  have m4 := mulb (a := (Y k).toInt - (Y j).toInt) (b := ye.toInt - (Y j).toInt) (M := 31) (N := 31) (by omega) (by omega) (by omega) (by omega)
  have f1 : ((X k - X j) * (ye - Y j)).toInt = ((X k).toInt - (X j).toInt) * (ye.toInt - (Y j).toInt) := by rw [tI_mul (by rw [e1, e2]; omega) (by rw [e1, e2]; omega), e1, e2]
  have f2 : ((Y k - Y j) * (xe - X j)).toInt = ((Y k).toInt - (Y j).toInt) * (xe.toInt - (X j).toInt) := by rw [tI_mul (by rw [e3, e4]; omega) (by rw [e3, e4]; omega), e3, e4]
  have f3 : ((X k - X j) * (xe - X j)).toInt = ((X k).toInt - (X j).toInt) * (xe.toInt - (X j).toInt) := by rw [tI_mul (by rw [e1, e4]; omega) (by rw [e1, e4]; omega), e1, e4]
  have f4 : ((Y k - Y j) * (ye - Y j)).toInt = ((Y k).toInt - (Y j).toInt) * (ye.toInt - (Y j).toInt) := by rw [tI_mul (by rw [e3, e2]; omega) (by rw [e3, e2]; omega), e3, e2]
  rw [← Int32.toInt_inj, f1, f2, Int32.le_iff_toInt_le, tI_add (by rw [f3, f4]; omega) (by rw [f3, f4]; omega), f3, f4, li_0, Int.not_le]
theorem fld_iff {n k : Nat} {X Y : Nat → Int32} (hk : k < n) (hj : nxt n k < n) (hp : ∀ z, z < n → isP (X z) (Y z)) (hm : ∀ z, z < n → ¬ mere n X Y z) :
    fld n X Y k (nxt n k) ↔ sdO n X Y k (X (nxt n (nxt n k))) (Y (nxt n (nxt n k))) ∨ sdO n X Y (nxt n k) (X k) (Y k) := by
  have he := nxt_lt hj
  unfold sdO
  rw [fld_t (hp k hk) (hp _ hj) (hp _ he), onS_t (hp k hk) (hp _ hj) (hp _ he), onS_t (hp _ hj) (hp _ he) (hp k hk)]
  have hu : ¬ ((X k).toInt - (X (nxt n k)).toInt = 0 ∧ (Y k).toInt - (Y (nxt n k)).toInt = 0) := fun q => hm k hk ⟨Int32.toInt_inj.mp (by omega), Int32.toInt_inj.mp (by omega)⟩
  have hw : ¬ ((X (nxt n (nxt n k))).toInt - (X (nxt n k)).toInt = 0 ∧ (Y (nxt n (nxt n k))).toInt - (Y (nxt n k)).toInt = 0) := fun q => hm _ hj ⟨Int32.toInt_inj.mp (by omega), Int32.toInt_inj.mp (by omega)⟩
  generalize (X k).toInt = xk at *
  generalize (Y k).toInt = yk at *
  generalize (X (nxt n k)).toInt = xj at *
  generalize (Y (nxt n k)).toInt = yj at *
  generalize (X (nxt n (nxt n k))).toInt = xe at *
  generalize (Y (nxt n (nxt n k))).toInt = ye at *
  have i1 : (xj - xk) * (ye - yk) - (yj - yk) * (xe - xk) = (yk - yj) * (xe - xj) - (xk - xj) * (ye - yj) := by grind
  have i2 : (xe - xj) * (yk - yj) - (ye - yj) * (xk - xj) = (yk - yj) * (xe - xj) - (xk - xj) * (ye - yj) := by grind
  rw [i1, i2]
  by_cases hc : (xk - xj) * (ye - yj) = (yk - yj) * (xe - xj)
  · have := arrows hu hw hc
    constructor
    · rintro ⟨-, h⟩
      rcases this.mp h with q | q
      · left; refine ⟨by omega, ?_⟩; omega
      · right; refine ⟨by omega, ?_⟩; omega
    · rintro (⟨-, h⟩ | ⟨-, h⟩)
      · exact ⟨hc, this.mpr (Or.inl (by omega))⟩
      · exact ⟨hc, this.mpr (Or.inr (by omega))⟩
  · constructor
    · rintro ⟨h, -⟩; exact absurd h hc
    · rintro (⟨h, -⟩ | ⟨h, -⟩) <;> exact absurd (show _ = _ by omega) hc
theorem tch_sym {n k j : Nat} {X Y : Nat → Int32} (h : tch n X Y k j) : tch n X Y j k := by
  unfold tch at h ⊢
  rcases h with h | h | h | h | ⟨h1, h2⟩
  · exact Or.inr (Or.inr (Or.inl h))
  · exact Or.inr (Or.inr (Or.inr (Or.inl h)))
  · exact Or.inl h
  · exact Or.inr (Or.inl h)
  · exact Or.inr (Or.inr (Or.inr (Or.inr ⟨h2, h1⟩)))
theorem stn_iff {n : Nat} {X Y : Nat → Int32} (hn : 3 ≤ n) : stn n X Y ↔ (∀ z, z < n → isP (X z) (Y z) ∧ ¬ mere n X Y z) ∧ (∀ z, z < n → ¬ fld n X Y z (nxt n z)) ∧ ∀ z, z < n → ∀ w, w < n → ¬ w = z → ¬ w = nxt n z → ¬ z = nxt n w → ¬ tch n X Y z w := by
  unfold stn
  constructor
  · rintro ⟨h1, h2⟩
    refine ⟨h1, fun z hz hf => ?_, fun z hz w hw a b d ht => ?_⟩
    · by_cases q : z + 1 < n
      · have e : nxt n z = z + 1 := by unfold nxt; rw [if_pos q]
        rw [e] at hf
        exact h2 z hz (z + 1) (by omega) q (Or.inl ⟨e, hf⟩)
      · have e : nxt n z = 0 := by unfold nxt; rw [if_neg q]
        have e0 : nxt n 0 = 1 := by unfold nxt; rw [if_pos (by omega)]
        rw [e] at hf
        exact h2 0 (by omega) z (by omega) hz (Or.inr (Or.inl ⟨by omega, e, hf⟩))
    · rcases Nat.lt_or_gt_of_ne a with q | q
      · exact h2 w hw z q hz (Or.inr (Or.inr ⟨fun z => d z.symm, fun z => b z.symm, tch_sym ht⟩))
      · exact h2 z hz w q hw (Or.inr (Or.inr ⟨fun z => b z.symm, fun z => d z.symm, ht⟩))
  · rintro ⟨h1, h2, h3⟩
    refine ⟨h1, fun z hz w hzw hw hc => ?_⟩
    rcases hc with ⟨a, b⟩ | ⟨-, a, b⟩ | ⟨a, b, d⟩
    · exact h2 z hz (a ▸ b)
    · exact h2 w hw (a ▸ b)
    · exact h3 z hz w hw (by omega) (fun q => a q.symm) (fun q => b q.symm) d
