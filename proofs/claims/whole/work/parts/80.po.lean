/-! posts of a plot: the class's rows are the reference's answers -/
theorem po_z {w z g : Int} (hu : w ≠ 0) (hg : 0 < g) (h1 : min 0 (g * w) ≤ w * z) (h2 : w * z ≤ max 0 (g * w)) : 0 ≤ z ∧ z ≤ g := by
  rcases Int.lt_or_gt_of_ne hu with q | q
  · have a := jd_mpn hg q
    constructor
    · rcases Int.lt_or_le z 0 with e | e
      · have := jd_mnn q e; omega
      · exact e
    · rcases Int.lt_or_le g z with e | e
      · have := jd_mnp q (show 0 < z - g by omega)
        rw [Int.mul_sub, Int.mul_comm w g] at this; omega
      · exact e
  · have a := Int.mul_pos hg q
    constructor
    · rcases Int.lt_or_le z 0 with e | e
      · have := jd_mpn q e; omega
      · exact e
    · rcases Int.lt_or_le g z with e | e
      · have := Int.mul_pos q (show 0 < z - g by omega)
        rw [Int.mul_sub, Int.mul_comm w g] at this; omega
      · exact e
theorem po_bz {w z g : Int} (hz : 0 ≤ z) (hg : z ≤ g) : min 0 (g * w) ≤ w * z ∧ w * z ≤ max 0 (g * w) := by
  rcases Int.le_total 0 w with q | q
  · have a := Int.mul_nonneg q hz
    have b := Int.mul_le_mul_of_nonneg_left hg q
    rw [Int.mul_comm w g] at b; omega
  · have a := Int.mul_nonneg (a := -w) (by omega) hz
    have b := Int.mul_le_mul_of_nonneg_left hg (show 0 ≤ -w by omega)
    rw [Int.neg_mul] at a; rw [Int.neg_mul, Int.neg_mul, Int.mul_comm w g] at b; omega
theorem po_line {a b p q : Int} {g : Nat} (hg : g = Nat.gcd a.natAbs b.natAbs) (h0 : 0 < g) (h : a * q = b * p) : ∃ w v z : Int, a = g * w ∧ b = g * v ∧ a / g = w ∧ b / g = v ∧ p = w * z ∧ q = v * z ∧ ¬ (w = 0 ∧ v = 0) := by
  obtain ⟨w, ew⟩ : (g : Int) ∣ a := Int.ofNat_dvd_left.mpr (by rw [hg]; exact Nat.gcd_dvd_left _ _)
  obtain ⟨v, ev⟩ : (g : Int) ∣ b := Int.ofNat_dvd_left.mpr (by rw [hg]; exact Nat.gcd_dvd_right _ _)
  have hw : a / g = w := by rw [ew, Int.mul_ediv_cancel_left _ (by omega)]
  have hv : b / g = v := by rw [ev, Int.mul_ediv_cancel_left _ (by omega)]
  have co : Nat.Coprime w.natAbs v.natAbs := by
    have c := Nat.coprime_div_gcd_div_gcd (m := a.natAbs) (n := b.natAbs) (by rw [← hg]; exact h0)
    rw [← hg, ew, ev, Int.natAbs_mul, Int.natAbs_mul, Int.natAbs_natCast, Nat.mul_div_cancel_left _ h0, Nat.mul_div_cancel_left _ h0] at c
    exact c
  have hq : w * q = v * p := by
    rw [ew, ev, Int.mul_assoc, Int.mul_assoc] at h
    exact Int.eq_of_mul_eq_mul_left (by omega) h
  have nz : ¬ (w = 0 ∧ v = 0) := by
    rintro ⟨e1, e2⟩
    rw [e1, e2] at co
    exact absurd co (by decide)
  by_cases e : w = 0
  · have hv1 : v.natAbs = 1 := by rw [e] at co; exact (Nat.coprime_zero_left _).mp co
    have hp : p = 0 := by
      rw [e, Int.zero_mul] at hq
      rcases Int.mul_eq_zero.mp hq.symm with z | z
      · rw [z] at hv1; exact absurd hv1 (by decide)
      · exact z
    refine ⟨w, v, v * q, ew, ev, hw, hv, by rw [e, Int.zero_mul]; exact hp, ?_, nz⟩
    have : v * v = 1 := by
      rcases Int.natAbs_eq v with z | z <;> rw [hv1] at z <;> rw [z] <;> decide
    rw [← Int.mul_assoc, this, Int.one_mul]
  · obtain ⟨z, ez⟩ : w ∣ p := by
      apply Int.natAbs_dvd_natAbs.mp
      apply Nat.Coprime.dvd_of_dvd_mul_left co
      rw [← Int.natAbs_mul, ← hq, Int.natAbs_mul]
      exact Nat.dvd_mul_right _ _
    refine ⟨w, v, z, ew, ev, hw, hv, ez, ?_, nz⟩
    apply Int.eq_of_mul_eq_mul_left e
    rw [hq, ez, ← Int.mul_assoc, ← Int.mul_assoc, Int.mul_comm v w]
theorem po_mk {a b : Int32} {g z : Nat} (ha : 0 ≤ a.toInt ∧ a.toInt ≤ 31) (hb : 0 ≤ b.toInt ∧ b.toInt ≤ 31) (hg : 0 < g) (hg2 : g ≤ 31) (hd : (g : Int) ∣ (b.toInt - a.toInt)) (hz : z ≤ g) : (a + (b - a) / nI g * nI z).toInt = a.toInt + (b.toInt - a.toInt) / g * z := by
  have e1 : (b - a).toInt = b.toInt - a.toInt := tI_sub (by omega) (by omega)
  have e2 : (nI g).toInt = g := nI_toInt (by omega)
  have e6 : (nI z).toInt = z := nI_toInt (by omega)
  have e3 : ((b - a) / nI g).toInt = (b.toInt - a.toInt) / g := by
    rw [Int32.toInt_div_of_ne_left _ _ (fun q => by rw [q] at e1; have : (Int32.minValue).toInt = -2147483648 := by decide
                                                    omega), e1, e2, Int.tdiv_eq_ediv_of_dvd hd]
  obtain ⟨w, hu⟩ := hd
  have e4 : (b.toInt - a.toInt) / g = w := by rw [hu, Int.mul_ediv_cancel_left _ (by omega)]
  have eg : w.natAbs * g = (b.toInt - a.toInt).natAbs := by rw [hu, Int.natAbs_mul, Int.natAbs_natCast, Nat.mul_comm]
  have b1 : (w * (z : Int)).natAbs ≤ 31 := by
    rw [Int.natAbs_mul, Int.natAbs_natCast]
    have : w.natAbs * z ≤ w.natAbs * g := Nat.mul_le_mul_left _ hz
    omega
  have e5 : ((b - a) / nI g * nI z).toInt = w * z := by rw [tI_mul (by rw [e3, e4, e6]; omega) (by rw [e3, e4, e6]; omega), e3, e4, e6]
  rw [tI_add (by rw [e5]; omega) (by rw [e5]; omega), e5, e4]
section PO
variable {n : Nat} {X Y : Nat → Int32}
theorem mkg_e {k : Nat} (h1 : isP (X k) (Y k)) (h2 : isP (X (nxt n k)) (Y (nxt n k))) : mkg n X Y k = Nat.gcd ((X (nxt n k)).toInt - (X k).toInt).natAbs ((Y (nxt n k)).toInt - (Y k).toInt).natAbs := by
  unfold isP at h1 h2
  unfold mkg mka
  rw [tI_sub (by omega) (by omega), tI_sub (by omega) (by omega)]
theorem mkg_pos {k : Nat} (h1 : isP (X k) (Y k)) (h2 : isP (X (nxt n k)) (Y (nxt n k))) (hm : ¬ mere n X Y k) : 0 < mkg n X Y k := by
  rw [mkg_e h1 h2]
  apply Nat.pos_of_ne_zero
  intro e
  have a := Nat.eq_zero_of_gcd_eq_zero_left e
  have b := Nat.eq_zero_of_gcd_eq_zero_right e
  exact hm ⟨Int32.toInt_inj.mp (by omega), Int32.toInt_inj.mp (by omega)⟩
theorem mk_xy {k z : Nat} (h1 : isP (X k) (Y k)) (h2 : isP (X (nxt n k)) (Y (nxt n k))) (hm : ¬ mere n X Y k) (hz : z ≤ mkg n X Y k) : (mkx n X Y k z).toInt = (X k).toInt + ((X (nxt n k)).toInt - (X k).toInt) / (mkg n X Y k : Nat) * z ∧ (mky n X Y k z).toInt = (Y k).toInt + ((Y (nxt n k)).toInt - (Y k).toInt) / (mkg n X Y k : Nat) * z := by
  have hp := mkg_pos h1 h2 hm
  have h31 := mkg_b h1 h2
  have e := mkg_e h1 h2
  unfold isP at h1 h2
  exact ⟨po_mk ⟨h1.1, h1.2.1⟩ ⟨h2.1, h2.2.1⟩ hp h31 (Int.ofNat_dvd_left.mpr (by rw [e]; exact Nat.gcd_dvd_left _ _)) hz,
    po_mk ⟨h1.2.2.1, h1.2.2.2⟩ ⟨h2.2.2.1, h2.2.2.2⟩ hp h31 (Int.ofNat_dvd_left.mpr (by rw [e]; exact Nat.gcd_dvd_right _ _)) hz⟩
/-- a post lies on a side just if it is one of its parts' ends -/
theorem po_on {k : Nat} {x y : Int32} (h1 : isP (X k) (Y k)) (h2 : isP (X (nxt n k)) (Y (nxt n k))) (hm : ¬ mere n X Y k) (hp : isP x y) : sdO n X Y k x y ↔ ∃ z, z ≤ mkg n X Y k ∧ mkx n X Y k z = x ∧ mky n X Y k z = y := by
  have hg := mkg_pos h1 h2 hm
  have eg := mkg_e h1 h2
  unfold sdO
  rw [onS_t h1 h2 hp]
  constructor
  · rintro ⟨c, b1, b2, b3, b4⟩
    obtain ⟨w, v, z, ew, ev, hw, hv, ep, eq, nz⟩ := po_line (a := (X (nxt n k)).toInt - (X k).toInt) (b := (Y (nxt n k)).toInt - (Y k).toInt) (p := x.toInt - (X k).toInt) (q := y.toInt - (Y k).toInt) eg hg (by omega)
    have hz : 0 ≤ z ∧ z ≤ (mkg n X Y k : Nat) := by
      by_cases e : w = 0
      · exact po_z (w := v) (fun q => nz ⟨e, q⟩) (by omega) (by omega) (by omega)
      · exact po_z (w := w) e (by omega) (by omega) (by omega)
    have ezt : ((z.toNat : Nat) : Int) = z := by omega
    have t := mk_xy (z := z.toNat) h1 h2 hm (by omega)
    refine ⟨z.toNat, by omega, Int32.toInt_inj.mp ?_, Int32.toInt_inj.mp ?_⟩
    · rw [t.1, hw, ezt]; omega
    · rw [t.2, hv, ezt]; omega
  · rintro ⟨z, hz, e1, e2⟩
    have t := mk_xy (z := z) h1 h2 hm hz
    rw [e1, e2] at t
    obtain ⟨w, ew⟩ : (mkg n X Y k : Int) ∣ ((X (nxt n k)).toInt - (X k).toInt) := Int.ofNat_dvd_left.mpr (by rw [eg]; exact Nat.gcd_dvd_left _ _)
    obtain ⟨v, ev⟩ : (mkg n X Y k : Int) ∣ ((Y (nxt n k)).toInt - (Y k).toInt) := Int.ofNat_dvd_left.mpr (by rw [eg]; exact Nat.gcd_dvd_right _ _)
    have hw : ((X (nxt n k)).toInt - (X k).toInt) / (mkg n X Y k : Nat) = w := by rw [ew, Int.mul_ediv_cancel_left _ (by omega)]
    have hv : ((Y (nxt n k)).toInt - (Y k).toInt) / (mkg n X Y k : Nat) = v := by rw [ev, Int.mul_ediv_cancel_left _ (by omega)]
    rw [hw, hv] at t
    have p1 := po_bz (w := w) (z := (z : Int)) (g := (mkg n X Y k : Nat)) (by omega) (by omega)
    have p2 := po_bz (w := v) (z := (z : Int)) (g := (mkg n X Y k : Nat)) (by omega) (by omega)
    refine ⟨?_, by omega, by omega, by omega, by omega⟩
    rw [show y.toInt - (Y k).toInt = v * z by omega, show x.toInt - (X k).toInt = w * z by omega, ew, ev]
    generalize ((mkg n X Y k : Nat) : Int) = g
    generalize (z : Int) = zz
    grind
theorem po_mks (hn : 3 ≤ n) (hp : ∀ z, z < n → isP (X z) (Y z) ∧ ¬ mere n X Y z) {x y : Nat} (hx : x < 32) (hy : y < 32) : (∃ k, k < n ∧ MK n X Y k y x) ↔ ∃ k, k < n ∧ sdO n X Y k (nI x) (nI y) := by
  have hq : isP (nI x) (nI y) := by unfold isP; rw [nI_toInt (by omega), nI_toInt (by omega)]; omega
  constructor
  · rintro ⟨k, hk, z, hz, e1, e2⟩
    exact ⟨k, hk, (po_on (hp k hk).1 (hp _ (nxt_lt hk)).1 (hp k hk).2 hq).mpr ⟨z, by omega, e1, e2⟩⟩
  · rintro ⟨k, hk, h⟩
    obtain ⟨z, hz, e1, e2⟩ := (po_on (hp k hk).1 (hp _ (nxt_lt hk)).1 (hp k hk).2 hq).mp h
    by_cases q : z < mkg n X Y k
    · exact ⟨k, hk, z, q, e1, e2⟩
    · have hk2 := nxt_lt hk
      have hg := mkg_pos (hp k hk).1 (hp _ hk2).1 (hp k hk).2
      have eg := mkg_e (hp k hk).1 (hp _ hk2).1
      have t := mk_xy (z := z) (hp k hk).1 (hp _ hk2).1 (hp k hk).2 hz
      have dx : (mkg n X Y k : Int) ∣ ((X (nxt n k)).toInt - (X k).toInt) := Int.ofNat_dvd_left.mpr (by rw [eg]; exact Nat.gcd_dvd_left _ _)
      have dy : (mkg n X Y k : Int) ∣ ((Y (nxt n k)).toInt - (Y k).toInt) := Int.ofNat_dvd_left.mpr (by rw [eg]; exact Nat.gcd_dvd_right _ _)
      have ez : z = mkg n X Y k := by omega
      rw [e1, e2, ez, Int.ediv_mul_cancel dx, Int.ediv_mul_cancel dy] at t
      have t0 := mk_xy (k := nxt n k) (z := 0) (hp _ hk2).1 (hp _ (nxt_lt hk2)).1 (hp _ hk2).2 (Nat.zero_le _)
      refine ⟨nxt n k, hk2, 0, mkg_pos (hp _ hk2).1 (hp _ (nxt_lt hk2)).1 (hp _ hk2).2, Int32.toInt_inj.mp ?_, Int32.toInt_inj.mp ?_⟩
      · rw [t0.1, t.1]; omega
      · rw [t0.2, t.2]; omega
theorem po_flp {ax ay bx bey : Int32} (h1 : isP ax ay) (h2 : isP bx bey) (hl : ay.toInt ≤ bey.toInt) {y x : Nat} : flp ax ay bx bey (flr ay bey) y x ↔ (ay.toInt ≤ y ∧ (y : Int) < bey.toInt ∧ (ax.toInt - bx.toInt) * ((y : Int) - ay.toInt) < (ax.toInt - (x : Int)) * (bey.toInt - ay.toInt)) := by
  have er : ((flr ay bey : Nat) : Int) = bey.toInt - ay.toInt := by unfold flr; omega
  unfold flp
  constructor
  · rintro ⟨w, hw, e, hx⟩
    have t := (flw_t h1 h2 hw).1
    rw [t] at hx
    have hR : (0 : Int) < (flr ay bey : Nat) := by omega
    have := (Int.ediv_lt_iff_lt_mul (a := (ax.toInt - bx.toInt) * w) (b := ax.toInt - x) hR).mp (by omega)
    rw [er] at this
    refine ⟨by omega, by omega, ?_⟩
    rw [show (y : Int) - ay.toInt = w by omega]; exact this
  · rintro ⟨a, b, c⟩
    have hw : ((y : Int) - ay.toInt).toNat < flr ay bey := by omega
    have ew : ((((y : Int) - ay.toInt).toNat : Nat) : Int) = (y : Int) - ay.toInt := by omega
    refine ⟨((y : Int) - ay.toInt).toNat, hw, by omega, ?_⟩
    have t := (flw_t h1 h2 hw).1
    rw [t, ew]
    have hR : (0 : Int) < (flr ay bey : Nat) := by omega
    have := (Int.ediv_lt_iff_lt_mul (a := (ax.toInt - bx.toInt) * ((y : Int) - ay.toInt)) (b := ax.toInt - x) hR).mpr (by rw [er]; exact c)
    omega
theorem po_fl {k : Nat} (h1 : isP (X k) (Y k)) (h2 : isP (X (nxt n k)) (Y (nxt n k))) {x y : Nat} (hx : x < 32) (hy : y < 32) : FLs n X Y k y x ↔ crs n X Y (nI x) (nI y) k := by
  have hq : isP (nI x) (nI y) := by unfold isP; rw [nI_toInt (by omega), nI_toInt (by omega)]; omega
  have tn := (tn_t h1 h2 hq).1
  rw [nI_toInt (by omega), nI_toInt (by omega)] at tn
  unfold FLs crs sdT
  rw [tn, nI_toInt (show y < 2 ^ 31 by omega)]
  by_cases q : (Y k).toInt < (Y (nxt n k)).toInt
  · rw [po_flp h1 h2 (by omega)]
    have e : ((X k).toInt - (X (nxt n k)).toInt) * ((y : Int) - (Y k).toInt) < ((X k).toInt - (x : Int)) * ((Y (nxt n k)).toInt - (Y k).toInt) ↔ 0 < ((X (nxt n k)).toInt - (X k).toInt) * ((y : Int) - (Y k).toInt) - ((Y (nxt n k)).toInt - (Y k).toInt) * ((x : Int) - (X k).toInt) := by
      have : ((X (nxt n k)).toInt - (X k).toInt) * ((y : Int) - (Y k).toInt) - ((Y (nxt n k)).toInt - (Y k).toInt) * ((x : Int) - (X k).toInt) = ((X k).toInt - (x : Int)) * ((Y (nxt n k)).toInt - (Y k).toInt) - ((X k).toInt - (X (nxt n k)).toInt) * ((y : Int) - (Y k).toInt) := by grind
      omega
    rw [e]
    constructor
    · rintro (⟨_, a⟩ | ⟨a, _⟩)
      · exact Or.inl a
      · exact absurd q a
    · rintro (a | a)
      · exact Or.inl ⟨q, a⟩
      · omega
  · rw [po_flp h2 h1 (by omega)]
    have e : ((X (nxt n k)).toInt - (X k).toInt) * ((y : Int) - (Y (nxt n k)).toInt) < ((X (nxt n k)).toInt - (x : Int)) * ((Y k).toInt - (Y (nxt n k)).toInt) ↔ ((X (nxt n k)).toInt - (X k).toInt) * ((y : Int) - (Y k).toInt) - ((Y (nxt n k)).toInt - (Y k).toInt) * ((x : Int) - (X k).toInt) < 0 := by
      have : ((X (nxt n k)).toInt - (X k).toInt) * ((y : Int) - (Y k).toInt) - ((Y (nxt n k)).toInt - (Y k).toInt) * ((x : Int) - (X k).toInt) = ((X (nxt n k)).toInt - (X k).toInt) * ((y : Int) - (Y (nxt n k)).toInt) - ((X (nxt n k)).toInt - (x : Int)) * ((Y k).toInt - (Y (nxt n k)).toInt) := by grind
      omega
    rw [e]
    constructor
    · rintro (⟨a, _⟩ | ⟨_, a⟩)
      · exact absurd a q
      · exact Or.inr a
    · rintro (a | a)
      · omega
      · exact Or.inr ⟨q, a⟩
end PO
/-- a plot's three rows, in the reference's words -/
def plL (n : Nat) (X Y : Nat → Int32) (fi fs fh : Nat → Int32) : Prop := ∀ y, y < 32 → ∀ x, x < 32 → ((bit (fs y) x ↔ lies n X Y (nI x) (nI y) = 1) ∧ (bit (fi y) x ↔ lies n X Y (nI x) (nI y) = 2) ∧ (bit (fh y) x ↔ 0 < lies n X Y (nI x) (nI y)))
theorem plL_of {n : Nat} {X Y : Nat → Int32} {fi fs fh : Nat → Int32} (hn : 3 ≤ n) (hp : ∀ z, z < n → isP (X z) (Y z) ∧ ¬ mere n X Y z) (h : plR n X Y fi fs fh) : plL n X Y fi fs fh := by
  intro y hy x hx
  obtain ⟨h1, h2, h3⟩ := h y hy x hx
  have e1 := po_mks hn hp hx hy
  have e2 : cnt (fun k => FLs n X Y k y x) n = cnt (crs n X Y (nI x) (nI y)) n := cnt_congr n (fun k hk => po_fl (hp k hk).1 (hp _ (nxt_lt hk)).1 hx hy)
  rw [e1] at h1 h2; rw [e2] at h2
  have l1 : lies n X Y (nI x) (nI y) = 1 ↔ ∃ k, k < n ∧ sdO n X Y k (nI x) (nI y) := by
    unfold lies
    by_cases q : ∃ k, k < n ∧ sdO n X Y k (nI x) (nI y)
    · rw [if_pos q]; exact ⟨fun _ => q, fun _ => rfl⟩
    · rw [if_neg q]; constructor
      · intro z; split at z <;> omega
      · intro z; exact absurd z q
  have l2 : lies n X Y (nI x) (nI y) = 2 ↔ (cnt (crs n X Y (nI x) (nI y)) n % 2 = 1 ∧ ¬ ∃ k, k < n ∧ sdO n X Y k (nI x) (nI y)) := by
    unfold lies
    by_cases q : ∃ k, k < n ∧ sdO n X Y k (nI x) (nI y)
    · rw [if_pos q]; exact ⟨fun z => by omega, fun z => absurd q z.2⟩
    · rw [if_neg q]; constructor
      · intro z
        by_cases w : cnt (crs n X Y (nI x) (nI y)) n % 2 = 1
        · exact ⟨w, q⟩
        · rw [if_neg w] at z; omega
      · intro z; rw [if_pos z.1]
  have l3 := lies_le n X Y (nI x) (nI y)
  refine ⟨h1.trans l1.symm, h2.trans l2.symm, ?_⟩
  rw [h3, h1.trans l1.symm, h2.trans l2.symm]; omega
theorem plL_congr {n : Nat} {X Y X' Y' : Nat → Int32} {fi fs fh : Nat → Int32} (h : ∀ j, j < n → X j = X' j ∧ Y j = Y' j) (hp : plL n X Y fi fs fh) : plL n X' Y' fi fs fh := by
  intro y hy x hx
  rw [← lies_congr h]; exact hp y hy x hx
theorem cnt_app (P : Nat → Prop) (a : Nat) : ∀ b, cnt P (a + b) = cnt P a + cnt (fun j => P (a + j)) b
  | 0 => rfl
  | b + 1 => by
    show cnt P (a + b) + _ = cnt P a + (cnt (fun j => P (a + j)) b + _)
    rw [cnt_app P a b, Nat.add_assoc]; rfl
theorem cnt2_e (P : Nat → Nat → Prop) : ∀ m, cnt2 P m = cnt (fun i => P (i / 32) (i % 32)) (32 * m)
  | 0 => rfl
  | m + 1 => by
    show cnt2 P m + cnt (P m) 32 = _
    rw [cnt2_e P m, show 32 * (m + 1) = 32 * m + 32 by omega, cnt_app]
    congr 1
    apply cnt_congr
    intro j hj
    rw [show (32 * m + j) / 32 = m by omega, show (32 * m + j) % 32 = j by omega]
theorem cnt2_c {P : Nat → Nat → Prop} {Q : Nat → Prop} (h : ∀ y, y < 32 → ∀ x, x < 32 → (P y x ↔ Q (32 * y + x))) : cnt2 P 32 = cnt Q 1024 := by
  rw [cnt2_e]
  show cnt _ 1024 = _
  apply cnt_congr
  intro i hi
  rw [h (i / 32) (by omega) (i % 32) (by omega), show 32 * (i / 32) + i % 32 = i by omega]
theorem q_xy {y x : Nat} (hx : x < 32) : qX (32 * y + x) = nI x ∧ qY (32 * y + x) = nI y := by
  unfold qX qY
  rw [show (32 * y + x) % 32 = x by omega, show (32 * y + x) / 32 = y by omega]; exact ⟨rfl, rfl⟩
theorem own_congr {P Q : Nat → Prop} {yr : Nat → Int32} : ∀ k, (∀ z, z < k → (P z ↔ Q z)) → own P yr k = own Q yr k
  | 0, _ => rfl
  | k + 1, h => by
    have i := own_congr (yr := yr) k (fun z hz => h z (by omega))
    by_cases q : Q k ∧ (own Q yr k = none ∨ ∃ o, own Q yr k = some o ∧ old yr k o)
    · rw [own_t (hd := P) ((h k (by omega)).mpr q.1) (by rw [i]; exact q.2), own_t q.1 q.2]
    · rw [own_f q, own_f (hd := P) (fun z => q ⟨(h k (by omega)).mp z.1, by rw [← i]; exact z.2⟩), i]
theorem old_tr {yr : Nat → Int32} {a b c : Nat} (h1 : old yr a b) (h2 : old yr b c) : old yr a c := by unfold old at *; omega
theorem old_tot (yr : Nat → Int32) (a b : Nat) : a = b ∨ old yr a b ∨ old yr b a := by unfold old; omega
theorem old_ir {yr : Nat → Int32} {a b : Nat} (h1 : old yr a b) (h2 : old yr b a) : False := by unfold old at *; omega
theorem own_spec (hd : Nat → Prop) (yr : Nat → Int32) : ∀ k, (own hd yr k = none ∧ ∀ z, z < k → ¬ hd z) ∨ ∃ o, own hd yr k = some o ∧ o < k ∧ hd o ∧ ∀ z, z < k → hd z → z = o ∨ old yr o z
  | 0 => Or.inl ⟨rfl, fun z hz => absurd hz (Nat.not_lt_zero _)⟩
  | k + 1 => by
    rcases own_spec hd yr k with ⟨e, h⟩ | ⟨o, e, h1, h2, h3⟩
    · by_cases q : hd k
      · right; refine ⟨k, own_t q (Or.inl e), by omega, q, fun z hz hzd => ?_⟩
        by_cases w : z = k
        · exact Or.inl w
        · exact absurd hzd (h z (by omega))
      · left; refine ⟨(own_f (fun z => q z.1)).trans e, fun z hz hzd => ?_⟩
        by_cases w : z = k
        · subst w; exact q hzd
        · exact h z (by omega) hzd
    · right
      by_cases q : hd k ∧ old yr k o
      · refine ⟨k, own_t q.1 (Or.inr ⟨o, e, q.2⟩), by omega, q.1, fun z hz hzd => ?_⟩
        by_cases w : z = k
        · exact Or.inl w
        · right
          rcases h3 z (by omega) hzd with g | g
          · subst g; exact q.2
          · exact old_tr q.2 g
      · refine ⟨o, (own_f (fun z => q ⟨z.1, by
            rcases z.2 with g | ⟨o', g1, g2⟩
            · rw [g] at e; exact absurd e (by simp)
            · rw [e] at g1; cases g1; exact g2⟩)).trans e, by omega, h2, fun z hz hzd => ?_⟩
        by_cases w : z = k
        · subst w
          rcases old_tot yr z o with g | g | g
          · exact Or.inl g
          · exact absurd ⟨hzd, g⟩ q
          · exact Or.inr g
        · exact h3 z (by omega) hzd
theorem own_not {hd : Nat → Prop} {yr : Nat → Int32} {k p : Nat} (hp : p < k) (hh : hd p) : ¬ own hd yr k = some p ↔ ∃ z, z < k ∧ old yr z p ∧ hd z := by
  rcases own_spec hd yr k with ⟨e, h⟩ | ⟨o, e, h1, h2, h3⟩
  · exact absurd hh (h p hp)
  · rw [e]
    constructor
    · intro q
      refine ⟨o, h1, ?_, h2⟩
      rcases h3 p hp hh with g | g
      · exact absurd (by rw [g]) q
      · exact g
    · rintro ⟨z, a, b, c⟩ q
      have : o = p := Option.some.inj q
      subst this
      rcases h3 z a c with g | g
      · subst g; exact old_ir b b
      · exact old_ir b g
theorem orr_bit {P : Nat → Prop} {h : Nat → Int32} {x : Nat} (hx : x < 32) : ∀ k, bit (orr P h k) x ↔ ∃ z, z < k ∧ P z ∧ bit (h z) x
  | 0 => ⟨fun q => absurd q (bit_0 x), fun ⟨z, a, _⟩ => absurd a (Nat.not_lt_zero _)⟩
  | k + 1 => by
    by_cases q : P k
    · rw [orr_t q, bit_or _ _ _ hx, orr_bit hx k]
      constructor
      · rintro (⟨z, a, b⟩ | b)
        · exact ⟨z, by omega, b⟩
        · exact ⟨k, by omega, q, b⟩
      · rintro ⟨z, a, b, c⟩
        by_cases e : z = k
        · subst e; exact Or.inr c
        · exact Or.inl ⟨z, by omega, b, c⟩
    · rw [orr_f q, orr_bit hx k]
      constructor
      · rintro ⟨z, a, b⟩; exact ⟨z, by omega, b⟩
      · rintro ⟨z, a, b, c⟩
        by_cases e : z = k
        · subst e; exact absurd b q
        · exact ⟨z, by omega, b, c⟩
theorem ags_bit {h : Nat → Int32} {x : Nat} (hx : x < 32) : ∀ k, (bit (orr (fun _ => True) h k) x ↔ 0 < cnt (fun z => bit (h z) x) k) ∧ (bit (ags h k) x ↔ 1 < cnt (fun z => bit (h z) x) k)
  | 0 => ⟨⟨fun q => absurd q (bit_0 x), fun q => absurd q (Nat.lt_irrefl _)⟩, ⟨fun q => absurd q (bit_0 x), fun q => absurd q (by show ¬ 1 < 0; omega)⟩⟩
  | k + 1 => by
    obtain ⟨i1, i2⟩ := ags_bit hx (h := h) k
    have e : ags h (k + 1) = ags h k ||| (orr (fun _ => True) h k &&& h k) := rfl
    rw [orr_t trivial, e, bit_or _ _ _ hx, bit_or _ _ _ hx, bit_and _ _ _ hx, i1, i2]
    by_cases q : bit (h k) x
    · rw [cnt_t (P := fun z => bit (h z) x) q]
      exact ⟨⟨fun _ => by omega, fun _ => Or.inr q⟩, ⟨fun z => by rcases z with z | z <;> omega, fun z => by right; exact ⟨by omega, q⟩⟩⟩
    · rw [cnt_f (P := fun z => bit (h z) x) q]
      exact ⟨⟨fun z => z.elim (fun z => z) (fun z => absurd z q), Or.inl⟩, ⟨fun z => z.elim (fun z => z) (fun z => absurd z.2 q), Or.inl⟩⟩
