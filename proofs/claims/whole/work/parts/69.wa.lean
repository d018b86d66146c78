/-! west of a line as the class adds: what lies below a side -/
def bB (X : Nat → Int32) (fr to_ : Nat) : Int32 := X to_ - X fr
def bR (X : Nat → Int32) (fr to_ : Nat) (c : Int32) : Int32 := mn c (X to_) - X fr
def bU (X Y : Nat → Int32) (fr to_ : Nat) (c tm : Int32) : Int32 := tm * bR X fr to_ c * (2 * Y fr * bB X fr to_ + (Y to_ - Y fr) * bR X fr to_ c)
noncomputable def bT (X Y : Nat → Int32) (fr to_ : Nat) (c tm : Int32) : Rat := cif (0 < (bB X fr to_).toInt ∧ 0 < (bR X fr to_ c).toInt) (mkRat (bU X Y fr to_ c tm).toInt (bB X fr to_).toInt.toNat) 0
noncomputable def cT (n : Nat) (X Y : Nat → Int32) (c : Int32) (k : Nat) : Rat := cif (X (nxt n k) ≤ X k) (bT X Y (nxt n k) k c (-1)) (bT X Y k (nxt n k) c 1)
theorem bU_t {X Y : Nat → Int32} {fr to_ : Nat} {c tm : Int32} (h1 : isP (X fr) (Y fr)) (h2 : isP (X to_) (Y to_)) (hc : b31 c) (ht : tm = 1 ∨ tm = -1) :
    (bB X fr to_).toInt = (X to_).toInt - (X fr).toInt ∧ (bR X fr to_ c).toInt = min c.toInt (X to_).toInt - (X fr).toInt ∧
    (bU X Y fr to_ c tm).toInt = tm.toInt * (bR X fr to_ c).toInt * (2 * (Y fr).toInt * (bB X fr to_).toInt + ((Y to_).toInt - (Y fr).toInt) * (bR X fr to_ c).toInt) := by
  unfold isP at h1 h2; unfold b31 at hc
  have eB : (bB X fr to_).toInt = (X to_).toInt - (X fr).toInt := tI_sub (by omega) (by omega)
  have eR : (bR X fr to_ c).toInt = min c.toInt (X to_).toInt - (X fr).toInt := by unfold bR; rw [tI_sub (by rw [mn_t]; omega) (by rw [mn_t]; omega), mn_t]
  refine ⟨eB, eR, ?_⟩
  unfold bU
  have e2 : (2 : Int32).toInt = 2 := rfl
  have tb : -1 ≤ tm.toInt ∧ tm.toInt ≤ 1 := by rcases ht with rfl | rfl <;> decide
  generalize bB X fr to_ = B at *
  generalize bR X fr to_ c = RR at *
  have e3 : (2 * Y fr).toInt = 2 * (Y fr).toInt := by rw [tI_mul (by rw [e2]; omega) (by rw [e2]; omega), e2]
  have b1 := mul_le_b (A := 62) (B := 31) (a := (2 * Y fr).toInt) (b := B.toInt) (by omega) (by omega) (by omega) (by omega) (by omega)
  have e4 : (2 * Y fr * B).toInt = (2 * Y fr).toInt * B.toInt := tI_mul (by omega) (by omega)
  have e5 : (Y to_ - Y fr).toInt = (Y to_).toInt - (Y fr).toInt := tI_sub (by omega) (by omega)
  have b2 := mul_le_b (A := 31) (B := 31) (a := (Y to_ - Y fr).toInt) (b := RR.toInt) (by omega) (by omega) (by omega) (by omega) (by omega)
  have e6 : ((Y to_ - Y fr) * RR).toInt = (Y to_ - Y fr).toInt * RR.toInt := tI_mul (by omega) (by omega)
  have e7 : (2 * Y fr * B + (Y to_ - Y fr) * RR).toInt = (2 * Y fr * B).toInt + ((Y to_ - Y fr) * RR).toInt := tI_add (by omega) (by omega)
  have b3 := mul_le_b (A := 1) (B := 31) (a := tm.toInt) (b := RR.toInt) (by omega) (by omega) (by omega) (by omega) (by omega)
  have e8 : (tm * RR).toInt = tm.toInt * RR.toInt := tI_mul (by omega) (by omega)
  have b4 := mul_le_b (A := 31) (B := 3000) (a := (tm * RR).toInt) (b := (2 * Y fr * B + (Y to_ - Y fr) * RR).toInt) (by omega) (by omega) (by omega) (by omega) (by omega)
  rw [tI_mul (by omega) (by omega), e8, e7, e4, e6, e3, e5]
theorem bT_b {X Y : Nat → Int32} {fr to_ : Nat} {c tm : Int32} (h1 : isP (X fr) (Y fr)) (h2 : isP (X to_) (Y to_)) (hc : b31 c) (ht : tm = 1 ∨ tm = -1) (hB : 0 < (bB X fr to_).toInt) (hR : 0 < (bR X fr to_ c).toInt) :
    0 < (bB X fr to_).toInt.toNat ∧ (bB X fr to_).toInt.toNat ≤ 31 ∧ (bU X Y fr to_ c tm).toInt.natAbs ≤ 4000 * (bB X fr to_).toInt.toNat := by
  obtain ⟨eB, eR, eU⟩ := bU_t h1 h2 hc ht
  unfold isP at h1 h2; unfold b31 at hc
  have tb : -1 ≤ tm.toInt ∧ tm.toInt ≤ 1 := by rcases ht with rfl | rfl <;> decide
  refine ⟨by omega, by omega, ?_⟩
  rw [eU]
  generalize (bB X fr to_).toInt = B at *
  generalize (bR X fr to_ c).toInt = RR at *
  have hRB : RR ≤ B := by omega
  have b1 : 0 ≤ (Y fr).toInt * B ∧ (Y fr).toInt * B ≤ 31 * B := ⟨Int.mul_nonneg (by omega) (by omega), Int.mul_le_mul_of_nonneg_right (by omega) (by omega)⟩
  have b2 := mul_le_b (A := 31) (B := B) (a := (Y to_).toInt - (Y fr).toInt) (b := RR) (by omega) (by omega) (by omega) (by omega) (by omega)
  have e : 2 * (Y fr).toInt * B = 2 * ((Y fr).toInt * B) := by grind
  have b3 := mul_le_b (A := 1) (B := 31) (a := tm.toInt) (b := RR) (by omega) (by omega) (by omega) (by omega) (by omega)
  have b4 := mul_le_b (A := 31) (B := 93 * B) (a := tm.toInt * RR) (b := 2 * (Y fr).toInt * B + ((Y to_).toInt - (Y fr).toInt) * RR) (by omega) (by omega) (by rw [e]; omega) (by rw [e]; omega) (by omega)
  omega
theorem qB_bT {X Y : Nat → Int32} {fr to_ k : Nat} {c tm : Int32} {q : Rat} (h1 : isP (X fr) (Y fr)) (h2 : isP (X to_) (Y to_)) (hc : b31 c) (ht : tm = 1 ∨ tm = -1) (h : qB k q) (hk : k < 8) : qB (k + 1) (q + bT X Y fr to_ c tm) := by
  by_cases g : 0 < (bB X fr to_).toInt ∧ 0 < (bR X fr to_ c).toInt
  · rw [show bT X Y fr to_ c tm = _ from cif_t g]
    obtain ⟨a, b, d⟩ := bT_b h1 h2 hc ht g.1 g.2
    exact qB_s h hk a b d
  · rw [show bT X Y fr to_ c tm = _ from cif_f g, Rat.add_zero]
    refine ⟨Nat.le_trans h.1 (Nat.pow_le_pow_right (by decide) (by omega)), Nat.le_trans h.2 (Nat.mul_le_mul_right _ (by omega))⟩
theorem qB_cT {n : Nat} {X Y : Nat → Int32} {c : Int32} (h8 : n ≤ 8) (hp : ∀ z, z < n → isP (X z) (Y z)) (hc : b31 c) : ∀ k, k ≤ n → qB k (rsum (cT n X Y c) k)
  | 0, _ => qB_0
  | k + 1, hk => by
    have p1 := hp k (by omega)
    have p2 := hp (nxt n k) (nxt_lt (by omega))
    have ih := qB_cT h8 hp hc k (by omega)
    show qB (k + 1) (rsum (cT n X Y c) k + cT n X Y c k)
    by_cases g : X (nxt n k) ≤ X k
    · rw [show cT n X Y c k = _ from cif_t g]; exact qB_bT p2 p1 hc (Or.inr rfl) ih (by omega)
    · rw [show cT n X Y c k = _ from cif_f g]; exact qB_bT p1 p2 hc (Or.inl rfl) ih (by omega)
theorem qB_abs {k : Nat} {q : Rat} (h : qB k q) (hk : k ≤ 8) : q.num.natAbs < 2 ^ 57 := by
  have a : q.den ≤ 31 ^ 8 := Nat.le_trans h.1 (Nat.pow_le_pow_right (by decide) hk)
  have b : 4000 * k * q.den ≤ 4000 * 8 * 31 ^ 8 := Nat.mul_le_mul (by omega) a
  have e8 : 4000 * 8 * 31 ^ 8 < 2 ^ 57 := by decide
  have := h.2
  omega
/-! the class's search -/
def bt (O : Nat → Int32) (j : Nat) : Prop := bit (O (j / 32)) (j % 32)
def FC (R : Nat → Prop) (i : Nat) (O T : Nat → Int32) (no k : Nat) (A : Nat → Prop) : Prop := Fl R i (fun j => j < 1024 ∧ bt O j) (fun q => ix (T q)) no k A ∧ (∀ q, q < no → T q = nI (ix (T q)) ∧ ix (T q) < 1024) ∧ k ≤ no
abbrev FD (x y : Int32) (O T O1 T1 : Nat → Int32) (no n1 : Nat) : Prop := (isP x y ∧ bt O (at_ x y) ∧ (∀ j, j < 1024 → (bt O1 j ↔ bt O j ∧ j ≠ at_ x y)) ∧ T1 = upd T no (nI (at_ x y)) ∧ n1 = no + 1) ∨ (¬ (isP x y ∧ bt O (at_ x y)) ∧ O1 = O ∧ T1 = T ∧ n1 = no)
theorem bt_clr {O : Nat → Int32} {xx yy : Nat} (hx : xx < 32) (hy : yy < 32) : ∀ j, j < 1024 → (bt (upd O yy (O yy &&& ((1 : Int32) <<< (nI xx &&& 31) ^^^ (-1)))) j ↔ bt O j ∧ j ≠ 32 * yy + xx) := by
  intro j hj
  unfold bt
  by_cases e : j / 32 = yy
  · rw [e, pk_us, bit_and _ _ _ (by omega), bit_xor _ _ _ (by omega), bit_shl hx (by omega)]
    have : bit (-1) (j % 32) := by
      have h : ∀ z, z < 32 → bit (-1) z := by unfold bit; decide +kernel
      exact h _ (by omega)
    constructor
    · intro q; refine ⟨q.1, fun z => q.2 ?_⟩; exact ⟨fun _ => this, fun _ => by omega⟩
    · intro q; refine ⟨q.1, fun z => q.2 ?_⟩; have := z.mpr this; omega
  · rw [pk_un e]; exact ⟨fun q => ⟨q, by omega⟩, fun q => q.1⟩
theorem FC_find {R A : Nat → Prop} {i no k n1 : Nat} {O T O1 T1 : Nat → Int32} {x y : Int32} (h : FC R i O T no k A) (hc : isP x y → R (at_ x y) → conn R i (at_ x y)) (hs : FD x y O T O1 T1 no n1) : FC R i O1 T1 n1 k (fun j => A j ∨ (isP x y ∧ j = at_ x y)) ∧ (∀ q, q < no → T1 q = T q) ∧ no ≤ n1 := by
  rcases hs with ⟨h1, h2, h3, rfl, rfl⟩ | ⟨h1, rfl, rfl, rfl⟩
  · have hlt := at_lt h1
    have hR := h.1.1 _ ⟨hlt, h2⟩
    have hF := Fl_in (L1 := fun j => j < 1024 ∧ bt O1 j) (t1 := fun q => ix (upd T no (nI (at_ x y)) q)) h.1 hlt ⟨hlt, h2⟩ (hc h1 hR) h.2.2 (fun j => ?_) (fun q hq => ?_) ?_
    · refine ⟨⟨Fl_no hF (fun j a _ => ?_), fun q hq => ?_, by have := h.2.2; omega⟩, fun q hq => pk_un (by omega), by omega⟩
      · rcases a with a | a
        · exact Or.inl a
        · exact Or.inr a.2
      · by_cases e : q = no
        · subst e; rw [pk_us, ix_nI (by omega)]; exact ⟨rfl, hlt⟩
        · rw [pk_un e]; exact h.2.1 q (by omega)
    · exact ⟨fun q => ⟨⟨q.1, ((h3 j q.1).mp q.2).1⟩, ((h3 j q.1).mp q.2).2⟩, fun q => ⟨q.1.1, (h3 j q.1.1).mpr ⟨q.1.2, q.2⟩⟩⟩
    · show ix (upd T no (nI (at_ x y)) q) = ix (T q); rw [pk_un (by omega)]
    · show ix (upd T no (nI (at_ x y)) no) = at_ x y; rw [pk_us, ix_nI (by omega)]
  · refine ⟨⟨?_, h.2.1, h.2.2⟩, fun _ _ => rfl, Nat.le_refl _⟩
    by_cases q : isP x y
    · exact Fl_no (Fl_out (j0 := at_ x y) h.1 (fun z => h1 ⟨q, z.2⟩)) (fun j a _ => by rcases a with a | a; exact Or.inl a; exact Or.inr a.2)
    · exact Fl_no h.1 (fun j a _ => by rcases a with a | a; exact a; exact absurd a.1 q)
theorem FC_lt {R A : Nat → Prop} {i no k j : Nat} {O T : Nat → Int32} (h : FC R i O T no k A) (hj : j < 1024) (ho : bt O j) : no < 1024 := Fl_lt h.1 hj ⟨hj, ho⟩
theorem FC_0 {R : Nat → Prop} {i : Nat} {O T : Nat → Int32} (hO : ∀ j, (j < 1024 ∧ bt O j) ↔ R j) : FC R i O T 0 0 (fun _ => False) := by
  have e : (fun j => j < 1024 ∧ bt O j) = R := funext (fun j => propext (hO j))
  refine ⟨?_, fun q hq => absurd hq (Nat.not_lt_zero _), Nat.le_refl _⟩
  rw [e]; exact Fl_0
theorem FC_conn {R A : Nat → Prop} {i no k : Nat} {O T : Nat → Int32} (h : FC R i O T no k A) (hk : k < no) {x y : Int32}
    (hxy : (x = nI (ix (T k) % 32) + 1 ∧ y = nI (ix (T k) / 32)) ∨ (x = nI (ix (T k) % 32) - 1 ∧ y = nI (ix (T k) / 32)) ∨ (x = nI (ix (T k) % 32) ∧ y = nI (ix (T k) / 32) + 1) ∨ (x = nI (ix (T k) % 32) ∧ y = nI (ix (T k) / 32) - 1)) : isP x y → R (at_ x y) → conn R i (at_ x y) := by
  intro hp hr
  have h3 := h.1.2.2.1 k hk
  exact conn.st (h.1.2.1 _ h3.1 h3.2) (adj_at (h.2.1 k hk).2 hp hxy) hr
theorem FC_keep {no n1 : Nat} {O T O1 T1 : Nat → Int32} {x y : Int32} {j : Nat} (hj2 : j < 1024) (hj : ¬ bt O j) (hs : FD x y O T O1 T1 no n1) : ¬ bt O1 j := by
  rcases hs with ⟨-, -, h, -⟩ | ⟨-, rfl, -⟩
  · exact fun q => hj ((h j hj2).mp q).1
  · exact hj
theorem FC_did {no n1 : Nat} {O T O1 T1 : Nat → Int32} {x y : Int32} (hp : isP x y) (ho : bt O (at_ x y)) (hs : FD x y O T O1 T1 no n1) : ¬ bt O1 (at_ x y) := by
  rcases hs with ⟨-, -, h, -⟩ | ⟨h, -⟩
  · exact fun q => ((h _ (at_lt hp)).mp q).2 rfl
  · exact absurd ⟨hp, ho⟩ h
theorem FC_nx {R A : Nat → Prop} {i no k : Nat} {O T : Nat → Int32} (h : FC R i O T no k A) (hk : k < no) (hR : ∀ j, R j → j < 1024)
    (hA : ∀ j, ((isP (nI (ix (T k) % 32) + 1) (nI (ix (T k) / 32)) ∧ j = at_ (nI (ix (T k) % 32) + 1) (nI (ix (T k) / 32))) ∨ (isP (nI (ix (T k) % 32) - 1) (nI (ix (T k) / 32)) ∧ j = at_ (nI (ix (T k) % 32) - 1) (nI (ix (T k) / 32))) ∨
    (isP (nI (ix (T k) % 32)) (nI (ix (T k) / 32) + 1) ∧ j = at_ (nI (ix (T k) % 32)) (nI (ix (T k) / 32) + 1)) ∨ (isP (nI (ix (T k) % 32)) (nI (ix (T k) / 32) - 1) ∧ j = at_ (nI (ix (T k) % 32)) (nI (ix (T k) / 32) - 1))) → A j) : FC R i O T no (k + 1) (fun _ => False) :=
  ⟨Fl_nx h.1 (fun j hj ha => hA j (adj_4 (h.2.1 k hk).2 (hR j hj) ha)), h.2.1, hk⟩
theorem FC_end {R A : Nat → Prop} {i no k : Nat} {O T : Nat → Int32} (h : FC R i O T no k A) (hk : k = no) (hi : R i) (ho : ¬ bt O i) : nI no = nI (cnt (conn R i) 1024) ∧ ∀ j, (j < 1024 ∧ bt O j) ↔ (R j ∧ ¬ conn R i j) := by
  subst hk
  obtain ⟨h1, h2⟩ := Fl_end h.1 hi (fun q => ho q.2)
  refine ⟨by rw [h2], fun j => ⟨fun q => ⟨h.1.1 j q, fun c => (h1 j (h.1.1 j q)).mpr c q⟩, fun q => ?_⟩⟩
  exact Classical.byContradiction (fun z => q.2 ((h1 j q.1).mp z))
/-- where the greatest gap begins, as the class keeps it -/
def fX (f : Int32) : Int32 := if f < 0 then -6 else nI (ix f % 32)
def fY (f : Int32) : Int32 := if f < 0 then -6 else nI (ix f / 32)
theorem fXY {xx yy : Nat} (hx : xx < 32) (hy : yy < 32) : fX (nI (32 * yy + xx)) = nI xx ∧ fY (nI (32 * yy + xx)) = nI yy := by
  unfold fX fY
  have : ¬ nI (32 * yy + xx) < 0 := nI_pos (by omega)
  rw [if_neg this, if_neg this, ix_nI (by omega)]
  exact ⟨by congr 1; omega, by congr 1; omega⟩
