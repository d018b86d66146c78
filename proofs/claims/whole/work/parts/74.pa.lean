/-! a plot's rows -/
def MK (n : Nat) (X Y : Nat → Int32) (k y x : Nat) : Prop := ∃ z, z < mkg n X Y k ∧ mkx n X Y k z = nI x ∧ mky n X Y k z = nI y
def FLs (n : Nat) (X Y : Nat → Int32) (k y x : Nat) : Prop := ((Y k).toInt < (Y (nxt n k)).toInt ∧ flp (X k) (Y k) (X (nxt n k)) (Y (nxt n k)) (flr (Y k) (Y (nxt n k))) y x) ∨ (¬ (Y k).toInt < (Y (nxt n k)).toInt ∧ flp (X (nxt n k)) (Y (nxt n k)) (X k) (Y k) (flr (Y (nxt n k)) (Y k)) y x)
def rowM (n : Nat) (X Y : Nat → Int32) (z : Nat) (fs : Nat → Int32) : Prop := ∀ y, y < 32 → ∀ x, x < 32 → (bit (fs y) x ↔ ∃ k, k < z ∧ MK n X Y k y x)
def rowF (n : Nat) (X Y : Nat → Int32) (z : Nat) (fi : Nat → Int32) : Prop := ∀ y, y < 32 → ∀ x, x < 32 → (bit (fi y) x ↔ cnt (fun k => FLs n X Y k y x) z % 2 = 1)
theorem bit_0 (x : Nat) : ¬ bit 0 x := by
  unfold bit; rw [show (0 : Int32).toUInt32.toNat = 0 from rfl, Nat.zero_testBit]; decide
theorem rowM_0 (n : Nat) (X Y : Nat → Int32) : rowM n X Y 0 (fun _ => 0) := fun y _ x _ => ⟨fun h => absurd h (bit_0 x), fun ⟨k, h, _⟩ => absurd h (Nat.not_lt_zero _)⟩
theorem rowF_0 (n : Nat) (X Y : Nat → Int32) : rowF n X Y 0 (fun _ => 0) := fun y _ x _ => ⟨fun h => absurd h (bit_0 x), fun h => absurd h (by show ¬ 0 % 2 = 1; decide)⟩
theorem rowM_s {n : Nat} {X Y : Nat → Int32} {z : Nat} {fs g : Nat → Int32} (h : rowM n X Y z fs) (hg : ∀ y, y < 32 → ∀ x, x < 32 → (bit (g y) x ↔ bit (fs y) x ∨ ∃ w, w < mkg n X Y z ∧ mkx n X Y z w = nI x ∧ mky n X Y z w = nI y)) : rowM n X Y (z + 1) g := by
  intro y hy x hx
  rw [hg y hy x hx, h y hy x hx]
  constructor
  · rintro (⟨k, a, b⟩ | b)
    · exact ⟨k, by omega, b⟩
    · exact ⟨z, by omega, b⟩
  · rintro ⟨k, a, b⟩
    by_cases e : k = z
    · subst e; exact Or.inr b
    · exact Or.inl ⟨k, by omega, b⟩
theorem cnt_par {P : Nat → Prop} {z : Nat} : (cnt P (z + 1) % 2 = 1 ↔ ¬ (cnt P z % 2 = 1 ↔ P z)) := by
  by_cases p : P z
  · rw [cnt_t p]
    constructor
    · intro h q; have := q.mpr p; omega
    · intro h
      have : ¬ cnt P z % 2 = 1 := fun q => h ⟨fun _ => p, fun _ => q⟩
      omega
  · rw [cnt_f p]
    constructor
    · intro h q; exact p (q.mp h)
    · intro h
      exact Classical.byContradiction (fun q => h ⟨fun z => absurd z q, fun z => absurd z p⟩)
theorem rowF_u {n : Nat} {X Y : Nat → Int32} {z : Nat} {fi g : Nat → Int32} (h : rowF n X Y z fi) (hu : (Y z).toInt < (Y (nxt n z)).toInt) (hg : ∀ y, y < 32 → ∀ x, x < 32 → (bit (g y) x ↔ ¬ (bit (fi y) x ↔ flp (X z) (Y z) (X (nxt n z)) (Y (nxt n z)) (flr (Y z) (Y (nxt n z))) y x))) : rowF n X Y (z + 1) g := by
  intro y hy x hx
  rw [hg y hy x hx, h y hy x hx, cnt_par]
  have : FLs n X Y z y x ↔ flp (X z) (Y z) (X (nxt n z)) (Y (nxt n z)) (flr (Y z) (Y (nxt n z))) y x := ⟨fun q => q.elim (fun a => a.2) (fun a => absurd hu a.1), fun q => Or.inl ⟨hu, q⟩⟩
  rw [this]
theorem rowF_d {n : Nat} {X Y : Nat → Int32} {z : Nat} {fi g : Nat → Int32} (h : rowF n X Y z fi) (hu : ¬ (Y z).toInt < (Y (nxt n z)).toInt) (hg : ∀ y, y < 32 → ∀ x, x < 32 → (bit (g y) x ↔ ¬ (bit (fi y) x ↔ flp (X (nxt n z)) (Y (nxt n z)) (X z) (Y z) (flr (Y (nxt n z)) (Y z)) y x))) : rowF n X Y (z + 1) g := by
  intro y hy x hx
  rw [hg y hy x hx, h y hy x hx, cnt_par]
  have : FLs n X Y z y x ↔ flp (X (nxt n z)) (Y (nxt n z)) (X z) (Y z) (flr (Y (nxt n z)) (Y z)) y x := ⟨fun q => q.elim (fun a => absurd a.1 hu) (fun a => a.2), fun q => Or.inr ⟨hu, q⟩⟩
  rw [this]
/-- the three sets of posts of a plot -/
def plR (n : Nat) (X Y : Nat → Int32) (fi fs fh : Nat → Int32) : Prop := ∀ y, y < 32 → ∀ x, x < 32 → ((bit (fs y) x ↔ ∃ k, k < n ∧ MK n X Y k y x) ∧ (bit (fi y) x ↔ cnt (fun k => FLs n X Y k y x) n % 2 = 1 ∧ ¬ ∃ k, k < n ∧ MK n X Y k y x) ∧ (bit (fh y) x ↔ bit (fi y) x ∨ bit (fs y) x))
theorem bit_m1 {x : Nat} (hx : x < 32) : bit (-1) x := by
  have h : ∀ z, z < 32 → bit (-1) z := by unfold bit; decide +kernel
  exact h _ hx
theorem plR_of {n : Nat} {X Y : Nat → Int32} {f0 fi fs fh : Nat → Int32} (hM : rowM n X Y n fs) (hF : rowF n X Y n f0) (h : ∀ j, j < 32 → fi j = f0 j &&& (fs j ^^^ (-1)) ∧ fh j = (f0 j &&& (fs j ^^^ (-1))) ||| fs j) : plR n X Y fi fs fh := by
  intro y hy x hx
  have e := h y hy
  have hi : bit (fi y) x ↔ cnt (fun k => FLs n X Y k y x) n % 2 = 1 ∧ ¬ ∃ k, k < n ∧ MK n X Y k y x := by
    rw [e.1, bit_and _ _ _ hx, bit_xor _ _ _ hx, hF y hy x hx, hM y hy x hx]
    have m1 := bit_m1 hx
    constructor
    · intro q; exact ⟨q.1, fun z => q.2 ⟨fun _ => m1, fun _ => z⟩⟩
    · intro q; exact ⟨q.1, fun z => q.2 (z.mpr m1)⟩
  refine ⟨hM y hy x hx, hi, ?_⟩
  rw [e.2, bit_or _ _ _ hx, ← e.1]
theorem nxt_ne {n k : Nat} (h3 : 3 ≤ n) (hk : k < n) : ¬ nxt n k = k := by unfold nxt; split <;> omega
theorem wleg_b {a b : Int32} (h1 : 0 ≤ a.toInt ∧ a.toInt ≤ 31) (h2 : 0 ≤ b.toInt ∧ b.toInt ≤ 31) : -31 ≤ (a - b).toInt ∧ (a - b).toInt ≤ 31 := by
  rw [tI_sub (by omega) (by omega)]; omega
theorem py_on {fj fh fi fs : Nat → Int32} {y : Nat} (h : ∀ j, j < y → fj j = fi j &&& (fs j ^^^ (-1)) ∧ fh j = (fi j &&& (fs j ^^^ (-1))) ||| fs j) (hy : fj y = fi y) : ∀ j, j < y + 1 → upd fj y (fj y &&& (fs y ^^^ (-1))) j = fi j &&& (fs j ^^^ (-1)) ∧ upd fh y (upd fj y (fj y &&& (fs y ^^^ (-1))) y ||| fs y) j = (fi j &&& (fs j ^^^ (-1))) ||| fs j := by
  intro j hj
  by_cases e : j = y
  · subst e; rw [pk_us, pk_us, hy]; exact ⟨rfl, rfl⟩
  · rw [pk_un e, pk_un e]; exact h j (by omega)
