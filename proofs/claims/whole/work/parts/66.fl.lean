/-! gaps: what comes together with a post -/
def adj (p j : Nat) : Prop := (p % 32 = j % 32 ∧ (p / 32 + 1 = j / 32 ∨ j / 32 + 1 = p / 32)) ∨ (p / 32 = j / 32 ∧ (p % 32 + 1 = j % 32 ∨ j % 32 + 1 = p % 32))
def conn (R : Nat → Prop) (i j : Nat) : Prop := R j ∧ R i ∧ ∀ P : Nat → Prop, P i → (∀ a b, P a → adj a b → R b → P b) → P j
theorem conn.rf {R : Nat → Prop} {i : Nat} (h : R i) : conn R i i := ⟨h, h, fun _ a _ => a⟩
theorem conn.st {R : Nat → Prop} {i j k : Nat} (h : conn R i j) (ha : adj j k) (hk : R k) : conn R i k := ⟨hk, h.2.1, fun P a b => b j k (h.2.2 P a b) ha hk⟩
theorem conn.R {R : Nat → Prop} {i j : Nat} (h : conn R i j) : R j := h.1
theorem cnt_dec {P Q : Nat → Prop} {j0 : Nat} (hP : P j0) (hQ : ¬ Q j0) (h : ∀ j, j ≠ j0 → (P j ↔ Q j)) : ∀ n, j0 < n → cnt P n = cnt Q n + 1
  | 0, h0 => absurd h0 (Nat.not_lt_zero _)
  | n + 1, h0 => by
    by_cases e : j0 = n
    · subst e
      rw [cnt_t hP, cnt_f hQ, cnt_congr2 (fun j hj => h j (by omega))]
    · have ih := cnt_dec hP hQ h n (by omega)
      by_cases q : P n
      · rw [cnt_t q, cnt_t ((h n (by omega)).mp q), ih]
      · rw [cnt_f q, cnt_f (fun z => q ((h n (by omega)).mpr z)), ih]
theorem cnt_and {P Q : Nat → Prop} : ∀ n, cnt P n = cnt (fun j => P j ∧ Q j) n + cnt (fun j => P j ∧ ¬ Q j) n
  | 0 => rfl
  | n + 1 => by
    have ih := cnt_and (P := P) (Q := Q) n
    by_cases p : P n
    · by_cases q : Q n
      · rw [cnt_t p, cnt_t (P := fun j => P j ∧ Q j) ⟨p, q⟩, cnt_f (P := fun j => P j ∧ ¬ Q j) (fun z => z.2 q), ih]; omega
      · rw [cnt_t p, cnt_f (P := fun j => P j ∧ Q j) (fun z => q z.2), cnt_t (P := fun j => P j ∧ ¬ Q j) ⟨p, q⟩, ih]; omega
    · rw [cnt_f p, cnt_f (P := fun j => P j ∧ Q j) (fun z => p z.1), cnt_f (P := fun j => P j ∧ ¬ Q j) (fun z => p z.1), ih]
theorem cnt_pos {P : Nat → Prop} {j : Nat} (h : P j) : ∀ n, j < n → 1 ≤ cnt P n
  | 0, h0 => absurd h0 (Nat.not_lt_zero _)
  | n + 1, h0 => by
    by_cases e : j = n
    · subst e; rw [cnt_t h]; omega
    · have := cnt_pos h n (by omega)
      by_cases q : P n
      · rw [cnt_t q]; omega
      · rw [cnt_f q]; exact this
theorem cnt_0 {P : Nat → Prop} : ∀ n, (∀ j, j < n → ¬ P j) → cnt P n = 0
  | 0, _ => rfl
  | n + 1, h => by rw [cnt_f (h n (by omega)), cnt_0 n (fun j hj => h j (by omega))]
/-- no posts have been found from i on, in t; the first k of them have been looked round; L is free now; posts of A have been looked at too -/
def Fl (R : Nat → Prop) (i : Nat) (L : Nat → Prop) (t : Nat → Nat) (no k : Nat) (A : Nat → Prop) : Prop :=
  (∀ j, L j → R j) ∧ (∀ j, R j → ¬ L j → conn R i j) ∧ (∀ q, q < no → R (t q) ∧ ¬ L (t q)) ∧ (∀ j, R j → ¬ L j → ∃ q, q < no ∧ t q = j) ∧ (∀ q, q < k → ∀ j, R j → adj (t q) j → ¬ L j) ∧ no + cnt L 1024 = cnt R 1024 ∧ ∀ j, A j → R j → ¬ L j
theorem Fl_le {R L A : Nat → Prop} {i no k : Nat} {t : Nat → Nat} (h : Fl R i L t no k A) : no ≤ 1024 := by
  have := h.2.2.2.2.2.1
  have := cnt_le R 1024
  omega
theorem Fl_lt {R L A : Nat → Prop} {i no k j : Nat} {t : Nat → Nat} (h : Fl R i L t no k A) (hj : j < 1024) (hL : L j) : no < 1024 := by
  have := h.2.2.2.2.2.1
  have := cnt_le R 1024
  have := cnt_pos hL 1024 hj
  omega
/-- one more is found -/
theorem Fl_in {R L L1 A : Nat → Prop} {i no k j0 : Nat} {t t1 : Nat → Nat} (h : Fl R i L t no k A) (hj : j0 < 1024) (hL : L j0) (hc : conn R i j0) (hkn : k ≤ no) (hL1 : ∀ j, L1 j ↔ L j ∧ j ≠ j0) (ht : ∀ q, q < no → t1 q = t q) (ht0 : t1 no = j0) : Fl R i L1 t1 (no + 1) k (fun j => A j ∨ j = j0) := by
  obtain ⟨h1, h2, h3, h4, h5, h6, h7⟩ := h
  refine ⟨fun j q => h1 j ((hL1 j).mp q).1, fun j a b => ?_, fun q hq => ?_, fun j a b => ?_, fun q hq j a b c => h5 q hq j a (by rw [← ht q (by omega)]; exact b) ((hL1 j).mp c).1, ?_, fun j a b c => ?_⟩
  · by_cases e : j = j0
    · exact e ▸ hc
    · exact h2 j a (fun z => b ((hL1 j).mpr ⟨z, e⟩))
  · by_cases e : q = no
    · subst e; rw [ht0]; exact ⟨h1 _ hL, fun z => ((hL1 _).mp z).2 rfl⟩
    · rw [ht q (by omega)]; exact ⟨(h3 q (by omega)).1, fun z => (h3 q (by omega)).2 ((hL1 _).mp z).1⟩
  · by_cases e : j = j0
    · exact ⟨no, by omega, by rw [ht0, e]⟩
    · obtain ⟨q, hq, e2⟩ := h4 j a (fun z => b ((hL1 j).mpr ⟨z, e⟩))
      exact ⟨q, by omega, by rw [ht q hq, e2]⟩
  · have := cnt_dec (P := L) (Q := L1) hL (fun z => ((hL1 _).mp z).2 rfl) (fun j hj => ⟨fun z => (hL1 j).mpr ⟨z, hj⟩, fun z => ((hL1 j).mp z).1⟩) 1024 hj
    omega
  · have c' := (hL1 j).mp c
    rcases a with a | a
    · exact h7 j a b c'.1
    · exact c'.2 a
theorem Fl_out {R L A : Nat → Prop} {i no k j0 : Nat} {t : Nat → Nat} (h : Fl R i L t no k A) (hL : ¬ L j0) : Fl R i L t no k (fun j => A j ∨ j = j0) := by
  obtain ⟨h1, h2, h3, h4, h5, h6, h7⟩ := h
  exact ⟨h1, h2, h3, h4, h5, h6, fun j a b => by rcases a with a | a; exact h7 j a b; exact a ▸ hL⟩
theorem Fl_no {R L A B : Nat → Prop} {i no k : Nat} {t : Nat → Nat} (h : Fl R i L t no k A) (hB : ∀ j, B j → R j → A j) : Fl R i L t no k B := by
  obtain ⟨h1, h2, h3, h4, h5, h6, h7⟩ := h
  exact ⟨h1, h2, h3, h4, h5, h6, fun j a b => h7 j (hB j a b) b⟩
theorem Fl_0 {R : Nat → Prop} {i : Nat} {t : Nat → Nat} : Fl R i R t 0 0 (fun _ => False) :=
  ⟨fun _ h => h, fun j a b => absurd a b, fun q hq => absurd hq (Nat.not_lt_zero _), fun j a b => absurd a b, fun q hq => absurd hq (Nat.not_lt_zero _), Nat.zero_add _, fun j a => a.elim⟩
theorem Fl_nx {R L A : Nat → Prop} {i no k : Nat} {t : Nat → Nat} (h : Fl R i L t no k A) (hA : ∀ j, R j → adj (t k) j → A j) : Fl R i L t no (k + 1) (fun _ => False) := by
  obtain ⟨h1, h2, h3, h4, h5, h6, h7⟩ := h
  refine ⟨h1, h2, h3, h4, fun q hq j a b => ?_, h6, fun j a => a.elim⟩
  by_cases e : q = k
  · subst e; exact h7 j (hA j a b) a
  · exact h5 q (by omega) j a b
theorem Fl_end {R L A : Nat → Prop} {i no : Nat} {t : Nat → Nat} (h : Fl R i L t no no A) (hi : R i) (hLi : ¬ L i) : (∀ j, R j → (¬ L j ↔ conn R i j)) ∧ no = cnt (conn R i) 1024 := by
  obtain ⟨h1, h2, h3, h4, h5, h6, h7⟩ := h
  have key : ∀ j, conn R i j → ¬ L j := by
    intro j hc
    refine (hc.2.2 (fun a => R a ∧ ¬ L a) ⟨hi, hLi⟩ (fun a b ha hab hb => ⟨hb, ?_⟩)).2
    obtain ⟨q, hq, e⟩ := h4 _ ha.1 ha.2
    exact h5 q hq _ hb (e ▸ hab)
  have all : ∀ j, R j → (¬ L j ↔ conn R i j) := fun j hj => ⟨fun z => h2 j hj z, key j⟩
  refine ⟨all, ?_⟩
  have e1 := cnt_and (P := R) (Q := L) 1024
  have e2 : cnt (fun j => R j ∧ L j) 1024 = cnt L 1024 := cnt_congr2 (fun j _ => ⟨fun z => z.2, fun z => ⟨h1 j z, z⟩⟩)
  have e3 : cnt (fun j => R j ∧ ¬ L j) 1024 = cnt (conn R i) 1024 := cnt_congr2 (fun j _ => ⟨fun z => (all j z.1).mp z.2, fun z => ⟨z.R, key j z⟩⟩)
  omega
/-- the post at x, y -/
def at_ (x y : Int32) : Nat := 32 * ix y + ix x
theorem at_lt {x y : Int32} (h : isP x y) : at_ x y < 1024 := by unfold isP at h; unfold at_ ix; omega
theorem at_xy {x y : Nat} (hx : x < 32) (hy : y < 32) : at_ (nI x) (nI y) = 32 * y + x := by unfold at_; rw [ix_nI (by omega), ix_nI (by omega)]
theorem at_div {x y : Int32} (h : isP x y) : at_ x y / 32 = ix y ∧ at_ x y % 32 = ix x := by unfold isP at h; unfold at_ ix; omega
theorem nb_t (a : Nat) (h : a < 32) : (nI a + 1).toInt = a + 1 ∧ (nI a - 1).toInt = (a : Int) - 1 ∧ (nI a).toInt = a := by
  have e1 : (1 : Int32).toInt = 1 := rfl
  have e := nI_toInt (n := a) (by omega)
  exact ⟨by rw [tI_add (by omega) (by omega), e1, e], by rw [tI_sub (by omega) (by omega), e1, e], e⟩
/-- a neighbour is one of the four -/
theorem adj_4 {p j : Nat} (hp : p < 1024) (hj : j < 1024) (h : adj p j) :
    (isP (nI (p % 32) + 1) (nI (p / 32)) ∧ j = at_ (nI (p % 32) + 1) (nI (p / 32))) ∨ (isP (nI (p % 32) - 1) (nI (p / 32)) ∧ j = at_ (nI (p % 32) - 1) (nI (p / 32))) ∨
    (isP (nI (p % 32)) (nI (p / 32) + 1) ∧ j = at_ (nI (p % 32)) (nI (p / 32) + 1)) ∨ (isP (nI (p % 32)) (nI (p / 32) - 1) ∧ j = at_ (nI (p % 32)) (nI (p / 32) - 1)) := by
  have a := nb_t (p % 32) (by omega)
  have b := nb_t (p / 32) (by omega)
  have hm : p % 32 < 32 := by omega
  have hd : p / 32 < 32 := by omega
  have hm2 : j % 32 < 32 := by omega
  have hd2 : j / 32 < 32 := by omega
  have hj2 : j = 32 * (j / 32) + j % 32 := by omega
  unfold adj at h
  unfold isP at_ ix
  rw [a.1, a.2.1, a.2.2, b.1, b.2.1, b.2.2]
  generalize p % 32 = pm at *
  generalize p / 32 = pd at *
  generalize j % 32 = jm at *
  generalize j / 32 = jd at *
  rcases h with ⟨h1, h2 | h2⟩ | ⟨h1, h2 | h2⟩
  · right; right; left; omega
  · right; right; right; omega
  · left; omega
  · right; left; omega
theorem adj_at {p : Nat} {x y : Int32} (hp : p < 1024) (h : isP x y)
    (hxy : (x = nI (p % 32) + 1 ∧ y = nI (p / 32)) ∨ (x = nI (p % 32) - 1 ∧ y = nI (p / 32)) ∨ (x = nI (p % 32) ∧ y = nI (p / 32) + 1) ∨ (x = nI (p % 32) ∧ y = nI (p / 32) - 1)) : adj p (at_ x y) := by
  have a := nb_t (p % 32) (by omega)
  have b := nb_t (p / 32) (by omega)
  have e := at_div h
  unfold adj
  rw [e.1, e.2]
  unfold isP at h
  unfold ix
  rcases hxy with ⟨rfl, rfl⟩ | ⟨rfl, rfl⟩ | ⟨rfl, rfl⟩ | ⟨rfl, rfl⟩ <;> simp only [a.1, a.2.1, a.2.2, b.1, b.2.1, b.2.2] at h ⊢ <;> clear a b e hp <;> generalize p % 32 = pm at * <;> generalize p / 32 = pd at *
  · right; omega
  · right; omega
  · left; omega
  · left; omega
/-! all posts, one after the other -/
abbrev GS : Type := (Nat → Prop) × Nat × Nat × Nat × Int32
noncomputable def gpN (g : GS) (z : Nat) : Nat := cnt (conn g.1 z) 1024
noncomputable def gpS (Fr : Nat → Prop) : Nat → GS
  | 0 => (Fr, 0, 0, 0, -6)
  | z + 1 => cif ((gpS Fr z).1 z) (fun j => (gpS Fr z).1 j ∧ ¬ conn (gpS Fr z).1 z j, (gpS Fr z).2.1 + gpN (gpS Fr z) z, (gpS Fr z).2.2.1 + 1, if (gpS Fr z).2.2.2.1 < gpN (gpS Fr z) z then gpN (gpS Fr z) z else (gpS Fr z).2.2.2.1, if (gpS Fr z).2.2.2.1 < gpN (gpS Fr z) z then nI z else (gpS Fr z).2.2.2.2) (gpS Fr z)
theorem gpS_t {Fr : Nat → Prop} {z : Nat} (h : (gpS Fr z).1 z) : gpS Fr (z + 1) = (fun j => (gpS Fr z).1 j ∧ ¬ conn (gpS Fr z).1 z j, (gpS Fr z).2.1 + gpN (gpS Fr z) z, (gpS Fr z).2.2.1 + 1, if (gpS Fr z).2.2.2.1 < gpN (gpS Fr z) z then gpN (gpS Fr z) z else (gpS Fr z).2.2.2.1, if (gpS Fr z).2.2.2.1 < gpN (gpS Fr z) z then nI z else (gpS Fr z).2.2.2.2) := cif_t h
theorem gpS_f {Fr : Nat → Prop} {z : Nat} (h : ¬ (gpS Fr z).1 z) : gpS Fr (z + 1) = gpS Fr z := cif_f h
/-- what stays free lies ahead, and what has been found is counted -/
theorem gpS_inv {Fr : Nat → Prop} (hF : ∀ j, Fr j → j < 1024) : ∀ z, (∀ j, (gpS Fr z).1 j → Fr j ∧ z ≤ j) ∧ (gpS Fr z).2.1 + cnt (gpS Fr z).1 1024 = cnt Fr 1024 ∧ (gpS Fr z).2.2.1 ≤ z ∧ (gpS Fr z).2.2.2.1 ≤ 1024 ∧ ((gpS Fr z).2.2.2.2 = -6 ∨ ∃ j, j < z ∧ (gpS Fr z).2.2.2.2 = nI j)
  | 0 => ⟨fun j h => ⟨h, Nat.zero_le _⟩, Nat.zero_add _, Nat.le_refl _, Nat.zero_le _, Or.inl rfl⟩
  | z + 1 => by
    obtain ⟨h1, h2, h3, h4, h5⟩ := gpS_inv hF z
    by_cases q : (gpS Fr z).1 z
    · have hn : gpN (gpS Fr z) z ≤ 1024 := cnt_le _ _
      rw [gpS_t q]
      refine ⟨fun j h => ?_, ?_, ?_, ?_, ?_⟩
      · have := h1 j h.1
        refine ⟨this.1, ?_⟩
        have : j ≠ z := fun e => h.2 (by rw [e]; exact conn.rf q)
        omega
      · simp only
        have e1 := cnt_and (P := (gpS Fr z).1) (Q := conn (gpS Fr z).1 z) 1024
        have e2 : cnt (fun j => (gpS Fr z).1 j ∧ conn (gpS Fr z).1 z j) 1024 = gpN (gpS Fr z) z := cnt_congr2 (fun j _ => ⟨fun z => z.2, fun z => ⟨z.R, z⟩⟩)
        omega
      · simp only; omega
      · simp only; split <;> omega
      · simp only; split
        · exact Or.inr ⟨z, by omega, rfl⟩
        · rcases h5 with h5 | ⟨j, a, b⟩
          · exact Or.inl h5
          · exact Or.inr ⟨j, by omega, b⟩
    · rw [gpS_f q]
      refine ⟨fun j h => ?_, h2, by omega, h4, ?_⟩
      · have := h1 j h
        refine ⟨this.1, ?_⟩
        have : j ≠ z := fun e => q (e ▸ h)
        omega
      · rcases h5 with h5 | ⟨j, a, b⟩
        · exact Or.inl h5
        · exact Or.inr ⟨j, by omega, b⟩
theorem gpS_all {Fr : Nat → Prop} (hF : ∀ j, Fr j → j < 1024) : (gpS Fr 1024).2.1 = cnt Fr 1024 := by
  obtain ⟨h1, h2, -⟩ := gpS_inv hF 1024
  have : cnt (gpS Fr 1024).1 1024 = 0 := cnt_0 1024 (fun j hj q => by have := (h1 j q).2; omega)
  omega
theorem gpS_b {Fr : Nat → Prop} (hF : ∀ j, Fr j → j < 1024) (z : Nat) : (gpS Fr z).2.1 ≤ 1024 := by
  have := (gpS_inv hF z).2.1
  have := cnt_le Fr 1024
  omega
noncomputable def aGap (Fr : Nat → Prop) (w : Int32) : Int32 := cif (0 ≤ w.toInt ∧ w.toInt ≤ 4)
  (cif (w = 0) (nI (gpS Fr 1024).2.1) (cif (w = 1) (nI (gpS Fr 1024).2.2.1) (cif (w = 2) (nI (gpS Fr 1024).2.2.2.1) (cif ((gpS Fr 1024).2.2.2.2 < 0) (-6) (cif (w = 3) (nI (ix (gpS Fr 1024).2.2.2.2 % 32)) (nI (ix (gpS Fr 1024).2.2.2.2 / 32))))))) (-2)
/-- the post is nobody's -/
def free_ (k : Nat) (pn : PN) (PX PY : PF) (j : Nat) : Prop := j < 1024 ∧ ∀ p, p < k → ¬ hlp pn PX PY p j
/-- the reference's search -/
def FM (R : Nat → Prop) (i : Nat) (O T : Nat → Int32) (no k : Nat) (A : Nat → Prop) : Prop := Fl R i (fun j => j < 1024 ∧ O j = -6) (fun q => ix (T q)) no k A ∧ (∀ q, q < no → T q = nI (ix (T q)) ∧ ix (T q) < 1024) ∧ k ≤ no
theorem FM_spread {R A : Nat → Prop} {i no k n1 : Nat} {O T O1 T1 : Nat → Int32} {x y : Int32} (h : FM R i O T no k A) (hc : isP x y → R (at_ x y) → conn R i (at_ x y))
    (hs : (isP x y ∧ O (at_ x y) = -6 ∧ O1 = upd O (at_ x y) 6 ∧ T1 = upd T no (nI (at_ x y)) ∧ n1 = no + 1) ∨ (¬ (isP x y ∧ O (at_ x y) = -6) ∧ O1 = O ∧ T1 = T ∧ n1 = no)) : FM R i O1 T1 n1 k (fun j => A j ∨ (isP x y ∧ j = at_ x y)) ∧ (∀ q, q < no → T1 q = T q) ∧ no ≤ n1 := by
  rcases hs with ⟨h1, h2, rfl, rfl, rfl⟩ | ⟨h1, rfl, rfl, rfl⟩
  · have hlt := at_lt h1
    have hR := h.1.1 _ ⟨hlt, h2⟩
    have hF := Fl_in (L1 := fun j => j < 1024 ∧ upd O (at_ x y) 6 j = -6) (t1 := fun q => ix (upd T no (nI (at_ x y)) q)) h.1 hlt ⟨hlt, h2⟩ (hc h1 hR) h.2.2 (fun j => ?_) (fun q hq => ?_) ?_
    · refine ⟨⟨Fl_no hF (fun j a _ => ?_), fun q hq => ?_, by have := h.2.2; omega⟩, fun q hq => pk_un (by omega), by omega⟩
      · rcases a with a | a
        · exact Or.inl a
        · exact Or.inr a.2
      · by_cases e : q = no
        · subst e; rw [pk_us, ix_nI (by omega)]; exact ⟨rfl, hlt⟩
        · rw [pk_un e]; exact h.2.1 q (by omega)
    · show (j < 1024 ∧ upd O (at_ x y) 6 j = -6) ↔ (j < 1024 ∧ O j = -6) ∧ j ≠ at_ x y
      by_cases e : j = at_ x y
      · subst e; rw [pk_us]; exact ⟨fun q => absurd q.2 (by decide), fun q => absurd rfl q.2⟩
      · rw [pk_un e]; exact ⟨fun q => ⟨q, e⟩, fun q => q.1⟩
    · show ix (upd T no (nI (at_ x y)) q) = ix (T q); rw [pk_un (by omega)]
    · show ix (upd T no (nI (at_ x y)) no) = at_ x y; rw [pk_us, ix_nI (by omega)]
  · refine ⟨⟨?_, h.2.1, h.2.2⟩, fun _ _ => rfl, Nat.le_refl _⟩
    by_cases q : isP x y
    · exact Fl_no (Fl_out (j0 := at_ x y) h.1 (fun z => h1 ⟨q, z.2⟩)) (fun j a _ => by rcases a with a | a; exact Or.inl a; exact Or.inr a.2)
    · exact Fl_no h.1 (fun j a _ => by rcases a with a | a; exact a; exact absurd a.1 q)
theorem FM_lt {R A : Nat → Prop} {i no k j : Nat} {O T : Nat → Int32} (h : FM R i O T no k A) (hj : j < 1024) (ho : O j = -6) : no < 1024 := Fl_lt h.1 hj ⟨hj, ho⟩
theorem FM_0 {R : Nat → Prop} {i : Nat} {O T : Nat → Int32} (hO : ∀ j, (j < 1024 ∧ O j = -6) ↔ R j) : FM R i O T 0 0 (fun _ => False) := by
  have e : (fun j => j < 1024 ∧ O j = -6) = R := funext (fun j => propext (hO j))
  refine ⟨?_, fun q hq => absurd hq (Nat.not_lt_zero _), Nat.le_refl _⟩
  rw [e]; exact Fl_0
theorem FM_first {R A : Nat → Prop} {i no k : Nat} {O T : Nat → Int32} (h : FM R i O T no k A) (hA : A i) : FM R i O T no k (fun j => j = i) :=
  ⟨Fl_no h.1 (fun j a _ => a ▸ hA), h.2⟩
theorem FM_conn {R A : Nat → Prop} {i no k : Nat} {O T : Nat → Int32} (h : FM R i O T no k A) (hk : k < no) {x y : Int32}
    (hxy : (x = nI (ix (T k) % 32) + 1 ∧ y = nI (ix (T k) / 32)) ∨ (x = nI (ix (T k) % 32) - 1 ∧ y = nI (ix (T k) / 32)) ∨ (x = nI (ix (T k) % 32) ∧ y = nI (ix (T k) / 32) + 1) ∨ (x = nI (ix (T k) % 32) ∧ y = nI (ix (T k) / 32) - 1)) : isP x y → R (at_ x y) → conn R i (at_ x y) := by
  intro hp hr
  have h3 := h.1.2.2.1 k hk
  exact conn.st (h.1.2.1 _ h3.1 h3.2) (adj_at (h.2.1 k hk).2 hp hxy) hr
