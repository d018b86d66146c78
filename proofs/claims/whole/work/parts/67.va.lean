theorem FM_keep {no n1 : Nat} {O T O1 T1 : Nat → Int32} {x y : Int32} {j : Nat} (hj : ¬ O j = -6)
    (hs : (isP x y ∧ O (at_ x y) = -6 ∧ O1 = upd O (at_ x y) 6 ∧ T1 = upd T no (nI (at_ x y)) ∧ n1 = no + 1) ∨ (¬ (isP x y ∧ O (at_ x y) = -6) ∧ O1 = O ∧ T1 = T ∧ n1 = no)) : ¬ O1 j = -6 := by
  rcases hs with ⟨-, -, rfl, -⟩ | ⟨-, rfl, -⟩
  · by_cases e : j = at_ x y
    · rw [e, pk_us]; decide
    · rw [pk_un e]; exact hj
  · exact hj
theorem FM_did {no n1 : Nat} {O T O1 T1 : Nat → Int32} {x y : Int32} (hp : isP x y) (ho : O (at_ x y) = -6)
    (hs : (isP x y ∧ O (at_ x y) = -6 ∧ O1 = upd O (at_ x y) 6 ∧ T1 = upd T no (nI (at_ x y)) ∧ n1 = no + 1) ∨ (¬ (isP x y ∧ O (at_ x y) = -6) ∧ O1 = O ∧ T1 = T ∧ n1 = no)) : ¬ O1 (at_ x y) = -6 := by
  rcases hs with ⟨-, -, rfl, -⟩ | ⟨h, -⟩
  · rw [pk_us]; decide
  · exact absurd ⟨hp, ho⟩ h
theorem FM_nx {R A : Nat → Prop} {i no k : Nat} {O T : Nat → Int32} (h : FM R i O T no k A) (hk : k < no) (hR : ∀ j, R j → j < 1024)
    (hA : ∀ j, ((isP (nI (ix (T k) % 32) + 1) (nI (ix (T k) / 32)) ∧ j = at_ (nI (ix (T k) % 32) + 1) (nI (ix (T k) / 32))) ∨ (isP (nI (ix (T k) % 32) - 1) (nI (ix (T k) / 32)) ∧ j = at_ (nI (ix (T k) % 32) - 1) (nI (ix (T k) / 32))) ∨
    (isP (nI (ix (T k) % 32)) (nI (ix (T k) / 32) + 1) ∧ j = at_ (nI (ix (T k) % 32)) (nI (ix (T k) / 32) + 1)) ∨ (isP (nI (ix (T k) % 32)) (nI (ix (T k) / 32) - 1) ∧ j = at_ (nI (ix (T k) % 32)) (nI (ix (T k) / 32) - 1))) → A j) : FM R i O T no (k + 1) (fun _ => False) :=
  ⟨Fl_nx h.1 (fun j hj ha => hA j (adj_4 (h.2.1 k hk).2 (hR j hj) ha)), h.2.1, hk⟩
theorem FM_end {R A : Nat → Prop} {i no k : Nat} {O T : Nat → Int32} (h : FM R i O T no k A) (hk : k = no) (hi : R i) (ho : ¬ O i = -6) : nI no = nI (cnt (conn R i) 1024) ∧ ∀ j, (j < 1024 ∧ O j = -6) ↔ (R j ∧ ¬ conn R i j) := by
  subst hk
  obtain ⟨h1, h2⟩ := Fl_end h.1 hi (fun q => ho q.2)
  refine ⟨by rw [h2], fun j => ⟨fun q => ⟨h.1.1 j q, fun c => (h1 j (h.1.1 j q)).mpr c q⟩, fun q => ?_⟩⟩
  exact Classical.byContradiction (fun z => q.2 ((h1 j q.1).mp z))
theorem own_none {hd : Nat → Prop} {yr : Nat → Int32} : ∀ k, own hd yr k = none ↔ ∀ p, p < k → ¬ hd p
  | 0 => ⟨fun _ p hp => absurd hp (Nat.not_lt_zero _), fun _ => rfl⟩
  | k + 1 => by
    have ih := own_none (hd := hd) (yr := yr) k
    constructor
    · intro h
      by_cases q : hd k ∧ (own hd yr k = none ∨ ∃ o, own hd yr k = some o ∧ old yr k o)
      · rw [own_t q.1 q.2] at h; exact absurd h (by simp)
      · rw [own_f q] at h
        intro p hp
        by_cases e : p = k
        · subst e; exact fun z => q ⟨z, Or.inl h⟩
        · exact ih.mp h p (by omega)
    · intro h
      rw [own_f (fun q => h k (by omega) q.1)]
      exact ih.mpr (fun p hp => h p (by omega))
theorem free_own {k : Nat} {pn : PN} {S : Nat → Int32} {O : Nat → Int32} (hk : k ≤ 6) (h : ∀ j, j < 1024 → O j = oI (own (fun z9 => hlm S pn z9 j) S k)) : ∀ j, (j < 1024 ∧ O j = -6) ↔ free_ k pn (pX S) (pY S) j := by
  intro j
  constructor
  · intro q
    refine ⟨q.1, ?_⟩
    have : own (fun z9 => hlm S pn z9 j) S k = none := oI_none ((h j q.1).symm.trans q.2)
    exact (own_none k).mp this
  · intro q
    refine ⟨q.1, ?_⟩
    have e : own (fun z9 => hlm S pn z9 j) S k = none := (own_none k).mpr q.2
    rw [h j q.1, e]; rfl
theorem gpS_t1 {Fr : Nat → Prop} {z : Nat} (h : (gpS Fr z).1 z) (h2 : (gpS Fr z).2.2.2.1 < gpN (gpS Fr z) z) : gpS Fr (z + 1) = (fun j => (gpS Fr z).1 j ∧ ¬ conn (gpS Fr z).1 z j, (gpS Fr z).2.1 + gpN (gpS Fr z) z, (gpS Fr z).2.2.1 + 1, gpN (gpS Fr z) z, nI z) := by
  rw [gpS_t h, if_pos h2, if_pos h2]
theorem gpS_t0 {Fr : Nat → Prop} {z : Nat} (h : (gpS Fr z).1 z) (h2 : ¬ (gpS Fr z).2.2.2.1 < gpN (gpS Fr z) z) : gpS Fr (z + 1) = (fun j => (gpS Fr z).1 j ∧ ¬ conn (gpS Fr z).1 z j, (gpS Fr z).2.1 + gpN (gpS Fr z) z, (gpS Fr z).2.2.1 + 1, (gpS Fr z).2.2.2.1, (gpS Fr z).2.2.2.2) := by
  rw [gpS_t h, if_neg h2, if_neg h2]
theorem free_lt {k : Nat} {pn : PN} {PX PY : PF} : ∀ j, free_ k pn PX PY j → j < 1024 := fun _ h => h.1
theorem fst_nn {Fr : Nat → Prop} (hF : ∀ j, Fr j → j < 1024) (h : ¬ (gpS Fr 1024).2.2.2.2 < 0) : (gpS Fr 1024).2.2.2.2 = nI (ix (gpS Fr 1024).2.2.2.2) ∧ ix (gpS Fr 1024).2.2.2.2 < 1024 := by
  rcases (gpS_inv hF 1024).2.2.2.2 with q | ⟨j, a, b⟩
  · rw [q] at h; exact absurd (by decide) h
  · rw [b, ix_nI (by omega)]; exact ⟨rfl, a⟩
def ad13 (h q1 q2 q3 q4 q5 q6 q7 q8 q9 q10 q11 q12 : Nat) : Nat → Nat
  | 0 => h | 1 => q1 | 2 => q2 | 3 => q3 | 4 => q4 | 5 => q5 | 6 => q6 | 7 => q7 | 8 => q8 | 9 => q9 | 10 => q10 | 11 => q11 | _ => q12
def iniF : Nat → Nat → Int32
  | 1 => upd (fun _ => 0) 109 4
  | _ => fun _ => 0
