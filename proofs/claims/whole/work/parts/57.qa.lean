theorem rem2 {k : Nat} (h : k ≤ 8) : nI k - nI k / 2 * 2 = nI (k % 2) := by
  have : k = 0 ∨ k = 1 ∨ k = 2 ∨ k = 3 ∨ k = 4 ∨ k = 5 ∨ k = 6 ∨ k = 7 ∨ k = 8 := by omega
  rcases this with rfl | rfl | rfl | rfl | rfl | rfl | rfl | rfl | rfl <;> decide
theorem fig_eq {nu x : Int32} {k : Nat} (hn : nu = nI k) (hk : k ≤ 31) (h1 : 48 ≤ x.toInt) (h2 : x.toInt ≤ 57) : 10 * nu + x - 48 = nI (k * 10 + (x.toInt - 48).toNat) := by
  have e : 10 * nu + x - 48 = 10 * nu + (x - 48) := by rw [Int32.sub_eq_add_neg, Int32.sub_eq_add_neg, Int32.add_assoc]
  rw [e, dig_eq h1 h2, hn]
  have : (10 : Int32) * nI k = nI (10 * k) := nI_m 10 k
  rw [this, nI_add, Nat.mul_comm]
theorem li_32x : (32 : Int32) = nI 32 := rfl
abbrev rdR (x : Int32) (S : TS) (nc at_ : Nat) (wy nu : Int32) (rt up : Nat → Int32) (r : Int32) : Prop := (r = 1 ∧ ∃ S1, stepT x S = some S1 ∧ MRel nc at_ wy nu rt up S1) ∨ (r = 0 ∧ stepT x S = none ∧ nc ≤ 8)
theorem rdR_01 {x : Int32} {S : TS} {nc at_ : Nat} {wy nu : Int32} {rt up : Nat → Int32} {r : Int32} (h : rdR x S nc at_ wy nu rt up r) : narrow .boolean (.int r) = .int r := by
  rcases h with ⟨h, -⟩ | ⟨h, -⟩ <;> rw [h] <;> rfl
/-- while a text is read: as far as k -/
def MRun (fs : Nat → Int32) (k nc at_ : Nat) (wy nu : Int32) (rt up : Nat → Int32) : Prop := ∃ S, runT fs k = some S ∧ MRel nc at_ wy nu rt up S
theorem MRun_0 (fs : Nat → Int32) (wy nu : Int32) (rt up : Nat → Int32) : MRun fs 0 0 0 wy nu rt up :=
  ⟨_, rfl, rfl, Nat.zero_le _, ⟨Nat.zero_le _, Nat.zero_le _, Nat.zero_le _, fun q => absurd rfl q⟩, Or.inl ⟨rfl, rfl, by decide, fun j hj => absurd hj (Nat.not_lt_zero _)⟩⟩
/-- what a reading leaves: the fault, and behind none the calls -/
def MEnd (fs : Nat → Int32) (n nc : Nat) (rt up : Nat → Int32) (r : Int32) : Prop := FltIs fs n r ∧ nc ≤ 8 ∧ (r = -6 → ∃ S, runT fs n = some S ∧ wholeT S ∧ S.1 = nc ∧ ∀ j, j < nc → rt j = S.2.2.2.2.1 j ∧ up j = S.2.2.2.2.2 j)
theorem nI_n6 {k : Nat} (h : k ≤ 48) : ¬ nI k = -6 := by
  intro q
  have := congrArg Int32.toInt q
  rw [nI_toInt (by omega), li_m6] at this
  omega
theorem ME_stop {fs : Nat → Int32} {k n nc1 : Nat} {rt1 up1 : Nat → Int32} {S : TS} (hk : k < n) (hn : n ≤ 48) (hS : runT fs k = some S) (h : stepT (fs k) S = none) (h8 : nc1 ≤ 8) : MEnd fs n nc1 rt1 up1 (nI k) :=
  ⟨Or.inr (Or.inr ⟨k, S, hk, hS, (runT_s hS).trans h, rfl⟩), h8, fun q => absurd q (nI_n6 (by omega))⟩
theorem ME_part {fs : Nat → Int32} {n nc at_ : Nat} {wy nu : Int32} {rt up : Nat → Int32} (hn : n ≤ 48) (h : MRun fs n nc at_ wy nu rt up) (hp : at_ = 0 ∨ at_ % 2 = 1 ∨ nc < 3) : MEnd fs n nc rt up (nI n) := by
  obtain ⟨S, hS, hM⟩ := h
  refine ⟨Or.inr (Or.inl ⟨S, hS, fun q => ?_, rfl⟩), (MRel_at hM).2.1, fun q => absurd q (nI_n6 hn)⟩
  obtain ⟨q1, q2, q3⟩ := q
  have e := hM.1
  by_cases a0 : at_ = 0
  · obtain ⟨-, -, -, h3⟩ := hM
    rcases h3 with ⟨-, b, -⟩ | ⟨-, -, -, -, c, -⟩ | ⟨-, -, -, -, c, -⟩
    · exact q1 b
    · rcases c with ⟨c, -⟩ | ⟨c, -⟩ <;> omega
    · rcases c with ⟨c, -⟩ | ⟨c, -⟩ <;> omega
  · by_cases a1 : at_ % 2 = 1
    · have := (rd_nm hM a0).1 a1; omega
    · omega
theorem ME_whole {fs : Nat → Int32} {n nc at_ : Nat} {wy nu : Int32} {rt up rt1 up1 : Nat → Int32} (h : MRun fs n nc at_ wy nu rt up) (h0 : at_ ≠ 0) (h1 : ¬ at_ % 2 = 1) (h3 : 3 ≤ nc) (he : endN nc wy nu rt up rt1 up1) : MEnd fs n nc rt1 up1 (-6) := by
  obtain ⟨S, hS, hM⟩ := h
  have hn := (rd_nm hM h0).2 h1
  have hw : wholeT S := ⟨hn.2.2.2.1, hn.1, by rw [hM.1]; exact h3⟩
  exact ⟨Or.inl ⟨S, hS, hw, rfl⟩, (MRel_at hM).2.1, fun _ => ⟨S, hS, hw, hM.1, endN_all hM h0 h1 he⟩⟩
theorem MRun_on {fs : Nat → Int32} {k nc at_ : Nat} {wy nu : Int32} {rt up : Nat → Int32} {S : TS} {r : Int32} (hS : runT fs k = some S) (h : rdR (fs k) S nc at_ wy nu rt up r) (hr : ¬ r = 0) : MRun fs (k + 1) nc at_ wy nu rt up := by
  rcases h with ⟨-, S1, a, b⟩ | ⟨a, -⟩
  · exact ⟨S1, (runT_s hS).trans a, b⟩
  · exact absurd a hr
theorem rd_o {x : Int32} {S : TS} {nc at_ : Nat} {wy nu : Int32} {rt up : Nat → Int32} (hM : MRel nc at_ wy nu rt up S) (hne : at_ ≠ 0) (h1 : at_ % 2 = 1) : rdR x S nc (at_ + 1) wy (x - 48) rt up (zb ((49 : Int32).toInt ≤ x.toInt ∧ x.toInt ≤ (57 : Int32).toInt)) := by
  by_cases hd9 : 49 ≤ x.toInt ∧ x.toInt ≤ 57
  · left
    refine ⟨by rw [li_49, li_57]; exact (zb_t hd9).symm, ?_⟩
    have h9 := rd_fig (x := x) hM hne ⟨by omega, by omega⟩ (by rw [(rd_nm hM hne).1 h1]; omega)
    rw [(rd_nm hM hne).1 h1, if_pos h1, show 0 * 10 + (x.toInt - 48).toNat = (x.toInt - 48).toNat by omega, ← dig_eq (by omega) (by omega)] at h9
    exact h9
  · right; exact ⟨by rw [li_49, li_57]; exact (zb_f hd9).symm, rd_odd0 hM h1 hd9, (MRel_at hM).2.1⟩
theorem rd_e {x : Int32} {S : TS} {nc at_ : Nat} {wy nu : Int32} {rt up : Nat → Int32} (hM : MRel nc at_ wy nu rt up S) (hne : at_ ≠ 0) (h1 : ¬ at_ % 2 = 1) (hf : 48 ≤ x.toInt ∧ x.toInt ≤ 57) (hl : S.2.2.1 * 10 + (x.toInt - 48).toNat < 32) : ∃ S1, stepT x S = some S1 ∧ MRel nc at_ wy (nI (S.2.2.1 * 10 + (x.toInt - 48).toNat)) rt up S1 := by
  have h2 := (rd_nm hM hne).2 h1
  have h9 := rd_fig hM hne hf (by omega)
  rw [if_neg h1] at h9
  exact h9
