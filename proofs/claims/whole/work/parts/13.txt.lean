/-! THE TEXT: what it tells, sign by sign -/
abbrev TS : Type := Nat × Nat × Nat × Int32 × (Nat → Int32) × (Nat → Int32)
def dirT (x : Int32) : Int32 := if x = 110 ∨ x = 101 then 1 else -1
def stepT (x : Int32) (S : TS) : Option TS := match S with
  | (nc, pt, nm, tw, fe, fn) =>
    if pt = 0 then
      if (x = 110 ∨ x = 115 ∨ x = 101 ∨ x = 119) ∧ nc < 8 then some (nc + 1, if x = 110 ∨ x = 115 then 1 else 2, 0, dirT x, upd fe nc 0, upd fn nc 0) else none
    else if 48 ≤ x.toInt ∧ x.toInt ≤ 57 then
      if 1 ≤ nm * 10 + (x.toInt - 48).toNat ∧ nm * 10 + (x.toInt - 48).toNat ≤ 31 then
        some (nc, pt, nm * 10 + (x.toInt - 48).toNat, tw, if pt = 1 then fe else upd fe (nc - 1) (tw * nI (nm * 10 + (x.toInt - 48).toNat)), if pt = 1 then upd fn (nc - 1) (tw * nI (nm * 10 + (x.toInt - 48).toNat)) else fn)
      else none
    else if nm = 0 then none
    else if pt = 1 ∧ (x = 101 ∨ x = 119) then some (nc, 2, 0, dirT x, fe, fn)
    else if x = 59 ∧ nc < 8 then some (nc, 0, nm, tw, fe, fn)
    else none
theorem stepT_oc0 {x tw : Int32} {nc nm : Nat} {pt : Nat} {fe fn : Nat → Int32} (hp0 : pt = 0) (h : ¬ ((x = 110 ∨ x = 115 ∨ x = 101 ∨ x = 119) ∧ nc < 8)) : stepT x (nc, pt, nm, tw, fe, fn) = none := by
  subst hp0
  unfold stepT; simp only; rw [if_pos trivial, if_neg h]
theorem stepT_ocn {x tw : Int32} {nc nm : Nat} {pt : Nat} {fe fn : Nat → Int32} (hp0 : pt = 0) (h : nc < 8) (h1 : x = 110 ∨ x = 115) : stepT x (nc, pt, nm, tw, fe, fn) = some (nc + 1, 1, 0, dirT x, upd fe nc 0, upd fn nc 0) := by
  subst hp0
  unfold stepT; simp only; rw [if_pos trivial, if_pos ⟨by rcases h1 with h1 | h1 <;> simp [h1], h⟩, if_pos h1]
theorem stepT_oce {x tw : Int32} {nc nm : Nat} {pt : Nat} {fe fn : Nat → Int32} (hp0 : pt = 0) (h : nc < 8) (h1 : x = 101 ∨ x = 119) (h2 : ¬ (x = 110 ∨ x = 115)) : stepT x (nc, pt, nm, tw, fe, fn) = some (nc + 1, 2, 0, dirT x, upd fe nc 0, upd fn nc 0) := by
  subst hp0
  unfold stepT; simp only; rw [if_pos trivial, if_pos ⟨by rcases h1 with h1 | h1 <;> simp [h1], h⟩, if_neg h2]
theorem nI_m (a b : Nat) : nI a * nI b = nI (a * b) := by
  unfold nI; exact (Int32.ofNat_mul a b).symm
theorem nI_sub1 {n : Nat} (h : 1 ≤ n) : nI n - 1 = nI (n - 1) := by
  obtain ⟨k, rfl⟩ : ∃ k, n = k + 1 := ⟨n - 1, by omega⟩
  exact nI_pred k
theorem dig_eq {x : Int32} (h1 : 48 ≤ x.toInt) (h2 : x.toInt ≤ 57) : x - 48 = nI (x.toInt - 48).toNat := by
  apply Int32.toInt_inj.mp
  rw [tI_sub (by rw [li_48]; omega) (by rw [li_48]; omega), nI_toInt (by omega), li_48]
  omega
theorem stepT_dg {x tw : Int32} {nc pt nm nm1 : Nat} {fe fn fe1 fn1 : Nat → Int32} {r : Int32} (hp : ¬ pt = 0) (hd : 48 ≤ x.toInt ∧ x.toInt ≤ 57)
    (h : (r = 1 ∧ (1 ≤ nm * 10 + (x.toInt - 48).toNat ∧ nm * 10 + (x.toInt - 48).toNat ≤ 31) ∧ nm1 = nm * 10 + (x.toInt - 48).toNat ∧ fe1 = (if pt = 1 then fe else upd fe (nc - 1) (tw * nI (nm * 10 + (x.toInt - 48).toNat))) ∧ fn1 = (if pt = 1 then upd fn (nc - 1) (tw * nI (nm * 10 + (x.toInt - 48).toNat)) else fn)) ∨ (r = 0 ∧ ¬ (1 ≤ nm * 10 + (x.toInt - 48).toNat ∧ nm * 10 + (x.toInt - 48).toNat ≤ 31) ∧ nm1 = nm ∧ fe1 = fe ∧ fn1 = fn)) :
    (r = 1 ∧ stepT x (nc, pt, nm, tw, fe, fn) = some (nc, pt, nm1, tw, fe1, fn1)) ∨ (r = 0 ∧ stepT x (nc, pt, nm, tw, fe, fn) = none ∧ (nc, pt, nm1, tw, fe1, fn1) = ((nc, pt, nm, tw, fe, fn) : TS)) := by
  rcases h with ⟨h0, h1, h2, h3, h4⟩ | ⟨h0, h1, h2, h3, h4⟩
  · left; refine ⟨h0, ?_⟩
    subst h2 h3 h4
    unfold stepT; simp only; rw [if_neg hp, if_pos hd, if_pos h1]
  · right; refine ⟨h0, ?_, by rw [h2, h3, h4]⟩
    unfold stepT; simp only; rw [if_neg hp, if_pos hd, if_neg h1]
theorem stepT_nd {x tw : Int32} {nc pt nm : Nat} {fe fn : Nat → Int32} (hp : ¬ pt = 0) (hd : ¬ (48 ≤ x.toInt ∧ x.toInt ≤ 57)) : stepT x (nc, pt, nm, tw, fe, fn) = (if nm = 0 then none
    else if pt = 1 ∧ (x = 101 ∨ x = 119) then some (nc, 2, 0, dirT x, fe, fn)
    else if x = 59 ∧ nc < 8 then some (nc, 0, nm, tw, fe, fn)
    else none) := by
  unfold stepT; simp only; rw [if_neg hp, if_neg hd]
def runT (fs : Nat → Int32) : Nat → Option TS
  | 0 => some (0, 0, 0, 0, fun _ => 0, fun _ => 0)
  | k + 1 => match runT fs k with
    | none => none
    | some S => stepT (fs k) S
theorem runT_s {fs : Nat → Int32} {k : Nat} {S : TS} (h : runT fs k = some S) : runT fs (k + 1) = stepT (fs k) S := by
  show (match runT fs k with | none => none | some S => stepT (fs k) S) = _
  rw [h]
def RelT (S S' : TS) : Prop := S.1 = S'.1 ∧ S.2.1 = S'.2.1 ∧ (S.2.1 ≠ 0 → S.2.2.1 = S'.2.2.1 ∧ S.2.2.2.1 = S'.2.2.2.1) ∧ ∀ j, j < S.1 → S.2.2.2.2.1 j = S'.2.2.2.2.1 j ∧ S.2.2.2.2.2 j = S'.2.2.2.2.2 j
def okT (S : TS) : Prop := S.1 ≤ 8 ∧ S.2.1 ≤ 2 ∧ S.2.2.1 ≤ 31 ∧ (S.2.1 ≠ 0 → 1 ≤ S.1)
def wholeT (S : TS) : Prop := S.2.1 ≠ 0 ∧ 0 < S.2.2.1 ∧ 3 ≤ S.1
def FltIs (fs : Nat → Int32) (n : Nat) (r : Int32) : Prop := (∃ S, runT fs n = some S ∧ wholeT S ∧ r = -6) ∨ (∃ S, runT fs n = some S ∧ ¬ wholeT S ∧ r = nI n) ∨ (∃ (k : Nat) (S : TS), k < n ∧ runT fs k = some S ∧ runT fs (k + 1) = none ∧ r = nI k)
theorem upd_lt {fe fe' : Nat → Int32} {n : Nat} (h : ∀ j, j < n → fe j = fe' j) (k : Nat) (z : Int32) (j : Nat) (hj : j < n ∨ j = k) : upd fe k z j = upd fe' k z j := by
  by_cases e : j = k
  · subst e; rw [pk_us, pk_us]
  · rw [pk_un e, pk_un e]; exact h j (by omega)
theorem stepT_rel {x : Int32} {S S' : TS} (hR : RelT S S') (hO : okT S) : (stepT x S = none → stepT x S' = none) ∧ ∀ S1, stepT x S = some S1 → ∃ S1', stepT x S' = some S1' ∧ RelT S1 S1' ∧ okT S1 := by
  obtain ⟨nc, pt, nm, tw, fe, fn⟩ := S
  obtain ⟨nc', pt', nm', tw', fe', fn'⟩ := S'
  obtain ⟨h1, h2, h3, h4⟩ := hR
  obtain ⟨o1, o2, o3, o4⟩ := hO
  simp only at h1 h2 h3 h4 o1 o2 o3 o4
  subst h1; subst h2
  unfold stepT; simp only
  by_cases hp : pt = 0
  · rw [if_pos hp, if_pos hp]
    by_cases hc : (x = 110 ∨ x = 115 ∨ x = 101 ∨ x = 119) ∧ nc < 8
    · rw [if_pos hc, if_pos hc]
      refine ⟨fun q => by simp at q, fun S1 q => ⟨_, rfl, ?_⟩⟩
      cases q
      refine ⟨⟨rfl, rfl, fun _ => ⟨rfl, rfl⟩, fun j hj => ?_⟩, by simp only; omega, by simp only; split <;> omega, by simp only; omega, fun _ => by simp only; omega⟩
      simp only at hj ⊢
      exact ⟨upd_lt (fun j h => (h4 j h).1) nc 0 j (by omega), upd_lt (fun j h => (h4 j h).2) nc 0 j (by omega)⟩
    · rw [if_neg hc, if_neg hc]
      exact ⟨fun _ => rfl, fun S1 q => by simp at q⟩
  · obtain ⟨e1, e2⟩ := h3 hp
    have o5 := o4 hp
    subst e1; subst e2
    rw [if_neg hp, if_neg hp]
    by_cases hd : 48 ≤ x.toInt ∧ x.toInt ≤ 57
    · rw [if_pos hd, if_pos hd]
      by_cases hg : 1 ≤ nm * 10 + (x.toInt - 48).toNat ∧ nm * 10 + (x.toInt - 48).toNat ≤ 31
      · rw [if_pos hg, if_pos hg]
        refine ⟨fun q => by simp at q, fun S1 q => ⟨_, rfl, ?_⟩⟩
        cases q
        refine ⟨⟨rfl, rfl, fun _ => ⟨rfl, rfl⟩, fun j hj => ?_⟩, o1, o2, hg.2, fun _ => o5⟩
        simp only at hj ⊢
        by_cases hq : pt = 1
        · rw [if_pos hq, if_pos hq, if_pos hq, if_pos hq]
          exact ⟨(h4 j hj).1, upd_lt (fun j h => (h4 j h).2) _ _ j (by omega)⟩
        · rw [if_neg hq, if_neg hq, if_neg hq, if_neg hq]
          exact ⟨upd_lt (fun j h => (h4 j h).1) _ _ j (by omega), (h4 j hj).2⟩
      · rw [if_neg hg, if_neg hg]
        exact ⟨fun _ => rfl, fun S1 q => by simp at q⟩
    · rw [if_neg hd, if_neg hd]
      by_cases hz : nm = 0
      · rw [if_pos hz, if_pos hz]
        exact ⟨fun _ => rfl, fun S1 q => by simp at q⟩
      · rw [if_neg hz, if_neg hz]
        by_cases he : pt = 1 ∧ (x = 101 ∨ x = 119)
        · rw [if_pos he, if_pos he]
          refine ⟨fun q => by simp at q, fun S1 q => ⟨_, rfl, ?_⟩⟩
          cases q
          exact ⟨⟨rfl, rfl, fun _ => ⟨rfl, rfl⟩, h4⟩, o1, Nat.le_refl _, Nat.zero_le _, fun _ => o5⟩
        · rw [if_neg he, if_neg he]
          by_cases hs : x = 59 ∧ nc < 8
          · rw [if_pos hs, if_pos hs]
            refine ⟨fun q => by simp at q, fun S1 q => ⟨_, rfl, ?_⟩⟩
            cases q
            exact ⟨⟨rfl, rfl, fun z => absurd rfl z, h4⟩, o1, Nat.zero_le _, o3, fun z => absurd rfl z⟩
          · rw [if_neg hs, if_neg hs]
            exact ⟨fun _ => rfl, fun S1 q => by simp at q⟩
theorem read_on {fs : Nat → Int32} {k : Nat} {S S1 : TS} (hO : okT S) (hR : ∃ S', runT fs k = some S' ∧ RelT S S') (h : stepT (fs k) S = some S1) : (∃ S', runT fs (k + 1) = some S' ∧ RelT S1 S') ∧ okT S1 := by
  obtain ⟨S', h1, h2⟩ := hR
  obtain ⟨S1', a, b, c⟩ := (stepT_rel h2 hO).2 S1 h
  exact ⟨⟨S1', (runT_s h1).trans a, b⟩, c⟩
theorem read_stop {fs : Nat → Int32} {k n : Nat} {S S1 : TS} (hk : k < n) (hO : okT S) (hR : ∃ S', runT fs k = some S' ∧ RelT S S') (h : stepT (fs k) S = none ∧ S1 = S) (hn : n ≤ 48 := by omega) : FltIs fs n (nI k) ∧ okT S1 ∧ (nI k = -6 → ∃ S' : TS, runT fs n = some S' ∧ wholeT S' ∧ RelT S1 S') := by
  obtain ⟨S', h1, h2⟩ := hR
  refine ⟨Or.inr (Or.inr ⟨k, S', hk, h1, (runT_s h1).trans ((stepT_rel h2 hO).1 h.1), rfl⟩), h.2 ▸ hO, fun q => ?_⟩
  have := congrArg Int32.toInt q
  rw [nI_toInt (by omega), li_m6] at this
  omega
theorem read_whole {fs : Nat → Int32} {n : Nat} {S : TS} (hR : ∃ S', runT fs n = some S' ∧ RelT S S') (hO : okT S) (hW : wholeT S) : FltIs fs n (-6) ∧ okT S ∧ ((-6 : Int32) = -6 → ∃ S' : TS, runT fs n = some S' ∧ wholeT S' ∧ RelT S S') := by
  obtain ⟨S', h1, h2⟩ := hR
  have hw : wholeT S' := ⟨h2.2.1 ▸ hW.1, (h2.2.2.1 hW.1).1 ▸ hW.2.1, h2.1 ▸ hW.2.2⟩
  exact ⟨Or.inl ⟨S', h1, hw, rfl⟩, hO, fun _ => ⟨S', h1, hw, h2⟩⟩
theorem read_part {fs : Nat → Int32} {n : Nat} {S : TS} (hR : ∃ S', runT fs n = some S' ∧ RelT S S') (hO : okT S) (hW : ¬ wholeT S) (hn : n ≤ 48) : FltIs fs n (nI n) ∧ okT S ∧ (nI n = -6 → ∃ S' : TS, runT fs n = some S' ∧ wholeT S' ∧ RelT S S') := by
  obtain ⟨S', h1, h2⟩ := hR
  have hw : ¬ wholeT S' := fun q => hW ⟨h2.2.1.symm ▸ q.1, by have q1 := q.1; rw [← h2.2.1] at q1; rw [(h2.2.2.1 q1).1]; exact q.2.1, h2.1.symm ▸ q.2.2⟩
  refine ⟨Or.inr (Or.inl ⟨S', h1, hw, rfl⟩), hO, fun q => ?_⟩
  have := congrArg Int32.toInt q
  rw [nI_toInt (by omega), li_m6] at this
  omega
def pnt (x : Int32) (f : Nat → Int32) : Nat → Int32
  | 0 => x
  | k + 1 => pnt x f k + f k
def crn (nc : Nat) (x : Int32) (f fe fn : Nat → Int32) (k : Nat) : Int32 := pnt x f k - isum f nc * isum (stp fe fn) k / isum (stp fe fn) nc
theorem mx0 (n : Nat) (h : n < 2 ^ 31) : mx 0 (nI n) = nI n := by
  unfold mx
  by_cases e : (0 : Int32) < nI n
  · rw [if_pos e]
  · rw [if_neg e]
    rw [Int32.lt_iff_toInt_lt, nI_toInt h, li_0] at e
    have : n = 0 := by omega
    subst this; rfl
theorem upd_on {g f : Nat → Int32} {k : Nat} {z : Int32} (hg : ∀ j, j < k → g j = f j) (hz : z = f k) : ∀ j, j < k + 1 → upd g k z j = f j := by
  intro j hj
  by_cases e : j = k
  · subst e; rw [pk_us]; exact hz
  · rw [pk_un e]; exact hg j (by omega)
