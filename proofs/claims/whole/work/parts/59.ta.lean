/-! the text's bounds; what a whole text tells -/
def tB (nc : Nat) (fe fn : Nat → Int32) : Prop := ∀ j, j < nc → -31 ≤ (fe j).toInt ∧ (fe j).toInt ≤ 31 ∧ -31 ≤ (fn j).toInt ∧ (fn j).toInt ≤ 31
def tNZ (nc : Nat) (fe fn : Nat → Int32) : Prop := ∀ j, j < nc → ¬ ((fe j).toInt = 0 ∧ (fn j).toInt = 0)
def tInv (S : TS) : Prop := okT S ∧ tB S.1 S.2.2.2.2.1 S.2.2.2.2.2 ∧ (S.2.1 ≠ 0 → S.2.2.2.1 = 1 ∨ S.2.2.2.1 = -1) ∧ tNZ (S.1 - 1) S.2.2.2.2.1 S.2.2.2.2.2 ∧ ((S.2.1 ≠ 0 → S.2.2.1 ≠ 0) → tNZ S.1 S.2.2.2.2.1 S.2.2.2.2.2) ∧ (S.2.1 = 1 → S.2.2.1 ≠ 0 → ¬ (S.2.2.2.2.2 (S.1 - 1)).toInt = 0) ∧ (S.2.1 = 2 → S.2.2.1 ≠ 0 → ¬ (S.2.2.2.2.1 (S.1 - 1)).toInt = 0)
theorem tw_t {tw : Int32} {k : Nat} (h : tw = 1 ∨ tw = -1) (hk : k ≤ 31) : (tw * nI k).toInt = k ∨ (tw * nI k).toInt = -k := by
  rcases h with rfl | rfl
  · left; rw [Int32.one_mul, nI_toInt (by omega)]
  · right; rw [Int32.neg_mul, Int32.one_mul, tI_neg (by rw [nI_toInt (by omega)]; omega), nI_toInt (by omega)]
theorem dirT_pm (x : Int32) : dirT x = 1 ∨ dirT x = -1 := by
  unfold dirT; split
  · left; rfl
  · right; rfl
theorem tB_upd {nc k : Nat} {fe fn : Nat → Int32} {x y : Int32} (h : tB nc fe fn) : tB nc fe fn := h
theorem tInv_step {x : Int32} {S S1 : TS} (h : tInv S) (hs : stepT x S = some S1) : tInv S1 := by
  have hok := okT_step h.1 hs
  obtain ⟨nc, pt, nm, tw, fe, fn⟩ := S
  obtain ⟨⟨o1, o2, o3, o4⟩, hb, ht, hz1, hz2, hz3, hz4⟩ := h
  simp only at o1 o2 o3 o4 hb ht hz1 hz2 hz3 hz4
  unfold stepT at hs; simp only at hs
  by_cases hp : pt = 0
  · rw [if_pos hp] at hs
    by_cases hc : (x = 110 ∨ x = 115 ∨ x = 101 ∨ x = 119) ∧ nc < 8
    · rw [if_pos hc] at hs
      obtain rfl := Option.some.inj hs
      refine ⟨hok, fun j hj => ?_, fun _ => dirT_pm x, fun j hj => ?_, fun q => ?_, fun _ q => absurd rfl q, fun _ q => absurd rfl q⟩
      · simp only at hj ⊢
        by_cases e : j = nc
        · subst e; rw [pk_us, pk_us]; decide
        · rw [pk_un e, pk_un e]; exact hb j (by omega)
      · simp only at hj ⊢
        rw [pk_un (by omega), pk_un (by omega)]; exact hz2 (fun q => absurd hp q) j (by omega)
      · refine absurd rfl (q ?_)
        show (if x = 110 ∨ x = 115 then 1 else 2) ≠ 0
        split <;> decide
    · rw [if_neg hc] at hs; exact absurd hs (by simp)
  · rw [if_neg hp] at hs
    have o5 := o4 hp
    by_cases hd : 48 ≤ x.toInt ∧ x.toInt ≤ 57
    · rw [if_pos hd] at hs
      by_cases hg : 1 ≤ nm * 10 + (x.toInt - 48).toNat ∧ nm * 10 + (x.toInt - 48).toNat ≤ 31
      · rw [if_pos hg] at hs
        obtain rfl := Option.some.inj hs
        have tt := tw_t (ht hp) hg.2
        generalize hN : nm * 10 + (x.toInt - 48).toNat = N at *
        by_cases hq : pt = 1
        · subst hq
          refine ⟨hok, fun j hj => ?_, fun _ => ht hp, fun j hj => ?_, fun _ j hj => ?_, fun _ _ => ?_, fun q => absurd q (show ¬ (1 : Nat) = 2 by decide)⟩
          · simp only [if_true] at hj ⊢
            by_cases e : j = nc - 1
            · subst e; rw [pk_us]; have := hb _ hj; omega
            · rw [pk_un e]; exact hb j hj
          · simp only [if_true] at hj ⊢
            rw [pk_un (by omega)]; exact hz1 j hj
          · simp only [if_true] at hj ⊢
            by_cases e : j = nc - 1
            · subst e; rw [pk_us]; omega
            · rw [pk_un e]; exact hz1 j (by omega)
          · simp only [if_true]
            rw [pk_us]; omega
        · refine ⟨hok, fun j hj => ?_, fun _ => ht hp, fun j hj => ?_, fun _ j hj => ?_, fun q => absurd q hq, fun _ _ => ?_⟩
          · simp only [if_neg hq] at hj ⊢
            by_cases e : j = nc - 1
            · subst e; rw [pk_us]; have := hb _ hj; omega
            · rw [pk_un e]; exact hb j hj
          · simp only [if_neg hq] at hj ⊢
            rw [pk_un (by omega)]; exact hz1 j hj
          · simp only [if_neg hq] at hj ⊢
            by_cases e : j = nc - 1
            · subst e; rw [pk_us]; omega
            · rw [pk_un e]; exact hz1 j (by omega)
          · simp only [if_neg hq]
            rw [pk_us]; omega
      · rw [if_neg hg] at hs; exact absurd hs (by simp)
    · rw [if_neg hd] at hs
      by_cases hz : nm = 0
      · rw [if_pos hz] at hs; exact absurd hs (by simp)
      · rw [if_neg hz] at hs
        by_cases he : pt = 1 ∧ (x = 101 ∨ x = 119)
        · rw [if_pos he] at hs
          obtain rfl := Option.some.inj hs
          exact ⟨hok, hb, fun _ => dirT_pm x, hz1, fun q => absurd rfl (q (show (2 : Nat) ≠ 0 by decide)), fun q => absurd q (show ¬ (2 : Nat) = 1 by decide), fun _ q => absurd rfl q⟩
        · rw [if_neg he] at hs
          by_cases hsm : x = 59 ∧ nc < 8
          · rw [if_pos hsm] at hs
            obtain rfl := Option.some.inj hs
            exact ⟨hok, hb, fun q => absurd rfl q, hz1, fun _ => hz2 (fun _ => hz), fun q => absurd q (show ¬ (0 : Nat) = 1 by decide), fun q => absurd q (show ¬ (0 : Nat) = 2 by decide)⟩
          · rw [if_neg hsm] at hs; exact absurd hs (by simp)
theorem tInv_run (fs : Nat → Int32) : ∀ (k : Nat) (S : TS), runT fs k = some S → tInv S
  | 0, S, h => by
    obtain rfl := Option.some.inj h
    refine ⟨⟨Nat.zero_le _, Nat.zero_le _, Nat.zero_le _, fun q => absurd rfl q⟩, fun j hj => absurd hj (Nat.not_lt_zero _), fun q => absurd rfl q, fun j hj => absurd hj (Nat.not_lt_zero _), fun _ j hj => absurd hj (Nat.not_lt_zero _), fun q => absurd q (show ¬ (0 : Nat) = 1 by decide), fun q => absurd q (show ¬ (0 : Nat) = 2 by decide)⟩
  | k + 1, S, h => by
    have h' : (match runT fs k with | none => none | some S => stepT (fs k) S) = some S := h
    cases hr : runT fs k with
    | none => rw [hr] at h'; exact absurd h' (by simp)
    | some S0 => rw [hr] at h'; exact tInv_step (tInv_run fs k S0 hr) h'
/-- the calls of a whole text -/
def tOK (nc : Nat) (fe fn : Nat → Int32) : Prop := 3 ≤ nc ∧ nc ≤ 8 ∧ tB nc fe fn ∧ tNZ nc fe fn
noncomputable def txt (fs : Nat → Int32) (n : Nat) : Option (Nat × (Nat → Int32) × (Nat → Int32)) := match runT fs n with
  | none => none
  | some S => cif (wholeT S) (some (S.1, S.2.2.2.2.1, S.2.2.2.2.2)) none
theorem txt_some {fs : Nat → Int32} {n : Nat} {S : TS} (h : runT fs n = some S) (hw : wholeT S) : txt fs n = some (S.1, S.2.2.2.2.1, S.2.2.2.2.2) := by
  unfold txt; rw [h]; exact cif_t hw
theorem runT_none {fs : Nat → Int32} {k : Nat} (h : runT fs k = none) : ∀ d, runT fs (k + d) = none
  | 0 => h
  | d + 1 => by
    show (match runT fs (k + d) with | none => none | some S => stepT (fs (k + d)) S) = none
    rw [runT_none h d]
theorem txt_none {fs : Nat → Int32} {n : Nat} {r : Int32} (h : FltIs fs n r) (hr : ¬ r = -6) : txt fs n = none := by
  rcases h with ⟨S, -, -, h⟩ | ⟨S, h1, h2, -⟩ | ⟨k, S, h1, -, h2, -⟩
  · exact absurd h hr
  · unfold txt; rw [h1]; exact cif_f h2
  · have : runT fs n = none := by have := runT_none h2 (n - (k + 1)); rwa [show k + 1 + (n - (k + 1)) = n by omega] at this
    unfold txt; rw [this]
theorem txt_ok {fs : Nat → Int32} {n : Nat} {S : TS} (h : runT fs n = some S) (hw : wholeT S) : tOK S.1 S.2.2.2.2.1 S.2.2.2.2.2 := by
  have hi := tInv_run fs n S h
  have hn : S.2.2.1 ≠ 0 := by have := hw.2.1; omega
  exact ⟨hw.2.2, hi.1.1, hi.2.1, hi.2.2.2.2.1 (fun _ => hn)⟩
theorem FltIs_neg {fs : Nat → Int32} {n : Nat} {r : Int32} (h : FltIs fs n r) (hn : n ≤ 48) : (r < 0 ↔ r = -6) := by
  rcases h with ⟨S, -, -, h⟩ | ⟨S, -, -, h⟩ | ⟨k, S, h1, -, -, h⟩
  · exact ⟨fun _ => h, fun _ => by rw [h]; decide⟩
  · rw [h]; exact ⟨fun q => absurd q (nI_pos (by omega)), fun q => absurd q (nI_n6 hn)⟩
  · rw [h]; exact ⟨fun q => absurd q (nI_pos (by omega)), fun q => absurd q (nI_n6 (by omega))⟩
theorem FltIs_inj {fs : Nat → Int32} {n : Nat} {r r' : Int32} (h : FltIs fs n r) (h' : FltIs fs n r') : r = r' := by
  rcases h with ⟨S, h1, h2, h3⟩ | ⟨S, h1, h2, h3⟩ | ⟨k, S, h1, h2, h3, h4⟩
  · rcases h' with ⟨S', g1, g2, g3⟩ | ⟨S', g1, g2, g3⟩ | ⟨k', S', g1, g2, g3, g4⟩
    · rw [h3, g3]
    · rw [h1] at g1; obtain rfl := Option.some.inj g1; exact absurd h2 g2
    · have := runT_none g3 (n - (k' + 1)); rw [show k' + 1 + (n - (k' + 1)) = n by omega, h1] at this; exact absurd this (by simp)
  · rcases h' with ⟨S', g1, g2, g3⟩ | ⟨S', g1, g2, g3⟩ | ⟨k', S', g1, g2, g3, g4⟩
    · rw [h1] at g1; obtain rfl := Option.some.inj g1; exact absurd g2 h2
    · rw [h3, g3]
    · have := runT_none g3 (n - (k' + 1)); rw [show k' + 1 + (n - (k' + 1)) = n by omega, h1] at this; exact absurd this (by simp)
  · rcases h' with ⟨S', g1, g2, g3⟩ | ⟨S', g1, g2, g3⟩ | ⟨k', S', g1, g2, g3, g4⟩
    · have := runT_none h3 (n - (k + 1)); rw [show k + 1 + (n - (k + 1)) = n by omega, g1] at this; exact absurd this (by simp)
    · have := runT_none h3 (n - (k + 1)); rw [show k + 1 + (n - (k + 1)) = n by omega, g1] at this; exact absurd this (by simp)
    · have : k = k' := by
        rcases Nat.lt_trichotomy k k' with q | q | q
        · have := runT_none h3 (k' - (k + 1)); rw [show k + 1 + (k' - (k + 1)) = k' by omega, g2] at this; exact absurd this (by simp)
        · exact q
        · have := runT_none g3 (k - (k' + 1)); rw [show k' + 1 + (k - (k' + 1)) = k by omega, h2] at this; exact absurd this (by simp)
      rw [h4, g4, this]
/-- the calls' steps: bounded, and not nothing -/
theorem stp_b {nc : Nat} {fe fn : Nat → Int32} (hb : tB nc fe fn) (hz : tNZ nc fe fn) {j : Nat} (hj : j < nc) : 1 ≤ (stp fe fn j).toInt ∧ (stp fe fn j).toInt ≤ 62 := by
  have h1 := hb j hj
  have h2 := hz j hj
  unfold stp
  have e1 : (ab (fe j)).toInt = (fe j).toInt.natAbs := ab_t (by omega) (by omega)
  have e2 : (ab (fn j)).toInt = (fn j).toInt.natAbs := ab_t (by omega) (by omega)
  rw [tI_add (by omega) (by omega), e1, e2]
  omega
theorem stp_sum {nc : Nat} {fe fn : Nat → Int32} (hb : tB nc fe fn) (hz : tNZ nc fe fn) (h8 : nc ≤ 8) : ∀ k, k ≤ nc → (k : Int) ≤ (isum (stp fe fn) k).toInt ∧ (isum (stp fe fn) k).toInt ≤ 62 * k
  | 0, _ => by show (0 : Int) ≤ (0 : Int32).toInt ∧ (0 : Int32).toInt ≤ 62 * 0; decide
  | k + 1, h => by
    have ih := stp_sum hb hz h8 k (by omega)
    have hs := stp_b hb hz (j := k) (by omega)
    have e : (isum (stp fe fn) (k + 1)).toInt = (isum (stp fe fn) k).toInt + (stp fe fn k).toInt := tI_add (by omega) (by omega)
    omega
theorem far_ne {nc : Nat} {fe fn : Nat → Int32} (h : tOK nc fe fn) : ¬ isum (stp fe fn) nc = 0 := by
  intro q
  have := (stp_sum h.2.2.1 h.2.2.2 h.2.1 nc (Nat.le_refl _)).1
  rw [q] at this
  have h3 := h.1
  have : (0 : Int32).toInt = 0 := rfl
  omega
theorem stp_congr {nc : Nat} {fe fn fe' fn' : Nat → Int32} (h : ∀ j, j < nc → fe j = fe' j ∧ fn j = fn' j) : ∀ j, j < nc → stp fe fn j = stp fe' fn' j := fun j hj => by unfold stp; rw [(h j hj).1, (h j hj).2]
theorem tOK_congr {nc : Nat} {fe fn fe' fn' : Nat → Int32} (h : ∀ j, j < nc → fe j = fe' j ∧ fn j = fn' j) (ht : tOK nc fe' fn') : tOK nc fe fn :=
  ⟨ht.1, ht.2.1, fun j hj => by rw [(h j hj).1, (h j hj).2]; exact ht.2.2.1 j hj, fun j hj => by rw [(h j hj).1, (h j hj).2]; exact ht.2.2.2 j hj⟩
theorem pnt_congr {x : Int32} {f g : Nat → Int32} : ∀ n, (∀ j, j < n → f j = g j) → pnt x f n = pnt x g n
  | 0, _ => rfl
  | n + 1, h => by show _ + _ = _ + _; rw [pnt_congr n (fun j hj => h j (by omega)), h n (by omega)]
theorem crn_congr {nc : Nat} {x : Int32} {f g fe fn fe' fn' : Nat → Int32} (hf : ∀ j, j < nc → f j = g j) (h : ∀ j, j < nc → fe j = fe' j ∧ fn j = fn' j) {k : Nat} (hk : k < nc) : crn nc x f fe fn k = crn nc x g fe' fn' k := by
  unfold crn
  rw [pnt_congr k (fun j hj => hf j (by omega)), isum_congr nc hf, isum_congr k (fun j hj => stp_congr h j (by omega)), isum_congr nc (stp_congr h)]
theorem sd_congr {n : Nat} {X Y X' Y' : Nat → Int32} (h : ∀ j, j < n → X j = X' j ∧ Y j = Y' j) {k : Nat} (hk : k < n) (x y : Int32) : sdT n X Y k x y = sdT n X' Y' k x y ∧ (sdO n X Y k x y ↔ sdO n X' Y' k x y) := by
  have h1 := h k hk
  have h2 := h (nxt n k) (nxt_lt hk)
  unfold sdT sdO
  rw [h1.1, h1.2, h2.1, h2.2]
  exact ⟨rfl, Iff.rfl⟩
theorem stn_congr1 {n : Nat} {X Y X' Y' : Nat → Int32} (h : ∀ j, j < n → X j = X' j ∧ Y j = Y' j) (hs : stn n X Y) : stn n X' Y' := by
  refine ⟨fun z hz => ?_, fun z hz w hw hwn q => hs.2 z hz w hw hwn ?_⟩
  · have h1 := h z hz
    have h2 := h (nxt n z) (nxt_lt hz)
    have := hs.1 z hz
    unfold mere at *
    rw [h1.1, h1.2, h2.1, h2.2] at this
    exact this
  · have hz1 := h z hz
    have hz2 := h (nxt n z) (nxt_lt hz)
    have hw1 := h w hwn
    have hw2 := h (nxt n w) (nxt_lt hwn)
    unfold clsh fld tch at *
    rw [hz1.1, hz1.2, hz2.1, hz2.2, hw1.1, hw1.2, hw2.1, hw2.2]
    rw [(sd_congr h hz _ _).1, (sd_congr h hz _ _).1, (sd_congr h hwn _ _).1, (sd_congr h hwn _ _).1, propext (sd_congr h hz _ _).2, propext (sd_congr h hz _ _).2, propext (sd_congr h hwn _ _).2, propext (sd_congr h hwn _ _).2]
    exact q
theorem stn_congr {n : Nat} {X Y X' Y' : Nat → Int32} (h : ∀ j, j < n → X j = X' j ∧ Y j = Y' j) : stn n X Y ↔ stn n X' Y' :=
  ⟨stn_congr1 h, stn_congr1 (fun j hj => ⟨(h j hj).1.symm, (h j hj).2.symm⟩)⟩
noncomputable def aMiss (fs : Nat → Int32) (n : Nat) (x : Int32) : Int32 := match txt fs n with
  | none => -7
  | some (nc, fe, fn) => cif (0 ≤ x.toInt ∧ x.toInt ≤ 2) (cif (x = 0) (isum fe nc + 1000) (cif (x = 1) (isum fn nc + 1000) (isum (stp fe fn) nc))) (-2)
/-- a deed: its answer, and the outline if it stands -/
def DEED (fs : Nat → Int32) (n : Nat) (lo : Int32) (k : Nat) (x y yr r : Int32) (o : Option (Nat × (Nat → Int32) × (Nat → Int32))) : Prop :=
  (¬ (isP x y ∧ 1 ≤ yr.toInt ∧ yr.toInt ≤ 999) ∧ r = -2 ∧ o = none) ∨ ((isP x y ∧ 1 ≤ yr.toInt ∧ yr.toInt ≤ 999) ∧ txt fs n = none ∧ r = -7 ∧ o = none) ∨
  (isP x y ∧ 1 ≤ yr.toInt ∧ yr.toInt ≤ 999) ∧ ∃ nc fe fn, txt fs n = some (nc, fe, fn) ∧
    ((lo < ab (isum fe nc) + ab (isum fn nc) ∧ r = -5 ∧ o = none) ∨
     (¬ lo < ab (isum fe nc) + ab (isum fn nc) ∧ ¬ stn nc (crn nc x fe fe fn) (crn nc y fn fe fn) ∧ r = -8 ∧ o = none) ∨
     (¬ lo < ab (isum fe nc) + ab (isum fn nc) ∧ stn nc (crn nc x fe fe fn) (crn nc y fn fe fn) ∧ k = 6 ∧ r = -4 ∧ o = none) ∨
     (¬ lo < ab (isum fe nc) + ab (isum fn nc) ∧ stn nc (crn nc x fe fe fn) (crn nc y fn fe fn) ∧ ¬ k = 6 ∧ r = nI k ∧ o = some (nc, crn nc x fe fe fn, crn nc y fn fe fn)))
theorem DEED_inj {fs : Nat → Int32} {n : Nat} {lo : Int32} {k : Nat} {x y yr r r' : Int32} {o o' : Option (Nat × (Nat → Int32) × (Nat → Int32))} (h : DEED fs n lo k x y yr r o) (h' : DEED fs n lo k x y yr r' o') : r = r' ∧ o = o' := by
  rcases h with ⟨a, b, c⟩ | ⟨a, a2, b, c⟩ | ⟨a, nc, fe, fn, t, h⟩
  · rcases h' with ⟨-, b', c'⟩ | ⟨a', -⟩ | ⟨a', -⟩
    · exact ⟨b.trans b'.symm, c.trans c'.symm⟩
    · exact absurd a' a
    · exact absurd a' a
  · rcases h' with ⟨a', -⟩ | ⟨-, -, b', c'⟩ | ⟨-, nc', fe', fn', t', -⟩
    · exact absurd a a'
    · exact ⟨b.trans b'.symm, c.trans c'.symm⟩
    · rw [a2] at t'; exact absurd t' (by simp)
  · rcases h' with ⟨a', -⟩ | ⟨-, a2, -⟩ | ⟨-, nc', fe', fn', t', h'⟩
    · exact absurd a a'
    · rw [a2] at t; exact absurd t (by simp)
    · rw [t] at t'
      obtain ⟨rfl, rfl, rfl⟩ : nc = nc' ∧ fe = fe' ∧ fn = fn' := by simpa using t'
      rcases h with ⟨h1, h2, h3⟩ | ⟨h1, h2, h3, h4⟩ | ⟨h1, h2, h3, h4, h5⟩ | ⟨h1, h2, h3, h4, h5⟩ <;>
      rcases h' with ⟨g1, g2, g3⟩ | ⟨g1, g2, g3, g4⟩ | ⟨g1, g2, g3, g4, g5⟩ | ⟨g1, g2, g3, g4, g5⟩ <;>
      first | exact absurd h1 g1 | exact absurd g1 h1 | exact absurd h2 g2 | exact absurd g2 h2 | exact absurd h3 g3 | exact absurd g3 h3 | (subst_vars; exact ⟨rfl, rfl⟩)
/-- the state with one plot more -/
def ADD (S S1 : Nat → Int32) (k nc : Nat) (X Y : Nat → Int32) (yr : Int32) : Prop := S1 108 = nI (k + 1) ∧ S1 109 = S 109 ∧ S1 k = yr ∧ S1 (6 + k) = nI nc ∧ (∀ j, j < nc → S1 (12 + 8 * k + j) = X j ∧ S1 (60 + 8 * k + j) = Y j) ∧ ∀ q, q < k → rowE S1 q S q
/-- half way -/
def ADW (S S1 : Nat → Int32) (k nc : Nat) (X Y : Nat → Int32) (yr : Int32) (w : Nat) : Prop := S1 108 = nI k ∧ S1 109 = S 109 ∧ S1 k = yr ∧ S1 (6 + k) = nI nc ∧ (∀ j, j < w → S1 (12 + 8 * k + j) = X j ∧ S1 (60 + 8 * k + j) = Y j) ∧ ∀ q, q < k → rowE S1 q S q
theorem ADW_0 {S : Nat → Int32} {k nc : Nat} {X Y : Nat → Int32} {yr : Int32} (hk : k < 6) (h : S 108 = nI k) : ADW S (upd (upd S k yr) (6 + k) (nI nc)) k nc X Y yr 0 :=
  ⟨by rw [pk_un (by omega), pk_un (by omega)]; exact h, by rw [pk_un (by omega), pk_un (by omega)], by rw [pk_un (by omega), pk_us], pk_us, fun j hj => absurd hj (Nat.not_lt_zero _), fun q hq => rowE_un (rowE_un (rowE.rf S q) (by omega) (by omega) (fun j hj => by omega)) (by omega) (by omega) (fun j hj => by omega)⟩
theorem ADW_s {S S1 : Nat → Int32} {k nc : Nat} {X Y : Nat → Int32} {yr : Int32} {w : Nat} (hk : k < 6) (hw : w < 8) (h : ADW S S1 k nc X Y yr w) : ADW S (upd (upd S1 (12 + 8 * k + w) (X w)) (60 + 8 * k + w) (Y w)) k nc X Y yr (w + 1) := by
  obtain ⟨h1, h2, h3, h4, h5, h6⟩ := h
  refine ⟨by rw [pk_un (by omega), pk_un (by omega)]; exact h1, by rw [pk_un (by omega), pk_un (by omega)]; exact h2, by rw [pk_un (by omega), pk_un (by omega)]; exact h3, by rw [pk_un (by omega), pk_un (by omega)]; exact h4, fun j hj => ?_, fun q hq => ?_⟩
  · by_cases e : j = w
    · subst e; exact ⟨by rw [pk_un (by omega), pk_us], pk_us⟩
    · rw [pk_un (by omega), pk_un (by omega), pk_un (by omega), pk_un (by omega)]; exact h5 j (by omega)
  · exact rowE_un (rowE_un (h6 q hq) (by omega) (by omega) (fun j hj => by omega)) (by omega) (by omega) (fun j hj => by omega)
theorem ADW_e {S S1 : Nat → Int32} {k nc : Nat} {X Y X' Y' : Nat → Int32} {yr : Int32} (hk : k < 6) (hn : nc ≤ 8) (h : ADW S S1 k nc X Y yr nc) (hx : ∀ j, j < nc → X j = X' j ∧ Y j = Y' j) : ADD S (upd S1 108 (nI (k + 1))) k nc X' Y' yr := by
  obtain ⟨h1, h2, h3, h4, h5, h6⟩ := h
  refine ⟨pk_us, by rw [pk_un (by omega)]; exact h2, by rw [pk_un (by omega)]; exact h3, by rw [pk_un (by omega)]; exact h4, fun j hj => ?_, fun q hq => rowE_un (h6 q hq) (by omega) (by omega) (fun j hj => by omega)⟩
  rw [pk_un (by omega), pk_un (by omega), ← (hx j hj).1, ← (hx j hj).2]; exact h5 j hj
theorem ME_get {fs : Nat → Int32} {n nc : Nat} {rt up : Nat → Int32} {r : Int32} (h : MEnd fs n nc rt up r) (hn : n ≤ 48) (hr : r < 0) : ∃ fe fn, txt fs n = some (nc, fe, fn) ∧ tOK nc fe fn ∧ tOK nc rt up ∧ ∀ j, j < nc → rt j = fe j ∧ up j = fn j := by
  obtain ⟨S, h1, h2, h3, h4⟩ := h.2.2 ((FltIs_neg h.1 hn).mp hr)
  have ht := txt_ok h1 h2
  have hx := txt_some h1 h2
  rw [h3] at ht hx
  exact ⟨_, _, hx, ht, tOK_congr h4 ht, h4⟩
theorem ME_no {fs : Nat → Int32} {n nc : Nat} {rt up : Nat → Int32} {r : Int32} (h : MEnd fs n nc rt up r) (hn : n ≤ 48) (hr : ¬ r < 0) : txt fs n = none := txt_none h.1 (fun q => hr ((FltIs_neg h.1 hn).mpr q))
