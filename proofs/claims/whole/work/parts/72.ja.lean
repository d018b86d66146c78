/-! digits -/
def dg (k : Nat) : List Int32 := if k < 10 then [nI (48 + k % 10)] else [nI (48 + k / 10), nI (48 + k % 10)]
theorem dg_len (k : Nat) : (dg k).length = if k < 10 then 1 else 2 := by unfold dg; split <;> rfl
theorem ltr_nI {k : Nat} (h : k < 128) : ltr (nI k) := by unfold ltr; rw [nI_toInt (by omega)]; omega
theorem neg_t32 {k : Nat} (h : k ≤ 99) : (-nI k).toInt = -(k : Int) := by rw [tI_neg (by rw [nI_toInt (by omega)]; omega), nI_toInt (by omega)]
theorem nI_m1 {k : Nat} (h : 1 ≤ k) : nI k + (-1) = nI (k - 1) := by rw [← Int32.sub_eq_add_neg]; exact nI_sub1 h
theorem cap_b {k : Nat} (h : cap k) : 16 ≤ k ∧ k ≤ 70 := by unfold cap at h; omega
theorem cap_s {k q : Nat} (h : cap k) (h1 : k < q) (h2 : q ≤ 64) (h3 : q ≤ k + 3) : cap (2 * k + 2) ∧ q ≤ 2 * k + 2 ∧ 2 * k + 2 ≤ 70 := by unfold cap at *; omega
def gcs (a : Nat → Int32) (k ix : Nat) : Nat → Int32 := if k < 10 then upd a (ix - 1) (nI (48 + k % 10)) else upd (upd a (ix - 1) (nI (48 + k % 10))) (ix - 2) (nI (48 + k / 10))
theorem gcs_row {a : Nat → Int32} {wt : List Int32} {k : Nat} (h : rowIs a wt) (hk : k ≤ 31) : rowIs (gcs a k (wt.length + (dg k).length)) (wt ++ dg k) := by
  unfold gcs
  by_cases q : k < 10
  · rw [if_pos q, show dg k = [nI (48 + k % 10)] from if_pos q]
    exact rowIs_app h rfl
  · rw [if_neg q, show dg k = [nI (48 + k / 10), nI (48 + k % 10)] from if_neg q]
    have e : wt ++ [nI (48 + k / 10), nI (48 + k % 10)] = wt ++ [nI (48 + k / 10)] ++ [nI (48 + k % 10)] := by simp
    rw [e]
    show rowIs (upd (upd a (wt.length + 2 - 1) _) (wt.length + 2 - 2) _) _
    have e2 : upd (upd a (wt.length + 2 - 1) (nI (48 + k % 10))) (wt.length + 2 - 2) (nI (48 + k / 10)) = upd (upd a wt.length (nI (48 + k / 10))) (wt.length + 1) (nI (48 + k % 10)) := by
      funext j
      rw [show wt.length + 2 - 1 = wt.length + 1 by omega, show wt.length + 2 - 2 = wt.length by omega]
      by_cases a1 : j = wt.length
      · subst a1; rw [pk_us, pk_un (by omega), pk_us]
      · rw [pk_un a1]
        by_cases a2 : j = wt.length + 1
        · subst a2; rw [pk_us, pk_us]
        · rw [pk_un a2, pk_un a2, pk_un a1]
    rw [e2]
    exact rowIs_app (rowIs_app h rfl) (by rw [List.length_append]; rfl)
theorem gcs_lat {a : Nat → Int32} {k ix : Nat} (h : lat a) (hk : k ≤ 31) : lat (gcs a k ix) := by
  unfold gcs
  split
  · exact lat_up h (ltr_nI (by omega))
  · exact lat_up (lat_up h (ltr_nI (by omega))) (ltr_nI (by omega))
def adz (d : Int32) : Nat := d.toInt.natAbs
theorem ab_adz {d : Int32} (h : -31 ≤ d.toInt ∧ d.toInt ≤ 31) : ab d = nI (adz d) ∧ adz d ≤ 31 := by
  have e : adz d ≤ 31 := by unfold adz; omega
  refine ⟨Int32.toInt_inj.mp ?_, e⟩
  rw [ab_t (by omega) (by omega), nI_toInt (by omega)]
  rfl
theorem leg_dg {d a b : Int32} (h : -31 ≤ d.toInt ∧ d.toInt ≤ 31) (h0 : ¬ d = 0) : leg d a b = (if d ≤ 0 then b else a) :: dg (adz d) := by
  obtain ⟨e, he⟩ := ab_adz h
  unfold leg
  rw [if_neg h0, e]
  congr 1
  generalize adz d = k at *
  have : ∀ k, k ≤ 31 → ((if nI k ≤ 9 then ([] : List Int32) else [48 + nI k / 10]) ++ [48 + (nI k - nI k / 10 * 10)]) = dg k := by
    have : ∀ k, k < 32 → ((if nI k ≤ 9 then ([] : List Int32) else [48 + nI k / 10]) ++ [48 + (nI k - nI k / 10 * 10)]) = dg k := by decide +kernel
    exact fun k hk => this k (by omega)
  exact this k he
theorem stringSize {k : Nat} (hk : k ≤ 99) : (-nI k ≤ -10 ↔ ¬ k < 10) := by
  rw [Int32.le_iff_toInt_le, neg_t32 hk, show (-10 : Int32).toInt = -10 from rfl]; omega
theorem ge9 {k : Nat} (hk : k ≤ 99) : ((-9 : Int32) ≤ -nI k ↔ k < 10) := by
  rw [Int32.le_iff_toInt_le, neg_t32 hk, show (-9 : Int32).toInt = -9 from rfl]; omega
theorem mxn {a b : Nat} (h : a ≤ b) (hb : b < 2 ^ 31) : mx (nI a) (nI b) = nI b := by
  unfold mx
  by_cases e : nI a < nI b
  · rw [if_pos e]
  · rw [if_neg e]; rw [Int32.lt_iff_toInt_lt, nI_toInt (by omega), nI_toInt hb] at e; congr 1; omega
theorem mnn {a b : Nat} (h : a ≤ b) (hb : b < 2 ^ 31) : mn (nI a) (nI b) = nI a := by
  unfold mn
  rw [if_neg]
  rw [Int32.lt_iff_toInt_lt, nI_toInt hb, nI_toInt (by omega)]; omega
theorem mnn2 {a b : Nat} (h : a ≤ b) (hb : b < 2 ^ 31) : mn (nI b) (nI a) = nI a := by
  unfold mn
  by_cases e : nI a < nI b
  · rw [if_pos e]
  · rw [if_neg e]; rw [Int32.lt_iff_toInt_lt, nI_toInt (by omega), nI_toInt hb] at e; congr 1; omega
theorem lat_clone {cB : ClassId} {n : Nat} {f : Nat → Int32} (h : lat f) : ∀ (i : Nat) (v : Value), (vp_cell cB (n, .inl f)).slots[i]? = some v → fits .byte v = true := by
  intro i v hv
  have : v = .int (f i) := by
    have h9 := hv
    simp [vp_cell, arrV] at h9
    obtain ⟨h10, h11⟩ := Array.getElem?_eq_some_iff.mp h9
    rw [← h11, Array.getElem_ofFn]
  rw [this]; exact ltr_fits (h i)
theorem ltr_nc {x : Int32} (h : ltr x) : narrow .char (.int x) = .int x := by
  obtain ⟨j, hj, rfl⟩ := ltr_nat h
  have : ∀ j, j < 128 → narrow .char (.int (nI j)) = .int (nI j) := by decide +kernel
  exact this j hj
