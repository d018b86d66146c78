/-! a plot's text as it is written anew -/
def leg (d a b : Int32) : List Int32 := if d = 0 then [] else (if d ≤ 0 then b else a) :: ((if ab d ≤ 9 then [] else [48 + ab d / 10]) ++ [48 + (ab d - ab d / 10 * 10)])
def wrt (n : Nat) (X Y : Nat → Int32) : Nat → List Int32
  | 0 => []
  | k + 1 => wrt n X Y k ++ (if k = 0 then [] else [59]) ++ leg (Y (nxt n k) - Y k) 110 115 ++ leg (X (nxt n k) - X k) 101 119
theorem leg_len (d a b : Int32) : (leg d a b).length ≤ 3 := by
  unfold leg; split
  · exact Nat.zero_le _
  · split <;> simp <;> split <;> simp
theorem wrt_len (n : Nat) (X Y : Nat → Int32) : ∀ k, (wrt n X Y k).length ≤ 7 * k
  | 0 => Nat.zero_le _
  | k + 1 => by
    have h1 := wrt_len n X Y k
    have h2 := leg_len (Y (nxt n k) - Y k) 110 115
    have h3 := leg_len (X (nxt n k) - X k) 101 119
    have h4 : (if k = 0 then ([] : List Int32) else [59]).length ≤ 1 := by split <;> simp
    simp only [wrt, List.length_append]
    omega
theorem wrt_congr {n : Nat} {X Y X' Y' : Nat → Int32} (h : ∀ j, j < n → X j = X' j ∧ Y j = Y' j) : ∀ k, k ≤ n → wrt n X Y k = wrt n X' Y' k
  | 0, _ => rfl
  | k + 1, hk => by
    have h1 := h k (by omega)
    have h2 := h (nxt n k) (nxt_lt (by omega))
    simp only [wrt]
    rw [wrt_congr h k (by omega), h1.1, h1.2, h2.1, h2.2]
def rowIs (g : Nat → Int32) (wt : List Int32) : Prop := ∀ j, j < wt.length → wt[j]? = some (g j)
theorem rowIs_nil (g : Nat → Int32) : rowIs g [] := fun _ h => absurd h (Nat.not_lt_zero _)
theorem rowIs_app {g : Nat → Int32} {wt : List Int32} {k : Nat} {x : Int32} (h : rowIs g wt) (hk : k = wt.length) : rowIs (upd g k x) (wt ++ [x]) := by
  subst hk
  intro j hj
  rw [List.length_append, List.length_singleton] at hj
  by_cases e : j = wt.length
  · subst e; rw [pk_us, List.getElem?_append_right (Nat.le_refl _), Nat.sub_self]; rfl
  · rw [pk_un e, List.getElem?_append_left (by omega)]; exact h j (by omega)
theorem nI_len1 (wt : List Int32) (x : Int32) : nI wt.length + 1 = nI (wt ++ [x]).length := by rw [nI_1, List.length_append]; rfl
noncomputable def aSign (k : Nat) (pn : PN) (PX PY : PF) (p q : Int32) : Int32 := cif (inP k p)
  (cif (q = -1) (nI (wrt (pn (ix p)) (PX (ix p)) (PY (ix p)) (pn (ix p))).length) (cif (inP (wrt (pn (ix p)) (PX (ix p)) (PY (ix p)) (pn (ix p))).length q) ((wrt (pn (ix p)) (PX (ix p)) (PY (ix p)) (pn (ix p))).getD (ix q) 0) (-6))) (-1)
theorem rowIs_get {g : Nat → Int32} {wt : List Int32} {j : Nat} (h : rowIs g wt) (hj : j < wt.length) : g j = wt.getD j 0 := by
  rw [List.getD_eq_getElem?_getD, h j hj]; rfl
