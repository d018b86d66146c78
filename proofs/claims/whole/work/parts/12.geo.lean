/-! sides and corners: what the class and the reference look at, in whole numbers -/
theorem sgn_mul {ax ay bx bey cx cy dx dy : Int32} (ha : isP ax ay) (hb : isP bx bey) (hc : isP cx cy) (hd : isP dx dy) :
    sgn (tn ax ay bx bey cx cy) * sgn (tn ax ay bx bey dx dy) < 0 ↔ tn ax ay bx bey cx cy * tn ax ay bx bey dx dy < 0 := sorry
theorem fld_iff {n k : Nat} {X Y : Nat → Int32} (hk : k < n) (hj : nxt n k < n) (hp : ∀ z, z < n → isP (X z) (Y z)) (hm : ∀ z, z < n → ¬ mere n X Y z) :
    fld n X Y k (nxt n k) ↔ sdO n X Y k (X (nxt n (nxt n k))) (Y (nxt n (nxt n k))) ∨ sdO n X Y (nxt n k) (X k) (Y k) := sorry
theorem stn_iff {n : Nat} {X Y : Nat → Int32} (hn : 3 ≤ n) : stn n X Y ↔ (∀ z, z < n → isP (X z) (Y z) ∧ ¬ mere n X Y z) ∧ (∀ z, z < n → ¬ fld n X Y z (nxt n z)) ∧ ∀ z, z < n → ∀ w, w < n → ¬ w = z → ¬ w = nxt n z → ¬ z = nxt n w → ¬ tch n X Y z w := sorry
