theorem neg_t {N : Int} (h : N.natAbs < 2 ^ 57) (q : ¬ (0 : Int64) ≤ lI N) : -lI N = lN N.natAbs := by
  have ht : (lI N).toInt = N := lI_t (by omega) (by omega)
  rw [Int64.le_iff_toInt_le, ht] at q
  have h0 : (0 : Int64).toInt = 0 := rfl
  rw [lN_I, ← Int64.ofInt_neg]; congr 1; omega
theorem pos_t {N : Int} (h : N.natAbs < 2 ^ 57) (q : (0 : Int64) ≤ lI N) : lI N = lN N.natAbs := by
  have ht : (lI N).toInt = N := lI_t (by omega) (by omega)
  rw [Int64.le_iff_toInt_le, ht] at q
  have h0 : (0 : Int64).toInt = 0 := rfl
  rw [lN_I]; congr 1; omega
