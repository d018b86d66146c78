/-! rows of posts: bits -/
def bit (w : Int32) (x : Nat) : Prop := w.toUInt32.toNat.testBit x = true
noncomputable def cnt2 (P : Nat → Nat → Prop) : Nat → Nat
  | 0 => 0
  | y + 1 => cnt2 P y + cnt (P y) 32
theorem and_split {k A B C E : Nat} (hB : B < 2 ^ k) (hE : E < 2 ^ k) : (2 ^ k * A + B) &&& (2 ^ k * C + E) = 2 ^ k * (A &&& C) + (B &&& E) := by
  have hBE : B &&& E < 2 ^ k := Nat.lt_of_le_of_lt Nat.and_le_left hB
  apply Nat.eq_of_testBit_eq
  intro j
  rw [Nat.testBit_and, Nat.testBit_two_pow_mul_add _ hB, Nat.testBit_two_pow_mul_add _ hE, Nat.testBit_two_pow_mul_add _ hBE]
  split <;> rw [Nat.testBit_and]
def pf1 (t : Nat) : Nat := t - (t / 2 &&& 85)
def pf2 (t : Nat) : Nat := (t &&& 51) + (t / 4 &&& 51)
def pf3 (t : Nat) : Nat := (t + t / 16) &&& 15
def cntB (p : Nat → Bool) : Nat → Nat
  | 0 => 0
  | k + 1 => cntB p k + if p k then 1 else 0
theorem pf1_d : ∀ q, q < 2 → ∀ r, r < 256 → (128 * q + r / 2) &&& 85 = r / 2 &&& 85 ∧ (r / 2 &&& 85) ≤ r ∧ pf1 r < 256 := by decide +kernel
theorem pf2_d : ∀ q, q < 4 → ∀ r, r < 256 → (64 * q + r / 4) &&& 51 = r / 4 &&& 51 ∧ pf2 (pf1 r) ≤ 68 ∧ pf2 (pf1 r) % 16 ≤ 4 := by decide +kernel
theorem pf3_d : ∀ q, q < 5 → ∀ r, r < 256 → (pf2 (pf1 r) + (16 * q + pf2 (pf1 r) / 16)) &&& 15 = pf3 (pf2 (pf1 r)) ∧ pf3 (pf2 (pf1 r)) = cntB (fun j => r.testBit j) 8 ∧ pf3 (pf2 (pf1 r)) ≤ 8 := by decide +kernel
/-- the count in fields, byte by byte: m5, m3, mf are the masks of the higher bytes -/
theorem pf_step (m5 m3 mf q r : Nat) (hr : r < 256) (a1 b1 d1 : Nat) (h1 : a1 = q - (q / 2 &&& m5)) (h2 : b1 = (a1 &&& m3) + (a1 / 4 &&& m3)) (h3 : d1 = (b1 + b1 / 16) &&& mf) (hq : b1 % 16 ≤ 4) :
    (256 * q + r) - ((256 * q + r) / 2 &&& (256 * m5 + 85)) = 256 * a1 + pf1 r ∧
    ((256 * a1 + pf1 r) &&& (256 * m3 + 51)) + ((256 * a1 + pf1 r) / 4 &&& (256 * m3 + 51)) = 256 * b1 + pf2 (pf1 r) ∧
    ((256 * b1 + pf2 (pf1 r)) + (256 * b1 + pf2 (pf1 r)) / 16) &&& (256 * mf + 15) = 256 * d1 + pf3 (pf2 (pf1 r)) ∧ (256 * b1 + pf2 (pf1 r)) % 16 ≤ 4 := by
  obtain ⟨p1, p2, p3⟩ := pf1_d (q % 2) (by omega) r hr
  obtain ⟨s1, s2, s3⟩ := pf2_d (a1 % 4) (by omega) (pf1 r) p3
  obtain ⟨-, s4, s5⟩ := pf2_d 0 (by omega) r hr
  obtain ⟨t1, -, t3⟩ := pf3_d (b1 % 16) (by omega) r hr
  have e1 : (256 * q + r) / 2 = 2 ^ 8 * (q / 2) + (128 * (q % 2) + r / 2) := by omega
  have g1 : (256 * q + r) / 2 &&& (256 * m5 + 85) = 256 * (q / 2 &&& m5) + (r / 2 &&& 85) := by
    rw [e1, show 256 * m5 + 85 = 2 ^ 8 * m5 + 85 by omega, and_split (by omega) (by decide), p1]
  have l1 : (q / 2 &&& m5) ≤ q := Nat.le_trans Nat.and_le_left (by omega)
  have r1 : (256 * q + r) - ((256 * q + r) / 2 &&& (256 * m5 + 85)) = 256 * a1 + pf1 r := by
    rw [g1, h1]; unfold pf1; omega
  have e2 : (256 * a1 + pf1 r) / 4 = 2 ^ 8 * (a1 / 4) + (64 * (a1 % 4) + pf1 r / 4) := by omega
  have g2 : (256 * a1 + pf1 r) / 4 &&& (256 * m3 + 51) = 256 * (a1 / 4 &&& m3) + (pf1 r / 4 &&& 51) := by
    rw [e2, show 256 * m3 + 51 = 2 ^ 8 * m3 + 51 by omega, and_split (by omega) (by decide), s1]
  have g3 : (256 * a1 + pf1 r) &&& (256 * m3 + 51) = 256 * (a1 &&& m3) + (pf1 r &&& 51) := by
    rw [show 256 * a1 + pf1 r = 2 ^ 8 * a1 + pf1 r by omega, show 256 * m3 + 51 = 2 ^ 8 * m3 + 51 by omega, and_split (by omega) (by decide)]
  have r2 : ((256 * a1 + pf1 r) &&& (256 * m3 + 51)) + ((256 * a1 + pf1 r) / 4 &&& (256 * m3 + 51)) = 256 * b1 + pf2 (pf1 r) := by
    rw [g2, g3, h2]; unfold pf2; omega
  have e3 : (256 * b1 + pf2 (pf1 r)) + (256 * b1 + pf2 (pf1 r)) / 16 = 2 ^ 8 * (b1 + b1 / 16) + (pf2 (pf1 r) + (16 * (b1 % 16) + pf2 (pf1 r) / 16)) := by omega
  have r3 : ((256 * b1 + pf2 (pf1 r)) + (256 * b1 + pf2 (pf1 r)) / 16) &&& (256 * mf + 15) = 256 * d1 + pf3 (pf2 (pf1 r)) := by
    rw [e3, show 256 * mf + 15 = 2 ^ 8 * mf + 15 by omega, and_split (by omega) (by decide), t1, h3]
  exact ⟨r1, r2, r3, by omega⟩
theorem cnt_cntB (p : Nat → Bool) : ∀ k, cnt (fun j => p j = true) k = cntB p k
  | 0 => rfl
  | k + 1 => by
    by_cases h : p k = true
    · rw [cnt_t h, cnt_cntB p k]; show _ = _ + _; rw [if_pos h]
    · rw [cnt_f h, cnt_cntB p k]; show _ = _ + _; rw [if_neg h]; rfl
theorem cntB_add (p : Nat → Bool) (a : Nat) : ∀ b, cntB p (a + b) = cntB p a + cntB (fun j => p (a + j)) b
  | 0 => rfl
  | b + 1 => by show cntB p (a + b) + _ = _ + (_ + _); rw [cntB_add p a b, Nat.add_assoc]; rfl
theorem cntB_congr {p q : Nat → Bool} : ∀ k, (∀ j, j < k → p j = q j) → cntB p k = cntB q k
  | 0, _ => rfl
  | k + 1, h => by show _ + _ = _ + _; rw [cntB_congr k (fun j hj => h j (by omega)), h k (by omega)]
theorem popN (n : Nat) (hn : n < 2 ^ 32) {a b d : Nat} (ha : a = n - (n / 2 &&& 1431655765)) (hb : b = (a &&& 858993459) + (a / 4 &&& 858993459)) (hd : d = (b + b / 16) &&& 252645135) :
    ((d + d / 256) + (d + d / 256) / 65536) &&& 63 = cntB (fun j => n.testBit j) 32 ∧ b + b / 16 < 2 ^ 32 ∧ d + d / 256 < 2 ^ 31 ∧ (d + d / 256) + (d + d / 256) / 65536 < 2 ^ 31 ∧ b < 2 ^ 32 ∧ (n / 2 &&& 1431655765) ≤ n := by
  obtain ⟨t0, e0⟩ : ∃ t, t = n % 256 := ⟨_, rfl⟩
  obtain ⟨t1, e1⟩ : ∃ t, t = n / 256 % 256 := ⟨_, rfl⟩
  obtain ⟨t2, e2⟩ : ∃ t, t = n / 65536 % 256 := ⟨_, rfl⟩
  obtain ⟨t3, e3⟩ : ∃ t, t = n / 16777216 := ⟨_, rfl⟩
  have hn2 : n = 256 * (256 * (256 * t3 + t2) + t1) + t0 := by omega
  have b0 : t0 < 256 := by omega
  have b1 : t1 < 256 := by omega
  have b2 : t2 < 256 := by omega
  have b3 : t3 < 256 := by omega
  obtain ⟨-, q3, q4⟩ := pf2_d 0 (by omega) t3 b3
  have s2 := pf_step 85 51 15 t3 t2 b2 (pf1 t3) (pf2 (pf1 t3)) (pf3 (pf2 (pf1 t3))) rfl rfl rfl q4
  have s1 := pf_step 21845 13107 3855 (256 * t3 + t2) t1 b1 _ _ _ s2.1.symm s2.2.1.symm s2.2.2.1.symm s2.2.2.2
  have s0 := pf_step 5592405 3355443 986895 (256 * (256 * t3 + t2) + t1) t0 b0 _ _ _ s1.1.symm s1.2.1.symm s1.2.2.1.symm s1.2.2.2
  have h1 : a = _ := ha.trans (hn2 ▸ s0.1)
  have h2 : b = _ := hb.trans (h1 ▸ s0.2.1)
  have h3 : d = _ := hd.trans (h2 ▸ s0.2.2.1)
  obtain ⟨-, c0, g0⟩ := pf3_d 0 (by omega) t0 b0
  obtain ⟨-, c1, g1⟩ := pf3_d 0 (by omega) t1 b1
  obtain ⟨-, c2, g2⟩ := pf3_d 0 (by omega) t2 b2
  obtain ⟨-, c3, g3⟩ := pf3_d 0 (by omega) t3 b3
  obtain ⟨-, k0, -⟩ := pf2_d 0 (by omega) t0 b0
  obtain ⟨-, k1, -⟩ := pf2_d 0 (by omega) t1 b1
  obtain ⟨-, k2, -⟩ := pf2_d 0 (by omega) t2 b2
  have hbits : cntB (fun j => n.testBit j) 32 = pf3 (pf2 (pf1 t0)) + pf3 (pf2 (pf1 t1)) + pf3 (pf2 (pf1 t2)) + pf3 (pf2 (pf1 t3)) := by
    rw [show (32 : Nat) = 8 + (8 + (8 + 8)) from rfl, cntB_add, cntB_add, cntB_add, c0, c1, c2, c3]
    rw [cntB_congr (q := fun j => t0.testBit j) 8 (fun j hj => ?_), cntB_congr (p := fun j => n.testBit (8 + j)) (q := fun j => t1.testBit j) 8 (fun j hj => ?_), cntB_congr (p := fun j => n.testBit (8 + (8 + j))) (q := fun j => t2.testBit j) 8 (fun j hj => ?_), cntB_congr (p := fun j => n.testBit (8 + (8 + (8 + j)))) (q := fun j => t3.testBit j) 8 (fun j hj => ?_)]
    · omega
    · show n.testBit (8 + (8 + (8 + j))) = t3.testBit j
      rw [e3, show (16777216 : Nat) = 2 ^ 24 from rfl, Nat.testBit_div_two_pow]; congr 1; omega
    · show n.testBit (8 + (8 + j)) = t2.testBit j
      rw [e2, show (65536 : Nat) = 2 ^ 16 from rfl, show (256 : Nat) = 2 ^ 8 from rfl, Nat.testBit_mod_two_pow, Nat.testBit_div_two_pow, decide_eq_true hj, Bool.true_and]; congr 1; omega
    · show n.testBit (8 + j) = t1.testBit j
      rw [e1, show (256 : Nat) = 2 ^ 8 from rfl, Nat.testBit_mod_two_pow, Nat.testBit_div_two_pow, decide_eq_true hj, Bool.true_and]; congr 1; omega
    · show n.testBit j = t0.testBit j
      rw [e0, show (256 : Nat) = 2 ^ 8 from rfl, Nat.testBit_mod_two_pow, decide_eq_true hj, Bool.true_and]
  have hle : (n / 2 &&& 1431655765) ≤ n := Nat.le_trans Nat.and_le_left (by omega)
  rw [hbits, show (63 : Nat) = 2 ^ 6 - 1 from rfl, Nat.and_two_pow_sub_one_eq_mod]
  generalize pf3 (pf2 (pf1 t0)) = D0 at *
  generalize pf3 (pf2 (pf1 t1)) = D1 at *
  generalize pf3 (pf2 (pf1 t2)) = D2 at *
  generalize pf3 (pf2 (pf1 t3)) = D3 at *
  generalize pf2 (pf1 t0) = B0 at *
  generalize pf2 (pf1 t1) = B1 at *
  generalize pf2 (pf1 t2) = B2 at *
  generalize pf2 (pf1 t3) = B3 at *
  have h2 : b = 256 * (256 * (256 * B3 + B2) + B1) + B0 := h2
  have h3 : d = 256 * (256 * (256 * D3 + D2) + D1) + D0 := h3
  clear s0 s1 s2 ha hb hd h1 hbits c0 c1 c2 c3
  have z1 : d / 256 = 256 * (256 * D3 + D2) + D1 := by omega
  have z2 : d + d / 256 = 16777216 * D3 + 65536 * (D2 + D3) + 256 * (D1 + D2) + (D0 + D1) := by omega
  have z3 : (d + d / 256) / 65536 = 256 * D3 + (D2 + D3) := by omega
  refine ⟨?_, by omega, by omega, by omega, by omega, hle⟩
  rw [z3, z2]
  omega
theorem shN (z : Int32) : (z.toUInt32 >>> ((1 : Int32).toUInt32 &&& Int32.toUInt32 31)).toNat = z.toUInt32.toNat / 2 ∧ (z.toUInt32 >>> ((2 : Int32).toUInt32 &&& Int32.toUInt32 31)).toNat = z.toUInt32.toNat / 4 ∧ (z.toUInt32 >>> ((4 : Int32).toUInt32 &&& Int32.toUInt32 31)).toNat = z.toUInt32.toNat / 16 ∧ (z.toUInt32 >>> ((8 : Int32).toUInt32 &&& Int32.toUInt32 31)).toNat = z.toUInt32.toNat / 256 ∧ (z.toUInt32 >>> ((16 : Int32).toUInt32 &&& Int32.toUInt32 31)).toNat = z.toUInt32.toNat / 65536 := by
  refine ⟨?_, ?_, ?_, ?_, ?_⟩ <;> rw [UInt32.toNat_shiftRight, Nat.shiftRight_eq_div_pow] <;> congr 1
theorem i32_inj {a b : Int32} (h : a.toUInt32 = b.toUInt32) : a = b := by
  cases a; cases b; simpa using h
theorem bitc_eq2 (x : Int32) {a b d f g : Int32} (ha : a = x - ((x.toUInt32 >>> ((1 : Int32).toUInt32 &&& Int32.toUInt32 31)).toInt32 &&& 1431655765))
    (hb : b = (a &&& 858993459) + ((a.toUInt32 >>> ((2 : Int32).toUInt32 &&& Int32.toUInt32 31)).toInt32 &&& 858993459))
    (hd : d = (b + (b.toUInt32 >>> ((4 : Int32).toUInt32 &&& Int32.toUInt32 31)).toInt32) &&& 252645135)
    (hf : f = d + (d.toUInt32 >>> ((8 : Int32).toUInt32 &&& Int32.toUInt32 31)).toInt32)
    (hg : g = f + (f.toUInt32 >>> ((16 : Int32).toUInt32 &&& Int32.toUInt32 31)).toInt32) : g &&& 63 = nI (cnt (bit x) 32) := by
  have hn : x.toUInt32.toNat < 2 ^ 32 := x.toUInt32.toNat_lt
  obtain ⟨n, en⟩ : ∃ n, n = x.toUInt32.toNat := ⟨_, rfl⟩
  rw [← en] at hn
  have ea : a.toUInt32.toNat = n - (n / 2 &&& 1431655765) := by
    rw [ha]
    rw [Int32.toUInt32_sub, UInt32.toNat_sub, Int32.toUInt32_and, UInt32.toUInt32_toInt32, UInt32.toNat_and, (shN x).1, ← en, show (1431655765 : Int32).toUInt32.toNat = 1431655765 from rfl]
    have := Nat.le_trans (Nat.and_le_left (n := n / 2) (m := 1431655765)) (Nat.div_le_self n 2)
    omega
  have eb : b.toUInt32.toNat = ((a.toUInt32.toNat &&& 858993459) + (a.toUInt32.toNat / 4 &&& 858993459)) % 2 ^ 32 := by
    rw [hb, Int32.toUInt32_add, UInt32.toNat_add, Int32.toUInt32_and, Int32.toUInt32_and, UInt32.toUInt32_toInt32, UInt32.toNat_and, UInt32.toNat_and, (shN a).2.1]
    rfl
  obtain ⟨p0, p1, p2, p3, p4, p5⟩ := popN n hn rfl rfl rfl
  rw [ea, Nat.mod_eq_of_lt p4] at eb
  have ed : d.toUInt32.toNat = (b.toUInt32.toNat + b.toUInt32.toNat / 16) % 2 ^ 32 &&& 252645135 := by
    rw [hd, Int32.toUInt32_and, UInt32.toNat_and, Int32.toUInt32_add, UInt32.toNat_add, UInt32.toUInt32_toInt32, (shN b).2.2.1]
    rfl
  rw [eb, Nat.mod_eq_of_lt p1] at ed
  have ef : f.toUInt32.toNat = (d.toUInt32.toNat + d.toUInt32.toNat / 256) % 2 ^ 32 := by
    rw [hf, Int32.toUInt32_add, UInt32.toNat_add, UInt32.toUInt32_toInt32, (shN d).2.2.2.1]
  rw [ed, Nat.mod_eq_of_lt (Nat.lt_trans p2 (by decide))] at ef
  have eg : g.toUInt32.toNat = (f.toUInt32.toNat + f.toUInt32.toNat / 65536) % 2 ^ 32 := by
    rw [hg, Int32.toUInt32_add, UInt32.toNat_add, UInt32.toUInt32_toInt32, (shN f).2.2.2.2]
  rw [ef, Nat.mod_eq_of_lt (Nat.lt_trans p3 (by decide))] at eg
  have hc : cnt (bit x) 32 = cntB (fun j => n.testBit j) 32 := by rw [en]; exact cnt_cntB (fun j => x.toUInt32.toNat.testBit j) 32
  have hc32 : cntB (fun j => n.testBit j) 32 ≤ 32 := by rw [← hc]; exact cnt_le _ _
  have er : (g &&& 63).toUInt32.toNat = cntB (fun j => n.testBit j) 32 := by
    rw [Int32.toUInt32_and, UInt32.toNat_and, eg]; exact p0
  have e1 : (nI (cnt (bit x) 32)).toUInt32.toNat = cntB (fun j => n.testBit j) 32 := by
    rw [hc]
    generalize cntB (fun j => n.testBit j) 32 = z at hc32
    have : ∀ z, z < 33 → (nI z).toUInt32.toNat = z := by decide +kernel
    exact this z (by omega)
  exact i32_inj (UInt32.toNat_inj.mp (er.trans e1.symm))
theorem bitc_eq (x : Int32) : (let a := x - ((x.toUInt32 >>> ((1 : Int32).toUInt32 &&& Int32.toUInt32 31)).toInt32 &&& 1431655765)
    let b := (a &&& 858993459) + ((a.toUInt32 >>> ((2 : Int32).toUInt32 &&& Int32.toUInt32 31)).toInt32 &&& 858993459)
    let d := (b + (b.toUInt32 >>> ((4 : Int32).toUInt32 &&& Int32.toUInt32 31)).toInt32) &&& 252645135
    let f := d + (d.toUInt32 >>> ((8 : Int32).toUInt32 &&& Int32.toUInt32 31)).toInt32
    let g := f + (f.toUInt32 >>> ((16 : Int32).toUInt32 &&& Int32.toUInt32 31)).toInt32
    g &&& 63) = nI (cnt (bit x) 32) := bitc_eq2 x rfl rfl rfl rfl rfl
theorem isIn_bit {w : Int32} {x : Nat} (hx : x < 32) : (w.toUInt32 >>> ((nI x).toUInt32 &&& Int32.toUInt32 31)).toInt32 &&& 1 = 1 ↔ bit w x := by
  have h1 : ∀ x, x < 32 → ((nI x).toUInt32 &&& Int32.toUInt32 31).toNat % 32 = x := by decide +kernel
  unfold bit
  have h2 : ((w.toUInt32 >>> ((nI x).toUInt32 &&& Int32.toUInt32 31)).toInt32 &&& 1).toUInt32.toNat = w.toUInt32.toNat >>> x &&& 1 := by
    rw [Int32.toUInt32_and, UInt32.toNat_and, UInt32.toUInt32_toInt32, UInt32.toNat_shiftRight, h1 x hx]; rfl
  have h3 : w.toUInt32.toNat >>> x &&& 1 = (w.toUInt32.toNat >>> x) % 2 := Nat.and_one_is_mod _
  have h4 : w.toUInt32.toNat.testBit x = decide ((w.toUInt32.toNat >>> x) % 2 = 1) := by
    rw [Nat.testBit_eq_decide_div_mod_eq, Nat.shiftRight_eq_div_pow]
  rw [h4, decide_eq_true_eq]
  constructor
  · intro q; rw [q] at h2; rw [← h3, ← h2]; rfl
  · intro q; apply i32_inj; apply UInt32.toNat_inj.mp; rw [h2, h3, q]; rfl
theorem bit_and (a b : Int32) (x : Nat) (hx : x < 32) : bit (a &&& b) x ↔ bit a x ∧ bit b x := by
  unfold bit; rw [Int32.toUInt32_and, UInt32.toNat_and, Nat.testBit_and, Bool.and_eq_true]
theorem bit_or (a b : Int32) (x : Nat) (hx : x < 32) : bit (a ||| b) x ↔ bit a x ∨ bit b x := by
  unfold bit; rw [Int32.toUInt32_or, UInt32.toNat_or, Nat.testBit_or, Bool.or_eq_true]
theorem bit_xor (a b : Int32) (x : Nat) (hx : x < 32) : bit (a ^^^ b) x ↔ ¬ (bit a x ↔ bit b x) := by
  unfold bit; rw [Int32.toUInt32_xor, UInt32.toNat_xor, Nat.testBit_xor]; cases Nat.testBit _ _ <;> cases Nat.testBit _ _ <;> simp
/-- the rows of those of the first k that P names, one over the other -/
noncomputable def orr (P : Nat → Prop) (h : Nat → Int32) : Nat → Int32
  | 0 => 0
  | k + 1 => @ite _ (P k) (Classical.propDecidable _) (orr P h k ||| h k) (orr P h k)
theorem orr_t {P : Nat → Prop} {h : Nat → Int32} {k : Nat} (hp : P k) : orr P h (k + 1) = orr P h k ||| h k := if_pos hp
theorem orr_f {P : Nat → Prop} {h : Nat → Int32} {k : Nat} (hp : ¬ P k) : orr P h (k + 1) = orr P h k := if_neg hp
noncomputable def ags (h : Nat → Int32) : Nat → Int32
  | 0 => 0
  | k + 1 => ags h k ||| (orr (fun _ => True) h k &&& h k)
/-- whose the right is, of the first k -/
noncomputable def own (hd : Nat → Prop) (yr : Nat → Int32) : Nat → Option Nat
  | 0 => none
  | k + 1 => @ite _ (hd k ∧ (own hd yr k = none ∨ ∃ o, own hd yr k = some o ∧ old yr k o)) (Classical.propDecidable _) (some k) (own hd yr k)
theorem own_t {hd : Nat → Prop} {yr : Nat → Int32} {k : Nat} (h1 : hd k) (h2 : own hd yr k = none ∨ ∃ o, own hd yr k = some o ∧ old yr k o) : own hd yr (k + 1) = some k := if_pos ⟨h1, h2⟩
theorem own_f {hd : Nat → Prop} {yr : Nat → Int32} {k : Nat} (h : ¬ (hd k ∧ (own hd yr k = none ∨ ∃ o, own hd yr k = some o ∧ old yr k o))) : own hd yr (k + 1) = own hd yr k := if_neg h
theorem own_lt (hd : Nat → Prop) (yr : Nat → Int32) : ∀ k o, own hd yr k = some o → o < k
  | 0, o, h => by simp [own] at h
  | k + 1, o, h => by
    by_cases q : hd k ∧ (own hd yr k = none ∨ ∃ o, own hd yr k = some o ∧ old yr k o)
    · rw [own_t q.1 q.2] at h; cases h; omega
    · rw [own_f q] at h; have := own_lt hd yr k o h; omega
def oI (r : Option Nat) : Int32 := match r with
  | none => -6
  | some j => nI j
theorem oI_none {r : Option Nat} (h : oI r = -6) (hb : ∀ o, r = some o → o < 2 ^ 31 := by intro o ho; have := own_lt _ _ _ _ ho; omega) : r = none := by
  cases r with
  | none => rfl
  | some j =>
    have h1 := congrArg Int32.toInt h
    have h2 : (nI j).toInt = -6 := h1.trans li_m6
    rw [nI_toInt (hb j rfl)] at h2
    omega
theorem oI_some {r : Option Nat} {k : Nat} (hb : ∀ o, r = some o → o < k) (h : ¬ oI r = -6) : ∃ o, r = some o ∧ o < k := by
  cases r with
  | none => exact absurd rfl h
  | some j => exact ⟨j, rfl, hb j rfl⟩
/-- the plots of an estate: each at its address, with the posts that it holds -/
def PO (D : va_G) (cI : ClassId) (fp : Nat → Option Nat) (k : Nat) (hd : Nat → Nat → Int32) (H : Heap) : Prop := ∀ j, j < k → ∃ pa o1 o2 o3 o4 o5 : Nat, fp j = some pa ∧ va_P D vwCl [(pa, .inr (4, [.ref o1, .ref o2, .ref o3, .ref o4, .ref o5])), (o5, .inl (cI, 32, .inl (hd j)))] H
