/-! the pool of plots, and the class's answers -/
/-- a plot's data: the addresses of its cells, how many corners, its rows, its text -/
abbrev PD : Type := (Nat → Nat) × Nat × (Nat → Nat → Int32) × List Int32
abbrev plw (cI cB : ClassId) (a : Nat) (d : PD) : va_W := [(a, .inr (4, [.ref (d.1 1), .ref (d.1 2), .ref (d.1 3), .ref (d.1 4), .ref (d.1 5)])), (d.1 1, .inr (3, [.ref (d.1 6), .ref (d.1 7), .int (nI d.2.1)])), (d.1 6, .inl (cI, d.2.1, .inl (d.2.2.1 0))), (d.1 7, .inl (cI, d.2.1, .inl (d.2.2.1 1))),
  (d.1 2, .inr (0, [.ref (d.1 8), .int 0, .int 0, .int 0])), (d.1 8, .inl (cB, d.2.2.2.length, .inl (d.2.2.1 2))), (d.1 3, .inl (cI, 32, .inl (d.2.2.1 3))), (d.1 4, .inl (cI, 32, .inl (d.2.2.1 4))), (d.1 5, .inl (cI, 32, .inl (d.2.2.1 5)))]
def PLA (D : va_G) (cI cB : ClassId) (Pl : Nat → Option PD) (H : Heap) : Prop := ∀ a d, Pl a = some d → va_P D vwCl (plw cI cB a d) H
def PDok (d : PD) (nn : Nat) (X Y : Nat → Int32) : Prop := d.2.1 = nn ∧ 3 ≤ nn ∧ nn ≤ 8 ∧ (∀ j, j < nn → d.2.2.1 0 j = X j ∧ d.2.2.1 1 j = Y j) ∧ stn nn X Y ∧ d.2.2.2 = wrt nn X Y nn ∧ rowIs (d.2.2.1 2) (wrt nn X Y nn) ∧ lat (d.2.2.1 2) ∧ plL nn X Y (d.2.2.1 3) (d.2.2.1 4) (d.2.2.1 5)
def PLok (Pl : Nat → Option PD) (fp : Nat → Option Nat) (k : Nat) (pn : PN) (PX PY : PF) : Prop := ∀ j, j < k → ∃ a d, fp j = some a ∧ Pl a = some d ∧ PDok d (pn j) (PX j) (PY j)
def FPin (Pl : Nat → Option PD) (fp : Nat → Option Nat) : Prop := ∀ j, j < 6 → ∀ a, fp j = some a → ∃ d, Pl a = some d
def hdP (Pl : Nat → Option PD) (fp : Nat → Option Nat) (j : Nat) : Nat → Int32 := match fp j with
  | none => fun _ => 0
  | some a => match Pl a with
    | none => fun _ => 0
    | some d => d.2.2.1 5
section AN
variable {D : va_G} {cI cB : ClassId} {Pl : Nat → Option PD} {fp : Nat → Option Nat} {k : Nat} {pn : PN} {PX PY : PF} {H : Heap}
theorem hdP_e {j a : Nat} {d : PD} (h1 : fp j = some a) (h2 : Pl a = some d) : hdP Pl fp j = d.2.2.1 5 := by unfold hdP; rw [h1]; show (match Pl a with | none => fun _ => 0 | some d => d.2.2.1 5) = _; rw [h2]
theorem EP_of (h : FPin Pl fp) (hE : PLA D cI cB Pl H) : EP D fp H := by
  intro j hj a ha
  obtain ⟨d, hd⟩ := h j hj a ha
  exact ⟨_, (hE a d hd).sub [0] rfl⟩
theorem PO_of (h : PLok Pl fp k pn PX PY) (hE : PLA D cI cB Pl H) : PO D cI fp k (hdP Pl fp) H := by
  intro j hj
  obtain ⟨a, d, h1, h2, -⟩ := h j hj
  refine ⟨a, d.1 1, d.1 2, d.1 3, d.1 4, d.1 5, h1, ?_⟩
  rw [hdP_e h1 h2]
  exact (hE a d h2).sub [0, 8] rfl
theorem hd_bit (h : PLok Pl fp k pn PX PY) {j y x : Nat} (hj : j < k) (hy : y < 32) (hx : x < 32) : bit (hdP Pl fp j y) x ↔ 0 < lies (pn j) (PX j) (PY j) (nI x) (nI y) := by
  obtain ⟨a, d, h1, h2, ok⟩ := h j hj
  rw [hdP_e h1 h2]
  exact (ok.2.2.2.2.2.2.2.2 y hy x hx).2.2
theorem hd_q (h : PLok Pl fp k pn PX PY) {j y x : Nat} (hj : j < k) (hy : y < 32) (hx : x < 32) : bit (hdP Pl fp j y) x ↔ hlp pn PX PY j (32 * y + x) := by
  unfold hlp
  rw [(q_xy hx).1, (q_xy hx).2]; exact hd_bit h hj hy hx
theorem right_cls (h : PLok Pl fp k pn PX PY) {yr : Nat → Int32} {xx yy : Nat} {x y : Int32} (hp : isP x y) (ex : x = nI xx) (ey : y = nI yy) (hx : xx < 32) (hy : yy < 32) : oI (own (fun z => bit (hdP Pl fp z yy) xx) yr k) = aRight k pn PX PY yr x y := by
  unfold aRight ownr
  rw [cif_t hp, ex, ey, ix_nI (by omega), ix_nI (by omega)]
  congr 1
  exact own_congr k (fun z hz => hd_q h hz hy hx)
theorem lost_cls (h : PLok Pl fp k pn PX PY) {yr : Nat → Int32} {o : Nat} (ho : o < k) : nI (cnt2 (fun y x => bit (hdP Pl fp o y) x ∧ bit (orr (fun z => old yr z o) (fun z => hdP Pl fp z y) k) x) 32) = aLost k pn PX PY yr o := by
  unfold aLost
  congr 1
  apply cnt2_c
  intro y hy x hx
  rw [hd_q h ho hy hx, orr_bit hx]
  constructor
  · rintro ⟨a, z, b1, b2, b3⟩
    refine ⟨a, (own_not (hd := fun z => hlp pn PX PY z (32 * y + x)) ho a).mpr ⟨z, b1, b2, (hd_q h b1 hy hx).mp b3⟩⟩
  · rintro ⟨a, b⟩
    obtain ⟨z, b1, b2, b3⟩ := (own_not (hd := fun z => hlp pn PX PY z (32 * y + x)) ho a).mp b
    exact ⟨a, z, b1, b2, (hd_q h b1 hy hx).mpr b3⟩
theorem more_cls (h : PLok Pl fp k pn PX PY) : nI (cnt2 (fun y x => bit (ags (fun z => hdP Pl fp z y) k) x) 32) = aMore k pn PX PY := by
  unfold aMore
  congr 1
  apply cnt2_c
  intro y hy x hx
  rw [(ags_bit hx k).2, cnt_congr k (fun z hz => hd_q h hz hy hx)]
theorem free_cls (h : PLok Pl fp k pn PX PY) : ∀ j, (j < 1024 ∧ bit ((fun y => orr (fun _ => True) (fun z => hdP Pl fp z y) k ^^^ (-1)) (j / 32)) (j % 32)) ↔ free_ k pn PX PY j := by
  intro j
  unfold free_
  have m1 := bit_m1 (x := j % 32) (by omega)
  constructor
  · rintro ⟨a, b⟩
    refine ⟨a, fun p hp q => ?_⟩
    have b' := (bit_xor _ _ _ (show j % 32 < 32 by omega)).mp b
    apply b'
    refine ⟨fun _ => m1, fun _ => (orr_bit (by omega) k).mpr ⟨p, hp, trivial, (hd_q h hp (by omega) (by omega)).mpr ?_⟩⟩
    rw [show 32 * (j / 32) + j % 32 = j by omega]; exact q
  · rintro ⟨a, b⟩
    refine ⟨a, (bit_xor _ _ _ (show j % 32 < 32 by omega)).mpr (fun q => ?_)⟩
    obtain ⟨p, hp, -, c⟩ := (orr_bit (by omega) k).mp (q.mpr m1)
    have c' := (hd_q h hp (by omega) (by omega)).mp c
    rw [show 32 * (j / 32) + j % 32 = j by omega] at c'
    exact b p hp c'
theorem gap0_cls (h : PLok Pl fp k pn PX PY) : cnt2 (fun y x => bit ((fun y => orr (fun _ => True) (fun z => hdP Pl fp z y) k ^^^ (-1)) y) x) 32 = (gpS (free_ k pn PX PY) 1024).2.1 := by
  rw [gpS_all free_lt]
  apply cnt2_c
  intro y hy x hx
  rw [← free_cls h, show (32 * y + x) / 32 = y by omega, show (32 * y + x) % 32 = x by omega]
  exact ⟨fun q => ⟨by omega, q⟩, fun q => q.2⟩
theorem gap_cls (h : PLok Pl fp k pn PX PY) (x : Int32) (hx : 0 ≤ x.toInt ∧ x.toInt ≤ 4) : (x = 0 → nI (cnt2 (fun y x => bit ((fun y => orr (fun _ => True) (fun z => hdP Pl fp z y) k ^^^ (-1)) y) x) 32) = aGap (free_ k pn PX PY) x) ∧ (x = 1 → nI (gpS (free_ k pn PX PY) 1024).2.2.1 = aGap (free_ k pn PX PY) x) ∧ (x = 2 → nI (gpS (free_ k pn PX PY) 1024).2.2.2.1 = aGap (free_ k pn PX PY) x) ∧
    (x = 3 → fX (gpS (free_ k pn PX PY) 1024).2.2.2.2 = aGap (free_ k pn PX PY) x) ∧ (¬ x = 0 → ¬ x = 1 → ¬ x = 2 → ¬ x = 3 → fY (gpS (free_ k pn PX PY) 1024).2.2.2.2 = aGap (free_ k pn PX PY) x) := by
  unfold aGap
  rw [cif_t hx, gap0_cls h]
  refine ⟨fun e => by rw [cif_t e], fun e => by rw [cif_f (by rw [e]; decide), cif_t e], fun e => by rw [cif_f (by rw [e]; decide), cif_f (by rw [e]; decide), cif_t e], fun e => ?_, fun e0 e1 e2 e3 => ?_⟩
  · rw [cif_f (by rw [e]; decide), cif_f (by rw [e]; decide), cif_f (by rw [e]; decide), cif_t e]
    unfold fX
    by_cases q : (gpS (free_ k pn PX PY) 1024).2.2.2.2 < 0
    · rw [if_pos q, cif_t q]
    · rw [if_neg q, cif_f q]
  · rw [cif_f e0, cif_f e1, cif_f e2, cif_f e3]
    unfold fY
    by_cases q : (gpS (free_ k pn PX PY) 1024).2.2.2.2 < 0
    · rw [if_pos q, cif_t q]
    · rw [if_neg q, cif_f q]
theorem lies_cls {x0 x y : Int32} {j0 xx yy : Nat} {fi fs fh : Nat → Int32} (hin : inP k x0) (xi : ix x0 = j0) (hp : isP x y) (ex : x = nI xx) (ey : y = nI yy) (hx : xx < 32) (hy : yy < 32) (hpl : plL (pn j0) (PX j0) (PY j0) fi fs fh) : (bit (fs yy) xx → 1 = aLies k pn PX PY x0 x y) ∧ (¬ bit (fs yy) xx → bit (fi yy) xx → 2 = aLies k pn PX PY x0 x y) ∧ (¬ bit (fs yy) xx → ¬ bit (fi yy) xx → 0 = aLies k pn PX PY x0 x y) := by
  obtain ⟨h1, h2, -⟩ := hpl yy hy xx hx
  have l3 := lies_le (pn j0) (PX j0) (PY j0) (nI xx) (nI yy)
  unfold aLies
  rw [cif_t hin, cif_t hp, xi, ex, ey, h1, h2]
  generalize lies (pn j0) (PX j0) (PY j0) (nI xx) (nI yy) = q at *
  refine ⟨fun e => by rw [e]; rfl, fun _ e => by rw [e]; rfl, fun e1 e2 => ?_⟩
  rw [show q = 0 by omega]; rfl
theorem corner_cls {x0 x y : Int32} {j0 kj : Nat} {G0 G1 : Nat → Int32} (hin : inP k x0) (xi : ix x0 = j0) (hG : ∀ j, j < pn j0 → G0 j = PX j0 j ∧ G1 j = PY j0 j) (hy : 0 ≤ y.toInt ∧ y.toInt ≤ 1) (hx : x = nI kj) (hkj : kj < pn j0) (h8 : pn j0 ≤ 8) : (y = 0 → G0 kj = aCorner k pn PX PY x0 x y) ∧ (¬ y = 0 → G1 kj = aCorner k pn PX PY x0 x y) := by
  have hi : inP (pn j0) x := by unfold inP; rw [hx, nI_toInt (by omega)]; omega
  unfold aCorner
  rw [cif_t hin, cif_t hy, xi, cif_t hi, hx, ix_nI (by omega)]
  exact ⟨fun e => by rw [cif_t e, (hG kj hkj).1], fun e => by rw [cif_f e, (hG kj hkj).2]⟩
theorem sign_cls {x0 x : Int32} {j0 : Nat} {g : Nat → Int32} (hin : inP k x0) (xi : ix x0 = j0) (hR : rowIs g (wrt (pn j0) (PX j0) (PY j0) (pn j0))) : (x = -1 → nI (wrt (pn j0) (PX j0) (PY j0) (pn j0)).length = aSign k pn PX PY x0 x) ∧ (∀ kj, ¬ x = -1 → x = nI kj → kj < (wrt (pn j0) (PX j0) (PY j0) (pn j0)).length → (wrt (pn j0) (PX j0) (PY j0) (pn j0)).length < 2 ^ 31 → g kj = aSign k pn PX PY x0 x) ∧ (¬ x = -1 → ¬ inP (wrt (pn j0) (PX j0) (PY j0) (pn j0)).length x → -6 = aSign k pn PX PY x0 x) := by
  unfold aSign
  rw [cif_t hin, xi]
  refine ⟨fun e => by rw [cif_t e], fun kj e ex hk hl => ?_, fun e e2 => by rw [cif_f e, cif_f e2]⟩
  have hi : inP (wrt (pn j0) (PX j0) (PY j0) (pn j0)).length x := by unfold inP; rw [ex, nI_toInt (by omega)]; omega
  rw [cif_f e, cif_t hi, ex, ix_nI (by omega)]
  exact rowIs_get hR hk
theorem about_cls {x0 x : Int32} {j0 : Nat} {G0 G1 fi fs fh yr : Nat → Int32} (hin : inP k x0) (xi : ix x0 = j0) (hG : ∀ j, j < pn j0 → G0 j = PX j0 j ∧ G1 j = PY j0 j) (hpl : plL (pn j0) (PX j0) (PY j0) fi fs fh) :
    (x = 0 → yr j0 = aAbout k pn PX PY yr x0 x) ∧ (x = 1 → nI (pn j0) = aAbout k pn PX PY yr x0 x) ∧ (x = 2 → ab (isum (twt (pn j0) G0 G1) (pn j0)) = aAbout k pn PX PY yr x0 x) ∧ (x = 3 → zb (0 < isum (twt (pn j0) G0 G1) (pn j0)) = aAbout k pn PX PY yr x0 x) ∧
    (x = 4 → nI (cnt2 (fun y x => bit (fi y) x) 32) = aAbout k pn PX PY yr x0 x) ∧ (x = 5 → nI (cnt2 (fun y x => bit (fs y) x) 32) = aAbout k pn PX PY yr x0 x) ∧ (x = 6 → aLost k pn PX PY yr j0 = aAbout k pn PX PY yr x0 x) ∧ (¬ x = 0 → ¬ x = 1 → ¬ x = 2 → ¬ x = 3 → ¬ x = 4 → ¬ x = 5 → ¬ x = 6 → -2 = aAbout k pn PX PY yr x0 x) := by
  unfold aAbout
  rw [cif_t hin, xi, isum_congr (pn j0) (twt_congr hG)]
  have c4 : cnt2 (fun y x => bit (fi y) x) 32 = cnt (fun z => lies (pn j0) (PX j0) (PY j0) (qX z) (qY z) = 2) 1024 := cnt2_c (fun y hy x hx => by rw [(q_xy hx).1, (q_xy hx).2]; exact (hpl y hy x hx).2.1)
  have c5 : cnt2 (fun y x => bit (fs y) x) 32 = cnt (fun z => lies (pn j0) (PX j0) (PY j0) (qX z) (qY z) = 1) 1024 := cnt2_c (fun y hy x hx => by rw [(q_xy hx).1, (q_xy hx).2]; exact (hpl y hy x hx).1)
  rw [c4, c5]
  refine ⟨fun e => ?_, fun e => ?_, fun e => ?_, fun e => ?_, fun e => ?_, fun e => ?_, fun e => ?_, fun e0 e1 e2 e3 e4 e5 e6 => ?_⟩
  · rw [cif_t e]
  · rw [cif_f (by rw [e]; decide), cif_t e]
  · rw [cif_f (by rw [e]; decide), cif_f (by rw [e]; decide), cif_t e]
  · rw [cif_f (by rw [e]; decide), cif_f (by rw [e]; decide), cif_f (by rw [e]; decide), cif_t e]
  · rw [cif_f (by rw [e]; decide), cif_f (by rw [e]; decide), cif_f (by rw [e]; decide), cif_f (by rw [e]; decide), cif_t e]
  · rw [cif_f (by rw [e]; decide), cif_f (by rw [e]; decide), cif_f (by rw [e]; decide), cif_f (by rw [e]; decide), cif_f (by rw [e]; decide), cif_t e]
  · rw [cif_f (by rw [e]; decide), cif_f (by rw [e]; decide), cif_f (by rw [e]; decide), cif_f (by rw [e]; decide), cif_f (by rw [e]; decide), cif_f (by rw [e]; decide), cif_t e]
  · rw [cif_f e0, cif_f e1, cif_f e2, cif_f e3, cif_f e4, cif_f e5, cif_f e6]
theorem common_cls {x0 x1 x : Int32} {j0 j1 : Nat} {fi fs fh fi' fs' fh' : Nat → Int32} (hin : inP k x0 ∧ inP k x1) (xi : ix x0 = j0) (xi' : ix x1 = j1) (hpl : plL (pn j0) (PX j0) (PY j0) fi fs fh) (hpl' : plL (pn j1) (PX j1) (PY j1) fi' fs' fh') :
    (x = 0 → nI (cnt2 (fun y x => bit (fi y) x ∧ bit (fi' y) x) 32) = aCommon k pn PX PY x0 x1 x) ∧ (x = 1 → nI (cnt2 (fun y x => bit (fs y) x ∧ bit (fs' y) x) 32) = aCommon k pn PX PY x0 x1 x) ∧ (x = 2 → nI (cnt2 (fun y x => bit (fh y) x ∧ bit (fh' y) x) 32) = aCommon k pn PX PY x0 x1 x) ∧ (¬ x = 0 → ¬ x = 1 → ¬ x = 2 → -2 = aCommon k pn PX PY x0 x1 x) := by
  unfold aCommon
  rw [cif_t hin, xi, xi']
  refine ⟨fun e => ?_, fun e => ?_, fun e => ?_, fun e0 e1 e2 => ?_⟩
  · subst e
    rw [cif_t (by decide)]
    congr 1
    apply cnt2_c
    intro y hy x hx
    rw [(q_xy hx).1, (q_xy hx).2, (hpl y hy x hx).2.1, (hpl' y hy x hx).2.1]
    unfold cmmn
    constructor
    · intro q; exact Or.inl ⟨rfl, q.2, q.1⟩
    · rintro (q | q | q)
      · exact ⟨q.2.2, q.2.1⟩
      · exact absurd q.1 (by decide)
      · exact absurd q.1 (by decide)
  · subst e
    rw [cif_t (by decide)]
    congr 1
    apply cnt2_c
    intro y hy x hx
    rw [(q_xy hx).1, (q_xy hx).2, (hpl y hy x hx).1, (hpl' y hy x hx).1]
    unfold cmmn
    constructor
    · intro q; exact Or.inr (Or.inl ⟨rfl, q.2, q.1⟩)
    · rintro (q | q | q)
      · exact absurd q.1 (by decide)
      · exact ⟨q.2.2, q.2.1⟩
      · exact absurd q.1 (by decide)
  · subst e
    rw [cif_t (by decide)]
    congr 1
    apply cnt2_c
    intro y hy x hx
    rw [(q_xy hx).1, (q_xy hx).2, (hpl y hy x hx).2.2, (hpl' y hy x hx).2.2]
    unfold cmmn
    constructor
    · intro q; exact Or.inr (Or.inr ⟨rfl, q.2, q.1⟩)
    · rintro (q | q | q)
      · exact absurd q.1 (by decide)
      · exact absurd q.1 (by decide)
      · exact ⟨q.2.2, q.2.1⟩
  · rw [cif_f]
    intro q
    have := u_sw3 e0 e1 e2
    omega
theorem cT_congr {n : Nat} {X Y X' Y' : Nat → Int32} (h : ∀ j, j < n → X j = X' j ∧ Y j = Y' j) (c : Int32) : ∀ j, j < n → cT n X Y c j = cT n X' Y' c j := by
  intro j hj
  have h1 := h j hj
  have h2 := h (nxt n j) (nxt_lt hj)
  unfold cT bT bU bB bR
  rw [h1.1, h1.2, h2.1, h2.2]
theorem west_cls {n : Nat} {X Y X' Y' : Nat → Int32} {c : Int32} (h : ∀ j, j < n → X j = X' j ∧ Y j = Y' j) (hn : 3 ≤ n) (h8 : n ≤ 8) (hs : stn n X' Y') (hc : b31 c) : lN (rsum (cT n X Y c) n).num.natAbs = lI (wQ n X' Y' c).num ∧ lN (rsum (cT n X Y c) n).den = lN (wQ n X' Y' c).den := by
  rw [rsum_congr n (cT_congr h c)]
  have e := west_eq hn h8 hs hc
  rw [lN_I, e.1, e.2]; exact ⟨rfl, rfl⟩
theorem aWest_t {x0 x y : Int32} {j0 : Nat} (hin : inP k x0) (xi : ix x0 = j0) (hx : (0 ≤ x.toInt ∧ x.toInt ≤ 31) ∧ 0 ≤ y.toInt ∧ y.toInt ≤ 1) : (y = 0 → lI (wQ (pn j0) (PX j0) (PY j0) x).num = aWest k pn PX PY x0 x y) ∧ (¬ y = 0 → lN (wQ (pn j0) (PX j0) (PY j0) x).den = aWest k pn PX PY x0 x y) := by
  unfold aWest
  rw [cif_t hin, cif_t hx, xi]
  exact ⟨fun e => by rw [cif_t e], fun e => by rw [cif_f e]⟩
theorem aLine_t {x0 y : Int32} {j0 : Nat} (hin : inP k x0) (xi : ix x0 = j0) (hy : 1 ≤ y.toInt ∧ y.toInt ≤ 2000) : aLine k pn PX PY x0 y = lst (enough (pn j0) (PX j0) (PY j0) y) 0 32 := by
  unfold aLine
  rw [cif_t hin, cif_t hy, xi]
end AN
def ad8 (q1 q2 q3 q4 q5 q6 q7 q8 : Nat) : Nat → Nat
  | 1 => q1 | 2 => q2 | 3 => q3 | 4 => q4 | 5 => q5 | 6 => q6 | 7 => q7 | 8 => q8 | _ => 0
def fn6 (f0 f1 f2 f3 f4 f5 : Nat → Int32) : Nat → Nat → Int32
  | 0 => f0 | 1 => f1 | 2 => f2 | 3 => f3 | 4 => f4 | 5 => f5 | _ => fun _ => 0
/-- a deed's plot -/
theorem PDok_of {nn : Nat} {X Y X' Y' g fi fs fh : Nat → Int32} {q1 q2 q3 q4 q5 q6 q7 q8 : Nat} (h3 : 3 ≤ nn) (h8 : nn ≤ 8) (h : ∀ j, j < nn → X j = X' j ∧ Y j = Y' j) (hs : stn nn X' Y') (hR : rowIs g (wrt nn X Y nn)) (hL : lat g) (hp : plR nn X Y fi fs fh) : PDok (ad8 q1 q2 q3 q4 q5 q6 q7 q8, nn, fn6 X Y g fi fs fh, wrt nn X Y nn) nn X' Y' := by
  have e : wrt nn X Y nn = wrt nn X' Y' nn := wrt_congr h nn (Nat.le_refl _)
  have hs2 := (stn_congr h).mpr hs
  exact ⟨rfl, h3, h8, h, hs, e, by rw [← e]; exact hR, hL, plL_congr h (plL_of h3 hs2.1 hp)⟩
theorem TX_get {fs : Nat → Int32} {n nc pt nm : Nat} {tw : Int32} {fe1 fn1 : Nat → Int32} (h : ∃ S : TS, runT fs n = some S ∧ wholeT S ∧ RelT (nc, pt, nm, tw, fe1, fn1) S) : ∃ fe fn, txt fs n = some (nc, fe, fn) ∧ tOK nc fe fn ∧ tOK nc fe1 fn1 ∧ ∀ j, j < nc → fe1 j = fe j ∧ fn1 j = fn j := by
  obtain ⟨S, h1, h2, h3⟩ := h
  have e : nc = S.1 := h3.1
  have ht := txt_ok h1 h2
  have hx := txt_some h1 h2
  have hj : ∀ j, j < nc → fe1 j = S.2.2.2.2.1 j ∧ fn1 j = S.2.2.2.2.2 j := h3.2.2.2
  rw [← e] at ht hx
  exact ⟨_, _, hx, ht, tOK_congr hj ht, hj⟩
/-- what a list holds behind a world stays, while the world changes -/
theorem EF_tail {D : va_G} {ws xl : va_W} {A : Nat → Prop} {H : Heap} (hP : va_P D vwCl (ws ++ xl) H) (hD : va_D A (ws ++ xl)) : EF ws H.size (va_P D vwCl xl) H := by
  intro H1 h k q hk
  have hk2 : (ws ++ xl)[ws.length + k]? = some q := by rw [List.getElem?_append_right (by omega), Nat.add_sub_cancel_left]; exact hk
  have hq := hP _ q hk2
  have hlt := hq.lt
  have hna : ¬ va_A ws H.size q.1 := by
    rintro (⟨j, e, hj⟩ | hj)
    · have hj2 : (ws ++ xl)[j]? = some (q.1, e) := by rw [List.getElem?_append_left (List.getElem?_eq_some_iff.mp hj).1]; exact hj
      have := hD.1 j _ _ _ hj2 hk2 rfl
      have := (List.getElem?_eq_some_iff.mp hj).1
      omega
    · omega
  exact hq.kept (h q.1 hlt hna)
theorem EF.mono {ws : va_W} {sz : Nat} {E E' : Heap → Prop} {H : Heap} (h : EF ws sz E H) (hi : ∀ H1, E H1 → E' H1) : EF ws sz E' H := fun H1 q => hi H1 (h H1 q)
theorem pVQX {D : va_G} {cI cB cZ cP : ClassId} {s : State} {H : Heap} {b q0 ci : Nat} {q : vw_C} {fs As : List Value} {ws xs : va_W} {A : Nat → Prop} {E : Heap → Prop} (hP : va_P D vwCl ws H) (hD : va_D A ws) (hK : KW D cI cB cZ cP s) (hE : EF ws H.size E H) (hX : va_P D vwCl xs H) (hc : vwCl[ci]? = some q) (he : xs[q0]? = some (b, .inr (ci, fs))) :
    PreV s H q.1 b (va_Pc (.ref b :: As) (fun U => U.heap.size = H.size ∧ va_P D vwCl ws U.heap ∧ KW D cI cB cZ cP U ∧ va_D (fun _ => True) ws ∧ EF ws H.size E U.heap)) As :=
  ⟨fun a U g mk q => ⟨q.1, q.2.1, q.2.2.1, KW.same (s := U) (U := U.calling g mk a) rfl q.2.2.2.1, q.2.2.2.2.1, q.2.2.2.2.2⟩, va_recv hK.1 hX hc he, fun U hU hW => ⟨rfl, by rw [hU], by rw [hU]; exact hP, hK.warm hW, hD.weaken (fun _ _ _ _ => trivial), by rw [hU]; exact hE⟩⟩
theorem EF_in {D : va_G} {ws wc : va_W} {A : Nat → Prop} {H : Heap} {pa : Nat} {fs : List Value} (hP : va_P D vwCl ws H) (hD : va_D A ws) (isC : List Nat) (hC : isC.map (fun i => ws[i]?) = wc.map some) (i : Nat) (hi : ws[i]? = some (pa, .inr (4, fs))) (hn : i ∉ isC) : EF wc H.size (E1 D pa) H := by
  intro H1 h
  have hq := hP i _ hi
  have hlt := hq.lt
  have hna : ¬ va_A wc H.size pa := by
    rintro (⟨j, e, hj⟩ | hj)
    · have h1 : (isC.map (fun i => ws[i]?))[j]? = some (some (pa, e)) := by rw [hC, List.getElem?_map, hj]; rfl
      rw [List.getElem?_map] at h1
      cases hi2 : isC[j]? with
      | none => rw [hi2] at h1; cases h1
      | some i2 =>
        rw [hi2] at h1
        have h2 : ws[i2]? = some (pa, e) := Option.some.inj h1
        have := hD.1 i i2 _ _ hi h2 rfl
        subst this
        exact hn (List.mem_of_getElem? hi2)
    · exact absurd hlt (by show ¬ pa < H.size; omega)
  refine ⟨fs, ?_⟩
  intro k q hk
  cases k with
  | zero => cases hk; exact hq.kept (h pa hlt hna)
  | succ k => exact absurd hk (by simp)
