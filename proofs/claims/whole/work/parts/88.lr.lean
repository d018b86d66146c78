/-! the law: what class and reference hold together -/
def PFh (as : List Nat) (E : Heap → Prop) (H : Heap) : Prop := ∀ H1 : Heap, (∀ q : Nat, q < H.size → q ∉ as → H1[q]? = H[q]?) → E H1
section PFs
variable {as : List Nat} {E : Heap → Prop} {H H1 : Heap} {ws wc : va_W} {D : va_G} {A : Nat → Prop}
theorem PFh.self (h : PFh as E H) : E H := h H (fun _ _ _ => rfl)
theorem sub_in (isC : List Nat) (hC : isC.map (fun i => ws[i]?) = wc.map some) {q k : Nat} {e : va_E} (h : wc[k]? = some (q, e)) : q ∈ ws.map Prod.fst := by
  have h1 : (isC.map (fun i => ws[i]?))[k]? = some (some (q, e)) := by rw [hC, List.getElem?_map, h]; rfl
  rw [List.getElem?_map] at h1
  cases hi : isC[k]? with
  | none => rw [hi] at h1; cases h1
  | some i =>
    rw [hi] at h1
    have h2 : ws[i]? = some (q, e) := Option.some.inj h1
    exact List.mem_map.mpr ⟨(q, e), List.mem_of_getElem? h2, rfl⟩
theorem PF_EF (h : PFh as E H) (isC : List Nat) (hC : isC.map (fun i => ws[i]?) = wc.map some) (ha : ws.map Prod.fst = as) : EF wc H.size E H :=
  fun H1 h1 => h H1 (fun q hq hn => h1 q hq (fun z => by
    rcases z with ⟨k, e, z⟩ | z
    · exact hn (ha ▸ sub_in isC hC z)
    · omega))
theorem PF_call (h : PFh as E H) (hz : H.size ≤ H1.size) (hk : ∀ q : Nat, q < H.size → ¬ va_A wc H.size q → H1[q]? = H[q]?) (isC : List Nat) (hC : isC.map (fun i => ws[i]?) = wc.map some) (ha : ws.map Prod.fst = as) : PFh as E H1 :=
  fun H2 h2 => h H2 (fun q hq hn => (h2 q (by omega) hn).trans (hk q hq (fun z => by
    rcases z with ⟨k, e, z⟩ | z
    · exact hn (ha ▸ sub_in isC hC z)
    · omega)))
theorem PF_tail {W xl : va_W} (hP : va_P D vwCl (ws ++ xl) H) (hD : va_D A (ws ++ xl)) (isC : List Nat) (hC : isC.map (fun i => ws[i]?) = W.map some) (ha : W.map Prod.fst = as) : PFh as (va_P D vwCl xl) H := by
  intro H1 h
  refine EF_tail hP hD H1 (fun q hq hn => h q hq (fun hm => hn ?_))
  rw [← ha] at hm
  obtain ⟨x, hx, rfl⟩ := List.mem_map.mp hm
  obtain ⟨k, hk⟩ := List.getElem?_of_mem hx
  have h3 := sub_in (ws := ws) (wc := W) isC hC (q := x.1) (e := x.2) hk
  obtain ⟨y, hy, e⟩ := List.mem_map.mp h3
  obtain ⟨j, hj⟩ := List.getElem?_of_mem hy
  exact Or.inl ⟨j, y.2, by rw [hj, ← e]⟩
theorem PFh.mono (h : PFh as E H) {E' : Heap → Prop} (hi : ∀ H1, E H1 → E' H1) : PFh as E' H := fun H1 q => hi H1 (h H1 q)
theorem PFh.and (h : PFh as E H) {E' : Heap → Prop} (h' : PFh as E' H) : PFh as (fun H1 => E H1 ∧ E' H1) H := fun H1 q => ⟨h H1 q, h' H1 q⟩
theorem jn_split {wr nw xl : va_W} (hP : va_P D vwCl (wr ++ (nw ++ xl)) H) (hD : va_D A (wr ++ (nw ++ xl))) : va_P D vwCl (wr ++ nw) H ∧ va_D A (wr ++ nw) ∧ va_P D vwCl ((wr ++ nw) ++ xl) H ∧ va_D A ((wr ++ nw) ++ xl) := by
  rw [← List.append_assoc] at hP hD
  refine ⟨fun k q hk => ?_, ⟨fun i j p q hi hj e => ?_, fun k q hk => ?_⟩, hP, hD⟩
  · exact hP k q (by rw [List.getElem?_append_left (List.getElem?_eq_some_iff.mp hk).1]; exact hk)
  · exact hD.1 i j p q (by rw [List.getElem?_append_left (List.getElem?_eq_some_iff.mp hi).1]; exact hi) (by rw [List.getElem?_append_left (List.getElem?_eq_some_iff.mp hj).1]; exact hj) e
  · exact hD.2 k q (by rw [List.getElem?_append_left (List.getElem?_eq_some_iff.mp hk).1]; exact hk)
theorem jn_fresh {nw xl : va_W} {sz pa : Nat} {e : va_E} (hD : va_D (va_A wc sz) (nw ++ xl)) (ha : wc.map Prod.fst = nw.map Prod.fst) (hq : xl[0]? = some (pa, e)) : sz ≤ pa := by
  have h0 : (nw ++ xl)[nw.length]? = some (pa, e) := by rw [List.getElem?_append_right (Nat.le_refl _), Nat.sub_self]; exact hq
  rcases hD.2 _ _ h0 with ⟨k, e', hk⟩ | h
  · have hm : pa ∈ wc.map Prod.fst := List.mem_map.mpr ⟨(pa, e'), List.mem_of_getElem? hk, rfl⟩
    rw [ha] at hm
    obtain ⟨x, hx, hx2⟩ := List.mem_map.mp hm
    obtain ⟨j, hj⟩ := List.getElem?_of_mem hx
    have hlt := (List.getElem?_eq_some_iff.mp hj).1
    have := hD.1 j nw.length x (pa, e) (by rw [List.getElem?_append_left hlt]; exact hj) h0 hx2
    omega
  · exact h
end PFs
/-- an estate, as the reference's row S holds it -/
def ER (Pl : Nat → Option PD) (S : Nat → Int32) (k : Nat) (lo : Int32) (fp : Nat → Option Nat) (yr : Nat → Int32) : Prop := ∃ pn : PN, stM S k pn ∧ S 109 = lo ∧ (∀ j, j < k → S j = yr j ∧ 1 ≤ (yr j).toInt ∧ (yr j).toInt ≤ 999) ∧ PLok Pl fp k pn (pX S) (pY S)
def LR (Pl : Nat → Option PD) (v : Nat → Int32) (F : Nat → Nat → Int32) (n0 nm k k1 k2 : Nat) (kp lo lo1 lo2 : Int32) (fp fp1 fp2 : Nat → Option Nat) (yr yr1 yr2 : Nat → Int32) : Prop :=
  n0 ≤ 48 ∧ nm ≤ 31 ∧ v 4 = nI n0 ∧ ER Pl (F 1) k lo fp yr ∧ (FPin Pl fp ∧ FPin Pl fp1 ∧ FPin Pl fp2) ∧ ((F 3 0 = 0 ∨ F 3 0 = 1) ∧ (F 3 1 = 0 ∨ F 3 1 = 1)) ∧ kp = kb (F 3 0) 1 + kb (F 3 1) 2 ∧
  (¬ F 3 0 = 0 → ER Pl (fun j => F 2 (110 * 0 + j)) k1 lo1 fp1 yr1) ∧ (¬ F 3 1 = 0 → ER Pl (fun j => F 2 (110 * 1 + j)) k2 lo2 fp2 yr2)
theorem PDok_congr {d : PD} {nn : Nat} {X Y X' Y' : Nat → Int32} (h : ∀ j, j < nn → X j = X' j ∧ Y j = Y' j) (hp : PDok d nn X Y) : PDok d nn X' Y' := by
  obtain ⟨h1, h2, h3, h4, h5, h6, h7, h8, h9⟩ := hp
  have e : wrt nn X Y nn = wrt nn X' Y' nn := wrt_congr h nn (Nat.le_refl _)
  exact ⟨h1, h2, h3, fun j hj => ⟨(h4 j hj).1.trans (h j hj).1, (h4 j hj).2.trans (h j hj).2⟩, (stn_congr h).mp h5, h6.trans e, by rw [← e]; exact h7, h8, plL_congr h h9⟩
theorem PLok_b {Pl : Nat → Option PD} {fp : Nat → Option Nat} {k : Nat} {pn : PN} {PX PY : PF} (h : PLok Pl fp k pn PX PY) {j : Nat} (hj : j < k) : 3 ≤ pn j ∧ pn j ≤ 8 ∧ stn (pn j) (PX j) (PY j) := by
  obtain ⟨a, d, -, -, ok⟩ := h j hj
  exact ⟨ok.2.1, ok.2.2.1, ok.2.2.2.2.1⟩
theorem ER_mono {Pl Pl1 : Nat → Option PD} {S : Nat → Int32} {k : Nat} {lo : Int32} {fp : Nat → Option Nat} {yr : Nat → Int32} (hm : ∀ a d, Pl a = some d → Pl1 a = some d) (h : ER Pl S k lo fp yr) : ER Pl1 S k lo fp yr := by
  obtain ⟨pn, h1, h2, h3, h4⟩ := h
  exact ⟨pn, h1, h2, h3, fun j hj => by obtain ⟨a, d, q1, q2, q3⟩ := h4 j hj; exact ⟨a, d, q1, hm a d q2, q3⟩⟩
theorem FPin_mono {Pl Pl1 : Nat → Option PD} {fp : Nat → Option Nat} (hm : ∀ a d, Pl a = some d → Pl1 a = some d) (h : FPin Pl fp) : FPin Pl1 fp := fun j hj a ha => by obtain ⟨d, hd⟩ := h j hj a ha; exact ⟨d, hm a d hd⟩
/-- rows of the reference that are alike hold alike plots -/
theorem ER_rows {Pl : Nat → Option PD} {S S1 : Nat → Int32} {k k1 : Nat} {lo lo1 : Int32} {fp fp1 : Nat → Option Nat} {yr yr1 : Nat → Int32} {g : Nat → Nat} (h : ER Pl S k lo fp yr) (hk : k1 ≤ 6) (h8 : S1 108 = nI k1) (h9 : S1 109 = lo1)
    (hg : ∀ q, q < k1 → g q < k ∧ rowE S1 q S (g q) ∧ fp1 q = fp (g q) ∧ yr1 q = yr (g q)) : ER Pl S1 k1 lo1 fp1 yr1 := by
  obtain ⟨pn, ⟨s1, s2, s3⟩, h2, h3, h4⟩ := h
  refine ⟨fun q => pn (g q), ⟨h8, hk, fun p hp => ?_⟩, h9, fun j hj => ?_, fun j hj => ?_⟩
  · obtain ⟨a, b, -⟩ := hg p hp
    exact ⟨b.2.1.trans (s3 _ a).1, (s3 _ a).2⟩
  · obtain ⟨a, b, -, c⟩ := hg j hj
    have := h3 _ a
    rw [c, b.1]; exact this
  · obtain ⟨a, b, c, -⟩ := hg j hj
    obtain ⟨pa, d, q1, q2, q3⟩ := h4 _ a
    have h8' := (s3 _ a).2
    refine ⟨pa, d, c.trans q1, q2, PDok_congr (fun i hi => ?_) q3⟩
    have hi : i < pn (g j) := hi
    have := b.2.2 i (by omega)
    exact ⟨this.1.symm, this.2.symm⟩
theorem ER_k {Pl : Nat → Option PD} {S : Nat → Int32} {k : Nat} {lo : Int32} {fp : Nat → Option Nat} {yr : Nat → Int32} (h : ER Pl S k lo fp yr) : k ≤ 6 ∧ S 108 = nI k ∧ S 109 = lo := by
  obtain ⟨pn, ⟨s1, s2, s3⟩, h2, -⟩ := h
  exact ⟨s2, s1, h2⟩
theorem ER_congr {Pl : Nat → Option PD} {S S1 : Nat → Int32} {k : Nat} {lo : Int32} {fp fp1 : Nat → Option Nat} {yr yr1 : Nat → Int32} (h : ER Pl S k lo fp yr) (hs : ∀ j, j < 110 → S1 j = S j) (hf : ∀ j, j < 6 → fp1 j = fp j ∧ yr1 j = yr j) : ER Pl S1 k lo fp1 yr1 := by
  have hk := ER_k h
  refine ER_rows (g := fun q => q) h hk.1 ((hs 108 (by decide)).trans hk.2.1) ((hs 109 (by decide)).trans hk.2.2) (fun q hq => ⟨hq, ⟨hs q (by omega), hs _ (by omega), fun j hj => ⟨hs _ (by omega), hs _ (by omega)⟩⟩, (hf q (by omega)).1, (hf q (by omega)).2⟩)
theorem ER_loose {Pl : Nat → Option PD} {S : Nat → Int32} {k : Nat} {lo x : Int32} {fp : Nat → Option Nat} {yr : Nat → Int32} (h : ER Pl S k lo fp yr) : ER Pl (upd S 109 x) k x fp yr := by
  have hk := ER_k h
  refine ER_rows (g := fun q => q) h hk.1 (by rw [pk_un (by omega)]; exact hk.2.1) pk_us (fun q hq => ⟨hq, ⟨pk_un (by omega), pk_un (by omega), fun j hj => ⟨pk_un (by omega), pk_un (by omega)⟩⟩, rfl, rfl⟩)
theorem ER_drop {Pl : Nat → Option PD} {S S1 : Nat → Int32} {k p : Nat} {lo : Int32} {fp : Nat → Option Nat} {yr : Nat → Int32} (h : ER Pl S k lo fp yr) (hp : p < k) (hd : DR S S1 (k - 1) p (k - 1)) : ER Pl S1 (k - 1) lo (shf fp p (k - 1)) (shf yr p (k - 1)) := by
  have hk := ER_k h
  obtain ⟨d1, d2, d3, d4⟩ := hd
  refine ER_rows (g := fun q => if p ≤ q then q + 1 else q) h (by omega) d1 (d2.trans hk.2.2) (fun q hq => ?_)
  unfold shf
  by_cases e : p ≤ q
  · rw [if_pos e, if_pos ⟨e, hq⟩, if_pos ⟨e, hq⟩]; exact ⟨by omega, d3 q e hq, rfl, rfl⟩
  · rw [if_neg e, if_neg (fun z => e z.1), if_neg (fun z => e z.1)]; exact ⟨by omega, d4 q (by omega) (by omega), rfl, rfl⟩
theorem ER_year {Pl : Nat → Option PD} {S : Nat → Int32} {k p : Nat} {lo y : Int32} {fp : Nat → Option Nat} {yr : Nat → Int32} (h : ER Pl S k lo fp yr) (hp : p < k) (hy : 1 ≤ y.toInt ∧ y.toInt ≤ 999) : ER Pl (upd S p y) k lo fp (upd yr p y) := by
  obtain ⟨pn, ⟨s1, s2, s3⟩, h2, h3, h4⟩ := h
  refine ⟨pn, ⟨by rw [pk_un (by omega)]; exact s1, s2, fun q hq => by rw [pk_un (by omega)]; exact s3 q hq⟩, by rw [pk_un (by omega)]; exact h2, fun j hj => ?_, fun j hj => ?_⟩
  · by_cases e : j = p
    · subst e; rw [pk_us, pk_us]; exact ⟨rfl, hy⟩
    · rw [pk_un e, pk_un e]; exact h3 j hj
  · obtain ⟨pa, d, q1, q2, q3⟩ := h4 j hj
    have h8 := (s3 j hj).2
    exact ⟨pa, d, q1, q2, PDok_congr (fun i hi => ⟨(show pX (upd S p y) j i = pX S j i from pk_un (by omega)).symm, (show pY (upd S p y) j i = pY S j i from pk_un (by omega)).symm⟩) q3⟩
theorem ER_add {Pl Pl1 : Nat → Option PD} {S S1 : Nat → Int32} {k nc pa : Nat} {lo yy : Int32} {fp : Nat → Option Nat} {yr X Y : Nat → Int32} {d : PD} (h : ER Pl S k lo fp yr) (hm : ∀ a d, Pl a = some d → Pl1 a = some d) (hk : k < 6) (hy : 1 ≤ yy.toInt ∧ yy.toInt ≤ 999) (ha : ADD S S1 k nc X Y yy) (hd : PDok d nc X Y) (hpa : Pl1 pa = some d) : ER Pl1 S1 (k + 1) lo (va_up fp k (some pa)) (upd yr k yy) := by
  obtain ⟨pn, ⟨s1, s2, s3⟩, h2, h3, h4⟩ := ER_mono hm h
  obtain ⟨a1, a2, a3, a4, a5, a6⟩ := ha
  refine ⟨fun q => if q = k then nc else pn q, ⟨a1, by omega, fun p hp => ?_⟩, a2.trans h2, fun j hj => ?_, fun j hj => ?_⟩
  · show S1 (6 + p) = nI (if p = k then nc else pn p) ∧ (if p = k then nc else pn p) ≤ 8
    by_cases e : p = k
    · subst e; rw [if_pos rfl]; exact ⟨a4, hd.2.2.1⟩
    · rw [if_neg e]; exact ⟨(a6 p (by omega)).2.1.trans (s3 p (by omega)).1, (s3 p (by omega)).2⟩
  · by_cases e : j = k
    · subst e; rw [pk_us]; exact ⟨a3, hy⟩
    · rw [pk_un e, (a6 j (by omega)).1]; exact h3 j (by omega)
  · by_cases e : j = k
    · subst e
      refine ⟨pa, d, if_pos rfl, hpa, ?_⟩
      show PDok d (if j = j then nc else pn j) _ _
      rw [if_pos rfl]
      exact PDok_congr (fun i hi => ⟨(a5 i hi).1.symm, (a5 i hi).2.symm⟩) hd
    · obtain ⟨pb, d', q1, q2, q3⟩ := h4 j (by omega)
      refine ⟨pb, d', (if_neg e).trans q1, q2, ?_⟩
      show PDok d' (if j = k then nc else pn j) _ _
      rw [if_neg e]
      have h8 := (s3 j (by omega)).2
      exact PDok_congr (fun i hi => ⟨((a6 j (by omega)).2.2 i (by omega)).1.symm, ((a6 j (by omega)).2.2 i (by omega)).2.symm⟩) q3
theorem FPin_up {Pl Pl1 : Nat → Option PD} {fp : Nat → Option Nat} {k pa : Nat} {d : PD} (hm : ∀ a d, Pl a = some d → Pl1 a = some d) (h : FPin Pl fp) (hpa : Pl1 pa = some d) : FPin Pl1 (va_up fp k (some pa)) := by
  intro j hj a ha
  unfold va_up at ha
  by_cases e : j = k
  · rw [if_pos e] at ha; cases ha; exact ⟨d, hpa⟩
  · rw [if_neg e] at ha; obtain ⟨d', hd'⟩ := h j hj a ha; exact ⟨d', hm a d' hd'⟩
theorem FPin_shf {Pl : Nat → Option PD} {fp : Nat → Option Nat} {p z : Nat} (h : FPin Pl fp) (hz : z < 6) : FPin Pl (shf fp p z) := by
  intro j hj a ha
  unfold shf at ha
  by_cases e : p ≤ j ∧ j < z
  · rw [if_pos e] at ha; exact h (j + 1) (by omega) a ha
  · rw [if_neg e] at ha; exact h j hj a ha
theorem FPin_cpy {Pl : Nat → Option PD} {fp fp1 : Nat → Option Nat} (h : FPin Pl fp) : FPin Pl (cpy fp fp1 6) := by
  intro j hj a ha
  unfold cpy at ha
  rw [if_pos hj] at ha; exact h j hj a ha
theorem cpy_6 {fp fp1 : Nat → Option Nat} {yr yr1 : Nat → Int32} : ∀ j, j < 6 → cpy fp fp1 6 j = fp j ∧ cpy yr yr1 6 j = yr j := fun j hj => ⟨if_pos hj, if_pos hj⟩
/-- what is only read stays -/
theorem LR_keep {Pl : Nat → Option PD} {v v1 : Nat → Int32} {F F1 : Nat → Nat → Int32} {n0 nm nm1 k k1 k2 : Nat} {kp lo lo1 lo2 : Int32} {fp fp1 fp2 : Nat → Option Nat} {yr yr1 yr2 : Nat → Int32} (h : LR Pl v F n0 nm k k1 k2 kp lo lo1 lo2 fp fp1 fp2 yr yr1 yr2) (hn : nm1 ≤ 31) (e4 : v1 4 = v 4) (e1 : F1 1 = F 1) (e2 : F1 2 = F 2) (e3 : F1 3 = F 3) : LR Pl v1 F1 n0 nm1 k k1 k2 kp lo lo1 lo2 fp fp1 fp2 yr yr1 yr2 := by
  unfold LR at *
  rw [e4, e1, e2, e3]
  exact ⟨h.1, hn, h.2.2⟩
/-- years that are alike give alike answers -/
theorem old_congr {yr yr' : Nat → Int32} {k j o : Nat} (h : ∀ j, j < k → yr j = yr' j) (hj : j < k) (ho : o < k) : old yr j o ↔ old yr' j o := by unfold old; rw [h j hj, h o ho]
theorem own_yr {hd : Nat → Prop} {yr yr' : Nat → Int32} : ∀ k, (∀ j, j < k → yr j = yr' j) → own hd yr k = own hd yr' k
  | 0, _ => rfl
  | k + 1, h => by
    have i := own_yr (hd := hd) k (fun j hj => h j (by omega))
    have hc : ∀ o, own hd yr' k = some o → (old yr k o ↔ old yr' k o) := fun o ho => old_congr h (by omega) (by have := own_lt _ _ _ _ ho; omega)
    by_cases q : hd k ∧ (own hd yr' k = none ∨ ∃ o, own hd yr' k = some o ∧ old yr' k o)
    · rw [own_t (yr := yr') q.1 q.2, own_t (yr := yr) q.1 (by rw [i]; exact q.2.imp id (fun ⟨o, a, b⟩ => ⟨o, a, (hc o a).mpr b⟩))]
    · rw [own_f (yr := yr') q, own_f (yr := yr) (fun z => q ⟨z.1, by rw [← i]; exact z.2.imp id (fun ⟨o, a, b⟩ => ⟨o, a, (hc o (by rw [← i]; exact a)).mp b⟩)⟩), i]
theorem aRight_yr {k : Nat} {pn : PN} {PX PY : PF} {yr yr' : Nat → Int32} (h : ∀ j, j < k → yr j = yr' j) (x y : Int32) : aRight k pn PX PY yr x y = aRight k pn PX PY yr' x y := by
  unfold aRight ownr; rw [own_yr k h]
theorem aAbout_yr {k : Nat} {pn : PN} {PX PY : PF} {yr yr' : Nat → Int32} (h : ∀ j, j < k → yr j = yr' j) (p w : Int32) : aAbout k pn PX PY yr p w = aAbout k pn PX PY yr' p w := by
  unfold aAbout
  by_cases q : inP k p
  · have hp : ix p < k := by unfold inP at q; unfold ix; omega
    have e : aLost k pn PX PY yr (ix p) = aLost k pn PX PY yr' (ix p) := by
      unfold aLost ownr
      exact congrArg nI (cnt_congr 1024 (fun i _ => by rw [own_yr k h]))
    rw [cif_t q, cif_t q, h _ hp, e]
  · rw [cif_f q, cif_f q]
theorem aYear_yr {k : Nat} {yr yr' : Nat → Int32} (h : ∀ j, j < k → yr j = yr' j) (p y : Int32) : aYear k yr p y = aYear k yr' p y := by
  unfold aYear
  by_cases q : inP k p
  · have hp : ix p < k := by unfold inP at q; unfold ix; omega
    rw [cif_t q, cif_t q]
    congr 1
    congr 1
    apply cnt_congr
    intro z hz
    have hu : ∀ j, j < k → upd yr (ix p) y j = upd yr' (ix p) y j := fun j hj => by
      by_cases e : j = ix p
      · rw [e, pk_us, pk_us]
      · rw [pk_un e, pk_un e]; exact h j hj
    exact old_congr hu hz hp
  · rw [cif_f q, cif_f q]
theorem u_sw20 {x : Int32} (h : ∀ j : Nat, j < 20 → ¬ x = nI j) : x.toInt < 0 ∨ 19 < x.toInt := by
  rcases Int.lt_or_le x.toInt 0 with q | q
  · exact Or.inl q
  · right
    rcases Int.lt_or_le 19 x.toInt with w | w
    · exact w
    · exact absurd (Int32.toInt_inj.mp (by rw [nI_toInt (by omega)]; omega)) (h x.toInt.toNat (by omega))
/-- kept images -/
theorem kp_img {z0 z1 : Int32} (h0 : z0 = 0 ∨ z0 = 1) (h1 : z1 = 0 ∨ z1 = 1) : (kb z0 1 + kb z1 2) ||| ((1 : Int32) <<< ((0 : Int32) &&& 31)) = kb 1 1 + kb z1 2 ∧ (kb z0 1 + kb z1 2) ||| ((1 : Int32) <<< ((1 : Int32) &&& 31)) = kb z0 1 + kb 1 2 ∧
    ((kb z0 1 + kb z1 2) &&& ((1 : Int32) <<< ((0 : Int32) &&& 31)) = 0 ↔ z0 = 0) ∧ ((kb z0 1 + kb z1 2) &&& ((1 : Int32) <<< ((1 : Int32) &&& 31)) = 0 ↔ z1 = 0) := by
  rcases h0 with rfl | rfl <;> rcases h1 with rfl | rfl <;> decide
theorem LR_img0 {Pl : Nat → Option PD} {v v1 : Nat → Int32} {F F1 : Nat → Nat → Int32} {n0 nm k k1 k2 : Nat} {kp lo lo1 lo2 : Int32} {fp fp1 fp2 : Nat → Option Nat} {yr yr1 yr2 : Nat → Int32} (h : LR Pl v F n0 nm k k1 k2 kp lo lo1 lo2 fp fp1 fp2 yr yr1 yr2) (e4 : v1 4 = v 4) (e1 : F1 1 = F 1) (e3 : F1 3 = upd (F 3) 0 1) (e2 : imgE (F1 2) 0 (F 1)) (e5 : ∀ j, (j < 110 * 0 ∨ 110 * 0 + 110 ≤ j) → F1 2 j = F 2 j) : LR Pl v1 F1 n0 nm k k k2 (kp ||| ((1 : Int32) <<< ((0 : Int32) &&& 31))) lo lo lo2 fp (cpy fp fp1 6) fp2 yr (cpy yr yr1 6) yr2 := by
  obtain ⟨h1, h2, h3, h4, ⟨f0, f1, f2⟩, ⟨z0, z1⟩, h7, h8, h9⟩ := h
  unfold LR
  have u0 : upd (F 3) 0 1 0 = 1 := pk_us
  have u1 : upd (F 3) 0 1 1 = F 3 1 := pk_un (by decide)
  rw [e4, e1, e3, u0, u1, h7, (kp_img z0 z1).1]
  exact ⟨h1, h2, h3, h4, ⟨f0, FPin_cpy f0, f2⟩, ⟨Or.inr rfl, z1⟩, rfl, fun _ => ER_congr h4 e2 cpy_6, fun q => ER_congr (h9 q) (fun j hj => e5 _ (by omega)) (fun _ _ => ⟨rfl, rfl⟩)⟩
theorem LR_img1 {Pl : Nat → Option PD} {v v1 : Nat → Int32} {F F1 : Nat → Nat → Int32} {n0 nm k k1 k2 : Nat} {kp lo lo1 lo2 : Int32} {fp fp1 fp2 : Nat → Option Nat} {yr yr1 yr2 : Nat → Int32} (h : LR Pl v F n0 nm k k1 k2 kp lo lo1 lo2 fp fp1 fp2 yr yr1 yr2) (e4 : v1 4 = v 4) (e1 : F1 1 = F 1) (e3 : F1 3 = upd (F 3) 1 1) (e2 : imgE (F1 2) 1 (F 1)) (e5 : ∀ j, (j < 110 * 1 ∨ 110 * 1 + 110 ≤ j) → F1 2 j = F 2 j) : LR Pl v1 F1 n0 nm k k1 k (kp ||| ((1 : Int32) <<< ((1 : Int32) &&& 31))) lo lo1 lo fp fp1 (cpy fp fp2 6) yr yr1 (cpy yr yr2 6) := by
  obtain ⟨h1, h2, h3, h4, ⟨f0, f1, f2⟩, ⟨z0, z1⟩, h7, h8, h9⟩ := h
  unfold LR
  have u0 : upd (F 3) 1 1 0 = F 3 0 := pk_un (by decide)
  have u1 : upd (F 3) 1 1 1 = 1 := pk_us
  rw [e4, e1, e3, u0, u1, h7, (kp_img z0 z1).2.1]
  exact ⟨h1, h2, h3, h4, ⟨f0, f1, FPin_cpy f0⟩, ⟨z0, Or.inr rfl⟩, rfl, fun q => ER_congr (h8 q) (fun j hj => e5 _ (by omega)) (fun _ _ => ⟨rfl, rfl⟩), fun _ => ER_congr h4 e2 cpy_6⟩
theorem LR_rst {Pl : Nat → Option PD} {v v1 : Nat → Int32} {F F1 : Nat → Nat → Int32} {n0 nm k k1 k2 kz : Nat} {kp lo lo1 lo2 loz : Int32} {fp fp1 fp2 fpz : Nat → Option Nat} {yr yr1 yr2 yrz : Nat → Int32} (h : LR Pl v F n0 nm k k1 k2 kp lo lo1 lo2 fp fp1 fp2 yr yr1 yr2) (e4 : v1 4 = v 4) (e2 : F1 2 = F 2) (e3 : F1 3 = F 3) (hE : ER Pl (F1 1) kz loz fpz yrz) (hF : FPin Pl fpz) : LR Pl v1 F1 n0 nm kz k1 k2 kp loz lo1 lo2 fpz fp1 fp2 yrz yr1 yr2 := by
  obtain ⟨h1, h2, h3, h4, ⟨f0, f1, f2⟩, z, h7, h8, h9⟩ := h
  unfold LR
  rw [e4, e2, e3]
  exact ⟨h1, h2, h3, hE, ⟨hF, f1, f2⟩, z, h7, h8, h9⟩
theorem say_glue {n0 n1 n1' : Nat} {x r r' : Int32} {fs f1 f1' : Nat → Int32} (hn : n0 ≤ 48)
    (h : (¬ (33 ≤ x.toInt ∧ x.toInt ≤ 126) ∧ r = -2 ∧ n1 = n0 ∧ f1 = fs) ∨ ((33 ≤ x.toInt ∧ x.toInt ≤ 126) ∧ ¬ n0 < 48 ∧ r = -4 ∧ n1 = n0 ∧ f1 = fs) ∨ ((33 ≤ x.toInt ∧ x.toInt ≤ 126) ∧ n0 < 48 ∧ r = nI (n0 + 1) ∧ n1 = n0 + 1 ∧ f1 = upd fs n0 x))
    (h' : (¬ (33 ≤ x.toInt ∧ x.toInt ≤ 126) ∧ r' = -2 ∧ n1' = n0 ∧ f1' = fs) ∨ ((33 ≤ x.toInt ∧ x.toInt ≤ 126) ∧ ¬ n0 < 48 ∧ r' = -4 ∧ n1' = n0 ∧ f1' = fs) ∨ ((33 ≤ x.toInt ∧ x.toInt ≤ 126) ∧ n0 < 48 ∧ r' = nI (n0 + 1) ∧ n1' = n0 + 1 ∧ f1' = upd fs n0 x)) : r = r' ∧ n1 = n1' ∧ f1 = f1' ∧ n1 ≤ 48 := by
  rcases h with ⟨a, b, c, d⟩ | ⟨a, a2, b, c, d⟩ | ⟨a, a2, b, c, d⟩ <;> rcases h' with ⟨a', b', c', d'⟩ | ⟨a', a2', b', c', d'⟩ | ⟨a', a2', b', c', d'⟩ <;>
  first | exact absurd a a' | exact absurd a' a | exact absurd a2 a2' | exact absurd a2' a2 | (subst b c d b' c' d'; exact ⟨rfl, rfl, rfl, by omega⟩)
theorem LR_text {Pl : Nat → Option PD} {v v1 : Nat → Int32} {F F1 : Nat → Nat → Int32} {n0 n1 nm k k1 k2 : Nat} {kp lo lo1 lo2 : Int32} {fp fp1 fp2 : Nat → Option Nat} {yr yr1 yr2 : Nat → Int32} (h : LR Pl v F n0 nm k k1 k2 kp lo lo1 lo2 fp fp1 fp2 yr yr1 yr2) (hn : n1 ≤ 48) (e4 : v1 4 = nI n1) (e1 : F1 1 = F 1) (e2 : F1 2 = F 2) (e3 : F1 3 = F 3) : LR Pl v1 F1 n1 nm k k1 k2 kp lo lo1 lo2 fp fp1 fp2 yr yr1 yr2 := by
  unfold LR at *
  rw [e1, e2, e3]
  exact ⟨hn, h.2.1, e4, h.2.2.2⟩
theorem LR_pool {Pl Pl1 : Nat → Option PD} {v v1 : Nat → Int32} {F F1 : Nat → Nat → Int32} {n0 n1 nm nm1 k k1 k2 kz : Nat} {kp lo lo1 lo2 loz : Int32} {fp fp1 fp2 fpz : Nat → Option Nat} {yr yr1 yr2 yrz : Nat → Int32} (h : LR Pl v F n0 nm k k1 k2 kp lo lo1 lo2 fp fp1 fp2 yr yr1 yr2) (hm : ∀ a d, Pl a = some d → Pl1 a = some d) (hn : n1 ≤ 48) (hn1 : nm1 ≤ 31) (e4 : v1 4 = nI n1) (e2 : F1 2 = F 2) (e3 : F1 3 = F 3) (hE : ER Pl1 (F1 1) kz loz fpz yrz) (hF : FPin Pl1 fpz) : LR Pl1 v1 F1 n1 nm1 kz k1 k2 kp loz lo1 lo2 fpz fp1 fp2 yrz yr1 yr2 := by
  obtain ⟨h1, h2, h3, h4, ⟨f0, f1, f2⟩, z, h7, h8, h9⟩ := h
  unfold LR
  rw [e2, e3]
  exact ⟨hn, hn1, e4, hE, ⟨hF, FPin_mono hm f1, FPin_mono hm f2⟩, z, h7, fun q => ER_mono hm (h8 q), fun q => ER_mono hm (h9 q)⟩
