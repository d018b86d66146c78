theorem u_sw20s {x : Int32} (h0 : ¬ x = 0) (h1 : ¬ x = 1) (h2 : ¬ x = 2) (h3 : ¬ x = 3) (h4 : ¬ x = 4) (h5 : ¬ x = 5) (h6 : ¬ x = 6) (h7 : ¬ x = 7) (h8 : ¬ x = 8) (h9 : ¬ x = 9) (h10 : ¬ x = 10) (h11 : ¬ x = 11) (h12 : ¬ x = 12) (h13 : ¬ x = 13) (h14 : ¬ x = 14) (h15 : ¬ x = 15) (h16 : ¬ x = 16) (h17 : ¬ x = 17) (h18 : ¬ x = 18) (h19 : ¬ x = 19) : x.toInt < 0 ∨ 19 < x.toInt := u_sw20 (fun j hj => match j, hj with
  | 0, _ => h0
  | 1, _ => h1
  | 2, _ => h2
  | 3, _ => h3
  | 4, _ => h4
  | 5, _ => h5
  | 6, _ => h6
  | 7, _ => h7
  | 8, _ => h8
  | 9, _ => h9
  | 10, _ => h10
  | 11, _ => h11
  | 12, _ => h12
  | 13, _ => h13
  | 14, _ => h14
  | 15, _ => h15
  | 16, _ => h16
  | 17, _ => h17
  | 18, _ => h18
  | 19, _ => h19
  | n + 20, h => absurd h (by omega))
theorem u_slen {p : Program} {l : Launch} {e : Env} {R : Room} {s : State} {m : MethodId} {args : Array Value} {below : List Frame} {meth : Method} {c : Code} {H H0 : Heap} {locs : List Loc} {cells slots : Nat} {Q : State → Prop} {pc : Nat} {ls : Array Slot} {rest : List Value} {cc : ByteArray} {A : Nat → Prop} (hexec : p.tables.exec = Jvm.exec) (hb : c.code = cc) {b L : Nat} {xs : Nat → Int32} (hX : va_X b L xs s H0) (hbl : b < H0.size) (hbA : ¬ A b) (hS : va_S A H0 H locs) (hdg : decode cc pc = .ok (.arraylength, 1))
    (kk : W p l e R s m args below meth c H locs cells slots Q (F0 m (pc + 1) ls (.int (nI L) :: rest))) : W p l e R s m args below meth c H locs cells slots Q (F0 m pc ls (.ref b :: rest)) := va_slen hexec hb hX hbl hbA hS hdg kk
set_option maxHeartbeats 4000000 in
set_option maxRecDepth 100000 in
theorem law_loop {p : Program} {l : Launch} {e : Env} {s : State} {m : MethodId} {below : List Frame} {meth : Method} {c : Code} {Q : State → Prop} {b L : Nat} {xs : Nat → Int32} {D : va_G} {cI cB cZ cP : ClassId} {tz1 tz2 : Nat} {A : Nat → Prop} (K0 : LK p s m c b L xs D cI cB cZ cP tz1 tz2 A) (hL : L ≤ 2048) (hAs : ∀ q, A q → s.heap.size ≤ q) (hend : ∀ (H : Heap) (ls : Array Slot), W p l e room_1 s m #[Value.ref b] below meth c H [] 600000 7302250 Q (F0 m 726 ls [.int 1])) {h0 am : Nat} : ∀ (fu z : Nat) (hfu : L + 4 - 4 * z < fu) (hzL : 4 * z ≤ L + 3) (H : Heap) (locs : List Loc) (cells slots : Nat) (ls : Array Slot) (hst : LST D cI cB cZ cP A h0 am H) (hS : va_S A s.heap H locs) (hc : cells ≤ 40 + 51 * z) (hsl : slots ≤ 6000 + 3014 * z) (hl : lv_has ls 4 [(0, .ref b), (1, .ref h0), (2, .ref am), (3, .int (nI (4 * z)))]), W p l e room_1 s m #[Value.ref b] below meth c H locs cells slots Q (F0 m 18 ls []) := by
  intro fu
  induction fu with
  | zero => intro z hfu; exact absurd hfu (Nat.not_lt_zero _)
  | succ fu ih =>
    intro z hfu hzL H locs cells slots ls hst hS hc hsl hl
    obtain ⟨hx, hb, hml, hown, hts, hX, hbl, hW0, hZ, hA, hbA⟩ := id K0
    refine lv_iload_n hx hb dL_law_18 rfl (lv_at hl 3 rfl) ?_
    refine lv_aload_n hx hb dL_law_19 rfl (lv_at hl 0 rfl) ?_
    refine u_slen hx hb hX hbl hbA hS dL_law_20 ?_
    refine lv_iconst (v := 4) hx hb dL_law_21 (by decide) ?_
    refine lv_isub hx hb dL_law_22 ?_
    have eL := nI_toInt (n := L) (by omega)
    have ez := nI_toInt (n := 4 * z) (by omega)
    have eS : (nI L - 4).toInt = (L : Int) - 4 := by rw [tI_sub (by rw [eL, li_4]; omega) (by rw [eL, li_4]; omega), eL, li_4]
    refine lv_icmp_gt (tgt := 725) hx hb dL_law_23 (by decide) (fun c_1 => ?_) (fun c_1 => ?_)
    · refine lv_iconst (v := 1) hx hb dL_law_725 (by decide) ?_
      refine va_forget (fun q hq => hAs _ (hS.2.2 q hq)) ?_
      exact W.widen (k := 600000) (n := 7302250) (by omega) (by omega) (hend _ _)
    · have hz : 4 * z + 4 ≤ L := by simp only [Int32.lt_iff_toInt_lt, eS, ez] at c_1; omega
      have k719 : ∀ (H : Heap) (locs : List Loc) (cells slots : Nat) (ls : Array Slot), LST D cI cB cZ cP A h0 am H → va_S A s.heap H locs → cells ≤ 40 + 51 * (z + 1) → slots ≤ 6000 + 3014 * (z + 1) → lv_has ls 4 [(0, .ref b), (1, .ref h0), (2, .ref am), (3, .int (nI (4 * z)))] → W p l e room_1 s m #[Value.ref b] below meth c H locs cells slots Q (F0 m 719 ls []) := by
        intro H locs cells slots ls hst hS hc hsl hl
        refine lv_iinc (v := nI (4 * (z + 1))) (lv' := [(3, .int (nI (4 * (z + 1)))), (0, .ref b), (1, .ref h0), (2, .ref am)]) hx hb dL_law_719 hl (k := 3) rfl (by rw [show 4 * (z + 1) = 4 * z + 4 by omega]; exact nI_add _ 4) (by decide) rfl (fun ls hl => ?_)
        refine lv_goto (tgt := 18) hx hb dL_law_722 (by decide) ?_
        exact ih (z + 1) (by omega) (by omega) H locs cells slots ls hst hS hc hsl (lv_sub hl [1, 2, 3, 0] rfl)
      refine lv_aload_n hx hb dL_law_26 rfl (lv_at hl 0 rfl) ?_
      refine lv_iload_n hx hb dL_law_27 rfl (lv_at hl 3 rfl) ?_
      refine u_sld hx hb hX hbl hbA hS (k := 4 * z) rfl (by omega) dL_law_28 ?_
      refine lv_bipush (v := 31) hx hb dL_law_29 (by decide) ?_
      refine lv_iand hx hb dL_law_31 ?_
      generalize xs (4 * z) &&& 31 = x9
      by_cases q_0 : x9 = 0
      · refine lv_tableIn (off := 96) (tgt := 128) hx hb dL_law_32 (by rw [q_0]; decide) (by rw [q_0]; decide) (by rw [q_0]; rfl) (by decide) ?_
        exact lc_say K0 hst hS hz hL hc hsl hl k719
      by_cases q_1 : x9 = 1
      · refine lv_tableIn (off := 119) (tgt := 151) hx hb dL_law_32 (by rw [q_1]; decide) (by rw [q_1]; decide) (by rw [q_1]; rfl) (by decide) ?_
        exact lc_wipe K0 hst hS hz hL hc hsl hl k719
      by_cases q_2 : x9 = 2
      · refine lv_tableIn (off := 132) (tgt := 164) hx hb dL_law_32 (by rw [q_2]; decide) (by rw [q_2]; decide) (by rw [q_2]; rfl) (by decide) ?_
        exact lc_fault K0 hst hS hz hL hc hsl hl k719
      by_cases q_3 : x9 = 3
      · refine lv_tableIn (off := 145) (tgt := 177) hx hb dL_law_32 (by rw [q_3]; decide) (by rw [q_3]; decide) (by rw [q_3]; rfl) (by decide) ?_
        exact lc_deed K0 hst hS hz hL hc hsl hl k719
      by_cases q_4 : x9 = 4
      · refine lv_tableIn (off := 188) (tgt := 220) hx hb dL_law_32 (by rw [q_4]; decide) (by rw [q_4]; decide) (by rw [q_4]; rfl) (by decide) ?_
        exact lc_miss K0 hst hS hz hL hc hsl hl k719
      by_cases q_5 : x9 = 5
      · refine lv_tableIn (off := 211) (tgt := 243) hx hb dL_law_32 (by rw [q_5]; decide) (by rw [q_5]; decide) (by rw [q_5]; rfl) (by decide) ?_
        exact lc_loose K0 hst hS hz hL hc hsl hl k719
      by_cases q_6 : x9 = 6
      · refine lv_tableIn (off := 234) (tgt := 266) hx hb dL_law_32 (by rw [q_6]; decide) (by rw [q_6]; decide) (by rw [q_6]; rfl) (by decide) ?_
        exact lc_drop K0 hst hS hz hL hc hsl hl k719
      by_cases q_7 : x9 = 7
      · refine lv_tableIn (off := 257) (tgt := 289) hx hb dL_law_32 (by rw [q_7]; decide) (by rw [q_7]; decide) (by rw [q_7]; rfl) (by decide) ?_
        exact lc_year K0 hst hS hz hL hc hsl hl k719
      by_cases q_8 : x9 = 8
      · refine lv_tableIn (off := 290) (tgt := 322) hx hb dL_law_32 (by rw [q_8]; decide) (by rw [q_8]; decide) (by rw [q_8]; rfl) (by decide) ?_
        exact lc_about K0 hst hS hz hL hc hsl hl k719
      by_cases q_9 : x9 = 9
      · refine lv_tableIn (off := 323) (tgt := 355) hx hb dL_law_32 (by rw [q_9]; decide) (by rw [q_9]; decide) (by rw [q_9]; rfl) (by decide) ?_
        exact lc_corner K0 hst hS hz hL hc hsl hl k719
      by_cases q_10 : x9 = 10
      · refine lv_tableIn (off := 366) (tgt := 398) hx hb dL_law_32 (by rw [q_10]; decide) (by rw [q_10]; decide) (by rw [q_10]; rfl) (by decide) ?_
        exact lc_lies K0 hst hS hz hL hc hsl hl k719
      by_cases q_11 : x9 = 11
      · refine lv_tableIn (off := 409) (tgt := 441) hx hb dL_law_32 (by rw [q_11]; decide) (by rw [q_11]; decide) (by rw [q_11]; rfl) (by decide) ?_
        exact lc_sign K0 hst hS hz hL hc hsl hl k719
      by_cases q_12 : x9 = 12
      · refine lv_tableIn (off := 442) (tgt := 474) hx hb dL_law_32 (by rw [q_12]; decide) (by rw [q_12]; decide) (by rw [q_12]; rfl) (by decide) ?_
        exact lc_west K0 hst hS hz hL hc hsl hl k719
      by_cases q_13 : x9 = 13
      · refine lv_tableIn (off := 486) (tgt := 518) hx hb dL_law_32 (by rw [q_13]; decide) (by rw [q_13]; decide) (by rw [q_13]; rfl) (by decide) ?_
        exact lc_line K0 hst hS hz hL hc hsl hl k719
      by_cases q_14 : x9 = 14
      · refine lv_tableIn (off := 519) (tgt := 551) hx hb dL_law_32 (by rw [q_14]; decide) (by rw [q_14]; decide) (by rw [q_14]; rfl) (by decide) ?_
        exact lc_common K0 hst hS hz hL hc hsl hl k719
      by_cases q_15 : x9 = 15
      · refine lv_tableIn (off := 562) (tgt := 594) hx hb dL_law_32 (by rw [q_15]; decide) (by rw [q_15]; decide) (by rw [q_15]; rfl) (by decide) ?_
        exact lc_right K0 hst hS hz hL hc hsl hl k719
      by_cases q_16 : x9 = 16
      · refine lv_tableIn (off := 595) (tgt := 627) hx hb dL_law_32 (by rw [q_16]; decide) (by rw [q_16]; decide) (by rw [q_16]; rfl) (by decide) ?_
        exact lc_gap K0 hst hS hz hL hc hsl hl k719
      by_cases q_17 : x9 = 17
      · refine lv_tableIn (off := 618) (tgt := 650) hx hb dL_law_32 (by rw [q_17]; decide) (by rw [q_17]; decide) (by rw [q_17]; rfl) (by decide) ?_
        exact lc_count K0 hst hS hz hL hc hsl hl k719
      by_cases q_18 : x9 = 18
      · refine lv_tableIn (off := 641) (tgt := 673) hx hb dL_law_32 (by rw [q_18]; decide) (by rw [q_18]; decide) (by rw [q_18]; rfl) (by decide) ?_
        exact lc_image K0 hst hS hz hL hc hsl hl k719
      by_cases q_19 : x9 = 19
      · refine lv_tableIn (off := 664) (tgt := 696) hx hb dL_law_32 (by rw [q_19]; decide) (by rw [q_19]; decide) (by rw [q_19]; rfl) (by decide) ?_
        exact lc_restore K0 hst hS hz hL hc hsl hl k719
      refine lv_tableOut (tgt := 719) hx hb dL_law_32 (by have := u_sw20s q_0 q_1 q_2 q_3 q_4 q_5 q_6 q_7 q_8 q_9 q_10 q_11 q_12 q_13 q_14 q_15 q_16 q_17 q_18 q_19; omega) (by decide) ?_
      exact k719 H locs cells slots ls hst hS (by omega) (by omega) hl

