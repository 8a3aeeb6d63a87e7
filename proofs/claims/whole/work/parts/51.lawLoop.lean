/-! the law's loop -/
theorem lp_in {L i : Nat} (hL : L ≤ 3072) (hi : i ≤ 3072) : nI L - 6 < nI i ↔ L < i + 6 := by
  have h1 : (nI L).toInt = (L : Int) := nI_toInt (by omega)
  have h2 : (nI i).toInt = (i : Int) := nI_toInt (by omega)
  have h3 : (nI L - 6).toInt = (L : Int) - 6 := by
    rw [Int32.toInt_sub, h1, show (6 : Int32).toInt = 6 from rfl]
    exact Int.bmod_eq_of_le (by omega) (by omega)
  rw [Int32.lt_iff_toInt_lt, h2, h3]
  omega
theorem z_slen {E : zE} {D : va_G} {cB cI cH cF cL : ClassId} {n : Nat} {own : String} {fr lo : Nat} {U : sL} {pc p1 : Nat} {LL : List (Nat × Value)} {st : List Value} {b L : Nat} {xs : Nat → Int32} {cc : ByteArray} (C : zC E (wL D cB cI cH cF cL n) cc own fr lo) (hX : va_X b L xs E.2.2.2.2.1 E.2.2.2.2.1.heap) (hbl : b < E.2.2.2.2.1.heap.size) (hbn : ¬ n ≤ b) (d : zD cc pc .arraylength 1 p1) (k : zV E (wL D cB cI cH cF cL n) U p1 LL (.int (nI L) :: st)) : zV E (wL D cB cI cH cF cL n) U pc LL (.ref b :: st) := by
  obtain ⟨p, l, e, R, s, m, args, below, meth, c, nL, Q, kk9, nn9⟩ := E
  obtain ⟨d, rfl⟩ := d
  obtain ⟨hx, hb, hml, hown, hts, hO, hfr, hlo, hlk, hkk9, hnn9⟩ := C
  intro H locs ls g1 g2 g3
  exact va_slen hx hb hX hbl hbn g2 d (k H locs ls g1 g2 g3)
theorem z_sget {E : zE} {D : va_G} {cB cI cH cF cL : ClassId} {n : Nat} {own : String} {fr lo : Nat} {U : sL} {pc p1 : Nat} {LL : List (Nat × Value)} {st : List Value} {b L i : Nat} {xs : Nat → Int32} {cc : ByteArray} (C : zC E (wL D cB cI cH cF cL n) cc own fr lo) (hX : va_X b L xs E.2.2.2.2.1 E.2.2.2.2.1.heap) (hbl : b < E.2.2.2.2.1.heap.size) (hbn : ¬ n ≤ b) (hL : L ≤ 3072) (hi : i < L) (d : zD cc pc .iaload 1 p1) (k : zV E (wL D cB cI cH cF cL n) U p1 LL (.int (xs i) :: st)) : zV E (wL D cB cI cH cF cL n) U pc LL (.int (nI i) :: .ref b :: st) := by
  obtain ⟨p, l, e, R, s, m, args, below, meth, c, nL, Q, kk9, nn9⟩ := E
  obtain ⟨d, rfl⟩ := d
  obtain ⟨hx, hb, hml, hown, hts, hO, hfr, hlo, hlk, hkk9, hnn9⟩ := C
  intro H locs ls g1 g2 g3
  have ec : (nI i).toNatClampNeg = i := nI_clamp (by omega)
  refine va_sld hx hb hX hbl hbn g2 (vp_in_nI hi (by omega)) d ?_
  rw [ec]
  exact k H locs ls g1 g2 g3
theorem lp_head {p : Program} {l : Launch} {e : Env} {R : Room} {s : State} {m : MethodId} {below : List Frame} {meth : Method} {c : Code} {Q : State → Prop} {b L : Nat} {xs : Nat → Int32} {D : va_G} {cB cI cH cF cL : ClassId} {n : Nat} {i kk nn : Nat} (C : zC (p, l, e, R, s, m, (#[Value.ref b] : Array Value), below, meth, c, 7, Q, kk, nn) (wL D cB cI cH cF cL n) code "HostBenchLaw" 11 414) (hX : va_X b L xs s s.heap) (hbl : b < s.heap.size) (hbn : ¬ n ≤ b) (hL : L ≤ 3072) (hi : i ≤ 3072) {U : sL} (k1 : L < i + 6 → zV (p, l, e, R, s, m, (#[Value.ref b] : Array Value), below, meth, c, 7, Q, kk, nn) (wL D cB cI cH cF cL n) U 981 [(4, .int (nI i)), (3, .ref (n + 116)), (2, .ref (ad (bk2 D cB cI cH cF n) 0)), (1, .ref (ad (bk1 D cB cI cH cF n) 0)), (0, .ref b)] []) (k2 : i + 6 ≤ L → zV (p, l, e, R, s, m, (#[Value.ref b] : Array Value), below, meth, c, 7, Q, kk, nn) (wL D cB cI cH cF cL n) U 40 [(4, .int (nI i)), (3, .ref (n + 116)), (2, .ref (ad (bk2 D cB cI cH cF n) 0)), (1, .ref (ad (bk1 D cB cI cH cF n) 0)), (0, .ref b)] [.int (xs i &&& 31)]) : zV (p, l, e, R, s, m, (#[Value.ref b] : Array Value), below, meth, c, 7, Q, kk, nn) (wL D cB cI cH cF cL n) U 23 [(4, .int (nI i)), (3, .ref (n + 116)), (2, .ref (ad (bk2 D cB cI cH cF n) 0)), (1, .ref (ad (bk1 D cB cI cH cF n) 0)), (0, .ref b)] [] := by
  refine z_iload C 0 rfl d_L_law_23 (z_aload_n C 4 rfl rfl d_L_law_25 (z_slen (b := b) (L := L) (xs := xs) C hX hbl hbn d_L_law_26 (z_bipush (v := 6) C (by decide) d_L_law_27 (z_isub C d_L_law_29 (z_icmp_gt (tgt := 981) C d_L_law_30 rfl (fun c9 => k1 ((lp_in hL hi).mp c9)) (fun c9 => ?_))))))
  have hi6 : i + 6 ≤ L := by
    rcases Nat.lt_or_ge L (i + 6) with z | z
    · exact absurd ((lp_in hL hi).mpr z) c9
    · exact z
  exact z_aload_n C 4 rfl rfl d_L_law_33 (z_iload C 0 rfl d_L_law_34 (z_sget (b := b) (L := L) (xs := xs) C hX hbl hbn hL (by omega) d_L_law_36 (z_bipush (v := 31) C (by decide) d_L_law_37 (z_iand C d_L_law_39 (k2 hi6)))))
theorem lp_loop {p : Program} {l : Launch} {e : Env} {R : Room} {s : State} {m : MethodId} {below : List Frame} {meth : Method} {c : Code} {Q : State → Prop} (hst : l.stackTraces = false) {b L : Nat} {xs : Nat → Int32} {D : va_G} {cB cI cH cF cL : ClassId} {n : Nat} (CC : ∀ kk nn, kk ≤ R.cells → nn ≤ R.slots → zC (p, l, e, R, s, m, (#[Value.ref b] : Array Value), below, meth, c, 7, Q, kk, nn) (wL D cB cI cH cF cL n) code "HostBenchLaw" 11 414) (hRc : 700 ≤ R.cells) (hRs : 99000 ≤ R.slots) (hX : va_X b L xs s s.heap) (hbl : b < s.heap.size) (hbn : ¬ n ≤ b) (hL : L ≤ 3072) (hnc : ncs s) (Z : ∀ (kk nn i : Nat) (U : sL), kk ≤ 700 → nn ≤ 99000 → zV (p, l, e, R, s, m, (#[Value.ref b] : Array Value), below, meth, c, 7, Q, kk, nn) (wL D cB cI cH cF cL n) U 981 [(4, .int (nI i)), (3, .ref (n + 116)), (2, .ref (ad (bk2 D cB cI cH cF n) 0)), (1, .ref (ad (bk1 D cB cI cH cF n) 0)), (0, .ref b)] []) : ∀ (f t i kk nn : Nat) (A : zA) (S T : zS) (o : Int64) (j : Nat), L < 6 * (t + f) + 6 → 6 * t ≤ L → i = 6 * t → kk = 117 + t → nn = 94957 + 6 * t → RC A S → RR A T → AI A → gJ A.1 = lN j → j ≤ 5000 * t → zV (p, l, e, R, s, m, (#[Value.ref b] : Array Value), below, meth, c, 7, Q, kk, nn) (wL D cB cI cH cF cL n) (S, T, o) 23 [(4, .int (nI i)), (3, .ref (n + 116)), (2, .ref (ad (bk2 D cB cI cH cF n) 0)), (1, .ref (ad (bk1 D cB cI cH cF n) 0)), (0, .ref b)] [] := by
  intro f
  induction f with
  | zero =>
    intro t i kk nn A S T o j h1 h2 h3 h4 h5 hC hR hI hJ hj
    exact lp_head (CC kk nn (by omega) (by omega)) hX hbl hbn hL (by omega) (fun _ => Z kk nn i _ (by omega) (by omega)) (fun z => absurd z (by omega))
  | succ f ih =>
    intro t i kk nn A S T o j h1 h2 h3 h4 h5 hC hR hI hJ hj
    have C := CC kk nn (by omega) (by omega)
    refine lp_head C hX hbl hbn hL (by omega) (fun _ => Z kk nn i _ (by omega) (by omega)) (fun hi => ?_)
    have hr : kk + 1 ≤ R.cells ∧ nn + 6 ≤ R.slots := ⟨by omega, by omega⟩
    have C1 := CC (kk + 1) (nn + 6) hr.1 hr.2
    have N : ∀ (A' : zA) (S' T' : zS) (o' : Int64) (j' : Nat), RC A' S' → RR A' T' → AI A' → gJ A'.1 = lN j' → j' ≤ j + 5000 → zV (p, l, e, R, s, m, (#[Value.ref b] : Array Value), below, meth, c, 7, Q, (kk + 1), (nn + 6)) (wL D cB cI cH cF cL n) (S', T', o') 975 [(4, .int (nI i)), (3, .ref (n + 116)), (2, .ref (ad (bk2 D cB cI cH cF n) 0)), (1, .ref (ad (bk1 D cB cI cH cF n) 0)), (0, .ref b)] [] := fun A' S' T' o' j' r1 r2 r3 r4 r5 => z_iinc (nl := 7) (n := 6) (v := nI (i + 6)) C1 rfl 0 rfl (nI_add i 6) (by decide) rfl d_L_law_975 (z_goto (tgt := 23) C1 d_L_law_978 rfl (ih (t + 1) (i + 6) (kk + 1) (nn + 6) A' S' T' o' j' (by omega) (by omega) (by omega) (by omega) (by omega) r1 r2 r3 r4 (by omega)))
    have hj9 : j + 5000 < 2 ^ 31 := by omega
    clear ih Z CC
    generalize xs i &&& 31 = x
    by_cases c1 : x.toInt < 0 ∨ 19 < x.toInt
    · exact z_tableOut (tgt := 975) C d_L_law_40 c1 rfl (z_wid (N A S T o j hC hR hI hJ (by omega)))
    · have c2 : ¬ x < 0 := fun z => c1 (Or.inl (by rw [Int32.lt_iff_toInt_lt, Int32.toInt_zero] at z; exact z))
      have c3 : x ≤ 19 := by
        rw [Int32.le_iff_toInt_le, show (19 : Int32).toInt = 19 from rfl]; omega
      obtain ⟨v, hv, rfl⟩ := nI_of2 (M := 19) (n := 19) rfl c2 c3
      clear c1 c2 c3
      match v, hv with
      | 0, _ => exact z_tableIn (y := 0) (off := 96) (tgt := 136) C d_L_law_40 (by decide) (by decide) (by decide) rfl (q_feed hst C C1 hr hX hbl hbn hi hL hnc hC hR hI hJ hj9 N)
      | 1, _ => exact z_tableIn (y := 1) (off := 169) (tgt := 209) C d_L_law_40 (by decide) (by decide) (by decide) rfl (q_end hst C C1 hr hX hbl hbn hi hL hnc hC hR hI hJ hj9 N)
      | 2, _ => exact z_tableIn (y := 2) (off := 194) (tgt := 234) C d_L_law_40 (by decide) (by decide) (by decide) rfl (q_put hst C C1 hr hX hbl hbn hi hL hnc hC hR hI hJ hj9 N)
      | 3, _ => exact z_tableIn (y := 3) (off := 250) (tgt := 290) C d_L_law_40 (by decide) (by decide) (by decide) rfl (q_lay hst C C1 hr hX hbl hbn hi hL hnc hC hR hI hJ hj9 N)
      | 4, _ => exact z_tableIn (y := 4) (off := 294) (tgt := 334) C d_L_law_40 (by decide) (by decide) (by decide) rfl (q_type hst C C1 hr hX hbl hbn hi hL hnc hC hR hI hJ hj9 N)
      | 5, _ => exact z_tableIn (y := 5) (off := 338) (tgt := 378) C d_L_law_40 (by decide) (by decide) (by decide) rfl (q_command hst C C1 hr hX hbl hbn hi hL hnc hC hR hI hJ hj9 N)
      | 6, _ => exact z_tableIn (y := 6) (off := 382) (tgt := 422) C d_L_law_40 (by decide) (by decide) (by decide) rfl (q_clock hst C C1 hr hX hbl hbn hi hL hnc hC hR hI hJ hj9 N)
      | 7, _ => exact z_tableIn (y := 7) (off := 405) (tgt := 445) C d_L_law_40 (by decide) (by decide) (by decide) rfl (q_begin hst C C1 hr hX hbl hbn hi hL hnc hC hR hI hJ hj9 N)
      | 8, _ => exact z_tableIn (y := 8) (off := 416) (tgt := 456) C d_L_law_40 (by decide) (by decide) (by decide) rfl (q_run hst C C1 hr hX hbl hbn hi hL hnc hC hR hI hJ hj9 N)
      | 9, _ => exact z_tableIn (y := 9) (off := 472) (tgt := 512) C d_L_law_40 (by decide) (by decide) (by decide) rfl (q_state hst C C1 hr hX hbl hbn hi hL hnc hC hR hI hJ hj9 N)
      | 10, _ => exact z_tableIn (y := 10) (off := 485) (tgt := 525) C d_L_law_40 (by decide) (by decide) (by decide) rfl (q_look hst C C1 hr hX hbl hbn hi hL hnc hC hR hI hJ hj9 N)
      | 11, _ => exact z_tableIn (y := 11) (off := 541) (tgt := 581) C d_L_law_40 (by decide) (by decide) (by decide) rfl (q_register hst C C1 hr hX hbl hbn hi hL hnc hC hR hI hJ hj9 N)
      | 12, _ => exact z_tableIn (y := 12) (off := 597) (tgt := 637) C d_L_law_40 (by decide) (by decide) (by decide) rfl (q_set hst C C1 hr hX hbl hbn hi hL hnc hC hR hI hJ hj9 N)
      | 13, _ => exact z_tableIn (y := 13) (off := 634) (tgt := 674) C d_L_law_40 (by decide) (by decide) (by decide) rfl (q_peek hst C C1 hr hX hbl hbn hi hL hnc hC hR hI hJ hj9 N)
      | 14, _ => exact z_tableIn (y := 14) (off := 659) (tgt := 699) C d_L_law_40 (by decide) (by decide) (by decide) rfl (q_files hst C C1 hr hX hbl hbn hi hL hnc hC hR hI hJ hj9 N)
      | 15, _ => exact z_tableIn (y := 15) (off := 672) (tgt := 712) C d_L_law_40 (by decide) (by decide) (by decide) rfl (q_file hst C C1 hr hX hbl hbn hi hL hnc hC hR hI hJ hj9 N)
      | 16, _ => exact z_tableIn (y := 16) (off := 740) (tgt := 780) C d_L_law_40 (by decide) (by decide) (by decide) rfl (q_fileByte hst C C1 hr hX hbl hbn hi hL hnc hC hR hI hJ hj9 N)
      | 17, _ => exact z_tableIn (y := 17) (off := 805) (tgt := 845) C d_L_law_40 (by decide) (by decide) (by decide) rfl (q_handle hst C C1 hr hX hbl hbn hi hL hnc hC hR hI hJ hj9 N)
      | 18, _ => exact z_tableIn (y := 18) (off := 873) (tgt := 913) C d_L_law_40 (by decide) (by decide) (by decide) rfl (q_printed hst C C1 hr hX hbl hbn hi hL hnc hC hR hI hJ hj9 N)
      | 19, _ => exact z_tableIn (y := 19) (off := 898) (tgt := 938) C d_L_law_40 (by decide) (by decide) (by decide) rfl (q_print hst C C1 hr hX hbl hbn hi hL hnc hC hR hI hJ hj9 N)
      | w + 20, hw => exact absurd hw (by omega)
