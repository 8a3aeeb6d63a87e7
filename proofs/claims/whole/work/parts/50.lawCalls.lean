/-! the law's calls -/
theorem z_wid {σ : Type} {p : Program} {l : Launch} {e : Env} {R : Room} {s : State} {m : MethodId} {args : Array Value} {below : List Frame} {meth : Method} {c : Code} {nL : Nat} {Q : State → Prop} {kk nn : Nat} {w : zW σ} {S : σ} {pc : Nat} {L : List (Nat × Value)} {st : List Value} (k : zV (p, l, e, R, s, m, args, below, meth, c, nL, Q, kk + 1, nn + 6) w S pc L st) : zV (p, l, e, R, s, m, args, below, meth, c, nL, Q, kk, nn) w S pc L st := fun H locs ls h1 h2 h3 => W.widen (k := kk + 1) (n := nn + 6) (by omega) (by omega) (k H locs ls h1 h2 h3)
theorem z_arg {E : zE} {D : va_G} {cB cI cH cF cL : ClassId} {n : Nat} {own : String} {fr lo : Nat} {U : sL} {pc p1 p2 p3 p4 p5 : Nat} {LL : List (Nat × Value)} {st : List Value} {b L i : Nat} {xs : Nat → Int32} {cc : ByteArray} {kz : Int} {k9 : Nat} (C : zC E (wL D cB cI cH cF cL n) cc own fr lo) (hX : va_X b L xs E.2.2.2.2.1 E.2.2.2.2.1.heap) (hbl : b < E.2.2.2.2.1.heap.size) (hbn : ¬ n ≤ b) (hL : L ≤ 3072) (hk : i + k9 < L) (hkz : Int32.ofInt kz = nI k9) (q0 q4 : Nat) (h0 : LL[q0]? = some (0, .ref b)) (h4 : LL[q4]? = some (4, .int (nI i))) (d0 : zD cc pc (.aload_n 0) 1 p1) (d1 : zD cc p1 (.iload 4) 2 p2) (d2 : zD cc p2 (.iconst kz) 1 p3) (d3 : zD cc p3 .iadd 1 p4) (d4 : zD cc p4 .iaload 1 p5) (k : zV E (wL D cB cI cH cF cL n) U p5 LL (.int (xs (i + k9)) :: st)) : zV E (wL D cB cI cH cF cL n) U pc LL st := by
  refine z_aload_n C q0 h0 rfl d0 (z_iload C q4 h4 d1 (z_iconst C hkz d2 (z_iadd C d3 ?_)))
  rw [nI_add]
  obtain ⟨p, l, e, R, s, m, args, below, meth, c, nL, Q, kk9, nn9⟩ := E
  obtain ⟨d4, rfl⟩ := d4
  obtain ⟨hx, hb, hml, hown, hts, hO, hfr, hlo, hlk, hkk9, hnn9⟩ := C
  intro H locs ls g1 g2 g3
  have ec : (nI (i + k9)).toNatClampNeg = i + k9 := nI_clamp (by omega)
  refine va_sld hx hb hX hbl hbn g2 (vp_in_nI hk (by omega)) d4 ?_
  rw [ec]
  exact k H locs ls g1 g2 g3
theorem z_wrap {p : Program} {l : Launch} {e : Env} {R : Room} {s : State} {m : MethodId} {args : Array Value} {below : List Frame} {meth : Method} {c : Code} {nL : Nat} {Q : State → Prop} {kk nn : Nat} {D : va_G} {cB cI cH cF cL : ClassId} {n : Nat} {cc : ByteArray} {own : String} {fr lo : Nat} {U : sL} {pc pc' : Nat} {L : List (Nat × Value)} {st : List Value} {y : MethodName} {bytes : ByteArray} {mL idx fr' lo' k9 : Nat} {ret : Option FieldType} {hh : List (Nat × Nat × Nat × Nat)} {As rest : List Value} {P : sL → Int32 → Prop} (C : zC (p, l, e, R, s, m, args, below, meth, c, nL, Q, kk, nn) (wL D cB cI cH cF cL n) cc own fr lo) (hr : kk + 1 ≤ R.cells ∧ nn + 6 ≤ R.slots) (hnc : ncs s) (hM : Met l y (Cond.codeWith y bytes mL ret hh :: tT) (gRm fr' 1 6 lo') (lPc (wL D cB cI cH cF cL n) As U) (zQ (wL D cB cI cH cF cL n) (zPi P)) 1 6 (fun q => n ≤ q)) (w1 : Cond.methodLink own idx y ∈ tT) (w2 : Cond.static y ∈ tT) (w3 : Cond.initialized y.cls ∈ tT) (w4 : Cond.codeWith y bytes mL ret hh ∈ tT) (q5 : y.cls ≠ "java/lang/invoke/MethodHandle" ∧ y.cls ≠ "java/lang/invoke/VarHandle" ∧ (parseMethodDescriptor y.desc).map (fun d => d.parameters.length) = some k9) (hR : fr' + 1 ≤ fr ∧ 8 + (mL + 11) + lo' ≤ lo) (hAs : As.length = k9) (hst : As.reverse ++ rest = st) (hsz : (rest.map fun v => v.category).sum ≤ 8) (d : zD cc pc (.invokestatic idx) 3 pc')
    (k : ∀ (V : sL) (r : Int32), P V r → zV (p, l, e, R, s, m, args, below, meth, c, nL, Q, kk + 1, nn + 6) (wL D cB cI cH cF cL n) V pc' L (.int r :: rest)) : zV (p, l, e, R, s, m, args, below, meth, c, nL, Q, kk, nn) (wL D cB cI cH cF cL n) U pc L st := by
  obtain ⟨d, rfl⟩ := d
  obtain ⟨hx, hb, hml, hown, hts, hO, hfr, hlo, hlk, hkk9, hnn9⟩ := C
  subst hst
  intro H locs ls h1 h2 h3
  have hG : GoodIn tT (va_wsS own idx y (Cond.codeWith y bytes mL ret hh :: tT)) := fun w hw => by
    unfold va_wsS at hw
    rcases List.mem_append.mp hw with hw | hw
    · rcases List.mem_cons.mp hw with rfl | hw
      · exact ⟨w1, good_of_word (tT_in w1).2⟩
      rcases List.mem_cons.mp hw with rfl | hw
      · exact ⟨w2, good_of_word (tT_in w2).2⟩
      rcases List.mem_cons.mp hw with rfl | hw
      · exact ⟨w3, good_of_word (tT_in w3).2⟩
      · cases hw
    · exact z_good w4 w hw
  have run := vx_runSW (p := p) (l := l) (e := e) (R := R) (below := below) (meth := meth) (c := c) (locs := locs) (cells := kk) (slots := nn) (g := F0 m pc ls (As.reverse ++ rest)) (Ts := tT) (As := As) (rest := rest) (n := k9) ⟨hx, hb, hml, hown, hts⟩ hM (vx_cwSW k9 hts hG rfl rfl rfl q5 ⟨Nat.le_trans hR.1 hfr, Nat.le_trans hR.2 hlo⟩) (H := H) ⟨lPc_blind _ _ _, fun V hV hW => ⟨rfl, ⟨hO.warm hW (by rw [hV]; exact h2), by rw [hV]; exact h1⟩, hnc.moved hW.alike⟩⟩ rfl hAs h3.1 rfl (lv_room hsz) d hr
  intro T9 hT X
  obtain ⟨v, st₀, t, T', Lc, g0, X', hL, e1, e2, ⟨⟨v', V, hv, ⟨r, rfl, hp⟩, hb9⟩, hz, hk⟩, stp⟩ := run T9 hT X
  cases hv
  rw [g0] at hz hk
  obtain ⟨t2, a1, b1⟩ := k V r hp T'.heap (locs ++ Lc) ls (by rw [e1]; exact hb9)
    ⟨Nat.le_trans h2.1 (by rw [e1]; exact hz), fun q g1 g2 => by rw [e1, hk q (Nat.lt_of_lt_of_le g1 h2.1) g2]; exact h2.2.1 q g1 g2, fun q hq => by
      rcases List.mem_append.mp hq with z | z
      · exact h2.2.2 q z
      · exact hL q z⟩ h3 T' rfl X'
  exact ⟨t2, stp t2 a1, b1⟩
theorem lP_is {A' : zA} {Xp : Nat × Int32} {T : zS} {o : Int64} {U : sL} {r : Int32} (hX : Xp.1 < 4) (h : lP (fun S' v => RC A' S' ∧ Xp = (0, v)) (fun k S' => RC A' S' ∧ Xp.1 = k) T o U r) : ∃ (S' : zS) (o' : Int64), U = (S', T, o') ∧ RC A' S' ∧ r = nI Xp.1 ∧ (Xp.1 = 0 → o' = Xp.2.toInt64) := by
  rcases h with ⟨rfl, v, ⟨h1, h2⟩, h3⟩ | ⟨k, k1, k2, rfl, ⟨h1, h2⟩, h3⟩
  · exact ⟨U.1, v.toInt64, by rw [← h3], h1, by rw [h2]; rfl, fun _ => by rw [h2]⟩
  · exact ⟨U.1, o, by rw [← h3], h1, by rw [h2], fun z => by omega⟩
theorem lt_put (A : zA) (p : Int32) : (putA A p).2.1 < 4 := by unfold putA; split <;> first | exact (Nat.le_of_ble_eq_true rfl : (0 : Nat) < 4) | exact (Nat.le_of_ble_eq_true rfl : (1 : Nat) < 4) | exact (Nat.le_of_ble_eq_true rfl : (2 : Nat) < 4) | exact (Nat.le_of_ble_eq_true rfl : (3 : Nat) < 4)
theorem lt_type (A : zA) : (typeA A).2.1 < 4 := by unfold typeA; split <;> first | exact (Nat.le_of_ble_eq_true rfl : (0 : Nat) < 4) | exact (Nat.le_of_ble_eq_true rfl : (1 : Nat) < 4) | exact (Nat.le_of_ble_eq_true rfl : (2 : Nat) < 4) | exact (Nat.le_of_ble_eq_true rfl : (3 : Nat) < 4)
theorem lt_command (A : zA) : (commandA A).2.1 < 4 := by unfold commandA; split <;> first | exact (Nat.le_of_ble_eq_true rfl : (0 : Nat) < 4) | exact (Nat.le_of_ble_eq_true rfl : (1 : Nat) < 4) | exact (Nat.le_of_ble_eq_true rfl : (2 : Nat) < 4) | exact (Nat.le_of_ble_eq_true rfl : (3 : Nat) < 4)
theorem lt_run (A : zA) (m : Int32) : (runC A m).2.1 < 4 := by unfold runC; split <;> first | exact (Nat.le_of_ble_eq_true rfl : (0 : Nat) < 4) | exact (Nat.le_of_ble_eq_true rfl : (1 : Nat) < 4) | exact (Nat.le_of_ble_eq_true rfl : (2 : Nat) < 4) | exact (Nat.le_of_ble_eq_true rfl : (3 : Nat) < 4)
theorem lt_lay (A : zA) : (layA A).2.1 < 4 := by
  unfold layA
  repeat' split
  all_goals first | exact (Nat.le_of_ble_eq_true rfl : (0 : Nat) < 4) | exact (Nat.le_of_ble_eq_true rfl : (1 : Nat) < 4) | exact (Nat.le_of_ble_eq_true rfl : (2 : Nat) < 4) | exact (Nat.le_of_ble_eq_true rfl : (3 : Nat) < 4)
theorem lt_look (A : zA) (w : Int32) : (lookA A w).1 < 4 := by
  unfold lookA
  repeat' split
  all_goals first | exact (Nat.le_of_ble_eq_true rfl : (0 : Nat) < 4) | exact (Nat.le_of_ble_eq_true rfl : (1 : Nat) < 4) | exact (Nat.le_of_ble_eq_true rfl : (2 : Nat) < 4) | exact (Nat.le_of_ble_eq_true rfl : (3 : Nat) < 4)
theorem lt_register (A : zA) (w : Int32) : (registerA A w).1 < 4 := by
  unfold registerA
  repeat' split
  all_goals first | exact (Nat.le_of_ble_eq_true rfl : (0 : Nat) < 4) | exact (Nat.le_of_ble_eq_true rfl : (1 : Nat) < 4) | exact (Nat.le_of_ble_eq_true rfl : (2 : Nat) < 4) | exact (Nat.le_of_ble_eq_true rfl : (3 : Nat) < 4)
theorem lt_file (A : zA) (k w : Int32) : (fileA A k w).1 < 4 := by
  unfold fileA
  repeat' split
  all_goals first | exact (Nat.le_of_ble_eq_true rfl : (0 : Nat) < 4) | exact (Nat.le_of_ble_eq_true rfl : (1 : Nat) < 4) | exact (Nat.le_of_ble_eq_true rfl : (2 : Nat) < 4) | exact (Nat.le_of_ble_eq_true rfl : (3 : Nat) < 4)
theorem lt_handle (A : zA) (k w : Int32) : (handleA A k w).1 < 4 := by
  unfold handleA
  repeat' split
  all_goals first | exact (Nat.le_of_ble_eq_true rfl : (0 : Nat) < 4) | exact (Nat.le_of_ble_eq_true rfl : (1 : Nat) < 4) | exact (Nat.le_of_ble_eq_true rfl : (2 : Nat) < 4) | exact (Nat.le_of_ble_eq_true rfl : (3 : Nat) < 4)
theorem q_feed {p : Program} {l : Launch} {e : Env} {R : Room} {s : State} {m : MethodId} {below : List Frame} {meth : Method} {c : Code} {Q : State → Prop} (hst : l.stackTraces = false) {b L : Nat} {xs : Nat → Int32} {D : va_G} {cB cI cH cF cL : ClassId} {n i kk nn : Nat} (C : zC (p, l, e, R, s, m, (#[Value.ref b] : Array Value), below, meth, c, 7, Q, kk, nn) (wL D cB cI cH cF cL n) code "HostBenchLaw" 11 414) (C1 : zC (p, l, e, R, s, m, (#[Value.ref b] : Array Value), below, meth, c, 7, Q, kk + 1, nn + 6) (wL D cB cI cH cF cL n) code "HostBenchLaw" 11 414) (hr : kk + 1 ≤ R.cells ∧ nn + 6 ≤ R.slots) (hX : va_X b L xs s s.heap) (hbl : b < s.heap.size) (hbn : ¬ n ≤ b) (hi : i + 6 ≤ L) (hL : L ≤ 3072) (hnc : ncs s) {A : zA} {S T : zS} {o : Int64} {j : Nat} (hC : RC A S) (hR : RR A T) (hI : AI A) (hJ : gJ A.1 = lN j) (hj : j + 5000 < 2 ^ 31) (N : ∀ (A' : zA) (S' T' : zS) (o' : Int64) (j' : Nat), RC A' S' → RR A' T' → AI A' → gJ A'.1 = lN j' → j' ≤ j + 5000 → zV (p, l, e, R, s, m, (#[Value.ref b] : Array Value), below, meth, c, 7, Q, kk + 1, nn + 6) (wL D cB cI cH cF cL n) (S', T', o') 975 [(4, .int (nI i)), (3, .ref (n + 116)), (2, .ref (ad (bk2 D cB cI cH cF n) 0)), (1, .ref (ad (bk1 D cB cI cH cF n) 0)), (0, .ref b)] []) : zV (p, l, e, R, s, m, (#[Value.ref b] : Array Value), below, meth, c, 7, Q, kk, nn) (wL D cB cI cH cF cL n) (S, T, o) 136 [(4, .int (nI i)), (3, .ref (n + 116)), (2, .ref (ad (bk2 D cB cI cH cF n) 0)), (1, .ref (ad (bk1 D cB cI cH cF n) 0)), (0, .ref b)] [] := by
  refine z_aload_n C 3 rfl rfl d_L_law_136 ?_
  refine z_arg (b := b) (L := L) (xs := xs) (k9 := 1) C hX hbl hbn hL (by omega) (by decide) 4 0 rfl rfl d_L_law_137 d_L_law_138 d_L_law_140 d_L_law_141 d_L_law_142 ?_
  refine z_arg (b := b) (L := L) (xs := xs) (k9 := 2) C hX hbl hbn hL (by omega) (by decide) 4 0 rfl rfl d_L_law_143 d_L_law_144 d_L_law_146 d_L_law_147 d_L_law_148 ?_
  refine z_arg (b := b) (L := L) (xs := xs) (k9 := 3) C hX hbl hbn hL (by omega) (by decide) 4 0 rfl rfl d_L_law_149 d_L_law_150 d_L_law_152 d_L_law_153 d_L_law_154 ?_
  refine z_arg (b := b) (L := L) (xs := xs) (k9 := 4) C hX hbl hbn hL (by omega) (by decide) 4 0 rfl rfl d_L_law_155 d_L_law_156 d_L_law_158 d_L_law_159 d_L_law_160 ?_
  refine z_arg (b := b) (L := L) (xs := xs) (k9 := 5) C hX hbl hbn hL (by omega) (by decide) 4 0 rfl rfl d_L_law_161 d_L_law_162 d_L_law_164 d_L_law_165 d_L_law_166 ?_
  refine z_part (f := (fun u9 => (u9, T, o))) (As := [.int (xs (i + 1)), .int (xs (i + 2)), .int (xs (i + 3)), .int (xs (i + 4)), .int (xs (i + 5))]) (rest := []) (k9 := 5) C (pt_C D cB cI cH cF cL n S T o) ⟨tw_355, tw_356, tw_76, tw_357, ⟨by decide, by decide, by decide +kernel⟩⟩ tw_354 (c_HB_feed l (bk1 D cB cI cH cF n) (xs (i + 1)) (xs (i + 2)) (xs (i + 3)) (xs (i + 4)) (xs (i + 5)) S _ (k_feed hC (xs (i + 1)) (xs (i + 2)) (xs (i + 3)) (xs (i + 4)) (xs (i + 5)))) ⟨9, 0, _, TX9, 8, rfl, rfl⟩ ⟨by decide, by decide⟩ rfl rfl (Nat.le_of_ble_eq_true rfl) d_L_law_167 (fun x u hu => ?_)
  obtain ⟨rv, rfl, hu⟩ := hu
  refine z_aload_n C 2 rfl rfl d_L_law_170 ?_
  refine z_arg (b := b) (L := L) (xs := xs) (k9 := 1) C hX hbl hbn hL (by omega) (by decide) 4 0 rfl rfl d_L_law_171 d_L_law_172 d_L_law_174 d_L_law_175 d_L_law_176 ?_
  refine z_arg (b := b) (L := L) (xs := xs) (k9 := 2) C hX hbl hbn hL (by omega) (by decide) 4 0 rfl rfl d_L_law_177 d_L_law_178 d_L_law_180 d_L_law_181 d_L_law_182 ?_
  refine z_arg (b := b) (L := L) (xs := xs) (k9 := 3) C hX hbl hbn hL (by omega) (by decide) 4 0 rfl rfl d_L_law_183 d_L_law_184 d_L_law_186 d_L_law_187 d_L_law_188 ?_
  refine z_arg (b := b) (L := L) (xs := xs) (k9 := 4) C hX hbl hbn hL (by omega) (by decide) 4 0 rfl rfl d_L_law_189 d_L_law_190 d_L_law_192 d_L_law_193 d_L_law_194 ?_
  refine z_arg (b := b) (L := L) (xs := xs) (k9 := 5) C hX hbl hbn hL (by omega) (by decide) 4 0 rfl rfl d_L_law_195 d_L_law_196 d_L_law_198 d_L_law_199 d_L_law_200 ?_
  refine z_part (f := (fun u9 => (u, u9, o))) (As := [.int (xs (i + 1)), .int (xs (i + 2)), .int (xs (i + 3)), .int (xs (i + 4)), .int (xs (i + 5))]) (rest := [.int rv]) (k9 := 5) C (pt_R D cB cI cH cF cL n u T o) ⟨tw_1080, tw_1081, tw_87, tw_1082, ⟨by decide, by decide, by decide +kernel⟩⟩ tw_1079 (c_M_feed l (bk2 D cB cI cH cF n) (xs (i + 1)) (xs (i + 2)) (xs (i + 3)) (xs (i + 4)) (xs (i + 5)) T _ (m_feed hR (xs (i + 1)) (xs (i + 2)) (xs (i + 3)) (xs (i + 4)) (xs (i + 5)))) ⟨10, 0, _, TX10, 30, rfl, rfl⟩ ⟨by decide, by decide⟩ rfl rfl (Nat.le_of_ble_eq_true rfl) d_L_law_201 (fun x v hv => ?_)
  obtain ⟨rw9, rfl, hv⟩ := hv
  exact z_icmp_eq (tgt := 975) C d_L_law_204 rfl (fun _ => z_wid (N _ u v o j hu.1 hv.1 (AI_feed hI (xs (i + 1)) (xs (i + 2)) (xs (i + 3)) (xs (i + 4)) (xs (i + 5))).1 ((AI_feed hI (xs (i + 1)) (xs (i + 2)) (xs (i + 3)) (xs (i + 4)) (xs (i + 5))).2.trans hJ) (by omega))) (fun c9 => absurd (hu.2.trans hv.2.symm) c9)
theorem q_end {p : Program} {l : Launch} {e : Env} {R : Room} {s : State} {m : MethodId} {below : List Frame} {meth : Method} {c : Code} {Q : State → Prop} (hst : l.stackTraces = false) {b L : Nat} {xs : Nat → Int32} {D : va_G} {cB cI cH cF cL : ClassId} {n i kk nn : Nat} (C : zC (p, l, e, R, s, m, (#[Value.ref b] : Array Value), below, meth, c, 7, Q, kk, nn) (wL D cB cI cH cF cL n) code "HostBenchLaw" 11 414) (C1 : zC (p, l, e, R, s, m, (#[Value.ref b] : Array Value), below, meth, c, 7, Q, kk + 1, nn + 6) (wL D cB cI cH cF cL n) code "HostBenchLaw" 11 414) (hr : kk + 1 ≤ R.cells ∧ nn + 6 ≤ R.slots) (hX : va_X b L xs s s.heap) (hbl : b < s.heap.size) (hbn : ¬ n ≤ b) (hi : i + 6 ≤ L) (hL : L ≤ 3072) (hnc : ncs s) {A : zA} {S T : zS} {o : Int64} {j : Nat} (hC : RC A S) (hR : RR A T) (hI : AI A) (hJ : gJ A.1 = lN j) (hj : j + 5000 < 2 ^ 31) (N : ∀ (A' : zA) (S' T' : zS) (o' : Int64) (j' : Nat), RC A' S' → RR A' T' → AI A' → gJ A'.1 = lN j' → j' ≤ j + 5000 → zV (p, l, e, R, s, m, (#[Value.ref b] : Array Value), below, meth, c, 7, Q, kk + 1, nn + 6) (wL D cB cI cH cF cL n) (S', T', o') 975 [(4, .int (nI i)), (3, .ref (n + 116)), (2, .ref (ad (bk2 D cB cI cH cF n) 0)), (1, .ref (ad (bk1 D cB cI cH cF n) 0)), (0, .ref b)] []) : zV (p, l, e, R, s, m, (#[Value.ref b] : Array Value), below, meth, c, 7, Q, kk, nn) (wL D cB cI cH cF cL n) (S, T, o) 209 [(4, .int (nI i)), (3, .ref (n + 116)), (2, .ref (ad (bk2 D cB cI cH cF n) 0)), (1, .ref (ad (bk1 D cB cI cH cF n) 0)), (0, .ref b)] [] := by
  refine z_aload_n C 3 rfl rfl d_L_law_209 ?_
  refine z_arg (b := b) (L := L) (xs := xs) (k9 := 1) C hX hbl hbn hL (by omega) (by decide) 4 0 rfl rfl d_L_law_210 d_L_law_211 d_L_law_213 d_L_law_214 d_L_law_215 ?_
  refine z_part (f := (fun u9 => (u9, T, o))) (As := [.int (xs (i + 1))]) (rest := []) (k9 := 1) C (pt_C D cB cI cH cF cL n S T o) ⟨tw_371, tw_372, tw_76, tw_373, ⟨by decide, by decide, by decide +kernel⟩⟩ tw_370 (c_HB_end l (bk1 D cB cI cH cF n) (xs (i + 1)) S _ (k_end hC (xs (i + 1)))) ⟨9, 0, _, TX9, 8, rfl, rfl⟩ ⟨by decide, by decide⟩ rfl rfl (Nat.le_of_ble_eq_true rfl) d_L_law_216 (fun x u hu => ?_)
  obtain ⟨rv, rfl, hu⟩ := hu
  refine z_aload_n C 2 rfl rfl d_L_law_219 ?_
  refine z_arg (b := b) (L := L) (xs := xs) (k9 := 1) C hX hbl hbn hL (by omega) (by decide) 4 0 rfl rfl d_L_law_220 d_L_law_221 d_L_law_223 d_L_law_224 d_L_law_225 ?_
  refine z_part (f := (fun u9 => (u, u9, o))) (As := [.int (xs (i + 1))]) (rest := [.int rv]) (k9 := 1) C (pt_R D cB cI cH cF cL n u T o) ⟨tw_1088, tw_1089, tw_87, tw_1090, ⟨by decide, by decide, by decide +kernel⟩⟩ tw_1087 (c_M_end l (bk2 D cB cI cH cF n) (xs (i + 1)) T _ (m_end hR (xs (i + 1)))) ⟨10, 0, _, TX10, 30, rfl, rfl⟩ ⟨by decide, by decide⟩ rfl rfl (Nat.le_of_ble_eq_true rfl) d_L_law_226 (fun x v hv => ?_)
  obtain ⟨rw9, rfl, hv⟩ := hv
  exact z_icmp_eq (tgt := 975) C d_L_law_229 rfl (fun _ => z_wid (N _ u v o j hu.1 hv.1 (AI_end hI (xs (i + 1))).1 ((AI_end hI (xs (i + 1))).2.trans hJ) (by omega))) (fun c9 => absurd (hu.2.trans hv.2.symm) c9)
theorem q_put {p : Program} {l : Launch} {e : Env} {R : Room} {s : State} {m : MethodId} {below : List Frame} {meth : Method} {c : Code} {Q : State → Prop} (hst : l.stackTraces = false) {b L : Nat} {xs : Nat → Int32} {D : va_G} {cB cI cH cF cL : ClassId} {n i kk nn : Nat} (C : zC (p, l, e, R, s, m, (#[Value.ref b] : Array Value), below, meth, c, 7, Q, kk, nn) (wL D cB cI cH cF cL n) code "HostBenchLaw" 11 414) (C1 : zC (p, l, e, R, s, m, (#[Value.ref b] : Array Value), below, meth, c, 7, Q, kk + 1, nn + 6) (wL D cB cI cH cF cL n) code "HostBenchLaw" 11 414) (hr : kk + 1 ≤ R.cells ∧ nn + 6 ≤ R.slots) (hX : va_X b L xs s s.heap) (hbl : b < s.heap.size) (hbn : ¬ n ≤ b) (hi : i + 6 ≤ L) (hL : L ≤ 3072) (hnc : ncs s) {A : zA} {S T : zS} {o : Int64} {j : Nat} (hC : RC A S) (hR : RR A T) (hI : AI A) (hJ : gJ A.1 = lN j) (hj : j + 5000 < 2 ^ 31) (N : ∀ (A' : zA) (S' T' : zS) (o' : Int64) (j' : Nat), RC A' S' → RR A' T' → AI A' → gJ A'.1 = lN j' → j' ≤ j + 5000 → zV (p, l, e, R, s, m, (#[Value.ref b] : Array Value), below, meth, c, 7, Q, kk + 1, nn + 6) (wL D cB cI cH cF cL n) (S', T', o') 975 [(4, .int (nI i)), (3, .ref (n + 116)), (2, .ref (ad (bk2 D cB cI cH cF n) 0)), (1, .ref (ad (bk1 D cB cI cH cF n) 0)), (0, .ref b)] []) : zV (p, l, e, R, s, m, (#[Value.ref b] : Array Value), below, meth, c, 7, Q, kk, nn) (wL D cB cI cH cF cL n) (S, T, o) 234 [(4, .int (nI i)), (3, .ref (n + 116)), (2, .ref (ad (bk2 D cB cI cH cF n) 0)), (1, .ref (ad (bk1 D cB cI cH cF n) 0)), (0, .ref b)] [] := by
  refine z_aload_n C 3 rfl rfl d_L_law_234 ?_
  refine z_arg (b := b) (L := L) (xs := xs) (k9 := 1) C hX hbl hbn hL (by omega) (by decide) 4 0 rfl rfl d_L_law_235 d_L_law_236 d_L_law_238 d_L_law_239 d_L_law_240 ?_
  refine z_aload_n C 1 rfl rfl d_L_law_241 ?_
  refine z_wrap (As := [.ref (ad (bk1 D cB cI cH cF n) 0), .int (xs (i + 1)), .ref (n + 116)]) (rest := []) (k9 := 3) C hr hnc (v_put l hst D cB cI cH cF cL n (xs (i + 1)) S T o _ _ (fun k S' => RC (putA A (xs (i + 1))).1 S' ∧ (putA A (xs (i + 1))).2.1 = k) (k_put hC (xs (i + 1))) (fun E u h => ⟨h.2.2, h.1, h.2.1⟩)) tw_434 tw_435 tw_75 tw_436 ⟨by decide, by decide, by decide +kernel⟩ ⟨by decide, by decide⟩ rfl rfl (Nat.le_of_ble_eq_true rfl) d_L_law_242 (fun V r9 hV => ?_)
  have hlt : (putA A (xs (i + 1))).2.1 < 4 := lt_put A (xs (i + 1))
  obtain ⟨u, o9, rfl, hu, rfl, ho⟩ := lP_is (A' := (putA A (xs (i + 1))).1) (Xp := (putA A (xs (i + 1))).2) hlt hV
  refine z_istore (nl := 7) C1 rfl (by decide) (L' := [(5, .int (nI (putA A (xs (i + 1))).2.1)), (4, .int (nI i)), (3, .ref (n + 116)), (2, .ref (ad (bk2 D cB cI cH cF n) 0)), (1, .ref (ad (bk1 D cB cI cH cF n) 0)), (0, .ref b)]) rfl d_L_law_245 ?_
  refine z_aload_n C1 3 rfl rfl d_L_law_247 ?_
  refine z_arg (b := b) (L := L) (xs := xs) (k9 := 1) C1 hX hbl hbn hL (by omega) (by decide) 5 1 rfl rfl d_L_law_248 d_L_law_249 d_L_law_251 d_L_law_252 d_L_law_253 ?_
  refine z_part (f := (fun u9 => (u, u9, o9))) (As := [.int (xs (i + 1))]) (rest := []) (k9 := 1) C1 (pt_R D cB cI cH cF cL n u T o9) ⟨tw_1092, tw_1093, tw_87, tw_1094, ⟨by decide, by decide, by decide +kernel⟩⟩ tw_1091 (c_M_put l (bk2 D cB cI cH cF n) (xs (i + 1)) T _ (m_put hR (xs (i + 1)))) ⟨10, 0, _, TX10, 30, rfl, rfl⟩ ⟨by decide, by decide⟩ rfl rfl (Nat.le_of_ble_eq_true rfl) d_L_law_254 (fun x v hv => ?_)
  obtain ⟨rb, rfl, hv1, hv2, hv3⟩ := hv
  refine z_istore (nl := 7) C1 rfl (by decide) (L' := [(6, .int rb), (5, .int (nI (putA A (xs (i + 1))).2.1)), (4, .int (nI i)), (3, .ref (n + 116)), (2, .ref (ad (bk2 D cB cI cH cF n) 0)), (1, .ref (ad (bk1 D cB cI cH cF n) 0)), (0, .ref b)]) rfl d_L_law_257 ?_
  refine z_aload_n C1 4 rfl rfl d_L_law_259 ?_
  refine z_part (f := (fun u9 => (u, u9, o9))) (As := []) (rest := []) (k9 := 0) C1 (pt_R D cB cI cH cF cL n u v o9) ⟨tw_1076, tw_1077, tw_87, tw_1078, ⟨by decide, by decide, by decide +kernel⟩⟩ tw_1075 (c_M_thrown l (bk2 D cB cI cH cF n) v (fun T9 r9 => T9 = v ∧ r9 = gM v 0 0) ⟨rfl, rfl⟩) ⟨10, 0, _, TX10, 30, rfl, rfl⟩ ⟨by decide, by decide⟩ rfl rfl (Nat.le_of_ble_eq_true rfl) d_L_law_260 (fun x v9 hv9 => ?_)
  obtain ⟨r8, rfl, rfl, rfl⟩ := hv9
  rw [hv2]
  refine z_iload C1 1 rfl d_L_law_263 ?_
  refine z_icmp_eq (tgt := 270) C1 d_L_law_265 rfl (fun _ => ?_) (fun c9 => absurd rfl c9)
  refine z_iload C1 1 rfl d_L_law_270 ?_
  refine z_if_ne (tgt := 287) C1 d_L_law_272 rfl (fun _ => z_goto (tgt := 975) C1 d_L_law_287 rfl (z_sub [2, 3, 4, 5, 6] rfl (N _ u v9 o9 j hu hv1 (AI_put hI (xs (i + 1))).1 ((AI_put hI (xs (i + 1))).2.trans hJ) (by omega)))) (fun c9 => ?_)
  have z9 : (putA A (xs (i + 1))).2.1 = 0 := by
    have c8 := c9
    rw [← nI_0, nI_eq (by omega) (by decide)] at c8
    exact c8
  refine z_aload_n C1 3 rfl rfl d_L_law_275 ?_
  refine z_iconst (v := 0) C1 (by decide) d_L_law_276 ?_
  refine z_lald C1 d_L_law_277 ?_
  refine z_iload C1 0 rfl d_L_law_278 ?_
  refine z_i2l C1 d_L_law_280 ?_
  refine z_lcmp C1 d_L_law_281 ?_
  refine z_if_eq (tgt := 287) C1 d_L_law_282 rfl (fun _ => z_goto (tgt := 975) C1 d_L_law_287 rfl (z_sub [2, 3, 4, 5, 6] rfl (N _ u v9 o9 j hu hv1 (AI_put hI (xs (i + 1))).1 ((AI_put hI (xs (i + 1))).2.trans hJ) (by omega)))) (fun c8 => absurd ((lg_cmp_eq _ _).mpr ?_) c8)
  show o9 = rb.toInt64
  rw [ho z9, hv3 z9]
theorem q_lay {p : Program} {l : Launch} {e : Env} {R : Room} {s : State} {m : MethodId} {below : List Frame} {meth : Method} {c : Code} {Q : State → Prop} (hst : l.stackTraces = false) {b L : Nat} {xs : Nat → Int32} {D : va_G} {cB cI cH cF cL : ClassId} {n i kk nn : Nat} (C : zC (p, l, e, R, s, m, (#[Value.ref b] : Array Value), below, meth, c, 7, Q, kk, nn) (wL D cB cI cH cF cL n) code "HostBenchLaw" 11 414) (C1 : zC (p, l, e, R, s, m, (#[Value.ref b] : Array Value), below, meth, c, 7, Q, kk + 1, nn + 6) (wL D cB cI cH cF cL n) code "HostBenchLaw" 11 414) (hr : kk + 1 ≤ R.cells ∧ nn + 6 ≤ R.slots) (hX : va_X b L xs s s.heap) (hbl : b < s.heap.size) (hbn : ¬ n ≤ b) (hi : i + 6 ≤ L) (hL : L ≤ 3072) (hnc : ncs s) {A : zA} {S T : zS} {o : Int64} {j : Nat} (hC : RC A S) (hR : RR A T) (hI : AI A) (hJ : gJ A.1 = lN j) (hj : j + 5000 < 2 ^ 31) (N : ∀ (A' : zA) (S' T' : zS) (o' : Int64) (j' : Nat), RC A' S' → RR A' T' → AI A' → gJ A'.1 = lN j' → j' ≤ j + 5000 → zV (p, l, e, R, s, m, (#[Value.ref b] : Array Value), below, meth, c, 7, Q, kk + 1, nn + 6) (wL D cB cI cH cF cL n) (S', T', o') 975 [(4, .int (nI i)), (3, .ref (n + 116)), (2, .ref (ad (bk2 D cB cI cH cF n) 0)), (1, .ref (ad (bk1 D cB cI cH cF n) 0)), (0, .ref b)] []) : zV (p, l, e, R, s, m, (#[Value.ref b] : Array Value), below, meth, c, 7, Q, kk, nn) (wL D cB cI cH cF cL n) (S, T, o) 290 [(4, .int (nI i)), (3, .ref (n + 116)), (2, .ref (ad (bk2 D cB cI cH cF n) 0)), (1, .ref (ad (bk1 D cB cI cH cF n) 0)), (0, .ref b)] [] := by
  refine z_aload_n C 3 rfl rfl d_L_law_290 ?_
  refine z_aload_n C 1 rfl rfl d_L_law_291 ?_
  refine z_wrap (As := [.ref (ad (bk1 D cB cI cH cF n) 0), .ref (n + 116)]) (rest := []) (k9 := 2) C hr hnc (v_lay l hst D cB cI cH cF cL n S T o _ _ (fun k S' => RC (layA A).1 S' ∧ (layA A).2.1 = k) (k_lay hC hI) (fun E u h => by rcases h.2 with z | z | z; exact Or.inl ⟨z.2, h.1, z.1⟩; exact Or.inr (Or.inl ⟨z.2, h.1, z.1⟩); exact Or.inr (Or.inr ⟨z.2, h.1, z.1⟩))) tw_521 tw_522 tw_75 tw_523 ⟨by decide, by decide, by decide +kernel⟩ ⟨by decide, by decide⟩ rfl rfl (Nat.le_of_ble_eq_true rfl) d_L_law_292 (fun V r9 hV => ?_)
  have hlt : (layA A).2.1 < 4 := lt_lay A
  obtain ⟨u, o9, rfl, hu, rfl, ho⟩ := lP_is (A' := (layA A).1) (Xp := (layA A).2) hlt hV
  refine z_istore (nl := 7) C1 rfl (by decide) (L' := [(5, .int (nI (layA A).2.1)), (4, .int (nI i)), (3, .ref (n + 116)), (2, .ref (ad (bk2 D cB cI cH cF n) 0)), (1, .ref (ad (bk1 D cB cI cH cF n) 0)), (0, .ref b)]) rfl d_L_law_295 ?_
  refine z_aload_n C1 3 rfl rfl d_L_law_297 ?_
  refine z_part (f := (fun u9 => (u, u9, o9))) (As := []) (rest := []) (k9 := 0) C1 (pt_R D cB cI cH cF cL n u T o9) ⟨tw_1100, tw_1101, tw_87, tw_1102, ⟨by decide, by decide, by decide +kernel⟩⟩ tw_1099 (c_M_lay l (bk2 D cB cI cH cF n) T _ (m_lay hR hI)) ⟨10, 0, _, TX10, 30, rfl, rfl⟩ ⟨by decide, by decide⟩ rfl rfl (Nat.le_of_ble_eq_true rfl) d_L_law_298 (fun x v hv => ?_)
  obtain ⟨rb, rfl, hv1, hv2, hv3⟩ := hv
  refine z_istore (nl := 7) C1 rfl (by decide) (L' := [(6, .int rb), (5, .int (nI (layA A).2.1)), (4, .int (nI i)), (3, .ref (n + 116)), (2, .ref (ad (bk2 D cB cI cH cF n) 0)), (1, .ref (ad (bk1 D cB cI cH cF n) 0)), (0, .ref b)]) rfl d_L_law_301 ?_
  refine z_aload_n C1 4 rfl rfl d_L_law_303 ?_
  refine z_part (f := (fun u9 => (u, u9, o9))) (As := []) (rest := []) (k9 := 0) C1 (pt_R D cB cI cH cF cL n u v o9) ⟨tw_1076, tw_1077, tw_87, tw_1078, ⟨by decide, by decide, by decide +kernel⟩⟩ tw_1075 (c_M_thrown l (bk2 D cB cI cH cF n) v (fun T9 r9 => T9 = v ∧ r9 = gM v 0 0) ⟨rfl, rfl⟩) ⟨10, 0, _, TX10, 30, rfl, rfl⟩ ⟨by decide, by decide⟩ rfl rfl (Nat.le_of_ble_eq_true rfl) d_L_law_304 (fun x v9 hv9 => ?_)
  obtain ⟨r8, rfl, rfl, rfl⟩ := hv9
  rw [hv2]
  refine z_iload C1 1 rfl d_L_law_307 ?_
  refine z_icmp_eq (tgt := 314) C1 d_L_law_309 rfl (fun _ => ?_) (fun c9 => absurd rfl c9)
  refine z_iload C1 1 rfl d_L_law_314 ?_
  refine z_if_ne (tgt := 331) C1 d_L_law_316 rfl (fun _ => z_goto (tgt := 975) C1 d_L_law_331 rfl (z_sub [2, 3, 4, 5, 6] rfl (N _ u v9 o9 j hu hv1 (AI_lay hI).1 ((AI_lay hI).2.trans hJ) (by omega)))) (fun c9 => ?_)
  have z9 : (layA A).2.1 = 0 := by
    have c8 := c9
    rw [← nI_0, nI_eq (by omega) (by decide)] at c8
    exact c8
  refine z_aload_n C1 3 rfl rfl d_L_law_319 ?_
  refine z_iconst (v := 0) C1 (by decide) d_L_law_320 ?_
  refine z_lald C1 d_L_law_321 ?_
  refine z_iload C1 0 rfl d_L_law_322 ?_
  refine z_i2l C1 d_L_law_324 ?_
  refine z_lcmp C1 d_L_law_325 ?_
  refine z_if_eq (tgt := 331) C1 d_L_law_326 rfl (fun _ => z_goto (tgt := 975) C1 d_L_law_331 rfl (z_sub [2, 3, 4, 5, 6] rfl (N _ u v9 o9 j hu hv1 (AI_lay hI).1 ((AI_lay hI).2.trans hJ) (by omega)))) (fun c8 => absurd ((lg_cmp_eq _ _).mpr ?_) c8)
  show o9 = rb.toInt64
  rw [ho z9, hv3 z9]
theorem q_type {p : Program} {l : Launch} {e : Env} {R : Room} {s : State} {m : MethodId} {below : List Frame} {meth : Method} {c : Code} {Q : State → Prop} (hst : l.stackTraces = false) {b L : Nat} {xs : Nat → Int32} {D : va_G} {cB cI cH cF cL : ClassId} {n i kk nn : Nat} (C : zC (p, l, e, R, s, m, (#[Value.ref b] : Array Value), below, meth, c, 7, Q, kk, nn) (wL D cB cI cH cF cL n) code "HostBenchLaw" 11 414) (C1 : zC (p, l, e, R, s, m, (#[Value.ref b] : Array Value), below, meth, c, 7, Q, kk + 1, nn + 6) (wL D cB cI cH cF cL n) code "HostBenchLaw" 11 414) (hr : kk + 1 ≤ R.cells ∧ nn + 6 ≤ R.slots) (hX : va_X b L xs s s.heap) (hbl : b < s.heap.size) (hbn : ¬ n ≤ b) (hi : i + 6 ≤ L) (hL : L ≤ 3072) (hnc : ncs s) {A : zA} {S T : zS} {o : Int64} {j : Nat} (hC : RC A S) (hR : RR A T) (hI : AI A) (hJ : gJ A.1 = lN j) (hj : j + 5000 < 2 ^ 31) (N : ∀ (A' : zA) (S' T' : zS) (o' : Int64) (j' : Nat), RC A' S' → RR A' T' → AI A' → gJ A'.1 = lN j' → j' ≤ j + 5000 → zV (p, l, e, R, s, m, (#[Value.ref b] : Array Value), below, meth, c, 7, Q, kk + 1, nn + 6) (wL D cB cI cH cF cL n) (S', T', o') 975 [(4, .int (nI i)), (3, .ref (n + 116)), (2, .ref (ad (bk2 D cB cI cH cF n) 0)), (1, .ref (ad (bk1 D cB cI cH cF n) 0)), (0, .ref b)] []) : zV (p, l, e, R, s, m, (#[Value.ref b] : Array Value), below, meth, c, 7, Q, kk, nn) (wL D cB cI cH cF cL n) (S, T, o) 334 [(4, .int (nI i)), (3, .ref (n + 116)), (2, .ref (ad (bk2 D cB cI cH cF n) 0)), (1, .ref (ad (bk1 D cB cI cH cF n) 0)), (0, .ref b)] [] := by
  refine z_aload_n C 3 rfl rfl d_L_law_334 ?_
  refine z_aload_n C 1 rfl rfl d_L_law_335 ?_
  refine z_wrap (As := [.ref (ad (bk1 D cB cI cH cF n) 0), .ref (n + 116)]) (rest := []) (k9 := 2) C hr hnc (v_type l hst D cB cI cH cF cL n S T o _ _ (fun k S' => RC (typeA A).1 S' ∧ (typeA A).2.1 = k) (k_type hC) (fun E u h => ⟨h.2.2, h.1, h.2.1⟩)) tw_609 tw_610 tw_75 tw_611 ⟨by decide, by decide, by decide +kernel⟩ ⟨by decide, by decide⟩ rfl rfl (Nat.le_of_ble_eq_true rfl) d_L_law_336 (fun V r9 hV => ?_)
  have hlt : (typeA A).2.1 < 4 := lt_type A
  obtain ⟨u, o9, rfl, hu, rfl, ho⟩ := lP_is (A' := (typeA A).1) (Xp := (typeA A).2) hlt hV
  refine z_istore (nl := 7) C1 rfl (by decide) (L' := [(5, .int (nI (typeA A).2.1)), (4, .int (nI i)), (3, .ref (n + 116)), (2, .ref (ad (bk2 D cB cI cH cF n) 0)), (1, .ref (ad (bk1 D cB cI cH cF n) 0)), (0, .ref b)]) rfl d_L_law_339 ?_
  refine z_aload_n C1 3 rfl rfl d_L_law_341 ?_
  refine z_part (f := (fun u9 => (u, u9, o9))) (As := []) (rest := []) (k9 := 0) C1 (pt_R D cB cI cH cF cL n u T o9) ⟨tw_1112, tw_1113, tw_87, tw_1114, ⟨by decide, by decide, by decide +kernel⟩⟩ tw_1111 (c_M_type l (bk2 D cB cI cH cF n) T _ (m_type hR)) ⟨10, 0, _, TX10, 30, rfl, rfl⟩ ⟨by decide, by decide⟩ rfl rfl (Nat.le_of_ble_eq_true rfl) d_L_law_342 (fun x v hv => ?_)
  obtain ⟨rb, rfl, hv1, hv2, hv3⟩ := hv
  refine z_istore (nl := 7) C1 rfl (by decide) (L' := [(6, .int rb), (5, .int (nI (typeA A).2.1)), (4, .int (nI i)), (3, .ref (n + 116)), (2, .ref (ad (bk2 D cB cI cH cF n) 0)), (1, .ref (ad (bk1 D cB cI cH cF n) 0)), (0, .ref b)]) rfl d_L_law_345 ?_
  refine z_aload_n C1 4 rfl rfl d_L_law_347 ?_
  refine z_part (f := (fun u9 => (u, u9, o9))) (As := []) (rest := []) (k9 := 0) C1 (pt_R D cB cI cH cF cL n u v o9) ⟨tw_1076, tw_1077, tw_87, tw_1078, ⟨by decide, by decide, by decide +kernel⟩⟩ tw_1075 (c_M_thrown l (bk2 D cB cI cH cF n) v (fun T9 r9 => T9 = v ∧ r9 = gM v 0 0) ⟨rfl, rfl⟩) ⟨10, 0, _, TX10, 30, rfl, rfl⟩ ⟨by decide, by decide⟩ rfl rfl (Nat.le_of_ble_eq_true rfl) d_L_law_348 (fun x v9 hv9 => ?_)
  obtain ⟨r8, rfl, rfl, rfl⟩ := hv9
  rw [hv2]
  refine z_iload C1 1 rfl d_L_law_351 ?_
  refine z_icmp_eq (tgt := 358) C1 d_L_law_353 rfl (fun _ => ?_) (fun c9 => absurd rfl c9)
  refine z_iload C1 1 rfl d_L_law_358 ?_
  refine z_if_ne (tgt := 375) C1 d_L_law_360 rfl (fun _ => z_goto (tgt := 975) C1 d_L_law_375 rfl (z_sub [2, 3, 4, 5, 6] rfl (N _ u v9 o9 j hu hv1 (AI_type hI).1 ((AI_type hI).2.trans hJ) (by omega)))) (fun c9 => ?_)
  have z9 : (typeA A).2.1 = 0 := by
    have c8 := c9
    rw [← nI_0, nI_eq (by omega) (by decide)] at c8
    exact c8
  refine z_aload_n C1 3 rfl rfl d_L_law_363 ?_
  refine z_iconst (v := 0) C1 (by decide) d_L_law_364 ?_
  refine z_lald C1 d_L_law_365 ?_
  refine z_iload C1 0 rfl d_L_law_366 ?_
  refine z_i2l C1 d_L_law_368 ?_
  refine z_lcmp C1 d_L_law_369 ?_
  refine z_if_eq (tgt := 375) C1 d_L_law_370 rfl (fun _ => z_goto (tgt := 975) C1 d_L_law_375 rfl (z_sub [2, 3, 4, 5, 6] rfl (N _ u v9 o9 j hu hv1 (AI_type hI).1 ((AI_type hI).2.trans hJ) (by omega)))) (fun c8 => absurd ((lg_cmp_eq _ _).mpr ?_) c8)
  show o9 = rb.toInt64
  rw [ho z9, hv3 z9]
theorem q_command {p : Program} {l : Launch} {e : Env} {R : Room} {s : State} {m : MethodId} {below : List Frame} {meth : Method} {c : Code} {Q : State → Prop} (hst : l.stackTraces = false) {b L : Nat} {xs : Nat → Int32} {D : va_G} {cB cI cH cF cL : ClassId} {n i kk nn : Nat} (C : zC (p, l, e, R, s, m, (#[Value.ref b] : Array Value), below, meth, c, 7, Q, kk, nn) (wL D cB cI cH cF cL n) code "HostBenchLaw" 11 414) (C1 : zC (p, l, e, R, s, m, (#[Value.ref b] : Array Value), below, meth, c, 7, Q, kk + 1, nn + 6) (wL D cB cI cH cF cL n) code "HostBenchLaw" 11 414) (hr : kk + 1 ≤ R.cells ∧ nn + 6 ≤ R.slots) (hX : va_X b L xs s s.heap) (hbl : b < s.heap.size) (hbn : ¬ n ≤ b) (hi : i + 6 ≤ L) (hL : L ≤ 3072) (hnc : ncs s) {A : zA} {S T : zS} {o : Int64} {j : Nat} (hC : RC A S) (hR : RR A T) (hI : AI A) (hJ : gJ A.1 = lN j) (hj : j + 5000 < 2 ^ 31) (N : ∀ (A' : zA) (S' T' : zS) (o' : Int64) (j' : Nat), RC A' S' → RR A' T' → AI A' → gJ A'.1 = lN j' → j' ≤ j + 5000 → zV (p, l, e, R, s, m, (#[Value.ref b] : Array Value), below, meth, c, 7, Q, kk + 1, nn + 6) (wL D cB cI cH cF cL n) (S', T', o') 975 [(4, .int (nI i)), (3, .ref (n + 116)), (2, .ref (ad (bk2 D cB cI cH cF n) 0)), (1, .ref (ad (bk1 D cB cI cH cF n) 0)), (0, .ref b)] []) : zV (p, l, e, R, s, m, (#[Value.ref b] : Array Value), below, meth, c, 7, Q, kk, nn) (wL D cB cI cH cF cL n) (S, T, o) 378 [(4, .int (nI i)), (3, .ref (n + 116)), (2, .ref (ad (bk2 D cB cI cH cF n) 0)), (1, .ref (ad (bk1 D cB cI cH cF n) 0)), (0, .ref b)] [] := by
  refine z_aload_n C 3 rfl rfl d_L_law_378 ?_
  refine z_aload_n C 1 rfl rfl d_L_law_379 ?_
  refine z_wrap (As := [.ref (ad (bk1 D cB cI cH cF n) 0), .ref (n + 116)]) (rest := []) (k9 := 2) C hr hnc (v_command l hst D cB cI cH cF cL n S T o _ _ (fun k S' => RC (commandA A).1 S' ∧ (commandA A).2.1 = k) (k_command hC) (fun E u h => ⟨h.2.2, h.1, h.2.1⟩)) tw_617 tw_618 tw_75 tw_619 ⟨by decide, by decide, by decide +kernel⟩ ⟨by decide, by decide⟩ rfl rfl (Nat.le_of_ble_eq_true rfl) d_L_law_380 (fun V r9 hV => ?_)
  have hlt : (commandA A).2.1 < 4 := lt_command A
  obtain ⟨u, o9, rfl, hu, rfl, ho⟩ := lP_is (A' := (commandA A).1) (Xp := (commandA A).2) hlt hV
  refine z_istore (nl := 7) C1 rfl (by decide) (L' := [(5, .int (nI (commandA A).2.1)), (4, .int (nI i)), (3, .ref (n + 116)), (2, .ref (ad (bk2 D cB cI cH cF n) 0)), (1, .ref (ad (bk1 D cB cI cH cF n) 0)), (0, .ref b)]) rfl d_L_law_383 ?_
  refine z_aload_n C1 3 rfl rfl d_L_law_385 ?_
  refine z_part (f := (fun u9 => (u, u9, o9))) (As := []) (rest := []) (k9 := 0) C1 (pt_R D cB cI cH cF cL n u T o9) ⟨tw_1116, tw_1117, tw_87, tw_1118, ⟨by decide, by decide, by decide +kernel⟩⟩ tw_1115 (c_M_command l (bk2 D cB cI cH cF n) T _ (m_command hR)) ⟨10, 0, _, TX10, 30, rfl, rfl⟩ ⟨by decide, by decide⟩ rfl rfl (Nat.le_of_ble_eq_true rfl) d_L_law_386 (fun x v hv => ?_)
  obtain ⟨rb, rfl, hv1, hv2, hv3⟩ := hv
  refine z_istore (nl := 7) C1 rfl (by decide) (L' := [(6, .int rb), (5, .int (nI (commandA A).2.1)), (4, .int (nI i)), (3, .ref (n + 116)), (2, .ref (ad (bk2 D cB cI cH cF n) 0)), (1, .ref (ad (bk1 D cB cI cH cF n) 0)), (0, .ref b)]) rfl d_L_law_389 ?_
  refine z_aload_n C1 4 rfl rfl d_L_law_391 ?_
  refine z_part (f := (fun u9 => (u, u9, o9))) (As := []) (rest := []) (k9 := 0) C1 (pt_R D cB cI cH cF cL n u v o9) ⟨tw_1076, tw_1077, tw_87, tw_1078, ⟨by decide, by decide, by decide +kernel⟩⟩ tw_1075 (c_M_thrown l (bk2 D cB cI cH cF n) v (fun T9 r9 => T9 = v ∧ r9 = gM v 0 0) ⟨rfl, rfl⟩) ⟨10, 0, _, TX10, 30, rfl, rfl⟩ ⟨by decide, by decide⟩ rfl rfl (Nat.le_of_ble_eq_true rfl) d_L_law_392 (fun x v9 hv9 => ?_)
  obtain ⟨r8, rfl, rfl, rfl⟩ := hv9
  rw [hv2]
  refine z_iload C1 1 rfl d_L_law_395 ?_
  refine z_icmp_eq (tgt := 402) C1 d_L_law_397 rfl (fun _ => ?_) (fun c9 => absurd rfl c9)
  refine z_iload C1 1 rfl d_L_law_402 ?_
  refine z_if_ne (tgt := 419) C1 d_L_law_404 rfl (fun _ => z_goto (tgt := 975) C1 d_L_law_419 rfl (z_sub [2, 3, 4, 5, 6] rfl (N _ u v9 o9 j hu hv1 (AI_command hI).1 ((AI_command hI).2.trans hJ) (by omega)))) (fun c9 => ?_)
  have z9 : (commandA A).2.1 = 0 := by
    have c8 := c9
    rw [← nI_0, nI_eq (by omega) (by decide)] at c8
    exact c8
  refine z_aload_n C1 3 rfl rfl d_L_law_407 ?_
  refine z_iconst (v := 0) C1 (by decide) d_L_law_408 ?_
  refine z_lald C1 d_L_law_409 ?_
  refine z_iload C1 0 rfl d_L_law_410 ?_
  refine z_i2l C1 d_L_law_412 ?_
  refine z_lcmp C1 d_L_law_413 ?_
  refine z_if_eq (tgt := 419) C1 d_L_law_414 rfl (fun _ => z_goto (tgt := 975) C1 d_L_law_419 rfl (z_sub [2, 3, 4, 5, 6] rfl (N _ u v9 o9 j hu hv1 (AI_command hI).1 ((AI_command hI).2.trans hJ) (by omega)))) (fun c8 => absurd ((lg_cmp_eq _ _).mpr ?_) c8)
  show o9 = rb.toInt64
  rw [ho z9, hv3 z9]
theorem q_clock {p : Program} {l : Launch} {e : Env} {R : Room} {s : State} {m : MethodId} {below : List Frame} {meth : Method} {c : Code} {Q : State → Prop} (hst : l.stackTraces = false) {b L : Nat} {xs : Nat → Int32} {D : va_G} {cB cI cH cF cL : ClassId} {n i kk nn : Nat} (C : zC (p, l, e, R, s, m, (#[Value.ref b] : Array Value), below, meth, c, 7, Q, kk, nn) (wL D cB cI cH cF cL n) code "HostBenchLaw" 11 414) (C1 : zC (p, l, e, R, s, m, (#[Value.ref b] : Array Value), below, meth, c, 7, Q, kk + 1, nn + 6) (wL D cB cI cH cF cL n) code "HostBenchLaw" 11 414) (hr : kk + 1 ≤ R.cells ∧ nn + 6 ≤ R.slots) (hX : va_X b L xs s s.heap) (hbl : b < s.heap.size) (hbn : ¬ n ≤ b) (hi : i + 6 ≤ L) (hL : L ≤ 3072) (hnc : ncs s) {A : zA} {S T : zS} {o : Int64} {j : Nat} (hC : RC A S) (hR : RR A T) (hI : AI A) (hJ : gJ A.1 = lN j) (hj : j + 5000 < 2 ^ 31) (N : ∀ (A' : zA) (S' T' : zS) (o' : Int64) (j' : Nat), RC A' S' → RR A' T' → AI A' → gJ A'.1 = lN j' → j' ≤ j + 5000 → zV (p, l, e, R, s, m, (#[Value.ref b] : Array Value), below, meth, c, 7, Q, kk + 1, nn + 6) (wL D cB cI cH cF cL n) (S', T', o') 975 [(4, .int (nI i)), (3, .ref (n + 116)), (2, .ref (ad (bk2 D cB cI cH cF n) 0)), (1, .ref (ad (bk1 D cB cI cH cF n) 0)), (0, .ref b)] []) : zV (p, l, e, R, s, m, (#[Value.ref b] : Array Value), below, meth, c, 7, Q, kk, nn) (wL D cB cI cH cF cL n) (S, T, o) 422 [(4, .int (nI i)), (3, .ref (n + 116)), (2, .ref (ad (bk2 D cB cI cH cF n) 0)), (1, .ref (ad (bk1 D cB cI cH cF n) 0)), (0, .ref b)] [] := by
  refine z_aload_n C 3 rfl rfl d_L_law_422 ?_
  refine z_arg (b := b) (L := L) (xs := xs) (k9 := 1) C hX hbl hbn hL (by omega) (by decide) 4 0 rfl rfl d_L_law_423 d_L_law_424 d_L_law_426 d_L_law_427 d_L_law_428 ?_
  refine z_part (f := (fun u9 => (u9, T, o))) (As := [.int (xs (i + 1))]) (rest := []) (k9 := 1) C (pt_C D cB cI cH cF cL n S T o) ⟨tw_379, tw_380, tw_76, tw_381, ⟨by decide, by decide, by decide +kernel⟩⟩ tw_378 (c_HB_clock l (bk1 D cB cI cH cF n) (xs (i + 1)) S _ (k_clock hC (xs (i + 1)))) ⟨9, 0, _, TX9, 8, rfl, rfl⟩ ⟨by decide, by decide⟩ rfl rfl (Nat.le_of_ble_eq_true rfl) d_L_law_429 (fun x u hu => ?_)
  obtain ⟨rfl, hu⟩ := hu
  refine z_aload_n C 2 rfl rfl d_L_law_432 ?_
  refine z_arg (b := b) (L := L) (xs := xs) (k9 := 1) C hX hbl hbn hL (by omega) (by decide) 4 0 rfl rfl d_L_law_433 d_L_law_434 d_L_law_436 d_L_law_437 d_L_law_438 ?_
  refine z_part (f := (fun u9 => (u, u9, o))) (As := [.int (xs (i + 1))]) (rest := []) (k9 := 1) C (pt_R D cB cI cH cF cL n u T o) ⟨tw_1120, tw_1121, tw_87, tw_1122, ⟨by decide, by decide, by decide +kernel⟩⟩ tw_1119 (c_M_clock l (bk2 D cB cI cH cF n) (xs (i + 1)) T _ (m_clock hR (xs (i + 1)))) ⟨10, 0, _, TX10, 30, rfl, rfl⟩ ⟨by decide, by decide⟩ rfl rfl (Nat.le_of_ble_eq_true rfl) d_L_law_439 (fun x v hv => ?_)
  obtain ⟨rfl, hv⟩ := hv
  refine z_goto (tgt := 975) C d_L_law_442 rfl (z_wid (N _ u v o j hu hv (AI_clock hI (xs (i + 1))).1 ((AI_clock hI (xs (i + 1))).2.trans hJ) (by omega)))
theorem q_begin {p : Program} {l : Launch} {e : Env} {R : Room} {s : State} {m : MethodId} {below : List Frame} {meth : Method} {c : Code} {Q : State → Prop} (hst : l.stackTraces = false) {b L : Nat} {xs : Nat → Int32} {D : va_G} {cB cI cH cF cL : ClassId} {n i kk nn : Nat} (C : zC (p, l, e, R, s, m, (#[Value.ref b] : Array Value), below, meth, c, 7, Q, kk, nn) (wL D cB cI cH cF cL n) code "HostBenchLaw" 11 414) (C1 : zC (p, l, e, R, s, m, (#[Value.ref b] : Array Value), below, meth, c, 7, Q, kk + 1, nn + 6) (wL D cB cI cH cF cL n) code "HostBenchLaw" 11 414) (hr : kk + 1 ≤ R.cells ∧ nn + 6 ≤ R.slots) (hX : va_X b L xs s s.heap) (hbl : b < s.heap.size) (hbn : ¬ n ≤ b) (hi : i + 6 ≤ L) (hL : L ≤ 3072) (hnc : ncs s) {A : zA} {S T : zS} {o : Int64} {j : Nat} (hC : RC A S) (hR : RR A T) (hI : AI A) (hJ : gJ A.1 = lN j) (hj : j + 5000 < 2 ^ 31) (N : ∀ (A' : zA) (S' T' : zS) (o' : Int64) (j' : Nat), RC A' S' → RR A' T' → AI A' → gJ A'.1 = lN j' → j' ≤ j + 5000 → zV (p, l, e, R, s, m, (#[Value.ref b] : Array Value), below, meth, c, 7, Q, kk + 1, nn + 6) (wL D cB cI cH cF cL n) (S', T', o') 975 [(4, .int (nI i)), (3, .ref (n + 116)), (2, .ref (ad (bk2 D cB cI cH cF n) 0)), (1, .ref (ad (bk1 D cB cI cH cF n) 0)), (0, .ref b)] []) : zV (p, l, e, R, s, m, (#[Value.ref b] : Array Value), below, meth, c, 7, Q, kk, nn) (wL D cB cI cH cF cL n) (S, T, o) 445 [(4, .int (nI i)), (3, .ref (n + 116)), (2, .ref (ad (bk2 D cB cI cH cF n) 0)), (1, .ref (ad (bk1 D cB cI cH cF n) 0)), (0, .ref b)] [] := by
  refine z_aload_n C 3 rfl rfl d_L_law_445 ?_
  refine z_part (f := (fun u9 => (u9, T, o))) (As := []) (rest := []) (k9 := 0) C (pt_C D cB cI cH cF cL n S T o) ⟨tw_383, tw_384, tw_76, tw_385, ⟨by decide, by decide, by decide +kernel⟩⟩ tw_382 (c_HB_begin l (bk1 D cB cI cH cF n) S _ (k_begin hC)) ⟨9, 0, _, TX9, 8, rfl, rfl⟩ ⟨by decide, by decide⟩ rfl rfl (Nat.le_of_ble_eq_true rfl) d_L_law_446 (fun x u hu => ?_)
  obtain ⟨rfl, hu⟩ := hu
  refine z_aload_n C 2 rfl rfl d_L_law_449 ?_
  refine z_part (f := (fun u9 => (u, u9, o))) (As := []) (rest := []) (k9 := 0) C (pt_R D cB cI cH cF cL n u T o) ⟨tw_1124, tw_1125, tw_87, tw_1126, ⟨by decide, by decide, by decide +kernel⟩⟩ tw_1123 (c_M_begin l (bk2 D cB cI cH cF n) T _ (m_begin hR)) ⟨10, 0, _, TX10, 30, rfl, rfl⟩ ⟨by decide, by decide⟩ rfl rfl (Nat.le_of_ble_eq_true rfl) d_L_law_450 (fun x v hv => ?_)
  obtain ⟨rfl, hv⟩ := hv
  refine z_goto (tgt := 975) C d_L_law_453 rfl (z_wid (N _ u v o j hu hv (AI_begin hI).1 ((AI_begin hI).2.trans hJ) (by omega)))
theorem q_run {p : Program} {l : Launch} {e : Env} {R : Room} {s : State} {m : MethodId} {below : List Frame} {meth : Method} {c : Code} {Q : State → Prop} (hst : l.stackTraces = false) {b L : Nat} {xs : Nat → Int32} {D : va_G} {cB cI cH cF cL : ClassId} {n i kk nn : Nat} (C : zC (p, l, e, R, s, m, (#[Value.ref b] : Array Value), below, meth, c, 7, Q, kk, nn) (wL D cB cI cH cF cL n) code "HostBenchLaw" 11 414) (C1 : zC (p, l, e, R, s, m, (#[Value.ref b] : Array Value), below, meth, c, 7, Q, kk + 1, nn + 6) (wL D cB cI cH cF cL n) code "HostBenchLaw" 11 414) (hr : kk + 1 ≤ R.cells ∧ nn + 6 ≤ R.slots) (hX : va_X b L xs s s.heap) (hbl : b < s.heap.size) (hbn : ¬ n ≤ b) (hi : i + 6 ≤ L) (hL : L ≤ 3072) (hnc : ncs s) {A : zA} {S T : zS} {o : Int64} {j : Nat} (hC : RC A S) (hR : RR A T) (hI : AI A) (hJ : gJ A.1 = lN j) (hj : j + 5000 < 2 ^ 31) (N : ∀ (A' : zA) (S' T' : zS) (o' : Int64) (j' : Nat), RC A' S' → RR A' T' → AI A' → gJ A'.1 = lN j' → j' ≤ j + 5000 → zV (p, l, e, R, s, m, (#[Value.ref b] : Array Value), below, meth, c, 7, Q, kk + 1, nn + 6) (wL D cB cI cH cF cL n) (S', T', o') 975 [(4, .int (nI i)), (3, .ref (n + 116)), (2, .ref (ad (bk2 D cB cI cH cF n) 0)), (1, .ref (ad (bk1 D cB cI cH cF n) 0)), (0, .ref b)] []) : zV (p, l, e, R, s, m, (#[Value.ref b] : Array Value), below, meth, c, 7, Q, kk, nn) (wL D cB cI cH cF cL n) (S, T, o) 456 [(4, .int (nI i)), (3, .ref (n + 116)), (2, .ref (ad (bk2 D cB cI cH cF n) 0)), (1, .ref (ad (bk1 D cB cI cH cF n) 0)), (0, .ref b)] [] := by
  refine z_aload_n C 3 rfl rfl d_L_law_456 ?_
  refine z_arg (b := b) (L := L) (xs := xs) (k9 := 1) C hX hbl hbn hL (by omega) (by decide) 4 0 rfl rfl d_L_law_457 d_L_law_458 d_L_law_460 d_L_law_461 d_L_law_462 ?_
  refine z_aload_n C 1 rfl rfl d_L_law_463 ?_
  refine z_wrap (As := [.ref (ad (bk1 D cB cI cH cF n) 0), .int (xs (i + 1)), .ref (n + 116)]) (rest := []) (k9 := 3) C hr hnc (v_run l hst D cB cI cH cF cL n (xs (i + 1)) S T o _ _ (fun k S' => RC (runC A (xs (i + 1))).1 S' ∧ (runC A (xs (i + 1))).2.1 = k) (k_run hC hI (xs (i + 1))) (fun E u h => ⟨h.2.2, h.1, h.2.1⟩)) tw_625 tw_626 tw_75 tw_627 ⟨by decide, by decide, by decide +kernel⟩ ⟨by decide, by decide⟩ rfl rfl (Nat.le_of_ble_eq_true rfl) d_L_law_464 (fun V r9 hV => ?_)
  have hlt : (runC A (xs (i + 1))).2.1 < 4 := lt_run A (xs (i + 1))
  obtain ⟨u, o9, rfl, hu, rfl, ho⟩ := lP_is (A' := (runC A (xs (i + 1))).1) (Xp := (runC A (xs (i + 1))).2) hlt hV
  refine z_istore (nl := 7) C1 rfl (by decide) (L' := [(5, .int (nI (runC A (xs (i + 1))).2.1)), (4, .int (nI i)), (3, .ref (n + 116)), (2, .ref (ad (bk2 D cB cI cH cF n) 0)), (1, .ref (ad (bk1 D cB cI cH cF n) 0)), (0, .ref b)]) rfl d_L_law_467 ?_
  refine z_aload_n C1 3 rfl rfl d_L_law_469 ?_
  refine z_arg (b := b) (L := L) (xs := xs) (k9 := 1) C1 hX hbl hbn hL (by omega) (by decide) 5 1 rfl rfl d_L_law_470 d_L_law_471 d_L_law_473 d_L_law_474 d_L_law_475 ?_
  refine z_part (f := (fun u9 => (u, u9, o9))) (As := [.int (xs (i + 1))]) (rest := []) (k9 := 1) C1 (pt_R D cB cI cH cF cL n u T o9) ⟨tw_1128, tw_1129, tw_87, tw_1130, ⟨by decide, by decide, by decide +kernel⟩⟩ tw_1127 (c_M_run l (bk2 D cB cI cH cF n) (xs (i + 1)) T _ (m_run hR hI ⟨j, hj, hJ⟩ (xs (i + 1)))) ⟨10, 0, _, TX10, 30, rfl, rfl⟩ ⟨by decide, by decide⟩ rfl rfl (Nat.le_of_ble_eq_true rfl) d_L_law_476 (fun x v hv => ?_)
  obtain ⟨rb, rfl, hv1, hv2, hv3⟩ := hv
  refine z_istore (nl := 7) C1 rfl (by decide) (L' := [(6, .int rb), (5, .int (nI (runC A (xs (i + 1))).2.1)), (4, .int (nI i)), (3, .ref (n + 116)), (2, .ref (ad (bk2 D cB cI cH cF n) 0)), (1, .ref (ad (bk1 D cB cI cH cF n) 0)), (0, .ref b)]) rfl d_L_law_479 ?_
  refine z_aload_n C1 4 rfl rfl d_L_law_481 ?_
  refine z_part (f := (fun u9 => (u, u9, o9))) (As := []) (rest := []) (k9 := 0) C1 (pt_R D cB cI cH cF cL n u v o9) ⟨tw_1076, tw_1077, tw_87, tw_1078, ⟨by decide, by decide, by decide +kernel⟩⟩ tw_1075 (c_M_thrown l (bk2 D cB cI cH cF n) v (fun T9 r9 => T9 = v ∧ r9 = gM v 0 0) ⟨rfl, rfl⟩) ⟨10, 0, _, TX10, 30, rfl, rfl⟩ ⟨by decide, by decide⟩ rfl rfl (Nat.le_of_ble_eq_true rfl) d_L_law_482 (fun x v9 hv9 => ?_)
  obtain ⟨r8, rfl, rfl, rfl⟩ := hv9
  rw [hv2]
  refine z_iload C1 1 rfl d_L_law_485 ?_
  refine z_icmp_eq (tgt := 492) C1 d_L_law_487 rfl (fun _ => ?_) (fun c9 => absurd rfl c9)
  obtain ⟨ai1, j9, aj1, aj2⟩ := AI_runC hI hJ (xs (i + 1))
  refine z_iload C1 1 rfl d_L_law_492 ?_
  refine z_if_ne (tgt := 509) C1 d_L_law_494 rfl (fun _ => z_goto (tgt := 975) C1 d_L_law_509 rfl (z_sub [2, 3, 4, 5, 6] rfl (N _ u v9 o9 j9 hu hv1 ai1 aj2 aj1))) (fun c9 => ?_)
  have z9 : (runC A (xs (i + 1))).2.1 = 0 := by
    have c8 := c9
    rw [← nI_0, nI_eq (by omega) (by decide)] at c8
    exact c8
  refine z_aload_n C1 3 rfl rfl d_L_law_497 ?_
  refine z_iconst (v := 0) C1 (by decide) d_L_law_498 ?_
  refine z_lald C1 d_L_law_499 ?_
  refine z_iload C1 0 rfl d_L_law_500 ?_
  refine z_i2l C1 d_L_law_502 ?_
  refine z_lcmp C1 d_L_law_503 ?_
  refine z_if_eq (tgt := 509) C1 d_L_law_504 rfl (fun _ => z_goto (tgt := 975) C1 d_L_law_509 rfl (z_sub [2, 3, 4, 5, 6] rfl (N _ u v9 o9 j9 hu hv1 ai1 aj2 aj1))) (fun c8 => absurd ((lg_cmp_eq _ _).mpr ?_) c8)
  show o9 = rb.toInt64
  rw [ho z9, hv3 z9]
theorem q_state {p : Program} {l : Launch} {e : Env} {R : Room} {s : State} {m : MethodId} {below : List Frame} {meth : Method} {c : Code} {Q : State → Prop} (hst : l.stackTraces = false) {b L : Nat} {xs : Nat → Int32} {D : va_G} {cB cI cH cF cL : ClassId} {n i kk nn : Nat} (C : zC (p, l, e, R, s, m, (#[Value.ref b] : Array Value), below, meth, c, 7, Q, kk, nn) (wL D cB cI cH cF cL n) code "HostBenchLaw" 11 414) (C1 : zC (p, l, e, R, s, m, (#[Value.ref b] : Array Value), below, meth, c, 7, Q, kk + 1, nn + 6) (wL D cB cI cH cF cL n) code "HostBenchLaw" 11 414) (hr : kk + 1 ≤ R.cells ∧ nn + 6 ≤ R.slots) (hX : va_X b L xs s s.heap) (hbl : b < s.heap.size) (hbn : ¬ n ≤ b) (hi : i + 6 ≤ L) (hL : L ≤ 3072) (hnc : ncs s) {A : zA} {S T : zS} {o : Int64} {j : Nat} (hC : RC A S) (hR : RR A T) (hI : AI A) (hJ : gJ A.1 = lN j) (hj : j + 5000 < 2 ^ 31) (N : ∀ (A' : zA) (S' T' : zS) (o' : Int64) (j' : Nat), RC A' S' → RR A' T' → AI A' → gJ A'.1 = lN j' → j' ≤ j + 5000 → zV (p, l, e, R, s, m, (#[Value.ref b] : Array Value), below, meth, c, 7, Q, kk + 1, nn + 6) (wL D cB cI cH cF cL n) (S', T', o') 975 [(4, .int (nI i)), (3, .ref (n + 116)), (2, .ref (ad (bk2 D cB cI cH cF n) 0)), (1, .ref (ad (bk1 D cB cI cH cF n) 0)), (0, .ref b)] []) : zV (p, l, e, R, s, m, (#[Value.ref b] : Array Value), below, meth, c, 7, Q, kk, nn) (wL D cB cI cH cF cL n) (S, T, o) 512 [(4, .int (nI i)), (3, .ref (n + 116)), (2, .ref (ad (bk2 D cB cI cH cF n) 0)), (1, .ref (ad (bk1 D cB cI cH cF n) 0)), (0, .ref b)] [] := by
  refine z_aload_n C 3 rfl rfl d_L_law_512 ?_
  refine z_part (f := (fun u9 => (u9, T, o))) (As := []) (rest := []) (k9 := 0) C (pt_C D cB cI cH cF cL n S T o) ⟨tw_391, tw_392, tw_76, tw_393, ⟨by decide, by decide, by decide +kernel⟩⟩ tw_390 (c_HB_state l (bk1 D cB cI cH cF n) S _ (k_state hC)) ⟨9, 0, _, TX9, 8, rfl, rfl⟩ ⟨by decide, by decide⟩ rfl rfl (Nat.le_of_ble_eq_true rfl) d_L_law_513 (fun x u hu => ?_)
  obtain ⟨rv, rfl, hu⟩ := hu
  refine z_aload_n C 2 rfl rfl d_L_law_516 ?_
  refine z_part (f := (fun u9 => (u, u9, o))) (As := []) (rest := [.int rv]) (k9 := 0) C (pt_R D cB cI cH cF cL n u T o) ⟨tw_1298, tw_1299, tw_87, tw_1300, ⟨by decide, by decide, by decide +kernel⟩⟩ tw_1297 (c_M_state l (bk2 D cB cI cH cF n) T _ (m_state hR)) ⟨10, 0, _, TX10, 30, rfl, rfl⟩ ⟨by decide, by decide⟩ rfl rfl (Nat.le_of_ble_eq_true rfl) d_L_law_517 (fun x v hv => ?_)
  obtain ⟨rw9, rfl, hv⟩ := hv
  exact z_icmp_eq (tgt := 975) C d_L_law_520 rfl (fun _ => z_wid (N _ u v o j hu.1 hv.1 hI hJ (by omega))) (fun c9 => absurd (hu.2.trans hv.2.symm) c9)
theorem q_look {p : Program} {l : Launch} {e : Env} {R : Room} {s : State} {m : MethodId} {below : List Frame} {meth : Method} {c : Code} {Q : State → Prop} (hst : l.stackTraces = false) {b L : Nat} {xs : Nat → Int32} {D : va_G} {cB cI cH cF cL : ClassId} {n i kk nn : Nat} (C : zC (p, l, e, R, s, m, (#[Value.ref b] : Array Value), below, meth, c, 7, Q, kk, nn) (wL D cB cI cH cF cL n) code "HostBenchLaw" 11 414) (C1 : zC (p, l, e, R, s, m, (#[Value.ref b] : Array Value), below, meth, c, 7, Q, kk + 1, nn + 6) (wL D cB cI cH cF cL n) code "HostBenchLaw" 11 414) (hr : kk + 1 ≤ R.cells ∧ nn + 6 ≤ R.slots) (hX : va_X b L xs s s.heap) (hbl : b < s.heap.size) (hbn : ¬ n ≤ b) (hi : i + 6 ≤ L) (hL : L ≤ 3072) (hnc : ncs s) {A : zA} {S T : zS} {o : Int64} {j : Nat} (hC : RC A S) (hR : RR A T) (hI : AI A) (hJ : gJ A.1 = lN j) (hj : j + 5000 < 2 ^ 31) (N : ∀ (A' : zA) (S' T' : zS) (o' : Int64) (j' : Nat), RC A' S' → RR A' T' → AI A' → gJ A'.1 = lN j' → j' ≤ j + 5000 → zV (p, l, e, R, s, m, (#[Value.ref b] : Array Value), below, meth, c, 7, Q, kk + 1, nn + 6) (wL D cB cI cH cF cL n) (S', T', o') 975 [(4, .int (nI i)), (3, .ref (n + 116)), (2, .ref (ad (bk2 D cB cI cH cF n) 0)), (1, .ref (ad (bk1 D cB cI cH cF n) 0)), (0, .ref b)] []) : zV (p, l, e, R, s, m, (#[Value.ref b] : Array Value), below, meth, c, 7, Q, kk, nn) (wL D cB cI cH cF cL n) (S, T, o) 525 [(4, .int (nI i)), (3, .ref (n + 116)), (2, .ref (ad (bk2 D cB cI cH cF n) 0)), (1, .ref (ad (bk1 D cB cI cH cF n) 0)), (0, .ref b)] [] := by
  refine z_aload_n C 3 rfl rfl d_L_law_525 ?_
  refine z_arg (b := b) (L := L) (xs := xs) (k9 := 1) C hX hbl hbn hL (by omega) (by decide) 4 0 rfl rfl d_L_law_526 d_L_law_527 d_L_law_529 d_L_law_530 d_L_law_531 ?_
  refine z_aload_n C 1 rfl rfl d_L_law_532 ?_
  refine z_wrap (As := [.ref (ad (bk1 D cB cI cH cF n) 0), .int (xs (i + 1)), .ref (n + 116)]) (rest := []) (k9 := 3) C hr hnc (v_look l hst D cB cI cH cF cL n (xs (i + 1)) S T o _ _ (fun k S' => RC A S' ∧ (lookA A (xs (i + 1))).1 = k) (k_look hC (xs (i + 1))) (fun E u h => ⟨h.2.2, h.1, h.2.1⟩)) tw_927 tw_928 tw_75 tw_929 ⟨by decide, by decide, by decide +kernel⟩ ⟨by decide, by decide⟩ rfl rfl (Nat.le_of_ble_eq_true rfl) d_L_law_533 (fun V r9 hV => ?_)
  have hlt : (lookA A (xs (i + 1))).1 < 4 := lt_look A (xs (i + 1))
  obtain ⟨u, o9, rfl, hu, rfl, ho⟩ := lP_is (A' := A) (Xp := (lookA A (xs (i + 1)))) hlt hV
  refine z_istore (nl := 7) C1 rfl (by decide) (L' := [(5, .int (nI (lookA A (xs (i + 1))).1)), (4, .int (nI i)), (3, .ref (n + 116)), (2, .ref (ad (bk2 D cB cI cH cF n) 0)), (1, .ref (ad (bk1 D cB cI cH cF n) 0)), (0, .ref b)]) rfl d_L_law_536 ?_
  refine z_aload_n C1 3 rfl rfl d_L_law_538 ?_
  refine z_arg (b := b) (L := L) (xs := xs) (k9 := 1) C1 hX hbl hbn hL (by omega) (by decide) 5 1 rfl rfl d_L_law_539 d_L_law_540 d_L_law_542 d_L_law_543 d_L_law_544 ?_
  refine z_part (f := (fun u9 => (u, u9, o9))) (As := [.int (xs (i + 1))]) (rest := []) (k9 := 1) C1 (pt_R D cB cI cH cF cL n u T o9) ⟨tw_1302, tw_1303, tw_87, tw_1304, ⟨by decide, by decide, by decide +kernel⟩⟩ tw_1301 (c_M_look l (bk2 D cB cI cH cF n) (xs (i + 1)) T _ (m_look hR hI (xs (i + 1)))) ⟨10, 0, _, TX10, 30, rfl, rfl⟩ ⟨by decide, by decide⟩ rfl rfl (Nat.le_of_ble_eq_true rfl) d_L_law_545 (fun x v hv => ?_)
  obtain ⟨rb, rfl, hv1, hv2, hv3⟩ := hv
  refine z_istore (nl := 7) C1 rfl (by decide) (L' := [(6, .int rb), (5, .int (nI (lookA A (xs (i + 1))).1)), (4, .int (nI i)), (3, .ref (n + 116)), (2, .ref (ad (bk2 D cB cI cH cF n) 0)), (1, .ref (ad (bk1 D cB cI cH cF n) 0)), (0, .ref b)]) rfl d_L_law_548 ?_
  refine z_aload_n C1 4 rfl rfl d_L_law_550 ?_
  refine z_part (f := (fun u9 => (u, u9, o9))) (As := []) (rest := []) (k9 := 0) C1 (pt_R D cB cI cH cF cL n u v o9) ⟨tw_1076, tw_1077, tw_87, tw_1078, ⟨by decide, by decide, by decide +kernel⟩⟩ tw_1075 (c_M_thrown l (bk2 D cB cI cH cF n) v (fun T9 r9 => T9 = v ∧ r9 = gM v 0 0) ⟨rfl, rfl⟩) ⟨10, 0, _, TX10, 30, rfl, rfl⟩ ⟨by decide, by decide⟩ rfl rfl (Nat.le_of_ble_eq_true rfl) d_L_law_551 (fun x v9 hv9 => ?_)
  obtain ⟨r8, rfl, rfl, rfl⟩ := hv9
  rw [hv2]
  refine z_iload C1 1 rfl d_L_law_554 ?_
  refine z_icmp_eq (tgt := 561) C1 d_L_law_556 rfl (fun _ => ?_) (fun c9 => absurd rfl c9)
  refine z_iload C1 1 rfl d_L_law_561 ?_
  refine z_if_ne (tgt := 578) C1 d_L_law_563 rfl (fun _ => z_goto (tgt := 975) C1 d_L_law_578 rfl (z_sub [2, 3, 4, 5, 6] rfl (N _ u v9 o9 j hu hv1 hI hJ (by omega)))) (fun c9 => ?_)
  have z9 : (lookA A (xs (i + 1))).1 = 0 := by
    have c8 := c9
    rw [← nI_0, nI_eq (by omega) (by decide)] at c8
    exact c8
  refine z_aload_n C1 3 rfl rfl d_L_law_566 ?_
  refine z_iconst (v := 0) C1 (by decide) d_L_law_567 ?_
  refine z_lald C1 d_L_law_568 ?_
  refine z_iload C1 0 rfl d_L_law_569 ?_
  refine z_i2l C1 d_L_law_571 ?_
  refine z_lcmp C1 d_L_law_572 ?_
  refine z_if_eq (tgt := 578) C1 d_L_law_573 rfl (fun _ => z_goto (tgt := 975) C1 d_L_law_578 rfl (z_sub [2, 3, 4, 5, 6] rfl (N _ u v9 o9 j hu hv1 hI hJ (by omega)))) (fun c8 => absurd ((lg_cmp_eq _ _).mpr ?_) c8)
  show o9 = rb.toInt64
  rw [ho z9, hv3 z9]
theorem q_register {p : Program} {l : Launch} {e : Env} {R : Room} {s : State} {m : MethodId} {below : List Frame} {meth : Method} {c : Code} {Q : State → Prop} (hst : l.stackTraces = false) {b L : Nat} {xs : Nat → Int32} {D : va_G} {cB cI cH cF cL : ClassId} {n i kk nn : Nat} (C : zC (p, l, e, R, s, m, (#[Value.ref b] : Array Value), below, meth, c, 7, Q, kk, nn) (wL D cB cI cH cF cL n) code "HostBenchLaw" 11 414) (C1 : zC (p, l, e, R, s, m, (#[Value.ref b] : Array Value), below, meth, c, 7, Q, kk + 1, nn + 6) (wL D cB cI cH cF cL n) code "HostBenchLaw" 11 414) (hr : kk + 1 ≤ R.cells ∧ nn + 6 ≤ R.slots) (hX : va_X b L xs s s.heap) (hbl : b < s.heap.size) (hbn : ¬ n ≤ b) (hi : i + 6 ≤ L) (hL : L ≤ 3072) (hnc : ncs s) {A : zA} {S T : zS} {o : Int64} {j : Nat} (hC : RC A S) (hR : RR A T) (hI : AI A) (hJ : gJ A.1 = lN j) (hj : j + 5000 < 2 ^ 31) (N : ∀ (A' : zA) (S' T' : zS) (o' : Int64) (j' : Nat), RC A' S' → RR A' T' → AI A' → gJ A'.1 = lN j' → j' ≤ j + 5000 → zV (p, l, e, R, s, m, (#[Value.ref b] : Array Value), below, meth, c, 7, Q, kk + 1, nn + 6) (wL D cB cI cH cF cL n) (S', T', o') 975 [(4, .int (nI i)), (3, .ref (n + 116)), (2, .ref (ad (bk2 D cB cI cH cF n) 0)), (1, .ref (ad (bk1 D cB cI cH cF n) 0)), (0, .ref b)] []) : zV (p, l, e, R, s, m, (#[Value.ref b] : Array Value), below, meth, c, 7, Q, kk, nn) (wL D cB cI cH cF cL n) (S, T, o) 581 [(4, .int (nI i)), (3, .ref (n + 116)), (2, .ref (ad (bk2 D cB cI cH cF n) 0)), (1, .ref (ad (bk1 D cB cI cH cF n) 0)), (0, .ref b)] [] := by
  refine z_aload_n C 3 rfl rfl d_L_law_581 ?_
  refine z_arg (b := b) (L := L) (xs := xs) (k9 := 1) C hX hbl hbn hL (by omega) (by decide) 4 0 rfl rfl d_L_law_582 d_L_law_583 d_L_law_585 d_L_law_586 d_L_law_587 ?_
  refine z_aload_n C 1 rfl rfl d_L_law_588 ?_
  refine z_wrap (As := [.ref (ad (bk1 D cB cI cH cF n) 0), .int (xs (i + 1)), .ref (n + 116)]) (rest := []) (k9 := 3) C hr hnc (v_register l hst D cB cI cH cF cL n (xs (i + 1)) S T o _ _ (fun k S' => RC A S' ∧ (registerA A (xs (i + 1))).1 = k) (k_register hC (xs (i + 1))) (fun E u h => ⟨h.2.2, h.1, h.2.1⟩)) tw_951 tw_952 tw_75 tw_953 ⟨by decide, by decide, by decide +kernel⟩ ⟨by decide, by decide⟩ rfl rfl (Nat.le_of_ble_eq_true rfl) d_L_law_589 (fun V r9 hV => ?_)
  have hlt : (registerA A (xs (i + 1))).1 < 4 := lt_register A (xs (i + 1))
  obtain ⟨u, o9, rfl, hu, rfl, ho⟩ := lP_is (A' := A) (Xp := (registerA A (xs (i + 1)))) hlt hV
  refine z_istore (nl := 7) C1 rfl (by decide) (L' := [(5, .int (nI (registerA A (xs (i + 1))).1)), (4, .int (nI i)), (3, .ref (n + 116)), (2, .ref (ad (bk2 D cB cI cH cF n) 0)), (1, .ref (ad (bk1 D cB cI cH cF n) 0)), (0, .ref b)]) rfl d_L_law_592 ?_
  refine z_aload_n C1 3 rfl rfl d_L_law_594 ?_
  refine z_arg (b := b) (L := L) (xs := xs) (k9 := 1) C1 hX hbl hbn hL (by omega) (by decide) 5 1 rfl rfl d_L_law_595 d_L_law_596 d_L_law_598 d_L_law_599 d_L_law_600 ?_
  refine z_part (f := (fun u9 => (u, u9, o9))) (As := [.int (xs (i + 1))]) (rest := []) (k9 := 1) C1 (pt_R D cB cI cH cF cL n u T o9) ⟨tw_1306, tw_1307, tw_87, tw_1308, ⟨by decide, by decide, by decide +kernel⟩⟩ tw_1305 (c_M_register l (bk2 D cB cI cH cF n) (xs (i + 1)) T _ (m_register hR (xs (i + 1)))) ⟨10, 0, _, TX10, 30, rfl, rfl⟩ ⟨by decide, by decide⟩ rfl rfl (Nat.le_of_ble_eq_true rfl) d_L_law_601 (fun x v hv => ?_)
  obtain ⟨rb, rfl, hv1, hv2, hv3⟩ := hv
  refine z_istore (nl := 7) C1 rfl (by decide) (L' := [(6, .int rb), (5, .int (nI (registerA A (xs (i + 1))).1)), (4, .int (nI i)), (3, .ref (n + 116)), (2, .ref (ad (bk2 D cB cI cH cF n) 0)), (1, .ref (ad (bk1 D cB cI cH cF n) 0)), (0, .ref b)]) rfl d_L_law_604 ?_
  refine z_aload_n C1 4 rfl rfl d_L_law_606 ?_
  refine z_part (f := (fun u9 => (u, u9, o9))) (As := []) (rest := []) (k9 := 0) C1 (pt_R D cB cI cH cF cL n u v o9) ⟨tw_1076, tw_1077, tw_87, tw_1078, ⟨by decide, by decide, by decide +kernel⟩⟩ tw_1075 (c_M_thrown l (bk2 D cB cI cH cF n) v (fun T9 r9 => T9 = v ∧ r9 = gM v 0 0) ⟨rfl, rfl⟩) ⟨10, 0, _, TX10, 30, rfl, rfl⟩ ⟨by decide, by decide⟩ rfl rfl (Nat.le_of_ble_eq_true rfl) d_L_law_607 (fun x v9 hv9 => ?_)
  obtain ⟨r8, rfl, rfl, rfl⟩ := hv9
  rw [hv2]
  refine z_iload C1 1 rfl d_L_law_610 ?_
  refine z_icmp_eq (tgt := 617) C1 d_L_law_612 rfl (fun _ => ?_) (fun c9 => absurd rfl c9)
  refine z_iload C1 1 rfl d_L_law_617 ?_
  refine z_if_ne (tgt := 634) C1 d_L_law_619 rfl (fun _ => z_goto (tgt := 975) C1 d_L_law_634 rfl (z_sub [2, 3, 4, 5, 6] rfl (N _ u v9 o9 j hu hv1 hI hJ (by omega)))) (fun c9 => ?_)
  have z9 : (registerA A (xs (i + 1))).1 = 0 := by
    have c8 := c9
    rw [← nI_0, nI_eq (by omega) (by decide)] at c8
    exact c8
  refine z_aload_n C1 3 rfl rfl d_L_law_622 ?_
  refine z_iconst (v := 0) C1 (by decide) d_L_law_623 ?_
  refine z_lald C1 d_L_law_624 ?_
  refine z_iload C1 0 rfl d_L_law_625 ?_
  refine z_i2l C1 d_L_law_627 ?_
  refine z_lcmp C1 d_L_law_628 ?_
  refine z_if_eq (tgt := 634) C1 d_L_law_629 rfl (fun _ => z_goto (tgt := 975) C1 d_L_law_634 rfl (z_sub [2, 3, 4, 5, 6] rfl (N _ u v9 o9 j hu hv1 hI hJ (by omega)))) (fun c8 => absurd ((lg_cmp_eq _ _).mpr ?_) c8)
  show o9 = rb.toInt64
  rw [ho z9, hv3 z9]
theorem q_set {p : Program} {l : Launch} {e : Env} {R : Room} {s : State} {m : MethodId} {below : List Frame} {meth : Method} {c : Code} {Q : State → Prop} (hst : l.stackTraces = false) {b L : Nat} {xs : Nat → Int32} {D : va_G} {cB cI cH cF cL : ClassId} {n i kk nn : Nat} (C : zC (p, l, e, R, s, m, (#[Value.ref b] : Array Value), below, meth, c, 7, Q, kk, nn) (wL D cB cI cH cF cL n) code "HostBenchLaw" 11 414) (C1 : zC (p, l, e, R, s, m, (#[Value.ref b] : Array Value), below, meth, c, 7, Q, kk + 1, nn + 6) (wL D cB cI cH cF cL n) code "HostBenchLaw" 11 414) (hr : kk + 1 ≤ R.cells ∧ nn + 6 ≤ R.slots) (hX : va_X b L xs s s.heap) (hbl : b < s.heap.size) (hbn : ¬ n ≤ b) (hi : i + 6 ≤ L) (hL : L ≤ 3072) (hnc : ncs s) {A : zA} {S T : zS} {o : Int64} {j : Nat} (hC : RC A S) (hR : RR A T) (hI : AI A) (hJ : gJ A.1 = lN j) (hj : j + 5000 < 2 ^ 31) (N : ∀ (A' : zA) (S' T' : zS) (o' : Int64) (j' : Nat), RC A' S' → RR A' T' → AI A' → gJ A'.1 = lN j' → j' ≤ j + 5000 → zV (p, l, e, R, s, m, (#[Value.ref b] : Array Value), below, meth, c, 7, Q, kk + 1, nn + 6) (wL D cB cI cH cF cL n) (S', T', o') 975 [(4, .int (nI i)), (3, .ref (n + 116)), (2, .ref (ad (bk2 D cB cI cH cF n) 0)), (1, .ref (ad (bk1 D cB cI cH cF n) 0)), (0, .ref b)] []) : zV (p, l, e, R, s, m, (#[Value.ref b] : Array Value), below, meth, c, 7, Q, kk, nn) (wL D cB cI cH cF cL n) (S, T, o) 637 [(4, .int (nI i)), (3, .ref (n + 116)), (2, .ref (ad (bk2 D cB cI cH cF n) 0)), (1, .ref (ad (bk1 D cB cI cH cF n) 0)), (0, .ref b)] [] := by
  refine z_aload_n C 3 rfl rfl d_L_law_637 ?_
  refine z_arg (b := b) (L := L) (xs := xs) (k9 := 1) C hX hbl hbn hL (by omega) (by decide) 4 0 rfl rfl d_L_law_638 d_L_law_639 d_L_law_641 d_L_law_642 d_L_law_643 ?_
  refine z_arg (b := b) (L := L) (xs := xs) (k9 := 2) C hX hbl hbn hL (by omega) (by decide) 4 0 rfl rfl d_L_law_644 d_L_law_645 d_L_law_647 d_L_law_648 d_L_law_649 ?_
  refine z_part (f := (fun u9 => (u9, T, o))) (As := [.int (xs (i + 1)), .int (xs (i + 2))]) (rest := []) (k9 := 2) C (pt_C D cB cI cH cF cL n S T o) ⟨tw_395, tw_396, tw_76, tw_397, ⟨by decide, by decide, by decide +kernel⟩⟩ tw_394 (c_HB_set l (bk1 D cB cI cH cF n) (xs (i + 1)) (xs (i + 2)) S _ (k_set hC (xs (i + 1)) (xs (i + 2)))) ⟨9, 0, _, TX9, 8, rfl, rfl⟩ ⟨by decide, by decide⟩ rfl rfl (Nat.le_of_ble_eq_true rfl) d_L_law_650 (fun x u hu => ?_)
  obtain ⟨rv, rfl, hu⟩ := hu
  refine z_aload_n C 2 rfl rfl d_L_law_653 ?_
  refine z_arg (b := b) (L := L) (xs := xs) (k9 := 1) C hX hbl hbn hL (by omega) (by decide) 4 0 rfl rfl d_L_law_654 d_L_law_655 d_L_law_657 d_L_law_658 d_L_law_659 ?_
  refine z_arg (b := b) (L := L) (xs := xs) (k9 := 2) C hX hbl hbn hL (by omega) (by decide) 4 0 rfl rfl d_L_law_660 d_L_law_661 d_L_law_663 d_L_law_664 d_L_law_665 ?_
  refine z_part (f := (fun u9 => (u, u9, o))) (As := [.int (xs (i + 1)), .int (xs (i + 2))]) (rest := [.int rv]) (k9 := 2) C (pt_R D cB cI cH cF cL n u T o) ⟨tw_1310, tw_1311, tw_87, tw_1312, ⟨by decide, by decide, by decide +kernel⟩⟩ tw_1309 (c_M_set l (bk2 D cB cI cH cF n) (xs (i + 1)) (xs (i + 2)) T _ (m_set hR (xs (i + 1)) (xs (i + 2)))) ⟨10, 0, _, TX10, 30, rfl, rfl⟩ ⟨by decide, by decide⟩ rfl rfl (Nat.le_of_ble_eq_true rfl) d_L_law_666 (fun x v hv => ?_)
  obtain ⟨rw9, rfl, hv⟩ := hv
  exact z_icmp_eq (tgt := 975) C d_L_law_669 rfl (fun _ => z_wid (N _ u v o j hu.1 hv.1 (AI_set hI (xs (i + 1)) (xs (i + 2))).1 ((AI_set hI (xs (i + 1)) (xs (i + 2))).2.trans hJ) (by omega))) (fun c9 => absurd (hu.2.trans hv.2.symm) c9)
theorem q_peek {p : Program} {l : Launch} {e : Env} {R : Room} {s : State} {m : MethodId} {below : List Frame} {meth : Method} {c : Code} {Q : State → Prop} (hst : l.stackTraces = false) {b L : Nat} {xs : Nat → Int32} {D : va_G} {cB cI cH cF cL : ClassId} {n i kk nn : Nat} (C : zC (p, l, e, R, s, m, (#[Value.ref b] : Array Value), below, meth, c, 7, Q, kk, nn) (wL D cB cI cH cF cL n) code "HostBenchLaw" 11 414) (C1 : zC (p, l, e, R, s, m, (#[Value.ref b] : Array Value), below, meth, c, 7, Q, kk + 1, nn + 6) (wL D cB cI cH cF cL n) code "HostBenchLaw" 11 414) (hr : kk + 1 ≤ R.cells ∧ nn + 6 ≤ R.slots) (hX : va_X b L xs s s.heap) (hbl : b < s.heap.size) (hbn : ¬ n ≤ b) (hi : i + 6 ≤ L) (hL : L ≤ 3072) (hnc : ncs s) {A : zA} {S T : zS} {o : Int64} {j : Nat} (hC : RC A S) (hR : RR A T) (hI : AI A) (hJ : gJ A.1 = lN j) (hj : j + 5000 < 2 ^ 31) (N : ∀ (A' : zA) (S' T' : zS) (o' : Int64) (j' : Nat), RC A' S' → RR A' T' → AI A' → gJ A'.1 = lN j' → j' ≤ j + 5000 → zV (p, l, e, R, s, m, (#[Value.ref b] : Array Value), below, meth, c, 7, Q, kk + 1, nn + 6) (wL D cB cI cH cF cL n) (S', T', o') 975 [(4, .int (nI i)), (3, .ref (n + 116)), (2, .ref (ad (bk2 D cB cI cH cF n) 0)), (1, .ref (ad (bk1 D cB cI cH cF n) 0)), (0, .ref b)] []) : zV (p, l, e, R, s, m, (#[Value.ref b] : Array Value), below, meth, c, 7, Q, kk, nn) (wL D cB cI cH cF cL n) (S, T, o) 674 [(4, .int (nI i)), (3, .ref (n + 116)), (2, .ref (ad (bk2 D cB cI cH cF n) 0)), (1, .ref (ad (bk1 D cB cI cH cF n) 0)), (0, .ref b)] [] := by
  refine z_aload_n C 3 rfl rfl d_L_law_674 ?_
  refine z_arg (b := b) (L := L) (xs := xs) (k9 := 1) C hX hbl hbn hL (by omega) (by decide) 4 0 rfl rfl d_L_law_675 d_L_law_676 d_L_law_678 d_L_law_679 d_L_law_680 ?_
  refine z_part (f := (fun u9 => (u9, T, o))) (As := [.int (xs (i + 1))]) (rest := []) (k9 := 1) C (pt_C D cB cI cH cF cL n S T o) ⟨tw_403, tw_404, tw_76, tw_405, ⟨by decide, by decide, by decide +kernel⟩⟩ tw_402 (c_HB_peek l (bk1 D cB cI cH cF n) (xs (i + 1)) S _ (k_peek hC (xs (i + 1)))) ⟨9, 0, _, TX9, 8, rfl, rfl⟩ ⟨by decide, by decide⟩ rfl rfl (Nat.le_of_ble_eq_true rfl) d_L_law_681 (fun x u hu => ?_)
  obtain ⟨rv, rfl, hu⟩ := hu
  refine z_aload_n C 2 rfl rfl d_L_law_684 ?_
  refine z_arg (b := b) (L := L) (xs := xs) (k9 := 1) C hX hbl hbn hL (by omega) (by decide) 4 0 rfl rfl d_L_law_685 d_L_law_686 d_L_law_688 d_L_law_689 d_L_law_690 ?_
  refine z_part (f := (fun u9 => (u, u9, o))) (As := [.int (xs (i + 1))]) (rest := [.int rv]) (k9 := 1) C (pt_R D cB cI cH cF cL n u T o) ⟨tw_1314, tw_1315, tw_87, tw_1316, ⟨by decide, by decide, by decide +kernel⟩⟩ tw_1313 (c_M_peek l (bk2 D cB cI cH cF n) (xs (i + 1)) T _ (m_peek hR (xs (i + 1)))) ⟨10, 0, _, TX10, 30, rfl, rfl⟩ ⟨by decide, by decide⟩ rfl rfl (Nat.le_of_ble_eq_true rfl) d_L_law_691 (fun x v hv => ?_)
  obtain ⟨rw9, rfl, hv⟩ := hv
  exact z_icmp_eq (tgt := 975) C d_L_law_694 rfl (fun _ => z_wid (N _ u v o j hu.1 hv.1 hI hJ (by omega))) (fun c9 => absurd (hu.2.trans hv.2.symm) c9)
theorem q_files {p : Program} {l : Launch} {e : Env} {R : Room} {s : State} {m : MethodId} {below : List Frame} {meth : Method} {c : Code} {Q : State → Prop} (hst : l.stackTraces = false) {b L : Nat} {xs : Nat → Int32} {D : va_G} {cB cI cH cF cL : ClassId} {n i kk nn : Nat} (C : zC (p, l, e, R, s, m, (#[Value.ref b] : Array Value), below, meth, c, 7, Q, kk, nn) (wL D cB cI cH cF cL n) code "HostBenchLaw" 11 414) (C1 : zC (p, l, e, R, s, m, (#[Value.ref b] : Array Value), below, meth, c, 7, Q, kk + 1, nn + 6) (wL D cB cI cH cF cL n) code "HostBenchLaw" 11 414) (hr : kk + 1 ≤ R.cells ∧ nn + 6 ≤ R.slots) (hX : va_X b L xs s s.heap) (hbl : b < s.heap.size) (hbn : ¬ n ≤ b) (hi : i + 6 ≤ L) (hL : L ≤ 3072) (hnc : ncs s) {A : zA} {S T : zS} {o : Int64} {j : Nat} (hC : RC A S) (hR : RR A T) (hI : AI A) (hJ : gJ A.1 = lN j) (hj : j + 5000 < 2 ^ 31) (N : ∀ (A' : zA) (S' T' : zS) (o' : Int64) (j' : Nat), RC A' S' → RR A' T' → AI A' → gJ A'.1 = lN j' → j' ≤ j + 5000 → zV (p, l, e, R, s, m, (#[Value.ref b] : Array Value), below, meth, c, 7, Q, kk + 1, nn + 6) (wL D cB cI cH cF cL n) (S', T', o') 975 [(4, .int (nI i)), (3, .ref (n + 116)), (2, .ref (ad (bk2 D cB cI cH cF n) 0)), (1, .ref (ad (bk1 D cB cI cH cF n) 0)), (0, .ref b)] []) : zV (p, l, e, R, s, m, (#[Value.ref b] : Array Value), below, meth, c, 7, Q, kk, nn) (wL D cB cI cH cF cL n) (S, T, o) 699 [(4, .int (nI i)), (3, .ref (n + 116)), (2, .ref (ad (bk2 D cB cI cH cF n) 0)), (1, .ref (ad (bk1 D cB cI cH cF n) 0)), (0, .ref b)] [] := by
  refine z_aload_n C 3 rfl rfl d_L_law_699 ?_
  refine z_part (f := (fun u9 => (u9, T, o))) (As := []) (rest := []) (k9 := 0) C (pt_C D cB cI cH cF cL n S T o) ⟨tw_411, tw_412, tw_76, tw_413, ⟨by decide, by decide, by decide +kernel⟩⟩ tw_410 (c_HB_files l (bk1 D cB cI cH cF n) S _ (k_files hC)) ⟨9, 0, _, TX9, 8, rfl, rfl⟩ ⟨by decide, by decide⟩ rfl rfl (Nat.le_of_ble_eq_true rfl) d_L_law_700 (fun x u hu => ?_)
  obtain ⟨rv, rfl, hu⟩ := hu
  refine z_aload_n C 2 rfl rfl d_L_law_703 ?_
  refine z_part (f := (fun u9 => (u, u9, o))) (As := []) (rest := [.int rv]) (k9 := 0) C (pt_R D cB cI cH cF cL n u T o) ⟨tw_1318, tw_1319, tw_87, tw_1320, ⟨by decide, by decide, by decide +kernel⟩⟩ tw_1317 (c_M_files l (bk2 D cB cI cH cF n) T _ (m_files hR)) ⟨10, 0, _, TX10, 30, rfl, rfl⟩ ⟨by decide, by decide⟩ rfl rfl (Nat.le_of_ble_eq_true rfl) d_L_law_704 (fun x v hv => ?_)
  obtain ⟨rw9, rfl, hv⟩ := hv
  exact z_icmp_eq (tgt := 975) C d_L_law_707 rfl (fun _ => z_wid (N _ u v o j hu.1 hv.1 hI hJ (by omega))) (fun c9 => absurd (hu.2.trans hv.2.symm) c9)
theorem q_file {p : Program} {l : Launch} {e : Env} {R : Room} {s : State} {m : MethodId} {below : List Frame} {meth : Method} {c : Code} {Q : State → Prop} (hst : l.stackTraces = false) {b L : Nat} {xs : Nat → Int32} {D : va_G} {cB cI cH cF cL : ClassId} {n i kk nn : Nat} (C : zC (p, l, e, R, s, m, (#[Value.ref b] : Array Value), below, meth, c, 7, Q, kk, nn) (wL D cB cI cH cF cL n) code "HostBenchLaw" 11 414) (C1 : zC (p, l, e, R, s, m, (#[Value.ref b] : Array Value), below, meth, c, 7, Q, kk + 1, nn + 6) (wL D cB cI cH cF cL n) code "HostBenchLaw" 11 414) (hr : kk + 1 ≤ R.cells ∧ nn + 6 ≤ R.slots) (hX : va_X b L xs s s.heap) (hbl : b < s.heap.size) (hbn : ¬ n ≤ b) (hi : i + 6 ≤ L) (hL : L ≤ 3072) (hnc : ncs s) {A : zA} {S T : zS} {o : Int64} {j : Nat} (hC : RC A S) (hR : RR A T) (hI : AI A) (hJ : gJ A.1 = lN j) (hj : j + 5000 < 2 ^ 31) (N : ∀ (A' : zA) (S' T' : zS) (o' : Int64) (j' : Nat), RC A' S' → RR A' T' → AI A' → gJ A'.1 = lN j' → j' ≤ j + 5000 → zV (p, l, e, R, s, m, (#[Value.ref b] : Array Value), below, meth, c, 7, Q, kk + 1, nn + 6) (wL D cB cI cH cF cL n) (S', T', o') 975 [(4, .int (nI i)), (3, .ref (n + 116)), (2, .ref (ad (bk2 D cB cI cH cF n) 0)), (1, .ref (ad (bk1 D cB cI cH cF n) 0)), (0, .ref b)] []) : zV (p, l, e, R, s, m, (#[Value.ref b] : Array Value), below, meth, c, 7, Q, kk, nn) (wL D cB cI cH cF cL n) (S, T, o) 712 [(4, .int (nI i)), (3, .ref (n + 116)), (2, .ref (ad (bk2 D cB cI cH cF n) 0)), (1, .ref (ad (bk1 D cB cI cH cF n) 0)), (0, .ref b)] [] := by
  refine z_aload_n C 3 rfl rfl d_L_law_712 ?_
  refine z_arg (b := b) (L := L) (xs := xs) (k9 := 1) C hX hbl hbn hL (by omega) (by decide) 4 0 rfl rfl d_L_law_713 d_L_law_714 d_L_law_716 d_L_law_717 d_L_law_718 ?_
  refine z_arg (b := b) (L := L) (xs := xs) (k9 := 2) C hX hbl hbn hL (by omega) (by decide) 4 0 rfl rfl d_L_law_719 d_L_law_720 d_L_law_722 d_L_law_723 d_L_law_724 ?_
  refine z_aload_n C 1 rfl rfl d_L_law_725 ?_
  refine z_wrap (As := [.ref (ad (bk1 D cB cI cH cF n) 0), .int (xs (i + 1)), .int (xs (i + 2)), .ref (n + 116)]) (rest := []) (k9 := 4) C hr hnc (v_file l hst D cB cI cH cF cL n (xs (i + 1)) (xs (i + 2)) S T o _ _ (fun k S' => RC A S' ∧ (fileA A (xs (i + 1)) (xs (i + 2))).1 = k) (k_file hC hI (xs (i + 1)) (xs (i + 2))) (fun E u h => ⟨h.2.2, h.1, h.2.1⟩)) tw_960 tw_961 tw_75 tw_962 ⟨by decide, by decide, by decide +kernel⟩ ⟨by decide, by decide⟩ rfl rfl (Nat.le_of_ble_eq_true rfl) d_L_law_726 (fun V r9 hV => ?_)
  have hlt : (fileA A (xs (i + 1)) (xs (i + 2))).1 < 4 := lt_file A (xs (i + 1)) (xs (i + 2))
  obtain ⟨u, o9, rfl, hu, rfl, ho⟩ := lP_is (A' := A) (Xp := (fileA A (xs (i + 1)) (xs (i + 2)))) hlt hV
  refine z_istore (nl := 7) C1 rfl (by decide) (L' := [(5, .int (nI (fileA A (xs (i + 1)) (xs (i + 2))).1)), (4, .int (nI i)), (3, .ref (n + 116)), (2, .ref (ad (bk2 D cB cI cH cF n) 0)), (1, .ref (ad (bk1 D cB cI cH cF n) 0)), (0, .ref b)]) rfl d_L_law_729 ?_
  refine z_aload_n C1 3 rfl rfl d_L_law_731 ?_
  refine z_arg (b := b) (L := L) (xs := xs) (k9 := 1) C1 hX hbl hbn hL (by omega) (by decide) 5 1 rfl rfl d_L_law_732 d_L_law_733 d_L_law_735 d_L_law_736 d_L_law_737 ?_
  refine z_arg (b := b) (L := L) (xs := xs) (k9 := 2) C1 hX hbl hbn hL (by omega) (by decide) 5 1 rfl rfl d_L_law_738 d_L_law_739 d_L_law_741 d_L_law_742 d_L_law_743 ?_
  refine z_part (f := (fun u9 => (u, u9, o9))) (As := [.int (xs (i + 1)), .int (xs (i + 2))]) (rest := []) (k9 := 2) C1 (pt_R D cB cI cH cF cL n u T o9) ⟨tw_1322, tw_1323, tw_87, tw_1324, ⟨by decide, by decide, by decide +kernel⟩⟩ tw_1321 (c_M_file l (bk2 D cB cI cH cF n) (xs (i + 1)) (xs (i + 2)) T _ (m_file hR hI (xs (i + 1)) (xs (i + 2)))) ⟨10, 0, _, TX10, 30, rfl, rfl⟩ ⟨by decide, by decide⟩ rfl rfl (Nat.le_of_ble_eq_true rfl) d_L_law_744 (fun x v hv => ?_)
  obtain ⟨rb, rfl, hv1, hv2, hv3⟩ := hv
  refine z_istore (nl := 7) C1 rfl (by decide) (L' := [(6, .int rb), (5, .int (nI (fileA A (xs (i + 1)) (xs (i + 2))).1)), (4, .int (nI i)), (3, .ref (n + 116)), (2, .ref (ad (bk2 D cB cI cH cF n) 0)), (1, .ref (ad (bk1 D cB cI cH cF n) 0)), (0, .ref b)]) rfl d_L_law_747 ?_
  refine z_aload_n C1 4 rfl rfl d_L_law_749 ?_
  refine z_part (f := (fun u9 => (u, u9, o9))) (As := []) (rest := []) (k9 := 0) C1 (pt_R D cB cI cH cF cL n u v o9) ⟨tw_1076, tw_1077, tw_87, tw_1078, ⟨by decide, by decide, by decide +kernel⟩⟩ tw_1075 (c_M_thrown l (bk2 D cB cI cH cF n) v (fun T9 r9 => T9 = v ∧ r9 = gM v 0 0) ⟨rfl, rfl⟩) ⟨10, 0, _, TX10, 30, rfl, rfl⟩ ⟨by decide, by decide⟩ rfl rfl (Nat.le_of_ble_eq_true rfl) d_L_law_750 (fun x v9 hv9 => ?_)
  obtain ⟨r8, rfl, rfl, rfl⟩ := hv9
  rw [hv2]
  refine z_iload C1 1 rfl d_L_law_753 ?_
  refine z_icmp_eq (tgt := 760) C1 d_L_law_755 rfl (fun _ => ?_) (fun c9 => absurd rfl c9)
  refine z_iload C1 1 rfl d_L_law_760 ?_
  refine z_if_ne (tgt := 777) C1 d_L_law_762 rfl (fun _ => z_goto (tgt := 975) C1 d_L_law_777 rfl (z_sub [2, 3, 4, 5, 6] rfl (N _ u v9 o9 j hu hv1 hI hJ (by omega)))) (fun c9 => ?_)
  have z9 : (fileA A (xs (i + 1)) (xs (i + 2))).1 = 0 := by
    have c8 := c9
    rw [← nI_0, nI_eq (by omega) (by decide)] at c8
    exact c8
  refine z_aload_n C1 3 rfl rfl d_L_law_765 ?_
  refine z_iconst (v := 0) C1 (by decide) d_L_law_766 ?_
  refine z_lald C1 d_L_law_767 ?_
  refine z_iload C1 0 rfl d_L_law_768 ?_
  refine z_i2l C1 d_L_law_770 ?_
  refine z_lcmp C1 d_L_law_771 ?_
  refine z_if_eq (tgt := 777) C1 d_L_law_772 rfl (fun _ => z_goto (tgt := 975) C1 d_L_law_777 rfl (z_sub [2, 3, 4, 5, 6] rfl (N _ u v9 o9 j hu hv1 hI hJ (by omega)))) (fun c8 => absurd ((lg_cmp_eq _ _).mpr ?_) c8)
  show o9 = rb.toInt64
  rw [ho z9, hv3 z9]
theorem q_fileByte {p : Program} {l : Launch} {e : Env} {R : Room} {s : State} {m : MethodId} {below : List Frame} {meth : Method} {c : Code} {Q : State → Prop} (hst : l.stackTraces = false) {b L : Nat} {xs : Nat → Int32} {D : va_G} {cB cI cH cF cL : ClassId} {n i kk nn : Nat} (C : zC (p, l, e, R, s, m, (#[Value.ref b] : Array Value), below, meth, c, 7, Q, kk, nn) (wL D cB cI cH cF cL n) code "HostBenchLaw" 11 414) (C1 : zC (p, l, e, R, s, m, (#[Value.ref b] : Array Value), below, meth, c, 7, Q, kk + 1, nn + 6) (wL D cB cI cH cF cL n) code "HostBenchLaw" 11 414) (hr : kk + 1 ≤ R.cells ∧ nn + 6 ≤ R.slots) (hX : va_X b L xs s s.heap) (hbl : b < s.heap.size) (hbn : ¬ n ≤ b) (hi : i + 6 ≤ L) (hL : L ≤ 3072) (hnc : ncs s) {A : zA} {S T : zS} {o : Int64} {j : Nat} (hC : RC A S) (hR : RR A T) (hI : AI A) (hJ : gJ A.1 = lN j) (hj : j + 5000 < 2 ^ 31) (N : ∀ (A' : zA) (S' T' : zS) (o' : Int64) (j' : Nat), RC A' S' → RR A' T' → AI A' → gJ A'.1 = lN j' → j' ≤ j + 5000 → zV (p, l, e, R, s, m, (#[Value.ref b] : Array Value), below, meth, c, 7, Q, kk + 1, nn + 6) (wL D cB cI cH cF cL n) (S', T', o') 975 [(4, .int (nI i)), (3, .ref (n + 116)), (2, .ref (ad (bk2 D cB cI cH cF n) 0)), (1, .ref (ad (bk1 D cB cI cH cF n) 0)), (0, .ref b)] []) : zV (p, l, e, R, s, m, (#[Value.ref b] : Array Value), below, meth, c, 7, Q, kk, nn) (wL D cB cI cH cF cL n) (S, T, o) 780 [(4, .int (nI i)), (3, .ref (n + 116)), (2, .ref (ad (bk2 D cB cI cH cF n) 0)), (1, .ref (ad (bk1 D cB cI cH cF n) 0)), (0, .ref b)] [] := by
  by_cases cz0 : xs (i + 3) = 0
  · refine z_aload_n C 3 rfl rfl d_L_law_780 ?_
    refine z_arg (b := b) (L := L) (xs := xs) (k9 := 1) C hX hbl hbn hL (by omega) (by decide) 4 0 rfl rfl d_L_law_781 d_L_law_782 d_L_law_784 d_L_law_785 d_L_law_786 ?_
    refine z_arg (b := b) (L := L) (xs := xs) (k9 := 2) C hX hbl hbn hL (by omega) (by decide) 4 0 rfl rfl d_L_law_787 d_L_law_788 d_L_law_790 d_L_law_791 d_L_law_792 ?_
    refine z_arg (b := b) (L := L) (xs := xs) (k9 := 3) C hX hbl hbn hL (by omega) (by decide) 4 0 rfl rfl d_L_law_793 d_L_law_794 d_L_law_796 d_L_law_797 d_L_law_798 ?_
    refine z_if_eq (tgt := 806) C d_L_law_799 rfl (fun _ => z_iconst (v := 0) C (by decide) d_L_law_806 ?_) (fun cz => absurd cz0 cz)
    refine z_part (f := (fun u9 => (u9, T, o))) (As := [.int (xs (i + 1)), .int (xs (i + 2)), .int 0]) (rest := []) (k9 := 3) C (pt_C D cB cI cH cF cL n S T o) ⟨tw_415, tw_416, tw_76, tw_417, ⟨by decide, by decide, by decide +kernel⟩⟩ tw_414 (c_HB_fileByte l (bk1 D cB cI cH cF n) (xs (i + 1)) (xs (i + 2)) 0 S _ (k_fileByte hC (xs (i + 1)) (xs (i + 2)) 0)) ⟨9, 0, _, TX9, 8, rfl, rfl⟩ ⟨by decide, by decide⟩ rfl rfl (Nat.le_of_ble_eq_true rfl) d_L_law_807 (fun x u hu => ?_)
    obtain ⟨rv, rfl, hu⟩ := hu
    refine z_aload_n C 2 rfl rfl d_L_law_810 ?_
    refine z_arg (b := b) (L := L) (xs := xs) (k9 := 1) C hX hbl hbn hL (by omega) (by decide) 4 0 rfl rfl d_L_law_811 d_L_law_812 d_L_law_814 d_L_law_815 d_L_law_816 ?_
    refine z_arg (b := b) (L := L) (xs := xs) (k9 := 2) C hX hbl hbn hL (by omega) (by decide) 4 0 rfl rfl d_L_law_817 d_L_law_818 d_L_law_820 d_L_law_821 d_L_law_822 ?_
    refine z_arg (b := b) (L := L) (xs := xs) (k9 := 3) C hX hbl hbn hL (by omega) (by decide) 4 0 rfl rfl d_L_law_823 d_L_law_824 d_L_law_826 d_L_law_827 d_L_law_828 ?_
    refine z_if_eq (tgt := 836) C d_L_law_829 rfl (fun _ => z_iconst (v := 0) C (by decide) d_L_law_836 ?_) (fun cz => absurd cz0 cz)
    refine z_part (f := (fun u9 => (u, u9, o))) (As := [.int (xs (i + 1)), .int (xs (i + 2)), .int 0]) (rest := [.int rv]) (k9 := 3) C (pt_R D cB cI cH cF cL n u T o) ⟨tw_1326, tw_1327, tw_87, tw_1328, ⟨by decide, by decide, by decide +kernel⟩⟩ tw_1325 (c_M_fileByte l (bk2 D cB cI cH cF n) (xs (i + 1)) (xs (i + 2)) 0 T _ (m_fileByte hR (xs (i + 1)) (xs (i + 2)) 0)) ⟨10, 0, _, TX10, 30, rfl, rfl⟩ ⟨by decide, by decide⟩ rfl rfl (Nat.le_of_ble_eq_true rfl) d_L_law_837 (fun x v hv => ?_)
    obtain ⟨rw9, rfl, hv⟩ := hv
    exact z_icmp_eq (tgt := 975) C d_L_law_840 rfl (fun _ => z_wid (N _ u v o j hu.1 hv.1 hI hJ (by omega))) (fun c9 => absurd (hu.2.trans hv.2.symm) c9)
  · refine z_aload_n C 3 rfl rfl d_L_law_780 ?_
    refine z_arg (b := b) (L := L) (xs := xs) (k9 := 1) C hX hbl hbn hL (by omega) (by decide) 4 0 rfl rfl d_L_law_781 d_L_law_782 d_L_law_784 d_L_law_785 d_L_law_786 ?_
    refine z_arg (b := b) (L := L) (xs := xs) (k9 := 2) C hX hbl hbn hL (by omega) (by decide) 4 0 rfl rfl d_L_law_787 d_L_law_788 d_L_law_790 d_L_law_791 d_L_law_792 ?_
    refine z_arg (b := b) (L := L) (xs := xs) (k9 := 3) C hX hbl hbn hL (by omega) (by decide) 4 0 rfl rfl d_L_law_793 d_L_law_794 d_L_law_796 d_L_law_797 d_L_law_798 ?_
    refine z_if_eq (tgt := 806) C d_L_law_799 rfl (fun cz => absurd cz cz0) (fun _ => z_iconst (v := 1) C (by decide) d_L_law_802 (z_goto (tgt := 807) C d_L_law_803 rfl ?_))
    refine z_part (f := (fun u9 => (u9, T, o))) (As := [.int (xs (i + 1)), .int (xs (i + 2)), .int 1]) (rest := []) (k9 := 3) C (pt_C D cB cI cH cF cL n S T o) ⟨tw_415, tw_416, tw_76, tw_417, ⟨by decide, by decide, by decide +kernel⟩⟩ tw_414 (c_HB_fileByte l (bk1 D cB cI cH cF n) (xs (i + 1)) (xs (i + 2)) 1 S _ (k_fileByte hC (xs (i + 1)) (xs (i + 2)) 1)) ⟨9, 0, _, TX9, 8, rfl, rfl⟩ ⟨by decide, by decide⟩ rfl rfl (Nat.le_of_ble_eq_true rfl) d_L_law_807 (fun x u hu => ?_)
    obtain ⟨rv, rfl, hu⟩ := hu
    refine z_aload_n C 2 rfl rfl d_L_law_810 ?_
    refine z_arg (b := b) (L := L) (xs := xs) (k9 := 1) C hX hbl hbn hL (by omega) (by decide) 4 0 rfl rfl d_L_law_811 d_L_law_812 d_L_law_814 d_L_law_815 d_L_law_816 ?_
    refine z_arg (b := b) (L := L) (xs := xs) (k9 := 2) C hX hbl hbn hL (by omega) (by decide) 4 0 rfl rfl d_L_law_817 d_L_law_818 d_L_law_820 d_L_law_821 d_L_law_822 ?_
    refine z_arg (b := b) (L := L) (xs := xs) (k9 := 3) C hX hbl hbn hL (by omega) (by decide) 4 0 rfl rfl d_L_law_823 d_L_law_824 d_L_law_826 d_L_law_827 d_L_law_828 ?_
    refine z_if_eq (tgt := 836) C d_L_law_829 rfl (fun cz => absurd cz cz0) (fun _ => z_iconst (v := 1) C (by decide) d_L_law_832 (z_goto (tgt := 837) C d_L_law_833 rfl ?_))
    refine z_part (f := (fun u9 => (u, u9, o))) (As := [.int (xs (i + 1)), .int (xs (i + 2)), .int 1]) (rest := [.int rv]) (k9 := 3) C (pt_R D cB cI cH cF cL n u T o) ⟨tw_1326, tw_1327, tw_87, tw_1328, ⟨by decide, by decide, by decide +kernel⟩⟩ tw_1325 (c_M_fileByte l (bk2 D cB cI cH cF n) (xs (i + 1)) (xs (i + 2)) 1 T _ (m_fileByte hR (xs (i + 1)) (xs (i + 2)) 1)) ⟨10, 0, _, TX10, 30, rfl, rfl⟩ ⟨by decide, by decide⟩ rfl rfl (Nat.le_of_ble_eq_true rfl) d_L_law_837 (fun x v hv => ?_)
    obtain ⟨rw9, rfl, hv⟩ := hv
    exact z_icmp_eq (tgt := 975) C d_L_law_840 rfl (fun _ => z_wid (N _ u v o j hu.1 hv.1 hI hJ (by omega))) (fun c9 => absurd (hu.2.trans hv.2.symm) c9)
theorem q_handle {p : Program} {l : Launch} {e : Env} {R : Room} {s : State} {m : MethodId} {below : List Frame} {meth : Method} {c : Code} {Q : State → Prop} (hst : l.stackTraces = false) {b L : Nat} {xs : Nat → Int32} {D : va_G} {cB cI cH cF cL : ClassId} {n i kk nn : Nat} (C : zC (p, l, e, R, s, m, (#[Value.ref b] : Array Value), below, meth, c, 7, Q, kk, nn) (wL D cB cI cH cF cL n) code "HostBenchLaw" 11 414) (C1 : zC (p, l, e, R, s, m, (#[Value.ref b] : Array Value), below, meth, c, 7, Q, kk + 1, nn + 6) (wL D cB cI cH cF cL n) code "HostBenchLaw" 11 414) (hr : kk + 1 ≤ R.cells ∧ nn + 6 ≤ R.slots) (hX : va_X b L xs s s.heap) (hbl : b < s.heap.size) (hbn : ¬ n ≤ b) (hi : i + 6 ≤ L) (hL : L ≤ 3072) (hnc : ncs s) {A : zA} {S T : zS} {o : Int64} {j : Nat} (hC : RC A S) (hR : RR A T) (hI : AI A) (hJ : gJ A.1 = lN j) (hj : j + 5000 < 2 ^ 31) (N : ∀ (A' : zA) (S' T' : zS) (o' : Int64) (j' : Nat), RC A' S' → RR A' T' → AI A' → gJ A'.1 = lN j' → j' ≤ j + 5000 → zV (p, l, e, R, s, m, (#[Value.ref b] : Array Value), below, meth, c, 7, Q, kk + 1, nn + 6) (wL D cB cI cH cF cL n) (S', T', o') 975 [(4, .int (nI i)), (3, .ref (n + 116)), (2, .ref (ad (bk2 D cB cI cH cF n) 0)), (1, .ref (ad (bk1 D cB cI cH cF n) 0)), (0, .ref b)] []) : zV (p, l, e, R, s, m, (#[Value.ref b] : Array Value), below, meth, c, 7, Q, kk, nn) (wL D cB cI cH cF cL n) (S, T, o) 845 [(4, .int (nI i)), (3, .ref (n + 116)), (2, .ref (ad (bk2 D cB cI cH cF n) 0)), (1, .ref (ad (bk1 D cB cI cH cF n) 0)), (0, .ref b)] [] := by
  refine z_aload_n C 3 rfl rfl d_L_law_845 ?_
  refine z_arg (b := b) (L := L) (xs := xs) (k9 := 1) C hX hbl hbn hL (by omega) (by decide) 4 0 rfl rfl d_L_law_846 d_L_law_847 d_L_law_849 d_L_law_850 d_L_law_851 ?_
  refine z_arg (b := b) (L := L) (xs := xs) (k9 := 2) C hX hbl hbn hL (by omega) (by decide) 4 0 rfl rfl d_L_law_852 d_L_law_853 d_L_law_855 d_L_law_856 d_L_law_857 ?_
  refine z_aload_n C 1 rfl rfl d_L_law_858 ?_
  refine z_wrap (As := [.ref (ad (bk1 D cB cI cH cF n) 0), .int (xs (i + 1)), .int (xs (i + 2)), .ref (n + 116)]) (rest := []) (k9 := 4) C hr hnc (v_handle l hst D cB cI cH cF cL n (xs (i + 1)) (xs (i + 2)) S T o _ _ (fun k S' => RC A S' ∧ (handleA A (xs (i + 1)) (xs (i + 2))).1 = k) (k_handle hC hI (xs (i + 1)) (xs (i + 2))) (fun E u h => ⟨h.2.2, h.1, h.2.1⟩)) tw_968 tw_969 tw_75 tw_970 ⟨by decide, by decide, by decide +kernel⟩ ⟨by decide, by decide⟩ rfl rfl (Nat.le_of_ble_eq_true rfl) d_L_law_859 (fun V r9 hV => ?_)
  have hlt : (handleA A (xs (i + 1)) (xs (i + 2))).1 < 4 := lt_handle A (xs (i + 1)) (xs (i + 2))
  obtain ⟨u, o9, rfl, hu, rfl, ho⟩ := lP_is (A' := A) (Xp := (handleA A (xs (i + 1)) (xs (i + 2)))) hlt hV
  refine z_istore (nl := 7) C1 rfl (by decide) (L' := [(5, .int (nI (handleA A (xs (i + 1)) (xs (i + 2))).1)), (4, .int (nI i)), (3, .ref (n + 116)), (2, .ref (ad (bk2 D cB cI cH cF n) 0)), (1, .ref (ad (bk1 D cB cI cH cF n) 0)), (0, .ref b)]) rfl d_L_law_862 ?_
  refine z_aload_n C1 3 rfl rfl d_L_law_864 ?_
  refine z_arg (b := b) (L := L) (xs := xs) (k9 := 1) C1 hX hbl hbn hL (by omega) (by decide) 5 1 rfl rfl d_L_law_865 d_L_law_866 d_L_law_868 d_L_law_869 d_L_law_870 ?_
  refine z_arg (b := b) (L := L) (xs := xs) (k9 := 2) C1 hX hbl hbn hL (by omega) (by decide) 5 1 rfl rfl d_L_law_871 d_L_law_872 d_L_law_874 d_L_law_875 d_L_law_876 ?_
  refine z_part (f := (fun u9 => (u, u9, o9))) (As := [.int (xs (i + 1)), .int (xs (i + 2))]) (rest := []) (k9 := 2) C1 (pt_R D cB cI cH cF cL n u T o9) ⟨tw_1330, tw_1331, tw_87, tw_1332, ⟨by decide, by decide, by decide +kernel⟩⟩ tw_1329 (c_M_handle l (bk2 D cB cI cH cF n) (xs (i + 1)) (xs (i + 2)) T _ (m_handle hR hI (xs (i + 1)) (xs (i + 2)))) ⟨10, 0, _, TX10, 30, rfl, rfl⟩ ⟨by decide, by decide⟩ rfl rfl (Nat.le_of_ble_eq_true rfl) d_L_law_877 (fun x v hv => ?_)
  obtain ⟨rb, rfl, hv1, hv2, hv3⟩ := hv
  refine z_istore (nl := 7) C1 rfl (by decide) (L' := [(6, .int rb), (5, .int (nI (handleA A (xs (i + 1)) (xs (i + 2))).1)), (4, .int (nI i)), (3, .ref (n + 116)), (2, .ref (ad (bk2 D cB cI cH cF n) 0)), (1, .ref (ad (bk1 D cB cI cH cF n) 0)), (0, .ref b)]) rfl d_L_law_880 ?_
  refine z_aload_n C1 4 rfl rfl d_L_law_882 ?_
  refine z_part (f := (fun u9 => (u, u9, o9))) (As := []) (rest := []) (k9 := 0) C1 (pt_R D cB cI cH cF cL n u v o9) ⟨tw_1076, tw_1077, tw_87, tw_1078, ⟨by decide, by decide, by decide +kernel⟩⟩ tw_1075 (c_M_thrown l (bk2 D cB cI cH cF n) v (fun T9 r9 => T9 = v ∧ r9 = gM v 0 0) ⟨rfl, rfl⟩) ⟨10, 0, _, TX10, 30, rfl, rfl⟩ ⟨by decide, by decide⟩ rfl rfl (Nat.le_of_ble_eq_true rfl) d_L_law_883 (fun x v9 hv9 => ?_)
  obtain ⟨r8, rfl, rfl, rfl⟩ := hv9
  rw [hv2]
  refine z_iload C1 1 rfl d_L_law_886 ?_
  refine z_icmp_eq (tgt := 893) C1 d_L_law_888 rfl (fun _ => ?_) (fun c9 => absurd rfl c9)
  refine z_iload C1 1 rfl d_L_law_893 ?_
  refine z_if_ne (tgt := 910) C1 d_L_law_895 rfl (fun _ => z_goto (tgt := 975) C1 d_L_law_910 rfl (z_sub [2, 3, 4, 5, 6] rfl (N _ u v9 o9 j hu hv1 hI hJ (by omega)))) (fun c9 => ?_)
  have z9 : (handleA A (xs (i + 1)) (xs (i + 2))).1 = 0 := by
    have c8 := c9
    rw [← nI_0, nI_eq (by omega) (by decide)] at c8
    exact c8
  refine z_aload_n C1 3 rfl rfl d_L_law_898 ?_
  refine z_iconst (v := 0) C1 (by decide) d_L_law_899 ?_
  refine z_lald C1 d_L_law_900 ?_
  refine z_iload C1 0 rfl d_L_law_901 ?_
  refine z_i2l C1 d_L_law_903 ?_
  refine z_lcmp C1 d_L_law_904 ?_
  refine z_if_eq (tgt := 910) C1 d_L_law_905 rfl (fun _ => z_goto (tgt := 975) C1 d_L_law_910 rfl (z_sub [2, 3, 4, 5, 6] rfl (N _ u v9 o9 j hu hv1 hI hJ (by omega)))) (fun c8 => absurd ((lg_cmp_eq _ _).mpr ?_) c8)
  show o9 = rb.toInt64
  rw [ho z9, hv3 z9]
theorem q_printed {p : Program} {l : Launch} {e : Env} {R : Room} {s : State} {m : MethodId} {below : List Frame} {meth : Method} {c : Code} {Q : State → Prop} (hst : l.stackTraces = false) {b L : Nat} {xs : Nat → Int32} {D : va_G} {cB cI cH cF cL : ClassId} {n i kk nn : Nat} (C : zC (p, l, e, R, s, m, (#[Value.ref b] : Array Value), below, meth, c, 7, Q, kk, nn) (wL D cB cI cH cF cL n) code "HostBenchLaw" 11 414) (C1 : zC (p, l, e, R, s, m, (#[Value.ref b] : Array Value), below, meth, c, 7, Q, kk + 1, nn + 6) (wL D cB cI cH cF cL n) code "HostBenchLaw" 11 414) (hr : kk + 1 ≤ R.cells ∧ nn + 6 ≤ R.slots) (hX : va_X b L xs s s.heap) (hbl : b < s.heap.size) (hbn : ¬ n ≤ b) (hi : i + 6 ≤ L) (hL : L ≤ 3072) (hnc : ncs s) {A : zA} {S T : zS} {o : Int64} {j : Nat} (hC : RC A S) (hR : RR A T) (hI : AI A) (hJ : gJ A.1 = lN j) (hj : j + 5000 < 2 ^ 31) (N : ∀ (A' : zA) (S' T' : zS) (o' : Int64) (j' : Nat), RC A' S' → RR A' T' → AI A' → gJ A'.1 = lN j' → j' ≤ j + 5000 → zV (p, l, e, R, s, m, (#[Value.ref b] : Array Value), below, meth, c, 7, Q, kk + 1, nn + 6) (wL D cB cI cH cF cL n) (S', T', o') 975 [(4, .int (nI i)), (3, .ref (n + 116)), (2, .ref (ad (bk2 D cB cI cH cF n) 0)), (1, .ref (ad (bk1 D cB cI cH cF n) 0)), (0, .ref b)] []) : zV (p, l, e, R, s, m, (#[Value.ref b] : Array Value), below, meth, c, 7, Q, kk, nn) (wL D cB cI cH cF cL n) (S, T, o) 913 [(4, .int (nI i)), (3, .ref (n + 116)), (2, .ref (ad (bk2 D cB cI cH cF n) 0)), (1, .ref (ad (bk1 D cB cI cH cF n) 0)), (0, .ref b)] [] := by
  refine z_aload_n C 3 rfl rfl d_L_law_913 ?_
  refine z_arg (b := b) (L := L) (xs := xs) (k9 := 1) C hX hbl hbn hL (by omega) (by decide) 4 0 rfl rfl d_L_law_914 d_L_law_915 d_L_law_917 d_L_law_918 d_L_law_919 ?_
  refine z_part (f := (fun u9 => (u9, T, o))) (As := [.int (xs (i + 1))]) (rest := []) (k9 := 1) C (pt_C D cB cI cH cF cL n S T o) ⟨tw_427, tw_428, tw_76, tw_429, ⟨by decide, by decide, by decide +kernel⟩⟩ tw_426 (c_HB_printed l (bk1 D cB cI cH cF n) (xs (i + 1)) S _ (k_printed hC (xs (i + 1)))) ⟨9, 0, _, TX9, 8, rfl, rfl⟩ ⟨by decide, by decide⟩ rfl rfl (Nat.le_of_ble_eq_true rfl) d_L_law_920 (fun x u hu => ?_)
  obtain ⟨rv, rfl, hu⟩ := hu
  refine z_aload_n C 2 rfl rfl d_L_law_923 ?_
  refine z_arg (b := b) (L := L) (xs := xs) (k9 := 1) C hX hbl hbn hL (by omega) (by decide) 4 0 rfl rfl d_L_law_924 d_L_law_925 d_L_law_927 d_L_law_928 d_L_law_929 ?_
  refine z_part (f := (fun u9 => (u, u9, o))) (As := [.int (xs (i + 1))]) (rest := [.int rv]) (k9 := 1) C (pt_R D cB cI cH cF cL n u T o) ⟨tw_1334, tw_1335, tw_87, tw_1336, ⟨by decide, by decide, by decide +kernel⟩⟩ tw_1333 (c_M_printed l (bk2 D cB cI cH cF n) (xs (i + 1)) T _ (m_printed hR (xs (i + 1)))) ⟨10, 0, _, TX10, 30, rfl, rfl⟩ ⟨by decide, by decide⟩ rfl rfl (Nat.le_of_ble_eq_true rfl) d_L_law_930 (fun x v hv => ?_)
  obtain ⟨rw9, rfl, hv⟩ := hv
  exact z_icmp_eq (tgt := 975) C d_L_law_933 rfl (fun _ => z_wid (N _ u v o j hu.1 hv.1 hI hJ (by omega))) (fun c9 => absurd (hu.2.trans hv.2.symm) c9)
theorem q_print {p : Program} {l : Launch} {e : Env} {R : Room} {s : State} {m : MethodId} {below : List Frame} {meth : Method} {c : Code} {Q : State → Prop} (hst : l.stackTraces = false) {b L : Nat} {xs : Nat → Int32} {D : va_G} {cB cI cH cF cL : ClassId} {n i kk nn : Nat} (C : zC (p, l, e, R, s, m, (#[Value.ref b] : Array Value), below, meth, c, 7, Q, kk, nn) (wL D cB cI cH cF cL n) code "HostBenchLaw" 11 414) (C1 : zC (p, l, e, R, s, m, (#[Value.ref b] : Array Value), below, meth, c, 7, Q, kk + 1, nn + 6) (wL D cB cI cH cF cL n) code "HostBenchLaw" 11 414) (hr : kk + 1 ≤ R.cells ∧ nn + 6 ≤ R.slots) (hX : va_X b L xs s s.heap) (hbl : b < s.heap.size) (hbn : ¬ n ≤ b) (hi : i + 6 ≤ L) (hL : L ≤ 3072) (hnc : ncs s) {A : zA} {S T : zS} {o : Int64} {j : Nat} (hC : RC A S) (hR : RR A T) (hI : AI A) (hJ : gJ A.1 = lN j) (hj : j + 5000 < 2 ^ 31) (N : ∀ (A' : zA) (S' T' : zS) (o' : Int64) (j' : Nat), RC A' S' → RR A' T' → AI A' → gJ A'.1 = lN j' → j' ≤ j + 5000 → zV (p, l, e, R, s, m, (#[Value.ref b] : Array Value), below, meth, c, 7, Q, kk + 1, nn + 6) (wL D cB cI cH cF cL n) (S', T', o') 975 [(4, .int (nI i)), (3, .ref (n + 116)), (2, .ref (ad (bk2 D cB cI cH cF n) 0)), (1, .ref (ad (bk1 D cB cI cH cF n) 0)), (0, .ref b)] []) : zV (p, l, e, R, s, m, (#[Value.ref b] : Array Value), below, meth, c, 7, Q, kk, nn) (wL D cB cI cH cF cL n) (S, T, o) 938 [(4, .int (nI i)), (3, .ref (n + 116)), (2, .ref (ad (bk2 D cB cI cH cF n) 0)), (1, .ref (ad (bk1 D cB cI cH cF n) 0)), (0, .ref b)] [] := by
  refine z_aload_n C 3 rfl rfl d_L_law_938 ?_
  refine z_arg (b := b) (L := L) (xs := xs) (k9 := 1) C hX hbl hbn hL (by omega) (by decide) 4 0 rfl rfl d_L_law_939 d_L_law_940 d_L_law_942 d_L_law_943 d_L_law_944 ?_
  refine z_arg (b := b) (L := L) (xs := xs) (k9 := 2) C hX hbl hbn hL (by omega) (by decide) 4 0 rfl rfl d_L_law_945 d_L_law_946 d_L_law_948 d_L_law_949 d_L_law_950 ?_
  refine z_part (f := (fun u9 => (u9, T, o))) (As := [.int (xs (i + 1)), .int (xs (i + 2))]) (rest := []) (k9 := 2) C (pt_C D cB cI cH cF cL n S T o) ⟨tw_431, tw_432, tw_76, tw_433, ⟨by decide, by decide, by decide +kernel⟩⟩ tw_430 (c_HB_print l (bk1 D cB cI cH cF n) (xs (i + 1)) (xs (i + 2)) S _ (k_print hC (xs (i + 1)) (xs (i + 2)))) ⟨9, 0, _, TX9, 8, rfl, rfl⟩ ⟨by decide, by decide⟩ rfl rfl (Nat.le_of_ble_eq_true rfl) d_L_law_951 (fun x u hu => ?_)
  obtain ⟨rv, rfl, hu⟩ := hu
  refine z_aload_n C 2 rfl rfl d_L_law_954 ?_
  refine z_arg (b := b) (L := L) (xs := xs) (k9 := 1) C hX hbl hbn hL (by omega) (by decide) 4 0 rfl rfl d_L_law_955 d_L_law_956 d_L_law_958 d_L_law_959 d_L_law_960 ?_
  refine z_arg (b := b) (L := L) (xs := xs) (k9 := 2) C hX hbl hbn hL (by omega) (by decide) 4 0 rfl rfl d_L_law_961 d_L_law_962 d_L_law_964 d_L_law_965 d_L_law_966 ?_
  refine z_part (f := (fun u9 => (u, u9, o))) (As := [.int (xs (i + 1)), .int (xs (i + 2))]) (rest := [.int rv]) (k9 := 2) C (pt_R D cB cI cH cF cL n u T o) ⟨tw_1338, tw_1339, tw_87, tw_1340, ⟨by decide, by decide, by decide +kernel⟩⟩ tw_1337 (c_M_print l (bk2 D cB cI cH cF n) (xs (i + 1)) (xs (i + 2)) T _ (m_print hR (xs (i + 1)) (xs (i + 2)))) ⟨10, 0, _, TX10, 30, rfl, rfl⟩ ⟨by decide, by decide⟩ rfl rfl (Nat.le_of_ble_eq_true rfl) d_L_law_967 (fun x v hv => ?_)
  obtain ⟨rw9, rfl, hv⟩ := hv
  exact z_icmp_eq (tgt := 975) C d_L_law_970 rfl (fun _ => z_wid (N _ u v o j hu.1 hv.1 hI hJ (by omega))) (fun c9 => absurd (hu.2.trans hv.2.symm) c9)
