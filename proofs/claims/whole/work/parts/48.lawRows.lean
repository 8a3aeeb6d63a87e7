/-! a call into a part of the world -/
theorem zO.sub {σ τ : Type} {w : zW σ} {v : zW τ} {U : State} (O : zO w U) (hK : va_K v.2.1 vwCl v.2.2.1 U) (hD : ∀ S, va_D v.2.2.2 (v.1 S)) (hA : ∀ q, v.2.2.2 q → w.2.2.2 q) : zO v U := by
  obtain ⟨h1, h2, h3, h4, h7, h5, ⟨z1, z2⟩, ⟨z3, z4⟩, t, z5, z6, z7, z8⟩ := O
  exact ⟨hK, h2, hD, h4, h7, h5, ⟨va_Zq.narrow z1 hA, vx_L.narrow z2 hA⟩, ⟨va_Zq.narrow z3 hA, vx_L.narrow z4 hA⟩, t, va_Z.narrow z5 hA, z6, z7, fun z => z8 (hA t z)⟩
/-- v is a part of w: where w's state is S, v's is S'; a change of v to u makes w's f u -/
def zPt {σ τ : Type} (w : zW σ) (v : zW τ) (S : σ) (S' : τ) (f : τ → σ) : Prop := (∀ U, zO w U → zO v U) ∧ (∀ q, v.2.2.2 q → w.2.2.2 q) ∧ (∀ H, va_P w.2.1 vwCl (w.1 S) H → va_P v.2.1 vwCl (v.1 S') H) ∧ ∀ (u : τ) (H H1 : Heap), va_P w.2.1 vwCl (w.1 S) H → va_P v.2.1 vwCl (v.1 u) H1 → (∀ q : Nat, q < H.size → ¬ v.2.2.2 q → H1[q]? = H[q]?) → va_P w.2.1 vwCl (w.1 (f u)) H1
theorem z_part {σ τ : Type} {E : zE} {w : zW σ} {v : zW τ} {cc : ByteArray} {own : String} {fr lo : Nat} {S : σ} {S' : τ} {f : τ → σ} {pc pc' : Nat} {L : List (Nat × Value)} {st : List Value} {y : MethodName} {bytes : ByteArray} {n idx fr' lo' k9 : Nat} {ret : Option FieldType} {b : Nat} {As rest : List Value} {P : Option Value → τ → Prop} (C : zC E w cc own fr lo) (pt : zPt w v S S' f) (q : zQw y bytes n ret k9) (hl : Cond.methodLink own idx y ∈ tT) (hM : Met E.2.1 y (Cond.code y bytes n ret :: tT) (zRm fr' lo') (zPc v (.ref b :: As) S') (zQ v P) 0 0 v.2.2.2) (hrc : zRc v S' y.cls b) (hR : fr' + 1 ≤ fr ∧ 8 + (n + 11) + lo' ≤ lo) (hAs : As.length = k9) (hst : As.reverse ++ .ref b :: rest = st) (hsz : (rest.map fun v => v.category).sum ≤ 8) (d : zD cc pc (.invokevirtual idx) 3 pc')
    (k : ∀ (x : Option Value) (u : τ), P x u → zV E w (f u) pc' L (x.toList ++ rest)) : zV E w S pc L st := by
  obtain ⟨p, l, e, R, s, m, args, below, meth, c, nL, Q, kk9, nn9⟩ := E
  obtain ⟨d, rfl⟩ := d
  obtain ⟨hx, hb, hml, hown, hts, hO, hfr, hlo, hlk, hkk9, hnn9⟩ := C
  obtain ⟨q1, q2, q3, q4, q5⟩ := q
  obtain ⟨ci, q0, fs, T, N, hc, he⟩ := hrc
  obtain ⟨pO, pA, pD, pU⟩ := pt
  subst hst
  intro H locs ls h1 h2 h3
  have hG : GoodIn tT (wsV own idx y.cls y (Cond.code y bytes n ret :: tT)) := fun w hw => by
    unfold wsV at hw
    rcases List.mem_append.mp hw with hw | hw
    · rcases List.mem_cons.mp hw with rfl | hw
      · exact ⟨hl, good_of_word (tT_in hl).2⟩
      rcases List.mem_cons.mp hw with rfl | hw
      · exact ⟨q1, good_of_word (tT_in q1).2⟩
      rcases List.mem_cons.mp hw with rfl | hw
      · exact ⟨q2, good_of_word (tT_in q2).2⟩
      rcases List.mem_cons.mp hw with rfl | hw
      · exact ⟨q3, good_of_word (tT_in q3).2⟩
      · cases hw
    · exact z_good q4 w hw
  have run := va_runV (l := l) (e := e) (R := R) (below := below) (meth := meth) (locs := locs) (cells := kk9) (slots := nn9) (g := F0 m pc ls (As.reverse ++ .ref b :: rest)) (Ts := tT) (C := y.cls) (As := As) (rest := rest) (n := k9) ⟨hx, hb, hml, hown, hts⟩ hM (cwV k9 hts hG rfl rfl rfl ⟨rfl, q5⟩ ⟨Nat.le_trans hR.1 hfr, Nat.le_trans hR.2 hlo⟩) ⟨zPc_blind v _ S', va_recv (pO s hO).1 (pD H h1) hc he, fun U hU hW => ⟨rfl, pO U (hO.warm hW (by rw [hU]; exact h2)), by rw [hU]; exact pD H h1⟩⟩ rfl hAs h3.1 rfl (lv_room hsz) d ⟨hkk9, hnn9⟩
  intro T9 hT X
  obtain ⟨r, st₀, t, T', Lc, g0, X', hL, e1, e2, ⟨⟨r', u, hv, hp, hb9⟩, hz, hk⟩, stp⟩ := run T9 hT X
  cases hv
  rw [g0] at hz hk
  obtain ⟨t2, a1, b1⟩ := k r u hp T'.heap (locs ++ Lc) ls (by rw [e1]; exact pU u H t.heap h1 hb9 hk)
    ⟨Nat.le_trans h2.1 (by rw [e1]; exact hz), fun q g1 g2 => by rw [e1, hk q (Nat.lt_of_lt_of_le g1 h2.1) (fun z => g2 (pA q z))]; exact h2.2.1 q g1 g2, fun q hq => by
      rcases List.mem_append.mp hq with z | z
      · exact h2.2.2 q z
      · exact pA _ (hL q z)⟩ h3 T' rfl X'
  exact ⟨t2, stp t2 a1, b1⟩
theorem z_partX {σ τ : Type} {p : Program} {l : Launch} {e : Env} {R : Room} {s : State} {m : MethodId} {args : Array Value} {below : List Frame} {meth : Method} {c : Code} {nL : Nat} {Q : State → Prop} {kk9 nn9 : Nat} {w : zW σ} {v : zW τ} {cc : ByteArray} {own : String} {fr lo : Nat} {S : σ} {S' : τ} {f : τ → σ} {pc pc' : Nat} {L : List (Nat × Value)} {st : List Value} {y : MethodName} {bytes : ByteArray} {n idx fr' lo' k9 : Nat} {ret : Option FieldType} {b : Nat} {As rest : List Value} {P : Option Value → τ → Prop} {X : String → τ → Prop} (C : zC (p, l, e, R, s, m, args, below, meth, c, nL, Q, kk9, nn9) w cc own fr lo) (hr1 : kk9 + 1 ≤ R.cells) (hr2 : nn9 + 6 ≤ R.slots) (pt : zPt w v S S' f) (q : zQw y bytes n ret k9) (hl : Cond.methodLink own idx y ∈ tT) (hM : vx_Met l y (Cond.code y bytes n ret :: tT) (zRmX fr' lo') (zPc v (.ref b :: As) S') (zQ v P) (zXc v X) 1 6 v.2.2.2) (hrc : zRc v S' y.cls b) (hR : fr' + 1 ≤ fr ∧ 8 + (n + 11) + lo' ≤ lo) (hAs : As.length = k9) (hst : As.reverse ++ .ref b :: rest = st) (hsz : (rest.map fun v => v.category).sum ≤ 8) (d : zD cc pc (.invokevirtual idx) 3 pc')
    (kx : ∀ (Ec : String) (u : τ) (H1 : Heap) (locs1 : List Loc) (ls : Array Slot) (q9 : Addr) (ce : Cell), X Ec u → va_P w.2.1 vwCl (w.1 (f u)) H1 → va_S w.2.2.2 s.heap H1 locs1 → lv_has ls nL L → H1[q9]? = some ce → ce.vm = .none → s.vm.findClass Ec = some ce.cls → vx_W p l e R s m args below meth c H1 locs1 (kk9 + 1) (nn9 + 6) Q (F0 m pc ls rest) q9)
    (k : ∀ (x : Option Value) (u : τ), P x u → zV (p, l, e, R, s, m, args, below, meth, c, nL, Q, kk9 + 1, nn9 + 6) w (f u) pc' L (x.toList ++ rest)) : zV (p, l, e, R, s, m, args, below, meth, c, nL, Q, kk9, nn9) w S pc L st := by
  obtain ⟨d, rfl⟩ := d
  obtain ⟨hx, hb, hml, hown, hts, hO, hfr, hlo, hlk, hkk9, hnn9⟩ := C
  obtain ⟨q1, q2, q3, q4, q5⟩ := q
  obtain ⟨ci, q0, fs, T, N, hc, he⟩ := hrc
  obtain ⟨pO, pA, pD, pU⟩ := pt
  subst hst
  intro H locs ls h1 h2 h3
  have hG : GoodIn tT (wsV own idx y.cls y (Cond.code y bytes n ret :: tT)) := fun w hw => by
    unfold wsV at hw
    rcases List.mem_append.mp hw with hw | hw
    · rcases List.mem_cons.mp hw with rfl | hw
      · exact ⟨hl, good_of_word (tT_in hl).2⟩
      rcases List.mem_cons.mp hw with rfl | hw
      · exact ⟨q1, good_of_word (tT_in q1).2⟩
      rcases List.mem_cons.mp hw with rfl | hw
      · exact ⟨q2, good_of_word (tT_in q2).2⟩
      rcases List.mem_cons.mp hw with rfl | hw
      · exact ⟨q3, good_of_word (tT_in q3).2⟩
      · cases hw
    · exact z_good q4 w hw
  have run := vx_runV (p := p) (l := l) (e := e) (R := R) (below := below) (meth := meth) (locs := locs) (cells := kk9) (slots := nn9) (g := F0 m pc ls (As.reverse ++ .ref b :: rest)) (Ts := tT) (C := y.cls) (As := As) (rest := rest) (n := k9) ⟨hx, hb, hml, hown, hts⟩ hM (cwV k9 hts hG rfl rfl rfl ⟨rfl, q5⟩ ⟨Nat.le_trans hR.1 hfr, Nat.le_trans hR.2 hlo⟩) ⟨zPc_blind v _ S', va_recv (pO s hO).1 (pD H h1) hc he, fun U hU hW => ⟨rfl, pO U (hO.warm hW (by rw [hU]; exact h2)), by rw [hU]; exact pD H h1⟩⟩ rfl hAs h3.1 rfl (lv_room hsz) d ⟨hr1, hr2⟩
  intro T9 hT X9
  have frame : ∀ (t T' : State) (Lc : List Loc), T'.heap = t.heap → H.size ≤ t.heap.size → (∀ q : Nat, q < H.size → ¬ v.2.2.2 q → t.heap[q]? = H[q]?) → (∀ q ∈ Lc, v.2.2.2 q.base) → va_S w.2.2.2 s.heap T'.heap (locs ++ Lc) := fun t T' Lc e1 hz hk hL =>
    ⟨Nat.le_trans h2.1 (by rw [e1]; exact hz), fun q g1 g2 => by rw [e1, hk q (Nat.lt_of_lt_of_le g1 h2.1) (fun z => g2 (pA q z))]; exact h2.2.1 q g1 g2, fun q hq => by
      rcases List.mem_append.mp hq with z | z
      · exact h2.2.2 q z
      · exact pA _ (hL q z)⟩
  rcases run T9 hT X9 with ⟨r, st₀, t, T', Lc, g0, X', hL, e1, e2, ⟨⟨r', u, hv, hp, hb9⟩, hz, hk⟩, stp⟩ | ⟨q9, st₀, t, T', Lc, Ec, ce, g0, X', hL, e1, e2, ⟨u, -, ⟨hX, hb9⟩, hz, hk⟩, hce, hcv, hcl, stp⟩
  · cases hv
    rw [g0] at hz hk
    obtain ⟨t2, a1, b1⟩ := k r u hp T'.heap (locs ++ Lc) ls (by rw [e1]; exact pU u H t.heap h1 hb9 hk) (frame t T' Lc e1 hz hk hL) h3 T' rfl X'
    exact ⟨t2, stp t2 a1, b1⟩
  · rw [g0] at hz hk
    obtain ⟨t2, a1, b1⟩ := kx Ec u T'.heap (locs ++ Lc) ls q9 ce hX (by rw [e1]; exact pU u H t.heap h1 hb9 hk) (frame t T' Lc e1 hz hk hL) h3 (by rw [e1]; exact hce) hcv hcl T' rfl X'
    exact ⟨t2, stp.trans a1, b1⟩
/-! the law's world -/
abbrev sL : Type := zS × zS × Int64
def oC (cL : ClassId) (a : Nat) (o : Int64) : Nat × va_E := (a, .inl (cL, 1, .inr (.inl (fun j => if j = 0 then o else 0))))
def wL (D : va_G) (cB cI cH cF cL : ClassId) (n : Nat) : zW sL := (fun U => clL (bk1 D cB cI cH cF n) U.1 ++ (rlL (bk2 D cB cI cH cF n) U.2.1 ++ [oC cL (n + 116) U.2.2]), D, [(cB, .byte), (cI, .int), (cH, .object "HostBench$Handle"), (cF, .object "HostBench$HostFile"), (cL, .long)], fun q => n ≤ q)
theorem pi1_lt {i : Nat} (h : i < 99) : pi1 i < 99 := by
  unfold pi1
  rw [if_pos h]; exact pi_lt i h
theorem wL_D (D : va_G) (cB cI cH cF cL : ClassId) (n : Nat) (U : sL) : va_D (wL D cB cI cH cF cL n).2.2.2 ((wL D cB cI cH cF cL n).1 U) := by
  have dC := wC_D (bk1 D cB cI cH cF n) U.1
  have dR := wR_D (bk2 D cB cI cH cF n) U.2.1
  have aC : ∀ (k : Nat) (q : Nat × va_E), (clL (bk1 D cB cI cH cF n) U.1)[k]? = some q → n ≤ q.1 ∧ q.1 < n + 99 := fun k q hq => by
    obtain ⟨i, hi, e⟩ := dC.2 k q hq
    have e : q.1 = n + pi1 i := e
    have := pi1_lt hi
    omega
  have aR : ∀ (k : Nat) (q : Nat × va_E), (rlL (bk2 D cB cI cH cF n) U.2.1)[k]? = some q → n + 99 ≤ q.1 ∧ q.1 < n + 116 := fun k q hq => by
    obtain ⟨i, hi, e⟩ := dR.2 k q hq
    have e : q.1 = n + (99 + i) := e
    omega
  have aO : ∀ (k : Nat) (q : Nat × va_E), [oC cL (n + 116) U.2.2][k]? = some q → q.1 = n + 116 := fun k q hq => by
    have hz : k < 1 := (List.getElem?_eq_some_iff.mp hq).1
    obtain rfl : k = 0 := by omega
    cases hq; rfl
  refine va_D.app (dC.weaken (fun k q hq _ => (aC k q hq).1)) (va_D.app (dR.weaken (fun k q hq _ => ?_)) ⟨fun i j p q hi hj _ => ?_, fun k q hq => ?_⟩ (fun i j p q hi hj e => ?_)) (fun i j p q hi hj e => ?_)
  · show n ≤ q.1
    have := aR k q hq
    omega
  · have h1 : i < 1 := (List.getElem?_eq_some_iff.mp hi).1
    have h2 : j < 1 := (List.getElem?_eq_some_iff.mp hj).1
    omega
  · show n ≤ q.1
    rw [aO k q hq]; omega
  · have := aR i p hi
    have := aO j q hj
    omega
  · have a1 := aC i p hi
    rcases Nat.lt_or_ge j (rlL (bk2 D cB cI cH cF n) U.2.1).length with z | z
    · rw [List.getElem?_append_left z] at hj
      have := aR j q hj
      omega
    · rw [List.getElem?_append_right z] at hj
      have := aO _ q hj
      omega
theorem pt_C (D : va_G) (cB cI cH cF cL : ClassId) (n : Nat) (S T : zS) (o : Int64) : zPt (wL D cB cI cH cF cL n) (wC (bk1 D cB cI cH cF n)) (S, T, o) S (fun u => (u, T, o)) := by
  have hA : ∀ q, (wC (bk1 D cB cI cH cF n)).2.2.2 q → n ≤ q := by
    rintro q ⟨i, -, e⟩
    have e : q = n + pi1 i := e
    omega
  refine ⟨fun U O => O.sub (O.1.sub [0, 1, 2, 3] rfl) (wC_D _) hA, hA, fun H h => h.l, fun u H H1 h hu hk => va_P.app hu (fun k q hq => ?_)⟩
  have hq1 := h.r k q hq
  refine hq1.kept (hk q.1 hq1.lt ?_)
  rintro ⟨i, hi, e⟩
  have e : q.1 = n + pi1 i := e
  have hp := pi1_lt hi
  rcases Nat.lt_or_ge k (rlL (bk2 D cB cI cH cF n) T).length with z | z
  · rw [List.getElem?_append_left z] at hq
    obtain ⟨j, hj, e2⟩ := (wR_D (bk2 D cB cI cH cF n) T).2 k q hq
    have e2 : q.1 = n + (99 + j) := e2
    omega
  · rw [List.getElem?_append_right z] at hq
    have hz : k - (rlL (bk2 D cB cI cH cF n) T).length < 1 := (List.getElem?_eq_some_iff.mp hq).1
    rw [show k - (rlL (bk2 D cB cI cH cF n) T).length = 0 by omega] at hq
    have hq : some (oC cL (n + 116) o) = some q := hq
    have e2 : n + 116 = q.1 := congrArg Prod.fst (Option.some.inj hq)
    omega
theorem pt_R (D : va_G) (cB cI cH cF cL : ClassId) (n : Nat) (S T : zS) (o : Int64) : zPt (wL D cB cI cH cF cL n) (wR (bk2 D cB cI cH cF n)) (S, T, o) T (fun u => (S, u, o)) := by
  have hA : ∀ q, (wR (bk2 D cB cI cH cF n)).2.2.2 q → n ≤ q := by
    rintro q ⟨i, -, e⟩
    have e : q = n + (99 + i) := e
    omega
  refine ⟨fun U O => O.sub (O.1.sub [0, 1, 2, 3] rfl) (wR_D _) hA, hA, fun H h => h.r.l, fun u H H1 h hu hk => va_P.app (fun k q hq => ?_) (va_P.app hu (fun k q hq => ?_))⟩
  · have hq1 := h.l k q hq
    refine hq1.kept (hk q.1 hq1.lt ?_)
    rintro ⟨i, hi, e⟩
    have e : q.1 = n + (99 + i) := e
    obtain ⟨j, hj, e2⟩ := (wC_D (bk1 D cB cI cH cF n) S).2 k q hq
    have e2 : q.1 = n + pi1 j := e2
    have := pi1_lt hj
    omega
  · have hq1 := h.r.r k q hq
    refine hq1.kept (hk q.1 hq1.lt ?_)
    rintro ⟨i, hi, e⟩
    have e : q.1 = n + (99 + i) := e
    have hz : k < 1 := (List.getElem?_eq_some_iff.mp hq).1
    obtain rfl : k = 0 := by omega
    have hq : some (oC cL (n + 116) o) = some q := hq
    have e2 : n + 116 = q.1 := congrArg Prod.fst (Option.some.inj hq)
    omega
theorem at_out (D : va_G) (cB cI cH cF cL : ClassId) (n : Nat) (U : sL) : ((wL D cB cI cH cF cL n).1 U)[116]? = some (oC cL (n + 116) U.2.2) := by
  have h1 : (clL (bk1 D cB cI cH cF n) U.1).length = 99 := by
    have := congrArg List.length (clL_map (bk1 D cB cI cH cF n) U.1)
    simpa using this
  have h2 : (rlL (bk2 D cB cI cH cF n) U.2.1).length = 17 := rfl
  show (clL (bk1 D cB cI cH cF n) U.1 ++ (rlL (bk2 D cB cI cH cF n) U.2.1 ++ [oC cL (n + 116) U.2.2]))[116]? = _
  rw [List.getElem?_append_right (by omega), List.getElem?_append_right (by omega), h1, h2]
  rfl
theorem set_out (D : va_G) (cB cI cH cF cL : ClassId) (n : Nat) (S T : zS) (o v : Int64) : ((wL D cB cI cH cF cL n).1 (S, T, o)).set 116 (oC cL (n + 116) v) = (wL D cB cI cH cF cL n).1 (S, T, v) := by
  have h1 : (clL (bk1 D cB cI cH cF n) S).length = 99 := by
    have := congrArg List.length (clL_map (bk1 D cB cI cH cF n) S)
    simpa using this
  have h2 : (rlL (bk2 D cB cI cH cF n) T).length = 17 := rfl
  show (clL (bk1 D cB cI cH cF n) S ++ (rlL (bk2 D cB cI cH cF n) T ++ [oC cL (n + 116) o])).set 116 _ = _
  rw [List.set_append_right _ _ (by omega), List.set_append_right _ _ (by omega), h1, h2]
  rfl
theorem z_last {E : zE} {D : va_G} {cB cI cH cF cL : ClassId} {n : Nat} {cc : ByteArray} {own : String} {fr lo : Nat} {S T : zS} {o v : Int64} {pc pc' : Nat} {L : List (Nat × Value)} {st : List Value} (C : zC E (wL D cB cI cH cF cL n) cc own fr lo) (d : zD cc pc .lastore 1 pc') (k : zV E (wL D cB cI cH cF cL n) (S, T, v) pc' L st) : zV E (wL D cB cI cH cF cL n) (S, T, o) pc L (.long v :: .int 0 :: .ref (n + 116) :: st) := by
  obtain ⟨p, l, e, R, s, m, args, below, meth, c, nL, Q, kk9, nn9⟩ := E
  obtain ⟨d, rfl⟩ := d
  obtain ⟨hx, hb, hml, hown, hts, hO, hfr, hlo, hlk, hkk9, hnn9⟩ := C
  intro H locs ls h1 h2 h3
  refine va_last hx hb hO.1 h1 (hO.2.2.1 _) h2 116 4 (at_out D cB cI cH cF cL n (S, T, o)) rfl (vp_in_nI (n := 0) (by decide) (by decide)) d (fun H1 locs1 p1 p2 p3 => k H1 locs1 ls ?_ p3 h3)
  have e9 : vp_updL (fun j => if j = 0 then o else 0) (0 : Int32).toNatClampNeg v = fun j => if j = 0 then v else 0 := by
    funext j
    show (if j = 0 then v else if j = 0 then o else 0) = if j = 0 then v else 0
    by_cases z : j = 0
    · rw [if_pos z, if_pos z]
    · rw [if_neg z, if_neg z, if_neg z]
  rw [← set_out D cB cI cH cF cL n S T o v]
  unfold oC
  rw [← e9]
  exact p1
theorem z_lald {E : zE} {D : va_G} {cB cI cH cF cL : ClassId} {n : Nat} {cc : ByteArray} {own : String} {fr lo : Nat} {U : sL} {pc pc' : Nat} {L : List (Nat × Value)} {st : List Value} (C : zC E (wL D cB cI cH cF cL n) cc own fr lo) (d : zD cc pc .laload 1 pc') (k : zV E (wL D cB cI cH cF cL n) U pc' L (.long U.2.2 :: st)) : zV E (wL D cB cI cH cF cL n) U pc L (.int 0 :: .ref (n + 116) :: st) := by
  obtain ⟨p, l, e, R, s, m, args, below, meth, c, nL, Q, kk9, nn9⟩ := E
  obtain ⟨d, rfl⟩ := d
  obtain ⟨hx, hb, hml, hown, hts, hO, hfr, hlo, hlk, hkk9, hnn9⟩ := C
  exact fun H locs ls h1 h2 h3 => va_lald hx hb hO.1 h1 116 4 (at_out D cB cI cH cF cL n U) rfl (vp_in_nI (n := 0) (by decide) (by decide)) d (k H locs ls h1 h2 h3)
