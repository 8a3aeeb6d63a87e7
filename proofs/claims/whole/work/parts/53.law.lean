/-! THE CLAIM OUT OF ONE WALK OF THE LAW'S BODY. Your part is whole_start (and what it stands on); all else here is the same for every law, but numbers. -/
def R_law : String := "HostBenchLaw"
def lw_P (b : Addr) (xs : List Int32) (args : Array Value) (s : State) : Prop := args = #[.ref b] ∧ s.IntsAt b xs ∧ xs.length ≤ 3072 ∧ (Jvm.Cond.and given_1 narrow_1).before args s = true
def lw_Q (_ : Array Value) (s : State) (o : Outcome) (t : State) : Prop := o = .returned (some (.int 1)) ∧ Framed s o t [] 601024 7293034
def lw_Z (below : List Frame) (a : Array Value) (s : State) : State → Prop := fun t => ∃ o, t.status = .running ∧ Ended t below o ∧ lw_Q a s o t
/-- the law's own end, with 1 on the stack, nothing written that was there before, its room as the claim has it -/
theorem lw_ret {p : Program} {l : Launch} {e : Env} {s : State} {m : MethodId} {below : List Frame} {meth : Method} {c : Code} {b : Nat} (hx : p.tables.exec = Jvm.exec) (hb : c.code = code) (hr : meth.sig.returnType = ret) (hlocks : meth.locks = false) {pc : Nat} {H : Heap} {ls : Array Slot} (hdg : decode code pc = .ok (.ireturn, 1)) : W p l e room_1 s m #[Value.ref b] below meth c H [] 601024 7293034 (lw_Z below #[Value.ref b] s) (F0 m pc ls [.int 1]) := by
  intro T hT X
  obtain ⟨fs, hret, hrun, hended, hW, hframe⟩ := X.leave (v := some (.int 1)) (hlocks := hlocks) (fun h => by rw [hr] at h; cases h)
  have hmeth' : T.vm.method? m = some meth := X.method'
  refine ⟨T.setFrames fs, ?_, .returned (some (.int 1)), hrun, hended, rfl, ⟨_, rfl⟩, hW, hframe⟩
  jvm_step X.here [X.here.top, hx, hb, hdg, hmeth', hr, ret, narrow_b1]
  (try refine ⟨rfl, ?_⟩); (try refine ⟨rfl, ?_⟩)
  first | (intro acts; rw [hret _ acts rfl rfl rfl]) | rw [hret _ _ rfl rfl rfl]
  exact Steps.refl _
/-- what holds at the law's entry: the machine, the code, the tables' words (any of lw_tbl by 'hts w (by decide +kernel)'), the script of L ints xs at the cell b, what the Statement gives of the start (any of its parts by flat_of_before) -/
def lw_At (p : Program) (s : State) (m : MethodId) (meth : Method) (c : Code) (b L : Nat) (xs : Nat → Int32) : Prop :=
  p.tables.exec = Jvm.exec ∧ c.code = code ∧ meth.sig.returnType = ret ∧ c.maxLocals = 7 ∧ s.vm.findClass R_law = some m.cls ∧ (∀ w ∈ lw_tbl, w.before #[Value.ref b] s = true) ∧ va_X b L xs s s.heap ∧ b < s.heap.size ∧ meth.locks = false ∧ (Jvm.Cond.and given_1 narrow_1).before #[Value.ref b] s = true
theorem z_gs {E : zE} {D : va_G} {tys : List (ClassId × FieldType)} {h : Nat} {ws : va_W} {hs : seqW h ws} {pc : Nat} {L : List (Nat × Value)} {st : List Value} (k : ∀ (w9 : va_W) (hs9 : seqW h w9), w9 = ws → zV E (gw D tys h) ⟨w9, hs9⟩ pc L st) : zV E (gw D tys h) ⟨ws, hs⟩ pc L st := k ws hs rfl
theorem oC0 (cL : ClassId) (a : Nat) : oC cL a 0 = (a, .inl (cL, 1, .inr (.inl (fun _ => 0)))) := by
  unfold oC
  have e : (fun j : Nat => if j = 0 then (0 : Int64) else 0) = fun _ => 0 := by
    funext j
    split <;> rfl
  rw [e]
set_option maxRecDepth 8000 in
/-- from the entry, for every script of at most 3072 ints, the law comes to its end with true -/
theorem whole_start {p : Program} {e : Env} {s : State} {m : MethodId} {below : List Frame} {meth : Method} {c : Code} (l : Launch) (hst : l.stackTraces = false) {b L : Nat} {xs : Nat → Int32} (hL : L ≤ 3072) (C0 : lw_At p s m meth c b L xs) : W p l e room_1 s m #[Value.ref b] below meth c s.heap [] 0 0 (lw_Z below #[Value.ref b] s) (entryFrame m ([Value.ref b] : List Value).toArray 7) := by
  obtain ⟨hx, hb, hr, hml, hown, hts, hX, hbl, hlocks, hgv⟩ := id C0
  obtain ⟨D, cB, cI, cH, cF, cL, hO, o1, o2, hnc⟩ := e_world hts hgv
  have ht2 : ∀ w ∈ tT, w.before #[Value.ref b] s = true := fun w hw => hts w (tT_in hw).1
  have hbn : ¬ s.heap.size ≤ b := Nat.not_le.mpr hbl
  have hOL : zO (wL D cB cI cH cF cL s.heap.size) s := ⟨hO.1, hO.2.1, wL_D D cB cI cH cF cL s.heap.size, hO.2.2.2⟩
  have CC : ∀ kk nn, kk ≤ room_1.cells → nn ≤ room_1.slots → zC (p, l, e, room_1, s, m, (#[Value.ref b] : Array Value), below, meth, c, 7, lw_Z below #[Value.ref b] s, kk, nn) (wL D cB cI cH cF cL s.heap.size) code "HostBenchLaw" 11 414 := fun kk nn h1 h2 => ⟨hx, hb, hml, hown, ht2, hOL, Nat.le_refl _, Nat.le_refl _, hlocks, h1, h2⟩
  have G : gG (p, l, e, room_1, s, m, (#[Value.ref b] : Array Value), below, meth, c, 7, lw_Z below #[Value.ref b] s, 0, 0) D [(cB, .byte), (cI, .int), (cH, .object "HostBench$Handle"), (cF, .object "HostBench$HostFile"), (cL, .long)] s.heap.size code "HostBenchLaw" 11 414 0 601024 7293034 0 0 := ⟨⟨hx, hb, hml, hown, ht2, hO, Nat.le_refl _, Nat.le_refl _, hlocks, Nat.zero_le _, Nat.zero_le _⟩, o1, o2, rfl, rfl, rfl, rfl, rfl⟩
  have hl := lv_entry ([.ref b]) (n := 7) (Nat.le_of_ble_eq_true rfl)
  rw [lg_entry_eq]
  generalize (lg_sl ([.ref b]) ++ List.replicate (7 - (lg_sl ([.ref b])).length) Slot.unset).toArray = ls at hl ⊢
  suffices K : zV (p, l, e, room_1, s, m, (#[Value.ref b] : Array Value), below, meth, c, 7, lw_Z below #[Value.ref b] s, 0, 0) (gw D [(cB, .byte), (cI, .int), (cH, .object "HostBench$Handle"), (cF, .object "HostBench$HostFile"), (cL, .long)] s.heap.size) (⟨[], seqW.nil s.heap.size⟩ : gs s.heap.size) 0 [(0, .ref b)] [] from K s.heap [] ls (fun k q hq => by cases hq) va_S.rf hl
  have hlast := lp_loop (Q := lw_Z below #[Value.ref b] s) hst CC (Nat.le_of_ble_eq_true rfl) (Nat.le_of_ble_eq_true rfl) hX hbl hbn hL hnc (fun kk nn i U h1 h2 => z_iconst (v := 1) (CC kk nn (Nat.le_trans h1 (Nat.le_of_ble_eq_true rfl)) (Nat.le_trans h2 (Nat.le_of_ble_eq_true rfl))) (by decide) d_L_law_981 (fun H locs ls g1 g2 g3 => W.widen (k := 601024) (n := 7293034) (by omega) (by omega) (va_forget g2.2.2 (lw_ret hx hb hr hlocks d_L_law_982.1)))) L 0 0 117 94957 A0 S0 S0 0 0 (by omega) (Nat.zero_le _) rfl rfl rfl RC0 RR0 AI0 rfl (Nat.zero_le _)
  clear CC hOL hX hnc C0
  generalize s.heap.size = n at *
  refine g_new (ci := 9) (fs := [.null, .null, .null, .null, .null, .null, .null, .null]) (ty := tyX9) G rfl (by decide) (by decide) inX9 tyX9_ok tw_96 tw_97 tw_76 rfl (fun j hj => by match j, hj with | 0, _ => rfl | 1, _ => rfl | 2, _ => rfl | 3, _ => rfl | 4, _ => rfl | 5, _ => rfl | 6, _ => rfl | 7, _ => rfl | j + 8, hj => exact absurd hj (by omega)) d_L_law_0 (fun G => ?_)
  refine z_dup G.C rfl d_L_law_3 ?_
  refine g_init (ws := []) (As := []) (rest := [.ref (n + ([] : va_W).length)]) (k9 := 0) G rfl (by decide) (by decide) (c_HB_init l D _ rfl rfl rfl rfl) (s_HB cB cI cH cF) tw_99 tw_76 tw_100 rfl ⟨by decide, by decide, by decide +kernel⟩ tw_98 ⟨by decide, by decide⟩ rfl rfl (Nat.le_of_ble_eq_true rfl) d_L_law_4 (fun G => ?_)
  refine z_gs (fun w1 hs1 e1 => ?_)
  have e1 : w1 = xHB cB cI cH cF n := e1
  subst e1
  refine z_astore_n (nl := 7) (i := 1) (L' := [(1, .ref n), (0, .ref b)]) G.C rfl rfl (by decide) rfl d_L_law_7 ?_
  refine g_new (ci := 10) (fs := [.int 0, .null, .null, .int 0, .int 0, .int 0, .int 0, .long 0, .int 0, .int 0, .null, .null, .null, .null, .int 0, .null, .null, .null, .null, .null, .int 0, .null, .null, .null, .int 0, .null, .int 0, .int 0, .null, .int 0]) (ty := tyX10) G (len_HB cB cI cH cF n).symm (by decide) (by decide) inX10 tyX10_ok tw_978 tw_979 tw_87 rfl (fun j hj => by match j, hj with | 0, _ => rfl | 1, _ => rfl | 2, _ => rfl | 3, _ => rfl | 4, _ => rfl | 5, _ => rfl | 6, _ => rfl | 7, _ => rfl | 8, _ => rfl | 9, _ => rfl | 10, _ => rfl | 11, _ => rfl | 12, _ => rfl | 13, _ => rfl | 14, _ => rfl | 15, _ => rfl | 16, _ => rfl | 17, _ => rfl | 18, _ => rfl | 19, _ => rfl | 20, _ => rfl | 21, _ => rfl | 22, _ => rfl | 23, _ => rfl | 24, _ => rfl | 25, _ => rfl | 26, _ => rfl | 27, _ => rfl | 28, _ => rfl | 29, _ => rfl | j + 30, hj => exact absurd hj (by omega)) d_L_law_8 (fun G => ?_)
  refine z_dup G.C rfl d_L_law_11 ?_
  refine g_init (ws := xHB cB cI cH cF n) (As := []) (rest := [.ref (n + (xHB cB cI cH cF n).length)]) (k9 := 0) G (congrArg (· + 1) (len_HB cB cI cH cF n).symm) (by decide) (by decide) (c_M_init l D _ rfl) (s_M cI) tw_981 tw_87 tw_982 rfl ⟨by decide, by decide, by decide +kernel⟩ tw_980 ⟨by decide, by decide⟩ rfl rfl (Nat.le_of_ble_eq_true rfl) d_L_law_12 (fun G => ?_)
  refine z_gs (fun w1 hs1 e1 => ?_)
  rw [len_HB] at e1 ⊢
  have hlen : w1.length = 116 := by rw [e1, List.length_append, len_HB, len_M]
  refine z_astore_n (nl := 7) (i := 2) (L' := [(2, .ref (n + 99)), (1, .ref n), (0, .ref b)]) G.C rfl rfl (by decide) rfl d_L_law_15 ?_
  refine z_iconst (v := 1) G.C (by decide) d_L_law_16 ?_
  refine g_newa (atype := .long) (N := 1) (a0 := (1, .inr (.inl (fun _ => 0)))) (t0 := 4) (ty := .long) (cB := cL) G hlen.symm (by decide) (by decide) tw_1341 rfl rfl (fun _ => rfl) (by decide) (by decide) (by decide) d_L_law_17 (fun G => ?_)
  refine z_gs (fun w2 hs2 e2 => ?_)
  rw [hlen] at e2 ⊢
  refine z_astore_n (nl := 7) (i := 3) (L' := [(3, .ref (n + 116)), (2, .ref (n + 99)), (1, .ref n), (0, .ref b)]) G.C rfl rfl (by decide) rfl d_L_law_19 ?_
  refine z_iconst (v := nI 0) G.C (by decide) d_L_law_20 ?_
  refine z_istore (nl := 7) (i := 4) (L' := [(4, .int (nI 0)), (3, .ref (n + 116)), (2, .ref (n + 99)), (1, .ref n), (0, .ref b)]) G.C rfl (by decide) rfl d_L_law_21 ?_
  clear G
  intro H locs ls g1 g2 g3
  have g1 : va_P D vwCl w2 H := g1
  rw [e2, e1] at g1
  refine hlast H locs ls ?_ g2 g3
  show va_P D vwCl (clL (bk1 D cB cI cH cF n) S0 ++ (rlL (bk2 D cB cI cH cF n) S0 ++ [oC cL (n + 116) 0])) H
  rw [oC0]
  exact va_P.app (made_C g1.l.l) (va_P.app (made_R g1.l.r) g1.r)
set_option maxHeartbeats 4000000 in
theorem lw_walk (l : Launch) (hst : l.stackTraces = false) (b : Addr) (xs : List Int32) : MetFree l x (headSpec (Jvm.Cond.code x code maxLocals ret :: tables_1) room_1) (lw_P b xs) (fun _ _ _ _ _ => True) lw_Q := by
  refine MetFree.of_bodyS (code := code) (maxLocals := maxLocals) (ret := ret) (by decide) ?_ ?_
  · intro args s m h hn
    obtain ⟨meth, c, h1, h2, h3, h4, h5, h6, -, -⟩ := Cond.code_spec hn (atoms_spec (ws := Jvm.Cond.code x code maxLocals ret :: tables_1) h _ List.mem_cons_self)
    exact ⟨meth, c, h1, h2, h3, h4, h5, h6⟩
  · intro p e s m args below meth c s₁ B hml0 hP _
    obtain ⟨rfl, hx, hbd, hgv⟩ := hP
    obtain ⟨scr, harrAt, hlist, hof, hsmall⟩ := hx
    obtain ⟨hcb, hkn, -, -⟩ := State.arrayAt?_spec harrAt
    have hown : s.vm.findClass R_law = some m.cls := findClass_of_methodNamed B.named
    have hts0 : ∀ c ∈ (Jvm.Cond.code x code maxLocals ret :: tables_1), c.before #[Value.ref b] s = true := atoms_spec (ws := Jvm.Cond.code x code maxLocals ret :: tables_1) B.pre
    have hts : ∀ w ∈ lw_tbl, w.before #[Value.ref b] s = true := k2_hts_sels lw_privs (fun w hw => hts0 w (List.mem_cons_of_mem _ hw)) lw_privs_ok
    have hml : c.maxLocals = 7 := B.maxLocals_eq (hts0 _ List.mem_cons_self)
    have X₀ : Stand p l e room_1 s m #[Value.ref b] below meth c s₁ [] 0 0 := Stand.of_body B
    have hh0 : s₁.heap = s.heap := by rw [B.state]; rfl
    have hsz : scr.slots.size = xs.length := by rw [← Array.length_toList, hlist, List.length_map]
    have hval : ∀ j : Nat, j < xs.length → scr.slots[j]? = some (.int (xs.getD j 0)) := fun j hj => by
      rw [← Array.getElem?_toList, hlist]
      simp [hj]
    have hbl : b < s.heap.size := (Array.getElem?_eq_some_iff.mp hcb).1
    have hX : va_X b xs.length (fun j => xs.getD j 0) s s.heap := ⟨scr, hcb, hof, hkn, hsz, hval⟩
    have K : W p l e room_1 s m #[Value.ref b] below meth c s₁.heap [] 0 0 (lw_Z below #[Value.ref b] s) (entryFrame m ([Value.ref b] : List Value).toArray 7) := by
      rw [hh0]
      exact whole_start l hst hbd ⟨B.exec, B.bytes, B.returns, hml, hown, hts, hX, hbl, B.notSynchronized, hgv⟩
    obtain ⟨t, a1, o, b1, b2, b3⟩ := K s₁ rfl X₀
    exact ⟨t, o, a1, b1, b2, b3⟩
theorem lw_pre_spec {args : Array Value} {s : State} (h : (Jvm.Cond.and given_1 narrow_1).before args s = true) (hr : rest_1_c.before args s = true) : ∃ (b : Addr) (xs : List Int32), lw_P b xs args s := by
  have hs := flat_of_before _ h
  have hq := flat_of_before _ hr
  have hc : (Cond.count 1).before args s = true := hs _ (by decide +kernel)
  have harr : (Cond.arrayOf (.arg 0) .int).before args s = true := hs _ (by decide +kernel)
  have hle : (Cond.le (.length (.arg 0)) (.int 3072)).before args s = true := hs _ (by decide +kernel)
  have hlen : (Cond.isInt (.length (.arg 0))).before args s = true := hq _ (by decide +kernel)
  have hall : (Cond.all (.arg 0) (.isInt (.elem (.arg 0) (.index 0)))).before args s = true := hq _ (by decide +kernel)
  obtain ⟨b, xs, hb, hx⟩ := State.ints_of_pre rfl harr hlen hall
  have hsm : xs.length < 2 ^ 31 := hx.choose_spec.2.2.2
  have hev : (Term.length (.arg 0)).eval args s none [] s = some (.int xs.length.toInt32) := hx.length_eval hb
  have hv := Cond.le_ints hev (show (Term.int 3072).eval args s none [] s = some (.int 3072) from rfl)
  have hd : xs.length.toInt32 ≤ 3072 := by
    simpa [Cond.before, Cond.holds, hv] using hle
  have hN : xs.length ≤ 3072 := (Int32.ofNat_le_ofNat hsm (by decide)).mp (show Int32.ofNat xs.length ≤ Int32.ofNat 3072 from hd)
  exact ⟨b, xs, Cond.one_arg hc (show args[0]? = some (.ref b) from hb), hx, hN, h⟩
theorem lw_comes (l : Launch) (hst : l.stackTraces = false) : Comes l x (Jvm.Cond.code x code maxLocals ret :: tables_1) room_1 (fun tb e args s => Calls_1 tb e args s ∧ rest_1 tb e args s ∧ Pre_1 tb e args s)
    (fun _ _ args s o t => lw_Q args s o t) := by
  intro p e ha hc hk s m args below hf hfit hheap happ hpre
  obtain ⟨b, xs, hP⟩ := lw_pre_spec hpre.2.2 hpre.2.1
  obtain ⟨k, o, h1, h2, h3, hQ⟩ := lw_walk l hst b xs p e ha hc hk s m args below hf ((Spec.applies_iff_loose hf).mp happ).1 hP trivial
  exact ⟨k, o, h1, h2, h3, hQ⟩
theorem lw_frame {s t : State} {o : Outcome} {args : Array Value} (h : Framed s o t [] 601024 7293034) :
    Framed s o t (fieldLocs frame_1_writes args s ++ arrayLocs frame_1_arrays args s ++ staticLocs frame_1_statics s) 601024 7293034 := h
theorem lw_flags {l : Launch} (h : l.flags = flags0) : l.stackTraces = false := by
  unfold Launch.stackTraces
  rw [h]
  decide +kernel
theorem lw_limb (L : Cond) (hL : ∀ (args : Array Value) (s t : State), L.after args s (.returned (some (.int 1))) t = true) :
    ArmFor flags0 classFile x code maxLocals ret World_1 tables_1 room_1 Calls_1 rest_1 Pre_1
      (fun tb e a s o t => postC L tb e a s o t ∧ Framed s o t (fieldLocs frame_1_writes a s ++ arrayLocs frame_1_arrays a s ++ staticLocs frame_1_statics s) 601024 7293034) := by
  intro l hfl _ _ p e ha hc hk s m args below hf hfit hheap happ hpre
  obtain ⟨k, o, h1, h2, h3, rfl, hF⟩ := lw_comes l (lw_flags hfl) p e ha hc hk s m args below hf hfit hheap happ hpre
  exact ⟨k, _, h1, h2, h3, hL args s _, lw_frame hF⟩
theorem i_vc : Claimed_1_1 ∧ Claimed_1_2 := ⟨lw_limb limb_1_1 (fun args s t => by simp [limb_1_1, Cond.after, Cond.holds, Cond.value]), lw_limb limb_1_2 (fun args s t => Cond.after_iff.mpr (by
  first | (rw [show limb_1_2 = Cond.eq .result (.int 1) from rfl, Cond.eq_ints (x := 1) (y := 1) rfl rfl]; simp; done) | (simp [limb_1_2, Cond.value, Term.eval]; done)))⟩
