def zXc {σ : Type} (w : zW σ) (X : String → σ → Prop) : String → State → State → Prop := vx_X (fun _ : σ => True) (fun E u t => X E u ∧ zB w u t) w.2.2.2
def zRmX (fr lo : Nat) : Room := { frames := fr, cells := 1, slots := 6, locals := lo }
def zGoalX {σ : Type} (E : zE) (Qc : Array Value → State → Outcome → State → Prop) (w : zW σ) (X : String → σ → Prop) : Prop :=
  match E with
  | (_, l, _, R, s, _, args, below, _, c, _, Q, kk9, nn9) => Q = vx_MQ below Qc (zXc w X) args s 1 6 w.2.2.2 ∧ (∀ x ∈ c.exceptionTable.toList, False) ∧ 1 ≤ R.cells ∧ 6 ≤ R.slots ∧ l.stackTraces = false ∧ kk9 = 0 ∧ nn9 = 0
theorem z_metX {σ : Type} {l : Launch} (hst : l.stackTraces = false) {y : MethodName} {cc : ByteArray} {n : Nat} {ret : Option FieldType} {fr lo : Nat} {w : zW σ} {S : σ} {av : List Value} {Qc : Array Value → State → Outcome → State → Prop} {X : String → σ → Prop} (hy : plainName y.cls = true) (hn : (lg_sl av).length ≤ n)
    (k : ∀ E : zE, zC E w cc y.cls fr lo → zGoalX E Qc w X → zRt E ret → E.2.2.2.2.2.2.2.2.2.2.1 = n → zV E w S 0 (lv_args 0 av) []) :
    vx_Met l y (Cond.code y cc n ret :: tT) (zRmX fr lo) (zPc w av S) Qc (zXc w X) 1 6 w.2.2.2 := by
  refine vx_ofW (cc := cc) (maxL := n) (ret := ret) hy rfl ?_
  intro p e s m args below meth c s₁ B hml htab hv
  obtain ⟨rfl, hO, hP⟩ := hv
  have hts := atoms_spec (ws := Cond.code y cc n ret :: tT) B.pre
  have hl := lv_entry av (n := n) hn
  rw [lg_entry_eq]
  generalize (lg_sl av ++ List.replicate (n - (lg_sl av).length) Slot.unset).toArray = ls at hl ⊢
  exact k (p, l, e, (headSpec (Cond.code y cc n ret :: tT) (zRmX fr lo)).room, s, m, av.toArray, below, meth, c, n, vx_MQ below Qc (zXc w X) av.toArray s 1 6 w.2.2.2, 0, 0) ⟨B.exec, B.bytes, hml, findClass_of_methodNamed B.named, fun w hw => hts w (List.mem_cons_of_mem _ hw), hO, Nat.le_refl _, Nat.le_refl _, B.notSynchronized, Nat.zero_le _, Nat.zero_le _⟩ ⟨rfl, htab, Nat.le_refl _, Nat.le_refl _, hst, rfl, rfl⟩ B.returns rfl s.heap [] ls hP va_S.rf hl
theorem z_ireturnX {σ : Type} {E : zE} {w : zW σ} {cc : ByteArray} {own : String} {fr lo : Nat} {S : σ} {pc pc' : Nat} {L : List (Nat × Value)} {X : String → σ → Prop} {P : σ → Int32 → Prop} {v : Int32} (C : zC E w cc own fr lo) (G : zGoalX E (zQ w (zPi P)) w X) (hr : zRt E (some .int)) (h : P S v) (d : zD cc pc .ireturn 1 pc') : zV E w S pc L [.int v] := by
  obtain ⟨p, l, e, R, s, m, args, below, meth, c, nL, Q, kk9, nn9⟩ := E
  obtain ⟨d, rfl⟩ := d
  obtain ⟨hx, hb, hml, hown, hts, hO, hfr, hlo, hlk, hkk9, hnn9⟩ := C
  obtain ⟨G, hT, g1, g2, g3, g4, g5⟩ := G
  subst G; subst g4; subst g5
  exact fun H locs ls h1 h2 h3 => vx_ret (W.widen (k := 1) (n := 6) (Nat.zero_le _) (Nat.zero_le _) (W.iret hx hb hr (fun t ht hW => ⟨⟨_, S, rfl, ⟨_, rfl, h⟩, by unfold zB; rw [ht]; exact h1⟩, h2.F ht⟩) h2.2.2 d hlk))
theorem z_throwS {σ : Type} {E : zE} {w : zW σ} {cc : ByteArray} {fr lo : Nat} {S : σ} {pc : Nat} {L : List (Nat × Value)} {X : String → σ → Prop} {Qc : Array Value → State → Outcome → State → Prop} {cls text : String} {ik is ic p1 p2 p3 p4 p5 : Nat} (C : zC E w cc "HostBench" fr lo) (G : zGoalX E Qc w X) (hk : Cond.classLink "HostBench" ik cls ∈ tT) (hini : Cond.initialized cls ∈ tT) (hs : (is, text) ∈ zTx) (hc : cls ∈ zXs)
    (hat : ∀ w ∈ vx_atS "HostBench" ic cls ["java/lang/RuntimeException", "java/lang/Exception"], w ∈ tT ∨ w = .castable cls cls ∨ ∃ x ∈ zDs, w = .declares ⟨x, "<init>", "(Ljava/lang/String;)V"⟩) (hgood : ∀ w ∈ Cond.classLink "HostBench" ik cls :: Cond.initialized cls :: vx_atS "HostBench" ic cls ["java/lang/RuntimeException", "java/lang/Exception"], vx_ot w = true) (hfit : Bundle.fit cls = true)
    (hf : 6 ≤ fr) (hl : 82 ≤ lo) (d : zD cc pc (.new ik) 3 p1) (d3 : zD cc p1 .dup 1 p2) (d4 : zD cc p2 (.ldc is) 2 p3) (d6 : zD cc p3 (.invokespecial ic) 3 p4) (d9 : zD cc p4 .athrow 1 p5) (h : X cls S) : zV E w S pc L [] := by
  obtain ⟨p, l, e, R, s, m, args, below, meth, c, nL, Q, kk9, nn9⟩ := E
  obtain ⟨d, rfl⟩ := d
  obtain ⟨hx, hb, hml, hown, hts, hO, hfr, hlo, hlk, hkk9, hnn9⟩ := C
  obtain ⟨G, hT, g1, g2, g3, g4, g5⟩ := G
  subst G; subst g4; subst g5
  obtain ⟨d3, rfl⟩ := d3
  obtain ⟨d4, rfl⟩ := d4
  obtain ⟨d6, rfl⟩ := d6
  obtain ⟨d9, -⟩ := d9
  intro H locs ls h1 h2 h3
  obtain ⟨sa, hsa⟩ := hO.2.2.2.2.2.1 _ hs
  refine vx_throwS hx hb g3 (names := ["java/lang/RuntimeException", "java/lang/Exception"]) (A := w.2.2.2) hown hfit (by decide +kernel) (hts _ hk) (hts _ hini) hsa (fun w hw => ?_) hgood hO.2.2.2.2.2.2.1 hO.2.2.2.2.2.2.2.1 h2 (h3.1.trans hml.symm) d d3 d4 d6 d9 (fun x hx => (hT x hx).elim) (Nat.lt_of_lt_of_le (by decide) (Nat.le_trans hf hfr)) (Nat.le_trans hl hlo) g1 g2 hlk (fun t hv hz hq => ?_) h2.2.2 (Nat.le_refl _) (Nat.le_refl _)
  · rcases hat w hw with h9 | rfl | ⟨x, hx9, rfl⟩
    · exact hts _ h9
    · exact va_Nw.use rfl (hO.2.2.2.1 _ hc)
    · exact va_Nw.use rfl (hO.2.2.2.2.1 _ hx9)
  · refine ⟨S, trivial, ⟨h, ?_⟩, Nat.le_trans h2.1 hz, fun q q1 q2 => ?_⟩
    · exact va_P.kept h1 (fun k q hk => hq q.1 (va_at.lt (h1 k q hk)))
    · rw [hq q (Nat.lt_of_lt_of_le q1 h2.1)]
      exact h2.2.1 q q1 q2
theorem z_throwSW {σ : Type} {E : zE} {w : zW σ} {cc : ByteArray} {fr lo : Nat} {S : σ} {pc : Nat} {L : List (Nat × Value)} {X : String → σ → Prop} {Qc : Array Value → State → Outcome → State → Prop} {cls text : String} {ik is ic p1 p2 p3 p4 p5 : Nat} (C : zC E w cc "HostBench" fr lo) (G : zGoalX E Qc w X) (hk : Cond.classLink "HostBench" ik cls ∈ tT) (hini : Cond.initialized cls ∈ tT) (hs : (is, text) ∈ zTx) (hc : cls ∈ zXs)
    (hat : ∀ w ∈ vx_atS "HostBench" ic cls ["java/lang/RuntimeException", "java/lang/Exception"], w ∈ tT ∨ w = .castable cls cls ∨ ∃ x ∈ zDs, w = .declares ⟨x, "<init>", "(Ljava/lang/String;)V"⟩) (hgood : ∀ w ∈ Cond.classLink "HostBench" ik cls :: Cond.initialized cls :: vx_atS "HostBench" ic cls ["java/lang/RuntimeException", "java/lang/Exception"], vx_ot w = true) (hfit : Bundle.fit cls = true)
    (hf : 6 ≤ fr) (hl : 82 ≤ lo) (d : zD cc pc (.new ik) 3 p1) (d3 : zD cc p1 .dup 1 p2) (d4 : zD cc p2 (.ldc_w is) 3 p3) (d6 : zD cc p3 (.invokespecial ic) 3 p4) (d9 : zD cc p4 .athrow 1 p5) (h : X cls S) : zV E w S pc L [] := by
  obtain ⟨p, l, e, R, s, m, args, below, meth, c, nL, Q, kk9, nn9⟩ := E
  obtain ⟨d, rfl⟩ := d
  obtain ⟨hx, hb, hml, hown, hts, hO, hfr, hlo, hlk, hkk9, hnn9⟩ := C
  obtain ⟨G, hT, g1, g2, g3, g4, g5⟩ := G
  subst G; subst g4; subst g5
  obtain ⟨d3, rfl⟩ := d3
  obtain ⟨d4, rfl⟩ := d4
  obtain ⟨d6, rfl⟩ := d6
  obtain ⟨d9, -⟩ := d9
  intro H locs ls h1 h2 h3
  obtain ⟨sa, hsa⟩ := hO.2.2.2.2.2.1 _ hs
  refine vx_throwSW hx hb g3 (names := ["java/lang/RuntimeException", "java/lang/Exception"]) (A := w.2.2.2) hown hfit (by decide +kernel) (hts _ hk) (hts _ hini) hsa (fun w hw => ?_) hgood hO.2.2.2.2.2.2.1 hO.2.2.2.2.2.2.2.1 h2 (h3.1.trans hml.symm) d d3 d4 d6 d9 (fun x hx => (hT x hx).elim) (Nat.lt_of_lt_of_le (by decide) (Nat.le_trans hf hfr)) (Nat.le_trans hl hlo) g1 g2 hlk (fun t hv hz hq => ?_) h2.2.2 (Nat.le_refl _) (Nat.le_refl _)
  · rcases hat w hw with h9 | rfl | ⟨x, hx9, rfl⟩
    · exact hts _ h9
    · exact va_Nw.use rfl (hO.2.2.2.1 _ hc)
    · exact va_Nw.use rfl (hO.2.2.2.2.1 _ hx9)
  · refine ⟨S, trivial, ⟨h, ?_⟩, Nat.le_trans h2.1 hz, fun q q1 q2 => ?_⟩
    · exact va_P.kept h1 (fun k q hk => hq q.1 (va_at.lt (h1 k q hk)))
    · rw [hq q (Nat.lt_of_lt_of_le q1 h2.1)]
      exact h2.2.1 q q1 q2
theorem at_IndexOutOfBoundsException : ∀ w ∈ vx_atS "HostBench" 77 "java/lang/IndexOutOfBoundsException" ["java/lang/RuntimeException", "java/lang/Exception"], w ∈ tT ∨ w = .castable "java/lang/IndexOutOfBoundsException" "java/lang/IndexOutOfBoundsException" ∨ ∃ x ∈ zDs, w = .declares ⟨x, "<init>", "(Ljava/lang/String;)V"⟩ := by
  intro w hw
  have h := (by decide +kernel : ∀ w ∈ vx_atS "HostBench" 77 "java/lang/IndexOutOfBoundsException" ["java/lang/RuntimeException", "java/lang/Exception"], (w ∈ lw_tbl ∧ goodWord w = true) ∨ w = .castable "java/lang/IndexOutOfBoundsException" "java/lang/IndexOutOfBoundsException" ∨ ∃ x ∈ zDs, w = .declares ⟨x, "<init>", "(Ljava/lang/String;)V"⟩) w hw
  rcases h with g | g
  · exact Or.inl (List.mem_filter.mpr g)
  · exact Or.inr g
theorem gd_IndexOutOfBoundsException : ∀ w ∈ Cond.classLink "HostBench" 73 "java/lang/IndexOutOfBoundsException" :: Cond.initialized "java/lang/IndexOutOfBoundsException" :: vx_atS "HostBench" 77 "java/lang/IndexOutOfBoundsException" ["java/lang/RuntimeException", "java/lang/Exception"], vx_ot w = true := by decide +kernel
theorem at_IllegalArgumentException : ∀ w ∈ vx_atS "HostBench" 95 "java/lang/IllegalArgumentException" ["java/lang/RuntimeException", "java/lang/Exception"], w ∈ tT ∨ w = .castable "java/lang/IllegalArgumentException" "java/lang/IllegalArgumentException" ∨ ∃ x ∈ zDs, w = .declares ⟨x, "<init>", "(Ljava/lang/String;)V"⟩ := by
  intro w hw
  have h := (by decide +kernel : ∀ w ∈ vx_atS "HostBench" 95 "java/lang/IllegalArgumentException" ["java/lang/RuntimeException", "java/lang/Exception"], (w ∈ lw_tbl ∧ goodWord w = true) ∨ w = .castable "java/lang/IllegalArgumentException" "java/lang/IllegalArgumentException" ∨ ∃ x ∈ zDs, w = .declares ⟨x, "<init>", "(Ljava/lang/String;)V"⟩) w hw
  rcases h with g | g
  · exact Or.inl (List.mem_filter.mpr g)
  · exact Or.inr g
theorem gd_IllegalArgumentException : ∀ w ∈ Cond.classLink "HostBench" 91 "java/lang/IllegalArgumentException" :: Cond.initialized "java/lang/IllegalArgumentException" :: vx_atS "HostBench" 95 "java/lang/IllegalArgumentException" ["java/lang/RuntimeException", "java/lang/Exception"], vx_ot w = true := by decide +kernel
theorem at_IllegalStateException : ∀ w ∈ vx_atS "HostBench" 116 "java/lang/IllegalStateException" ["java/lang/RuntimeException", "java/lang/Exception"], w ∈ tT ∨ w = .castable "java/lang/IllegalStateException" "java/lang/IllegalStateException" ∨ ∃ x ∈ zDs, w = .declares ⟨x, "<init>", "(Ljava/lang/String;)V"⟩ := by
  intro w hw
  have h := (by decide +kernel : ∀ w ∈ vx_atS "HostBench" 116 "java/lang/IllegalStateException" ["java/lang/RuntimeException", "java/lang/Exception"], (w ∈ lw_tbl ∧ goodWord w = true) ∨ w = .castable "java/lang/IllegalStateException" "java/lang/IllegalStateException" ∨ ∃ x ∈ zDs, w = .declares ⟨x, "<init>", "(Ljava/lang/String;)V"⟩) w hw
  rcases h with g | g
  · exact Or.inl (List.mem_filter.mpr g)
  · exact Or.inr g
theorem gd_IllegalStateException : ∀ w ∈ Cond.classLink "HostBench" 112 "java/lang/IllegalStateException" :: Cond.initialized "java/lang/IllegalStateException" :: vx_atS "HostBench" 116 "java/lang/IllegalStateException" ["java/lang/RuntimeException", "java/lang/Exception"], vx_ot w = true := by decide +kernel
theorem at_UnsupportedOperationException : ∀ w ∈ vx_atS "HostBench" 124 "java/lang/UnsupportedOperationException" ["java/lang/RuntimeException", "java/lang/Exception"], w ∈ tT ∨ w = .castable "java/lang/UnsupportedOperationException" "java/lang/UnsupportedOperationException" ∨ ∃ x ∈ zDs, w = .declares ⟨x, "<init>", "(Ljava/lang/String;)V"⟩ := by
  intro w hw
  have h := (by decide +kernel : ∀ w ∈ vx_atS "HostBench" 124 "java/lang/UnsupportedOperationException" ["java/lang/RuntimeException", "java/lang/Exception"], (w ∈ lw_tbl ∧ goodWord w = true) ∨ w = .castable "java/lang/UnsupportedOperationException" "java/lang/UnsupportedOperationException" ∨ ∃ x ∈ zDs, w = .declares ⟨x, "<init>", "(Ljava/lang/String;)V"⟩) w hw
  rcases h with g | g
  · exact Or.inl (List.mem_filter.mpr g)
  · exact Or.inr g
theorem gd_UnsupportedOperationException : ∀ w ∈ Cond.classLink "HostBench" 120 "java/lang/UnsupportedOperationException" :: Cond.initialized "java/lang/UnsupportedOperationException" :: vx_atS "HostBench" 124 "java/lang/UnsupportedOperationException" ["java/lang/RuntimeException", "java/lang/Exception"], vx_ot w = true := by decide +kernel
