/-! the law's wrappers -/
def ncs (U : State) : Prop := va_Nc "java/lang/IllegalStateException" "java/lang/IllegalArgumentException" U ∧ va_Nc "java/lang/UnsupportedOperationException" "java/lang/IllegalArgumentException" U ∧ va_Nc "java/lang/UnsupportedOperationException" "java/lang/IllegalStateException" U
theorem ncs.moved {u U : State} (hvm : u.vm.Alike U.vm) (h : ncs u) : ncs U := ⟨h.1.moved hvm, h.2.1.moved hvm, h.2.2.moved hvm⟩
def lPc (w : zW sL) (av : List Value) (U : sL) : Array Value → State → Prop := va_Pc av (fun V => (zO w V ∧ va_P w.2.1 vwCl (w.1 U) V.heap) ∧ ncs V)
theorem lPc_blind (w : zW sL) (av : List Value) (U : sL) : FrameBlind (lPc w av U) := fun a V g mk h => ⟨h.1, ⟨h.2.1.1.call g mk a, h.2.1.2⟩, ncs.moved (u := V) (U := V.calling g mk a) (Vm.Alike.refl V.vm) h.2.2⟩
def lP (Pn : zS → Int32 → Prop) (Px : Nat → zS → Prop) (T : zS) (o : Int64) : sL → Int32 → Prop := fun U r => (r = 0 ∧ ∃ v : Int32, Pn U.1 v ∧ U.2 = (T, v.toInt64)) ∨ ∃ k, 0 < k ∧ k < 4 ∧ r = nI k ∧ Px k U.1 ∧ U.2 = (T, o)
set_option maxRecDepth 4000 in
theorem v_put (l : Launch) (hst : l.stackTraces = false) (D : va_G) (cB cI cH cF cL : ClassId) (n : Nat) (p0 : Int32) (S T : zS) (o : Int64) (Pn : zS → Int32 → Prop) (X : String → zS → Prop) (Px : Nat → zS → Prop) (hw : w_HB_put p0 S Pn X) (hX : ∀ E u, X E u → (E = "java/lang/IndexOutOfBoundsException" ∧ Px 1 u)) : Met l y_L_put (Cond.codeWith y_L_put method_3_code 4 (some FieldType.int) [((0 : Nat), (9 : Nat), (12 : Nat), (13 : Nat))] :: tT) (gRm 7 1 6 105) (lPc (wL D cB cI cH cF cL n) [.ref (ad (bk1 D cB cI cH cF n) 0), .int p0, .ref (n + 116)] (S, T, o)) (zQ (wL D cB cI cH cF cL n) (zPi (lP Pn Px T o))) 1 6 (fun q => n ≤ q) := by
  refine va_MetW (cc := method_3_code) (maxL := 4) (ret := some FieldType.int) rfl rfl ?_
  intro p e s m args below meth c s₁ B hml hv
  obtain ⟨rfl, ⟨hO, hP⟩, hnc⟩ := hv
  have hts0 := atoms_spec (ws := Cond.codeWith y_L_put method_3_code 4 (some FieldType.int) [((0 : Nat), (9 : Nat), (12 : Nat), (13 : Nat))] :: tT) B.pre
  have hts : ∀ w ∈ tT, w.before ([.ref (ad (bk1 D cB cI cH cF n) 0), .int p0, .ref (n + 116)] : List Value).toArray s = true := fun w hw => hts0 w (List.mem_cons_of_mem _ hw)
  have htab := vx_table (x := y_HB_put) B (hts0 _ List.mem_cons_self)
  have hown : s.vm.findClass "HostBenchLaw" = some m.cls := findClass_of_methodNamed B.named
  have hl := lv_entry [.ref (ad (bk1 D cB cI cH cF n) 0), .int p0, .ref (n + 116)] (n := 4) (Nat.le_of_ble_eq_true rfl)
  rw [lg_entry_eq]
  generalize (lg_sl [.ref (ad (bk1 D cB cI cH cF n) 0), .int p0, .ref (n + 116)] ++ List.replicate (4 - (lg_sl [.ref (ad (bk1 D cB cI cH cF n) 0), .int p0, .ref (n + 116)]).length) Slot.unset).toArray = ls at hl ⊢
  have C : zC (p, l, e, (headSpec (Cond.codeWith y_L_put method_3_code 4 (some FieldType.int) [((0 : Nat), (9 : Nat), (12 : Nat), (13 : Nat))] :: tT) (gRm 7 1 6 105)).room, s, m, ([.ref (ad (bk1 D cB cI cH cF n) 0), .int p0, .ref (n + 116)] : List Value).toArray, below, meth, c, 4, MQ below (zQ (wL D cB cI cH cF cL n) (zPi (lP Pn Px T o))) ([.ref (ad (bk1 D cB cI cH cF n) 0), .int p0, .ref (n + 116)] : List Value).toArray s 1 6 (fun q => n ≤ q), 0, 0) (wL D cB cI cH cF cL n) method_3_code "HostBenchLaw" 7 105 := ⟨B.exec, B.bytes, hml, hown, hts, hO, Nat.le_refl _, Nat.le_refl _, B.notSynchronized, Nat.zero_le _, Nat.zero_le _⟩
  have C1 : zC (p, l, e, (headSpec (Cond.codeWith y_L_put method_3_code 4 (some FieldType.int) [((0 : Nat), (9 : Nat), (12 : Nat), (13 : Nat))] :: tT) (gRm 7 1 6 105)).room, s, m, ([.ref (ad (bk1 D cB cI cH cF n) 0), .int p0, .ref (n + 116)] : List Value).toArray, below, meth, c, 4, MQ below (zQ (wL D cB cI cH cF cL n) (zPi (lP Pn Px T o))) ([.ref (ad (bk1 D cB cI cH cF n) 0), .int p0, .ref (n + 116)] : List Value).toArray s 1 6 (fun q => n ≤ q), 0 + 1, 0 + 6) (wL D cB cI cH cF cL n) method_3_code "HostBenchLaw" 7 105 := ⟨B.exec, B.bytes, hml, hown, hts, hO, Nat.le_refl _, Nat.le_refl _, B.notSynchronized, Nat.le_refl _, Nat.le_refl _⟩
  suffices K : zV (p, l, e, (headSpec (Cond.codeWith y_L_put method_3_code 4 (some FieldType.int) [((0 : Nat), (9 : Nat), (12 : Nat), (13 : Nat))] :: tT) (gRm 7 1 6 105)).room, s, m, ([.ref (ad (bk1 D cB cI cH cF n) 0), .int p0, .ref (n + 116)] : List Value).toArray, below, meth, c, 4, MQ below (zQ (wL D cB cI cH cF cL n) (zPi (lP Pn Px T o))) ([.ref (ad (bk1 D cB cI cH cF n) 0), .int p0, .ref (n + 116)] : List Value).toArray s 1 6 (fun q => n ≤ q), 0, 0) (wL D cB cI cH cF cL n) (S, T, o) 0 [(0, .ref (ad (bk1 D cB cI cH cF n) 0)), (1, .int p0), (2, .ref (n + 116))] [] from K s.heap [] ls hP va_S.rf hl
  refine z_aload_n C 2 rfl rfl d_L_put_0 ?_
  refine z_iconst (v := 0) C (by decide) d_L_put_1 ?_
  refine z_aload_n C 0 rfl rfl d_L_put_2 ?_
  refine z_iload_n C 1 rfl rfl d_L_put_3 ?_
  refine z_partX (f := fun u => (u, T, o)) (rest := [.int 0, .ref (n + 116)]) (As := [.int p0]) (k9 := 1) C (Nat.le_refl 1) (Nat.le_refl 6) (pt_C D cB cI cH cF cL n S T o) ⟨tw_439, tw_440, tw_76, tw_441, ⟨by decide, by decide, by decide +kernel⟩⟩ tw_438 (c_HB_put l hst (bk1 D cB cI cH cF n) p0 S Pn X hw) ⟨9, 0, _, TX9, 8, rfl, rfl⟩ ⟨by decide, by decide⟩ rfl rfl (Nat.le_of_ble_eq_true rfl) d_L_put_4 (fun Ec u H1 locs1 ls q9 ce hx g1 g2 g3 h9 hv hcl => ?_) (fun x u hu => ?_)
  · obtain ⟨rfl, hpx⟩ := hX Ec u hx
    refine vx_catch (own := "HostBenchLaw") (name := "java/lang/IndexOutOfBoundsException") hown [] ⟨0, 9, 12, 13⟩ [] htab (fun z hz => by cases hz) rfl (by decide) (hts _ tw_437) (va_Nw.use rfl (hO.2.2.2.1 _ (by decide))) h9 hv hcl ?_
    suffices K : zV (p, l, e, (headSpec (Cond.codeWith y_L_put method_3_code 4 (some FieldType.int) [((0 : Nat), (9 : Nat), (12 : Nat), (13 : Nat))] :: tT) (gRm 7 1 6 105)).room, s, m, ([.ref (ad (bk1 D cB cI cH cF n) 0), .int p0, .ref (n + 116)] : List Value).toArray, below, meth, c, 4, MQ below (zQ (wL D cB cI cH cF cL n) (zPi (lP Pn Px T o))) ([.ref (ad (bk1 D cB cI cH cF n) 0), .int p0, .ref (n + 116)] : List Value).toArray s 1 6 (fun q => n ≤ q), 0 + 1, 0 + 6) (wL D cB cI cH cF cL n) (u, T, o) 12 [(0, .ref (ad (bk1 D cB cI cH cF n) 0)), (1, .int p0), (2, .ref (n + 116))] [.ref q9] from K H1 locs1 ls g1 g2 g3
    refine z_astore_n (nl := 4) (i := 3) C1 rfl rfl (by decide) rfl d_L_put_12 ?_
    refine z_iconst (v := 1) C1 (by decide) d_L_put_13 ?_
    exact z_ireturn C1 rfl B.returns (Or.inr ⟨1, by decide, by decide, rfl, hpx, rfl⟩) d_L_put_14
  · obtain ⟨rv, rfl, hp⟩ := hu
    refine z_i2l C1 d_L_put_7 ?_
    refine z_last C1 d_L_put_8 ?_
    refine z_goto (tgt := 15) C1 d_L_put_9 rfl ?_
    refine z_iconst (v := 0) C1 (by decide) d_L_put_15 ?_
    exact z_ireturn C1 rfl B.returns (Or.inl ⟨rfl, rv, hp, rfl⟩) d_L_put_16
set_option maxRecDepth 4000 in
theorem v_lay (l : Launch) (hst : l.stackTraces = false) (D : va_G) (cB cI cH cF cL : ClassId) (n : Nat) (S T : zS) (o : Int64) (Pn : zS → Int32 → Prop) (X : String → zS → Prop) (Px : Nat → zS → Prop) (hw : w_HB_lay S Pn X) (hX : ∀ E u, X E u → (E = "java/lang/IllegalArgumentException" ∧ Px 1 u) ∨ (E = "java/lang/IllegalStateException" ∧ Px 2 u) ∨ (E = "java/lang/UnsupportedOperationException" ∧ Px 3 u)) : Met l y_L_lay (Cond.codeWith y_L_lay method_4_code 3 (some FieldType.int) [((0 : Nat), (8 : Nat), (11 : Nat), (19 : Nat)), ((0 : Nat), (8 : Nat), (14 : Nat), (21 : Nat)), ((0 : Nat), (8 : Nat), (17 : Nat), (23 : Nat))] :: tT) (gRm 7 1 6 105) (lPc (wL D cB cI cH cF cL n) [.ref (ad (bk1 D cB cI cH cF n) 0), .ref (n + 116)] (S, T, o)) (zQ (wL D cB cI cH cF cL n) (zPi (lP Pn Px T o))) 1 6 (fun q => n ≤ q) := by
  refine va_MetW (cc := method_4_code) (maxL := 3) (ret := some FieldType.int) rfl rfl ?_
  intro p e s m args below meth c s₁ B hml hv
  obtain ⟨rfl, ⟨hO, hP⟩, hnc⟩ := hv
  have hts0 := atoms_spec (ws := Cond.codeWith y_L_lay method_4_code 3 (some FieldType.int) [((0 : Nat), (8 : Nat), (11 : Nat), (19 : Nat)), ((0 : Nat), (8 : Nat), (14 : Nat), (21 : Nat)), ((0 : Nat), (8 : Nat), (17 : Nat), (23 : Nat))] :: tT) B.pre
  have hts : ∀ w ∈ tT, w.before ([.ref (ad (bk1 D cB cI cH cF n) 0), .ref (n + 116)] : List Value).toArray s = true := fun w hw => hts0 w (List.mem_cons_of_mem _ hw)
  have htab := vx_table (x := y_HB_put) B (hts0 _ List.mem_cons_self)
  have hown : s.vm.findClass "HostBenchLaw" = some m.cls := findClass_of_methodNamed B.named
  have hl := lv_entry [.ref (ad (bk1 D cB cI cH cF n) 0), .ref (n + 116)] (n := 3) (Nat.le_of_ble_eq_true rfl)
  rw [lg_entry_eq]
  generalize (lg_sl [.ref (ad (bk1 D cB cI cH cF n) 0), .ref (n + 116)] ++ List.replicate (3 - (lg_sl [.ref (ad (bk1 D cB cI cH cF n) 0), .ref (n + 116)]).length) Slot.unset).toArray = ls at hl ⊢
  have C : zC (p, l, e, (headSpec (Cond.codeWith y_L_lay method_4_code 3 (some FieldType.int) [((0 : Nat), (8 : Nat), (11 : Nat), (19 : Nat)), ((0 : Nat), (8 : Nat), (14 : Nat), (21 : Nat)), ((0 : Nat), (8 : Nat), (17 : Nat), (23 : Nat))] :: tT) (gRm 7 1 6 105)).room, s, m, ([.ref (ad (bk1 D cB cI cH cF n) 0), .ref (n + 116)] : List Value).toArray, below, meth, c, 3, MQ below (zQ (wL D cB cI cH cF cL n) (zPi (lP Pn Px T o))) ([.ref (ad (bk1 D cB cI cH cF n) 0), .ref (n + 116)] : List Value).toArray s 1 6 (fun q => n ≤ q), 0, 0) (wL D cB cI cH cF cL n) method_4_code "HostBenchLaw" 7 105 := ⟨B.exec, B.bytes, hml, hown, hts, hO, Nat.le_refl _, Nat.le_refl _, B.notSynchronized, Nat.zero_le _, Nat.zero_le _⟩
  have C1 : zC (p, l, e, (headSpec (Cond.codeWith y_L_lay method_4_code 3 (some FieldType.int) [((0 : Nat), (8 : Nat), (11 : Nat), (19 : Nat)), ((0 : Nat), (8 : Nat), (14 : Nat), (21 : Nat)), ((0 : Nat), (8 : Nat), (17 : Nat), (23 : Nat))] :: tT) (gRm 7 1 6 105)).room, s, m, ([.ref (ad (bk1 D cB cI cH cF n) 0), .ref (n + 116)] : List Value).toArray, below, meth, c, 3, MQ below (zQ (wL D cB cI cH cF cL n) (zPi (lP Pn Px T o))) ([.ref (ad (bk1 D cB cI cH cF n) 0), .ref (n + 116)] : List Value).toArray s 1 6 (fun q => n ≤ q), 0 + 1, 0 + 6) (wL D cB cI cH cF cL n) method_4_code "HostBenchLaw" 7 105 := ⟨B.exec, B.bytes, hml, hown, hts, hO, Nat.le_refl _, Nat.le_refl _, B.notSynchronized, Nat.le_refl _, Nat.le_refl _⟩
  suffices K : zV (p, l, e, (headSpec (Cond.codeWith y_L_lay method_4_code 3 (some FieldType.int) [((0 : Nat), (8 : Nat), (11 : Nat), (19 : Nat)), ((0 : Nat), (8 : Nat), (14 : Nat), (21 : Nat)), ((0 : Nat), (8 : Nat), (17 : Nat), (23 : Nat))] :: tT) (gRm 7 1 6 105)).room, s, m, ([.ref (ad (bk1 D cB cI cH cF n) 0), .ref (n + 116)] : List Value).toArray, below, meth, c, 3, MQ below (zQ (wL D cB cI cH cF cL n) (zPi (lP Pn Px T o))) ([.ref (ad (bk1 D cB cI cH cF n) 0), .ref (n + 116)] : List Value).toArray s 1 6 (fun q => n ≤ q), 0, 0) (wL D cB cI cH cF cL n) (S, T, o) 0 [(0, .ref (ad (bk1 D cB cI cH cF n) 0)), (1, .ref (n + 116))] [] from K s.heap [] ls hP va_S.rf hl
  refine z_aload_n C 1 rfl rfl d_L_lay_0 ?_
  refine z_iconst (v := 0) C (by decide) d_L_lay_1 ?_
  refine z_aload_n C 0 rfl rfl d_L_lay_2 ?_
  refine z_partX (f := fun u => (u, T, o)) (rest := [.int 0, .ref (n + 116)]) (As := []) (k9 := 0) C (Nat.le_refl 1) (Nat.le_refl 6) (pt_C D cB cI cH cF cL n S T o) ⟨tw_528, tw_529, tw_76, tw_530, ⟨by decide, by decide, by decide +kernel⟩⟩ tw_527 (c_HB_lay l hst (bk1 D cB cI cH cF n) S Pn X hw) ⟨9, 0, _, TX9, 8, rfl, rfl⟩ ⟨by decide, by decide⟩ rfl rfl (Nat.le_of_ble_eq_true rfl) d_L_lay_3 (fun Ec u H1 locs1 ls q9 ce hx g1 g2 g3 h9 hv hcl => ?_) (fun x u hu => ?_)
  · rcases hX Ec u hx with ⟨rfl, hpx⟩ | ⟨rfl, hpx⟩ | ⟨rfl, hpx⟩
    · refine vx_catch (own := "HostBenchLaw") (name := "java/lang/IllegalArgumentException") hown [] ⟨0, 8, 11, 19⟩ [⟨0, 8, 14, 21⟩, ⟨0, 8, 17, 23⟩] htab (fun z hz => by cases hz) rfl (by decide) (hts _ tw_524) (va_Nw.use rfl (hO.2.2.2.1 _ (by decide))) h9 hv hcl ?_
      suffices K : zV (p, l, e, (headSpec (Cond.codeWith y_L_lay method_4_code 3 (some FieldType.int) [((0 : Nat), (8 : Nat), (11 : Nat), (19 : Nat)), ((0 : Nat), (8 : Nat), (14 : Nat), (21 : Nat)), ((0 : Nat), (8 : Nat), (17 : Nat), (23 : Nat))] :: tT) (gRm 7 1 6 105)).room, s, m, ([.ref (ad (bk1 D cB cI cH cF n) 0), .ref (n + 116)] : List Value).toArray, below, meth, c, 3, MQ below (zQ (wL D cB cI cH cF cL n) (zPi (lP Pn Px T o))) ([.ref (ad (bk1 D cB cI cH cF n) 0), .ref (n + 116)] : List Value).toArray s 1 6 (fun q => n ≤ q), 0 + 1, 0 + 6) (wL D cB cI cH cF cL n) (u, T, o) 11 [(0, .ref (ad (bk1 D cB cI cH cF n) 0)), (1, .ref (n + 116))] [.ref q9] from K H1 locs1 ls g1 g2 g3
      refine z_astore_n (nl := 3) (i := 2) C1 rfl rfl (by decide) rfl d_L_lay_11 ?_
      refine z_iconst (v := 1) C1 (by decide) d_L_lay_12 ?_
      exact z_ireturn C1 rfl B.returns (Or.inr ⟨1, by decide, by decide, rfl, hpx, rfl⟩) d_L_lay_13
    · refine vx_catch (own := "HostBenchLaw") (name := "java/lang/IllegalStateException") hown [⟨0, 8, 11, 19⟩] ⟨0, 8, 14, 21⟩ [⟨0, 8, 17, 23⟩] htab (List.forall_mem_cons.mpr ⟨Or.inr ⟨by decide, "java/lang/IllegalArgumentException", hts _ tw_524, hnc.1⟩, fun z hz => by cases hz⟩) rfl (by decide) (hts _ tw_525) (va_Nw.use rfl (hO.2.2.2.1 _ (by decide))) h9 hv hcl ?_
      suffices K : zV (p, l, e, (headSpec (Cond.codeWith y_L_lay method_4_code 3 (some FieldType.int) [((0 : Nat), (8 : Nat), (11 : Nat), (19 : Nat)), ((0 : Nat), (8 : Nat), (14 : Nat), (21 : Nat)), ((0 : Nat), (8 : Nat), (17 : Nat), (23 : Nat))] :: tT) (gRm 7 1 6 105)).room, s, m, ([.ref (ad (bk1 D cB cI cH cF n) 0), .ref (n + 116)] : List Value).toArray, below, meth, c, 3, MQ below (zQ (wL D cB cI cH cF cL n) (zPi (lP Pn Px T o))) ([.ref (ad (bk1 D cB cI cH cF n) 0), .ref (n + 116)] : List Value).toArray s 1 6 (fun q => n ≤ q), 0 + 1, 0 + 6) (wL D cB cI cH cF cL n) (u, T, o) 14 [(0, .ref (ad (bk1 D cB cI cH cF n) 0)), (1, .ref (n + 116))] [.ref q9] from K H1 locs1 ls g1 g2 g3
      refine z_astore_n (nl := 3) (i := 2) C1 rfl rfl (by decide) rfl d_L_lay_14 ?_
      refine z_iconst (v := 2) C1 (by decide) d_L_lay_15 ?_
      exact z_ireturn C1 rfl B.returns (Or.inr ⟨2, by decide, by decide, rfl, hpx, rfl⟩) d_L_lay_16
    · refine vx_catch (own := "HostBenchLaw") (name := "java/lang/UnsupportedOperationException") hown [⟨0, 8, 11, 19⟩, ⟨0, 8, 14, 21⟩] ⟨0, 8, 17, 23⟩ [] htab (List.forall_mem_cons.mpr ⟨Or.inr ⟨by decide, "java/lang/IllegalArgumentException", hts _ tw_524, hnc.2.1⟩, List.forall_mem_cons.mpr ⟨Or.inr ⟨by decide, "java/lang/IllegalStateException", hts _ tw_525, hnc.2.2⟩, fun z hz => by cases hz⟩⟩) rfl (by decide) (hts _ tw_526) (va_Nw.use rfl (hO.2.2.2.1 _ (by decide))) h9 hv hcl ?_
      suffices K : zV (p, l, e, (headSpec (Cond.codeWith y_L_lay method_4_code 3 (some FieldType.int) [((0 : Nat), (8 : Nat), (11 : Nat), (19 : Nat)), ((0 : Nat), (8 : Nat), (14 : Nat), (21 : Nat)), ((0 : Nat), (8 : Nat), (17 : Nat), (23 : Nat))] :: tT) (gRm 7 1 6 105)).room, s, m, ([.ref (ad (bk1 D cB cI cH cF n) 0), .ref (n + 116)] : List Value).toArray, below, meth, c, 3, MQ below (zQ (wL D cB cI cH cF cL n) (zPi (lP Pn Px T o))) ([.ref (ad (bk1 D cB cI cH cF n) 0), .ref (n + 116)] : List Value).toArray s 1 6 (fun q => n ≤ q), 0 + 1, 0 + 6) (wL D cB cI cH cF cL n) (u, T, o) 17 [(0, .ref (ad (bk1 D cB cI cH cF n) 0)), (1, .ref (n + 116))] [.ref q9] from K H1 locs1 ls g1 g2 g3
      refine z_astore_n (nl := 3) (i := 2) C1 rfl rfl (by decide) rfl d_L_lay_17 ?_
      refine z_iconst (v := 3) C1 (by decide) d_L_lay_18 ?_
      exact z_ireturn C1 rfl B.returns (Or.inr ⟨3, by decide, by decide, rfl, hpx, rfl⟩) d_L_lay_19
  · obtain ⟨rv, rfl, hp⟩ := hu
    refine z_i2l C1 d_L_lay_6 ?_
    refine z_last C1 d_L_lay_7 ?_
    refine z_goto (tgt := 20) C1 d_L_lay_8 rfl ?_
    refine z_iconst (v := 0) C1 (by decide) d_L_lay_20 ?_
    exact z_ireturn C1 rfl B.returns (Or.inl ⟨rfl, rv, hp, rfl⟩) d_L_lay_21
set_option maxRecDepth 4000 in
theorem v_type (l : Launch) (hst : l.stackTraces = false) (D : va_G) (cB cI cH cF cL : ClassId) (n : Nat) (S T : zS) (o : Int64) (Pn : zS → Int32 → Prop) (X : String → zS → Prop) (Px : Nat → zS → Prop) (hw : w_HB_type S Pn X) (hX : ∀ E u, X E u → (E = "java/lang/IllegalStateException" ∧ Px 1 u)) : Met l y_L_type (Cond.codeWith y_L_type method_5_code 3 (some FieldType.int) [((0 : Nat), (8 : Nat), (11 : Nat), (21 : Nat))] :: tT) (gRm 7 1 6 103) (lPc (wL D cB cI cH cF cL n) [.ref (ad (bk1 D cB cI cH cF n) 0), .ref (n + 116)] (S, T, o)) (zQ (wL D cB cI cH cF cL n) (zPi (lP Pn Px T o))) 1 6 (fun q => n ≤ q) := by
  refine va_MetW (cc := method_5_code) (maxL := 3) (ret := some FieldType.int) rfl rfl ?_
  intro p e s m args below meth c s₁ B hml hv
  obtain ⟨rfl, ⟨hO, hP⟩, hnc⟩ := hv
  have hts0 := atoms_spec (ws := Cond.codeWith y_L_type method_5_code 3 (some FieldType.int) [((0 : Nat), (8 : Nat), (11 : Nat), (21 : Nat))] :: tT) B.pre
  have hts : ∀ w ∈ tT, w.before ([.ref (ad (bk1 D cB cI cH cF n) 0), .ref (n + 116)] : List Value).toArray s = true := fun w hw => hts0 w (List.mem_cons_of_mem _ hw)
  have htab := vx_table (x := y_HB_put) B (hts0 _ List.mem_cons_self)
  have hown : s.vm.findClass "HostBenchLaw" = some m.cls := findClass_of_methodNamed B.named
  have hl := lv_entry [.ref (ad (bk1 D cB cI cH cF n) 0), .ref (n + 116)] (n := 3) (Nat.le_of_ble_eq_true rfl)
  rw [lg_entry_eq]
  generalize (lg_sl [.ref (ad (bk1 D cB cI cH cF n) 0), .ref (n + 116)] ++ List.replicate (3 - (lg_sl [.ref (ad (bk1 D cB cI cH cF n) 0), .ref (n + 116)]).length) Slot.unset).toArray = ls at hl ⊢
  have C : zC (p, l, e, (headSpec (Cond.codeWith y_L_type method_5_code 3 (some FieldType.int) [((0 : Nat), (8 : Nat), (11 : Nat), (21 : Nat))] :: tT) (gRm 7 1 6 103)).room, s, m, ([.ref (ad (bk1 D cB cI cH cF n) 0), .ref (n + 116)] : List Value).toArray, below, meth, c, 3, MQ below (zQ (wL D cB cI cH cF cL n) (zPi (lP Pn Px T o))) ([.ref (ad (bk1 D cB cI cH cF n) 0), .ref (n + 116)] : List Value).toArray s 1 6 (fun q => n ≤ q), 0, 0) (wL D cB cI cH cF cL n) method_5_code "HostBenchLaw" 7 103 := ⟨B.exec, B.bytes, hml, hown, hts, hO, Nat.le_refl _, Nat.le_refl _, B.notSynchronized, Nat.zero_le _, Nat.zero_le _⟩
  have C1 : zC (p, l, e, (headSpec (Cond.codeWith y_L_type method_5_code 3 (some FieldType.int) [((0 : Nat), (8 : Nat), (11 : Nat), (21 : Nat))] :: tT) (gRm 7 1 6 103)).room, s, m, ([.ref (ad (bk1 D cB cI cH cF n) 0), .ref (n + 116)] : List Value).toArray, below, meth, c, 3, MQ below (zQ (wL D cB cI cH cF cL n) (zPi (lP Pn Px T o))) ([.ref (ad (bk1 D cB cI cH cF n) 0), .ref (n + 116)] : List Value).toArray s 1 6 (fun q => n ≤ q), 0 + 1, 0 + 6) (wL D cB cI cH cF cL n) method_5_code "HostBenchLaw" 7 103 := ⟨B.exec, B.bytes, hml, hown, hts, hO, Nat.le_refl _, Nat.le_refl _, B.notSynchronized, Nat.le_refl _, Nat.le_refl _⟩
  suffices K : zV (p, l, e, (headSpec (Cond.codeWith y_L_type method_5_code 3 (some FieldType.int) [((0 : Nat), (8 : Nat), (11 : Nat), (21 : Nat))] :: tT) (gRm 7 1 6 103)).room, s, m, ([.ref (ad (bk1 D cB cI cH cF n) 0), .ref (n + 116)] : List Value).toArray, below, meth, c, 3, MQ below (zQ (wL D cB cI cH cF cL n) (zPi (lP Pn Px T o))) ([.ref (ad (bk1 D cB cI cH cF n) 0), .ref (n + 116)] : List Value).toArray s 1 6 (fun q => n ≤ q), 0, 0) (wL D cB cI cH cF cL n) (S, T, o) 0 [(0, .ref (ad (bk1 D cB cI cH cF n) 0)), (1, .ref (n + 116))] [] from K s.heap [] ls hP va_S.rf hl
  refine z_aload_n C 1 rfl rfl d_L_type_0 ?_
  refine z_iconst (v := 0) C (by decide) d_L_type_1 ?_
  refine z_aload_n C 0 rfl rfl d_L_type_2 ?_
  refine z_partX (f := fun u => (u, T, o)) (rest := [.int 0, .ref (n + 116)]) (As := []) (k9 := 0) C (Nat.le_refl 1) (Nat.le_refl 6) (pt_C D cB cI cH cF cL n S T o) ⟨tw_613, tw_614, tw_76, tw_615, ⟨by decide, by decide, by decide +kernel⟩⟩ tw_612 (c_HB_type l hst (bk1 D cB cI cH cF n) S Pn X hw) ⟨9, 0, _, TX9, 8, rfl, rfl⟩ ⟨by decide, by decide⟩ rfl rfl (Nat.le_of_ble_eq_true rfl) d_L_type_3 (fun Ec u H1 locs1 ls q9 ce hx g1 g2 g3 h9 hv hcl => ?_) (fun x u hu => ?_)
  · obtain ⟨rfl, hpx⟩ := hX Ec u hx
    refine vx_catch (own := "HostBenchLaw") (name := "java/lang/IllegalStateException") hown [] ⟨0, 8, 11, 21⟩ [] htab (fun z hz => by cases hz) rfl (by decide) (hts _ tw_525) (va_Nw.use rfl (hO.2.2.2.1 _ (by decide))) h9 hv hcl ?_
    suffices K : zV (p, l, e, (headSpec (Cond.codeWith y_L_type method_5_code 3 (some FieldType.int) [((0 : Nat), (8 : Nat), (11 : Nat), (21 : Nat))] :: tT) (gRm 7 1 6 103)).room, s, m, ([.ref (ad (bk1 D cB cI cH cF n) 0), .ref (n + 116)] : List Value).toArray, below, meth, c, 3, MQ below (zQ (wL D cB cI cH cF cL n) (zPi (lP Pn Px T o))) ([.ref (ad (bk1 D cB cI cH cF n) 0), .ref (n + 116)] : List Value).toArray s 1 6 (fun q => n ≤ q), 0 + 1, 0 + 6) (wL D cB cI cH cF cL n) (u, T, o) 11 [(0, .ref (ad (bk1 D cB cI cH cF n) 0)), (1, .ref (n + 116))] [.ref q9] from K H1 locs1 ls g1 g2 g3
    refine z_astore_n (nl := 3) (i := 2) C1 rfl rfl (by decide) rfl d_L_type_11 ?_
    refine z_iconst (v := 1) C1 (by decide) d_L_type_12 ?_
    exact z_ireturn C1 rfl B.returns (Or.inr ⟨1, by decide, by decide, rfl, hpx, rfl⟩) d_L_type_13
  · obtain ⟨rv, rfl, hp⟩ := hu
    refine z_i2l C1 d_L_type_6 ?_
    refine z_last C1 d_L_type_7 ?_
    refine z_goto (tgt := 14) C1 d_L_type_8 rfl ?_
    refine z_iconst (v := 0) C1 (by decide) d_L_type_14 ?_
    exact z_ireturn C1 rfl B.returns (Or.inl ⟨rfl, rv, hp, rfl⟩) d_L_type_15
set_option maxRecDepth 4000 in
theorem v_command (l : Launch) (hst : l.stackTraces = false) (D : va_G) (cB cI cH cF cL : ClassId) (n : Nat) (S T : zS) (o : Int64) (Pn : zS → Int32 → Prop) (X : String → zS → Prop) (Px : Nat → zS → Prop) (hw : w_HB_command S Pn X) (hX : ∀ E u, X E u → (E = "java/lang/IllegalArgumentException" ∧ Px 1 u)) : Met l y_L_command (Cond.codeWith y_L_command method_6_code 3 (some FieldType.int) [((0 : Nat), (8 : Nat), (11 : Nat), (19 : Nat))] :: tT) (gRm 7 1 6 103) (lPc (wL D cB cI cH cF cL n) [.ref (ad (bk1 D cB cI cH cF n) 0), .ref (n + 116)] (S, T, o)) (zQ (wL D cB cI cH cF cL n) (zPi (lP Pn Px T o))) 1 6 (fun q => n ≤ q) := by
  refine va_MetW (cc := method_6_code) (maxL := 3) (ret := some FieldType.int) rfl rfl ?_
  intro p e s m args below meth c s₁ B hml hv
  obtain ⟨rfl, ⟨hO, hP⟩, hnc⟩ := hv
  have hts0 := atoms_spec (ws := Cond.codeWith y_L_command method_6_code 3 (some FieldType.int) [((0 : Nat), (8 : Nat), (11 : Nat), (19 : Nat))] :: tT) B.pre
  have hts : ∀ w ∈ tT, w.before ([.ref (ad (bk1 D cB cI cH cF n) 0), .ref (n + 116)] : List Value).toArray s = true := fun w hw => hts0 w (List.mem_cons_of_mem _ hw)
  have htab := vx_table (x := y_HB_put) B (hts0 _ List.mem_cons_self)
  have hown : s.vm.findClass "HostBenchLaw" = some m.cls := findClass_of_methodNamed B.named
  have hl := lv_entry [.ref (ad (bk1 D cB cI cH cF n) 0), .ref (n + 116)] (n := 3) (Nat.le_of_ble_eq_true rfl)
  rw [lg_entry_eq]
  generalize (lg_sl [.ref (ad (bk1 D cB cI cH cF n) 0), .ref (n + 116)] ++ List.replicate (3 - (lg_sl [.ref (ad (bk1 D cB cI cH cF n) 0), .ref (n + 116)]).length) Slot.unset).toArray = ls at hl ⊢
  have C : zC (p, l, e, (headSpec (Cond.codeWith y_L_command method_6_code 3 (some FieldType.int) [((0 : Nat), (8 : Nat), (11 : Nat), (19 : Nat))] :: tT) (gRm 7 1 6 103)).room, s, m, ([.ref (ad (bk1 D cB cI cH cF n) 0), .ref (n + 116)] : List Value).toArray, below, meth, c, 3, MQ below (zQ (wL D cB cI cH cF cL n) (zPi (lP Pn Px T o))) ([.ref (ad (bk1 D cB cI cH cF n) 0), .ref (n + 116)] : List Value).toArray s 1 6 (fun q => n ≤ q), 0, 0) (wL D cB cI cH cF cL n) method_6_code "HostBenchLaw" 7 103 := ⟨B.exec, B.bytes, hml, hown, hts, hO, Nat.le_refl _, Nat.le_refl _, B.notSynchronized, Nat.zero_le _, Nat.zero_le _⟩
  have C1 : zC (p, l, e, (headSpec (Cond.codeWith y_L_command method_6_code 3 (some FieldType.int) [((0 : Nat), (8 : Nat), (11 : Nat), (19 : Nat))] :: tT) (gRm 7 1 6 103)).room, s, m, ([.ref (ad (bk1 D cB cI cH cF n) 0), .ref (n + 116)] : List Value).toArray, below, meth, c, 3, MQ below (zQ (wL D cB cI cH cF cL n) (zPi (lP Pn Px T o))) ([.ref (ad (bk1 D cB cI cH cF n) 0), .ref (n + 116)] : List Value).toArray s 1 6 (fun q => n ≤ q), 0 + 1, 0 + 6) (wL D cB cI cH cF cL n) method_6_code "HostBenchLaw" 7 103 := ⟨B.exec, B.bytes, hml, hown, hts, hO, Nat.le_refl _, Nat.le_refl _, B.notSynchronized, Nat.le_refl _, Nat.le_refl _⟩
  suffices K : zV (p, l, e, (headSpec (Cond.codeWith y_L_command method_6_code 3 (some FieldType.int) [((0 : Nat), (8 : Nat), (11 : Nat), (19 : Nat))] :: tT) (gRm 7 1 6 103)).room, s, m, ([.ref (ad (bk1 D cB cI cH cF n) 0), .ref (n + 116)] : List Value).toArray, below, meth, c, 3, MQ below (zQ (wL D cB cI cH cF cL n) (zPi (lP Pn Px T o))) ([.ref (ad (bk1 D cB cI cH cF n) 0), .ref (n + 116)] : List Value).toArray s 1 6 (fun q => n ≤ q), 0, 0) (wL D cB cI cH cF cL n) (S, T, o) 0 [(0, .ref (ad (bk1 D cB cI cH cF n) 0)), (1, .ref (n + 116))] [] from K s.heap [] ls hP va_S.rf hl
  refine z_aload_n C 1 rfl rfl d_L_command_0 ?_
  refine z_iconst (v := 0) C (by decide) d_L_command_1 ?_
  refine z_aload_n C 0 rfl rfl d_L_command_2 ?_
  refine z_partX (f := fun u => (u, T, o)) (rest := [.int 0, .ref (n + 116)]) (As := []) (k9 := 0) C (Nat.le_refl 1) (Nat.le_refl 6) (pt_C D cB cI cH cF cL n S T o) ⟨tw_621, tw_622, tw_76, tw_623, ⟨by decide, by decide, by decide +kernel⟩⟩ tw_620 (c_HB_command l hst (bk1 D cB cI cH cF n) S Pn X hw) ⟨9, 0, _, TX9, 8, rfl, rfl⟩ ⟨by decide, by decide⟩ rfl rfl (Nat.le_of_ble_eq_true rfl) d_L_command_3 (fun Ec u H1 locs1 ls q9 ce hx g1 g2 g3 h9 hv hcl => ?_) (fun x u hu => ?_)
  · obtain ⟨rfl, hpx⟩ := hX Ec u hx
    refine vx_catch (own := "HostBenchLaw") (name := "java/lang/IllegalArgumentException") hown [] ⟨0, 8, 11, 19⟩ [] htab (fun z hz => by cases hz) rfl (by decide) (hts _ tw_524) (va_Nw.use rfl (hO.2.2.2.1 _ (by decide))) h9 hv hcl ?_
    suffices K : zV (p, l, e, (headSpec (Cond.codeWith y_L_command method_6_code 3 (some FieldType.int) [((0 : Nat), (8 : Nat), (11 : Nat), (19 : Nat))] :: tT) (gRm 7 1 6 103)).room, s, m, ([.ref (ad (bk1 D cB cI cH cF n) 0), .ref (n + 116)] : List Value).toArray, below, meth, c, 3, MQ below (zQ (wL D cB cI cH cF cL n) (zPi (lP Pn Px T o))) ([.ref (ad (bk1 D cB cI cH cF n) 0), .ref (n + 116)] : List Value).toArray s 1 6 (fun q => n ≤ q), 0 + 1, 0 + 6) (wL D cB cI cH cF cL n) (u, T, o) 11 [(0, .ref (ad (bk1 D cB cI cH cF n) 0)), (1, .ref (n + 116))] [.ref q9] from K H1 locs1 ls g1 g2 g3
    refine z_astore_n (nl := 3) (i := 2) C1 rfl rfl (by decide) rfl d_L_command_11 ?_
    refine z_iconst (v := 1) C1 (by decide) d_L_command_12 ?_
    exact z_ireturn C1 rfl B.returns (Or.inr ⟨1, by decide, by decide, rfl, hpx, rfl⟩) d_L_command_13
  · obtain ⟨rv, rfl, hp⟩ := hu
    refine z_i2l C1 d_L_command_6 ?_
    refine z_last C1 d_L_command_7 ?_
    refine z_goto (tgt := 14) C1 d_L_command_8 rfl ?_
    refine z_iconst (v := 0) C1 (by decide) d_L_command_14 ?_
    exact z_ireturn C1 rfl B.returns (Or.inl ⟨rfl, rv, hp, rfl⟩) d_L_command_15
set_option maxRecDepth 4000 in
theorem v_run (l : Launch) (hst : l.stackTraces = false) (D : va_G) (cB cI cH cF cL : ClassId) (n : Nat) (p0 : Int32) (S T : zS) (o : Int64) (Pn : zS → Int32 → Prop) (X : String → zS → Prop) (Px : Nat → zS → Prop) (hw : w_HB_run p0 S Pn X) (hX : ∀ E u, X E u → (E = "java/lang/IllegalArgumentException" ∧ Px 1 u)) : Met l y_L_run (Cond.codeWith y_L_run method_7_code 4 (some FieldType.int) [((0 : Nat), (9 : Nat), (12 : Nat), (19 : Nat))] :: tT) (gRm 8 1 6 177) (lPc (wL D cB cI cH cF cL n) [.ref (ad (bk1 D cB cI cH cF n) 0), .int p0, .ref (n + 116)] (S, T, o)) (zQ (wL D cB cI cH cF cL n) (zPi (lP Pn Px T o))) 1 6 (fun q => n ≤ q) := by
  refine va_MetW (cc := method_7_code) (maxL := 4) (ret := some FieldType.int) rfl rfl ?_
  intro p e s m args below meth c s₁ B hml hv
  obtain ⟨rfl, ⟨hO, hP⟩, hnc⟩ := hv
  have hts0 := atoms_spec (ws := Cond.codeWith y_L_run method_7_code 4 (some FieldType.int) [((0 : Nat), (9 : Nat), (12 : Nat), (19 : Nat))] :: tT) B.pre
  have hts : ∀ w ∈ tT, w.before ([.ref (ad (bk1 D cB cI cH cF n) 0), .int p0, .ref (n + 116)] : List Value).toArray s = true := fun w hw => hts0 w (List.mem_cons_of_mem _ hw)
  have htab := vx_table (x := y_HB_put) B (hts0 _ List.mem_cons_self)
  have hown : s.vm.findClass "HostBenchLaw" = some m.cls := findClass_of_methodNamed B.named
  have hl := lv_entry [.ref (ad (bk1 D cB cI cH cF n) 0), .int p0, .ref (n + 116)] (n := 4) (Nat.le_of_ble_eq_true rfl)
  rw [lg_entry_eq]
  generalize (lg_sl [.ref (ad (bk1 D cB cI cH cF n) 0), .int p0, .ref (n + 116)] ++ List.replicate (4 - (lg_sl [.ref (ad (bk1 D cB cI cH cF n) 0), .int p0, .ref (n + 116)]).length) Slot.unset).toArray = ls at hl ⊢
  have C : zC (p, l, e, (headSpec (Cond.codeWith y_L_run method_7_code 4 (some FieldType.int) [((0 : Nat), (9 : Nat), (12 : Nat), (19 : Nat))] :: tT) (gRm 8 1 6 177)).room, s, m, ([.ref (ad (bk1 D cB cI cH cF n) 0), .int p0, .ref (n + 116)] : List Value).toArray, below, meth, c, 4, MQ below (zQ (wL D cB cI cH cF cL n) (zPi (lP Pn Px T o))) ([.ref (ad (bk1 D cB cI cH cF n) 0), .int p0, .ref (n + 116)] : List Value).toArray s 1 6 (fun q => n ≤ q), 0, 0) (wL D cB cI cH cF cL n) method_7_code "HostBenchLaw" 8 177 := ⟨B.exec, B.bytes, hml, hown, hts, hO, Nat.le_refl _, Nat.le_refl _, B.notSynchronized, Nat.zero_le _, Nat.zero_le _⟩
  have C1 : zC (p, l, e, (headSpec (Cond.codeWith y_L_run method_7_code 4 (some FieldType.int) [((0 : Nat), (9 : Nat), (12 : Nat), (19 : Nat))] :: tT) (gRm 8 1 6 177)).room, s, m, ([.ref (ad (bk1 D cB cI cH cF n) 0), .int p0, .ref (n + 116)] : List Value).toArray, below, meth, c, 4, MQ below (zQ (wL D cB cI cH cF cL n) (zPi (lP Pn Px T o))) ([.ref (ad (bk1 D cB cI cH cF n) 0), .int p0, .ref (n + 116)] : List Value).toArray s 1 6 (fun q => n ≤ q), 0 + 1, 0 + 6) (wL D cB cI cH cF cL n) method_7_code "HostBenchLaw" 8 177 := ⟨B.exec, B.bytes, hml, hown, hts, hO, Nat.le_refl _, Nat.le_refl _, B.notSynchronized, Nat.le_refl _, Nat.le_refl _⟩
  suffices K : zV (p, l, e, (headSpec (Cond.codeWith y_L_run method_7_code 4 (some FieldType.int) [((0 : Nat), (9 : Nat), (12 : Nat), (19 : Nat))] :: tT) (gRm 8 1 6 177)).room, s, m, ([.ref (ad (bk1 D cB cI cH cF n) 0), .int p0, .ref (n + 116)] : List Value).toArray, below, meth, c, 4, MQ below (zQ (wL D cB cI cH cF cL n) (zPi (lP Pn Px T o))) ([.ref (ad (bk1 D cB cI cH cF n) 0), .int p0, .ref (n + 116)] : List Value).toArray s 1 6 (fun q => n ≤ q), 0, 0) (wL D cB cI cH cF cL n) (S, T, o) 0 [(0, .ref (ad (bk1 D cB cI cH cF n) 0)), (1, .int p0), (2, .ref (n + 116))] [] from K s.heap [] ls hP va_S.rf hl
  refine z_aload_n C 2 rfl rfl d_L_run_0 ?_
  refine z_iconst (v := 0) C (by decide) d_L_run_1 ?_
  refine z_aload_n C 0 rfl rfl d_L_run_2 ?_
  refine z_iload_n C 1 rfl rfl d_L_run_3 ?_
  refine z_partX (f := fun u => (u, T, o)) (rest := [.int 0, .ref (n + 116)]) (As := [.int p0]) (k9 := 1) C (Nat.le_refl 1) (Nat.le_refl 6) (pt_C D cB cI cH cF cL n S T o) ⟨tw_629, tw_630, tw_76, tw_631, ⟨by decide, by decide, by decide +kernel⟩⟩ tw_628 (c_HB_run l hst (bk1 D cB cI cH cF n) p0 S Pn X hw) ⟨9, 0, _, TX9, 8, rfl, rfl⟩ ⟨by decide, by decide⟩ rfl rfl (Nat.le_of_ble_eq_true rfl) d_L_run_4 (fun Ec u H1 locs1 ls q9 ce hx g1 g2 g3 h9 hv hcl => ?_) (fun x u hu => ?_)
  · obtain ⟨rfl, hpx⟩ := hX Ec u hx
    refine vx_catch (own := "HostBenchLaw") (name := "java/lang/IllegalArgumentException") hown [] ⟨0, 9, 12, 19⟩ [] htab (fun z hz => by cases hz) rfl (by decide) (hts _ tw_524) (va_Nw.use rfl (hO.2.2.2.1 _ (by decide))) h9 hv hcl ?_
    suffices K : zV (p, l, e, (headSpec (Cond.codeWith y_L_run method_7_code 4 (some FieldType.int) [((0 : Nat), (9 : Nat), (12 : Nat), (19 : Nat))] :: tT) (gRm 8 1 6 177)).room, s, m, ([.ref (ad (bk1 D cB cI cH cF n) 0), .int p0, .ref (n + 116)] : List Value).toArray, below, meth, c, 4, MQ below (zQ (wL D cB cI cH cF cL n) (zPi (lP Pn Px T o))) ([.ref (ad (bk1 D cB cI cH cF n) 0), .int p0, .ref (n + 116)] : List Value).toArray s 1 6 (fun q => n ≤ q), 0 + 1, 0 + 6) (wL D cB cI cH cF cL n) (u, T, o) 12 [(0, .ref (ad (bk1 D cB cI cH cF n) 0)), (1, .int p0), (2, .ref (n + 116))] [.ref q9] from K H1 locs1 ls g1 g2 g3
    refine z_astore_n (nl := 4) (i := 3) C1 rfl rfl (by decide) rfl d_L_run_12 ?_
    refine z_iconst (v := 1) C1 (by decide) d_L_run_13 ?_
    exact z_ireturn C1 rfl B.returns (Or.inr ⟨1, by decide, by decide, rfl, hpx, rfl⟩) d_L_run_14
  · obtain ⟨rv, rfl, hp⟩ := hu
    refine z_i2l C1 d_L_run_7 ?_
    refine z_last C1 d_L_run_8 ?_
    refine z_goto (tgt := 15) C1 d_L_run_9 rfl ?_
    refine z_iconst (v := 0) C1 (by decide) d_L_run_15 ?_
    exact z_ireturn C1 rfl B.returns (Or.inl ⟨rfl, rv, hp, rfl⟩) d_L_run_16
set_option maxRecDepth 4000 in
theorem v_look (l : Launch) (hst : l.stackTraces = false) (D : va_G) (cB cI cH cF cL : ClassId) (n : Nat) (p0 : Int32) (S T : zS) (o : Int64) (Pn : zS → Int32 → Prop) (X : String → zS → Prop) (Px : Nat → zS → Prop) (hw : w_HB_look p0 S Pn X) (hX : ∀ E u, X E u → (E = "java/util/NoSuchElementException" ∧ Px 1 u)) : Met l y_L_look (Cond.codeWith y_L_look method_8_code 4 (some FieldType.int) [((0 : Nat), (9 : Nat), (12 : Nat), (37 : Nat))] :: tT) (gRm 7 1 6 103) (lPc (wL D cB cI cH cF cL n) [.ref (ad (bk1 D cB cI cH cF n) 0), .int p0, .ref (n + 116)] (S, T, o)) (zQ (wL D cB cI cH cF cL n) (zPi (lP Pn Px T o))) 1 6 (fun q => n ≤ q) := by
  refine va_MetW (cc := method_8_code) (maxL := 4) (ret := some FieldType.int) rfl rfl ?_
  intro p e s m args below meth c s₁ B hml hv
  obtain ⟨rfl, ⟨hO, hP⟩, hnc⟩ := hv
  have hts0 := atoms_spec (ws := Cond.codeWith y_L_look method_8_code 4 (some FieldType.int) [((0 : Nat), (9 : Nat), (12 : Nat), (37 : Nat))] :: tT) B.pre
  have hts : ∀ w ∈ tT, w.before ([.ref (ad (bk1 D cB cI cH cF n) 0), .int p0, .ref (n + 116)] : List Value).toArray s = true := fun w hw => hts0 w (List.mem_cons_of_mem _ hw)
  have htab := vx_table (x := y_HB_put) B (hts0 _ List.mem_cons_self)
  have hown : s.vm.findClass "HostBenchLaw" = some m.cls := findClass_of_methodNamed B.named
  have hl := lv_entry [.ref (ad (bk1 D cB cI cH cF n) 0), .int p0, .ref (n + 116)] (n := 4) (Nat.le_of_ble_eq_true rfl)
  rw [lg_entry_eq]
  generalize (lg_sl [.ref (ad (bk1 D cB cI cH cF n) 0), .int p0, .ref (n + 116)] ++ List.replicate (4 - (lg_sl [.ref (ad (bk1 D cB cI cH cF n) 0), .int p0, .ref (n + 116)]).length) Slot.unset).toArray = ls at hl ⊢
  have C : zC (p, l, e, (headSpec (Cond.codeWith y_L_look method_8_code 4 (some FieldType.int) [((0 : Nat), (9 : Nat), (12 : Nat), (37 : Nat))] :: tT) (gRm 7 1 6 103)).room, s, m, ([.ref (ad (bk1 D cB cI cH cF n) 0), .int p0, .ref (n + 116)] : List Value).toArray, below, meth, c, 4, MQ below (zQ (wL D cB cI cH cF cL n) (zPi (lP Pn Px T o))) ([.ref (ad (bk1 D cB cI cH cF n) 0), .int p0, .ref (n + 116)] : List Value).toArray s 1 6 (fun q => n ≤ q), 0, 0) (wL D cB cI cH cF cL n) method_8_code "HostBenchLaw" 7 103 := ⟨B.exec, B.bytes, hml, hown, hts, hO, Nat.le_refl _, Nat.le_refl _, B.notSynchronized, Nat.zero_le _, Nat.zero_le _⟩
  have C1 : zC (p, l, e, (headSpec (Cond.codeWith y_L_look method_8_code 4 (some FieldType.int) [((0 : Nat), (9 : Nat), (12 : Nat), (37 : Nat))] :: tT) (gRm 7 1 6 103)).room, s, m, ([.ref (ad (bk1 D cB cI cH cF n) 0), .int p0, .ref (n + 116)] : List Value).toArray, below, meth, c, 4, MQ below (zQ (wL D cB cI cH cF cL n) (zPi (lP Pn Px T o))) ([.ref (ad (bk1 D cB cI cH cF n) 0), .int p0, .ref (n + 116)] : List Value).toArray s 1 6 (fun q => n ≤ q), 0 + 1, 0 + 6) (wL D cB cI cH cF cL n) method_8_code "HostBenchLaw" 7 103 := ⟨B.exec, B.bytes, hml, hown, hts, hO, Nat.le_refl _, Nat.le_refl _, B.notSynchronized, Nat.le_refl _, Nat.le_refl _⟩
  suffices K : zV (p, l, e, (headSpec (Cond.codeWith y_L_look method_8_code 4 (some FieldType.int) [((0 : Nat), (9 : Nat), (12 : Nat), (37 : Nat))] :: tT) (gRm 7 1 6 103)).room, s, m, ([.ref (ad (bk1 D cB cI cH cF n) 0), .int p0, .ref (n + 116)] : List Value).toArray, below, meth, c, 4, MQ below (zQ (wL D cB cI cH cF cL n) (zPi (lP Pn Px T o))) ([.ref (ad (bk1 D cB cI cH cF n) 0), .int p0, .ref (n + 116)] : List Value).toArray s 1 6 (fun q => n ≤ q), 0, 0) (wL D cB cI cH cF cL n) (S, T, o) 0 [(0, .ref (ad (bk1 D cB cI cH cF n) 0)), (1, .int p0), (2, .ref (n + 116))] [] from K s.heap [] ls hP va_S.rf hl
  refine z_aload_n C 2 rfl rfl d_L_look_0 ?_
  refine z_iconst (v := 0) C (by decide) d_L_look_1 ?_
  refine z_aload_n C 0 rfl rfl d_L_look_2 ?_
  refine z_iload_n C 1 rfl rfl d_L_look_3 ?_
  refine z_partX (f := fun u => (u, T, o)) (rest := [.int 0, .ref (n + 116)]) (As := [.int p0]) (k9 := 1) C (Nat.le_refl 1) (Nat.le_refl 6) (pt_C D cB cI cH cF cL n S T o) ⟨tw_932, tw_933, tw_76, tw_934, ⟨by decide, by decide, by decide +kernel⟩⟩ tw_931 (c_HB_look l hst (bk1 D cB cI cH cF n) p0 S Pn X hw) ⟨9, 0, _, TX9, 8, rfl, rfl⟩ ⟨by decide, by decide⟩ rfl rfl (Nat.le_of_ble_eq_true rfl) d_L_look_4 (fun Ec u H1 locs1 ls q9 ce hx g1 g2 g3 h9 hv hcl => ?_) (fun x u hu => ?_)
  · obtain ⟨rfl, hpx⟩ := hX Ec u hx
    refine vx_catch (own := "HostBenchLaw") (name := "java/util/NoSuchElementException") hown [] ⟨0, 9, 12, 37⟩ [] htab (fun z hz => by cases hz) rfl (by decide) (hts _ tw_930) (va_Nw.use rfl (hO.2.2.2.1 _ (by decide))) h9 hv hcl ?_
    suffices K : zV (p, l, e, (headSpec (Cond.codeWith y_L_look method_8_code 4 (some FieldType.int) [((0 : Nat), (9 : Nat), (12 : Nat), (37 : Nat))] :: tT) (gRm 7 1 6 103)).room, s, m, ([.ref (ad (bk1 D cB cI cH cF n) 0), .int p0, .ref (n + 116)] : List Value).toArray, below, meth, c, 4, MQ below (zQ (wL D cB cI cH cF cL n) (zPi (lP Pn Px T o))) ([.ref (ad (bk1 D cB cI cH cF n) 0), .int p0, .ref (n + 116)] : List Value).toArray s 1 6 (fun q => n ≤ q), 0 + 1, 0 + 6) (wL D cB cI cH cF cL n) (u, T, o) 12 [(0, .ref (ad (bk1 D cB cI cH cF n) 0)), (1, .int p0), (2, .ref (n + 116))] [.ref q9] from K H1 locs1 ls g1 g2 g3
    refine z_astore_n (nl := 4) (i := 3) C1 rfl rfl (by decide) rfl d_L_look_12 ?_
    refine z_iconst (v := 1) C1 (by decide) d_L_look_13 ?_
    exact z_ireturn C1 rfl B.returns (Or.inr ⟨1, by decide, by decide, rfl, hpx, rfl⟩) d_L_look_14
  · obtain ⟨rv, rfl, hp⟩ := hu
    refine z_i2l C1 d_L_look_7 ?_
    refine z_last C1 d_L_look_8 ?_
    refine z_goto (tgt := 15) C1 d_L_look_9 rfl ?_
    refine z_iconst (v := 0) C1 (by decide) d_L_look_15 ?_
    exact z_ireturn C1 rfl B.returns (Or.inl ⟨rfl, rv, hp, rfl⟩) d_L_look_16
set_option maxRecDepth 4000 in
theorem v_register (l : Launch) (hst : l.stackTraces = false) (D : va_G) (cB cI cH cF cL : ClassId) (n : Nat) (p0 : Int32) (S T : zS) (o : Int64) (Pn : zS → Int32 → Prop) (X : String → zS → Prop) (Px : Nat → zS → Prop) (hw : w_HB_register p0 S Pn X) (hX : ∀ E u, X E u → (E = "java/util/NoSuchElementException" ∧ Px 1 u)) : Met l y_L_register (Cond.codeWith y_L_register method_9_code 4 (some FieldType.int) [((0 : Nat), (9 : Nat), (12 : Nat), (37 : Nat))] :: tT) (gRm 7 1 6 103) (lPc (wL D cB cI cH cF cL n) [.ref (ad (bk1 D cB cI cH cF n) 0), .int p0, .ref (n + 116)] (S, T, o)) (zQ (wL D cB cI cH cF cL n) (zPi (lP Pn Px T o))) 1 6 (fun q => n ≤ q) := by
  refine va_MetW (cc := method_9_code) (maxL := 4) (ret := some FieldType.int) rfl rfl ?_
  intro p e s m args below meth c s₁ B hml hv
  obtain ⟨rfl, ⟨hO, hP⟩, hnc⟩ := hv
  have hts0 := atoms_spec (ws := Cond.codeWith y_L_register method_9_code 4 (some FieldType.int) [((0 : Nat), (9 : Nat), (12 : Nat), (37 : Nat))] :: tT) B.pre
  have hts : ∀ w ∈ tT, w.before ([.ref (ad (bk1 D cB cI cH cF n) 0), .int p0, .ref (n + 116)] : List Value).toArray s = true := fun w hw => hts0 w (List.mem_cons_of_mem _ hw)
  have htab := vx_table (x := y_HB_put) B (hts0 _ List.mem_cons_self)
  have hown : s.vm.findClass "HostBenchLaw" = some m.cls := findClass_of_methodNamed B.named
  have hl := lv_entry [.ref (ad (bk1 D cB cI cH cF n) 0), .int p0, .ref (n + 116)] (n := 4) (Nat.le_of_ble_eq_true rfl)
  rw [lg_entry_eq]
  generalize (lg_sl [.ref (ad (bk1 D cB cI cH cF n) 0), .int p0, .ref (n + 116)] ++ List.replicate (4 - (lg_sl [.ref (ad (bk1 D cB cI cH cF n) 0), .int p0, .ref (n + 116)]).length) Slot.unset).toArray = ls at hl ⊢
  have C : zC (p, l, e, (headSpec (Cond.codeWith y_L_register method_9_code 4 (some FieldType.int) [((0 : Nat), (9 : Nat), (12 : Nat), (37 : Nat))] :: tT) (gRm 7 1 6 103)).room, s, m, ([.ref (ad (bk1 D cB cI cH cF n) 0), .int p0, .ref (n + 116)] : List Value).toArray, below, meth, c, 4, MQ below (zQ (wL D cB cI cH cF cL n) (zPi (lP Pn Px T o))) ([.ref (ad (bk1 D cB cI cH cF n) 0), .int p0, .ref (n + 116)] : List Value).toArray s 1 6 (fun q => n ≤ q), 0, 0) (wL D cB cI cH cF cL n) method_9_code "HostBenchLaw" 7 103 := ⟨B.exec, B.bytes, hml, hown, hts, hO, Nat.le_refl _, Nat.le_refl _, B.notSynchronized, Nat.zero_le _, Nat.zero_le _⟩
  have C1 : zC (p, l, e, (headSpec (Cond.codeWith y_L_register method_9_code 4 (some FieldType.int) [((0 : Nat), (9 : Nat), (12 : Nat), (37 : Nat))] :: tT) (gRm 7 1 6 103)).room, s, m, ([.ref (ad (bk1 D cB cI cH cF n) 0), .int p0, .ref (n + 116)] : List Value).toArray, below, meth, c, 4, MQ below (zQ (wL D cB cI cH cF cL n) (zPi (lP Pn Px T o))) ([.ref (ad (bk1 D cB cI cH cF n) 0), .int p0, .ref (n + 116)] : List Value).toArray s 1 6 (fun q => n ≤ q), 0 + 1, 0 + 6) (wL D cB cI cH cF cL n) method_9_code "HostBenchLaw" 7 103 := ⟨B.exec, B.bytes, hml, hown, hts, hO, Nat.le_refl _, Nat.le_refl _, B.notSynchronized, Nat.le_refl _, Nat.le_refl _⟩
  suffices K : zV (p, l, e, (headSpec (Cond.codeWith y_L_register method_9_code 4 (some FieldType.int) [((0 : Nat), (9 : Nat), (12 : Nat), (37 : Nat))] :: tT) (gRm 7 1 6 103)).room, s, m, ([.ref (ad (bk1 D cB cI cH cF n) 0), .int p0, .ref (n + 116)] : List Value).toArray, below, meth, c, 4, MQ below (zQ (wL D cB cI cH cF cL n) (zPi (lP Pn Px T o))) ([.ref (ad (bk1 D cB cI cH cF n) 0), .int p0, .ref (n + 116)] : List Value).toArray s 1 6 (fun q => n ≤ q), 0, 0) (wL D cB cI cH cF cL n) (S, T, o) 0 [(0, .ref (ad (bk1 D cB cI cH cF n) 0)), (1, .int p0), (2, .ref (n + 116))] [] from K s.heap [] ls hP va_S.rf hl
  refine z_aload_n C 2 rfl rfl d_L_register_0 ?_
  refine z_iconst (v := 0) C (by decide) d_L_register_1 ?_
  refine z_aload_n C 0 rfl rfl d_L_register_2 ?_
  refine z_iload_n C 1 rfl rfl d_L_register_3 ?_
  refine z_partX (f := fun u => (u, T, o)) (rest := [.int 0, .ref (n + 116)]) (As := [.int p0]) (k9 := 1) C (Nat.le_refl 1) (Nat.le_refl 6) (pt_C D cB cI cH cF cL n S T o) ⟨tw_955, tw_956, tw_76, tw_957, ⟨by decide, by decide, by decide +kernel⟩⟩ tw_954 (c_HB_register l hst (bk1 D cB cI cH cF n) p0 S Pn X hw) ⟨9, 0, _, TX9, 8, rfl, rfl⟩ ⟨by decide, by decide⟩ rfl rfl (Nat.le_of_ble_eq_true rfl) d_L_register_4 (fun Ec u H1 locs1 ls q9 ce hx g1 g2 g3 h9 hv hcl => ?_) (fun x u hu => ?_)
  · obtain ⟨rfl, hpx⟩ := hX Ec u hx
    refine vx_catch (own := "HostBenchLaw") (name := "java/util/NoSuchElementException") hown [] ⟨0, 9, 12, 37⟩ [] htab (fun z hz => by cases hz) rfl (by decide) (hts _ tw_930) (va_Nw.use rfl (hO.2.2.2.1 _ (by decide))) h9 hv hcl ?_
    suffices K : zV (p, l, e, (headSpec (Cond.codeWith y_L_register method_9_code 4 (some FieldType.int) [((0 : Nat), (9 : Nat), (12 : Nat), (37 : Nat))] :: tT) (gRm 7 1 6 103)).room, s, m, ([.ref (ad (bk1 D cB cI cH cF n) 0), .int p0, .ref (n + 116)] : List Value).toArray, below, meth, c, 4, MQ below (zQ (wL D cB cI cH cF cL n) (zPi (lP Pn Px T o))) ([.ref (ad (bk1 D cB cI cH cF n) 0), .int p0, .ref (n + 116)] : List Value).toArray s 1 6 (fun q => n ≤ q), 0 + 1, 0 + 6) (wL D cB cI cH cF cL n) (u, T, o) 12 [(0, .ref (ad (bk1 D cB cI cH cF n) 0)), (1, .int p0), (2, .ref (n + 116))] [.ref q9] from K H1 locs1 ls g1 g2 g3
    refine z_astore_n (nl := 4) (i := 3) C1 rfl rfl (by decide) rfl d_L_register_12 ?_
    refine z_iconst (v := 1) C1 (by decide) d_L_register_13 ?_
    exact z_ireturn C1 rfl B.returns (Or.inr ⟨1, by decide, by decide, rfl, hpx, rfl⟩) d_L_register_14
  · obtain ⟨rv, rfl, hp⟩ := hu
    refine z_i2l C1 d_L_register_7 ?_
    refine z_last C1 d_L_register_8 ?_
    refine z_goto (tgt := 15) C1 d_L_register_9 rfl ?_
    refine z_iconst (v := 0) C1 (by decide) d_L_register_15 ?_
    exact z_ireturn C1 rfl B.returns (Or.inl ⟨rfl, rv, hp, rfl⟩) d_L_register_16
set_option maxRecDepth 4000 in
theorem v_file (l : Launch) (hst : l.stackTraces = false) (D : va_G) (cB cI cH cF cL : ClassId) (n : Nat) (p0 : Int32) (p1 : Int32) (S T : zS) (o : Int64) (Pn : zS → Int32 → Prop) (X : String → zS → Prop) (Px : Nat → zS → Prop) (hw : w_HB_file p0 p1 S Pn X) (hX : ∀ E u, X E u → (E = "java/util/NoSuchElementException" ∧ Px 1 u)) : Met l y_L_file (Cond.codeWith y_L_file method_10_code 5 (some FieldType.int) [((0 : Nat), (10 : Nat), (13 : Nat), (37 : Nat))] :: tT) (gRm 7 1 6 105) (lPc (wL D cB cI cH cF cL n) [.ref (ad (bk1 D cB cI cH cF n) 0), .int p0, .int p1, .ref (n + 116)] (S, T, o)) (zQ (wL D cB cI cH cF cL n) (zPi (lP Pn Px T o))) 1 6 (fun q => n ≤ q) := by
  refine va_MetW (cc := method_10_code) (maxL := 5) (ret := some FieldType.int) rfl rfl ?_
  intro p e s m args below meth c s₁ B hml hv
  obtain ⟨rfl, ⟨hO, hP⟩, hnc⟩ := hv
  have hts0 := atoms_spec (ws := Cond.codeWith y_L_file method_10_code 5 (some FieldType.int) [((0 : Nat), (10 : Nat), (13 : Nat), (37 : Nat))] :: tT) B.pre
  have hts : ∀ w ∈ tT, w.before ([.ref (ad (bk1 D cB cI cH cF n) 0), .int p0, .int p1, .ref (n + 116)] : List Value).toArray s = true := fun w hw => hts0 w (List.mem_cons_of_mem _ hw)
  have htab := vx_table (x := y_HB_put) B (hts0 _ List.mem_cons_self)
  have hown : s.vm.findClass "HostBenchLaw" = some m.cls := findClass_of_methodNamed B.named
  have hl := lv_entry [.ref (ad (bk1 D cB cI cH cF n) 0), .int p0, .int p1, .ref (n + 116)] (n := 5) (Nat.le_of_ble_eq_true rfl)
  rw [lg_entry_eq]
  generalize (lg_sl [.ref (ad (bk1 D cB cI cH cF n) 0), .int p0, .int p1, .ref (n + 116)] ++ List.replicate (5 - (lg_sl [.ref (ad (bk1 D cB cI cH cF n) 0), .int p0, .int p1, .ref (n + 116)]).length) Slot.unset).toArray = ls at hl ⊢
  have C : zC (p, l, e, (headSpec (Cond.codeWith y_L_file method_10_code 5 (some FieldType.int) [((0 : Nat), (10 : Nat), (13 : Nat), (37 : Nat))] :: tT) (gRm 7 1 6 105)).room, s, m, ([.ref (ad (bk1 D cB cI cH cF n) 0), .int p0, .int p1, .ref (n + 116)] : List Value).toArray, below, meth, c, 5, MQ below (zQ (wL D cB cI cH cF cL n) (zPi (lP Pn Px T o))) ([.ref (ad (bk1 D cB cI cH cF n) 0), .int p0, .int p1, .ref (n + 116)] : List Value).toArray s 1 6 (fun q => n ≤ q), 0, 0) (wL D cB cI cH cF cL n) method_10_code "HostBenchLaw" 7 105 := ⟨B.exec, B.bytes, hml, hown, hts, hO, Nat.le_refl _, Nat.le_refl _, B.notSynchronized, Nat.zero_le _, Nat.zero_le _⟩
  have C1 : zC (p, l, e, (headSpec (Cond.codeWith y_L_file method_10_code 5 (some FieldType.int) [((0 : Nat), (10 : Nat), (13 : Nat), (37 : Nat))] :: tT) (gRm 7 1 6 105)).room, s, m, ([.ref (ad (bk1 D cB cI cH cF n) 0), .int p0, .int p1, .ref (n + 116)] : List Value).toArray, below, meth, c, 5, MQ below (zQ (wL D cB cI cH cF cL n) (zPi (lP Pn Px T o))) ([.ref (ad (bk1 D cB cI cH cF n) 0), .int p0, .int p1, .ref (n + 116)] : List Value).toArray s 1 6 (fun q => n ≤ q), 0 + 1, 0 + 6) (wL D cB cI cH cF cL n) method_10_code "HostBenchLaw" 7 105 := ⟨B.exec, B.bytes, hml, hown, hts, hO, Nat.le_refl _, Nat.le_refl _, B.notSynchronized, Nat.le_refl _, Nat.le_refl _⟩
  suffices K : zV (p, l, e, (headSpec (Cond.codeWith y_L_file method_10_code 5 (some FieldType.int) [((0 : Nat), (10 : Nat), (13 : Nat), (37 : Nat))] :: tT) (gRm 7 1 6 105)).room, s, m, ([.ref (ad (bk1 D cB cI cH cF n) 0), .int p0, .int p1, .ref (n + 116)] : List Value).toArray, below, meth, c, 5, MQ below (zQ (wL D cB cI cH cF cL n) (zPi (lP Pn Px T o))) ([.ref (ad (bk1 D cB cI cH cF n) 0), .int p0, .int p1, .ref (n + 116)] : List Value).toArray s 1 6 (fun q => n ≤ q), 0, 0) (wL D cB cI cH cF cL n) (S, T, o) 0 [(0, .ref (ad (bk1 D cB cI cH cF n) 0)), (1, .int p0), (2, .int p1), (3, .ref (n + 116))] [] from K s.heap [] ls hP va_S.rf hl
  refine z_aload_n C 3 rfl rfl d_L_file_0 ?_
  refine z_iconst (v := 0) C (by decide) d_L_file_1 ?_
  refine z_aload_n C 0 rfl rfl d_L_file_2 ?_
  refine z_iload_n C 1 rfl rfl d_L_file_3 ?_
  refine z_iload_n C 2 rfl rfl d_L_file_4 ?_
  refine z_partX (f := fun u => (u, T, o)) (rest := [.int 0, .ref (n + 116)]) (As := [.int p0, .int p1]) (k9 := 2) C (Nat.le_refl 1) (Nat.le_refl 6) (pt_C D cB cI cH cF cL n S T o) ⟨tw_964, tw_965, tw_76, tw_966, ⟨by decide, by decide, by decide +kernel⟩⟩ tw_963 (c_HB_file l hst (bk1 D cB cI cH cF n) p0 p1 S Pn X hw) ⟨9, 0, _, TX9, 8, rfl, rfl⟩ ⟨by decide, by decide⟩ rfl rfl (Nat.le_of_ble_eq_true rfl) d_L_file_5 (fun Ec u H1 locs1 ls q9 ce hx g1 g2 g3 h9 hv hcl => ?_) (fun x u hu => ?_)
  · obtain ⟨rfl, hpx⟩ := hX Ec u hx
    refine vx_catch (own := "HostBenchLaw") (name := "java/util/NoSuchElementException") hown [] ⟨0, 10, 13, 37⟩ [] htab (fun z hz => by cases hz) rfl (by decide) (hts _ tw_930) (va_Nw.use rfl (hO.2.2.2.1 _ (by decide))) h9 hv hcl ?_
    suffices K : zV (p, l, e, (headSpec (Cond.codeWith y_L_file method_10_code 5 (some FieldType.int) [((0 : Nat), (10 : Nat), (13 : Nat), (37 : Nat))] :: tT) (gRm 7 1 6 105)).room, s, m, ([.ref (ad (bk1 D cB cI cH cF n) 0), .int p0, .int p1, .ref (n + 116)] : List Value).toArray, below, meth, c, 5, MQ below (zQ (wL D cB cI cH cF cL n) (zPi (lP Pn Px T o))) ([.ref (ad (bk1 D cB cI cH cF n) 0), .int p0, .int p1, .ref (n + 116)] : List Value).toArray s 1 6 (fun q => n ≤ q), 0 + 1, 0 + 6) (wL D cB cI cH cF cL n) (u, T, o) 13 [(0, .ref (ad (bk1 D cB cI cH cF n) 0)), (1, .int p0), (2, .int p1), (3, .ref (n + 116))] [.ref q9] from K H1 locs1 ls g1 g2 g3
    refine z_astore (nl := 5) (i := 4) C1 rfl (by decide) rfl d_L_file_13 ?_
    refine z_iconst (v := 1) C1 (by decide) d_L_file_15 ?_
    exact z_ireturn C1 rfl B.returns (Or.inr ⟨1, by decide, by decide, rfl, hpx, rfl⟩) d_L_file_16
  · obtain ⟨rv, rfl, hp⟩ := hu
    refine z_i2l C1 d_L_file_8 ?_
    refine z_last C1 d_L_file_9 ?_
    refine z_goto (tgt := 17) C1 d_L_file_10 rfl ?_
    refine z_iconst (v := 0) C1 (by decide) d_L_file_17 ?_
    exact z_ireturn C1 rfl B.returns (Or.inl ⟨rfl, rv, hp, rfl⟩) d_L_file_18
set_option maxRecDepth 4000 in
theorem v_handle (l : Launch) (hst : l.stackTraces = false) (D : va_G) (cB cI cH cF cL : ClassId) (n : Nat) (p0 : Int32) (p1 : Int32) (S T : zS) (o : Int64) (Pn : zS → Int32 → Prop) (X : String → zS → Prop) (Px : Nat → zS → Prop) (hw : w_HB_handle p0 p1 S Pn X) (hX : ∀ E u, X E u → (E = "java/util/NoSuchElementException" ∧ Px 1 u)) : Met l y_L_handle (Cond.codeWith y_L_handle method_11_code 5 (some FieldType.int) [((0 : Nat), (10 : Nat), (13 : Nat), (37 : Nat))] :: tT) (gRm 7 1 6 105) (lPc (wL D cB cI cH cF cL n) [.ref (ad (bk1 D cB cI cH cF n) 0), .int p0, .int p1, .ref (n + 116)] (S, T, o)) (zQ (wL D cB cI cH cF cL n) (zPi (lP Pn Px T o))) 1 6 (fun q => n ≤ q) := by
  refine va_MetW (cc := method_11_code) (maxL := 5) (ret := some FieldType.int) rfl rfl ?_
  intro p e s m args below meth c s₁ B hml hv
  obtain ⟨rfl, ⟨hO, hP⟩, hnc⟩ := hv
  have hts0 := atoms_spec (ws := Cond.codeWith y_L_handle method_11_code 5 (some FieldType.int) [((0 : Nat), (10 : Nat), (13 : Nat), (37 : Nat))] :: tT) B.pre
  have hts : ∀ w ∈ tT, w.before ([.ref (ad (bk1 D cB cI cH cF n) 0), .int p0, .int p1, .ref (n + 116)] : List Value).toArray s = true := fun w hw => hts0 w (List.mem_cons_of_mem _ hw)
  have htab := vx_table (x := y_HB_put) B (hts0 _ List.mem_cons_self)
  have hown : s.vm.findClass "HostBenchLaw" = some m.cls := findClass_of_methodNamed B.named
  have hl := lv_entry [.ref (ad (bk1 D cB cI cH cF n) 0), .int p0, .int p1, .ref (n + 116)] (n := 5) (Nat.le_of_ble_eq_true rfl)
  rw [lg_entry_eq]
  generalize (lg_sl [.ref (ad (bk1 D cB cI cH cF n) 0), .int p0, .int p1, .ref (n + 116)] ++ List.replicate (5 - (lg_sl [.ref (ad (bk1 D cB cI cH cF n) 0), .int p0, .int p1, .ref (n + 116)]).length) Slot.unset).toArray = ls at hl ⊢
  have C : zC (p, l, e, (headSpec (Cond.codeWith y_L_handle method_11_code 5 (some FieldType.int) [((0 : Nat), (10 : Nat), (13 : Nat), (37 : Nat))] :: tT) (gRm 7 1 6 105)).room, s, m, ([.ref (ad (bk1 D cB cI cH cF n) 0), .int p0, .int p1, .ref (n + 116)] : List Value).toArray, below, meth, c, 5, MQ below (zQ (wL D cB cI cH cF cL n) (zPi (lP Pn Px T o))) ([.ref (ad (bk1 D cB cI cH cF n) 0), .int p0, .int p1, .ref (n + 116)] : List Value).toArray s 1 6 (fun q => n ≤ q), 0, 0) (wL D cB cI cH cF cL n) method_11_code "HostBenchLaw" 7 105 := ⟨B.exec, B.bytes, hml, hown, hts, hO, Nat.le_refl _, Nat.le_refl _, B.notSynchronized, Nat.zero_le _, Nat.zero_le _⟩
  have C1 : zC (p, l, e, (headSpec (Cond.codeWith y_L_handle method_11_code 5 (some FieldType.int) [((0 : Nat), (10 : Nat), (13 : Nat), (37 : Nat))] :: tT) (gRm 7 1 6 105)).room, s, m, ([.ref (ad (bk1 D cB cI cH cF n) 0), .int p0, .int p1, .ref (n + 116)] : List Value).toArray, below, meth, c, 5, MQ below (zQ (wL D cB cI cH cF cL n) (zPi (lP Pn Px T o))) ([.ref (ad (bk1 D cB cI cH cF n) 0), .int p0, .int p1, .ref (n + 116)] : List Value).toArray s 1 6 (fun q => n ≤ q), 0 + 1, 0 + 6) (wL D cB cI cH cF cL n) method_11_code "HostBenchLaw" 7 105 := ⟨B.exec, B.bytes, hml, hown, hts, hO, Nat.le_refl _, Nat.le_refl _, B.notSynchronized, Nat.le_refl _, Nat.le_refl _⟩
  suffices K : zV (p, l, e, (headSpec (Cond.codeWith y_L_handle method_11_code 5 (some FieldType.int) [((0 : Nat), (10 : Nat), (13 : Nat), (37 : Nat))] :: tT) (gRm 7 1 6 105)).room, s, m, ([.ref (ad (bk1 D cB cI cH cF n) 0), .int p0, .int p1, .ref (n + 116)] : List Value).toArray, below, meth, c, 5, MQ below (zQ (wL D cB cI cH cF cL n) (zPi (lP Pn Px T o))) ([.ref (ad (bk1 D cB cI cH cF n) 0), .int p0, .int p1, .ref (n + 116)] : List Value).toArray s 1 6 (fun q => n ≤ q), 0, 0) (wL D cB cI cH cF cL n) (S, T, o) 0 [(0, .ref (ad (bk1 D cB cI cH cF n) 0)), (1, .int p0), (2, .int p1), (3, .ref (n + 116))] [] from K s.heap [] ls hP va_S.rf hl
  refine z_aload_n C 3 rfl rfl d_L_handle_0 ?_
  refine z_iconst (v := 0) C (by decide) d_L_handle_1 ?_
  refine z_aload_n C 0 rfl rfl d_L_handle_2 ?_
  refine z_iload_n C 1 rfl rfl d_L_handle_3 ?_
  refine z_iload_n C 2 rfl rfl d_L_handle_4 ?_
  refine z_partX (f := fun u => (u, T, o)) (rest := [.int 0, .ref (n + 116)]) (As := [.int p0, .int p1]) (k9 := 2) C (Nat.le_refl 1) (Nat.le_refl 6) (pt_C D cB cI cH cF cL n S T o) ⟨tw_972, tw_973, tw_76, tw_974, ⟨by decide, by decide, by decide +kernel⟩⟩ tw_971 (c_HB_handle l hst (bk1 D cB cI cH cF n) p0 p1 S Pn X hw) ⟨9, 0, _, TX9, 8, rfl, rfl⟩ ⟨by decide, by decide⟩ rfl rfl (Nat.le_of_ble_eq_true rfl) d_L_handle_5 (fun Ec u H1 locs1 ls q9 ce hx g1 g2 g3 h9 hv hcl => ?_) (fun x u hu => ?_)
  · obtain ⟨rfl, hpx⟩ := hX Ec u hx
    refine vx_catch (own := "HostBenchLaw") (name := "java/util/NoSuchElementException") hown [] ⟨0, 10, 13, 37⟩ [] htab (fun z hz => by cases hz) rfl (by decide) (hts _ tw_930) (va_Nw.use rfl (hO.2.2.2.1 _ (by decide))) h9 hv hcl ?_
    suffices K : zV (p, l, e, (headSpec (Cond.codeWith y_L_handle method_11_code 5 (some FieldType.int) [((0 : Nat), (10 : Nat), (13 : Nat), (37 : Nat))] :: tT) (gRm 7 1 6 105)).room, s, m, ([.ref (ad (bk1 D cB cI cH cF n) 0), .int p0, .int p1, .ref (n + 116)] : List Value).toArray, below, meth, c, 5, MQ below (zQ (wL D cB cI cH cF cL n) (zPi (lP Pn Px T o))) ([.ref (ad (bk1 D cB cI cH cF n) 0), .int p0, .int p1, .ref (n + 116)] : List Value).toArray s 1 6 (fun q => n ≤ q), 0 + 1, 0 + 6) (wL D cB cI cH cF cL n) (u, T, o) 13 [(0, .ref (ad (bk1 D cB cI cH cF n) 0)), (1, .int p0), (2, .int p1), (3, .ref (n + 116))] [.ref q9] from K H1 locs1 ls g1 g2 g3
    refine z_astore (nl := 5) (i := 4) C1 rfl (by decide) rfl d_L_handle_13 ?_
    refine z_iconst (v := 1) C1 (by decide) d_L_handle_15 ?_
    exact z_ireturn C1 rfl B.returns (Or.inr ⟨1, by decide, by decide, rfl, hpx, rfl⟩) d_L_handle_16
  · obtain ⟨rv, rfl, hp⟩ := hu
    refine z_i2l C1 d_L_handle_8 ?_
    refine z_last C1 d_L_handle_9 ?_
    refine z_goto (tgt := 17) C1 d_L_handle_10 rfl ?_
    refine z_iconst (v := 0) C1 (by decide) d_L_handle_17 ?_
    exact z_ireturn C1 rfl B.returns (Or.inl ⟨rfl, rv, hp, rfl⟩) d_L_handle_18
