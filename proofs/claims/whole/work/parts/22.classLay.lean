/-! the class's lay -/
def zpos (t : List Int32) : Option Nat := t.findIdx? (fun v => v == 0)
theorem fzL_zpos (t : List Int32) : fzL t = match zpos t with | some i => nI i | none => -1 := rfl
theorem zpos_lt {t : List Int32} {z : Nat} (h : zpos t = some z) : z < t.length := by
  unfold zpos at h
  rw [List.findIdx?_eq_some_iff_getElem] at h
  exact h.1
def layA (A : zA) : zA × Nat × Int32 := match zpos (A.2.1 0) with
  | some z => if 1 ≤ z ∧ z ≤ 24 ∧ (A.2.1 0).length - z - 1 ≤ 2000 then
      (match findA A ((A.2.1 0).take z) with
       | some k => if openA A k 10 = 0 then (tape0 (aFiles A (A.2.2.set k ((A.2.1 0).take z, (A.2.1 0).drop (z + 1)))), 0, nI ((A.2.1 0).length - z - 1)) else (tape0 A, 2, 0)
       | none => if A.2.2.length < 12 then (tape0 (aFiles A (A.2.2 ++ [((A.2.1 0).take z, (A.2.1 0).drop (z + 1))])), 0, nI ((A.2.1 0).length - z - 1)) else (tape0 A, 3, 0))
      else (tape0 A, 1, 0)
  | none => (tape0 A, 1, 0)
theorem s_lay138 {A : zA} {S : zS} (h : RC A S) {z k : Nat} {f : List Int32 × List Int32} (hz : z < (A.2.1 0).length) (hc : (A.2.1 0).length - z - 1 ≤ 2000) (hk : A.2.2[k]? = some f) {P : zS → Int32 → Prop} {X : String → zS → Prop} (hP : ∀ S', RC (tape0 (aFiles A (A.2.2.set k (f.1, (A.2.1 0).drop (z + 1))))) S' → P S' (nI ((A.2.1 0).length - z - 1))) :
    j_HB_lay_138 P X S (nI z) (nI ((A.2.1 0).length - z - 1)) (some (gF S k)) := by
  have hl := h.le12
  have hk1 := (List.getElem?_eq_some_iff.mp hk).1
  have hg := h.fid (show k < 12 by omega)
  have ht := h.tapeIs
  have htl := ht.2.1
  rw [show capB 0 = 2100 from rfl] at htl
  unfold j_HB_lay_138
  refine ⟨fun e => (by cases e), fun q e => ?_⟩
  have e := Option.some.inj e
  subst e
  refine ⟨hg, by omega, s_cut0 (h.frow hk).2 (by omega) (fun S1 o1 r1 => ?_)⟩
  have h1 := h.fchange hk false (l := []) o1 r1
  have k1 : (aFiles A (A.2.2.set k (fset f false []))).2.2[k]? = some (f.1, []) := by
    show (A.2.2.set k (fset f false []))[k]? = _
    rw [List.getElem?_set_self hk1]; rfl
  have eF1 : gF S1 = gF S := funext (gF_of o1.2.2)
  rw [nI_1]
  refine s_append (f := z + 1) (n := (A.2.1 0).length - z - 1) r1 (o1.row (by omega) ht) (by omega) (by omega) (by omega) (by omega) (by omega) (fun S2 o2 r2 => ⟨by decide, ?_⟩)
  rw [capB_cont hg, List.nil_append, List.length_nil, Nat.sub_zero, Nat.min_eq_left hc, List.take_of_length_le (by rw [List.length_drop]; omega)] at r2
  have h2 := h1.fchange k1 false (l := (A.2.1 0).drop (z + 1)) (S' := S2) (by rw [eF1]; exact o2) (by rw [eF1]; exact r2)
  have e2 : (aFiles A (A.2.2.set k (fset f false []))).2.2.set k (fset (f.1, []) false ((A.2.1 0).drop (z + 1))) = A.2.2.set k (f.1, (A.2.1 0).drop (z + 1)) := by
    show (A.2.2.set k _).set k _ = _
    rw [List.set_set]; rfl
  rw [e2] at h2
  have h2 : RC (aFiles A (A.2.2.set k (f.1, (A.2.1 0).drop (z + 1)))) S2 := h2
  refine s_cut0 h2.tapeIs (by decide) (fun S3 o3 r3 => hP S3 (h2.tape0 o3 r3))
theorem k_lay {A : zA} {S : zS} (h : RC A S) (hI : AI A) : w_HB_lay S (fun S' r => RC (layA A).1 S' ∧ (layA A).2 = (0, r)) (fun E S' => RC (layA A).1 S' ∧ (((layA A).2.1 = 1 ∧ E = "java/lang/IllegalArgumentException") ∨ ((layA A).2.1 = 2 ∧ E = "java/lang/IllegalStateException") ∨ ((layA A).2.1 = 3 ∧ E = "java/lang/UnsupportedOperationException"))) := by
  have hl := h.le12
  have ht := h.tapeIs
  have htl := ht.2.1
  rw [show capB 0 = 2100 from rfl] at htl
  have bad : layA A = (tape0 A, 1, 0) → j_HB_lay_38 (fun S' r => RC (layA A).1 S' ∧ (layA A).2 = (0, r)) (fun E S' => RC (layA A).1 S' ∧ (((layA A).2.1 = 1 ∧ E = "java/lang/IllegalArgumentException") ∨ ((layA A).2.1 = 2 ∧ E = "java/lang/IllegalStateException") ∨ ((layA A).2.1 = 3 ∧ E = "java/lang/UnsupportedOperationException"))) S := by
    intro c
    unfold j_HB_lay_38
    refine ⟨by decide, s_cut0 ht (by decide) (fun S' o r => ?_)⟩
    rw [c]
    exact ⟨h.tape0 o r, Or.inl ⟨rfl, rfl⟩⟩
  unfold w_HB_lay
  refine ⟨by decide, s_firstZero ht (by decide) (s_size ht (by decide) ?_)⟩
  rintro v6 rfl
  rw [fzL_zpos]
  cases hz : zpos (A.2.1 0) with
  | none =>
    refine ⟨fun _ => bad (by unfold layA; rw [hz]), fun c => absurd (show (-1 : Int32) < 1 by decide) c⟩
  | some z =>
    have hzl := zpos_lt hz
    show ((nI z) < (1 : Int32) → _) ∧ _
    rw [show (1 : Int32) = nI 1 from rfl, show (24 : Int32) = nI 24 from rfl, show (2000 : Int32) = nI 2000 from rfl, nI_ltI (by omega) (by decide), nI_ltI (by decide) (by omega), pk_sub (by omega), pk_sub (by omega), nI_leI (by omega) (by decide)]
    have eL : layA A = if 1 ≤ z ∧ z ≤ 24 ∧ (A.2.1 0).length - z - 1 ≤ 2000 then
      (match findA A ((A.2.1 0).take z) with
       | some k => if openA A k 10 = 0 then (tape0 (aFiles A (A.2.2.set k ((A.2.1 0).take z, (A.2.1 0).drop (z + 1)))), 0, nI ((A.2.1 0).length - z - 1)) else (tape0 A, 2, 0)
       | none => if A.2.2.length < 12 then (tape0 (aFiles A (A.2.2 ++ [((A.2.1 0).take z, (A.2.1 0).drop (z + 1))])), 0, nI ((A.2.1 0).length - z - 1)) else (tape0 A, 3, 0))
      else (tape0 A, 1, 0) := by unfold layA; rw [hz]
    refine ⟨fun c1 => bad (by rw [eL, if_neg (by omega)]), fun c1 => ⟨fun c2 => bad (by rw [eL, if_neg (by omega)]), fun c2 => ⟨fun c3 => ⟨by decide, ?_⟩, fun c3 => bad (by rw [eL, if_neg (by omega)])⟩⟩⟩
    rw [if_pos (by omega)] at eL
    obtain ⟨l1, hr1⟩ := h.2.1.2.1
    refine s_cut0 hr1 (by decide) (fun S1 o1 r1 => ?_)
    refine s_append (f := 0) (n := z) r1 (o1.row (by decide) ht) (by decide) (by decide) (by decide) (Nat.zero_le _) (by omega) (fun S2 o2 r2 => ?_)
    rw [show capB 1 = 24 from rfl, List.drop_zero, List.nil_append, List.length_nil, Nat.sub_zero, Nat.min_eq_left (by omega)] at r2
    have h2 : RC A S2 := h.own (Or.inl rfl) (o1.tr o2) r2
    refine s_find h2 (by decide) r2 ?_
    cases hf : findA A ((A.2.1 0).take z) with
    | none =>
      rw [hf] at eL
      simp only at eL
      refine ⟨fun _ => ?_, fun q e => (by cases e)⟩
      unfold j_HB_lay_122
      refine ⟨fun _ => ?_, fun q e => (by cases e)⟩
      refine s_make h2 (Or.inl rfl) r2 (by rw [List.length_take]; omega) (fun c4 S3 h3 e3 => ?_) (fun c4 => ?_)
      · have k3 : (aFiles A (A.2.2 ++ [((A.2.1 0).take z, [])])).2.2[A.2.2.length]? = some ((A.2.1 0).take z, []) := by show (A.2.2 ++ [_])[A.2.2.length]? = _; simp
        rw [← e3]
        refine s_lay138 (A := aFiles A (A.2.2 ++ [((A.2.1 0).take z, [])])) h3 hzl c3 k3 (fun S4 h4 => ?_)
        rw [eL, if_pos c4]
        have e4 : (aFiles A (A.2.2 ++ [((A.2.1 0).take z, [])])).2.2.set A.2.2.length ((A.2.1 0).take z, (A.2.1 0).drop (z + 1)) = A.2.2 ++ [((A.2.1 0).take z, (A.2.1 0).drop (z + 1))] := by
          show (A.2.2 ++ [_]).set A.2.2.length _ = _
          rw [List.set_append_right _ _ (Nat.le_refl _)]; simp
        have h4 : RC (tape0 (aFiles A ((aFiles A (A.2.2 ++ [((A.2.1 0).take z, [])])).2.2.set A.2.2.length ((A.2.1 0).take z, (A.2.1 0).drop (z + 1))))) S4 := h4
        rw [e4] at h4
        exact ⟨h4, rfl⟩
      · unfold j_HB_lay_138
        refine ⟨fun _ => ⟨by decide, s_cut0 h2.tapeIs (by decide) (fun S3 o3 r3 => ?_)⟩, fun q e => (by cases e)⟩
        rw [eL, if_neg c4]
        exact ⟨h2.tape0 o3 r3, Or.inr (Or.inr ⟨rfl, rfl⟩)⟩
    | some k =>
      rw [hf] at eL
      simp only at eL
      have hk := findA_lt hf
      obtain ⟨f, hfk, hfn⟩ := findA_name hf
      refine ⟨fun e => (by cases e), fun q e => ?_⟩
      have e := Option.some.inj e
      subst e
      refine s_openOn h2 hI (by omega) ⟨fun c4 => ?_, fun c4 => ?_⟩
      · have c5 : openA A k 10 = 0 := by
          have := openA_le A k 10
          rw [show (0 : Int32) = nI 0 from rfl, nI_leI (by omega) (by decide)] at c4
          omega
        unfold j_HB_lay_122
        refine ⟨fun e => (by cases e), fun q e => ?_⟩
        have e := Option.some.inj e
        subst e
        refine s_lay138 h2 hzl c3 hfk (fun S4 h4 => ?_)
        rw [eL, if_pos c5]
        rw [hfn] at h4
        exact ⟨h4, rfl⟩
      · have c5 : ¬ openA A k 10 = 0 := by
          intro z0
          rw [z0] at c4
          exact c4 (by decide)
        refine s_cut0 h2.tapeIs (by decide) (fun S3 o3 r3 => ?_)
        rw [eL, if_neg c5]
        exact ⟨h2.tape0 o3 r3, Or.inr (Or.inl ⟨rfl, rfl⟩)⟩
