/-! one step of the reference, its CALLs aside -/
theorem r_small {A : zA} {T : zS} (h : RS A T) (w : Int32) {P : zS → Prop} (hP : rEnd (xR (immA A w)) P) : w_M_small w (nI (fRd w)) (nI (f3 w)) (gM A.1 2 (fR1 w)) T P := by
  have hf := f3_lt w
  have ht := fTop_lt w
  unfold immA at hP
  generalize gM A.1 2 (fR1 w) = a at *
  have q : ∀ m, m < 8 → (nI (f3 w) = nI m ↔ f3 w = m) := fun m hm => nk (by omega) m (by omega)
  have q0 : nI (f3 w) = (0 : Int32) ↔ f3 w = 0 := q 0 (by decide)
  have q1 : nI (f3 w) = (1 : Int32) ↔ f3 w = 1 := q 1 (by decide)
  have q2 : nI (f3 w) = (2 : Int32) ↔ f3 w = 2 := q 2 (by decide)
  have q3 : nI (f3 w) = (3 : Int32) ↔ f3 w = 3 := q 3 (by decide)
  have q4 : nI (f3 w) = (4 : Int32) ↔ f3 w = 4 := q 4 (by decide)
  have q5 : nI (f3 w) = (5 : Int32) ↔ f3 w = 5 := q 5 (by decide)
  have q6 : nI (f3 w) = (6 : Int32) ↔ f3 w = 6 := q 6 (by decide)
  have t0 : nI (fTop w) = (0 : Int32) ↔ fTop w = 0 := nk (by omega) 0 (by decide)
  have t32 : nI (fTop w) = (32 : Int32) ↔ fTop w = 32 := nk (by omega) 32 (by decide)
  have bad : ((f3 w = 1 ∧ fTop w ≠ 0) ∨ (f3 w = 5 ∧ fTop w ≠ 0 ∧ fTop w ≠ 32)) → j_M_small_39 w (nI (fRd w)) (nI (f3 w)) a P T (immI w) (nI (fTop w)) := by
    intro c
    rw [if_pos c, xR1 _ _ (by decide)] at hP
    unfold j_M_small_39 j_M_small_44
    exact ⟨fun z => absurd z (by decide), fun _ => r_stop h _ hP⟩
  have good : ¬ ((f3 w = 1 ∧ fTop w ≠ 0) ∨ (f3 w = 5 ∧ fTop w ≠ 0 ∧ fTop w ≠ 32)) → j_M_small_43 w (nI (fRd w)) (nI (f3 w)) a P T (immI w) (nI (fTop w)) := by
    intro c
    rw [if_neg c] at hP
    unfold j_M_small_43 j_M_small_44 j_M_small_148 j_M_small_175 j_M_small_214 w_M_whole j_M_small_243
    rw [q0, q1, q2, q3, q4, q5, q6, t0]
    refine ⟨fun _ => ?_, fun z => absurd rfl z⟩
    rintro v1 rfl
    have go : ∀ v, aluA (f3 w) a (immI w) (decide (f3 w = 5 ∧ fTop w = 32)) = v → w_M_comes (nI (fRd w)) v T (fun S1 => ∀ S2 : zS, S2 = sM S1 0 3 (gM S1 0 3 + 4) → P S2) := by
      intro v e
      rw [e] at hP
      exact r_comesOn h w v hP
    refine ⟨fun c0 => go _ ?_, fun c0 => ⟨fun c1 => go _ ?_, fun c1 => ⟨fun c2 => ⟨fun z => go _ ?_, fun z => go _ ?_⟩, fun c2 => ⟨fun c3 => ⟨fun z => go _ ?_, fun z => go _ ?_⟩, fun c3 => ⟨fun c4 => go _ ?_, fun c4 => ⟨fun c5 => ⟨fun z => go _ ?_, fun z => go _ ?_⟩, fun c5 => ⟨fun c6 => go _ ?_, fun c6 => go _ ?_⟩⟩⟩⟩⟩⟩⟩
    · have e : decide (f3 w = 5 ∧ fTop w = 32) = false := by simp; omega
      rw [e]; unfold aluA; rw [if_pos c0, if_neg (by decide)]
    · unfold aluA; rw [if_neg c0, if_pos c1]
    · unfold aluA; rw [if_neg c0, if_neg c1, if_pos c2, if_neg (fun y => (lt_le.mpr y) z)]
    · unfold aluA; rw [if_neg c0, if_neg c1, if_pos c2, if_pos (lt_le.mp z)]
    · have z := (less_iff a (immI w)).mp z
      unfold aluA; rw [if_neg c0, if_neg c1, if_neg c2, if_pos c3, if_neg z]
    · have z : un a < un (immI w) := Classical.not_not.mp (fun y => z ((less_iff a (immI w)).mpr y))
      unfold aluA; rw [if_neg c0, if_neg c1, if_neg c2, if_pos c3, if_pos z]
    · unfold aluA; rw [if_neg c0, if_neg c1, if_neg c2, if_neg c3, if_pos c4]
    · have e : decide (f3 w = 5 ∧ fTop w = 32) = false := by simp; omega
      rw [e]; unfold aluA; rw [if_neg c0, if_neg c1, if_neg c2, if_neg c3, if_neg c4, if_pos c5, if_neg (by decide)]
    · have e : decide (f3 w = 5 ∧ fTop w = 32) = true := by
        rw [decide_eq_true_iff]; omega
      rw [e]; unfold aluA; rw [if_neg c0, if_neg c1, if_neg c2, if_neg c3, if_neg c4, if_pos c5, if_pos rfl]
    · unfold aluA; rw [if_neg c0, if_neg c1, if_neg c2, if_neg c3, if_neg c4, if_neg c5, if_pos c6]
    · unfold aluA; rw [if_neg c0, if_neg c1, if_neg c2, if_neg c3, if_neg c4, if_neg c5, if_neg c6]
  unfold w_M_small
  rintro v1 rfl v2 rfl
  rw [top_eq]
  have j22 : ¬ (f3 w = 1 ∧ fTop w ≠ 0) → j_M_small_22 w (nI (fRd w)) (nI (f3 w)) a P T (immI w) (nI (fTop w)) := by
    intro c
    unfold j_M_small_22
    rw [q5, t0, t32]
    exact ⟨fun c5 => ⟨fun z => good (by omega), fun z => ⟨fun y => good (by omega), fun y => bad (by omega)⟩⟩, fun c5 => good (by omega)⟩
  rw [q1, t0]
  exact ⟨fun c1 => ⟨fun z => j22 (by omega), fun z => bad (Or.inl ⟨c1, z⟩)⟩, fun c1 => j22 (by omega)⟩
theorem r_times {T : zS} {k : Nat} (hk : k < 8) (a b : Int32) {P : zS → Int32 → Prop} (h : P T (if k < 4 then mulA k a b else divA k a b)) : w_M_times (nI k) a b T P := by
  have q : ∀ m, m < 8 → (nI k = nI m ↔ k = m) := fun m hm => nk (by omega) m (by omega)
  have q0 : nI k = (0 : Int32) ↔ k = 0 := q 0 (by decide)
  have q1 : nI k = (1 : Int32) ↔ k = 1 := q 1 (by decide)
  have q2 : nI k = (2 : Int32) ↔ k = 2 := q 2 (by decide)
  have q3 : nI k = (3 : Int32) ↔ k = 3 := q 3 (by decide)
  have q4 : nI k = (4 : Int32) ↔ k = 4 := q 4 (by decide)
  have q5 : nI k = (5 : Int32) ↔ k = 5 := q 5 (by decide)
  have q6 : nI k = (6 : Int32) ↔ k = 6 := q 6 (by decide)
  have ha := un_lt a
  have hb := un_lt b
  unfold w_M_times w_M_whole
  rw [q0, q1, q2, q3, q4, q5, q6]
  have ne : ¬ b = 0 → ¬ b.toInt64 &&& 4294967295 = 0 := fun hb0 => by
    have hu := un_ne0 hb0
    rw [long_un, show (0 : Int64) = lN 0 from rfl, pk_lEQ (by omega) (by decide)]; omega
  refine ⟨fun c0 => ?_, fun c0 => ⟨fun c1 => ?_, fun c1 => ⟨fun c2 => ?_, fun c2 => ⟨fun c3 => ?_, fun c3 => ⟨fun c4 => ⟨fun z => ?_, fun z => ⟨z, ?_⟩⟩, fun c4 => ⟨fun c5 => ⟨fun z => ?_, fun z => ⟨ne z, ?_⟩⟩, fun c5 => ⟨fun c6 => ⟨fun z => ?_, fun z => ⟨z, ?_⟩⟩, fun c6 => ⟨fun z => ?_, fun z => ⟨ne z, ?_⟩⟩⟩⟩⟩⟩⟩⟩⟩
  · rw [if_pos (by omega)] at h; unfold mulA at h; rw [if_pos c0] at h; exact h
  · rw [if_pos (by omega)] at h; unfold mulA at h; rw [if_neg c0, if_pos c1] at h; exact h
  · rw [if_pos (by omega)] at h; unfold mulA at h; rw [if_neg c0, if_neg c1, if_pos c2] at h; exact h
  · rw [if_pos (by omega)] at h; unfold mulA at h; rw [if_neg c0, if_neg c1, if_neg c2] at h; exact h
  · rw [if_neg (by omega)] at h; unfold divA at h; rw [if_pos z, if_pos (by omega)] at h; exact h
  · rw [if_neg (by omega)] at h; unfold divA at h; rw [if_neg z, if_pos c4] at h; exact h
  · rw [if_neg (by omega)] at h; unfold divA at h; rw [if_pos z, if_pos (by omega)] at h; exact h
  · rw [if_neg (by omega)] at h; unfold divA at h; rw [if_neg z, if_neg c4, if_pos c5] at h
    show P T (((a.toInt64 &&& 4294967295) / (b.toInt64 &&& 4294967295)).toInt32)
    rw [long_un, long_un, pk_lDiv (by omega) (un_ne0 z) (by omega), lN_i]; exact h
  · rw [if_neg (by omega)] at h; unfold divA at h; rw [if_pos z, if_neg (by omega)] at h; exact h
  · rw [if_neg (by omega)] at h; unfold divA at h; rw [if_neg z, if_neg c4, if_neg c5, if_pos c6] at h; exact h
  · rw [if_neg (by omega)] at h; unfold divA at h; rw [if_pos z, if_neg (by omega)] at h; exact h
  · rw [if_neg (by omega)] at h; unfold divA at h; rw [if_neg z, if_neg c4, if_neg c5, if_neg c6] at h
    show P T (((a.toInt64 &&& 4294967295) - (a.toInt64 &&& 4294967295) / (b.toInt64 &&& 4294967295) * (b.toInt64 &&& 4294967295)).toInt32)
    rw [long_un, long_un, pk_lRem (by omega) (un_ne0 z) (by omega), lN_i]; exact h
theorem r_plain {T : zS} {k : Nat} (hk : k < 8) (a b : Int32) {P : zS → Int32 → Prop} (h : P T (aluA k a b false)) : w_M_plain (nI k) a b T P := by
  have q : ∀ m, m < 8 → (nI k = nI m ↔ k = m) := fun m hm => nk (by omega) m (by omega)
  have q0 : nI k = (0 : Int32) ↔ k = 0 := q 0 (by decide)
  have q1 : nI k = (1 : Int32) ↔ k = 1 := q 1 (by decide)
  have q2 : nI k = (2 : Int32) ↔ k = 2 := q 2 (by decide)
  have q3 : nI k = (3 : Int32) ↔ k = 3 := q 3 (by decide)
  have q4 : nI k = (4 : Int32) ↔ k = 4 := q 4 (by decide)
  have q5 : nI k = (5 : Int32) ↔ k = 5 := q 5 (by decide)
  have q6 : nI k = (6 : Int32) ↔ k = 6 := q 6 (by decide)
  unfold w_M_plain w_M_whole
  rw [q0, q1, q2, q3, q4, q5, q6]
  unfold aluA at h
  refine ⟨fun c0 => ?_, fun c0 => ⟨fun c1 => ?_, fun c1 => ⟨fun c2 => ⟨fun z => ?_, fun z => ?_⟩, fun c2 => ⟨fun c3 => ⟨fun z => ?_, fun z => ?_⟩, fun c3 => ⟨fun c4 => ?_, fun c4 => ⟨fun c5 => ?_, fun c5 => ⟨fun c6 => ?_, fun c6 => ?_⟩⟩⟩⟩⟩⟩⟩
  · rw [if_pos c0, if_neg (by decide)] at h; exact h
  · rw [if_neg c0, if_pos c1] at h; exact h
  · rw [if_neg c0, if_neg c1, if_pos c2, if_neg (fun y => (lt_le.mpr y) z)] at h; exact h
  · rw [if_neg c0, if_neg c1, if_pos c2, if_pos (lt_le.mp z)] at h; exact h
  · have z := (less_iff a b).mp z
    rw [if_neg c0, if_neg c1, if_neg c2, if_pos c3, if_neg z] at h; exact h
  · have z : un a < un b := Classical.not_not.mp (fun y => z ((less_iff a b).mpr y))
    rw [if_neg c0, if_neg c1, if_neg c2, if_pos c3, if_pos z] at h; exact h
  · rw [if_neg c0, if_neg c1, if_neg c2, if_neg c3, if_pos c4] at h; exact h
  · rw [if_neg c0, if_neg c1, if_neg c2, if_neg c3, if_neg c4, if_pos c5, if_neg (by decide)] at h; exact h
  · rw [if_neg c0, if_neg c1, if_neg c2, if_neg c3, if_neg c4, if_neg c5, if_pos c6] at h; exact h
  · rw [if_neg c0, if_neg c1, if_neg c2, if_neg c3, if_neg c4, if_neg c5, if_neg c6] at h; exact h
theorem r_two {A : zA} {T : zS} (h : RS A T) (w : Int32) {P : zS → Prop} (hP : rEnd (xR (opA A w)) P) : w_M_two (nI (fTop w)) (nI (fRd w)) (nI (f3 w)) (gM A.1 2 (fR1 w)) (gM A.1 2 (fR2 w)) T P := by
  have hf := f3_lt w
  have ht := fTop_lt w
  unfold opA at hP
  generalize gM A.1 2 (fR1 w) = a at *
  generalize gM A.1 2 (fR2 w) = b at *
  have q0 : nI (f3 w) = (0 : Int32) ↔ f3 w = 0 := nk (by omega) 0 (by decide)
  have q5 : nI (f3 w) = (5 : Int32) ↔ f3 w = 5 := nk (by omega) 5 (by decide)
  have t0 : nI (fTop w) = (0 : Int32) ↔ fTop w = 0 := nk (by omega) 0 (by decide)
  have t1 : nI (fTop w) = (1 : Int32) ↔ fTop w = 1 := nk (by omega) 1 (by decide)
  have t32 : nI (fTop w) = (32 : Int32) ↔ fTop w = 32 := nk (by omega) 32 (by decide)
  unfold w_M_two j_M_two_64 j_M_two_91 j_M_two_97
  rw [t0, t1, t32, q0, q5]
  have bad : ¬ fTop w = 1 → ¬ fTop w = 0 → ¬ (fTop w = 32 ∧ (f3 w = 0 ∨ f3 w = 5)) → w_M_stop 3 T P := by
    intro c1 c0 c
    rw [if_neg c1, if_neg c0, if_neg c, xR1 _ _ (by decide)] at hP
    exact r_stop h _ hP
  refine ⟨fun c1 => r_times hf a b ?_, fun c1 => ⟨fun c0 => r_plain hf a b ?_, fun c0 => ⟨fun c32 => ⟨fun d0 => ?_, fun d0 => ⟨fun _ => ⟨fun d5 => ?_, fun d5 => bad c1 c0 (by omega)⟩, fun z => absurd c32 z⟩⟩, fun c32 => ⟨fun z => absurd z c32, fun _ => bad c1 c0 (by omega)⟩⟩⟩⟩
  · rw [if_pos c1] at hP
    exact r_comesOn h w _ hP
  · rw [if_neg c1, if_pos c0] at hP
    exact r_comesOn h w _ hP
  · rw [if_neg c1, if_neg c0, if_pos ⟨c32, Or.inl d0⟩] at hP
    have e : aluA (f3 w) a b true = a - b := by unfold aluA; rw [if_pos d0, if_pos rfl]
    rw [e] at hP
    exact r_comesOn h w _ hP
  · rw [if_neg c1, if_neg c0, if_pos ⟨c32, Or.inr d5⟩] at hP
    have e : aluA (f3 w) a b true = a >>> ((b &&& 31) &&& 31) := by unfold aluA; rw [if_neg (by omega), if_neg (by omega), if_neg (by omega), if_neg (by omega), if_neg (by omega), if_pos d5, if_pos rfl]
    rw [e] at hP
    exact r_comesOn h w _ hP
/-- a step: the CALL itself is given -/
theorem r_step {A : zA} {T : zS} (h : RS A T) {P : zS → Prop} (hP : rEnd (stepA A).1 P ∨ (stepA A).2 = true) (hC : (stepA A).2 = true → ∀ T', RS (stepA A).1 T' → un (gM A.1 0 0) + 4 ≤ 16384 → markedA A = true → w_M_breaks T' P) : w_M_step T P := by
  have hJ : gJ T = gJ A.1 := h.j
  unfold w_M_step
  rintro S1 rfl
  rw [hJ]
  have h1 : RS (aJ A (gJ A.1 + 1)) (sJ T (gJ A.1 + 1)) := h.stp _
  generalize sJ T (gJ A.1 + 1) = U at h1
  have epc : gM U 0 3 = gM A.1 0 0 := h1.pcv
  rw [epc, and3]
  unfold stepA at hP hC
  refine ⟨fun c => r_isArea _ _ ?_, fun c => ?_⟩
  · rw [if_neg (fun z => z c)] at hP hC
    rw [show un 4 = 4 from rfl]
    by_cases c2 : un (gM A.1 0 0) + 4 ≤ 16384
    · rw [if_pos c2]
      rw [if_neg (fun z => z c2)] at hP hC
      refine ⟨fun z => absurd z (by decide), fun _ => ?_⟩
      refine r_word h1 c2 (epc.trans (nI_un _).symm) ?_
      have ew : wordOf (gM (aJ A (gJ A.1 + 1)).1 3) (un (gM A.1 0 0)) = wordOf (gM A.1 3) (un (gM A.1 0 0)) := rfl
      rw [ew]
      generalize hw : wordOf (gM A.1 3) (un (gM A.1 0 0)) = w at hP hC
      have hx1 : gM U 2 (fR1 w) = gM A.1 2 (fR1 w) := h1.x _ (fR1_lt w)
      have hx2 : gM U 2 (fR2 w) = gM A.1 2 (fR2 w) := h1.x _ (fR2_lt w)
      rintro v6 rfl
      rw [rd_eq, r1_eq, r2_eq, f3_eq, nI_clamp (show fR1 w < 2 ^ 31 by have := fR1_lt w; omega), nI_clamp (show fR2 w < 2 ^ 31 by have := fR2_lt w; omega), hx1, hx2]
      refine ⟨vp_in_nI (fR1_lt w) (by decide), ?_⟩
      rintro v8 rfl
      refine ⟨vp_in_nI (fR2_lt w) (by decide), ?_⟩
      rintro v10 rfl v11 rfl
      -- not a CALL
      have nc : ¬ (w = 1048691 ∧ markedA A = true) → rEnd (xR (exA (aJ A (gJ A.1 + 1)) w)) P := by
        intro z
        rw [if_neg z] at hP hC
        unfold xR
        by_cases y : (exA (aJ A (gJ A.1 + 1)) w).2.2 = 0
        · rw [if_pos y] at hP ⊢
          rcases hP with hP | hP
          · exact hP
          · exact Bool.noConfusion hP
        · rw [if_neg y] at hP ⊢
          rcases hP with hP | hP
          · exact hP
          · exact Bool.noConfusion hP
      have e127 : w &&& 127 = nI (un w % 128) := pk_and w 7 rfl
      have hm : un w % 128 < 128 := Nat.mod_lt _ (by decide)
      have q : ∀ m, m < 128 → (nI (un w % 128) = nI m ↔ un w % 128 = m) := fun m hm9 => nk hm m hm9
      rw [e127]
      rw [show (nI (un w % 128) = (3 : Int32)) = (un w % 128 = 3) from propext (q 3 (by decide)), show (nI (un w % 128) = (15 : Int32)) = (un w % 128 = 15) from propext (q 15 (by decide)), show (nI (un w % 128) = (19 : Int32)) = (un w % 128 = 19) from propext (q 19 (by decide)), show (nI (un w % 128) = (23 : Int32)) = (un w % 128 = 23) from propext (q 23 (by decide)), show (nI (un w % 128) = (35 : Int32)) = (un w % 128 = 35) from propext (q 35 (by decide)), show (nI (un w % 128) = (51 : Int32)) = (un w % 128 = 51) from propext (q 51 (by decide)), show (nI (un w % 128) = (55 : Int32)) = (un w % 128 = 55) from propext (q 55 (by decide)), show (nI (un w % 128) = (99 : Int32)) = (un w % 128 = 99) from propext (q 99 (by decide)), show (nI (un w % 128) = (103 : Int32)) = (un w % 128 = 103) from propext (q 103 (by decide)), show (nI (un w % 128) = (111 : Int32)) = (un w % 128 = 111) from propext (q 111 (by decide))]
      have op : ∀ m, un w % 128 = m → m ≠ 115 → ¬ (w = 1048691 ∧ markedA A = true) := fun m hm9 h9 z => h9 (by rw [← hm9, z.1]; rfl)
      refine ⟨fun d => ?_, fun d => ?_⟩
      · have hX := nc (op 3 d (by decide))
        unfold exA at hX; rw [if_pos d] at hX
        exact r_load h1 w hX
      have d3 := d
      refine ⟨fun d => ?_, fun d => ?_⟩
      · have hX := nc (op 15 d (by decide))
        unfold exA at hX; rw [if_neg d3, if_pos d] at hX
        have hf := f3_lt w
        have l2 : (2 : Int32) ≤ nI (f3 w) ↔ 2 ≤ f3 w := nI_leI (by decide) (by omega)
        rw [l2]
        refine ⟨fun y => ?_, fun y => ?_⟩
        · rw [if_neg (by omega), xR1 _ _ (by decide)] at hX
          exact r_stop h1 _ hX
        · rw [if_pos (by omega), xR0] at hX
          rintro S17 rfl
          rw [h1.pcv]
          exact hX _ (h1.pc _)
      have d15 := d
      refine ⟨fun d => ?_, fun d => ?_⟩
      · have hX := nc (op 19 d (by decide))
        unfold exA at hX; rw [if_neg d3, if_neg d15, if_pos d] at hX
        exact r_small h1 w hX
      have d19 := d
      refine ⟨fun d => ?_, fun d => ?_⟩
      · have hX := nc (op 23 d (by decide))
        unfold exA at hX; rw [if_neg d3, if_neg d15, if_neg d19, if_pos d] at hX
        rw [epc]
        exact r_comesOn h1 w _ hX
      have d23 := d
      refine ⟨fun d => ?_, fun d => ?_⟩
      · have hX := nc (op 35 d (by decide))
        unfold exA at hX; rw [if_neg d3, if_neg d15, if_neg d19, if_neg d23, if_pos d] at hX
        rw [← rd_eq, immS_eq]
        exact r_store h1 w hX
      have d35 := d
      refine ⟨fun d => ?_, fun d => ?_⟩
      · have hX := nc (op 51 d (by decide))
        unfold exA at hX; rw [if_neg d3, if_neg d15, if_neg d19, if_neg d23, if_neg d35, if_pos d] at hX
        rw [top_eq]
        exact r_two h1 w hX
      have d51 := d
      refine ⟨fun d => ?_, fun d => ?_⟩
      · have hX := nc (op 55 d (by decide))
        unfold exA at hX; rw [if_neg d3, if_neg d15, if_neg d19, if_neg d23, if_neg d35, if_neg d51, if_pos d] at hX
        exact r_comesOn h1 w _ hX
      have d55 := d
      refine ⟨fun d => ?_, fun d => ?_⟩
      · have hX := nc (op 99 d (by decide))
        unfold exA at hX; rw [if_neg d3, if_neg d15, if_neg d19, if_neg d23, if_neg d35, if_neg d51, if_neg d55, if_pos d] at hX
        exact r_branch h1 w hX
      have d99 := d
      refine ⟨fun d => ?_, fun d => ?_⟩
      · have hX := nc (op 103 d (by decide))
        unfold exA at hX; rw [if_neg d3, if_neg d15, if_neg d19, if_neg d23, if_neg d35, if_neg d51, if_neg d55, if_neg d99, if_pos d] at hX
        have hf := f3_lt w
        have q0 : nI (f3 w) = (0 : Int32) ↔ f3 w = 0 := nk (by omega) 0 (by decide)
        rw [q0]
        refine ⟨fun y => ?_, fun y => ?_⟩
        · rw [if_pos y] at hX
          exact r_jump h1 w _ hX
        · rw [if_neg y, xR1 _ _ (by decide)] at hX
          exact r_stop h1 _ hX
      have d103 := d
      refine ⟨fun d => ?_, fun d => ?_⟩
      · have hX := nc (op 111 d (by decide))
        unfold exA at hX; rw [if_neg d3, if_neg d15, if_neg d19, if_neg d23, if_neg d35, if_neg d51, if_neg d55, if_neg d99, if_neg d103, if_pos d] at hX
        rw [epc, immJ_eq]
        exact r_jump h1 w _ hX
      have d111 := d
      refine ⟨fun d => ?_, fun d => ⟨fun d2 => ?_, fun d2 => ?_⟩⟩
      · have hX := nc (fun z => by rw [d] at z; exact absurd z.1 (by decide))
        unfold exA at hX; rw [if_neg d3, if_neg d15, if_neg d19, if_neg d23, if_neg d35, if_neg d51, if_neg d55, if_neg d99, if_neg d103, if_neg d111, if_pos d, xR1 _ _ (by decide)] at hX
        exact r_stop h1 _ hX
      · by_cases y : markedA A = true
        · rw [if_pos ⟨d2, y⟩] at hP hC
          exact hC rfl U h1 c2 y
        · have hX := nc (fun z => y z.2)
          unfold exA at hX; rw [if_neg d3, if_neg d15, if_neg d19, if_neg d23, if_neg d35, if_neg d51, if_neg d55, if_neg d99, if_neg d103, if_neg d111, if_neg d, if_pos d2, xR1 _ _ (by decide)] at hX
          have no : j_M_breaks_61 P U := by
            unfold j_M_breaks_61
            exact r_stop h1 _ hX
          unfold w_M_breaks
          rw [epc]
          have l4 : gM A.1 0 0 < (4 : Int32) ↔ un (gM A.1 0 0) < 4 := by
            rw [← nI_un (gM A.1 0 0), un_nI (by omega)]
            exact nI_ltI (by omega) (by decide)
          have e8 : gM A.1 0 0 + (8 : Int32) = nI (un (gM A.1 0 0) + 8) := by rw [← nI_add, nI_un]; rfl
          have l8 : (16384 : Int32) < gM A.1 0 0 + (8 : Int32) ↔ 16384 < un (gM A.1 0 0) + 8 := by
            rw [e8]; exact nI_ltI (by decide) (by omega)
          rw [l4, l8]
          have j25 : j_M_breaks_25 P U := by
            unfold j_M_breaks_25 j_M_breaks_26
            exact ⟨fun _ => no, fun z => absurd rfl z⟩
          refine ⟨fun _ => j25, fun y1 => ⟨fun _ => j25, fun y2 => ?_⟩⟩
          unfold j_M_breaks_26
          refine ⟨fun z => absurd z (by decide), fun _ => ?_⟩
          refine r_word h1 (a := un (gM A.1 0 0) - 4) (by omega) (by rw [epc, ← pk_sub (by omega), nI_un]; rfl) ⟨fun z1 => ?_, fun _ => no⟩
          refine r_word h1 (a := un (gM A.1 0 0) + 4) (by omega) (by rw [epc, ← nI_add, nI_un]; rfl) ⟨fun z2 => ?_, fun _ => no⟩
          exact absurd ((markedA_iff A).mpr ⟨by omega, by omega, z1, z2⟩) y
      · have hX := nc (fun z => d2 z.1)
        unfold exA at hX; rw [if_neg d3, if_neg d15, if_neg d19, if_neg d23, if_neg d35, if_neg d51, if_neg d55, if_neg d99, if_neg d103, if_neg d111, if_neg d, if_neg d2, xR1 _ _ (by decide)] at hX
        exact r_stop h1 _ hX
    · rw [if_neg c2]
      rw [if_pos c2] at hP
      rcases hP with hP | hP
      · exact ⟨fun _ => r_stop h1 _ hP, fun z => absurd rfl z⟩
      · exact Bool.noConfusion hP
  · rw [if_pos c] at hP
    rcases hP with hP | hP
    · exact r_stop h1 _ hP
    · exact Bool.noConfusion hP
