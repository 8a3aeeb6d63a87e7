/-! run; what the public calls keep -/
def fullA (A : zA) : zA := if (stepA A).2 = true then callA (stepA A).1 else (stepA A).1
def runA : Nat → zA → zA × Nat
  | 0, A => (A, 0)
  | n + 1, A => if gM A.1 0 2 = 0 then ((runA n (fullA A)).1, (runA n (fullA A)).2 + 1) else (A, 0)
def runC (A : zA) (m : Int32) : zA × Nat × Int32 := if un m ≤ 5000 then ((runA (un m) A).1, 0, nI (runA (un m) A).2) else (A, 1, 0)
theorem gJ_perform (A : zA) (o a : Int32) : gJ (performA A o a).1.1 = gJ A.1 := by
  unfold performA
  by_cases c : o = 1
  · rw [if_pos c]
    unfold openC openF failA
    repeat' split
    all_goals rfl
  rw [if_neg c]
  by_cases c : o = 2
  · rw [if_pos c]
    unfold closeA
    split <;> rfl
  rw [if_neg c]
  by_cases c : o = 3
  · rw [if_pos c]
    unfold textA
    split <;> rfl
  rw [if_neg c]
  by_cases c : o = 4
  · rw [if_pos c]
    unfold textA
    split <;> rfl
  rw [if_neg c]
  by_cases c : o = 5
  · rw [if_pos c]
    unfold writeA wrF wrP
    repeat' split
    all_goals rfl
  rw [if_neg c]
  by_cases c : o = 6
  · rw [if_pos c]
    unfold readA
    repeat' split
    all_goals rfl
  rw [if_neg c]
  by_cases c : o = 7
  · rw [if_pos c]; rfl
  rw [if_neg c]
  by_cases c : o = 8
  · rw [if_pos c]
  rw [if_neg c]
  by_cases c : o = 9
  · rw [if_pos c]
    unfold isConA
    split <;> rfl
  rw [if_neg c]
  by_cases c : o = 10
  · rw [if_pos c]
    unfold seekA
    repeat' split
    all_goals rfl
  rw [if_neg c]
  by_cases c : o = 12
  · rw [if_pos c]
    unfold lengthA
    split <;> rfl
  rw [if_neg c]
  by_cases c : o = 13
  · rw [if_pos c]
    unfold tempA
    repeat' split
    all_goals rfl
  rw [if_neg c]
  by_cases c : o = 14
  · rw [if_pos c]
    unfold removeA
    repeat' split
    all_goals rfl
  rw [if_neg c]
  by_cases c : o = 15
  · rw [if_pos c]
    unfold renameA
    repeat' split
    all_goals rfl
  rw [if_neg c]
  unfold otherA
  by_cases c : o = 16
  · rw [if_pos c]
  rw [if_neg c]
  by_cases c : o = 17
  · rw [if_pos c]
  rw [if_neg c]
  by_cases c : o = 19
  · rw [if_pos c]
  rw [if_neg c]
  by_cases c : o = 21
  · rw [if_pos c]
    unfold tellA
    repeat' split
    all_goals rfl
  rw [if_neg c]
  by_cases c : o = 22
  · rw [if_pos c]
    unfold heapA
    split <;> rfl
  rw [if_neg c]
  by_cases c : o = 24
  · rw [if_pos c]; rfl
  rw [if_neg c]
  by_cases c : o = 32
  · rw [if_pos c]; rfl
  rw [if_neg c]
  by_cases c : o = 48
  · rw [if_pos c]
    unfold elapsedA
    split <;> rfl
  rw [if_neg c]
  by_cases c : o = 49
  · rw [if_pos c]
  rw [if_neg c]
  rfl
theorem gJ_call (A : zA) : gJ (callA A).1 = gJ A.1 := by
  have h1 : gJ (callA1 A).1.1 = gJ A.1 := by
    unfold callA1
    by_cases c : okA (gM A.1 2 11) (fieldsA (gM A.1 2 10)) = true
    · rw [if_pos c, gJ_perform]; rfl
    · rw [if_neg c]; rfl
  unfold callA
  by_cases c : gM (callA1 A).1.1 0 2 = 0
  · rw [if_pos c]; exact h1
  · rw [if_neg c]; exact h1
theorem AI_full {A : zA} (h : AI A) (h0 : gM A.1 0 2 = 0) : AI (fullA A) ∧ gJ (fullA A).1 = gJ A.1 + 1 := by
  obtain ⟨a1, a2, a3⟩ := AI_step h h0
  unfold fullA
  by_cases c : (stepA A).2 = true
  · rw [if_pos c]; exact ⟨AI_call a1 (a2 c), (gJ_call _).trans a3⟩
  · rw [if_neg c]; exact ⟨a1, a3⟩
theorem s_run_loop {m : Int32} {M : Nat} (hm : m = nI M) (hM : M ≤ 5000) {P : zS → Int32 → Prop} {X : String → zS → Prop} :
    ∀ (k i : Nat) (A : zA) (T : zS), k + i = M → RC A T → AI A → (∀ S', RC (runA k A).1 S' → P S' (nI (i + (runA k A).2))) → l_HB_run_23 m P X (k + 1) T (nI i) := by
  intro k
  induction k with
  | zero =>
    intro i A T hi h hI hP
    have hi : i = M := by omega
    subst hi
    unfold l_HB_run_23
    rw [hm]
    exact ⟨fun _ => hP T h, fun c => absurd (nI_le (Nat.le_refl _) (by omega)) c⟩
  | succ k ih =>
    intro i A T hi h hI hP
    unfold l_HB_run_23
    refine ⟨fun c => ?_, fun _ => ⟨fun c => ?_, fun c => ?_⟩⟩
    · rw [hm, nI_leI (by omega) (by omega)] at c
      omega
    · rw [h.1.1 2 (by unfold scOk; omega)] at c
      have hP' : ∀ S', RC (runA k (fullA A)).1 S' → P S' (nI (i + 1 + (runA k (fullA A)).2)) := by
        intro S' h'
        have e : runA (k + 1) A = ((runA k (fullA A)).1, (runA k (fullA A)).2 + 1) := by
          show (if gM A.1 0 2 = 0 then _ else _) = _
          rw [if_pos c]
        rw [e] at hP
        have := hP S' h'
        have e2 : i + ((runA k (fullA A)).2 + 1) = i + 1 + (runA k (fullA A)).2 := by omega
        rw [e2] at this
        exact this
      have hF := (AI_full hI c).1
      obtain ⟨a1, a2, a3⟩ := AI_step hI c
      rw [nI_1]
      refine s_step h (fun S1 h1 => ?_)
      unfold fullA at hP' hF
      by_cases c2 : (stepA A).2 = true
      · rw [if_pos c2]
        rw [if_pos c2] at hP' hF
        refine ⟨fun z => absurd z (by decide), fun _ => s_answerCall h1 a1 (fun S3 h3 => ih (i + 1) _ S3 (by omega) h3 hF hP')⟩
      · rw [if_neg c2]
        rw [if_neg c2] at hP' hF
        exact ⟨fun _ => ih (i + 1) _ S1 (by omega) h1 hF hP', fun z => absurd rfl z⟩
    · rw [h.1.1 2 (by unfold scOk; omega)] at c
      have e : runA (k + 1) A = (A, 0) := by
        show (if gM A.1 0 2 = 0 then _ else _) = _
        rw [if_neg c]
      rw [e] at hP
      exact hP T h
theorem k_run {A : zA} {S : zS} (h : RC A S) (hI : AI A) (m : Int32) : w_HB_run m S (fun S' r => RC (runC A m).1 S' ∧ (runC A m).2 = (0, r)) (fun E S' => RC (runC A m).1 S' ∧ (runC A m).2.1 = 1 ∧ E = "java/lang/IllegalArgumentException") := by
  unfold w_HB_run
  have bad : ¬ un m ≤ 5000 → j_HB_run_11 m (fun S' r => RC (runC A m).1 S' ∧ (runC A m).2 = (0, r)) (fun E S' => RC (runC A m).1 S' ∧ (runC A m).2.1 = 1 ∧ E = "java/lang/IllegalArgumentException") S := by
    intro c
    unfold j_HB_run_11 runC
    rw [if_neg c]
    exact ⟨h, rfl, rfl⟩
  refine ⟨fun c => bad (by rw [neg_iff] at c; omega), fun c => ?_⟩
  have l5 : m ≤ (5000 : Int32) ↔ un m ≤ 5000 := le_of_un (m := 5000) (by decide) c
  rw [l5]
  refine ⟨fun c2 => ⟨un m + 1, ?_⟩, bad⟩
  refine s_run_loop (nI_un m).symm c2 (un m) 0 A S (by omega) h hI (fun S' h' => ?_)
  unfold runC
  rw [if_pos c2, Nat.zero_add]
  exact ⟨h', rfl⟩
theorem runA_le : ∀ (n : Nat) (A : zA), (runA n A).2 ≤ n := by
  intro n
  induction n with
  | zero => exact fun _ => Nat.le_refl _
  | succ n ih =>
    intro A
    show (if gM A.1 0 2 = 0 then _ else _ : zA × Nat).2 ≤ _
    split
    · have := ih (fullA A); simp only; omega
    · exact Nat.zero_le _
theorem AI_runA : ∀ (n : Nat) (A : zA) (j : Nat), AI A → gJ A.1 = lN j → AI (runA n A).1 ∧ ∃ j', j' ≤ j + n ∧ gJ (runA n A).1.1 = lN j' := by
  intro n
  induction n with
  | zero => exact fun A j h e => ⟨h, j, Nat.le_refl _, e⟩
  | succ n ih =>
    intro A j h e
    by_cases c : gM A.1 0 2 = 0
    · have e1 : runA (n + 1) A = ((runA n (fullA A)).1, (runA n (fullA A)).2 + 1) := by
        show (if gM A.1 0 2 = 0 then _ else _) = _
        rw [if_pos c]
      obtain ⟨f1, f2⟩ := AI_full h c
      rw [e, lN_1] at f2
      obtain ⟨g1, j', g2, g3⟩ := ih (fullA A) (j + 1) f1 f2
      rw [e1]
      exact ⟨g1, j', by omega, g3⟩
    · have e1 : runA (n + 1) A = (A, 0) := by
        show (if gM A.1 0 2 = 0 then _ else _) = _
        rw [if_neg c]
      rw [e1]
      exact ⟨h, j, by omega, e⟩
theorem AI_runC {A : zA} {j : Nat} (h : AI A) (e : gJ A.1 = lN j) (m : Int32) : AI (runC A m).1 ∧ ∃ j', j' ≤ j + 5000 ∧ gJ (runC A m).1.1 = lN j' := by
  unfold runC
  by_cases c : un m ≤ 5000
  · rw [if_pos c]
    obtain ⟨a, j', b, d⟩ := AI_runA (un m) A j h e
    exact ⟨a, j', by omega, d⟩
  · rw [if_neg c]
    exact ⟨h, j, by omega, e⟩
theorem AI_feed {A : zA} (h : AI A) (a b c d e : Int32) : AI (feedA A a b c d e).1 ∧ gJ (feedA A a b c d e).1.1 = gJ A.1 := by
  unfold feedA
  split <;> exact ⟨h, rfl⟩
theorem AI_end {A : zA} (h : AI A) (n : Int32) : AI (endA A n).1 ∧ gJ (endA A n).1.1 = gJ A.1 := by
  unfold endA
  split <;> exact ⟨h, rfl⟩
theorem AI_put {A : zA} (h : AI A) (n : Int32) : AI (putA A n).1 ∧ gJ (putA A n).1.1 = gJ A.1 := by
  unfold putA
  split <;> exact ⟨h, rfl⟩
theorem AI_type {A : zA} (h : AI A) : AI (typeA A).1 ∧ gJ (typeA A).1.1 = gJ A.1 := by
  unfold typeA
  split <;> exact ⟨h, rfl⟩
theorem AI_command {A : zA} (h : AI A) : AI (commandA A).1 ∧ gJ (commandA A).1.1 = gJ A.1 := by
  unfold commandA
  split <;> exact ⟨h, rfl⟩
theorem AI_clock {A : zA} (h : AI A) (v : Int32) : AI (clockA A v) ∧ gJ (clockA A v).1 = gJ A.1 := ⟨h, rfl⟩
theorem AI_begin {A : zA} (h : AI A) : AI (beginA A) ∧ gJ (beginA A).1 = gJ A.1 := ⟨AI.mk3 h.h h.f ⟨rfl, ⟨0, by decide, rfl⟩, fun _ => rfl, fun _ => rfl⟩, rfl⟩
theorem AI_set {A : zA} (h : AI A) (r v : Int32) : AI (setA A r v).1 ∧ gJ (setA A r v).1.1 = gJ A.1 := by
  unfold setA
  by_cases c : 1 ≤ un r ∧ un r ≤ 32
  · rw [if_pos c]
    by_cases c2 : un r = 32
    · simp only [if_pos c2]; exact ⟨h, rfl⟩
    · simp only [if_neg c2]
      refine ⟨AI.mk3 h.h h.f ⟨?_, h.s.2⟩, rfl⟩
      rw [gM_aM, if_pos rfl, if_neg (by omega)]
      exact h.s.1
  · rw [if_neg c]; exact ⟨h, rfl⟩
theorem zpos_no0 {t : List Int32} {z : Nat} (h : zpos t = some z) : ¬ (0 : Int32) ∈ t.take z := by
  intro w
  unfold zpos at h
  rw [List.findIdx?_eq_some_iff_getElem] at h
  obtain ⟨h1, h2, h3⟩ := h
  obtain ⟨i, hi⟩ := List.getElem?_of_mem w
  have hl : i < (t.take z).length := (List.getElem?_eq_some_iff.mp hi).1
  rw [List.length_take] at hl
  rw [List.getElem?_take_of_lt (by omega), List.getElem?_eq_getElem (by omega)] at hi
  have := h3 i (by omega)
  rw [Option.some.inj hi] at this
  simp at this
theorem AI_lay {A : zA} (h : AI A) : AI (layA A).1 ∧ gJ (layA A).1.1 = gJ A.1 := by
  unfold layA
  cases hz : zpos (A.2.1 0) with
  | none => exact ⟨h, rfl⟩
  | some z =>
    simp only
    have hzl := zpos_lt hz
    by_cases c : 1 ≤ z ∧ z ≤ 24 ∧ (A.2.1 0).length - z - 1 ≤ 2000
    · rw [if_pos c]
      have hc : ((A.2.1 0).drop (z + 1)).length ≤ 2000 := by rw [List.length_drop]; omega
      cases hf : findA A ((A.2.1 0).take z) with
      | none =>
        simp only
        by_cases c2 : A.2.2.length < 12
        · rw [if_pos c2]
          have hn : ((A.2.1 0).take z).length = z := by rw [List.length_take]; omega
          have hA : AI (aFiles A (A.2.2 ++ [((A.2.1 0).take z, (A.2.1 0).drop (z + 1))])) := h.files (h.f.add hf (by omega) (by omega) (zpos_no0 hz) hc) (by rw [List.length_append]; omega)
          exact ⟨hA, rfl⟩
        · rw [if_neg c2]; exact ⟨h, rfl⟩
      | some k =>
        simp only
        by_cases c2 : openA A k 10 = 0
        · rw [if_pos c2]
          obtain ⟨f, hf1, hf2⟩ := findA_name hf
          have hx := h.f.cont hf1 hc
          rw [hf2] at hx
          have hA : AI (aFiles A (A.2.2.set k ((A.2.1 0).take z, (A.2.1 0).drop (z + 1)))) := h.files hx (by rw [List.length_set]; exact Nat.le_refl _)
          exact ⟨hA, rfl⟩
        · rw [if_neg c2]; exact ⟨h, rfl⟩
    · rw [if_neg c]; exact ⟨h, rfl⟩
