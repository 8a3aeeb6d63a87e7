/-! the reference: one CALL; run -/
theorem r_length {A : zA} {T : zS} (h : RS A T) (hI : AI A) {a : Int32} (hb : gM A.1 2 11 = a) (ha : un a + 4 ≤ 16384) {o : Int32} {P : zS → Prop} (hP : oEnd (lengthA A (fieldA A a 0)) P) : w_M_field (0 : Int32) T (fun S7 r8 => w_M_isOpen r8 S7 (fun S9 r10 => (r10 = 0 → (w_M_fails (9 : Int32) S9 (fun S11 => P S11))) ∧ (¬ r10 = 0 → (w_M_field (0 : Int32) S9 (fun S12 r13 => vp_in r13 11 ∧ ((gM S12 7 r13.toNatClampNeg) ≤ (1 : Int32) → (w_M_field (0 : Int32) S12 (fun S15 r16 => vp_in r16 11 ∧ vp_in (gM S15 8 r16.toNatClampNeg) 12 ∧ j_M_more_239 o a P S15 (gM S15 4 (gM S15 8 r16.toNatClampNeg).toNatClampNeg)))) ∧ (¬ (gM S12 7 r13.toNatClampNeg) ≤ (1 : Int32) → (j_M_more_239 o a P S12 (0 : Int32)))))))) := by
  refine r_field h hb (k := 0) (by omega) rfl (r_isOpen h hI _ ?_)
  unfold lengthA at hP
  cases hh : hopen A (fieldA A a 0) with
  | none =>
    rw [hh] at hP
    exact ⟨fun _ => r_fails h _ hP, fun z => absurd rfl z⟩
  | some k =>
    rw [hh] at hP
    simp only at hP
    obtain ⟨hk, hkind⟩ := hopen_spec hh
    have ex := hop_un hh
    refine ⟨fun z => absurd z (show ¬ (1 : Int32) = 0 by decide), fun _ => r_field h hb (k := 0) (by omega) rfl ?_⟩
    rw [ex, nI_clamp (show k + 1 < 2 ^ 31 by omega), h.kd hk, kind1 hI hk hkind]
    refine ⟨vp_in_nI (by omega) (by decide), fun c => r_field h hb (k := 0) (by omega) rfl ?_, fun c => ?_⟩
    · obtain ⟨q, f, e1, e2, hq, e8, ar⟩ := h.file hI hk c
      rw [ex, nI_clamp (show k + 1 < 2 ^ 31 by omega), e8, nI_clamp (show q < 2 ^ 31 by omega), ar.1]
      unfold j_M_more_239
      rw [if_pos c, contA_eq e1 e2] at hP
      exact ⟨vp_in_nI (by omega) (by decide), vp_in_nI hq (by decide), r_answer h _ hP⟩
    · unfold j_M_more_239
      rw [if_neg c] at hP
      exact r_answer h _ hP
theorem r_isCon {A : zA} {T : zS} (h : RS A T) (hI : AI A) {a : Int32} (hb : gM A.1 2 11 = a) (ha : un a + 4 ≤ 16384) {o : Int32} {P : zS → Prop} (hP : oEnd (isConA A (fieldA A a 0)) P) : w_M_field (0 : Int32) T (fun S38 r39 => w_M_isOpen r39 S38 (fun S40 r41 => (r41 = 0 → (w_M_fails (9 : Int32) S40 (fun S42 => P S42))) ∧ (¬ r41 = 0 → (w_M_field (0 : Int32) S40 (fun S43 r44 => vp_in r44 11 ∧ ((gM S43 7 r44.toNatClampNeg) ≤ (1 : Int32) → (j_M_call_293 o a P S43 (0 : Int32))) ∧ (¬ (gM S43 7 r44.toNatClampNeg) ≤ (1 : Int32) → (j_M_call_293 o a P S43 (1 : Int32)))))))) := by
  refine r_field h hb (k := 0) (by omega) rfl (r_isOpen h hI _ ?_)
  unfold isConA at hP
  cases hh : hopen A (fieldA A a 0) with
  | none =>
    rw [hh] at hP
    exact ⟨fun _ => r_fails h _ hP, fun z => absurd rfl z⟩
  | some k =>
    rw [hh] at hP
    simp only at hP
    obtain ⟨hk, hkind⟩ := hopen_spec hh
    have ex := hop_un hh
    refine ⟨fun z => absurd z (show ¬ (1 : Int32) = 0 by decide), fun _ => r_field h hb (k := 0) (by omega) rfl ?_⟩
    rw [ex, nI_clamp (show k + 1 < 2 ^ 31 by omega), h.kd hk, kind1 hI hk hkind]
    unfold j_M_call_293
    refine ⟨vp_in_nI (by omega) (by decide), fun c => ?_, fun c => ?_⟩
    · rw [if_pos c] at hP
      exact r_answer h _ hP
    · rw [if_neg c] at hP
      exact r_answer h _ hP
theorem r_close {A : zA} {T : zS} (h : RS A T) (hI : AI A) {a : Int32} (hb : gM A.1 2 11 = a) (ha : un a + 4 ≤ 16384) {P : zS → Prop} (hP : oEnd (closeA A (fieldA A a 0)) P) : w_M_field (0 : Int32) T (fun S3 r4 => w_M_isOpen r4 S3 (fun S5 r6 => (r6 = 0 → (w_M_fails (9 : Int32) S5 (fun S12 => P S12))) ∧ (¬ r6 = 0 → (w_M_field (0 : Int32) S5 (fun S7 r8 => vp_in r8 11 ∧ ∀ S10 : zS, S10 = sM S7 7 r8.toNatClampNeg (0 : Int32) → w_M_answer (0 : Int32) S10 (fun S11 => P S11)))))) := by
  refine r_field h hb (k := 0) (by omega) rfl (r_isOpen h hI _ ?_)
  unfold closeA at hP
  cases hh : hopen A (fieldA A a 0) with
  | none =>
    rw [hh] at hP
    exact ⟨fun _ => r_fails h _ hP, fun z => absurd rfl z⟩
  | some k =>
    rw [hh] at hP
    simp only at hP
    obtain ⟨hk, hkind⟩ := hopen_spec hh
    have ex := hop_un hh
    refine ⟨fun z => absurd z (show ¬ (1 : Int32) = 0 by decide), fun _ => r_field h hb (k := 0) (by omega) rfl ?_⟩
    rw [ex, nI_clamp (show k + 1 < 2 ^ 31 by omega)]
    refine ⟨vp_in_nI (by omega) (by decide), ?_⟩
    rintro S10 rfl
    exact r_answer (h.shut k) _ hP
theorem r_readByte {A : zA} {T : zS} (h : RS A T) {o a : Int32} {P : zS → Prop} (hP : oEnd (readByteA A) P) : ((gM T 0 20) ≤ 0 → (j_M_call_235 o a P T (-1 : Int32))) ∧ (¬ (gM T 0 20) ≤ 0 → (w_M_takeIn T (fun S34 r35 => j_M_call_235 o a P S34 r35))) := by
  obtain ⟨i1, i2, i3⟩ := h.i
  unfold readByteA at hP
  rw [i1]
  unfold j_M_call_235
  cases hr : A.2.1 1 with
  | nil =>
    rw [hr] at hP
    refine ⟨fun _ => ?_, fun z => absurd (show nI ([] : List Int32).length ≤ 0 by decide) z⟩
    have e : aRow A 1 ([] : List Int32) = A := by
      refine Prod.ext rfl (Prod.ext ?_ rfl)
      funext s
      show (if s = 1 then ([] : List Int32) else A.2.1 s) = A.2.1 s
      by_cases z : s = 1
      · rw [if_pos z, z, hr]
      · rw [if_neg z]
    have hP : oEnd (aRow A 1 ([] : List Int32), -1) P := hP
    rw [e] at hP
    exact r_answer h _ hP
  | cons v l =>
    rw [hr] at hP i2
    rw [List.length_cons] at i2
    have hP : oEnd (aRow A 1 l, v) P := hP
    refine ⟨fun z => ?_, fun _ => r_takeIn h hr (fun T' h' => r_answer h' _ hP)⟩
    rw [← nI_0, nI_leI (by rw [List.length_cons]; omega) (by decide), List.length_cons] at z
    omega
theorem r_text3 {A : zA} {T : zS} (h : RS A T) (a : Int32) {P : zS → Prop} (hP : oEnd (textA A a (if un a + 1 ≤ 16384 then some 1 else none)) P) : w_M_isArea a (1 : Int32) T (fun S13 r14 => (r14 = 0 → (w_M_fails (14 : Int32) S13 (fun S18 => P S18))) ∧ (¬ r14 = 0 → (vp_in a 16384 ∧ w_M_prints (0 : Int32) (gM S13 1 a.toNatClampNeg) S13 (fun S16 => w_M_answer (0 : Int32) S16 (fun S17 => P S17))))) := by
  refine r_isArea _ _ ?_
  rw [show un 1 = 1 from rfl]
  by_cases c : un a + 1 ≤ 16384
  · rw [if_pos c] at hP ⊢
    have ea : a = nI (un a) := (nI_un a).symm
    have em : gM T 1 (un a) = gM A.1 3 (un a) := h.m _ (by omega)
    rw [clm ea (by omega), em]
    refine ⟨fun z => absurd z (by decide), fun _ => ⟨vin (by omega) ea, ?_⟩⟩
    exact r_prints h (j := 0) (by decide) _ rfl (fun T' h' => r_answer h' _ hP)
  · rw [if_neg c] at hP ⊢
    exact ⟨fun _ => r_fails h _ hP, fun z => absurd rfl z⟩
theorem st_perform (A : zA) {o a : Int32} (n24 : ¬ o = 24) (n32 : ¬ o = 32) : gM (performA A o a).1.1 0 2 = gM A.1 0 2 := by
  unfold performA
  by_cases c : o = 1
  · rw [if_pos c]
    unfold openC openF failA
    repeat' split
    all_goals rfl
  rw [if_neg c]
  by_cases c : o = 2
  · rw [if_pos c]
    unfold closeA
    split <;> rfl
  rw [if_neg c]
  by_cases c : o = 3
  · rw [if_pos c]
    unfold textA
    split <;> rfl
  rw [if_neg c]
  by_cases c : o = 4
  · rw [if_pos c]
    unfold textA
    split <;> rfl
  rw [if_neg c]
  by_cases c : o = 5
  · rw [if_pos c]
    unfold writeA wrF wrP
    repeat' split
    all_goals rfl
  rw [if_neg c]
  by_cases c : o = 6
  · rw [if_pos c]
    unfold readA
    repeat' split
    all_goals rfl
  rw [if_neg c]
  by_cases c : o = 7
  · rw [if_pos c]; rfl
  rw [if_neg c]
  by_cases c : o = 8
  · rw [if_pos c]
  rw [if_neg c]
  by_cases c : o = 9
  · rw [if_pos c]
    unfold isConA
    split <;> rfl
  rw [if_neg c]
  by_cases c : o = 10
  · rw [if_pos c]
    unfold seekA
    repeat' split
    all_goals rfl
  rw [if_neg c]
  by_cases c : o = 12
  · rw [if_pos c]
    unfold lengthA
    split <;> rfl
  rw [if_neg c]
  by_cases c : o = 13
  · rw [if_pos c]
    unfold tempA
    repeat' split
    all_goals rfl
  rw [if_neg c]
  by_cases c : o = 14
  · rw [if_pos c]
    unfold removeA
    repeat' split
    all_goals rfl
  rw [if_neg c]
  by_cases c : o = 15
  · rw [if_pos c]
    unfold renameA
    repeat' split
    all_goals rfl
  rw [if_neg c]
  unfold otherA
  by_cases c : o = 16
  · rw [if_pos c]
  rw [if_neg c]
  by_cases c : o = 17
  · rw [if_pos c]
  rw [if_neg c]
  by_cases c : o = 19
  · rw [if_pos c]
  rw [if_neg c]
  by_cases c : o = 21
  · rw [if_pos c]
    unfold tellA
    repeat' split
    all_goals rfl
  rw [if_neg c]
  by_cases c : o = 22
  · rw [if_pos c]
    unfold heapA
    split <;> rfl
  rw [if_neg c, if_neg n24, if_neg n32]
  by_cases c : o = 48
  · rw [if_pos c]
    unfold elapsedA
    split <;> rfl
  rw [if_neg c]
  by_cases c : o = 49
  · rw [if_pos c]
  rw [if_neg c]
  rfl
theorem r_more {A : zA} {T : zS} (h : RS A T) (hI : AI A) (hJ : ∃ j, j < 2 ^ 31 ∧ gJ A.1 = lN j) {o a : Int32} (hb : gM A.1 2 11 = a) (ok : okA a (fieldsA o) = true) (no : ¬ o = 1 ∧ ¬ o = 2 ∧ ¬ o = 3 ∧ ¬ o = 4 ∧ ¬ o = 5 ∧ ¬ o = 6 ∧ ¬ o = 7 ∧ ¬ o = 8 ∧ ¬ o = 9) {P : zS → Prop} (hP : ¬ (o = 24 ∨ o = 32) → oEnd (performA A o a) P) (hQ : o = 24 ∨ o = 32 → rEnd (performA A o a).1 P) : w_M_more o a T P := by
  rw [okA_iff] at ok
  unfold w_M_more
  refine ⟨fun c => ?_, fun c10 => ?_⟩
  · subst c
    have : fieldsA 10 = 2 := rfl
    exact r_field h hb (k := 0) (by omega) rfl (r_field h hb (k := 1) (by omega) rfl (r_seek h hI _ _ (hP (by decide))))
  refine ⟨fun c => ?_, fun c12 => ?_⟩
  · subst c
    have : fieldsA 12 = 1 := rfl
    exact r_length h hI hb (by omega) (hP (by decide))
  refine ⟨fun c => ?_, fun c13 => ?_⟩
  · subst c
    have : fieldsA 13 = 3 := rfl
    exact r_field h hb (k := 0) (by omega) rfl (r_field h hb (k := 1) (by omega) rfl (r_field h hb (k := 2) (by omega) rfl (r_temporary h _ _ _ (hP (by decide)))))
  refine ⟨fun c => ?_, fun c14 => ?_⟩
  · subst c
    have : fieldsA 14 = 2 := rfl
    exact r_field h hb (k := 0) (by omega) rfl (r_field h hb (k := 1) (by omega) rfl (r_remove h hI _ _ (hP (by decide))))
  refine ⟨fun c => ?_, fun c15 => ?_⟩
  · subst c
    have : fieldsA 15 = 4 := rfl
    exact r_field h hb (k := 0) (by omega) rfl (r_field h hb (k := 1) (by omega) rfl (r_field h hb (k := 2) (by omega) rfl (r_field h hb (k := 3) (by omega) rfl (r_rename h hI _ _ _ _ (hP (by decide))))))
  refine ⟨fun c => ?_, fun c16 => ?_⟩
  · subst c
    obtain ⟨j, j1, j2⟩ := hJ
    have e : ((gJ T) / (100 : Int64)).toInt32 = centA (gJ A.1) := by rw [h.j, j2, cent_eq (by omega)]
    rw [e]
    exact r_answer h _ (hP (by decide))
  refine ⟨fun c => ?_, fun c17 => ?_⟩
  · subst c
    have e : gM T 0 27 = gM A.1 0 7 := h.s.2.2.2.2.2.1
    rw [e]
    exact r_answer h _ (hP (by decide))
  refine ⟨fun c => ?_, fun c19 => ?_⟩
  · subst c
    have e : gM T 0 24 = gM A.1 0 6 := h.s.2.2.2.2.1
    rw [e]
    exact r_answer h _ (hP (by decide))
  refine ⟨fun c => ?_, fun c21 => ?_⟩
  · subst c
    have : fieldsA 21 = 2 := rfl
    exact r_field h hb (k := 0) (by omega) rfl (r_field h hb (k := 1) (by omega) rfl (r_tell h hb (by omega) _ _ (hP (by decide))))
  refine ⟨fun c => ?_, fun c22 => ?_⟩
  · subst c
    have : fieldsA 22 = 1 := rfl
    exact r_field h hb (k := 0) (by omega) rfl (r_heap h _ (hP (by decide)))
  refine ⟨fun c => ?_, fun c24 => ?_⟩
  · subst c
    have hQ : rEnd (exitA A a 0).1 P := hQ (Or.inl rfl)
    unfold exitA at hQ
    rintro S51 rfl
    unfold j_M_more_404
    refine ⟨fun z => ?_, fun z => ?_⟩
    · rw [if_pos z] at hQ
      rintro S1 rfl
      exact hQ _ ((h.state 1).code 0)
    · rw [if_neg z] at hQ
      rintro S1 rfl
      exact hQ _ ((h.state 1).code 1)
  refine ⟨fun c => ?_, fun c32 => ?_⟩
  · subst c
    have : fieldsA 32 = 2 := rfl
    have hQ : rEnd (exitA A (fieldA A a 0) (fieldA A a 1)).1 P := hQ (Or.inr rfl)
    unfold exitA at hQ
    rintro S52 rfl
    have h1 := h.state 1
    refine r_field h1 hb (k := 0) (by omega) rfl ?_
    unfold j_M_more_435
    refine ⟨fun z => r_field h1 hb (k := 1) (by omega) rfl ?_, fun z => ?_⟩
    · have z : fieldA A a 0 = 131110 := z
      rw [if_pos z] at hQ
      rintro S1 rfl
      exact hQ _ (h1.code _)
    · have z : ¬ fieldA A a 0 = 131110 := z
      rw [if_neg z] at hQ
      rintro S1 rfl
      exact hQ _ (h1.code 1)
  refine ⟨fun c => ?_, fun c48 => ?_⟩
  · subst c
    exact r_elapsed h hJ _ (hP (by decide))
  refine ⟨fun c => ?_, fun c49 => ?_⟩
  · subst c
    exact r_answer h _ (hP (by decide))
  have hP := hP (fun z => by rcases z with z | z; exact c24 z; exact c32 z)
  obtain ⟨n1, n2, n3, n4, n5, n6, n7, n8, n9⟩ := no
  unfold performA otherA at hP
  rw [if_neg n1, if_neg n2, if_neg n3, if_neg n4, if_neg n5, if_neg n6, if_neg n7, if_neg n8, if_neg n9, if_neg c10, if_neg c12, if_neg c13, if_neg c14, if_neg c15, if_neg c16, if_neg c17, if_neg c19, if_neg c21, if_neg c22, if_neg c24, if_neg c32, if_neg c48, if_neg c49] at hP
  exact r_fails h _ hP
theorem r_call32 {A : zA} {T : zS} (h : RS A T) (hI : AI A) (hJ : ∃ j, j < 2 ^ 31 ∧ gJ A.1 = lN j) {o a : Int32} (hb : gM A.1 2 11 = a) (ok : okA a (fieldsA o) = true) {P : zS → Prop} (hP : ¬ (o = 24 ∨ o = 32) → oEnd (performA A o a) P) (hQ : o = 24 ∨ o = 32 → rEnd (performA A o a).1 P) : j_M_call_32 o a P T := by
  have ok' := ok
  rw [okA_iff] at ok
  unfold j_M_call_32
  refine ⟨fun c => ?_, fun c1 => ?_⟩
  · subst c
    have : fieldsA 1 = 3 := rfl
    exact r_open h hI hb (by omega) (hP (by decide))
  refine ⟨fun c => ?_, fun c2 => ?_⟩
  · subst c
    have : fieldsA 2 = 1 := rfl
    exact r_close h hI hb (by omega) (hP (by decide))
  refine ⟨fun c => ?_, fun c3 => ?_⟩
  · subst c
    exact r_text3 h a (hP (by decide))
  refine ⟨fun c => ?_, fun c4 => ?_⟩
  · subst c
    exact r_writeUpToZero h a (hP (by decide))
  refine ⟨fun c => ?_, fun c5 => ?_⟩
  · subst c
    have : fieldsA 5 = 3 := rfl
    exact r_field h hb (k := 0) (by omega) rfl (r_field h hb (k := 1) (by omega) rfl (r_field h hb (k := 2) (by omega) rfl (r_write h hI _ _ _ (hP (by decide)))))
  refine ⟨fun c => ?_, fun c6 => ?_⟩
  · subst c
    have : fieldsA 6 = 3 := rfl
    exact r_field h hb (k := 0) (by omega) rfl (r_field h hb (k := 1) (by omega) rfl (r_field h hb (k := 2) (by omega) rfl (r_read h hI _ _ _ (hP (by decide)))))
  refine ⟨fun c => ?_, fun c7 => ?_⟩
  · subst c
    exact r_readByte h (hP (by decide))
  refine ⟨fun c => ?_, fun c8 => ?_⟩
  · subst c
    have : fieldsA 8 = 1 := rfl
    have hP : oEnd (A, nI (un (fieldA A a 0) / 2147483648)) P := hP (by decide)
    refine r_field h hb (k := 0) (by omega) rfl ?_
    unfold j_M_call_255
    generalize fieldA A a 0 = x at hP ⊢
    have hx := un_lt x
    refine ⟨fun z => ?_, fun z => ?_⟩
    · have : ¬ x < 0 := Int32.not_lt.mpr z
      rw [neg_iff] at this
      rw [show un x / 2147483648 = 0 by omega] at hP
      exact r_answer h _ hP
    · have : x < 0 := Int32.not_le.mp z
      rw [neg_iff] at this
      rw [show un x / 2147483648 = 1 by omega] at hP
      exact r_answer h _ hP
  refine ⟨fun c => ?_, fun c9 => ?_⟩
  · subst c
    have : fieldsA 9 = 1 := rfl
    exact r_isCon h hI hb (by omega) (hP (by decide))
  exact r_more h hI hJ hb ok' ⟨c1, c2, c3, c4, c5, c6, c7, c8, c9⟩ hP hQ
theorem r_call {A : zA} {T : zS} (h : RS (callA0 A) T) (hI : AI A) (h0 : gM A.1 0 2 = 0) (hJ : ∃ j, j < 2 ^ 31 ∧ gJ A.1 = lN j) {P : zS → Prop} (hP : gM (callA1 A).1.1 0 2 = 0 → oEnd (callA1 A) P) (hQ : ¬ gM (callA1 A).1.1 0 2 = 0 → rEnd (callA1 A).1 P) : w_M_call (gM A.1 2 10) (gM A.1 2 11) T P := by
  unfold w_M_call
  generalize ho : gM A.1 2 10 = o
  generalize ha : gM A.1 2 11 = a
  have hfl := fieldsA_le o
  have l0 : nI (fieldsA o) ≤ (0 : Int32) ↔ fieldsA o = 0 := by
    rw [← nI_0, nI_leI (by omega) (by decide)]; omega
  have go : okA a (fieldsA o) = true → j_M_call_32 o a P T := by
    intro ok
    have e : callA1 A = performA (callA0 A) o a := by
      unfold callA1
      rw [ho, ha, if_pos ok]
    rw [e] at hP hQ
    refine r_call32 h (AI_call0 hI) hJ ha ok (fun z => hP ?_) (fun z => hQ ?_)
    · rw [st_perform _ (fun y => z (Or.inl y)) (fun y => z (Or.inr y))]
      exact h0
    · rcases z with z | z <;> (subst z; exact show ¬ (1 : Int32) = 0 by decide)
  have bad : ¬ okA a (fieldsA o) = true → j_M_call_25 o a P T := by
    intro ok
    have e : callA1 A = failA (callA0 A) 14 := by
      unfold callA1
      rw [ho, ha, if_neg ok]
    rw [e] at hP
    unfold j_M_call_25
    exact r_fails h _ (hP h0)
  rw [okA_iff] at go bad
  refine r_fieldsOf o ?_
  rw [l0, and3]
  refine ⟨fun c => go (Or.inl c), fun c => ⟨fun c2 => r_isArea _ _ ?_, fun c2 => bad (by omega)⟩⟩
  rw [show (4 : Int32) = nI 4 from rfl, pk_mul, un_nI (by omega)]
  by_cases c3 : un a + 4 * fieldsA o ≤ 16384
  · rw [if_pos c3]
    exact ⟨fun z => absurd z (by decide), fun _ => go (Or.inr ⟨c2, c3⟩)⟩
  · rw [if_neg c3]
    exact ⟨fun _ => bad (by omega), fun z => absurd rfl z⟩
theorem r_breaks {A : zA} {T : zS} (h : RS A T) (hI : AI A) (h0 : gM A.1 0 2 = 0) (hJ : ∃ j, j < 2 ^ 31 ∧ gJ A.1 = lN j) (hm : markedA A = true) {P : zS → Prop} (hP : rEnd (callA A) P) : w_M_breaks T P := by
  obtain ⟨m1, m2, m3, m4⟩ := (markedA_iff A).mp hm
  have epc : gM T 0 3 = gM A.1 0 0 := h.pcv
  unfold w_M_breaks
  rw [epc]
  have l4 : gM A.1 0 0 < (4 : Int32) ↔ un (gM A.1 0 0) < 4 := by
    rw [← nI_un (gM A.1 0 0), un_nI (by omega)]
    exact nI_ltI (by omega) (by decide)
  have e8 : gM A.1 0 0 + (8 : Int32) = nI (un (gM A.1 0 0) + 8) := by rw [← nI_add, nI_un]; rfl
  have l8 : (16384 : Int32) < gM A.1 0 0 + (8 : Int32) ↔ 16384 < un (gM A.1 0 0) + 8 := by
    rw [e8]; exact nI_ltI (by decide) (by omega)
  rw [l4, l8]
  refine ⟨fun z => absurd z (by omega), fun _ => ⟨fun z => absurd z (by omega), fun _ => ?_⟩⟩
  unfold j_M_breaks_26
  refine ⟨fun z => absurd z (by decide), fun _ => ?_⟩
  refine r_word h (a := un (gM A.1 0 0) - 4) (by omega) (by rw [epc, ← pk_sub (by omega), nI_un]; rfl) ⟨fun _ => ?_, fun z => absurd m3 z⟩
  refine r_word h (a := un (gM A.1 0 0) + 4) (by omega) (by rw [epc, ← nI_add, nI_un]; rfl) ⟨fun _ => ?_, fun z => absurd m4 z⟩
  have ec : gM T 0 8 = gM A.1 0 8 := h.s.2.2.2.2.2.2.1
  rw [ec]
  rintro S5 rfl
  refine ⟨vp_in_nI (n := 10) (by decide) (by decide), ?_⟩
  have e10 : gM (sM T 0 8 (gM A.1 0 8 + 1)) 2 (10 : Int32).toNatClampNeg = gM A.1 2 10 := h.x 10 (by decide)
  rw [e10]
  rintro S7 rfl
  refine ⟨vp_in_nI (n := 11) (by decide) (by decide), ?_⟩
  have h7 : RS (callA0 A) (sM (sM T 0 8 (gM A.1 0 8 + 1)) 0 9 (gM A.1 2 10)) := (h.cal _).lat _
  have e10' : gM (sM (sM T 0 8 (gM A.1 0 8 + 1)) 0 9 (gM A.1 2 10)) 2 (10 : Int32).toNatClampNeg = gM A.1 2 10 := h.x 10 (by decide)
  have e11' : gM (sM (sM T 0 8 (gM A.1 0 8 + 1)) 0 9 (gM A.1 2 10)) 2 (11 : Int32).toNatClampNeg = gM A.1 2 11 := h.x 11 (by decide)
  rw [e10', e11']
  unfold callA at hP
  refine r_call h7 hI h0 hJ (fun st T9 h9 => ?_) (fun st T9 h9 => ?_)
  · rw [if_pos st] at hP
    have e4 : gM T9 0 4 = gM (callA1 A).1.1 0 2 := h9.s.2.1
    have e3 : gM T9 0 3 = gM (callA1 A).1.1 0 0 := h9.s.1
    rw [e4]
    refine ⟨fun _ => ?_, fun z => absurd st z⟩
    rintro S10 rfl
    rw [e3]
    exact hP _ (h9.pc _)
  · rw [if_neg st] at hP
    have e4 : gM T9 0 4 = gM (callA1 A).1.1 0 2 := h9.s.2.1
    rw [e4]
    exact ⟨fun z => absurd z st, fun _ => hP _ h9⟩
theorem step_true {A : zA} (c : (stepA A).2 = true) : (stepA A).1 = aJ A (gJ A.1 + 1) := by
  unfold stepA at c ⊢
  by_cases c1 : ¬ un (gM A.1 0 0) % 4 = 0
  · rw [if_pos c1] at c; cases c
  rw [if_neg c1] at c ⊢
  by_cases c2 : ¬ un (gM A.1 0 0) + 4 ≤ 16384
  · rw [if_pos c2] at c; cases c
  rw [if_neg c2] at c ⊢
  by_cases c3 : wordOf (gM A.1 3) (un (gM A.1 0 0)) = 1048691 ∧ markedA A = true
  · rw [if_pos c3]
  rw [if_neg c3] at c
  by_cases c4 : (exA (aJ A (gJ A.1 + 1)) (wordOf (gM A.1 3) (un (gM A.1 0 0)))).2.2 = 0
  · rw [if_pos c4] at c; cases c
  · rw [if_neg c4] at c; cases c
theorem r_full {A : zA} {T : zS} (h : RS A T) (hI : AI A) (h0 : gM A.1 0 2 = 0) (hJ : ∃ j, j + 1 < 2 ^ 31 ∧ gJ A.1 = lN j) {P : zS → Prop} (hP : rEnd (fullA A) P) : w_M_step T P := by
  unfold fullA at hP
  by_cases c : (stepA A).2 = true
  · rw [if_pos c] at hP
    obtain ⟨a1, a2, a3⟩ := AI_step hI h0
    obtain ⟨j, j1, j2⟩ := hJ
    refine r_step h (Or.inr c) (fun _ T' h' hp hm => r_breaks h' a1 (a2 c) ⟨j + 1, j1, by rw [a3, j2, lN_1]⟩ ?_ hP)
    rw [step_true c]
    exact hm
  · rw [if_neg c] at hP
    exact r_step h (Or.inl hP) (fun z => absurd z c)
theorem r_run_loop {m : Int32} {M : Nat} (hm : m = nI M) (hM : M ≤ 5000) {P : zS → Int32 → Prop} :
    ∀ (k i : Nat) (A : zA) (T : zS), k + i = M → RS A T → AI A → (∃ j, j + k < 2 ^ 31 ∧ gJ A.1 = lN j) → (∀ T', RS (runA k A).1 T' → P T' (nI (i + (runA k A).2))) → l_M_run_22 m P (k + 1) T (nI i) := by
  intro k
  induction k with
  | zero =>
    intro i A T hi h hI hJ hP
    have hi : i = M := by omega
    subst hi
    unfold l_M_run_22
    rw [hm, h.2]
    exact ⟨fun _ => ⟨fun _ => hP T h, fun c => absurd (nI_le (Nat.le_refl _) (by omega)) c⟩, fun z => absurd rfl z⟩
  | succ k ih =>
    intro i A T hi h hI hJ hP
    have e4 : gM T 0 4 = gM A.1 0 2 := h.s.2.1
    unfold l_M_run_22
    rw [hm, h.2, e4]
    refine ⟨fun _ => ⟨fun c => ?_, fun _ => ⟨fun c => ?_, fun c => ?_⟩⟩, fun z => absurd rfl z⟩
    · rw [nI_leI (by omega) (by omega)] at c
      omega
    · have hP' : ∀ S', RS (runA k (fullA A)).1 S' → P S' (nI (i + 1 + (runA k (fullA A)).2)) := by
        intro S' h'
        have e : runA (k + 1) A = ((runA k (fullA A)).1, (runA k (fullA A)).2 + 1) := by
          show (if gM A.1 0 2 = 0 then _ else _) = _
          rw [if_pos c]
        rw [e] at hP
        have := hP S' h'
        have e2 : i + ((runA k (fullA A)).2 + 1) = i + 1 + (runA k (fullA A)).2 := by omega
        rw [e2] at this
        exact this
      obtain ⟨f1, f2⟩ := AI_full hI c
      obtain ⟨j, j1, j2⟩ := hJ
      rw [nI_1]
      refine r_full h hI c ⟨j, by omega, j2⟩ (fun T1 h1 => ?_)
      rw [← hm]
      exact ih (i + 1) _ T1 (by omega) h1 f1 ⟨j + 1, by omega, by rw [f2, j2, lN_1]⟩ hP'
    · have e : runA (k + 1) A = (A, 0) := by
        show (if gM A.1 0 2 = 0 then _ else _) = _
        rw [if_neg c]
      rw [e] at hP
      exact hP T h
theorem m_run {A : zA} {T : zS} (h : RR A T) (hI : AI A) (hJ : ∃ j, j + 5000 < 2 ^ 31 ∧ gJ A.1 = lN j) (m : Int32) : w_M_run m T (mP (runC A m).1 (runC A m).2) := by
  unfold w_M_run
  have bad : ¬ un m ≤ 5000 → j_M_run_12 m (mP (runC A m).1 (runC A m).2) T := by
    intro c
    unfold j_M_run_12 j_M_run_17
    rintro S1 rfl
    refine ⟨1, ?_⟩
    unfold l_M_run_22 runC
    rw [if_neg c]
    exact ⟨fun z => absurd z (show ¬ (1 : Int32) = 0 by decide), fun _ => ⟨h.thr 1, rfl, fun z => absurd z n10⟩⟩
  refine ⟨fun c => bad (by rw [neg_iff] at c; omega), fun c => ?_⟩
  have l5 : m ≤ (5000 : Int32) ↔ un m ≤ 5000 := le_of_un (m := 5000) (by decide) c
  rw [l5]
  refine ⟨fun c2 => ?_, bad⟩
  unfold j_M_run_17
  rintro S1 rfl
  obtain ⟨j, j1, j2⟩ := hJ
  have h1 : RS A (sM T 0 0 0) := ⟨h.thr 0, rfl⟩
  refine ⟨un m + 1, r_run_loop (nI_un m).symm c2 (un m) 0 A _ (by omega) h1 hI ⟨j, by omega, j2⟩ (fun T' h' => ?_)⟩
  unfold runC
  rw [if_pos c2, Nat.zero_add]
  exact ⟨h'.1, h'.2, fun _ => rfl⟩
