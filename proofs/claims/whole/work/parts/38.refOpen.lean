/-! the reference: OPEN, and what lays words -/
theorem r_opened {A : zA} {T : zS} (h : RS A T) {i : Nat} (hi : i < 10) (kd v rt : Int32) {its : Option Nat} (hv : kd = 1 → ∃ q, its = some q ∧ v = nI q) {P : zS → Prop} (hP : oEnd (aOpen A i kd its 0 rt, nI (i + 1)) P) : w_M_opened (nI (i + 1)) kd v rt T P := by
  unfold w_M_opened
  rw [nI_clamp (show i + 1 < 2 ^ 31 by omega)]
  refine ⟨vp_in_nI (by omega) (by decide), ?_⟩
  rintro S2 rfl S3 rfl S4 rfl S5 rfl
  exact r_answer (h.opn kd v rt hv) _ hP
theorem r_o44 {A : zA} {T : zS} (h : RS A T) (hI : AI A) {x1 x2 x3 x4 : Int32} {P : zS → Prop} (hP : j_M_open_67 P T x1 x2 x3 x4 (match leastA A with | some k => nI (k + 1) | none => 11)) :
    ∀ (m i : Nat), m + i = 10 → (∀ q, q < i → ¬ gM A.1 4 q = 0) → l_M_open_44 P (m + 1) T x1 x2 x3 x4 (nI (i + 1)) := by
  intro m
  induction m with
  | zero =>
    intro i hi hq
    have hi : i = 10 := by omega
    subst hi
    unfold l_M_open_44
    refine ⟨fun _ => ?_, fun c => absurd (show (10 : Int32) < nI (10 + 1) by decide) c⟩
    have : leastA A = none := by
      unfold leastA
      rw [List.find?_range_eq_none]
      intro j hj
      simp [hq j hj]
    rw [this] at hP
    exact hP
  | succ m ih =>
    intro i hi hq
    have l10 : (10 : Int32) < nI (i + 1) ↔ 10 < i + 1 := nI_ltI (by decide) (by omega)
    unfold l_M_open_44
    rw [l10, nI_clamp (show i + 1 < 2 ^ 31 by omega), h.kd (by omega), kind0 hI (by omega)]
    refine ⟨fun c => absurd c (by omega), fun _ => ⟨vp_in_nI (by omega) (by decide), fun c => ?_, fun c => ?_⟩⟩
    · have : leastA A = some i := by
        unfold leastA
        rw [List.find?_range_eq_some]
        exact ⟨by simp [c], List.mem_range.mpr (by omega), fun j hj => by simp [hq j hj]⟩
      rw [this] at hP
      exact hP
    · rw [nI_1]
      exact ih (i + 1) (by omega) (fun q hq9 => by
        by_cases e : q = i
        · subst e; exact c
        · exact hq q (by omega))
theorem r_o316 {A : zA} {T : zS} (h : RS A T) {i m k : Nat} (hi : i < 10) (hm : m ≤ 11) {P : zS → Prop} (hP : oEnd (aOpen A i 1 (some k) 0 (fileMay m), nI (i + 1)) P) : j_M_open_316 P T (nI m) (nI (i + 1)) (nI k) := by
  have key : ∀ rt, rt = fileMay m → w_M_opened (nI (i + 1)) 1 (nI k) rt T P := by
    rintro rt rfl
    exact r_opened h hi 1 (nI k) _ (fun _ => ⟨k, rfl, rfl⟩) hP
  have e4 : nI m - nI m / (4 : Int32) * (4 : Int32) ≤ (1 : Int32) ↔ m % 4 ≤ 1 := by
    rw [show (4 : Int32) = nI 4 from rfl, pk_rem (by omega) (by decide) (by decide)]
    exact nI_leI (by omega) (by decide)
  have l4 : (4 : Int32) ≤ nI m ↔ 4 ≤ m := nI_leI (by decide) (by omega)
  have l8 : (8 : Int32) ≤ nI m ↔ 8 ≤ m := nI_leI (by decide) (by omega)
  unfold j_M_open_316 j_M_open_328 j_M_open_364 j_M_open_375 j_M_open_376
  rw [e4, l4, l8]
  refine ⟨fun c => ⟨fun c4 => ⟨fun _ => ⟨fun c8 => key _ ?_, fun c8 => key _ ?_⟩, fun z => absurd rfl z⟩, fun c4 => ⟨fun _ => key _ ?_, fun z => absurd rfl z⟩⟩, fun c => ⟨fun c4 => ⟨fun z => absurd z (by decide), fun _ => ⟨fun c8 => key _ ?_, fun c8 => key _ ?_⟩⟩, fun c4 => ⟨fun z => absurd z (by decide), fun _ => key _ ?_⟩⟩⟩
  · unfold fileMay; rw [if_neg (by omega), if_neg (by omega), if_pos (by omega)]; rfl
  · unfold fileMay; rw [if_neg (by omega), if_pos (by omega), if_pos (by omega)]; rfl
  · unfold fileMay; rw [if_pos (by omega), if_pos (by omega)]
  · unfold fileMay; rw [if_neg (by omega), if_neg (by omega), if_neg (by omega)]; rfl
  · unfold fileMay; rw [if_neg (by omega), if_pos (by omega), if_neg (by omega)]; rfl
  · unfold fileMay; rw [if_pos (by omega), if_neg (by omega)]
theorem r_o297 {A : zA} {T : zS} (h : RS A T) {i m k : Nat} (hi : i < 10) (hm : m ≤ 11) {f : List Int32 × List Int32} (hk : A.2.2[k]? = some f) {P : zS → Prop} (hP : oEnd (aOpen (if 4 ≤ m ∧ m < 8 then aFiles A (A.2.2.set k (f.1, [])) else A) i 1 (some k) 0 (fileMay m), nI (i + 1)) P) : j_M_open_297 P T (nI m) (nI (i + 1)) (nI k) := by
  have hk12 : k < 12 := Nat.lt_of_lt_of_le (List.getElem?_eq_some_iff.mp hk).1 h.f.2.1
  have l4 : nI m < (4 : Int32) ↔ m < 4 := nI_ltI (by omega) (by decide)
  have l8 : (8 : Int32) ≤ nI m ↔ 8 ≤ m := nI_leI (by decide) (by omega)
  have no : ¬ (4 ≤ m ∧ m < 8) → j_M_open_316 P T (nI m) (nI (i + 1)) (nI k) := by
    intro z
    rw [if_neg z] at hP
    exact r_o316 h hi hm hP
  unfold j_M_open_297
  rw [l4, l8, nI_clamp (show k < 2 ^ 31 by omega)]
  refine ⟨fun c => no (by omega), fun c => ⟨fun c2 => no (by omega), fun c2 => ⟨vp_in_nI hk12 (by decide), ?_⟩⟩⟩
  rintro S2 rfl
  rw [if_pos (by omega)] at hP
  exact r_o316 (h.fcut hk) hi hm hP
theorem RR.fadd {A : zA} {T T' : zS} (h : RR A T) (hl : A.2.2.length < 12) {nm ct : List Int32} (e : ∀ c, ¬ (c = 0 ∨ c = 3 ∨ c = 4 ∨ c = 5 ∨ c = 6) → gM T' c = gM T c) (e0 : ∀ i, i ≠ 14 → gM T' 0 i = gM T 0 i) (e14 : gM T' 0 14 = nI (A.2.2.length + 1)) (ej : gJ T' = gJ T) (e4 : ∀ k, k < A.2.2.length → gM T' 4 k = gM T 4 k) (e6 : ∀ k, k < A.2.2.length → gM T' 6 k = gM T 6 k) (e3 : ∀ i, i < 2000 * A.2.2.length → gM T' 3 i = gM T 3 i) (e5 : ∀ i, i < 24 * A.2.2.length → gM T' 5 i = gM T 5 i) (n4 : arr ct (gM T' 4 A.2.2.length) (fun i => gM T' 3 (2000 * A.2.2.length + i)) 2000) (n6 : arr nm (gM T' 6 A.2.2.length) (fun i => gM T' 5 (24 * A.2.2.length + i)) 24) : RR (aFiles A (A.2.2 ++ [(nm, ct)])) T' := by
  obtain ⟨f1, f2, f3⟩ := h.f
  refine h.fls e e0 ej ⟨by rw [List.length_append]; exact e14, by rw [List.length_append, List.length_singleton]; omega, fun k g hg => ?_⟩
  have hk := (List.getElem?_eq_some_iff.mp hg).1
  rw [List.length_append, List.length_singleton] at hk
  by_cases c : k = A.2.2.length
  · subst c
    rw [List.getElem?_append_right (Nat.le_refl _), Nat.sub_self] at hg
    have hg := Option.some.inj hg
    subst hg
    exact ⟨n4, n6⟩
  · rw [List.getElem?_append_left (by omega)] at hg
    obtain ⟨⟨g1, g2, g3⟩, g4, g5, g6⟩ := f3 _ _ hg
    rw [e4 k (by omega), e6 k (by omega)]
    refine ⟨⟨g1, g2, fun i hi => ?_⟩, g4, g5, fun i hi => ?_⟩
    · show _ = some (gM T' 3 (2000 * k + i))
      rw [e3 _ (by omega)]; exact g3 i hi
    · show _ = some (gM T' 5 (24 * k + i))
      rw [e5 _ (by omega)]; exact g6 i hi
theorem RR.fnew {A : zA} {T W : zS} (h : RR A T) (hl : A.2.2.length < 12) {nm : List Int32} (hn : nm.length ≤ 24) (c : cpy 5 (24 * A.2.2.length) nm (sM (sM (sM T 0 14 (nI (A.2.2.length + 1))) 4 A.2.2.length 0) 6 A.2.2.length (nI nm.length)) W) : RR (aFiles A (A.2.2 ++ [(nm, [])])) W := by
  have e := c.1
  refine h.fadd hl (fun c' hc => ?_) (fun i hi => ?_) ?_ ?_ (fun k hk => ?_) (fun k hk => ?_) (fun i hi => ?_) (fun i hi => ?_) ?_ ?_
  · rw [e c' (by omega), gM_off _ _ _ (show c' ≠ 6 by omega), gM_off _ _ _ (show c' ≠ 4 by omega), gM_off _ _ _ (show c' ≠ 0 by omega)]
  · rw [e 0 (by decide)]
    show (if i = 14 then _ else _) = _
    rw [if_neg hi]; rfl
  · rw [e 0 (by decide)]; rfl
  · exact c.j
  · rw [e 4 (by decide)]
    show (if k = A.2.2.length then _ else _) = _
    rw [if_neg (by omega)]; rfl
  · rw [e 6 (by decide)]
    show (if k = A.2.2.length then _ else _) = _
    rw [if_neg (by omega)]; rfl
  · rw [e 3 (by decide)]; rfl
  · rw [c.2.1, mset_out _ _ _ (Or.inl hi)]; rfl
  · rw [e 4 (by decide)]
    refine ⟨?_, Nat.zero_le _, fun i hi => absurd hi (by simp)⟩
    show (if A.2.2.length = A.2.2.length then (0 : Int32) else _) = nI 0
    rw [if_pos rfl, nI_0]
  · rw [e 6 (by decide)]
    refine ⟨?_, hn, fun i hi => ?_⟩
    · show (if A.2.2.length = A.2.2.length then _ else _) = _
      rw [if_pos rfl]
    · show _ = some (gM W 5 (24 * A.2.2.length + i))
      rw [c.2.1]
      exact mset_at _ _ _ hi
theorem RS.fnew {A : zA} {T W : zS} (h : RS A T) (hl : A.2.2.length < 12) {nm : List Int32} (hn : nm.length ≤ 24) (c : cpy 5 (24 * A.2.2.length) nm (sM (sM (sM T 0 14 (nI (A.2.2.length + 1))) 4 A.2.2.length 0) 6 A.2.2.length (nI nm.length)) W) : RS (aFiles A (A.2.2 ++ [(nm, [])])) W := ⟨h.1.fnew hl hn c, by rw [c.1 0 (by decide)]; exact h.2⟩
theorem bytesOf_is (mm : Nat → Int32) (a : Nat) {n i : Nat} (h : i < (bytesOf mm a n).length) : (bytesOf mm a n)[i] = mm (a + i) := by
  have h2 := h
  rw [bytesOf_len] at h2
  have := bytesOf_at mm a h2
  rw [List.getElem?_eq_getElem h] at this
  exact Option.some.inj this
theorem r_o222 {A : zA} {T : zS} (h : RS A T) {i m a n : Nat} (hi : i < 10) (hm : m ≤ 11) (ha : a + n ≤ 16384) (hn : n ≤ 24) (hl : A.2.2.length < 12) {P : zS → Prop} (hP : oEnd (aOpen (aFiles A (A.2.2 ++ [(bytesOf (gM A.1 3) a n, [])])) i 1 (some A.2.2.length) 0 (fileMay m), nI (i + 1)) P) : j_M_open_222 P T (nI a) (nI m) (nI n) (nI (i + 1)) (-1) := by
  unfold j_M_open_222
  refine ⟨fun _ => ?_, fun z => absurd rfl z⟩
  rw [h.f.1]
  rintro v1 rfl S2 rfl
  rw [nI_1, nI_clamp (show A.2.2.length < 2 ^ 31 by omega)]
  refine ⟨vp_in_nI hl (by decide), ?_⟩
  rintro S4 rfl S5 rfl
  have hlen : (bytesOf (gM A.1 3) a n).length = n := bytesOf_len _ _ _
  have loop : ∀ (k j : Nat) (W : zS), k + j = n → cpy 5 (24 * A.2.2.length) ((bytesOf (gM A.1 3) a n).take j) (sM (sM (sM T 0 14 (nI (A.2.2.length + 1))) 4 A.2.2.length 0) 6 A.2.2.length (nI n)) W → l_M_open_263 P (k + 1) W (nI a) (nI m) (nI n) (nI (i + 1)) (nI A.2.2.length) (nI j) := by
    intro k
    induction k with
    | zero =>
      intro j W hj hc
      have hj : j = n := by omega
      subst hj
      unfold l_M_open_263
      refine ⟨fun _ => ?_, fun z => absurd (nI_le (Nat.le_refl _) (by omega)) z⟩
      rw [show (bytesOf (gM A.1 3) a j).take j = bytesOf (gM A.1 3) a j from List.take_of_length_le (by omega)] at hc
      have h1 := h.fnew (nm := bytesOf (gM A.1 3) a j) hl (by omega) (by rw [hlen]; exact hc)
      have hk : (aFiles A (A.2.2 ++ [(bytesOf (gM A.1 3) a j, [])])).2.2[A.2.2.length]? = some (bytesOf (gM A.1 3) a j, []) := by
        show (A.2.2 ++ [(bytesOf (gM A.1 3) a j, [])])[A.2.2.length]? = _
        simp
      refine r_o297 h1 hi hm hk ?_
      have e2 : (if 4 ≤ m ∧ m < 8 then aFiles (aFiles A (A.2.2 ++ [(bytesOf (gM A.1 3) a j, [])])) ((aFiles A (A.2.2 ++ [(bytesOf (gM A.1 3) a j, [])])).2.2.set A.2.2.length ((bytesOf (gM A.1 3) a j, ([] : List Int32)).1, [])) else aFiles A (A.2.2 ++ [(bytesOf (gM A.1 3) a j, [])])) = aFiles A (A.2.2 ++ [(bytesOf (gM A.1 3) a j, [])]) := by
        by_cases z : 4 ≤ m ∧ m < 8
        · rw [if_pos z]
          show aFiles A ((A.2.2 ++ [(bytesOf (gM A.1 3) a j, [])]).set A.2.2.length (bytesOf (gM A.1 3) a j, [])) = _
          congr 1
          rw [List.set_append_right _ _ (Nat.le_refl _)]; simp
        · rw [if_neg z]
      rw [e2]
      exact hP
    | succ k ih =>
      intro j W hj hc
      have hjl : j < (bytesOf (gM A.1 3) a n).length := by omega
      have ea : nI a + nI j = nI (a + j) := nI_add a j
      have ed : (24 : Int32) * nI A.2.2.length + nI j = nI (24 * A.2.2.length + j) := by rw [show (24 : Int32) = nI 24 from rfl, pk_mul, nI_add]
      have e1 : gM W 1 (a + j) = (bytesOf (gM A.1 3) a n)[j] := by
        rw [hc.1 1 (by decide), bytesOf_is]
        exact h.m _ (by omega)
      unfold l_M_open_263
      rw [clm ea (by omega), clm ed (by omega), e1]
      refine ⟨fun z => ?_, fun _ => ⟨vin (by omega) ea, vin (by omega) ed, ?_⟩⟩
      · rw [nI_leI (by omega) (by omega)] at z
        omega
      · rintro S3 rfl
        rw [nI_1]
        refine ih (j + 1) _ (by omega) ?_
        rw [tk hjl]
        exact hc.snoc (by rw [lenT (by omega)]) _
  exact ⟨_, loop n 0 _ (by omega) (by rw [List.take_zero]; exact cpy.nil 5 _ _)⟩
theorem r_o175 {A : zA} {T : zS} (h : RS A T) {i m a n : Nat} (hi : i < 10) (hm : m ≤ 11) (ha : a + n ≤ 16384) (hn : n ≤ 24) {P : zS → Prop} (hP : oEnd ((openF A i m (bytesOf (gM A.1 3) a n)).1, if (openF A i m (bytesOf (gM A.1 3) a n)).2 = 0 then -1 else nI (i + 1)) P) : j_M_open_175 P T (nI a) (nI m) (nI n) (nI (i + 1)) := by
  have hl := h.f.2.1
  have l4 : (4 : Int32) ≤ nI m ↔ 4 ≤ m := nI_leI (by decide) (by omega)
  unfold j_M_open_175
  refine r_find h ha hn ?_
  rw [l4]
  unfold openF at hP
  cases hf : findA A (bytesOf (gM A.1 3) a n) with
  | none =>
    rw [hf] at hP
    simp only at hP
    refine ⟨fun _ => ⟨fun c => ?_, fun c => ?_⟩, fun z => absurd rfl z⟩
    · rw [if_neg (by omega)] at hP
      have q12 : nI A.2.2.length = (12 : Int32) ↔ A.2.2.length = 12 := nI_eq (by omega) (by decide)
      unfold j_M_open_200
      rw [h.f.1, q12]
      refine ⟨fun _ => ⟨fun c2 => ?_, fun c2 => ?_⟩, fun z => absurd rfl z⟩
      · rw [if_neg (by omega)] at hP
        exact r_fails h _ hP
      · rw [if_pos (by omega)] at hP
        exact r_o222 h hi hm ha hn (by omega) hP
    · rw [if_pos (by omega)] at hP
      exact r_fails h _ hP
  | some k =>
    rw [hf] at hP
    simp only at hP
    have hk := findA_lt hf
    obtain ⟨f, hfk, hfn⟩ := findA_name hf
    have ne : ¬ nI k = (-1 : Int32) := fun z => nI_pos (n := k) (by omega) (by rw [z]; decide)
    refine ⟨fun z => absurd z ne, fun _ => ?_⟩
    unfold j_M_open_200 j_M_open_222
    refine ⟨fun z => absurd z ne, fun _ => ⟨fun z => absurd z ne, fun _ => ?_⟩⟩
    refine r_o297 h hi hm hfk ?_
    rw [hfn]
    exact hP
theorem con3 (mm : Nat → Int32) (a n : Nat) : bytesOf mm a n = [58, 116, 116] ↔ n = 3 ∧ mm a = 58 ∧ mm (a + 1) = 116 ∧ mm (a + 2) = 116 := by
  constructor
  · intro h
    have hl := congrArg List.length h
    rw [bytesOf_len] at hl
    have hl : n = 3 := hl
    subst hl
    have h : [mm (a + 0), mm (a + 1), mm (a + 2)] = [58, 116, 116] := h
    simp only [List.cons.injEq, and_true] at h
    exact ⟨rfl, h.1, h.2.1, h.2.2⟩
  · rintro ⟨rfl, h1, h2, h3⟩
    show [mm (a + 0), mm (a + 1), mm (a + 2)] = [58, 116, 116]
    rw [Nat.add_zero, h1, h2, h3]
theorem r_o83 {A : zA} {T : zS} (h : RS A T) {i m a n : Nat} (hi : i < 10) (hm : m ≤ 11) (ha : a + n ≤ 16384) (hn : n ≤ 24) {P : zS → Prop} (hP : oEnd (if bytesOf (gM A.1 3) a n = [58, 116, 116] then (aOpen A i (conKind m) none 0 (conMay m), nI (i + 1)) else ((openF A i m (bytesOf (gM A.1 3) a n)).1, if (openF A i m (bytesOf (gM A.1 3) a n)).2 = 0 then -1 else nI (i + 1))) P) : j_M_open_83 P T (nI a) (nI m) (nI n) 0 (nI (i + 1)) := by
  have l4 : (4 : Int32) ≤ nI m ↔ 4 ≤ m := nI_leI (by decide) (by omega)
  have l8 : (8 : Int32) ≤ nI m ↔ 8 ≤ m := nI_leI (by decide) (by omega)
  have q3 : nI n = (3 : Int32) ↔ n = 3 := nI_eq (by omega) (by decide)
  simp only [con3] at hP
  have no : ¬ (n = 3 ∧ gM A.1 3 a = 58 ∧ gM A.1 3 (a + 1) = 116 ∧ gM A.1 3 (a + 2) = 116) → j_M_open_175 P T (nI a) (nI m) (nI n) (nI (i + 1)) := by
    intro z
    rw [if_neg z] at hP
    exact r_o175 h hi hm ha hn hP
  have key : ∀ kd rt, kd = conKind m → rt = conMay m → (n = 3 ∧ gM A.1 3 a = 58 ∧ gM A.1 3 (a + 1) = 116 ∧ gM A.1 3 (a + 2) = 116) → w_M_opened (nI (i + 1)) kd (-1) rt T P := by
    rintro kd rt rfl rfl z
    rw [if_pos z] at hP
    refine r_opened h hi _ _ _ (fun y => ?_) hP
    rcases conKind_ok m with w | w | w <;> (rw [w.1] at y; exact absurd y (by decide))
  unfold j_M_open_83 j_M_open_160 j_M_open_171
  have e1 : nI a + (1 : Int32) = nI (a + 1) := nI_1 a
  have e2 : nI a + (2 : Int32) = nI (a + 2) := nI_add a 2
  rw [q3, e1, e2, l4, l8]
  refine ⟨fun _ => ⟨fun c => ?_, fun c => no (by omega)⟩, fun z => absurd (show (0 : Int32) ≤ 0 by decide) z⟩
  have m0 : gM T 1 a = gM A.1 3 a := h.m _ (by omega)
  have m1 : gM T 1 (a + 1) = gM A.1 3 (a + 1) := h.m _ (by omega)
  have m2 : gM T 1 (a + 2) = gM A.1 3 (a + 2) := h.m _ (by omega)
  rw [nI_clamp (show a < 2 ^ 31 by omega), nI_clamp (show a + 1 < 2 ^ 31 by omega), nI_clamp (show a + 2 < 2 ^ 31 by omega), m0, m1, m2]
  refine ⟨in_mem (by omega), fun d0 => ⟨in_mem (by omega), fun d1 => ⟨in_mem (by omega), fun d2 => ?_, fun d2 => no (fun z => d2 z.2.2.2)⟩, fun d1 => no (fun z => d1 z.2.2.1)⟩, fun d0 => no (fun z => d0 z.2.1)⟩
  have all : n = 3 ∧ gM A.1 3 a = 58 ∧ gM A.1 3 (a + 1) = 116 ∧ gM A.1 3 (a + 2) = 116 := ⟨c, d0, d1, d2⟩
  refine ⟨fun c4 => ⟨fun c8 => ⟨fun _ => key _ _ ?_ ?_ all, fun z => absurd c4 z⟩, fun c8 => ⟨fun _ => key _ _ ?_ ?_ all, fun z => absurd c4 z⟩⟩, fun c4 => ⟨fun z => absurd z c4, fun _ => key _ _ ?_ ?_ all⟩⟩
  · unfold conKind; rw [if_neg (by omega), if_neg (by omega)]
  · unfold conMay; rw [if_neg (by omega)]
  · unfold conKind; rw [if_neg (by omega), if_pos (by omega)]
  · unfold conMay; rw [if_neg (by omega)]
  · unfold conKind; rw [if_pos (by omega)]
  · unfold conMay; rw [if_pos (by omega)]
theorem r_open {A : zA} {T : zS} (h : RS A T) (hI : AI A) {a : Int32} (hb : gM A.1 2 11 = a) (ha : un a + 12 ≤ 16384) {P : zS → Prop} (hP : oEnd (openC A (fieldA A a 0) (fieldA A a 1) (fieldA A a 2)) P) : w_M_open T P := by
  unfold w_M_open
  refine r_field h hb (k := 0) (by omega) rfl (r_field h hb (k := 1) (by omega) rfl (r_field h hb (k := 2) (by omega) rfl ?_))
  generalize fieldA A a 0 = p at hP ⊢
  generalize fieldA A a 1 = md at hP ⊢
  generalize fieldA A a 2 = n at hP ⊢
  unfold openC at hP
  have j39 : ∀ e, 0 < e → e < 128 → oEnd (failA A (nI e)) P → j_M_open_39 P T p md n (nI e) := by
    intro e h0 h1 hE
    unfold j_M_open_39
    have ne : ¬ nI e = 0 := nI_ne0 h0 (by omega)
    have nle : ¬ nI e ≤ 0 := by rw [← nI_0, nI_leI (by omega) (by decide)]; omega
    refine ⟨11, r_o44 h hI ?_ 10 0 rfl (fun q hq => absurd hq (by omega))⟩
    unfold j_M_open_67 j_M_open_83
    exact ⟨fun z => absurd z ne, fun _ => ⟨fun z => absurd z nle, fun _ => r_fails h _ hE⟩⟩
  have bad : ¬ un md ≤ 11 → j_M_open_28 P T p md n := by
    intro c
    rw [if_pos c] at hP
    unfold j_M_open_28
    exact j39 22 (by decide) (by decide) hP
  refine ⟨fun c => bad (by rw [neg_iff] at c; omega), fun c => ?_⟩
  have l11 : md ≤ (11 : Int32) ↔ un md ≤ 11 := le_of_un (m := 11) (by decide) c
  rw [l11]
  refine ⟨fun c2 => ?_, bad⟩
  rw [if_neg (fun z => z c2)] at hP
  refine r_nameFault h p n ?_
  by_cases cf : faultA (gM A.1 3) p n = 0
  · rw [if_neg (fun z => z cf)] at hP
    obtain ⟨n1, n2, n3, n4⟩ := faultA_len cf
    rw [cf]
    unfold j_M_open_39
    refine ⟨11, r_o44 h hI ?_ 10 0 rfl (fun q hq => absurd hq (by omega))⟩
    unfold j_M_open_67
    refine ⟨fun _ => ?_, fun z => absurd rfl z⟩
    cases hl : leastA A with
    | none =>
      rw [hl] at hP
      simp only at hP
      refine ⟨fun z => absurd z (by decide), fun _ => ?_⟩
      unfold j_M_open_83
      exact ⟨fun z => absurd z (by decide), fun _ => r_fails h _ hP⟩
    | some k =>
      rw [hl] at hP
      simp only at hP
      have hk := (leastA_spec hl).1
      have l10 : nI (k + 1) ≤ (10 : Int32) := nI_le (b := 10) (by omega) (by decide)
      refine ⟨fun _ => ?_, fun z => absurd l10 z⟩
      have := r_o83 h hk c2 n3 n2 hP
      rw [nI_un, nI_un, nI_un] at this
      exact this
  · rw [if_pos cf] at hP
    exact j39 _ (by omega) (faultA_lt _ _ _) hP
/-! words laid in the memory -/
theorem cpy.app {c o : Nat} {l m : List Int32} {T0 T T' : zS} (h : cpy c o l T0 T) (k : cpy c (o + l.length) m T T') : cpy c o (l ++ m) T0 T' := by
  refine ⟨fun c' hc => (k.1 c' hc).trans (h.1 c' hc), ?_, k.2.2.trans h.2.2⟩
  rw [k.2.1, h.2.1, mset_app]
theorem wgt (n : Nat) {x : Int32} {m : Nat} (hm : m < 2 ^ 63) : (0 < lg_cmp (lN (un x)) (lN m)) ↔ m < un x := by
  have := un_lt x
  rw [lg_cmp_gt, pk_lLT hm (by omega)]
theorem wge {x : Int32} {m : Nat} (hm : m < 2 ^ 63) : (0 ≤ lg_cmp (lN (un x)) (lN m)) ↔ m ≤ un x := by
  have := un_lt x
  rw [lg_cmp_ge, pk_lLE hm (by omega)]
theorem wle {x : Int32} {m : Nat} (hm : m < 2 ^ 63) : (lg_cmp (lN (un x)) (lN m) ≤ 0) ↔ un x ≤ m := by
  have := un_lt x
  rw [lg_cmp_le, pk_lLE (by omega) hm]
theorem nI_64 {n : Nat} (h : n < 2 ^ 31) : (nI n).toInt64 = lN n := by
  apply Int64.toInt_inj.mp
  rw [Int32.toInt_toInt64, nI_toInt h, pk_lT (by omega)]
theorem r_temporary {A : zA} {T : zS} (h : RS A T) (p v n : Int32) {P : zS → Prop} (hP : oEnd (tempA A p v n) P) : w_M_temporary p v n T P := by
  unfold tempA at hP
  have bad : ¬ (un v ≤ 255 ∧ 7 ≤ un n) → j_M_temporary_22 p v n P T := by
    intro z
    rw [if_pos z] at hP
    unfold j_M_temporary_22
    exact r_fails h _ hP
  unfold w_M_temporary w_M_whole
  dsimp only
  rw [long_un, long_un, show (255 : Int64) = lN 255 from rfl, show (7 : Int64) = lN 7 from rfl, wgt 0 (by decide), wge (by decide)]
  refine ⟨fun c => bad (by omega), fun c => ⟨fun c2 => r_isArea _ _ ?_, fun c2 => bad (by omega)⟩⟩
  rw [if_neg (fun z => z ⟨by omega, c2⟩)] at hP
  rw [show un 7 = 7 from rfl]
  by_cases c3 : un p + 7 ≤ 16384
  · rw [if_neg (fun z => z c3)] at hP
    rw [if_pos c3]
    refine ⟨fun z => absurd z (by decide), fun _ => ?_⟩
    have ep : p = nI (un p) := (nI_un p).symm
    have ev : v = nI (un v) := (nI_un v).symm
    have hv : un v ≤ 255 := by omega
    generalize un p = d at *
    generalize un v = w at *
    subst ep
    subst ev
    have d1 : (48 : Int32) + nI w / (100 : Int32) = nI (48 + w / 100) := by
      rw [show (100 : Int32) = nI 100 from rfl, pk_div (by omega) (by decide) (by decide), show (48 : Int32) = nI 48 from rfl, nI_add]
    have d2 : (48 : Int32) + (nI w / (10 : Int32) - nI w / (10 : Int32) / (10 : Int32) * (10 : Int32)) = nI (48 + w / 10 % 10) := by
      rw [show (10 : Int32) = nI 10 from rfl, pk_div (by omega) (by decide) (by decide), pk_rem (by omega) (by decide) (by decide), show (48 : Int32) = nI 48 from rfl, nI_add]
    have d3 : (48 : Int32) + (nI w - nI w / (10 : Int32) * (10 : Int32)) = nI (48 + w % 10) := by
      rw [show (10 : Int32) = nI 10 from rfl, pk_rem (by omega) (by decide) (by decide), show (48 : Int32) = nI 48 from rfl, nI_add]
    have e3 : nI d + (3 : Int32) = nI (d + 3) := nI_add d 3
    have e4 : nI d + (4 : Int32) = nI (d + 4) := nI_add d 4
    have e5 : nI d + (5 : Int32) = nI (d + 5) := nI_add d 5
    have e6 : nI d + (6 : Int32) = nI (d + 6) := nI_add d 6
    rw [d1, d2, d3, e3, e4, e5, e6, nI_clamp (show d + 3 < 2 ^ 31 by omega), nI_clamp (show d + 4 < 2 ^ 31 by omega), nI_clamp (show d + 5 < 2 ^ 31 by omega), nI_clamp (show d + 6 < 2 ^ 31 by omega)]
    refine r_lays h (a := d) (n := 3) (by decide) (by omega) rfl rfl _ (fun T1 k1 => ⟨in_mem (by omega), ?_⟩)
    rintro S9 rfl
    refine ⟨in_mem (by omega), ?_⟩
    rintro S11 rfl
    refine ⟨in_mem (by omega), ?_⟩
    rintro S13 rfl
    refine ⟨in_mem (by omega), ?_⟩
    rintro S15 rfl
    have b3 : bl (7368052 : Int32) 3 = [116, 109, 112] := by decide
    rw [b3] at k1
    have k2 := (((k1.snoc (p := d + 3) rfl (nI (48 + w / 100))).snoc (p := d + 4) rfl (nI (48 + w / 10 % 10))).snoc (p := d + 5) rfl (nI (48 + w % 10))).snoc (p := d + 6) rfl 0
    exact r_answer (h.cmem k2) 0 hP
  · rw [if_pos c3] at hP
    rw [if_neg c3]
    exact ⟨fun _ => r_fails h _ hP, fun z => absurd rfl z⟩
theorem r_heap {A : zA} {T : zS} (h : RS A T) (p : Int32) {P : zS → Prop} (hP : oEnd (heapA A p) P) : w_M_heap p T P := by
  unfold heapA at hP
  have bad : ¬ (un p % 4 = 0 ∧ un p + 16 ≤ 16384) → j_M_heap_15 p P T := by
    intro z
    rw [if_neg z] at hP
    unfold j_M_heap_15
    exact r_fails h _ hP
  unfold w_M_heap
  rw [and3]
  refine ⟨fun c => r_isArea _ _ ?_, fun c => bad (by omega)⟩
  rw [show un 16 = 16 from rfl]
  by_cases c2 : un p + 16 ≤ 16384
  · rw [if_pos c2]
    rw [if_pos ⟨c, c2⟩] at hP
    refine ⟨fun z => absurd z (by decide), fun _ => ?_⟩
    have ep : p = nI (un p) := (nI_un p).symm
    generalize un p = d at *
    subst ep
    refine r_lays h (a := d) (n := 4) (by decide) (by omega) rfl rfl _ (fun T1 k1 => ?_)
    refine r_lays (h.cmem k1) (a := d + 4) (n := 4) (by decide) (by omega) (nI_add d 4) rfl _ (fun T2 k2 => ?_)
    have k2 := k1.app (m := bl 12288 4) (by rw [bl_len]; exact k2)
    refine r_lays (h.cmem k2) (a := d + 8) (n := 4) (by decide) (by omega) (nI_add d 8) rfl _ (fun T3 k3 => ?_)
    have k3 := k2.app (m := bl 16384 4) (by rw [List.length_append, bl_len, bl_len]; exact k3)
    refine r_lays (h.cmem k3) (a := d + 12) (n := 4) (by decide) (by omega) (nI_add d 12) rfl _ (fun T4 k4 => ?_)
    have k4 := k3.app (m := bl 12288 4) (by rw [List.length_append, List.length_append, bl_len, bl_len, bl_len]; exact k4)
    exact r_answer (h.cmem k4) 0 hP
  · rw [if_neg c2]
    exact ⟨fun _ => bad (by omega), fun z => absurd rfl z⟩
theorem hi_eq {j : Nat} (hj : j < 2 ^ 62) : ((lN j) >>> ((32 : Int32).toInt64 &&& 63)).toInt32 = hiA (lN j) := by
  unfold hiA
  rw [pf_shr (d := 32) (by decide) hj, pf_ushr (d := 32) (by decide) hj]
theorem cent_eq {j : Nat} (hj : j < 2 ^ 32) : ((lN j) / (100 : Int64)).toInt32 = centA (lN j) := by
  unfold centA
  have := wb_mask (n := j) (k := 32) (by omega) (by decide)
  rw [Nat.mod_eq_of_lt hj] at this
  rw [show (4294967295 : Int64) = lN (2 ^ 32 - 1) from rfl, this]
theorem r_elapsed {A : zA} {T : zS} (h : RS A T) (hJ : ∃ j, j < 2 ^ 31 ∧ gJ A.1 = lN j) (a : Int32) {P : zS → Prop} (hP : oEnd (elapsedA A a) P) : w_M_elapsed a T P := by
  obtain ⟨j, j1, j2⟩ := hJ
  unfold elapsedA at hP
  have bad : ¬ (un a % 4 = 0 ∧ un a + 8 ≤ 16384) → j_M_elapsed_15 a P T := by
    intro z
    rw [if_neg z] at hP
    unfold j_M_elapsed_15
    exact r_fails h _ hP
  unfold w_M_elapsed
  rw [and3]
  refine ⟨fun c => r_isArea _ _ ?_, fun c => bad (by omega)⟩
  rw [show un 8 = 8 from rfl]
  by_cases c2 : un a + 8 ≤ 16384
  · rw [if_pos c2]
    rw [if_pos ⟨c, c2⟩] at hP
    refine ⟨fun z => absurd z (by decide), fun _ => ?_⟩
    have ep : a = nI (un a) := (nI_un a).symm
    generalize un a = d at *
    subst ep
    rw [h.j]
    refine r_lays h (a := d) (n := 4) (by decide) (by omega) rfl rfl _ (fun T1 k1 => ?_)
    have e1 : gJ T1 = gJ A.1 := k1.j.trans h.j
    rw [e1, j2, hi_eq (by omega)]
    refine r_lays (h.cmem k1) (a := d + 4) (n := 4) (by decide) (by omega) (nI_add d 4) rfl _ (fun T2 k2 => ?_)
    have k2 := k1.app (m := bl (hiA (lN j)) 4) (by rw [bl_len]; exact k2)
    rw [j2] at k2 hP
    exact r_answer (h.cmem k2) 0 hP
  · rw [if_neg c2]
    exact ⟨fun _ => bad (by omega), fun z => absurd rfl z⟩
theorem aMem_aMem (A : zA) (m1 m2 : Nat → Int32) : aMem (aMem A m1) m2 = aMem A m2 := by
  refine Prod.ext (Prod.ext ?_ rfl) rfl
  funext c q
  show (if c = 3 then _ else if c = 3 then _ else _) = if c = 3 then _ else _
  by_cases z : c = 3
  · rw [if_pos z, if_pos z]
  · rw [if_neg z, if_neg z, if_neg z]
theorem r_tell {A : zA} {T : zS} (h : RS A T) {a : Int32} (hb : gM A.1 2 11 = a) (ha : un a + 8 ≤ 16384) (p n : Int32) {P : zS → Prop} (hP : oEnd (tellA A a p n) P) : w_M_commandTo p n T P := by
  obtain ⟨c1, c2, c3⟩ := h.c
  unfold tellA at hP
  unfold w_M_commandTo w_M_whole
  dsimp only
  rw [c1, nI_1, nI_64 (show (A.2.1 4).length + 1 < 2 ^ 31 by omega), long_un, wge (by omega)]
  refine ⟨fun c => r_isArea _ _ ?_, fun c => ?_⟩
  · rw [if_neg (fun z => z c)] at hP
    rw [un_nI (by omega)]
    by_cases d : un p + ((A.2.1 4).length + 1) ≤ 16384
    · rw [if_neg (fun z => z d)] at hP
      rw [if_pos d]
      refine ⟨fun z => absurd z (by decide), fun _ => ?_⟩
      have ep : p = nI (un p) := (nI_un p).symm
      generalize un p = s at *
      subst ep
      have loop : ∀ (k i : Nat) (W : zS), k + i = (A.2.1 4).length → cpy 1 s ((A.2.1 4).take i) T W → l_M_commandTo_48 (nI s) n P (k + 1) W (nI i) := by
        intro k
        induction k with
        | zero =>
          intro i W hi hc
          have hi : i = (A.2.1 4).length := by omega
          subst hi
          rw [List.take_length] at hc
          have e26 : gM W 0 26 = nI (A.2.1 4).length := by rw [hc.1 0 (by decide)]; exact c1
          unfold l_M_commandTo_48
          rw [e26, nI_add, nI_clamp (show s + (A.2.1 4).length < 2 ^ 31 by omega)]
          refine ⟨fun _ => ⟨in_mem (by omega), ?_⟩, fun z => absurd (nI_le (Nat.le_refl _) (by omega)) z⟩
          rintro S2 rfl
          refine ⟨vp_in_nI (n := 11) (by decide) (by decide), ?_⟩
          have k1 := hc.snoc (p := s + (A.2.1 4).length) rfl 0
          have h1 := h.cmem k1
          have e26' : gM (sM W 1 (s + (A.2.1 4).length) 0) 0 26 = nI (A.2.1 4).length := e26
          have e11 : gM (sM W 1 (s + (A.2.1 4).length) 0) 2 (11 : Int32).toNatClampNeg = a := (h1.x 11 (by decide)).trans hb
          rw [e26', e11]
          refine r_lays h1 (a := un a + 4) (n := 4) (by decide) (by omega) (by rw [← nI_add, nI_un]; rfl) rfl _ (fun T2 k2 => ?_)
          have h2 := h1.cmem k2
          rw [aMem_aMem] at h2
          exact r_answer h2 0 hP
        | succ k ih =>
          intro i W hi hc
          have hil : i < (A.2.1 4).length := by omega
          have e26 : gM W 0 26 = nI (A.2.1 4).length := by rw [hc.1 0 (by decide)]; exact c1
          have e15 : gM W 15 i = (A.2.1 4)[i] := by
            rw [hc.1 15 (by decide)]
            have := c3 i hil
            rw [List.getElem?_eq_getElem hil] at this
            exact (Option.some.inj this).symm
          have ea : nI s + nI i = nI (s + i) := nI_add s i
          unfold l_M_commandTo_48
          rw [e26, clm ea (by omega), nI_clamp (show i < 2 ^ 31 by omega), e15]
          refine ⟨fun z => ?_, fun _ => ⟨vp_in_nI (by omega) (by decide), vin (by omega) ea, ?_⟩⟩
          · rw [nI_leI (by omega) (by omega)] at z
            omega
          · rintro S8 rfl
            rw [nI_1]
            refine ih (i + 1) _ (by omega) ?_
            rw [tk hil]
            exact hc.snoc (by rw [lenT (by omega)]) _
      exact ⟨_, loop (A.2.1 4).length 0 T (by omega) (by rw [List.take_zero]; exact cpy.nil 1 _ _)⟩
    · rw [if_pos d] at hP
      rw [if_neg d]
      exact ⟨fun _ => r_fails h _ hP, fun z => absurd rfl z⟩
  · rw [if_pos c] at hP
    exact r_fails h _ hP
theorem r_seek {A : zA} {T : zS} (h : RS A T) (hI : AI A) (x to : Int32) {P : zS → Prop} (hP : oEnd (seekA A x to) P) : w_M_seek x to T P := by
  unfold w_M_seek
  refine r_isOpen h hI x ?_
  unfold seekA at hP
  cases hh : hopen A x with
  | none =>
    rw [hh] at hP
    exact ⟨fun _ => r_fails h _ hP, fun z => absurd rfl z⟩
  | some k =>
    rw [hh] at hP
    simp only at hP
    obtain ⟨hk, hkind⟩ := hopen_spec hh
    have ex := hop_un hh
    subst ex
    have e7 := h.kd hk
    have bad : ¬ (gM A.1 4 k = 1 ∧ un to ≤ (contA A k).length) → j_M_seek_47 (nI (k + 1)) to P T := by
      intro z
      rw [if_neg z] at hP
      unfold j_M_seek_47
      exact r_fails h _ hP
    rw [nI_clamp (show k + 1 < 2 ^ 31 by omega)]
    refine ⟨fun z => absurd z (show ¬ (1 : Int32) = 0 by decide), fun _ => ⟨vp_in_nI (by omega) (by decide), ?_⟩⟩
    have l1 : (1 : Int32) < gM A.1 4 k ↔ ¬ gM A.1 4 k = 1 := by
      rw [← kind1 hI hk hkind, Int32.not_le]
    rw [e7, l1]
    refine ⟨fun c => bad (fun z => c z.1), fun c => ?_⟩
    have c := Classical.not_not.mp c
    obtain ⟨q, f, e1, e2, hq, e8, ar⟩ := h.file hI hk c
    rw [contA_eq e1 e2] at bad hP
    have hfl := ar.2.1
    unfold w_M_whole
    dsimp only
    rw [e8, nI_clamp (show q < 2 ^ 31 by omega), ar.1, nI_64 (by omega), long_un, wle (by omega)]
    refine ⟨vp_in_nI hq (by decide), fun c2 => ?_, fun c2 => bad (fun z => c2 z.2)⟩
    rintro S7 rfl
    rw [if_pos ⟨c, c2⟩] at hP
    exact r_answer (h.place k to) 0 hP
