/-! pure: a file goes -/
def aRemove (A : zA) (k : Nat) : zA := ((A.1.1, A.1.2.1, A.1.2.2.1, (fun h => (A.1.2.2.2.1 h).map (fun q => if k < q then q - 1 else q)), A.1.2.2.2.2), A.2.1, A.2.2.eraseIdx k)
theorem openA_none {A : zA} {k : Nat} : ∀ n, openA A k n = 0 → ∀ h, h < n → gM A.1 4 h = 1 → gH A.1 h ≠ some k := by
  intro n
  induction n with
  | zero => intro _ h hh; omega
  | succ n ih =>
    intro e h hh hk hs
    have e : openA A k n + (if gM A.1 4 n = 1 ∧ gH A.1 n = some k then 1 else 0) = 0 := e
    by_cases q : h = n
    · subst q
      rw [if_pos ⟨hk, hs⟩] at e
      omega
    · exact ih (by omega) h (by omega) hk hs
/-- the place from which the file at i comes -/
def rmS (k n i : Nat) : Nat := if i < k then i else if i + 1 < n then i + 1 else if i + 1 = n then k else i
theorem rmS_lt {k n i : Nat} (hk : k < n) (hn : n ≤ 12) (hi : i < 12) : rmS k n i < 12 := by unfold rmS; split <;> (try split) <;> (try split) <;> omega
theorem rmS_inj {k n i j : Nat} (hk : k < n) (e : rmS k n i = rmS k n j) : i = j := by
  unfold rmS at e
  split at e <;> split at e <;> (try split at e) <;> (try split at e) <;> (try split at e) <;> (try split at e) <;> omega
theorem RC.gone {A : zA} {S S' : zS} (h : RC A S) (hI : AI A) {k : Nat} (hk : k < A.2.2.length) (ho : openA A k 10 = 0) (h1 : ∀ c q, ¬ (c = 0 ∧ q = 10) → gM S' c q = gM S c q) (h10 : gM S' 0 10 = nI (A.2.2.length - 1)) (hR : S'.2.1 = S.2.1) (hF : ∀ i, gF S' i = gF S (rmS k A.2.2.length i)) (hH : S'.2.2.2 = S.2.2.2) : RC (aRemove A k) S' := by
  obtain ⟨⟨n1, n2, n3, n4, n5⟩, ⟨r1, ⟨l1, r2⟩, ⟨l2, r3⟩, l3, r4⟩, ⟨f1, f2, f3, f4, f5, f6⟩, g1, g2, g3⟩ := h
  have eR : ∀ b i, gR S' b i = gR S b i := fun b i => by unfold gR; rw [hR]
  have row : ∀ b l, rowIs S b l → rowIs S' b l := fun b l hr => ⟨(h1 8 b (fun z => by simp at z)).trans hr.1, hr.2.1, fun i hi => by rw [eR]; exact hr.2.2 i hi⟩
  have len : (A.2.2.eraseIdx k).length = A.2.2.length - 1 := by rw [List.length_eraseIdx, if_pos hk]
  refine ⟨⟨fun i hi => ?_, fun r hr => ?_, fun q hq => ?_, fun j hj => ?_, ?_⟩, ⟨fun t ht => row _ _ (r1 t ht), ⟨l1, row _ _ r2⟩, ⟨l2, row _ _ r3⟩, l3, row _ _ r4⟩, ⟨?_, ?_, fun q hq => ?_, fun q r hq hr e => ?_, fun q f hf => ?_, fun q hq => ?_⟩, fun i hi => ?_, fun i hi hne => ?_, fun i hi => ?_⟩
  · rw [h1 0 i (fun z => by have := z.2; unfold scOk at hi; omega)]; exact n1 i hi
  · rw [h1 2 r (fun z => by simp at z)]; exact n2 r hr
  · rw [h1 3 q (fun z => by simp at z)]; exact n3 q hq
  · rw [h1 7 j (fun z => by simp at z)]; exact n4 j hj
  · show S'.2.2.2.2 = A.1.2.2.2.2
    rw [hH]; exact n5
  · show gM S' 0 10 = nI (A.2.2.eraseIdx k).length
    rw [len]; exact h10
  · show (A.2.2.eraseIdx k).length ≤ 12
    rw [len]; omega
  · rw [hF]; exact f3 _ (rmS_lt hk f2 hq)
  · rw [hF, hF] at e
    exact rmS_inj hk (f4 _ _ (rmS_lt hk f2 hq) (rmS_lt hk f2 hr) e)
  · have hf : (A.2.2.eraseIdx k)[q]? = some f := hf
    have hq := (List.getElem?_eq_some_iff.mp hf).1
    rw [len] at hq
    rw [hF]
    by_cases e : q < k
    · rw [List.getElem?_eraseIdx_of_lt e] at hf
      have e2 : rmS k A.2.2.length q = q := by unfold rmS; rw [if_pos e]
      rw [e2]
      exact ⟨row _ _ (f5 q f hf).1, row _ _ (f5 q f hf).2⟩
    · rw [List.getElem?_eraseIdx_of_ge (by omega)] at hf
      have e2 : rmS k A.2.2.length q = q + 1 := by unfold rmS; rw [if_neg e, if_pos (by omega)]
      rw [e2]
      exact ⟨row _ _ (f5 (q + 1) f hf).1, row _ _ (f5 (q + 1) f hf).2⟩
  · obtain ⟨⟨l, hl⟩, l', hl'⟩ := f6 q hq
    exact ⟨⟨l, row _ _ hl⟩, l', row _ _ hl'⟩
  · rw [h1 4 i (fun z => by simp at z)]; exact g1 i hi
  · rw [h1 5 i (fun z => by simp at z), h1 6 i (fun z => by simp at z)]; exact g2 i hi hne
  · have e1 : gH S' i = gH S i := by unfold gH; rw [hH]
    rw [e1, g3 i hi]
    show (if gM A.1 4 i = 1 then (gH A.1 i).map (gF S) else none) = if gM A.1 4 i = 1 then ((gH A.1 i).map (fun q => if k < q then q - 1 else q)).map (gF S') else none
    by_cases c : gM A.1 4 i = 1
    · rw [if_pos c, if_pos c]
      obtain ⟨q, hq1, hq2⟩ := hI.1 i hi c
      have hqk := openA_none 10 ho i hi c
      rw [hq1] at hqk ⊢
      have hne : q ≠ k := fun z => hqk (by rw [z])
      simp only [Option.map_some]
      rw [hF]
      congr 2
      unfold rmS
      by_cases z : k < q
      · rw [if_pos z, if_neg (by omega), if_pos (by omega)]; omega
      · rw [if_neg z, if_pos (by omega)]
    · rw [if_neg c, if_neg c]
theorem gF_sF (S : zS) (i v j : Nat) : gF (sF S i v) j = if j = i then v else gF S j := rfl
theorem s_rm_loop {S : zS} {k n : Nat} (hk : k < n) (hn : n ≤ 12) (hc : gM S 0 10 = nI (n - 1)) (hf : ∀ i, i < 12 → gF S i < 12) {P : zS → Prop} (hP : ∀ T, (∀ c q, gM T c q = gM S c q) → T.2.1 = S.2.1 → (∀ i, gF T i = gF S (rmS k n i)) → T.2.2.2 = S.2.2.2 → P T) :
    ∀ (m j : Nat) (T : zS), m + j = n - 1 → k ≤ j → (∀ c q, gM T c q = gM S c q) → T.2.1 = S.2.1 → (∀ i, gF T i = if k ≤ i ∧ i < j then gF S (i + 1) else gF S i) → T.2.2.2 = S.2.2.2 → l_Folder_remove_24 (gF S k) P (m + 1) T (nI j) := by
  intro m
  induction m with
  | zero =>
    intro j T hj hkj t1 t2 t3 t4
    have hj : j = n - 1 := by omega
    subst hj
    unfold l_Folder_remove_24
    rw [t1, hc, nI_clamp (by omega)]
    refine ⟨fun _ => ⟨hf k (by omega), vp_in_nI (by omega) (by decide), ?_⟩, fun c => ?_⟩
    · rintro S3 rfl
      refine hP _ t1 t2 (fun i => ?_) t4
      rw [gF_sF, t3]
      unfold rmS
      by_cases e : i = n - 1
      · rw [if_pos e, if_neg (by omega), if_neg (by omega), if_pos (by omega)]
      · rw [if_neg e]
        by_cases e2 : i < k
        · rw [if_neg (by omega), if_pos e2]
        · by_cases e3 : i + 1 < n
          · rw [if_pos (by omega), if_neg e2, if_pos e3]
          · rw [if_neg (by omega), if_neg e2, if_neg e3, if_neg (by omega)]
    · rw [nI_leI (by omega) (by omega)] at c
      omega
  | succ m ih =>
    intro j T hj hkj t1 t2 t3 t4
    unfold l_Folder_remove_24
    rw [t1, hc, nI_1, nI_clamp (n := j + 1) (by omega), nI_clamp (n := j) (by omega)]
    have e1 : gF T (j + 1) = gF S (j + 1) := by rw [t3, if_neg (by omega)]
    refine ⟨fun c => ?_, fun _ => ⟨vp_in_nI (by omega) (by decide), by rw [e1]; exact hf _ (by omega), vp_in_nI (by omega) (by decide), ?_⟩⟩
    · rw [nI_leI (by omega) (by omega)] at c
      omega
    · rintro S7 rfl
      refine ih (j + 1) _ (by omega) (by omega) t1 t2 (fun i => ?_) t4
      rw [gF_sF, e1, t3]
      by_cases e : i = j
      · subst e
        rw [if_pos rfl, if_pos (by omega)]
      · rw [if_neg e]
        by_cases e2 : k ≤ i ∧ i < j
        · rw [if_pos e2, if_pos (by omega)]
        · rw [if_neg e2, if_neg (by omega)]
theorem s_remove {A : zA} {S : zS} (h : RC A S) (hI : AI A) {k : Nat} (hk : k < A.2.2.length) (ho : openA A k 10 = 0) {P : zS → Prop} (hP : ∀ S', RC (aRemove A k) S' → P S') : w_Folder_remove (gF S k) S P := by
  have hl := h.le12
  unfold w_Folder_remove
  refine s_numberOf h hk ⟨fun c => ?_, fun _ => ?_⟩
  · exfalso
    have : ¬ nI k < 0 := nI_pos (by omega)
    rw [c] at this
    exact this (by decide)
  · rintro S3 rfl
    rw [h.cnt, show (1 : Int32) = nI 1 from rfl, pk_sub (by omega)]
    have hc : gM (sM S 0 10 (nI (A.2.2.length - 1))) 0 10 = nI (A.2.2.length - 1) := by rw [gM_sM]; simp
    refine ⟨(A.2.2.length - 1 - k) + 1, s_rm_loop hk hl hc (fun i hi => h.fid hi) (fun T t1 t2 t3 t4 => hP T (h.gone hI hk ho (fun c q z => ?_) ?_ t2 t3 t4)) (A.2.2.length - 1 - k) k _ (by omega) (Nat.le_refl _) (fun _ _ => rfl) rfl (fun i => by rw [if_neg (by omega)]) rfl⟩
    · rw [t1, gM_sM]
      by_cases e : c = 0
      · by_cases e2 : q = 10
        · exact absurd ⟨e, e2⟩ z
        · simp [e, e2]
      · simp [e]
    · rw [t1]; exact hc
