/-! the reference's files: WRITE and READ -/
theorem RR.fls {A : zA} {T T' : zS} (h : RR A T) {fs : List (List Int32 × List Int32)} (e : ∀ c, ¬ (c = 0 ∨ c = 3 ∨ c = 4 ∨ c = 5 ∨ c = 6) → gM T' c = gM T c) (e0 : ∀ i, i ≠ 14 → gM T' 0 i = gM T 0 i) (ej : gJ T' = gJ T) (hf : RRf fs (gM T' 0 14) (gM T' 3) (gM T' 4) (gM T' 5) (gM T' 6)) : RR (aFiles A fs) T' := by
  refine ⟨?_, ?_, ?_, ?_, ?_, ?_, ?_, hf, ?_, ej.trans h.j⟩
  · obtain ⟨s1, s2, s3, s4, s5, s6, s7, s8⟩ := h.s
    exact ⟨(e0 3 (by decide)).trans s1, (e0 4 (by decide)).trans s2, (e0 5 (by decide)).trans s3, (e0 6 (by decide)).trans s4, (e0 24 (by decide)).trans s5, (e0 27 (by decide)).trans s6, (e0 8 (by decide)).trans s7, (e0 9 (by decide)).trans s8⟩
  · rw [e 2 (by omega)]; exact h.x
  · rw [e 1 (by omega)]; exact h.m
  · rw [e 12 (by omega), e 13 (by omega), e 14 (by omega)]; exact h.p
  · rw [e0 29 (by decide), e 16 (by omega)]; exact h.t
  · rw [e0 20 (by decide), e 11 (by omega)]; exact h.i
  · rw [e0 26 (by decide), e 15 (by omega)]; exact h.c
  · rw [e 7 (by omega), e 8 (by omega), e 9 (by omega), e 10 (by omega)]; exact h.h
/-- one file is changed -/
theorem RR.fchg {A : zA} {T T' : zS} (h : RR A T) {q : Nat} {f : List Int32 × List Int32} {nm ct : List Int32} (hf : A.2.2[q]? = some f) (e : ∀ c, ¬ (c = 0 ∨ c = 3 ∨ c = 4 ∨ c = 5 ∨ c = 6) → gM T' c = gM T c) (e0 : gM T' 0 = gM T 0) (ej : gJ T' = gJ T) (e4 : ∀ k, k ≠ q → gM T' 4 k = gM T 4 k) (e6 : ∀ k, k ≠ q → gM T' 6 k = gM T 6 k) (e3 : ∀ k i, k ≠ q → i < 2000 → gM T' 3 (2000 * k + i) = gM T 3 (2000 * k + i)) (e5 : ∀ k i, k ≠ q → i < 24 → gM T' 5 (24 * k + i) = gM T 5 (24 * k + i)) (n4 : arr ct (gM T' 4 q) (fun i => gM T' 3 (2000 * q + i)) 2000) (n6 : arr nm (gM T' 6 q) (fun i => gM T' 5 (24 * q + i)) 24) : RR (aFiles A (A.2.2.set q (nm, ct))) T' := by
  obtain ⟨f1, f2, f3⟩ := h.f
  have hq := (List.getElem?_eq_some_iff.mp hf).1
  refine h.fls e (fun i _ => by rw [e0]) ej ⟨by rw [List.length_set, e0]; exact f1, by rw [List.length_set]; exact f2, fun k g hg => ?_⟩
  by_cases c : q = k
  · subst c
    rw [List.getElem?_set_self hq] at hg
    have hg := Option.some.inj hg
    subst hg
    exact ⟨n4, n6⟩
  · rw [List.getElem?_set_ne c] at hg
    obtain ⟨⟨g1, g2, g3⟩, g4, g5, g6⟩ := f3 _ _ hg
    have c' : k ≠ q := fun z => c z.symm
    rw [e4 k c', e6 k c']
    refine ⟨⟨g1, g2, fun i hi => ?_⟩, g4, g5, fun i hi => ?_⟩
    · show _ = some (gM T' 3 (2000 * k + i))
      rw [e3 k i c' (by omega)]; exact g3 i hi
    · show _ = some (gM T' 5 (24 * k + i))
      rw [e5 k i c' (by omega)]; exact g6 i hi
theorem RR.arrs {A : zA} {T : zS} (h : RR A T) {q : Nat} {f : List Int32 × List Int32} (hf : A.2.2[q]? = some f) : arr f.2 (gM T 4 q) (fun i => gM T 3 (2000 * q + i)) 2000 ∧ arr f.1 (gM T 6 q) (fun i => gM T 5 (24 * q + i)) 24 := h.f.2.2 _ _ hf
theorem RS.arrs {A : zA} {T : zS} (h : RS A T) {q : Nat} {f : List Int32 × List Int32} (hf : A.2.2[q]? = some f) : arr f.2 (gM T 4 q) (fun i => gM T 3 (2000 * q + i)) 2000 ∧ arr f.1 (gM T 6 q) (fun i => gM T 5 (24 * q + i)) 24 := h.1.arrs hf
theorem RR.fput {A : zA} {T : zS} (h : RR A T) {q : Nat} {f : List Int32 × List Int32} (hf : A.2.2[q]? = some f) (hl : f.2.length < 2000) (v : Int32) : RR (aFiles A (A.2.2.set q (f.1, f.2 ++ [v]))) (sM (sM T 3 (2000 * q + f.2.length) v) 4 q (nI (f.2.length + 1))) := by
  obtain ⟨⟨g1, g2, g3⟩, g4⟩ := h.arrs hf
  refine h.fchg hf (fun c hc => ?_) rfl rfl (fun k hk => if_neg hk) (fun k hk => rfl) (fun k i hk hi => if_neg (by omega)) (fun k i hk hi => rfl) ?_ g4
  · rw [gM_off _ _ _ (show c ≠ 4 by omega), gM_off _ _ _ (show c ≠ 3 by omega)]
  · show arr _ (if q = q then nI (f.2.length + 1) else gM T 4 q) (fun i => if 2000 * q + i = 2000 * q + f.2.length then v else gM T 3 (2000 * q + i)) 2000
    rw [if_pos rfl]
    refine ⟨by simp, by simp; omega, fun i hi => ?_⟩
    rw [List.length_append, List.length_singleton] at hi
    by_cases z : i = f.2.length
    · subst z
      rw [List.getElem?_append_right (Nat.le_refl _), Nat.sub_self]
      show some v = some (if _ then _ else _)
      rw [if_pos rfl]
    · rw [List.getElem?_append_left (by omega)]
      show _ = some (if _ then _ else _)
      rw [if_neg (by omega)]
      exact g3 i (by omega)
theorem RS.fput {A : zA} {T : zS} (h : RS A T) {q : Nat} {f : List Int32 × List Int32} (hf : A.2.2[q]? = some f) (hl : f.2.length < 2000) (v : Int32) : RS (aFiles A (A.2.2.set q (f.1, f.2 ++ [v]))) (sM (sM T 3 (2000 * q + f.2.length) v) 4 q (nI (f.2.length + 1))) := ⟨h.1.fput hf hl v, h.2⟩
theorem RR.fset {A : zA} {T : zS} (h : RR A T) {q : Nat} {f : List Int32 × List Int32} (hf : A.2.2[q]? = some f) {p : Nat} (hl : p < f.2.length) (v : Int32) : RR (aFiles A (A.2.2.set q (f.1, f.2.set p v))) (sM T 3 (2000 * q + p) v) := by
  obtain ⟨⟨g1, g2, g3⟩, g4⟩ := h.arrs hf
  refine h.fchg hf (fun c hc => ?_) rfl rfl (fun k hk => rfl) (fun k hk => rfl) (fun k i hk hi => if_neg (by omega)) (fun k i hk hi => rfl) ?_ g4
  · rw [gM_off _ _ _ (show c ≠ 3 by omega)]
  · show arr _ (gM T 4 q) (fun i => if 2000 * q + i = 2000 * q + p then v else gM T 3 (2000 * q + i)) 2000
    refine ⟨by rw [List.length_set]; exact g1, by rw [List.length_set]; exact g2, fun i hi => ?_⟩
    rw [List.length_set] at hi
    show _ = some (if _ then _ else _)
    by_cases z : p = i
    · subst z
      rw [List.getElem?_set_self hl, if_pos rfl]
    · rw [List.getElem?_set_ne z, if_neg (by omega)]
      exact g3 i hi
theorem RS.fset {A : zA} {T : zS} (h : RS A T) {q : Nat} {f : List Int32 × List Int32} (hf : A.2.2[q]? = some f) {p : Nat} (hl : p < f.2.length) (v : Int32) : RS (aFiles A (A.2.2.set q (f.1, f.2.set p v))) (sM T 3 (2000 * q + p) v) := ⟨h.1.fset hf hl v, h.2⟩
theorem RR.fcut {A : zA} {T : zS} (h : RR A T) {q : Nat} {f : List Int32 × List Int32} (hf : A.2.2[q]? = some f) : RR (aFiles A (A.2.2.set q (f.1, []))) (sM T 4 q 0) := by
  obtain ⟨⟨g1, g2, g3⟩, g4⟩ := h.arrs hf
  refine h.fchg hf (fun c hc => ?_) rfl rfl (fun k hk => if_neg hk) (fun k hk => rfl) (fun k i hk hi => rfl) (fun k i hk hi => rfl) ?_ g4
  · rw [gM_off _ _ _ (show c ≠ 4 by omega)]
  · refine ⟨?_, Nat.zero_le _, fun i hi => absurd hi (by simp)⟩
    show (if q = q then (0 : Int32) else _) = nI 0
    rw [if_pos rfl, nI_0]
theorem RS.fcut {A : zA} {T : zS} (h : RS A T) {q : Nat} {f : List Int32 × List Int32} (hf : A.2.2[q]? = some f) : RS (aFiles A (A.2.2.set q (f.1, []))) (sM T 4 q 0) := ⟨h.1.fcut hf, h.2⟩
theorem aM_aM (A : zA) (c i : Nat) (v w : Int32) : aM (aM A c i v) c i w = aM A c i w := by
  refine Prod.ext (Prod.ext ?_ rfl) rfl
  funext a b
  show gM (aM (aM A c i v) c i w).1 a b = gM (aM A c i w).1 a b
  rw [gM_aM, gM_aM, gM_aM]
  by_cases x : a = c
  · by_cases y : b = i
    · rw [if_pos x, if_pos y, if_pos x, if_pos y]
    · rw [if_pos x, if_neg y, if_pos x, if_neg y, if_pos x, if_neg y]
  · rw [if_neg x, if_neg x, if_neg x]
theorem aM_self (A : zA) (c i : Nat) : aM A c i (gM A.1 c i) = A := by
  refine Prod.ext (Prod.ext ?_ rfl) rfl
  funext a b
  show gM (aM A c i (gM A.1 c i)).1 a b = gM A.1 a b
  rw [gM_aM]
  by_cases x : a = c
  · by_cases y : b = i
    · rw [if_pos x, if_pos y, x, y]
    · rw [if_pos x, if_neg y]
  · rw [if_neg x]
theorem set_self {fs : List (List Int32 × List Int32)} {q : Nat} {f : List Int32 × List Int32} (h : fs[q]? = some f) : fs.set q f = fs := by
  apply List.ext_getElem?
  intro i
  by_cases e : q = i
  · subst e
    rw [List.getElem?_set_self (List.getElem?_eq_some_iff.mp h).1, h]
  · rw [List.getElem?_set_ne e]
theorem ov_ov {c : List Int32} {p : Nat} (hp : p ≤ c.length) (l : List Int32) (v : Int32) : ov (ov c p l) (p + l.length) [v] = ov c p (l ++ [v]) := by
  have hl := ov_len hp l
  apply List.ext_getElem?
  intro i
  rw [ov_at (by omega), ov_at hp, ov_at hp, List.length_append, List.length_singleton]
  by_cases c1 : i < p
  · rw [if_pos (by omega), if_pos c1, if_pos c1]
  · rw [if_neg c1, if_neg c1]
    by_cases c2 : i < p + l.length
    · rw [if_pos c2, if_pos c2, if_pos (by omega), List.getElem?_append_left (by omega)]
    · rw [if_neg c2, if_neg c2]
      by_cases c3 : i < p + l.length + 1
      · have : i = p + l.length := by omega
        subst this
        rw [if_pos c3, if_pos (by omega), Nat.sub_self, Nat.add_sub_cancel_left, List.getElem?_append_right (Nat.le_refl _), Nat.sub_self]
      · rw [if_neg c3, if_neg (by omega)]
/-- a byte comes to the file at the handle's place -/
theorem r_w147 {A : zA} {k q : Nat} {f : List Int32 × List Int32} (hk : k < 10) (hkind : ¬ gM A.1 4 k = 0) (hq : q < 12) (hf : q < A.2.2.length) {p a n i : Nat} (hp : p < 2000) (ha : a + i < 16384) {P : zS → Prop} {K : zS → Int32 → Int32 → Prop} {d0 : List Int32} (hK : ∀ W', RS (aM (aFiles A (A.2.2.set q (f.1, ov (d0 ++ List.replicate (p - d0.length) 0) p [gM A.1 3 (a + i)]))) 5 k (nI (p + 1))) W' → K W' (nI q) (nI (i + 1))) (hd0 : d0.length ≤ 2000) :
    ∀ (m j : Nat) (W : zS), m = p - (d0.length + j) → (j = 0 ∨ d0.length + j ≤ p) → RS (aM (aFiles A (A.2.2.set q (f.1, d0 ++ List.replicate j 0))) 5 k (nI p)) W → l_M_write_147 (nI (k + 1)) (nI a) (nI n) P K (m + 1) W (nI q) (nI i) := by
  have fin : ∀ (j : Nat) (W : zS), p ≤ d0.length + j → (j = 0 ∨ d0.length + j ≤ p) → RS (aM (aFiles A (A.2.2.set q (f.1, d0 ++ List.replicate j 0))) 5 k (nI p)) W → ∀ m, l_M_write_147 (nI (k + 1)) (nI a) (nI n) P K (m + 1) W (nI q) (nI i) := by
    intro j W hpj hj hW m
    have hdl : (d0 ++ List.replicate j (0 : Int32)).length = d0.length + j := by rw [List.length_append, List.length_replicate]
    have hdl2 : d0.length + j ≤ 2000 := by omega
    have ej : p - d0.length = j := by omega
    rw [ej] at hK
    have hff : (aM (aFiles A (A.2.2.set q (f.1, d0 ++ List.replicate j 0))) 5 k (nI p)).2.2[q]? = some (f.1, d0 ++ List.replicate j 0) := List.getElem?_set_self hf
    have e4 : gM W 4 q = nI (d0.length + j) := by rw [← hdl]; exact (hW.arrs hff).1.1
    have e9 : gM W 9 (k + 1) = nI p := by
      have := ((hW.h k hk).2.1 hkind).1
      rw [gM_aM, if_pos rfl, if_pos rfl] at this
      exact this
    have e1 : gM W 1 (a + i) = gM A.1 3 (a + i) := hW.m _ ha
    unfold l_M_write_147 j_M_write_251
    have ea : nI a + nI i = nI (a + i) := nI_add a i
    have ed : (2000 : Int32) * nI q + nI p = nI (2000 * q + p) := by rw [show (2000 : Int32) = nI 2000 from rfl, pk_mul, nI_add]
    rw [nI_clamp (show q < 2 ^ 31 by omega), nI_clamp (show k + 1 < 2 ^ 31 by omega), e4, e9, clm ea (by omega), clm ed (by omega), e1]
    refine ⟨vp_in_nI (by omega) (by decide), vp_in_nI (by omega) (by decide), fun _ => ⟨vin (by omega) ea, vin (by omega) ed, ?_⟩, fun z => absurd (nI_le (by omega) (by omega)) z⟩
    rintro S5 rfl
    have e4' : gM (sM W 3 (2000 * q + p) (gM A.1 3 (a + i))) 4 q = nI (d0.length + j) := e4
    have e9' : gM (sM W 3 (2000 * q + p) (gM A.1 3 (a + i))) 9 (k + 1) = nI p := e9
    rw [e4', e9', nI_eq (by omega) (by omega)]
    refine ⟨fun c => ?_, fun c => ?_⟩
    · rintro S6 rfl
      refine ⟨vp_in_nI (by omega) (by decide), ?_⟩
      rintro S2 rfl
      have e9'' : gM (sM (sM W 3 (2000 * q + p) (gM A.1 3 (a + i))) 4 q (nI (d0.length + j) + 1)) 9 (k + 1) = nI p := e9
      rw [e9'', nI_1, nI_1, nI_1]
      have h1 := hW.fput hff (by rw [hdl]; omega) (gM A.1 3 (a + i))
      have h2 := h1.place k (nI (p + 1))
      have es : (aM (aFiles A (A.2.2.set q (f.1, d0 ++ List.replicate j 0))) 5 k (nI p)).2.2.set q (f.1, d0 ++ List.replicate j 0 ++ [gM A.1 3 (a + i)]) = A.2.2.set q (f.1, d0 ++ List.replicate j 0 ++ [gM A.1 3 (a + i)]) := List.set_set _
      have eo := ov_add (c := d0 ++ List.replicate j 0) (p := p) (by rw [hdl]; omega) [] (gM A.1 3 (a + i)) (by rw [ov_nil, hdl, List.length_nil]; omega)
      rw [ov_nil, List.nil_append] at eo
      have h2 : RS (aM (aM (aFiles A ((aM (aFiles A (A.2.2.set q (f.1, d0 ++ List.replicate j 0))) 5 k (nI p)).2.2.set q (f.1, d0 ++ List.replicate j 0 ++ [gM A.1 3 (a + i)]))) 5 k (nI p)) 5 k (nI (p + 1))) (sM (sM (sM W 3 (2000 * q + (d0 ++ List.replicate j (0 : Int32)).length) (gM A.1 3 (a + i))) 4 q (nI ((d0 ++ List.replicate j (0 : Int32)).length + 1))) 9 (k + 1) (nI (p + 1))) := h2
      rw [es, aM_aM, eo, hdl, c] at h2
      rw [c]
      exact hK _ h2
    · refine ⟨vp_in_nI (by omega) (by decide), ?_⟩
      rintro S2 rfl
      rw [nI_1, nI_1]
      have h1 := hW.fset hff (p := p) (by rw [hdl]; omega) (gM A.1 3 (a + i))
      have h2 := h1.place k (nI (p + 1))
      have es : (aM (aFiles A (A.2.2.set q (f.1, d0 ++ List.replicate j 0))) 5 k (nI p)).2.2.set q (f.1, (d0 ++ List.replicate j 0).set p (gM A.1 3 (a + i))) = A.2.2.set q (f.1, (d0 ++ List.replicate j 0).set p (gM A.1 3 (a + i))) := List.set_set _
      have eo := ov_set (c := d0 ++ List.replicate j 0) (p := p) (by rw [hdl]; omega) [] (gM A.1 3 (a + i)) (by rw [ov_nil, hdl, List.length_nil]; omega)
      rw [ov_nil, List.nil_append, List.length_nil, Nat.add_zero] at eo
      have h2 : RS (aM (aM (aFiles A ((aM (aFiles A (A.2.2.set q (f.1, d0 ++ List.replicate j 0))) 5 k (nI p)).2.2.set q (f.1, (d0 ++ List.replicate j 0).set p (gM A.1 3 (a + i))))) 5 k (nI p)) 5 k (nI (p + 1))) (sM (sM W 3 (2000 * q + p) (gM A.1 3 (a + i))) 9 (k + 1) (nI (p + 1))) := h2
      rw [es, aM_aM, eo] at h2
      exact hK _ h2
  intro m
  induction m with
  | zero => intro j W hm hj hW; exact fin j W (by omega) hj hW 0
  | succ m ih =>
    intro j W hm hj hW
    have hdl : (d0 ++ List.replicate j (0 : Int32)).length = d0.length + j := by rw [List.length_append, List.length_replicate]
    have hff : (aM (aFiles A (A.2.2.set q (f.1, d0 ++ List.replicate j 0))) 5 k (nI p)).2.2[q]? = some (f.1, d0 ++ List.replicate j 0) := List.getElem?_set_self hf
    have e4 : gM W 4 q = nI (d0.length + j) := by rw [← hdl]; exact (hW.arrs hff).1.1
    have e9 : gM W 9 (k + 1) = nI p := by
      have := ((hW.h k hk).2.1 hkind).1
      rw [gM_aM, if_pos rfl, if_pos rfl] at this
      exact this
    unfold l_M_write_147
    have ed : (2000 : Int32) * nI q + nI (d0.length + j) = nI (2000 * q + (d0.length + j)) := by rw [show (2000 : Int32) = nI 2000 from rfl, pk_mul, nI_add]
    rw [nI_clamp (show q < 2 ^ 31 by omega), nI_clamp (show k + 1 < 2 ^ 31 by omega), e4, e9, clm ed (by omega)]
    refine ⟨vp_in_nI (by omega) (by decide), vp_in_nI (by omega) (by decide), fun z => ?_, fun _ => ⟨vin (by omega) ed, ?_⟩⟩
    · rw [nI_leI (by omega) (by omega)] at z
      omega
    · rintro S8 rfl S9 rfl
      have e4' : gM (sM W 3 (2000 * q + (d0.length + j)) 0) 4 q = nI (d0.length + j) := e4
      rw [e4', nI_1]
      have h1 := hW.fput hff (by rw [hdl]; omega) 0
      have es : (aM (aFiles A (A.2.2.set q (f.1, d0 ++ List.replicate j 0))) 5 k (nI p)).2.2.set q (f.1, d0 ++ List.replicate j 0 ++ [(0 : Int32)]) = A.2.2.set q (f.1, d0 ++ List.replicate (j + 1) 0) := by
        rw [rep_snoc]; exact List.set_set _
      have h1 : RS (aM (aFiles A ((aM (aFiles A (A.2.2.set q (f.1, d0 ++ List.replicate j 0))) 5 k (nI p)).2.2.set q (f.1, d0 ++ List.replicate j 0 ++ [(0 : Int32)]))) 5 k (nI p)) (sM (sM W 3 (2000 * q + (d0 ++ List.replicate j (0 : Int32)).length) 0) 4 q (nI ((d0 ++ List.replicate j (0 : Int32)).length + 1))) := h1
      rw [es, hdl] at h1
      exact ih (j + 1) _ (by omega) (Or.inr (by omega)) h1
def wrS (A : zA) (k q : Nat) (f : List Int32 × List Int32) (p a i : Nat) : zA := aM (aFiles A (if i = 0 then A.2.2 else A.2.2.set q (f.1, ov (f.2 ++ List.replicate (p - f.2.length) 0) p (bytesOf (gM A.1 3) a i)))) 5 k (nI (p + i))
theorem r_w129 {A : zA} {k q : Nat} {f : List Int32 × List Int32} (hk : k < 10) (hkind : ¬ gM A.1 4 k = 0) (hf : A.2.2[q]? = some f) (hfl : f.2.length ≤ 2000) (hq : q < 12) {p a n : Nat} (hp : p ≤ 2000) (ha : a + n ≤ 16384) {P : zS → Prop} (hP : oEnd (wrP A k q f p a n) P) :
    ∀ (m i : Nat) (W : zS), m + i = min n (2000 - p) → RS (wrS A k q f p a i) W → l_M_write_129 (nI (k + 1)) (nI a) (nI n) P (m + 1) W (nI q) (nI i) := by
  have hql := (List.getElem?_eq_some_iff.mp hf).1
  intro m
  induction m with
  | zero =>
    intro i W hi hW
    have hi : min n (2000 - p) = i := by omega
    have e9 : gM W 9 (k + 1) = nI (p + i) := by
      have := ((hW.h k hk).2.1 hkind).1
      unfold wrS at this
      rw [gM_aM, if_pos rfl, if_pos rfl] at this
      exact this
    have j267 : j_M_write_267 (nI (k + 1)) (nI a) (nI n) P W (nI i) := by
      unfold wrP at hP
      rw [hi] at hP
      unfold j_M_write_267 j_M_write_279
      rw [nI_leI (by omega) (by omega), pk_sub (by omega)]
      refine ⟨fun z => ?_, fun z => ?_⟩
      · rw [if_neg (by omega)] at hP
        exact r_answer hW _ hP
      · rw [if_pos (by omega)] at hP
        rintro S1 rfl
        exact r_answer (hW.err 28) _ hP
    unfold l_M_write_129
    rw [nI_clamp (show k + 1 < 2 ^ 31 by omega), e9]
    refine ⟨fun _ => j267, fun z => ⟨vp_in_nI (by omega) (by decide), fun _ => j267, fun c => absurd ?_ c⟩⟩
    rw [nI_leI (by omega) (by omega)] at z
    exact nI_le (a := 2000) (by omega) (by omega)
  | succ m ih =>
    intro i W hi hW
    have e9 : gM W 9 (k + 1) = nI (p + i) := by
      have := ((hW.h k hk).2.1 hkind).1
      unfold wrS at this
      rw [gM_aM, if_pos rfl, if_pos rfl] at this
      exact this
    have l2 : (2000 : Int32) ≤ nI (p + i) ↔ 2000 ≤ p + i := nI_leI (by decide) (by omega)
    unfold l_M_write_129
    rw [nI_clamp (show k + 1 < 2 ^ 31 by omega), e9, l2]
    refine ⟨fun z => ?_, fun z => ⟨vp_in_nI (by omega) (by decide), fun c => absurd c (by omega), fun c => ?_⟩⟩
    · rw [nI_leI (by omega) (by omega)] at z
      omega
    · have cpl : p ≤ (f.2 ++ List.replicate (p - f.2.length) (0 : Int32)).length := by rw [List.length_append, List.length_replicate]; omega
      by_cases i0 : i = 0
      · subst i0
        have h0 : RS (aM (aFiles A (A.2.2.set q (f.1, f.2 ++ List.replicate 0 0))) 5 k (nI p)) W := by
          unfold wrS at hW
          rw [if_pos rfl] at hW
          rw [List.replicate_zero, List.append_nil, set_self hf]
          exact hW
        exact ⟨_, r_w147 (f := f) (p := p) (n := n) hk hkind hq hql (by omega) (by omega) (fun W' hW' => ih 1 W' (by omega) hW') hfl _ 0 W rfl (Or.inl rfl) h0⟩
      · have hdl : (ov (f.2 ++ List.replicate (p - f.2.length) 0) p (bytesOf (gM A.1 3) a i)).length = max (f.2.length + (p - f.2.length)) (p + i) := by
          rw [ov_len cpl, bytesOf_len, List.length_append, List.length_replicate]
        have h0 : RS (aM (aFiles A (A.2.2.set q (f.1, ov (f.2 ++ List.replicate (p - f.2.length) 0) p (bytesOf (gM A.1 3) a i) ++ List.replicate 0 0))) 5 k (nI (p + i))) W := by
          unfold wrS at hW
          rw [if_neg i0] at hW
          rw [List.replicate_zero, List.append_nil]
          exact hW
        refine ⟨_, r_w147 (f := f) (p := p + i) (n := n) hk hkind hq hql (by omega) (by omega) (fun W' hW' => ih (i + 1) W' (by omega) ?_) (by omega) _ 0 W rfl (Or.inl rfl) h0⟩
        rw [hdl, show p + i - max (f.2.length + (p - f.2.length)) (p + i) = 0 by omega, List.replicate_zero, List.append_nil] at hW'
        have eo := ov_ov cpl (bytesOf (gM A.1 3) a i) (gM A.1 3 (a + i))
        rw [bytesOf_len, ← bytesOf_succ] at eo
        rw [eo] at hW'
        unfold wrS
        rw [if_neg (by omega)]
        exact hW'
theorem r_wrP {A : zA} {T : zS} (h : RS A T) {k q : Nat} {f : List Int32 × List Int32} (hk : k < 10) (hkind : ¬ gM A.1 4 k = 0) (hf : A.2.2[q]? = some f) (hfl : f.2.length ≤ 2000) (hq : q < 12) {p a n : Nat} (hpl : gM A.1 5 k = nI p) (hp : p ≤ 2000) (ha : a + n ≤ 16384) {P : zS → Prop} (hP : oEnd (wrP A k q f p a n) P) : j_M_write_126 (nI (k + 1)) (nI a) (nI n) P T (nI q) := by
  unfold j_M_write_126
  have e : wrS A k q f p a 0 = A := by
    unfold wrS
    rw [if_pos rfl, Nat.add_zero, ← hpl]
    exact aM_self A 5 k
  exact ⟨_, r_w129 hk hkind hf hfl hq hp ha hP (min n (2000 - p)) 0 T (by omega) (by rw [e]; exact h)⟩
theorem r_w56 {A : zA} {k j : Nat} (hk : k < 10) (hj : j < 2) (hkj : gM A.1 4 k - 3 = nI j) {a n : Nat} (ha : a + n ≤ 16384) {P : zS → Prop} (hP : oEnd (prA A j (bytesOf (gM A.1 3) a n), 0) P) :
    ∀ (m i : Nat) (W : zS), m + i = n → RS (prA A j (bytesOf (gM A.1 3) a i)) W → l_M_write_56 (nI (k + 1)) (nI a) (nI n) P (m + 1) W (nI i) := by
  intro m
  induction m with
  | zero =>
    intro i W hi hW
    have hi : i = n := by omega
    subst hi
    unfold l_M_write_56
    exact ⟨fun _ => r_answer hW 0 hP, fun z => absurd (nI_le (Nat.le_refl _) (by omega)) z⟩
  | succ m ih =>
    intro i W hi hW
    have e7 : gM W 7 (k + 1) = gM A.1 4 k := hW.kd hk
    have e1 : gM W 1 (a + i) = gM A.1 3 (a + i) := hW.m _ (by omega)
    have ea : nI a + nI i = nI (a + i) := nI_add a i
    unfold l_M_write_56
    rw [nI_clamp (show k + 1 < 2 ^ 31 by omega), e7, clm ea (by omega), e1]
    refine ⟨fun z => ?_, fun _ => ⟨vp_in_nI (by omega) (by decide), vin (by omega) ea, ?_⟩⟩
    · rw [nI_leI (by omega) (by omega)] at z
      omega
    · refine r_prints hW hj _ hkj ?_
      rw [prA_snoc, ← bytesOf_succ]
      intro W' hW'
      rw [nI_1]
      exact ih (i + 1) W' (by omega) hW'
theorem r_write {A : zA} {T : zS} (h : RS A T) (hI : AI A) (x p n : Int32) {P : zS → Prop} (hP : oEnd (writeA A x p n) P) : w_M_write x p n T P := by
  unfold w_M_write
  refine r_isOpen h hI x ?_
  unfold writeA at hP
  cases hh : hopen A x with
  | none =>
    rw [hh] at hP
    refine ⟨fun _ => ?_, fun z => absurd rfl z⟩
    unfold j_M_write_19
    exact r_failsWith h _ _ hP
  | some k =>
    rw [hh] at hP
    simp only at hP
    obtain ⟨hk, hkind⟩ := hopen_spec hh
    have ex := hop_un hh
    subst ex
    have e10 : gM T 10 (k + 1) = gM A.1 6 k := ((h.h k hk).2.1 hkind).2
    have e7 := h.kd hk
    rw [nI_clamp (show k + 1 < 2 ^ 31 by omega)]
    refine ⟨fun z => absurd z (show ¬ (1 : Int32) = 0 by decide), fun _ => ⟨vp_in_nI (by omega) (by decide), ?_⟩⟩
    rw [e10]
    refine ⟨fun c => ?_, fun c => r_isArea _ _ ?_⟩
    · rw [if_pos c] at hP
      unfold j_M_write_19
      exact r_failsWith h _ _ hP
    · rw [if_neg c] at hP
      by_cases c2 : un p + un n ≤ 16384
      · rw [if_neg (fun z => z c2)] at hP
        rw [if_pos c2]
        refine ⟨fun z => absurd z (by decide), fun _ => ?_⟩
        rw [e7, kind1 hI hk hkind]
        refine ⟨fun c3 => ?_, fun c3 => ?_⟩
        · obtain ⟨q, f, e1, e2, hq, e8, ar⟩ := h.file hI hk c3
          rw [if_pos c3, e1] at hP
          simp only [e2] at hP
          rw [e8]
          rintro v6 rfl
          unfold wrF at hP
          have r := (hI.2.2.2.1 k hk).1 c3
          have l4 : gM A.1 6 k < (4 : Int32) ↔ gM A.1 6 k &&& 4 = 0 := by
            rcases r with r | r | r | r | r <;> rw [r] <;> decide
          rw [e10, l4]
          refine ⟨fun c4 => ?_, fun c4 => ⟨vp_in_nI hq (by decide), ?_⟩⟩
          · rw [if_pos c4] at hP
            obtain ⟨pl, hp1, hp2⟩ := hI.2.2.1 k hk hkind
            rw [hp2, un_nI (by omega)] at hP
            have := r_wrP h hk hkind e2 ar.2.1 hq hp2 hp1 c2 hP
            rw [nI_un, nI_un] at this
            exact this
          · rw [if_neg c4] at hP
            rintro S8 rfl
            rw [nI_clamp (show q < 2 ^ 31 by omega), ar.1]
            have := r_wrP (h.place k (nI f.2.length)) hk hkind e2 ar.2.1 hq (p := f.2.length) (by rw [gM_aM, if_pos rfl, if_pos rfl]) ar.2.1 c2 hP
            rw [nI_un, nI_un] at this
            exact this
        · rw [if_neg c3] at hP
          have hj : ∃ j, j < 2 ∧ gM A.1 4 k - 3 = nI j ∧ (if gM A.1 4 k = 4 then 1 else 0) = j := by
            obtain ⟨kk, h4, ek⟩ := hI.2.1 k hk
            have : kk = 0 ∨ kk = 1 ∨ kk = 2 ∨ kk = 3 ∨ kk = 4 := by omega
            rcases this with z | z | z | z | z
            · exact absurd (by rw [ek, z]; rfl) hkind
            · exact absurd (by rw [ek, z]; rfl) c3
            · have := (hI.2.2.2.1 k hk).2.1 (by rw [ek, z]; rfl)
              rw [this] at c
              exact absurd (by decide) c
            · rw [ek, z]; exact ⟨0, by decide, by decide, by decide⟩
            · rw [ek, z]; exact ⟨1, by decide, by decide, by decide⟩
          obtain ⟨j, j1, j2, j3⟩ := hj
          rw [j3] at hP
          have := r_w56 hk j1 j2 c2 hP (un n) 0 T (by omega) (by
            unfold bytesOf
            rw [List.range_zero, List.map_nil, prA_nil (h.p j j1).2.2.1]; exact h)
          rw [nI_un, nI_un] at this
          exact ⟨_, this⟩
      · rw [if_pos c2] at hP
        rw [if_neg c2]
        exact ⟨fun _ => r_failsWith h _ _ hP, fun z => absurd rfl z⟩
/-! READ -/
theorem RR.inp0 {A : zA} {T W : zS} {l : List Int32} (h : RR A T) (hl : l.length ≤ 400) (c : cpy 11 0 l (sM T 0 20 (nI l.length)) W) : RR (aRow A 1 l) W := by
  have e := c.1
  refine ⟨?_, ?_, ?_, ?_, ?_, ?_, ?_, ?_, ?_, c.j.trans h.j⟩
  · rw [e 0 (by decide)]; exact h.s
  · rw [e 2 (by decide)]; exact h.x
  · rw [e 1 (by decide)]; exact h.m
  · rw [e 12 (by decide), e 13 (by decide), e 14 (by decide)]; exact h.p.row (Or.inl (by decide)) _
  · rw [e 0 (by decide), e 16 (by decide)]; exact h.t
  · refine ⟨by rw [e 0 (by decide)]; rfl, hl, fun i hi => ?_⟩
    have hi : i < l.length := hi
    show l[i]? = _
    rw [c.2.1]
    have := mset_at (gM (sM T 0 20 (nI l.length)) 11) 0 l hi
    rw [Nat.zero_add] at this
    exact this
  · rw [e 0 (by decide), e 15 (by decide)]; exact h.c
  · rw [e 0 (by decide), e 3 (by decide), e 4 (by decide), e 5 (by decide), e 6 (by decide)]; exact h.f
  · rw [e 7 (by decide), e 8 (by decide), e 9 (by decide), e 10 (by decide)]; exact h.h
theorem RS.inp0 {A : zA} {T W : zS} {l : List Int32} (h : RS A T) (hl : l.length ≤ 400) (c : cpy 11 0 l (sM T 0 20 (nI l.length)) W) : RS (aRow A 1 l) W := ⟨h.1.inp0 hl c, by rw [c.1 0 (by decide)]; exact h.2⟩
theorem r_takeIn {A : zA} {T : zS} (h : RS A T) {v : Int32} {l : List Int32} (hl : A.2.1 1 = v :: l) {P : zS → Int32 → Prop} (hP : ∀ T', RS (aRow A 1 l) T' → P T' v) : w_M_takeIn T P := by
  obtain ⟨i1, i2, i3⟩ := h.i
  rw [hl] at i1 i2 i3
  rw [List.length_cons] at i2
  have hv : gM T 11 0 = v := by
    have := i3 0 (by simp)
    simpa using this.symm
  unfold w_M_takeIn
  refine ⟨vp_in_nI (n := 0) (by decide) (by decide), ?_⟩
  have e0 : gM T 11 (0 : Int32).toNatClampNeg = v := hv
  have ew : gM T 0 20 - 1 = nI l.length := by
    rw [i1, List.length_cons, show (1 : Int32) = nI 1 from rfl, pk_sub (by omega), Nat.add_sub_cancel]
  rw [e0, ew]
  rintro v2 rfl S3 rfl
  have loop : ∀ (m i : Nat) (W : zS), m + i = l.length → cpy 11 0 (l.take i) (sM T 0 20 (nI l.length)) W → l_M_takeIn_19 P (m + 1) W v2 (nI i) := by
    intro m
    induction m with
    | zero =>
      intro i W hi hc
      have hi : i = l.length := by omega
      subst hi
      rw [List.take_length] at hc
      have e20 : gM W 0 20 = nI l.length := by rw [hc.1 0 (by decide)]; rfl
      unfold l_M_takeIn_19
      rw [e20]
      exact ⟨fun _ => hP W (h.inp0 (by omega) hc), fun z => absurd (nI_le (Nat.le_refl _) (by omega)) z⟩
    | succ m ih =>
      intro i W hi hc
      have hil : i < l.length := by omega
      have e20 : gM W 0 20 = nI l.length := by rw [hc.1 0 (by decide)]; rfl
      have ein : gM W 11 (i + 1) = l[i] := by
        rw [hc.2.1, mset_out _ _ _ (Or.inr (by rw [lenT (by omega)]; omega))]
        have := i3 (i + 1) (by rw [List.length_cons]; omega)
        rw [List.getElem?_cons_succ, List.getElem?_eq_getElem hil] at this
        exact (Option.some.inj this).symm
      unfold l_M_takeIn_19
      rw [e20, nI_1, nI_clamp (show i + 1 < 2 ^ 31 by omega), nI_clamp (show i < 2 ^ 31 by omega), ein]
      refine ⟨fun z => ?_, fun _ => ⟨vp_in_nI (by omega) (by decide), vp_in_nI (by omega) (by decide), ?_⟩⟩
      · rw [nI_leI (by omega) (by omega)] at z
        omega
      · rintro S3 rfl
        refine ih (i + 1) _ (by omega) ?_
        rw [tk hil]
        exact hc.snoc (by rw [lenT (by omega)]; omega) _
  exact ⟨_, loop l.length 0 _ (by omega) (by rw [List.take_zero]; exact cpy.nil 11 0 _)⟩
theorem RR.mem1 {A : zA} {T : zS} (h : RR A T) (a : Nat) (v : Int32) : RR (aMem A (mset (gM A.1 3) a [v])) (sM T 1 a v) := by
  have := (cpy.nil 1 a T).snoc (p := a) (by simp) v
  rw [List.nil_append] at this
  exact h.cmem this
theorem RS.mem1 {A : zA} {T : zS} (h : RS A T) (a : Nat) (v : Int32) : RS (aMem A (mset (gM A.1 3) a [v])) (sM T 1 a v) := ⟨h.1.mem1 a v, h.2⟩
def rcS (A : zA) (a i : Nat) : zA := aRow (aMem A (mset (gM A.1 3) a ((A.2.1 1).take i))) 1 ((A.2.1 1).drop i)
theorem rcS_next (A : zA) (a : Nat) {i : Nat} (hi : i < (A.2.1 1).length) : aMem (aRow (rcS A a i) 1 ((A.2.1 1).drop (i + 1))) (mset (gM (aRow (rcS A a i) 1 ((A.2.1 1).drop (i + 1))).1 3) (a + i) [(A.2.1 1)[i]]) = rcS A a (i + 1) := by
  have e : mset (gM (aRow (rcS A a i) 1 ((A.2.1 1).drop (i + 1))).1 3) (a + i) [(A.2.1 1)[i]] = mset (gM A.1 3) a ((A.2.1 1).take (i + 1)) := by
    have := mset_snoc (gM A.1 3) a ((A.2.1 1).take i) (A.2.1 1)[i]
    rw [lenT (by omega), ← tk hi] at this
    exact this
  rw [e]
  unfold rcS
  refine Prod.ext (Prod.ext ?_ rfl) (Prod.ext ?_ rfl)
  · funext c q
    show (if c = 3 then _ else if c = 3 then _ else _) = if c = 3 then _ else _
    by_cases z : c = 3
    · rw [if_pos z, if_pos z]
    · rw [if_neg z, if_neg z, if_neg z]
  · funext s
    show (if s = 1 then _ else if s = 1 then _ else _) = if s = 1 then _ else _
    by_cases z : s = 1
    · rw [if_pos z, if_pos z]
    · rw [if_neg z, if_neg z, if_neg z]; rfl
theorem take_min (l : List Int32) (n : Nat) : l.take n = l.take (min n l.length) := by
  rcases Nat.le_total n l.length with z | z
  · rw [Nat.min_eq_left z]
  · rw [Nat.min_eq_right z, List.take_of_length_le z, List.take_length]
theorem r_r56 {A : zA} (hlen : (A.2.1 1).length ≤ 400) {x : Int32} {a n : Nat} (ha : a + n ≤ 16384) {P : zS → Prop} (hP : oEnd (rdC A a n) P) :
    ∀ (m i : Nat) (W : zS), m + i = min n (A.2.1 1).length → RS (rcS A a i) W → l_M_read_56 x (nI a) (nI n) P (m + 1) W (nI i) := by
  intro m
  induction m with
  | zero =>
    intro i W hi hW
    have hi : min n (A.2.1 1).length = i := by omega
    have e20 : gM W 0 20 = nI ((A.2.1 1).length - i) := by
      have := hW.i.1
      rw [show (rcS A a i).2.1 1 = (A.2.1 1).drop i from rfl, List.length_drop] at this
      exact this
    have j161 : j_M_read_161 x (nI a) (nI n) P W (nI i) := by
      unfold rdC at hP
      rw [take_min, hi] at hP
      unfold j_M_read_161
      rw [pk_sub (by omega)]
      exact r_answer hW _ hP
    unfold l_M_read_56
    rw [e20]
    refine ⟨fun _ => j161, fun z => ⟨fun _ => j161, fun c => absurd ?_ c⟩⟩
    rw [nI_leI (by omega) (by omega)] at z
    rw [show (A.2.1 1).length - i = 0 by omega]
    decide
  | succ m ih =>
    intro i W hi hW
    have hil : i < (A.2.1 1).length := by omega
    have e20 : gM W 0 20 = nI ((A.2.1 1).length - i) := by
      have := hW.i.1
      rw [show (rcS A a i).2.1 1 = (A.2.1 1).drop i from rfl, List.length_drop] at this
      exact this
    have ea : nI a + nI i = nI (a + i) := nI_add a i
    unfold l_M_read_56
    rw [e20, clm ea (by omega)]
    refine ⟨fun z => ?_, fun _ => ⟨fun z => ?_, fun _ => ?_⟩⟩
    · rw [nI_leI (by omega) (by omega)] at z
      omega
    · rw [← nI_0, nI_leI (by omega) (by decide)] at z
      omega
    · refine r_takeIn hW (show (rcS A a i).2.1 1 = (A.2.1 1)[i] :: (A.2.1 1).drop (i + 1) from List.drop_eq_getElem_cons hil) (fun W' hW' => ⟨vin (by omega) ea, ?_⟩)
      rintro S4 rfl
      have := hW'.mem1 (a + i) (A.2.1 1)[i]
      rw [rcS_next A a hil] at this
      rw [nI_1]
      exact ih (i + 1) _ (by omega) this
def rfS (A : zA) (k pl a i : Nat) (c : List Int32) : zA := aM (aMem A (mset (gM A.1 3) a ((c.drop pl).take i))) 5 k (nI (pl + i))
theorem rfS_next (A : zA) (k pl a : Nat) {i : Nat} {c : List Int32} (hi : pl + i < c.length) : aM (aMem (rfS A k pl a i c) (mset (gM (rfS A k pl a i c).1 3) (a + i) [c[pl + i]])) 5 k (nI (pl + i + 1)) = rfS A k pl a (i + 1) c := by
  have hi2 : i < (c.drop pl).length := by rw [List.length_drop]; omega
  have e : mset (gM (rfS A k pl a i c).1 3) (a + i) [c[pl + i]] = mset (gM A.1 3) a ((c.drop pl).take (i + 1)) := by
    have := mset_snoc (gM A.1 3) a ((c.drop pl).take i) (c.drop pl)[i]
    rw [lenT (by omega), ← tk hi2, List.getElem_drop] at this
    exact this
  rw [e]
  unfold rfS
  refine Prod.ext (Prod.ext ?_ rfl) rfl
  funext x q
  show (if x = 5 then (if q = k then _ else if x = 3 then _ else if x = 5 then (if q = k then _ else if x = 3 then _ else _) else if x = 3 then _ else _) else if x = 3 then _ else if x = 5 then _ else if x = 3 then _ else _) = if x = 5 then (if q = k then _ else if x = 3 then _ else _) else if x = 3 then _ else _
  by_cases z : x = 5
  · by_cases y : q = k
    · rw [if_pos z, if_pos y, if_pos z, if_pos y]; rfl
    · rw [if_pos z, if_neg y, if_neg (by omega), if_pos z, if_neg y, if_neg (by omega), if_pos z, if_neg y, if_neg (by omega)]
  · by_cases y : x = 3
    · rw [if_neg z, if_pos y, if_neg z, if_pos y]
    · rw [if_neg z, if_neg y, if_neg z, if_neg y, if_neg z, if_neg y]
theorem r_r96 {A : zA} {k q : Nat} {f : List Int32 × List Int32} (hk : k < 10) (hkind : ¬ gM A.1 4 k = 0) (hf : A.2.2[q]? = some f) (hfl : f.2.length ≤ 2000) (hq : q < 12) {p a n : Nat} (hpl : gM A.1 5 k = nI p) (hp : p ≤ 2000) (ha : a + n ≤ 16384) {P : zS → Prop} (hP : oEnd (rdF A k f.2 a n) P) :
    ∀ (m i : Nat) (W : zS), m + i = min n (f.2.length - p) → RS (rfS A k p a i f.2) W → l_M_read_96 (nI (k + 1)) (nI a) (nI n) P (m + 1) W (nI i) (nI q) := by
  have facts : ∀ (i : Nat) (W : zS), RS (rfS A k p a i f.2) W → gM W 9 (k + 1) = nI (p + i) ∧ gM W 4 q = nI f.2.length ∧ ∀ j, j < f.2.length → f.2[j]? = some (gM W 3 (2000 * q + j)) := by
    intro i W hW
    have h9 := ((hW.h k hk).2.1 hkind).1
    unfold rfS at h9
    rw [gM_aM, if_pos rfl, if_pos rfl] at h9
    have ar := (hW.arrs (q := q) (f := f) hf).1
    exact ⟨h9, ar.1, ar.2.2⟩
  intro m
  induction m with
  | zero =>
    intro i W hi hW
    obtain ⟨e9, e4, e3⟩ := facts i W hW
    have hi : min n (f.2.length - p) = i := by omega
    have j161 : j_M_read_161 (nI (k + 1)) (nI a) (nI n) P W (nI i) := by
      unfold rdF at hP
      rw [hpl, un_nI (by omega), take_min, List.length_drop, hi, nI_add] at hP
      unfold j_M_read_161
      rw [pk_sub (by omega)]
      exact r_answer hW _ hP
    unfold l_M_read_96
    rw [nI_clamp (show k + 1 < 2 ^ 31 by omega), nI_clamp (show q < 2 ^ 31 by omega), e9, e4]
    refine ⟨fun _ => j161, fun z => ⟨vp_in_nI (by omega) (by decide), vp_in_nI (by omega) (by decide), fun _ => j161, fun c => absurd ?_ c⟩⟩
    rw [nI_leI (by omega) (by omega)] at z
    exact nI_le (by omega) (by omega)
  | succ m ih =>
    intro i W hi hW
    obtain ⟨e9, e4, e3⟩ := facts i W hW
    have hil : p + i < f.2.length := by omega
    have ea : nI a + nI i = nI (a + i) := nI_add a i
    have ed : (2000 : Int32) * nI q + nI (p + i) = nI (2000 * q + (p + i)) := by rw [show (2000 : Int32) = nI 2000 from rfl, pk_mul, nI_add]
    have ev : gM W 3 (2000 * q + (p + i)) = f.2[p + i] := by
      have := e3 (p + i) hil
      rw [List.getElem?_eq_getElem hil] at this
      exact (Option.some.inj this).symm
    unfold l_M_read_96
    rw [nI_clamp (show k + 1 < 2 ^ 31 by omega), nI_clamp (show q < 2 ^ 31 by omega), e9, e4, clm ea (by omega), clm ed (by omega), ev]
    refine ⟨fun z => ?_, fun _ => ⟨vp_in_nI (by omega) (by decide), vp_in_nI (by omega) (by decide), fun z => ?_, fun _ => ⟨vin (by omega) ed, vin (by omega) ea, ?_⟩⟩⟩
    · rw [nI_leI (by omega) (by omega)] at z
      omega
    · rw [nI_leI (by omega) (by omega)] at z
      omega
    · rintro S5 rfl S6 rfl
      have e9' : gM (sM W 1 (a + i) f.2[p + i]) 9 (k + 1) = nI (p + i) := e9
      rw [e9', nI_1, nI_1]
      have := (hW.mem1 (a + i) f.2[p + i]).place k (nI (p + i + 1))
      rw [rfS_next A k p a hil] at this
      exact ih (i + 1) _ (by omega) this
theorem r_read {A : zA} {T : zS} (h : RS A T) (hI : AI A) (x p n : Int32) {P : zS → Prop} (hP : oEnd (readA A x p n) P) : w_M_read x p n T P := by
  unfold w_M_read
  refine r_isOpen h hI x ?_
  unfold readA at hP
  cases hh : hopen A x with
  | none =>
    rw [hh] at hP
    refine ⟨fun _ => ?_, fun z => absurd rfl z⟩
    unfold j_M_read_19
    exact r_failsWith h _ _ hP
  | some k =>
    rw [hh] at hP
    simp only at hP
    obtain ⟨hk, hkind⟩ := hopen_spec hh
    have ex := hop_un hh
    subst ex
    have e10 : gM T 10 (k + 1) = gM A.1 6 k := ((h.h k hk).2.1 hkind).2
    have e7 := h.kd hk
    rw [nI_clamp (show k + 1 < 2 ^ 31 by omega)]
    refine ⟨fun z => absurd z (show ¬ (1 : Int32) = 0 by decide), fun _ => ⟨vp_in_nI (by omega) (by decide), ?_⟩⟩
    rw [e10]
    refine ⟨fun c => ?_, fun c => r_isArea _ _ ?_⟩
    · rw [if_pos c] at hP
      unfold j_M_read_19
      exact r_failsWith h _ _ hP
    · rw [if_neg c] at hP
      by_cases c2 : un p + un n ≤ 16384
      · rw [if_neg (fun z => z c2)] at hP
        rw [if_pos c2]
        refine ⟨fun z => absurd z (by decide), fun _ => ?_⟩
        rw [e7, kind1 hI hk hkind]
        refine ⟨fun c3 => ?_, fun c3 => ?_⟩
        · obtain ⟨q, f, e1, e2, hq, e8, ar⟩ := h.file hI hk c3
          rw [if_pos c3, contA_eq e1 e2] at hP
          rw [e8]
          rintro v6 rfl
          obtain ⟨pl, hp1, hp2⟩ := hI.2.2.1 k hk hkind
          have e0 : rfS A k pl (un p) 0 f.2 = A := by
            unfold rfS
            rw [List.take_zero, mset_nil, Nat.add_zero, ← hp2]
            have : aMem A (gM A.1 3) = A := by
              refine Prod.ext (Prod.ext ?_ rfl) rfl
              funext a b
              show (if a = 3 then gM A.1 3 b else gM A.1 a b) = gM A.1 a b
              by_cases z : a = 3
              · rw [if_pos z, z]
              · rw [if_neg z]
            rw [this]
            exact aM_self A 5 k
          have := r_r96 hk hkind e2 ar.2.1 hq hp2 hp1 c2 hP (min (un n) (f.2.length - pl)) 0 T (by omega) (by rw [e0]; exact h)
          rw [nI_un, nI_un] at this
          exact ⟨_, this⟩
        · rw [if_neg c3] at hP
          have e0 : rcS A (un p) 0 = A := by
            unfold rcS
            rw [List.take_zero, mset_nil, List.drop_zero]
            refine Prod.ext (Prod.ext ?_ rfl) (Prod.ext ?_ rfl)
            · funext a b
              show (if a = 3 then gM A.1 3 b else gM A.1 a b) = gM A.1 a b
              by_cases z : a = 3
              · rw [if_pos z, z]
              · rw [if_neg z]
            · funext s
              show (if s = 1 then A.2.1 1 else A.2.1 s) = A.2.1 s
              by_cases z : s = 1
              · rw [if_pos z, z]
              · rw [if_neg z]
          have := r_r56 (x := nI (k + 1)) h.i.2.1 c2 hP (min (un n) (A.2.1 1).length) 0 T (by omega) (by rw [e0]; exact h)
          rw [nI_un, nI_un] at this
          exact ⟨_, this⟩
      · rw [if_pos c2] at hP
        rw [if_neg c2]
        exact ⟨fun _ => r_failsWith h _ _ hP, fun z => absurd rfl z⟩
