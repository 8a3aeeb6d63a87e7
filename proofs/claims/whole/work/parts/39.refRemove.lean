/-! the reference: REMOVE and RENAME -/
def shf (k m j : Nat) : Nat := if k ≤ j ∧ j < m then j + 1 else j
/-- the files behind k have come down, up to place m -/
def mvd (k m : Nat) (T0 T : zS) : Prop := (∀ c, ¬ (c = 3 ∨ c = 4 ∨ c = 5 ∨ c = 6) → gM T c = gM T0 c) ∧ T.2 = T0.2 ∧ (∀ j, j < 12 → gM T 4 j = gM T0 4 (shf k m j) ∧ gM T 6 j = gM T0 6 (shf k m j)) ∧ (∀ j i, j < 12 → i < 2000 → gM T 3 (2000 * j + i) = gM T0 3 (2000 * shf k m j + i)) ∧ (∀ j i, j < 12 → i < 24 → gM T 5 (24 * j + i) = gM T0 5 (24 * shf k m j + i))
theorem shf_k (k j : Nat) : shf k k j = j := if_neg (by omega)
theorem mvd.rf (k : Nat) (T : zS) : mvd k k T T := ⟨fun _ _ => rfl, rfl, fun j _ => by rw [shf_k]; exact ⟨rfl, rfl⟩, fun j i _ _ => by rw [shf_k], fun j i _ _ => by rw [shf_k]⟩
theorem rm166 {W0 : zS} {m : Nat} (hm : m + 1 < 12) {a1 a2 x4 : Int32} {P : zS → Prop} {K : zS → Int32 → Int32 → Prop} (hK : ∀ W, cpy 5 (24 * m) (bytesOf (gM W0 5) (24 * (m + 1)) 24) W0 W → K W x4 (nI (m + 1))) : ∀ (k i : Nat) (W : zS), k + i = 24 → cpy 5 (24 * m) (bytesOf (gM W0 5) (24 * (m + 1)) i) W0 W → l_M_remove_166 a1 a2 P K (k + 1) W x4 (nI m) (nI i) := by
  intro k
  induction k with
  | zero =>
    intro i W hi hc
    have hi : i = 24 := by omega
    subst hi
    unfold l_M_remove_166
    rw [nI_1]
    exact ⟨fun _ => hK W hc, fun z => absurd (show (24 : Int32) ≤ nI 24 by decide) z⟩
  | succ k ih =>
    intro i W hi hc
    have l : (24 : Int32) ≤ nI i ↔ 24 ≤ i := nI_leI (by decide) (by omega)
    have ea : (24 : Int32) * nI (m + 1) + nI i = nI (24 * (m + 1) + i) := by rw [show (24 : Int32) = nI 24 from rfl, pk_mul, nI_add]
    have ed : (24 : Int32) * nI m + nI i = nI (24 * m + i) := by rw [show (24 : Int32) = nI 24 from rfl, pk_mul, nI_add]
    have ev : gM W 5 (24 * (m + 1) + i) = gM W0 5 (24 * (m + 1) + i) := by
      rw [hc.2.1, mset_out _ _ _ (Or.inr (by rw [bytesOf_len]; omega))]
    unfold l_M_remove_166
    rw [l, nI_1, clm ea (by omega), clm ed (by omega), ev, nI_1]
    refine ⟨fun z => absurd z (by omega), fun _ => ⟨vin (by omega) ea, vin (by omega) ed, ?_⟩⟩
    rintro S3 rfl
    refine ih (i + 1) _ (by omega) ?_
    rw [bytesOf_succ]
    exact hc.snoc (by rw [bytesOf_len]) _
theorem rm119 {W0 : zS} {m : Nat} (hm : m + 1 < 12) {a1 a2 x4 : Int32} {P : zS → Prop} {K : zS → Int32 → Int32 → Prop} (hK : ∀ W, cpy 3 (2000 * m) (bytesOf (gM W0 3) (2000 * (m + 1)) 2000) W0 W → ∃ n, l_M_remove_166 a1 a2 P K n W x4 (nI m) 0) : ∀ (k i : Nat) (W : zS), k + i = 2000 → cpy 3 (2000 * m) (bytesOf (gM W0 3) (2000 * (m + 1)) i) W0 W → l_M_remove_119 a1 a2 P K (k + 1) W x4 (nI m) (nI i) := by
  intro k
  induction k with
  | zero =>
    intro i W hi hc
    have hi : i = 2000 := by omega
    subst hi
    unfold l_M_remove_119
    exact ⟨fun _ => hK W hc, fun z => absurd (show (2000 : Int32) ≤ nI 2000 by decide) z⟩
  | succ k ih =>
    intro i W hi hc
    have l : (2000 : Int32) ≤ nI i ↔ 2000 ≤ i := nI_leI (by decide) (by omega)
    have ea : (2000 : Int32) * nI (m + 1) + nI i = nI (2000 * (m + 1) + i) := by rw [show (2000 : Int32) = nI 2000 from rfl, pk_mul, nI_add]
    have ed : (2000 : Int32) * nI m + nI i = nI (2000 * m + i) := by rw [show (2000 : Int32) = nI 2000 from rfl, pk_mul, nI_add]
    have ev : gM W 3 (2000 * (m + 1) + i) = gM W0 3 (2000 * (m + 1) + i) := by
      rw [hc.2.1, mset_out _ _ _ (Or.inr (by rw [bytesOf_len]; omega))]
    unfold l_M_remove_119
    rw [l, nI_1, clm ea (by omega), clm ed (by omega), ev, nI_1]
    refine ⟨fun z => absurd z (by omega), fun _ => ⟨vin (by omega) ea, vin (by omega) ed, ?_⟩⟩
    rintro S4 rfl
    refine ih (i + 1) _ (by omega) ?_
    rw [bytesOf_succ]
    exact hc.snoc (by rw [bytesOf_len]) _
theorem mset_bytes (f g : Nat → Int32) (o a n : Nat) {i : Nat} (h : i < n) : mset f o (bytesOf g a n) (o + i) = g (a + i) := by
  have := mset_at f o (bytesOf g a n) (i := i) (by rw [bytesOf_len]; exact h)
  rw [bytesOf_at g a h] at this
  exact (Option.some.inj this).symm
theorem mvd.next {k m : Nat} {T0 T W1 W2 : zS} (h : mvd k m T0 T) (hkm : k ≤ m) (hm : m + 1 < 12) (c1 : cpy 3 (2000 * m) (bytesOf (gM (sM (sM T 4 m (gM T 4 (m + 1))) 6 m (gM T 6 (m + 1))) 3) (2000 * (m + 1)) 2000) (sM (sM T 4 m (gM T 4 (m + 1))) 6 m (gM T 6 (m + 1))) W1) (c2 : cpy 5 (24 * m) (bytesOf (gM W1 5) (24 * (m + 1)) 24) W1 W2) : mvd k (m + 1) T0 W2 := by
  obtain ⟨h1, h2, h3, h4, h5⟩ := h
  have sm : shf k (m + 1) m = m + 1 := if_pos (by omega)
  have sm1 : shf k m (m + 1) = m + 1 := if_neg (by omega)
  have so : ∀ j, j ≠ m → shf k (m + 1) j = shf k m j := fun j hj => by
    unfold shf
    by_cases z : k ≤ j ∧ j < m
    · rw [if_pos z, if_pos (by omega)]
    · rw [if_neg z, if_neg (by omega)]
  refine ⟨fun c hc => ?_, (c2.2.2.trans c1.2.2).trans h2, fun j hj => ?_, fun j i hj hi => ?_, fun j i hj hi => ?_⟩
  · rw [c2.1 c (by omega), c1.1 c (by omega), gM_off _ _ _ (show c ≠ 6 by omega), gM_off _ _ _ (show c ≠ 4 by omega)]
    exact h1 c hc
  · rw [c2.1 4 (by decide), c1.1 4 (by decide), c2.1 6 (by decide), c1.1 6 (by decide)]
    show (if j = m then gM T 4 (m + 1) else gM T 4 j) = _ ∧ (if j = m then gM T 6 (m + 1) else gM T 6 j) = _
    by_cases z : j = m
    · subst z
      rw [if_pos rfl, if_pos rfl, sm]
      have := h3 (j + 1) hm
      rw [sm1] at this
      exact this
    · rw [if_neg z, if_neg z, so j z]
      exact h3 j hj
  · rw [c2.1 3 (by decide), c1.2.1]
    by_cases z : j = m
    · subst z
      rw [mset_bytes _ _ _ _ _ hi, sm]
      have := h4 (j + 1) i hm hi
      rw [sm1] at this
      exact this
    · rw [mset_out _ _ _ (by rw [bytesOf_len]; omega), so j z]
      exact h4 j i hj hi
  · rw [c2.2.1]
    have e5 : ∀ q, gM W1 5 q = gM T 5 q := fun q => by rw [c1.1 5 (by decide)]; rfl
    by_cases z : j = m
    · subst z
      rw [mset_bytes _ _ _ _ _ hi, sm, e5]
      have := h5 (j + 1) i hm hi
      rw [sm1] at this
      exact this
    · rw [mset_out _ _ _ (by rw [bytesOf_len]; omega), so j z, e5]
      exact h5 j i hj hi
theorem rm75 {T0 : zS} {k n : Nat} (hk : k < n) (hn : n ≤ 12) (h14 : gM T0 0 14 = nI (n - 1)) {a1 a2 : Int32} {P : zS → Prop} (hP : ∀ T, mvd k (n - 1) T0 T → ∃ x, l_M_remove_216 a1 a2 P x T (nI k) 1) : ∀ (r m : Nat) (T : zS), r + m = n - 1 → k ≤ m → mvd k m T0 T → l_M_remove_75 a1 a2 P (r + 1) T (nI k) (nI m) := by
  intro r
  induction r with
  | zero =>
    intro m T hm hkm h
    have hm : m = n - 1 := by omega
    unfold l_M_remove_75
    rw [h.1 0 (by omega), h14]
    rw [← hm] at hP ⊢
    exact ⟨fun _ => hP T h, fun z => absurd (nI_le (Nat.le_refl _) (by omega)) z⟩
  | succ r ih =>
    intro m T hm hkm h
    unfold l_M_remove_75
    rw [h.1 0 (by omega), h14, nI_1, nI_clamp (show m < 2 ^ 31 by omega), nI_clamp (show m + 1 < 2 ^ 31 by omega)]
    refine ⟨fun z => ?_, fun _ => ⟨vp_in_nI (by omega) (by decide), vp_in_nI (by omega) (by decide), ?_⟩⟩
    · rw [nI_leI (by omega) (by omega)] at z
      omega
    · rintro S4 rfl S5 rfl
      have e6 : gM (sM T 4 m (gM T 4 (m + 1))) 6 (m + 1) = gM T 6 (m + 1) := rfl
      rw [e6]
      refine ⟨_, rm119 (by omega) (fun W1 c1 => ⟨_, rm166 (by omega) (fun W2 c2 => ?_) 24 0 W1 rfl (by unfold bytesOf; exact cpy.nil 5 _ _)⟩) 2000 0 _ rfl (by unfold bytesOf; exact cpy.nil 3 _ _)⟩
      exact ih (m + 1) W2 (by omega) (by omega) (h.next hkm (by omega) c1 c2)
/-- the handles' files have come down, for the first i -/
def hmv (A : zA) (k i : Nat) (T1 T : zS) : Prop := (∀ c, c ≠ 8 → gM T c = gM T1 c) ∧ T.2 = T1.2 ∧ ∀ h, h < 10 → (h < i → gM A.1 4 h = 1 → ∀ q, gH A.1 h = some q → gM T 8 (h + 1) = nI (if k < q then q - 1 else q)) ∧ (i ≤ h → gM T 8 (h + 1) = gM T1 8 (h + 1))
theorem rm216 {A : zA} {T1 : zS} (hh : RRh A (gM T1 7) (gM T1 8) (gM T1 9) (gM T1 10)) (hI : AI A) (hl : A.2.2.length ≤ 12) {k : Nat} (hk : k < 12) {a1 a2 : Int32} {P : zS → Prop} (hP : ∀ T, hmv A k 10 T1 T → w_M_answer 0 T P) : ∀ (r i : Nat) (T : zS), r + i = 10 → hmv A k i T1 T → l_M_remove_216 a1 a2 P (r + 1) T (nI k) (nI (i + 1)) := by
  intro r
  induction r with
  | zero =>
    intro i T hi h
    have hi : i = 10 := by omega
    subst hi
    unfold l_M_remove_216
    exact ⟨fun _ => hP T h, fun z => absurd (show (10 : Int32) < nI (10 + 1) by decide) z⟩
  | succ r ih =>
    intro i T hi h
    obtain ⟨h1, h2, h3⟩ := h
    obtain ⟨k1, k2, k3⟩ := hh i (by omega)
    have l10 : (10 : Int32) < nI (i + 1) ↔ 10 < i + 1 := nI_ltI (by decide) (by omega)
    have e7 : gM T 7 (i + 1) = gM A.1 4 i := by rw [h1 7 (by decide)]; exact k1
    have e8 : gM T 8 (i + 1) = gM T1 8 (i + 1) := (h3 i (by omega)).2 (Nat.le_refl _)
    unfold l_M_remove_216 j_M_remove_257
    rw [l10, nI_clamp (show i + 1 < 2 ^ 31 by omega), e7, e8, nI_1]
    refine ⟨fun z => absurd z (by omega), fun _ => ⟨vp_in_nI (by omega) (by decide), fun c => ?_, fun c => ?_⟩⟩
    · obtain ⟨q, q1, q2⟩ := k3 c
      obtain ⟨q', q3, q4⟩ := hI.1 i (by omega) c
      have eq : q' = q := by rw [q1] at q3; exact (Option.some.inj q3).symm
      rw [q2, nI_leI (by omega) (by omega)]
      refine ⟨fun z => ih (i + 1) T (by omega) ⟨h1, h2, fun g hg => ⟨fun a b p hp => ?_, fun a => (h3 g hg).2 (by omega)⟩⟩, fun z => ?_⟩
      · by_cases e : g = i
        · subst e
          have : p = q := by rw [q1] at hp; exact (Option.some.inj hp).symm
          subst this
          rw [e8, q2, if_neg (by omega)]
        · exact (h3 g hg).1 (by omega) b p hp
      · rintro S3 rfl
        refine ih (i + 1) _ (by omega) ⟨fun c' hc => (gM_off _ _ _ hc).trans (h1 c' hc), h2, fun g hg => ⟨fun a b p hp => ?_, fun a => ?_⟩⟩
        · show (if g + 1 = i + 1 then _ else gM T 8 (g + 1)) = _
          by_cases e : g = i
          · subst e
            have : p = q := by rw [q1] at hp; exact (Option.some.inj hp).symm
            subst this
            rw [if_pos rfl, if_pos (by omega), show (1 : Int32) = nI 1 from rfl, pk_sub (by omega)]
          · rw [if_neg (by omega)]
            exact (h3 g hg).1 (by omega) b p hp
        · show (if g + 1 = i + 1 then _ else gM T 8 (g + 1)) = _
          rw [if_neg (by omega)]
          exact (h3 g hg).2 (by omega)
    · refine ih (i + 1) T (by omega) ⟨h1, h2, fun g hg => ⟨fun a b p hp => ?_, fun a => (h3 g hg).2 (by omega)⟩⟩
      by_cases e : g = i
      · subst e; exact absurd b c
      · exact (h3 g hg).1 (by omega) b p hp
theorem RR.rem {A : zA} {T T1 T2 : zS} (h : RR A T) (hI : AI A) {k : Nat} (hk : k < A.2.2.length) (m : mvd k (A.2.2.length - 1) (sM T 0 14 (nI (A.2.2.length - 1))) T1) (v : hmv A k 10 T1 T2) : RR (aRemove A k) T2 := by
  obtain ⟨m1, m2, m3, m4, m5⟩ := m
  obtain ⟨v1, v2, v3⟩ := v
  obtain ⟨f1, f2, f3⟩ := h.f
  have e : ∀ c, ¬ (c = 0 ∨ c = 3 ∨ c = 4 ∨ c = 5 ∨ c = 6 ∨ c = 8) → gM T2 c = gM T c := fun c hc => by
    rw [v1 c (by omega), m1 c (by omega), gM_off _ _ _ (show c ≠ 0 by omega)]
  have e0 : gM T2 0 = gM (sM T 0 14 (nI (A.2.2.length - 1))) 0 := by rw [v1 0 (by decide), m1 0 (by omega)]
  refine ⟨?_, ?_, ?_, ?_, ?_, ?_, ?_, ⟨?_, ?_, fun j f hf => ?_⟩, fun i hi => ?_, ?_⟩
  · rw [e0]; exact h.s
  · rw [e 2 (by omega)]; exact h.x
  · rw [e 1 (by omega)]; exact h.m
  · rw [e 12 (by omega), e 13 (by omega), e 14 (by omega)]; exact h.p
  · rw [e0, e 16 (by omega)]; exact h.t
  · rw [e0, e 11 (by omega)]; exact h.i
  · rw [e0, e 15 (by omega)]; exact h.c
  · rw [e0]
    show nI (A.2.2.length - 1) = nI (A.2.2.eraseIdx k).length
    rw [List.length_eraseIdx, if_pos hk]
  · show (A.2.2.eraseIdx k).length ≤ 12
    rw [List.length_eraseIdx, if_pos hk]; omega
  · have hf : (A.2.2.eraseIdx k)[j]? = some f := hf
    have hj := (List.getElem?_eq_some_iff.mp hf).1
    rw [List.length_eraseIdx, if_pos hk] at hj
    have hs : A.2.2[shf k (A.2.2.length - 1) j]? = some f := by
      rw [List.getElem?_eraseIdx] at hf
      unfold shf
      by_cases z : j < k
      · rw [if_pos z] at hf
        rw [if_neg (by omega)]; exact hf
      · rw [if_neg z] at hf
        rw [if_pos (by omega)]; exact hf
    obtain ⟨⟨g1, g2, g3⟩, g4, g5, g6⟩ := f3 _ _ hs
    rw [v1 3 (by decide), v1 4 (by decide), v1 5 (by decide), v1 6 (by decide), (m3 j (by omega)).1, (m3 j (by omega)).2]
    refine ⟨⟨g1, g2, fun i hi => ?_⟩, g4, g5, fun i hi => ?_⟩
    · show _ = some (gM T1 3 (2000 * j + i))
      rw [m4 j i (by omega) (by omega)]; exact g3 i hi
    · show _ = some (gM T1 5 (24 * j + i))
      rw [m5 j i (by omega) (by omega)]; exact g6 i hi
  · obtain ⟨k1, k2, k3⟩ := h.h i hi
    rw [e 7 (by omega), e 9 (by omega), e 10 (by omega)]
    refine ⟨k1, k2, fun z => ?_⟩
    have z : gM A.1 4 i = 1 := z
    obtain ⟨q, q1, q2⟩ := k3 z
    refine ⟨if k < q then q - 1 else q, ?_, (v3 i hi).1 hi z q q1⟩
    show (gH A.1 i).map _ = _
    rw [q1]; rfl
  · exact ((gJ_of (off2 v2)).trans (gJ_of (off2 m2))).trans h.j
theorem r_rmall {A : zA} {T : zS} (h : RS A T) (hI : AI A) {k : Nat} (hk : k < A.2.2.length) {a1 a2 : Int32} {P : zS → Prop} (hP : oEnd (aRemove A k, 0) P) : j_M_remove_51 a1 a2 P T 0 (nI k) := by
  have hl := h.f.2.1
  unfold j_M_remove_51
  refine ⟨fun _ => ?_, fun z => absurd (show (0 : Int32) ≤ 0 by decide) z⟩
  rw [h.f.1, show (1 : Int32) = nI 1 from rfl, pk_sub (by omega)]
  rintro S1 rfl
  refine ⟨_, rm75 hk hl rfl (fun T1 m => ?_) (A.2.2.length - 1 - k) k _ (by omega) (Nat.le_refl _) (mvd.rf k _)⟩
  have hh : RRh A (gM T1 7) (gM T1 8) (gM T1 9) (gM T1 10) := by
    rw [m.1 7 (by omega), m.1 8 (by omega), m.1 9 (by omega), m.1 10 (by omega)]; exact h.h
  refine ⟨_, rm216 hh hI hl (by omega) (fun T2 v => ?_) 10 0 T1 rfl ⟨fun _ _ => rfl, rfl, fun g hg => ⟨fun a => absurd a (by omega), fun _ => rfl⟩⟩⟩
  exact r_answer (And.intro (h.1.rem hI hk m v) (by rw [v.1 0 (by decide), m.1 0 (by omega)]; exact h.2)) 0 hP
theorem r_remove {A : zA} {T : zS} (h : RS A T) (hI : AI A) (p n : Int32) {P : zS → Prop} (hP : oEnd (removeA A p n) P) : w_M_remove p n T P := by
  have hl := h.f.2.1
  unfold w_M_remove
  unfold removeA at hP
  have j35 : ∀ (e : Nat) (x : Int32), 0 < e → e < 128 → oEnd (failA A (nI e)) P → j_M_remove_35 p n P T (nI e) x := by
    intro e x h0 h1 hE
    have ne : ¬ nI e = 0 := nI_ne0 h0 (by omega)
    have nle : ¬ nI e ≤ 0 := by rw [← nI_0, nI_leI (by omega) (by decide)]; omega
    unfold j_M_remove_35 j_M_remove_51
    exact ⟨fun z => absurd z ne, fun _ => ⟨fun z => absurd z nle, fun _ => r_fails h _ hE⟩⟩
  refine r_nameFault h p n ?_
  by_cases cf : faultA (gM A.1 3) p n = 0
  · rw [if_neg (fun z => z cf)] at hP
    obtain ⟨n1, n2, n3, n4⟩ := faultA_len cf
    rw [cf]
    refine ⟨fun _ => ?_, fun z => absurd rfl z⟩
    have := r_find h n3 n2 (P := fun S3 r4 => j_M_remove_21 p n P S3 0 r4) ?_
    · rw [nI_un, nI_un] at this
      exact this
    unfold j_M_remove_21
    refine ⟨fun _ => ?_, fun z => absurd rfl z⟩
    cases hf : findA A (bytesOf (gM A.1 3) (un p) (un n)) with
    | none =>
      rw [hf] at hP
      exact ⟨fun _ => j35 2 _ (by decide) (by decide) hP, fun z => absurd rfl z⟩
    | some k =>
      rw [hf] at hP
      simp only at hP
      have hk := findA_lt hf
      have ne : ¬ nI k = (-1 : Int32) := fun z => nI_pos (n := k) (by omega) (by rw [z]; decide)
      refine ⟨fun z => absurd z ne, fun _ => ?_⟩
      unfold j_M_remove_35
      refine ⟨fun _ => r_openOf h.1 (by omega) ?_ hl hI, fun z => absurd rfl z⟩
      have l0 : nI (openA A k 10) ≤ (0 : Int32) ↔ openA A k 10 = 0 := by
        have := openA_le A k 10
        rw [← nI_0, nI_leI (by omega) (by decide)]; omega
      rw [l0]
      refine ⟨fun c => ?_, fun c => ?_⟩
      · rw [if_pos c] at hP
        exact r_rmall h hI hk hP
      · rw [if_neg c] at hP
        unfold j_M_remove_51
        exact ⟨fun z => absurd z (by decide), fun _ => r_fails h _ hP⟩
  · rw [if_pos cf] at hP
    have ne : ¬ nI (faultA (gM A.1 3) p n) = 0 := nI_ne0 (by omega) (by have := faultA_lt (gM A.1 3) p n; omega)
    refine ⟨fun z => absurd z ne, fun _ => ?_⟩
    unfold j_M_remove_21
    exact ⟨fun z => absurd z ne, fun _ => j35 _ _ (by omega) (faultA_lt _ _ _) hP⟩
theorem RR.fnam {A : zA} {T W : zS} (h : RR A T) {q : Nat} {f : List Int32 × List Int32} (hf : A.2.2[q]? = some f) {nm : List Int32} (hn : nm.length ≤ 24) (c : cpy 5 (24 * q) nm (sM T 6 q (nI nm.length)) W) : RR (aFiles A (A.2.2.set q (nm, f.2))) W := by
  have e := c.1
  refine h.fchg hf (fun c' hc => ?_) ?_ c.j (fun k hk => ?_) (fun k hk => ?_) (fun k i hk hi => ?_) (fun k i hk hi => ?_) ?_ ?_
  · rw [e c' (by omega), gM_off _ _ _ (show c' ≠ 6 by omega)]
  · rw [e 0 (by decide)]; rfl
  · rw [e 4 (by decide)]; rfl
  · rw [e 6 (by decide)]
    show (if k = q then _ else _) = _
    rw [if_neg hk]; rfl
  · rw [e 3 (by decide)]; rfl
  · rw [c.2.1, mset_out _ _ _ (by omega)]; rfl
  · rw [e 4 (by decide), e 3 (by decide)]; exact (h.arrs hf).1
  · rw [e 6 (by decide)]
    refine ⟨?_, hn, fun i hi => ?_⟩
    · show (if q = q then _ else _) = _
      rw [if_pos rfl]
    · show _ = some (gM W 5 (24 * q + i))
      rw [c.2.1]
      exact mset_at _ _ _ hi
theorem r_rn111 {A : zA} {T : zS} (h : RS A T) {k : Nat} {f : List Int32 × List Int32} (hf : A.2.2[k]? = some f) {a1 a2 : Int32} {a n : Nat} (ha : a + n ≤ 16384) (hn : n ≤ 24) {P : zS → Prop} (hP : oEnd (aFiles A (A.2.2.set k (bytesOf (gM A.1 3) a n, f.2)), 0) P) : j_M_rename_111 a1 a2 (nI a) (nI n) P T 0 (nI k) := by
  have hl := h.f.2.1
  have hk := (List.getElem?_eq_some_iff.mp hf).1
  unfold j_M_rename_111
  rw [nI_clamp (show k < 2 ^ 31 by omega)]
  refine ⟨fun _ => ⟨vp_in_nI (by omega) (by decide), ?_⟩, fun z => absurd (show (0 : Int32) ≤ 0 by decide) z⟩
  rintro S2 rfl
  have hlen : (bytesOf (gM A.1 3) a n).length = n := bytesOf_len _ _ _
  have loop : ∀ (r j : Nat) (W : zS), r + j = n → cpy 5 (24 * k) ((bytesOf (gM A.1 3) a n).take j) (sM T 6 k (nI n)) W → l_M_rename_135 a1 a2 (nI a) (nI n) P (r + 1) W (nI k) (nI j) := by
    intro r
    induction r with
    | zero =>
      intro j W hj hc
      have hj : j = n := by omega
      subst hj
      unfold l_M_rename_135
      refine ⟨fun _ => ?_, fun z => absurd (nI_le (Nat.le_refl _) (by omega)) z⟩
      rw [show (bytesOf (gM A.1 3) a j).take j = bytesOf (gM A.1 3) a j from List.take_of_length_le (by omega)] at hc
      have h1 := h.1.fnam (nm := bytesOf (gM A.1 3) a j) hf (by omega) (by rw [hlen]; exact hc)
      exact r_answer (And.intro h1 (by rw [hc.1 0 (by decide)]; exact h.2)) 0 hP
    | succ r ih =>
      intro j W hj hc
      have hjl : j < (bytesOf (gM A.1 3) a n).length := by omega
      have ea : nI a + nI j = nI (a + j) := nI_add a j
      have ed : (24 : Int32) * nI k + nI j = nI (24 * k + j) := by rw [show (24 : Int32) = nI 24 from rfl, pk_mul, nI_add]
      have e1 : gM W 1 (a + j) = (bytesOf (gM A.1 3) a n)[j] := by
        rw [hc.1 1 (by decide), bytesOf_is]
        exact h.m _ (by omega)
      unfold l_M_rename_135
      rw [clm ea (by omega), clm ed (by omega), e1]
      refine ⟨fun z => ?_, fun _ => ⟨vin (by omega) ea, vin (by omega) ed, ?_⟩⟩
      · rw [nI_leI (by omega) (by omega)] at z
        omega
      · rintro S3 rfl
        rw [nI_1]
        refine ih (j + 1) _ (by omega) ?_
        rw [tk hjl]
        exact hc.snoc (by rw [lenT (by omega)]) _
  exact ⟨_, loop n 0 _ (by omega) (by rw [List.take_zero]; exact cpy.nil 5 _ _)⟩
theorem r_rename {A : zA} {T : zS} (h : RS A T) (hI : AI A) (p n to m : Int32) {P : zS → Prop} (hP : oEnd (renameA A p n to m) P) : w_M_rename p n to m T P := by
  have hl := h.f.2.1
  unfold w_M_rename
  unfold renameA at hP
  have j111 : ∀ (e : Nat) (x : Int32), 0 < e → e < 128 → oEnd (failA A (nI e)) P → j_M_rename_111 p n to m P T (nI e) x := by
    intro e x h0 h1 hE
    have nle : ¬ nI e ≤ 0 := by rw [← nI_0, nI_leI (by omega) (by decide)]; omega
    unfold j_M_rename_111
    exact ⟨fun z => absurd z nle, fun _ => r_fails h _ hE⟩
  have j71 : ∀ (e : Nat) (x : Int32), 0 < e → e < 128 → oEnd (failA A (nI e)) P → j_M_rename_71 p n to m P T (nI e) x := by
    intro e x h0 h1 hE
    have ne : ¬ nI e = 0 := nI_ne0 h0 (by omega)
    unfold j_M_rename_71 j_M_rename_87
    exact ⟨fun z => absurd z ne, fun _ => ⟨fun z => absurd z ne, fun _ => j111 e x h0 h1 hE⟩⟩
  have j53 : ∀ (e : Nat) (x : Int32), 0 < e → e < 128 → oEnd (failA A (nI e)) P → j_M_rename_53 p n to m P T (nI e) x := by
    intro e x h0 h1 hE
    have ne : ¬ nI e = 0 := nI_ne0 h0 (by omega)
    unfold j_M_rename_53
    exact ⟨fun z => absurd z ne, fun _ => j71 e x h0 h1 hE⟩
  have j22 : ∀ (e : Nat), 0 < e → e < 128 → oEnd (failA A (nI e)) P → j_M_rename_22 p n to m P T (nI e) := by
    intro e h0 h1 hE
    have ne : ¬ nI e = 0 := nI_ne0 h0 (by omega)
    unfold j_M_rename_22 j_M_rename_37
    exact ⟨fun z => absurd z ne, fun _ => ⟨fun z => absurd z ne, fun _ => j53 e _ h0 h1 hE⟩⟩
  refine r_nameFault h p n ?_
  by_cases cf : faultA (gM A.1 3) p n = 0
  · rw [if_neg (fun z => z cf)] at hP
    obtain ⟨n1, n2, n3, n4⟩ := faultA_len cf
    rw [cf]
    refine ⟨fun _ => r_nameFault h to m ?_, fun z => absurd rfl z⟩
    by_cases cg : faultA (gM A.1 3) to m = 0
    · rw [if_neg (fun z => z cg)] at hP
      obtain ⟨m1, m2, m3, m4⟩ := faultA_len cg
      rw [cg]
      unfold j_M_rename_22
      refine ⟨fun _ => ?_, fun z => absurd rfl z⟩
      have := r_find h n3 n2 (P := fun S3 r4 => j_M_rename_37 p n to m P S3 0 r4) ?_
      · rw [nI_un, nI_un] at this
        exact this
      unfold j_M_rename_37
      refine ⟨fun _ => ?_, fun z => absurd rfl z⟩
      cases hf : findA A (bytesOf (gM A.1 3) (un p) (un n)) with
      | none =>
        rw [hf] at hP
        exact ⟨fun _ => j53 2 _ (by decide) (by decide) hP, fun z => absurd rfl z⟩
      | some k =>
        rw [hf] at hP
        simp only at hP
        have hk := findA_lt hf
        obtain ⟨f, hfk, hfn⟩ := findA_name hf
        have ne : ¬ nI k = (-1 : Int32) := fun z => nI_pos (n := k) (by omega) (by rw [z]; decide)
        refine ⟨fun z => absurd z ne, fun _ => ?_⟩
        unfold j_M_rename_53
        refine ⟨fun _ => r_openOf h.1 (by omega) ?_ hl hI, fun z => absurd rfl z⟩
        have l0 : nI (openA A k 10) ≤ (0 : Int32) ↔ openA A k 10 = 0 := by
          have := openA_le A k 10
          rw [← nI_0, nI_leI (by omega) (by decide)]; omega
        rw [l0]
        refine ⟨fun c => ?_, fun c => ?_⟩
        · rw [if_neg (fun z => z c)] at hP
          unfold j_M_rename_71
          refine ⟨fun _ => ?_, fun z => absurd rfl z⟩
          have := r_find h m3 m2 (P := fun S1 r2 => j_M_rename_87 p n to m P S1 0 (nI k) r2) ?_
          · rw [nI_un, nI_un] at this
            exact this
          unfold j_M_rename_87
          refine ⟨fun _ => ?_, fun z => absurd rfl z⟩
          have good : oEnd (aFiles A (A.2.2.set k (bytesOf (gM A.1 3) (un to) (un m), f.2)), 0) P → j_M_rename_111 p n to m P T 0 (nI k) := by
            intro hE
            have := r_rn111 (a1 := p) (a2 := n) h hfk m3 m2 hE
            rw [nI_un, nI_un] at this
            exact this
          cases hg : findA A (bytesOf (gM A.1 3) (un to) (un m)) with
          | none =>
            rw [hg, if_pos (Or.inl rfl)] at hP
            simp only [hfk] at hP
            exact ⟨fun _ => good hP, fun z => absurd rfl z⟩
          | some j =>
            have hj := findA_lt hg
            rw [hg] at hP
            have nej : ¬ nI j = (-1 : Int32) := fun z => nI_pos (n := j) (by omega) (by rw [z]; decide)
            refine ⟨fun z => absurd z nej, fun _ => ?_⟩
            show (nI j = nI k → _) ∧ (¬ nI j = nI k → _)
            rw [nI_eq (by omega) (by omega)]
            refine ⟨fun z => ?_, fun z => ?_⟩
            · rw [z, if_pos (Or.inr rfl)] at hP
              simp only [hfk] at hP
              exact good hP
            · rw [if_neg (fun w => by
                rcases w with w | w
                · cases w
                · exact z (Option.some.inj w))] at hP
              exact j111 17 _ (by decide) (by decide) hP
        · rw [if_pos c] at hP
          exact j71 16 _ (by decide) (by decide) hP
    · rw [if_pos cg] at hP
      exact j22 _ (by omega) (faultA_lt _ _ _) hP
  · rw [if_pos cf] at hP
    have ne : ¬ nI (faultA (gM A.1 3) p n) = 0 := nI_ne0 (by omega) (by have := faultA_lt (gM A.1 3) p n; omega)
    exact ⟨fun z => absurd z ne, fun _ => j22 _ (by omega) (faultA_lt _ _ _) hP⟩
