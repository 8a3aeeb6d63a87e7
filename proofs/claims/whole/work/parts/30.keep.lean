/-! what always holds is kept by every call -/
def AIh (A : zA) : Prop := (∀ h, h < 10 → gM A.1 4 h = 1 → ∃ q, gH A.1 h = some q ∧ q < A.2.2.length) ∧ (∀ h, h < 10 → ∃ k, k ≤ 4 ∧ gM A.1 4 h = nI k) ∧ (∀ h, h < 10 → gM A.1 4 h ≠ 0 → ∃ p, p ≤ 2000 ∧ gM A.1 5 h = nI p) ∧
  (∀ h, h < 10 → (gM A.1 4 h = 1 → gM A.1 6 h = 1 ∨ gM A.1 6 h = 2 ∨ gM A.1 6 h = 3 ∨ gM A.1 6 h = 6 ∨ gM A.1 6 h = 7) ∧ (gM A.1 4 h = 2 → gM A.1 6 h = 1) ∧ (gM A.1 4 h = 3 ∨ gM A.1 4 h = 4 → gM A.1 6 h = 2))
def AIf (fs : List (List Int32 × List Int32)) : Prop := (∀ (k q : Nat) (f g : List Int32 × List Int32), fs[k]? = some f → fs[q]? = some g → f.1 = g.1 → k = q) ∧ (∀ f ∈ fs, 1 ≤ f.1.length ∧ f.1.length ≤ 24 ∧ ¬ (0 : Int32) ∈ f.1 ∧ f.2.length ≤ 2000)
def AIs (A : zA) : Prop := gM A.1 2 0 = 0 ∧ (∃ s, s ≤ 2 ∧ gM A.1 0 2 = nI s) ∧ (¬ gM A.1 0 2 = 2 → gM A.1 0 3 = 0) ∧ (¬ gM A.1 0 2 = 1 → gM A.1 0 4 = 0)
theorem AI.h {A : zA} (h : AI A) : AIh A := ⟨h.1, h.2.1, h.2.2.1, h.2.2.2.1⟩
theorem AI.f {A : zA} (h : AI A) : AIf A.2.2 := ⟨h.2.2.2.2.1, h.2.2.2.2.2.1⟩
theorem AI.s {A : zA} (h : AI A) : AIs A := h.2.2.2.2.2.2
theorem AI.mk3 {A : zA} (h : AIh A) (f : AIf A.2.2) (s : AIs A) : AI A := ⟨h.1, h.2.1, h.2.2.1, h.2.2.2, f.1, f.2, s⟩
/-- a file's bytes change -/
theorem AIf.cont {fs : List (List Int32 × List Int32)} (h : AIf fs) {k : Nat} {f : List Int32 × List Int32} (hk : fs[k]? = some f) {c : List Int32} (hc : c.length ≤ 2000) : AIf (fs.set k (f.1, c)) := by
  have hl := (List.getElem?_eq_some_iff.mp hk).1
  have nm : ∀ (q : Nat) (g : List Int32 × List Int32), (fs.set k (f.1, c))[q]? = some g → ∃ g', fs[q]? = some g' ∧ g'.1 = g.1 := by
    intro q g hg
    by_cases e : k = q
    · subst e
      rw [List.getElem?_set_self hl] at hg
      exact ⟨f, hk, by rw [← Option.some.inj hg]⟩
    · rw [List.getElem?_set_ne e] at hg
      exact ⟨g, hg, rfl⟩
  refine ⟨fun a b x y ha hb e => ?_, fun g hg => ?_⟩
  · obtain ⟨x', hx1, hx2⟩ := nm a x ha
    obtain ⟨y', hy1, hy2⟩ := nm b y hb
    exact h.1 a b x' y' hx1 hy1 (by rw [hx2, hy2, e])
  · rcases List.mem_or_eq_of_mem_set hg with z | z
    · exact h.2 g z
    · have := h.2 f (List.mem_of_getElem? hk)
      rw [z]
      exact ⟨this.1, this.2.1, this.2.2.1, hc⟩
theorem findA_none {A : zA} {m : List Int32} (e : findA A m = none) : ∀ (k : Nat) (f : List Int32 × List Int32), A.2.2[k]? = some f → ¬ f.1 = m := by
  intro k f hf z
  unfold findA at e
  rw [List.findIdx?_eq_none_iff] at e
  have := e f (List.mem_of_getElem? hf)
  rw [z] at this
  simp at this
theorem findA_first {A : zA} {m : List Int32} {k : Nat} (e : findA A m = some k) : ∀ (j : Nat) (f : List Int32 × List Int32), A.2.2[j]? = some f → AIf A.2.2 → f.1 = m → j = k := by
  intro j f hf hI hm
  obtain ⟨g, hg1, hg2⟩ := findA_name e
  exact hI.1 j k f g hf hg1 (by rw [hm, hg2])
/-- a file comes -/
theorem AIf.add {A : zA} (h : AIf A.2.2) {nm c : List Int32} (hf : findA A nm = none) (h1 : 1 ≤ nm.length) (h2 : nm.length ≤ 24) (h3 : ¬ (0 : Int32) ∈ nm) (hc : c.length ≤ 2000) : AIf (A.2.2 ++ [(nm, c)]) := by
  have key : ∀ (q : Nat) (g : List Int32 × List Int32), (A.2.2 ++ [(nm, c)])[q]? = some g → (A.2.2[q]? = some g ∧ ¬ g.1 = nm) ∨ (q = A.2.2.length ∧ g = (nm, c)) := by
    intro q g hg
    by_cases e : q < A.2.2.length
    · rw [List.getElem?_append_left e] at hg
      exact Or.inl ⟨hg, findA_none hf q g hg⟩
    · rw [List.getElem?_append_right (by omega)] at hg
      have hq : q - A.2.2.length < 1 := (List.getElem?_eq_some_iff.mp hg).1
      have e0 : q - A.2.2.length = 0 := by omega
      rw [e0] at hg
      exact Or.inr ⟨by omega, (Option.some.inj hg).symm⟩
  refine ⟨fun a b x y ha hb e => ?_, fun g hg => ?_⟩
  · rcases key a x ha with ⟨a1, a2⟩ | ⟨a1, a2⟩ <;> rcases key b y hb with ⟨b1, b2⟩ | ⟨b1, b2⟩
    · exact h.1 a b x y a1 b1 e
    · exact absurd (by rw [e, b2]) a2
    · exact absurd (by rw [← e, a2]) b2
    · omega
  · rw [List.mem_append, List.mem_singleton] at hg
    rcases hg with z | z
    · exact h.2 g z
    · rw [z]; exact ⟨h1, h2, h3, hc⟩
/-- a file gets another name -/
theorem AIf.ren {A : zA} (h : AIf A.2.2) {k : Nat} {f : List Int32 × List Int32} (hk : A.2.2[k]? = some f) {nm : List Int32} (hf : findA A nm = none ∨ findA A nm = some k) (h1 : 1 ≤ nm.length) (h2 : nm.length ≤ 24) (h3 : ¬ (0 : Int32) ∈ nm) : AIf (A.2.2.set k (nm, f.2)) := by
  have hl := (List.getElem?_eq_some_iff.mp hk).1
  have key : ∀ (q : Nat) (g : List Int32 × List Int32), (A.2.2.set k (nm, f.2))[q]? = some g → (q ≠ k ∧ A.2.2[q]? = some g ∧ ¬ g.1 = nm) ∨ (q = k ∧ g = (nm, f.2)) := by
    intro q g hg
    by_cases e : k = q
    · subst e
      rw [List.getElem?_set_self hl] at hg
      exact Or.inr ⟨rfl, (Option.some.inj hg).symm⟩
    · rw [List.getElem?_set_ne e] at hg
      refine Or.inl ⟨fun z => e z.symm, hg, fun z => ?_⟩
      rcases hf with w | w
      · exact findA_none w q g hg z
      · exact e (findA_first w q g hg h z).symm
  refine ⟨fun a b x y ha hb e => ?_, fun g hg => ?_⟩
  · rcases key a x ha with ⟨a0, a1, a2⟩ | ⟨a1, a2⟩ <;> rcases key b y hb with ⟨b0, b1, b2⟩ | ⟨b1, b2⟩
    · exact h.1 a b x y a1 b1 e
    · exact absurd (by rw [e, b2]) a2
    · exact absurd (by rw [← e, a2]) b2
    · omega
  · rcases List.mem_or_eq_of_mem_set hg with z | z
    · exact h.2 g z
    · have := h.2 f (List.mem_of_getElem? hk)
      rw [z]
      exact ⟨h1, h2, h3, this.2.2.2⟩
theorem AIf.gone {fs : List (List Int32 × List Int32)} (h : AIf fs) (k : Nat) : AIf (fs.eraseIdx k) := by
  have key : ∀ (q : Nat) (g : List Int32 × List Int32), (fs.eraseIdx k)[q]? = some g → fs[if q < k then q else q + 1]? = some g := by
    intro q g hg
    by_cases e : q < k
    · rw [List.getElem?_eraseIdx_of_lt e] at hg; rw [if_pos e]; exact hg
    · rw [List.getElem?_eraseIdx_of_ge (by omega)] at hg; rw [if_neg e]; exact hg
  refine ⟨fun a b x y ha hb e => ?_, fun g hg => h.2 g (List.mem_of_mem_eraseIdx hg)⟩
  have := h.1 _ _ x y (key a x ha) (key b y hb) e
  by_cases c1 : a < k <;> by_cases c2 : b < k
  · rw [if_pos c1, if_pos c2] at this; exact this
  · rw [if_pos c1, if_neg c2] at this; omega
  · rw [if_neg c1, if_pos c2] at this; omega
  · rw [if_neg c1, if_neg c2] at this; omega
/-- files change, no fewer than before -/
theorem AI.files {A : zA} (h : AI A) {fs : List (List Int32 × List Int32)} (hf : AIf fs) (hl : A.2.2.length ≤ fs.length) : AI (aFiles A fs) := by
  refine AI.mk3 ⟨fun i hi c => ?_, h.h.2.1, h.h.2.2.1, h.h.2.2.2⟩ hf h.s
  obtain ⟨q, e, hq⟩ := h.1 i hi c
  exact ⟨q, e, Nat.lt_of_lt_of_le hq hl⟩
theorem AI.place {A : zA} (h : AI A) {k p : Nat} (hp : p ≤ 2000) : AI (aM A 5 k (nI p)) := by
  refine AI.mk3 ⟨h.h.1, h.h.2.1, fun i hi c => ?_, h.h.2.2.2⟩ h.f h.s
  rw [gM_aM, if_pos rfl]
  by_cases e : i = k
  · rw [if_pos e]; exact ⟨p, hp, rfl⟩
  · rw [if_neg e]; exact h.h.2.2.1 i hi c
theorem AI.opn {A : zA} (h : AI A) {i : Nat} {kd rt : Int32} {its : Option Nat} (hk : ∃ k, k ≤ 4 ∧ kd = nI k) (h1 : kd = 1 → ∃ q, its = some q ∧ q < A.2.2.length) (hr : (kd = 1 → rt = 1 ∨ rt = 2 ∨ rt = 3 ∨ rt = 6 ∨ rt = 7) ∧ (kd = 2 → rt = 1) ∧ (kd = 3 ∨ kd = 4 → rt = 2)) : AI (aOpen A i kd its 0 rt) := by
  refine AI.mk3 ⟨fun j hj c => ?_, fun j hj => ?_, fun j hj c => ?_, fun j hj => ?_⟩ h.f ?_
  · rw [gM_aOpen] at c
    rw [gH_aOpen]
    by_cases e : j = i
    · subst e
      simp at c
      rw [if_pos rfl]; exact h1 c
    · rw [if_neg e] at c
      rw [if_neg e]; exact h.h.1 j hj c
  · rw [gM_aOpen]
    by_cases e : j = i
    · subst e; simp; exact hk
    · rw [if_neg e]; exact h.h.2.1 j hj
  · rw [gM_aOpen] at c
    rw [gM_aOpen]
    by_cases e : j = i
    · subst e
      exact ⟨0, by decide, by simp; rfl⟩
    · rw [if_neg e] at c
      rw [if_neg e]; exact h.h.2.2.1 j hj c
  · rw [gM_aOpen, gM_aOpen]
    by_cases e : j = i
    · subst e
      simp; exact hr
    · rw [if_neg e, if_neg e]; exact h.h.2.2.2 j hj
  · have w : ∀ c q, c ≠ 4 → c ≠ 5 → c ≠ 6 → gM (aOpen A i kd its 0 rt).1 c q = gM A.1 c q := fun c q a b d => by rw [gM_aOpen]; simp [a, b, d]
    obtain ⟨s1, s2, s3, s4⟩ := h.s
    unfold AIs
    rw [w 2 0 (by decide) (by decide) (by decide), w 0 2 (by decide) (by decide) (by decide), w 0 3 (by decide) (by decide) (by decide), w 0 4 (by decide) (by decide) (by decide)]
    exact ⟨s1, s2, s3, s4⟩
theorem AI.shut {A : zA} (h : AI A) (i : Nat) : AI (aOpen A i 0 none 0 0) := h.opn ⟨0, by decide, rfl⟩ (fun z => absurd z (by decide)) ⟨fun z => absurd z (by decide), fun z => absurd z (by decide), fun z => by rcases z with z | z <;> exact absurd z (by decide)⟩
theorem conKind_ok (m : Nat) : (conKind m = 2 ∧ conMay m = 1) ∨ (conKind m = 3 ∧ conMay m = 2) ∨ (conKind m = 4 ∧ conMay m = 2) := by
  unfold conKind conMay
  by_cases c : m < 4
  · rw [if_pos c, if_pos c]; exact Or.inl ⟨rfl, rfl⟩
  · rw [if_neg c, if_neg c]
    by_cases c2 : m < 8
    · rw [if_pos c2]; exact Or.inr (Or.inl ⟨rfl, rfl⟩)
    · rw [if_neg c2]; exact Or.inr (Or.inr ⟨rfl, rfl⟩)
theorem AI.con {A : zA} (h : AI A) (i m : Nat) : AI (aOpen A i (conKind m) none 0 (conMay m)) := by
  rcases conKind_ok m with ⟨e1, e2⟩ | ⟨e1, e2⟩ | ⟨e1, e2⟩ <;> rw [e1, e2]
  · exact h.opn ⟨2, by decide, rfl⟩ (fun z => absurd z (by decide)) ⟨fun z => absurd z (by decide), fun _ => rfl, fun z => by rcases z with z | z <;> exact absurd z (by decide)⟩
  · exact h.opn ⟨3, by decide, rfl⟩ (fun z => absurd z (by decide)) ⟨fun z => absurd z (by decide), fun z => absurd z (by decide), fun _ => rfl⟩
  · exact h.opn ⟨4, by decide, rfl⟩ (fun z => absurd z (by decide)) ⟨fun z => absurd z (by decide), fun z => absurd z (by decide), fun _ => rfl⟩
theorem fileMay_ok (m : Nat) : fileMay m = 1 ∨ fileMay m = 2 ∨ fileMay m = 3 ∨ fileMay m = 6 ∨ fileMay m = 7 := by
  unfold fileMay
  repeat' split
  all_goals decide
theorem AI.fil {A : zA} (h : AI A) (i m : Nat) {q : Nat} (hq : q < A.2.2.length) : AI (aOpen A i 1 (some q) 0 (fileMay m)) :=
  h.opn ⟨1, by decide, rfl⟩ (fun _ => ⟨q, rfl, hq⟩) ⟨fun _ => fileMay_ok m, fun z => absurd z (by decide), fun z => by rcases z with z | z <;> exact absurd z (by decide)⟩
theorem AI.remove {A : zA} (h : AI A) {k : Nat} (hk : k < A.2.2.length) (ho : openA A k 10 = 0) : AI (aRemove A k) := by
  refine AI.mk3 ⟨fun i hi c => ?_, h.h.2.1, h.h.2.2.1, h.h.2.2.2⟩ (h.f.gone k) h.s
  obtain ⟨q, e, hq⟩ := h.1 i hi c
  have hne := openA_none 10 ho i hi c
  rw [e] at hne
  have hqk : q ≠ k := fun z => hne (by rw [z])
  refine ⟨if k < q then q - 1 else q, ?_, ?_⟩
  · show (gH A.1 i).map _ = _
    rw [e]; rfl
  · show _ < (A.2.2.eraseIdx k).length
    rw [List.length_eraseIdx_of_lt hk]
    by_cases z : k < q
    · rw [if_pos z]; omega
    · rw [if_neg z]; omega
theorem fz_no0 {l : List Int32} (h : fzL l = -1) (hl : l.length < 2 ^ 31) : ¬ (0 : Int32) ∈ l := by
  intro z
  unfold fzL at h
  cases e : l.findIdx? (fun v => v == 0) with
  | none =>
    rw [List.findIdx?_eq_none_iff] at e
    have := e 0 z
    simp at this
  | some i =>
    rw [e] at h
    have hi : i < l.length := (List.findIdx?_eq_some_iff_getElem.mp e).1
    have : ¬ nI i < 0 := nI_pos (by omega)
    simp only at h
    rw [h] at this
    exact this (by decide)
theorem name_ok {mm : Nat → Int32} {p n : Int32} (h : faultA mm p n = 0) : 1 ≤ (bytesOf mm (un p) (un n)).length ∧ (bytesOf mm (un p) (un n)).length ≤ 24 ∧ ¬ (0 : Int32) ∈ bytesOf mm (un p) (un n) := by
  obtain ⟨h1, h2, h3, h4⟩ := faultA_len h
  rw [bytesOf_len]
  exact ⟨h1, h2, fz_no0 h4 (by rw [bytesOf_len]; omega)⟩
theorem AI_openF {A : zA} (h : AI A) {i m : Nat} {nm : List Int32} (h1 : 1 ≤ nm.length) (h2 : nm.length ≤ 24) (h3 : ¬ (0 : Int32) ∈ nm) : AI (openF A i m nm).1 := by
  unfold openF
  cases hf : findA A nm with
  | none =>
    show AI (if m < 4 then (aM A 0 6 2, (0 : Int32)) else if A.2.2.length < 12 then (aOpen (aFiles A (A.2.2 ++ [(nm, [])])) i 1 (some A.2.2.length) 0 (fileMay m), 1) else (aM A 0 6 28, 0)).1
    by_cases c : m < 4
    · rw [if_pos c]; exact h
    · rw [if_neg c]
      by_cases c2 : A.2.2.length < 12
      · rw [if_pos c2]
        have hA : AI (aFiles A (A.2.2 ++ [(nm, [])])) := h.files (h.f.add hf h1 h2 h3 (by decide)) (by rw [List.length_append]; omega)
        exact hA.fil i m (by show A.2.2.length < (A.2.2 ++ [(nm, [])]).length; rw [List.length_append, List.length_singleton]; omega)
      · rw [if_neg c2]; exact h
  | some k =>
    obtain ⟨f, hf1, hf2⟩ := findA_name hf
    have hk := findA_lt hf
    show AI (aOpen (if 4 ≤ m ∧ m < 8 then aFiles A (A.2.2.set k (nm, [])) else A) i 1 (some k) 0 (fileMay m))
    by_cases c : 4 ≤ m ∧ m < 8
    · rw [if_pos c]
      have hc := h.f.cont hf1 (c := []) (by decide)
      rw [hf2] at hc
      have hA : AI (aFiles A (A.2.2.set k (nm, []))) := h.files hc (by rw [List.length_set]; exact Nat.le_refl _)
      exact hA.fil i m (by show k < (A.2.2.set k (nm, [])).length; rw [List.length_set]; exact hk)
    · rw [if_neg c]; exact h.fil i m hk
theorem AI_open {A : zA} (h : AI A) (p md n : Int32) : AI (openC A p md n).1 := by
  unfold openC
  by_cases c1 : un md ≤ 11
  · rw [if_neg (fun z => z c1)]
    by_cases c2 : faultA (gM A.1 3) p n = 0
    · rw [if_neg (fun z => z c2)]
      cases leastA A with
      | none => exact h
      | some k =>
        show AI (if bytesOf (gM A.1 3) (un p) (un n) = [58, 116, 116] then (aOpen A k (conKind (un md)) none 0 (conMay (un md)), nI (k + 1)) else ((openF A k (un md) (bytesOf (gM A.1 3) (un p) (un n))).1, if (openF A k (un md) (bytesOf (gM A.1 3) (un p) (un n))).2 = 0 then -1 else nI (k + 1))).1
        by_cases c3 : bytesOf (gM A.1 3) (un p) (un n) = [58, 116, 116]
        · rw [if_pos c3]; exact h.con k (un md)
        · rw [if_neg c3]
          obtain ⟨n1, n2, n3⟩ := name_ok c2
          exact AI_openF h n1 n2 n3
    · rw [if_pos c2]; exact h
  · rw [if_pos c1]; exact h
theorem AI_close {A : zA} (h : AI A) (x : Int32) : AI (closeA A x).1 := by
  unfold closeA
  cases hopen A x with
  | none => exact h
  | some k => exact h.shut k
theorem AI_text {A : zA} (h : AI A) (a : Int32) (k : Option Nat) : AI (textA A a k).1 := by
  unfold textA
  cases k with
  | none => exact h
  | some q => exact h
theorem ov_le {c : List Int32} {p : Nat} {l : List Int32} (hp : p + l.length ≤ 2000) (hc : c.length ≤ 2000) : (ov (c ++ List.replicate (p - c.length) 0) p l).length ≤ 2000 := by
  rw [ov_len (by rw [List.length_append, List.length_replicate]; omega), List.length_append, List.length_replicate]
  omega
theorem AI_wrP {A : zA} (h : AI A) {k q : Nat} {f : List Int32 × List Int32} (hf : A.2.2[q]? = some f) {p at' n : Nat} (hp : p ≤ 2000) : AI (wrP A k q f p at' n).1 := by
  have hfl := (h.f.2 f (List.mem_of_getElem? hf)).2.2.2
  have hA : AI (aFiles A (if min n (2000 - p) = 0 then A.2.2 else A.2.2.set q (f.1, ov (f.2 ++ List.replicate (p - f.2.length) 0) p (bytesOf (gM A.1 3) at' (min n (2000 - p)))))) := by
    by_cases c : min n (2000 - p) = 0
    · rw [if_pos c]; exact h
    · rw [if_neg c]
      exact h.files (h.f.cont hf (ov_le (by rw [bytesOf_len]; omega) hfl)) (by rw [List.length_set]; exact Nat.le_refl _)
  have hB := hA.place (k := k) (p := p + min n (2000 - p)) (by omega)
  unfold wrP
  by_cases c : min n (2000 - p) < n
  · simp only [if_pos c]; exact hB
  · simp only [if_neg c]; exact hB
theorem AI_write {A : zA} (h : AI A) (x p n : Int32) : AI (writeA A x p n).1 := by
  unfold writeA
  cases hh : hopen A x with
  | none => exact h
  | some k =>
    obtain ⟨hk, hkind⟩ := hopen_spec hh
    simp only
    by_cases c1 : gM A.1 6 k &&& 2 = 0
    · rw [if_pos c1]; exact h
    · rw [if_neg c1]
      by_cases c2 : un p + un n ≤ 16384
      · rw [if_neg (fun z => z c2)]
        by_cases c3 : gM A.1 4 k = 1
        · rw [if_pos c3]
          obtain ⟨q, e, hq⟩ := h.1 k hk c3
          have e2 : A.2.2[q]? = some A.2.2[q] := List.getElem?_eq_getElem hq
          rw [e]
          simp only [e2]
          unfold wrF
          by_cases c4 : gM A.1 6 k &&& 4 = 0
          · rw [if_pos c4]
            obtain ⟨pl, hp1, hp2⟩ := h.2.2.1 k hk hkind
            exact AI_wrP h e2 (by rw [hp2, un_nI (by omega)]; exact hp1)
          · rw [if_neg c4]
            have hfl := (h.f.2 _ (List.mem_of_getElem? e2)).2.2.2
            exact AI_wrP (h.place hfl) e2 hfl
        · rw [if_neg c3]; exact h
      · rw [if_pos c2]; exact h
theorem AI_read {A : zA} (h : AI A) (x p n : Int32) : AI (readA A x p n).1 := by
  unfold readA
  cases hh : hopen A x with
  | none => exact h
  | some k =>
    obtain ⟨hk, hkind⟩ := hopen_spec hh
    simp only
    by_cases c1 : gM A.1 6 k &&& 1 = 0
    · rw [if_pos c1]; exact h
    · rw [if_neg c1]
      by_cases c2 : un p + un n ≤ 16384
      · rw [if_neg (fun z => z c2)]
        by_cases c3 : gM A.1 4 k = 1
        · rw [if_pos c3]
          unfold rdF
          obtain ⟨pl, hp1, hp2⟩ := h.2.2.1 k hk hkind
          rw [hp2, un_nI (by omega), nI_add]
          have hA : AI (aMem A (mset (gM A.1 3) (un p) (((contA A k).drop pl).take (un n)))) := h
          refine hA.place ?_
          obtain ⟨q, e, hq⟩ := h.1 k hk c3
          have e2 : A.2.2[q]? = some A.2.2[q] := List.getElem?_eq_getElem hq
          have hfl := (h.f.2 _ (List.mem_of_getElem? e2)).2.2.2
          rw [contA_eq e e2]
          omega
        · rw [if_neg c3]; exact h
      · rw [if_pos c2]; exact h
theorem AI_seek {A : zA} (h : AI A) (x to : Int32) : AI (seekA A x to).1 := by
  unfold seekA
  cases hh : hopen A x with
  | none => exact h
  | some k =>
    obtain ⟨hk, hkind⟩ := hopen_spec hh
    simp only
    by_cases c : gM A.1 4 k = 1 ∧ un to ≤ (contA A k).length
    · rw [if_pos c]
      obtain ⟨q, e, hq⟩ := h.1 k hk c.1
      have e2 : A.2.2[q]? = some A.2.2[q] := List.getElem?_eq_getElem hq
      have hfl := (h.f.2 _ (List.mem_of_getElem? e2)).2.2.2
      have hc := c.2
      rw [contA_eq e e2] at hc
      have := h.place (k := k) (p := un to) (by omega)
      rw [nI_un] at this
      exact this
    · rw [if_neg c]; exact h
theorem AI_rem {A : zA} (h : AI A) (p n : Int32) : AI (removeA A p n).1 := by
  unfold removeA
  by_cases c : faultA (gM A.1 3) p n = 0
  · rw [if_neg (fun z => z c)]
    cases hf : findA A (bytesOf (gM A.1 3) (un p) (un n)) with
    | none => exact h
    | some k =>
      simp only
      by_cases c2 : openA A k 10 = 0
      · rw [if_pos c2]; exact h.remove (findA_lt hf) c2
      · rw [if_neg c2]; exact h
  · rw [if_pos c]; exact h
theorem AI_rename {A : zA} (h : AI A) (p n to m : Int32) : AI (renameA A p n to m).1 := by
  unfold renameA
  by_cases c : faultA (gM A.1 3) p n = 0
  · rw [if_neg (fun z => z c)]
    by_cases d : faultA (gM A.1 3) to m = 0
    · rw [if_neg (fun z => z d)]
      cases hf : findA A (bytesOf (gM A.1 3) (un p) (un n)) with
      | none => exact h
      | some k =>
        simp only
        by_cases c2 : openA A k 10 = 0
        · rw [if_neg (fun z => z c2)]
          by_cases c3 : findA A (bytesOf (gM A.1 3) (un to) (un m)) = none ∨ findA A (bytesOf (gM A.1 3) (un to) (un m)) = some k
          · rw [if_pos c3]
            obtain ⟨f, hf1, hf2⟩ := findA_name hf
            simp only [hf1]
            obtain ⟨n1, n2, n3⟩ := name_ok d
            exact h.files (h.f.ren hf1 c3 n1 n2 n3) (by rw [List.length_set]; exact Nat.le_refl _)
          · rw [if_neg c3]; exact h
        · rw [if_pos c2]; exact h
    · rw [if_pos d]; exact h
  · rw [if_pos c]; exact h
theorem AI_exit {A : zA} (h : AI A) (h0 : gM A.1 0 2 = 0) (r c : Int32) : AI (exitA A r c).1 := by
  refine AI.mk3 h.h h.f ⟨h.s.1, ⟨1, by decide, rfl⟩, fun _ => ?_, fun z => absurd rfl z⟩
  exact h.s.2.2.1 (by rw [h0]; decide)
theorem AI_other {A : zA} (h : AI A) (h0 : gM A.1 0 2 = 0) (o a : Int32) : AI (otherA A o a).1 := by
  unfold otherA
  by_cases c : o = 16
  · rw [if_pos c]; exact h
  rw [if_neg c]
  by_cases c : o = 17
  · rw [if_pos c]; exact h
  rw [if_neg c]
  by_cases c : o = 19
  · rw [if_pos c]; exact h
  rw [if_neg c]
  by_cases c : o = 21
  · rw [if_pos c]
    unfold tellA
    by_cases c1 : (A.2.1 4).length + 1 ≤ un (fieldA A a 1)
    · rw [if_neg (fun z => z c1)]
      by_cases c2 : un (fieldA A a 0) + ((A.2.1 4).length + 1) ≤ 16384
      · rw [if_neg (fun z => z c2)]; exact h
      · rw [if_pos c2]; exact h
    · rw [if_pos c1]; exact h
  rw [if_neg c]
  by_cases c : o = 22
  · rw [if_pos c]
    unfold heapA
    by_cases c1 : un (fieldA A a 0) % 4 = 0 ∧ un (fieldA A a 0) + 16 ≤ 16384
    · rw [if_pos c1]; exact h
    · rw [if_neg c1]; exact h
  rw [if_neg c]
  by_cases c : o = 24
  · rw [if_pos c]; exact AI_exit h h0 _ _
  rw [if_neg c]
  by_cases c : o = 32
  · rw [if_pos c]; exact AI_exit h h0 _ _
  rw [if_neg c]
  by_cases c : o = 48
  · rw [if_pos c]
    unfold elapsedA
    by_cases c1 : un a % 4 = 0 ∧ un a + 8 ≤ 16384
    · rw [if_pos c1]; exact h
    · rw [if_neg c1]; exact h
  rw [if_neg c]
  by_cases c : o = 49
  · rw [if_pos c]; exact h
  rw [if_neg c]
  exact h
theorem AI_perform {A : zA} (h : AI A) (h0 : gM A.1 0 2 = 0) (o a : Int32) : AI (performA A o a).1 := by
  unfold performA
  by_cases c : o = 1
  · rw [if_pos c]; exact AI_open h _ _ _
  rw [if_neg c]
  by_cases c : o = 2
  · rw [if_pos c]; exact AI_close h _
  rw [if_neg c]
  by_cases c : o = 3
  · rw [if_pos c]; exact AI_text h _ _
  rw [if_neg c]
  by_cases c : o = 4
  · rw [if_pos c]; exact AI_text h _ _
  rw [if_neg c]
  by_cases c : o = 5
  · rw [if_pos c]; exact AI_write h _ _ _
  rw [if_neg c]
  by_cases c : o = 6
  · rw [if_pos c]; exact AI_read h _ _ _
  rw [if_neg c]
  by_cases c : o = 7
  · rw [if_pos c]; exact h
  rw [if_neg c]
  by_cases c : o = 8
  · rw [if_pos c]; exact h
  rw [if_neg c]
  by_cases c : o = 9
  · rw [if_pos c]
    unfold isConA
    cases hopen A (fieldA A a 0) with
    | none => exact h
    | some k => exact h
  rw [if_neg c]
  by_cases c : o = 10
  · rw [if_pos c]; exact AI_seek h _ _
  rw [if_neg c]
  by_cases c : o = 12
  · rw [if_pos c]
    unfold lengthA
    cases hopen A (fieldA A a 0) with
    | none => exact h
    | some k => exact h
  rw [if_neg c]
  by_cases c : o = 13
  · rw [if_pos c]
    unfold tempA
    by_cases c1 : un (fieldA A a 1) ≤ 255 ∧ 7 ≤ un (fieldA A a 2)
    · rw [if_neg (fun z => z c1)]
      by_cases c2 : un (fieldA A a 0) + 7 ≤ 16384
      · rw [if_neg (fun z => z c2)]; exact h
      · rw [if_pos c2]; exact h
    · rw [if_pos c1]; exact h
  rw [if_neg c]
  by_cases c : o = 14
  · rw [if_pos c]; exact AI_rem h _ _
  rw [if_neg c]
  by_cases c : o = 15
  · rw [if_pos c]; exact AI_rename h _ _ _ _
  rw [if_neg c]
  exact AI_other h h0 _ _
theorem AI_call {A : zA} (h : AI A) (h0 : gM A.1 0 2 = 0) : AI (callA A) := by
  have h1 : AI (callA1 A).1 := by
    unfold callA1
    by_cases c : okA (gM A.1 2 11) (fieldsA (gM A.1 2 10)) = true
    · rw [if_pos c]; exact AI_perform (AI_call0 h) h0 _ _
    · rw [if_neg c]; exact h
  unfold callA
  by_cases c : gM (callA1 A).1.1 0 2 = 0
  · rw [if_pos c]; exact h1
  · rw [if_neg c]; exact h1
theorem AI_asg {A : zA} (h : AI A) (r : Nat) (v : Int32) : AI (asg A r v) := by
  unfold asg
  by_cases c : r = 0
  · rw [if_pos c]; exact h
  · rw [if_neg c]
    refine AI.mk3 h.h h.f ⟨?_, h.s.2⟩
    rw [gM_aM, if_pos rfl, if_neg (fun z => c z.symm)]
    exact h.s.1
theorem AI_ex {A : zA} (h : AI A) (w : Int32) : AI (exA A w).1 ∧ gM (exA A w).1.1 0 2 = gM A.1 0 2 ∧ gJ (exA A w).1.1 = gJ A.1 := by
  have ha : ∀ r v, AI (asg A r v) ∧ gM (asg A r v).1 0 2 = gM A.1 0 2 ∧ gJ (asg A r v).1 = gJ A.1 := fun r v => ⟨AI_asg h r v, by unfold asg; split <;> rfl, by unfold asg; split <;> rfl⟩
  have hA : AI A ∧ gM A.1 0 2 = gM A.1 0 2 ∧ gJ A.1 = gJ A.1 := ⟨h, rfl, rfl⟩
  have hj : ∀ to, AI (jumpA A w to).1 ∧ gM (jumpA A w to).1.1 0 2 = gM A.1 0 2 ∧ gJ (jumpA A w to).1.1 = gJ A.1 := fun to => by
    unfold jumpA
    by_cases c : un to % 4 = 0
    · rw [if_pos c]; exact ha _ _
    · rw [if_neg c]; exact hA
  unfold exA
  by_cases c : un w % 128 = 3
  · rw [if_pos c]
    unfold loadA
    by_cases c1 : f3 w = 3 ∨ 5 < f3 w
    · rw [if_pos c1]; exact hA
    rw [if_neg c1]
    by_cases c1 : ¬ un (gM A.1 2 (fR1 w) + immI w) % szA (f3 w) = 0
    · rw [if_pos c1]; exact hA
    rw [if_neg c1]
    by_cases c1 : un (gM A.1 2 (fR1 w) + immI w) + szA (f3 w) ≤ 16384
    · rw [if_pos c1]; exact ha _ _
    rw [if_neg c1]; exact hA
  rw [if_neg c]
  by_cases c : un w % 128 = 15
  · rw [if_pos c]; exact hA
  rw [if_neg c]
  by_cases c : un w % 128 = 19
  · rw [if_pos c]
    unfold immA
    by_cases c1 : (f3 w = 1 ∧ fTop w ≠ 0) ∨ (f3 w = 5 ∧ fTop w ≠ 0 ∧ fTop w ≠ 32)
    · rw [if_pos c1]; exact hA
    rw [if_neg c1]; exact ha _ _
  rw [if_neg c]
  by_cases c : un w % 128 = 23
  · rw [if_pos c]; exact ha _ _
  rw [if_neg c]
  by_cases c : un w % 128 = 35
  · rw [if_pos c]
    unfold storeA
    by_cases c1 : 2 < f3 w
    · rw [if_pos c1]; exact hA
    rw [if_neg c1]
    by_cases c1 : ¬ un (gM A.1 2 (fR1 w) + immS w) % szA (f3 w) = 0
    · rw [if_pos c1]; exact hA
    rw [if_neg c1]
    by_cases c1 : un (gM A.1 2 (fR1 w) + immS w) + szA (f3 w) ≤ 16384
    · rw [if_pos c1]; exact ⟨h, rfl, rfl⟩
    rw [if_neg c1]; exact hA
  rw [if_neg c]
  by_cases c : un w % 128 = 51
  · rw [if_pos c]
    unfold opA
    by_cases c1 : fTop w = 1
    · rw [if_pos c1]; exact ha _ _
    rw [if_neg c1]
    by_cases c1 : fTop w = 0
    · rw [if_pos c1]; exact ha _ _
    rw [if_neg c1]
    by_cases c1 : fTop w = 32 ∧ (f3 w = 0 ∨ f3 w = 5)
    · rw [if_pos c1]; exact ha _ _
    rw [if_neg c1]; exact hA
  rw [if_neg c]
  by_cases c : un w % 128 = 55
  · rw [if_pos c]; exact ha _ _
  rw [if_neg c]
  by_cases c : un w % 128 = 99
  · rw [if_pos c]
    unfold branchA
    by_cases c1 : f3 w = 2 ∨ f3 w = 3
    · rw [if_pos c1]; exact hA
    rw [if_neg c1]
    by_cases c1 : takenA (f3 w) (gM A.1 2 (fR1 w)) (gM A.1 2 (fR2 w)) = true
    · rw [if_pos c1]
      by_cases c2 : un (gM A.1 0 0 + immB w) % 4 = 0
      · rw [if_pos c2]; exact hA
      · rw [if_neg c2]; exact hA
    · rw [if_neg c1]; exact hA
  rw [if_neg c]
  by_cases c : un w % 128 = 103
  · rw [if_pos c]
    by_cases c1 : f3 w = 0
    · rw [if_pos c1]; exact hj _
    · rw [if_neg c1]; exact hA
  rw [if_neg c]
  by_cases c : un w % 128 = 111
  · rw [if_pos c]; exact hj _
  rw [if_neg c]
  by_cases c : w = 115
  · rw [if_pos c]; exact hA
  rw [if_neg c]
  by_cases c : w = 1048691
  · rw [if_pos c]; exact hA
  rw [if_neg c]; exact hA
theorem AI_stop {A : zA} (h : AI A) (h0 : gM A.1 0 2 = 0) (t : Int32) : AI (stopA A t) := by
  refine AI.mk3 h.h h.f ⟨h.s.1, ⟨2, by decide, rfl⟩, fun z => absurd rfl z, fun _ => ?_⟩
  exact h.s.2.2.2 (by rw [h0]; decide)
theorem AI_step {A : zA} (h : AI A) (h0 : gM A.1 0 2 = 0) : AI (stepA A).1 ∧ ((stepA A).2 = true → gM (stepA A).1.1 0 2 = 0) ∧ gJ (stepA A).1.1 = gJ A.1 + 1 := by
  have hJ : AI (aJ A (gJ A.1 + 1)) := h
  obtain ⟨x1, x2, x3⟩ := AI_ex hJ (wordOf (gM A.1 3) (un (gM A.1 0 0)))
  unfold stepA
  by_cases c : ¬ un (gM A.1 0 0) % 4 = 0
  · rw [if_pos c]; exact ⟨AI_stop hJ h0 1, fun z => Bool.noConfusion z, rfl⟩
  rw [if_neg c]
  by_cases c : ¬ un (gM A.1 0 0) + 4 ≤ 16384
  · rw [if_pos c]; exact ⟨AI_stop hJ h0 2, fun z => Bool.noConfusion z, rfl⟩
  rw [if_neg c]
  by_cases c : wordOf (gM A.1 3) (un (gM A.1 0 0)) = 1048691 ∧ markedA A = true
  · rw [if_pos c]; exact ⟨hJ, fun _ => h0, rfl⟩
  rw [if_neg c]
  by_cases c : (exA (aJ A (gJ A.1 + 1)) (wordOf (gM A.1 3) (un (gM A.1 0 0)))).2.2 = 0
  · rw [if_pos c]; exact ⟨x1, fun z => Bool.noConfusion z, x3⟩
  rw [if_neg c]; exact ⟨AI_stop x1 (x2.trans h0) _, fun z => Bool.noConfusion z, x3⟩
