/-! what the reference's operations share -/
def oEnd (X : zA × Int32) (P : zS → Prop) : Prop := rEnd (aM X.1 2 10 X.2) P
theorem r_answer {A : zA} {T : zS} (h : RS A T) (v : Int32) {P : zS → Prop} (hP : oEnd (A, v) P) : w_M_answer v T P := by
  unfold w_M_answer
  refine ⟨vp_in_nI (n := 10) (by decide) (by decide), ?_⟩
  rintro S2 rfl
  exact hP _ (h.reg 10 v)
theorem r_fails {A : zA} {T : zS} (h : RS A T) (e : Int32) {P : zS → Prop} (hP : oEnd (failA A e) P) : w_M_fails e T P := by
  unfold w_M_fails
  rintro S1 rfl
  refine ⟨vp_in_nI (n := 10) (by decide) (by decide), ?_⟩
  rintro S3 rfl
  exact hP _ ((h.err e).reg 10 (-1))
theorem r_failsWith {A : zA} {T : zS} (h : RS A T) (e n : Int32) {P : zS → Prop} (hP : oEnd (failN A e n) P) : w_M_failsWith e n T P := by
  unfold w_M_failsWith
  rintro S1 rfl
  refine ⟨vp_in_nI (n := 10) (by decide) (by decide), ?_⟩
  rintro S3 rfl
  exact hP _ ((h.err e).reg 10 n)
theorem r_field {A : zA} {T : zS} (h : RS A T) {a : Int32} (hb : gM A.1 2 11 = a) {k : Nat} (hk : un a + 4 * k + 4 ≤ 16384) {x : Int32} (hx : x = nI k) {P : zS → Int32 → Prop} (hP : P T (fieldA A a k)) : w_M_field x T P := by
  unfold w_M_field
  refine ⟨vp_in_nI (n := 11) (by decide) (by decide), ?_⟩
  have e : gM T 2 (11 : Int32).toNatClampNeg = a := (h.x 11 (by decide)).trans hb
  rw [e]
  refine r_word h (a := un a + 4 * k) hk ?_ hP
  rw [hx, show (4 : Int32) = nI 4 from rfl, pk_mul, ← nI_add, nI_un]
theorem r_fieldsOf {S : zS} (o : Int32) {P : zS → Int32 → Prop} (h : P S (nI (fieldsA o))) : w_M_fieldsOf o S P := by
  unfold w_M_fieldsOf
  unfold fieldsA at h
  refine ⟨fun c => by rw [if_pos c] at h; exact h, fun c => ?_⟩
  rw [if_neg c] at h
  refine ⟨fun c => by rw [if_pos c] at h; exact h, fun c => ?_⟩
  rw [if_neg c] at h
  refine ⟨fun c => by rw [if_pos c] at h; exact h, fun c => ?_⟩
  rw [if_neg c] at h
  refine ⟨fun c => by rw [if_pos c] at h; exact h, fun c => ?_⟩
  rw [if_neg c] at h
  refine ⟨fun c => by rw [if_pos c] at h; exact h, fun c => ?_⟩
  rw [if_neg c] at h
  refine ⟨fun c => by rw [if_pos c] at h; exact h, fun c => ?_⟩
  rw [if_neg c] at h
  refine ⟨fun c => by rw [if_pos c] at h; exact h, fun c => ?_⟩
  rw [if_neg c] at h
  refine ⟨fun c => by rw [if_pos c] at h; exact h, fun c => ?_⟩
  rw [if_neg c] at h
  refine ⟨fun c => by rw [if_pos c] at h; exact h, fun c => ?_⟩
  rw [if_neg c] at h
  refine ⟨fun c => by rw [if_pos c] at h; exact h, fun c => ?_⟩
  rw [if_neg c] at h
  refine ⟨fun c => by rw [if_pos c] at h; exact h, fun c => ?_⟩
  rw [if_neg c] at h
  refine ⟨fun c => by rw [if_pos c] at h; exact h, fun c => ?_⟩
  rw [if_neg c] at h
  refine ⟨fun c => by rw [if_pos c] at h; exact h, fun c => ?_⟩
  rw [if_neg c] at h
  refine ⟨fun c => by rw [if_pos c] at h; exact h, fun c => ?_⟩
  rw [if_neg c] at h
  refine ⟨fun c => by rw [if_pos c] at h; exact h, fun c => ?_⟩
  rw [if_neg c] at h
  exact h
theorem kind0 {A : zA} (hI : AI A) {i : Nat} (hi : i < 10) : gM A.1 4 i ≤ 0 ↔ gM A.1 4 i = 0 := by
  obtain ⟨k, hk, e⟩ := hI.2.1 i hi
  rw [e, ← nI_0, nI_leI (by omega) (by decide), nI_eq (by omega) (by decide)]
  omega
theorem kind1 {A : zA} (hI : AI A) {i : Nat} (hi : i < 10) (h0 : ¬ gM A.1 4 i = 0) : gM A.1 4 i ≤ (1 : Int32) ↔ gM A.1 4 i = 1 := by
  obtain ⟨k, hk, e⟩ := hI.2.1 i hi
  rw [e] at h0 ⊢
  rw [show (1 : Int32) = nI 1 from rfl, nI_leI (by omega) (by decide), nI_eq (by omega) (by decide)]
  have : k ≠ 0 := fun z => h0 (by rw [z]; rfl)
  omega
theorem lt1 {x : Int32} (hn : x < 0) : x < (1 : Int32) := by
  rw [Int32.lt_iff_toInt_lt] at *
  have : (1 : Int32).toInt = 1 := rfl
  rw [Int32.toInt_zero] at hn
  omega
theorem r_isOpen {A : zA} {T : zS} (h : RS A T) (hI : AI A) (x : Int32) {P : zS → Int32 → Prop} (hP : P T (match hopen A x with | some _ => 1 | none => 0)) : w_M_isOpen x T P := by
  unfold w_M_isOpen
  unfold hopen hnd at hP
  by_cases hn : x < 0
  · have hl1 := lt1 hn
    rw [neg_iff] at hn
    rw [if_neg (by omega)] at hP
    exact ⟨fun _ => hP, fun c => absurd hl1 c⟩
  obtain ⟨e, hl⟩ := un_pos hn
  have l1 : x < (1 : Int32) ↔ un x < 1 := by rw [e, un_nI (by omega)]; exact nI_ltI hl (by decide)
  have l10 : (10 : Int32) < x ↔ 10 < un x := by rw [e, un_nI (by omega)]; exact nI_ltI (by decide) hl
  rw [l1, l10]
  refine ⟨fun c => ?_, fun c => ⟨fun c2 => ?_, fun c2 => ⟨vin (by omega) e, ?_⟩⟩⟩
  · rw [if_neg (by omega)] at hP; exact hP
  · rw [if_neg (by omega)] at hP; exact hP
  · rw [if_pos (by omega)] at hP
    simp only [Option.bind_some] at hP
    rw [clm e hl]
    have k1 := (h.h (un x - 1) (by omega)).1
    rw [show un x - 1 + 1 = un x by omega] at k1
    rw [k1, kind0 hI (by omega)]
    refine ⟨fun c3 => ?_, fun c3 => ?_⟩
    · rw [if_pos c3] at hP; exact hP
    · rw [if_neg c3] at hP; exact hP
theorem hop_un {A : zA} {x : Int32} {k : Nat} (e : hopen A x = some k) : x = nI (k + 1) := by
  unfold hopen hnd at e
  by_cases c : 1 ≤ un x ∧ un x ≤ 10
  · rw [if_pos c] at e
    simp only [Option.bind_some] at e
    split at e
    · cases e
    · have := Option.some.inj e
      rw [← nI_un x]; congr 1; omega
  · rw [if_neg c] at e; cases e
theorem RR.kd {A : zA} {T : zS} (h : RR A T) {k : Nat} (hk : k < 10) : gM T 7 (k + 1) = gM A.1 4 k := (h.h k hk).1
theorem RS.kd {A : zA} {T : zS} (h : RS A T) {k : Nat} (hk : k < 10) : gM T 7 (k + 1) = gM A.1 4 k := h.1.kd hk
theorem RR.file {A : zA} {T : zS} (h : RR A T) (hI : AI A) {k : Nat} (hk : k < 10) (h1 : gM A.1 4 k = 1) : ∃ q f, gH A.1 k = some q ∧ A.2.2[q]? = some f ∧ q < 12 ∧ gM T 8 (k + 1) = nI q ∧ arr f.2 (gM T 4 q) (fun i => gM T 3 (2000 * q + i)) 2000 := by
  obtain ⟨q, q1, q2⟩ := (h.h k hk).2.2 h1
  obtain ⟨q', q3, q4⟩ := hI.1 k hk h1
  have eq : q' = q := by rw [q1] at q3; exact (Option.some.inj q3).symm
  subst eq
  have hl := h.f.2.1
  have hf : A.2.2[q']? = some A.2.2[q'] := List.getElem?_eq_getElem q4
  exact ⟨q', _, q1, hf, by omega, q2, (h.f.2.2 _ _ hf).1⟩
theorem RS.file {A : zA} {T : zS} (h : RS A T) (hI : AI A) {k : Nat} (hk : k < 10) (h1 : gM A.1 4 k = 1) : ∃ q f, gH A.1 k = some q ∧ A.2.2[q]? = some f ∧ q < 12 ∧ gM T 8 (k + 1) = nI q ∧ arr f.2 (gM T 4 q) (fun i => gM T 3 (2000 * q + i)) 2000 := h.1.file hI hk h1
theorem RR.opn {A : zA} {T : zS} (h : RR A T) {i : Nat} (kd v rt : Int32) {its : Option Nat} (hv : kd = 1 → ∃ q, its = some q ∧ v = nI q) : RR (aOpen A i kd its 0 rt) (sM (sM (sM (sM T 7 (i + 1) kd) 8 (i + 1) v) 9 (i + 1) 0) 10 (i + 1) rt) := by
  refine ⟨h.s, h.x, h.m, h.p, h.t, h.i, h.c, h.f, fun q hq => ?_, h.j⟩
  obtain ⟨k1, k2, k3⟩ := h.h q hq
  rw [gM_aOpen, gM_aOpen, gM_aOpen, gH_aOpen]
  show (if q + 1 = i + 1 then kd else gM T 7 (q + 1)) = _ ∧ (_ → (if q + 1 = i + 1 then (0 : Int32) else gM T 9 (q + 1)) = _ ∧ (if q + 1 = i + 1 then rt else gM T 10 (q + 1)) = _) ∧ (_ → ∃ p, _ ∧ (if q + 1 = i + 1 then v else gM T 8 (q + 1)) = nI p)
  by_cases c : q = i
  · subst c
    refine ⟨by simp, fun _ => ⟨by simp, by simp⟩, fun z => ?_⟩
    have z : kd = 1 := by simpa using z
    obtain ⟨p, p1, p2⟩ := hv z
    exact ⟨p, by simpa using p1, by simpa using p2⟩
  · simp only [if_neg c, if_neg (show ¬ q + 1 = i + 1 by omega)]
    exact ⟨k1, k2, k3⟩
theorem RS.opn {A : zA} {T : zS} (h : RS A T) {i : Nat} (kd v rt : Int32) {its : Option Nat} (hv : kd = 1 → ∃ q, its = some q ∧ v = nI q) : RS (aOpen A i kd its 0 rt) (sM (sM (sM (sM T 7 (i + 1) kd) 8 (i + 1) v) 9 (i + 1) 0) 10 (i + 1) rt) := ⟨h.1.opn kd v rt hv, h.2⟩
theorem RR.shut {A : zA} {T : zS} (h : RR A T) (i : Nat) : RR (aOpen A i 0 none 0 0) (sM T 7 (i + 1) 0) := by
  refine ⟨h.s, h.x, h.m, h.p, h.t, h.i, h.c, h.f, fun q hq => ?_, h.j⟩
  obtain ⟨k1, k2, k3⟩ := h.h q hq
  rw [gM_aOpen, gM_aOpen, gM_aOpen, gH_aOpen]
  show (if q + 1 = i + 1 then (0 : Int32) else gM T 7 (q + 1)) = _ ∧ (_ → gM T 9 (q + 1) = _ ∧ gM T 10 (q + 1) = _) ∧ (_ → ∃ p, _ ∧ gM T 8 (q + 1) = nI p)
  by_cases c : q = i
  · subst c
    refine ⟨by simp, fun z => absurd (by simp) z, fun z => ?_⟩
    have z : (0 : Int32) = 1 := by simpa using z
    exact absurd z (by decide)
  · simp only [if_neg c, if_neg (show ¬ q + 1 = i + 1 by omega)]
    exact ⟨k1, k2, k3⟩
theorem RS.shut {A : zA} {T : zS} (h : RS A T) (i : Nat) : RS (aOpen A i 0 none 0 0) (sM T 7 (i + 1) 0) := ⟨h.1.shut i, h.2⟩
theorem RR.place {A : zA} {T : zS} (h : RR A T) (i : Nat) (v : Int32) : RR (aM A 5 i v) (sM T 9 (i + 1) v) := by
  refine ⟨h.s, h.x, h.m, h.p, h.t, h.i, h.c, h.f, fun q hq => ?_, h.j⟩
  obtain ⟨k1, k2, k3⟩ := h.h q hq
  refine ⟨k1, fun z => ⟨?_, (k2 z).2⟩, k3⟩
  show (if q + 1 = i + 1 then v else gM T 9 (q + 1)) = if q = i then v else gM A.1 5 q
  by_cases c : q = i
  · rw [if_pos c, if_pos (by omega)]
  · rw [if_neg c, if_neg (by omega)]; exact (k2 z).1
theorem RS.place {A : zA} {T : zS} (h : RS A T) (i : Nat) (v : Int32) : RS (aM A 5 i v) (sM T 9 (i + 1) v) := ⟨h.1.place i v, h.2⟩
/-! printing -/
theorem take_snoc (l : List Int32) (b : Int32) : ((l.take 2000) ++ [b]).take 2000 = (l ++ [b]).take 2000 := by
  by_cases c : l.length ≤ 2000
  · rw [List.take_of_length_le c]
  · have h1 : (l.take 2000).length = 2000 := by rw [List.length_take]; omega
    rw [List.take_append_of_le_length (by omega), List.take_append_of_le_length (by omega), List.take_take, Nat.min_self]
theorem prA_row (A : zA) (j : Nat) (l : List Int32) {t : Nat} (h : t ≠ 2 + j) : (prA A j l).2.1 t = A.2.1 t := if_neg h
theorem prA_own (A : zA) (j : Nat) (l : List Int32) : (prA A j l).2.1 (2 + j) = (A.2.1 (2 + j) ++ l).take 2000 := if_pos rfl
theorem prA_tot (A : zA) (j : Nat) (l : List Int32) (q : Nat) : gM (prA A j l).1 7 q = if q = j then gM A.1 7 j + nI l.length else gM A.1 7 q := rfl
theorem prA_num (A : zA) (j : Nat) (l : List Int32) {c : Nat} (h : c ≠ 7) (q : Nat) : gM (prA A j l).1 c q = gM A.1 c q := by
  unfold prA
  rw [gM_aM, if_neg h]; rfl
theorem prA_snoc (A : zA) (j : Nat) (l : List Int32) (b : Int32) : prA (prA A j l) j [b] = prA A j (l ++ [b]) := by
  refine Prod.ext (Prod.ext ?_ rfl) (Prod.ext ?_ rfl)
  · funext c i
    show gM (prA (prA A j l) j [b]).1 c i = gM (prA A j (l ++ [b])).1 c i
    by_cases c7 : c = 7
    · subst c7
      rw [prA_tot, prA_tot, prA_tot, prA_tot]
      by_cases ij : i = j
      · rw [if_pos ij, if_pos ij, if_pos rfl, List.length_append, ← nI_add, Int32.add_assoc]
      · rw [if_neg ij, if_neg ij, if_neg ij]
    · rw [prA_num _ _ _ c7, prA_num _ _ _ c7, prA_num _ _ _ c7]
  · funext s
    by_cases z : s = 2 + j
    · subst z
      rw [prA_own, prA_own, prA_own, take_snoc, List.append_assoc]
    · rw [prA_row _ _ _ z, prA_row _ _ _ z, prA_row _ _ _ z]
theorem prA_nil {A : zA} {j : Nat} (h : (A.2.1 (2 + j)).length ≤ 2000) : prA A j [] = A := by
  refine Prod.ext (Prod.ext ?_ rfl) (Prod.ext ?_ rfl)
  · funext c i
    show gM (prA A j []).1 c i = gM A.1 c i
    by_cases c7 : c = 7
    · subst c7
      rw [prA_tot]
      by_cases ij : i = j
      · rw [if_pos ij, ij, List.length_nil, nI_0, Int32.add_zero]
      · rw [if_neg ij]
    · rw [prA_num _ _ _ c7]
  · funext s
    by_cases z : s = 2 + j
    · subst z
      rw [prA_own, List.append_nil, List.take_of_length_le h]
    · rw [prA_row _ _ _ z]
theorem RR.prs {A : zA} {T T' : zS} (h : RR A T) {j : Nat} (hj : j < 2) {l : List Int32} (e : ∀ c, ¬ (c = 12 ∨ c = 13 ∨ c = 14) → gM T' c = gM T c) (ej : gJ T' = gJ T) (hp : RRp (prA A j l) (gM T' 12) (gM T' 13) (gM T' 14)) : RR (prA A j l) T' := by
  refine ⟨?_, fun r hr => ?_, fun i hi => ?_, hp, ?_, ?_, ?_, ?_, fun i hi => ?_, ej.trans h.j⟩
  · rw [e 0 (by omega)]
    obtain ⟨s1, s2, s3, s4, s5, s6, s7, s8⟩ := h.s
    exact ⟨s1, s2, s3, s4, s5, s6, s7, s8⟩
  · rw [e 2 (by omega)]; exact h.x r hr
  · rw [e 1 (by omega)]; exact h.m i hi
  · rw [prA_row _ _ _ (show 0 ≠ 2 + j by omega), e 0 (by omega), e 16 (by omega)]; exact h.t
  · rw [prA_row _ _ _ (show 1 ≠ 2 + j by omega), e 0 (by omega), e 11 (by omega)]; exact h.i
  · rw [prA_row _ _ _ (show 4 ≠ 2 + j by omega), e 0 (by omega), e 15 (by omega)]; exact h.c
  · rw [e 0 (by omega), e 3 (by omega), e 4 (by omega), e 5 (by omega), e 6 (by omega)]; exact h.f
  · rw [e 7 (by omega), e 8 (by omega), e 9 (by omega), e 10 (by omega)]; exact h.h i hi
theorem RR.pr1 {A : zA} {T : zS} (h : RR A T) {j : Nat} (hj : j < 2) (b : Int32) (hl : (A.2.1 (2 + j)).length < 2000) : RR (prA A j [b]) (sM (sM (sM T 14 (2000 * j + (A.2.1 (2 + j)).length) b) 13 j (nI ((A.2.1 (2 + j)).length + 1))) 12 j (gM A.1 7 j + 1)) := by
  refine h.prs hj (fun c hc => ?_) rfl (fun q hq => ?_)
  · rw [gM_off _ _ _ (show c ≠ 12 by omega), gM_off _ _ _ (show c ≠ 13 by omega), gM_off _ _ _ (show c ≠ 14 by omega)]
  · obtain ⟨p1, p2, p3, p4⟩ := h.p q hq
    rw [prA_tot]
    show (if q = j then gM A.1 7 j + 1 else gM T 12 q) = _ ∧ arr _ (if q = j then nI ((A.2.1 (2 + j)).length + 1) else gM T 13 q) (fun i => if 2000 * q + i = 2000 * j + (A.2.1 (2 + j)).length then b else gM T 14 (2000 * q + i)) 2000
    by_cases c : q = j
    · subst c
      rw [if_pos rfl, if_pos rfl, if_pos rfl, prA_own, List.take_of_length_le (by simp; omega)]
      refine ⟨rfl, by simp, by simp; omega, fun i hi => ?_⟩
      rw [List.length_append, List.length_singleton] at hi
      by_cases z : i = (A.2.1 (2 + q)).length
      · subst z
        rw [List.getElem?_append_right (Nat.le_refl _), Nat.sub_self]
        show some b = some (if _ then _ else _)
        rw [if_pos rfl]
      · rw [List.getElem?_append_left (by omega)]
        show _ = some (if _ then _ else _)
        rw [if_neg (by omega)]
        exact p4 i (by omega)
    · rw [if_neg c, if_neg c, if_neg c, prA_row _ _ _ (show 2 + q ≠ 2 + j by omega)]
      refine ⟨p1, p2, p3, fun i hi => ?_⟩
      show _ = some (if _ then _ else _)
      rw [if_neg (by omega)]
      exact p4 i hi
theorem RS.pr1 {A : zA} {T : zS} (h : RS A T) {j : Nat} (hj : j < 2) (b : Int32) (hl : (A.2.1 (2 + j)).length < 2000) : RS (prA A j [b]) (sM (sM (sM T 14 (2000 * j + (A.2.1 (2 + j)).length) b) 13 j (nI ((A.2.1 (2 + j)).length + 1))) 12 j (gM A.1 7 j + 1)) := ⟨h.1.pr1 hj b hl, h.2⟩
theorem RR.pr0 {A : zA} {T : zS} (h : RR A T) {j : Nat} (hj : j < 2) (b : Int32) (hl : 2000 ≤ (A.2.1 (2 + j)).length) : RR (prA A j [b]) (sM T 12 j (gM A.1 7 j + 1)) := by
  refine h.prs hj (fun c hc => ?_) rfl (fun q hq => ?_)
  · rw [gM_off _ _ _ (show c ≠ 12 by omega)]
  · obtain ⟨p1, p2, p3, p4⟩ := h.p q hq
    rw [prA_tot]
    show (if q = j then gM A.1 7 j + 1 else gM T 12 q) = _ ∧ arr _ (gM T 13 q) (fun i => gM T 14 (2000 * q + i)) 2000
    by_cases c : q = j
    · subst c
      rw [if_pos rfl, if_pos rfl, prA_own, List.take_append_of_le_length hl, List.take_of_length_le p3]
      exact ⟨rfl, p2, p3, p4⟩
    · rw [if_neg c, if_neg c, prA_row _ _ _ (show 2 + q ≠ 2 + j by omega)]
      exact ⟨p1, p2, p3, p4⟩
theorem RS.pr0 {A : zA} {T : zS} (h : RS A T) {j : Nat} (hj : j < 2) (b : Int32) (hl : 2000 ≤ (A.2.1 (2 + j)).length) : RS (prA A j [b]) (sM T 12 j (gM A.1 7 j + 1)) := ⟨h.1.pr0 hj b hl, h.2⟩
theorem r_prints {A : zA} {T : zS} (h : RS A T) {j : Nat} (hj : j < 2) (b : Int32) {x : Int32} (hx : x = nI j) {P : zS → Prop} (hP : rEnd (prA A j [b]) P) : w_M_prints x b T P := by
  subst hx
  obtain ⟨p1, p2, p3, p4⟩ := h.p j hj
  have ec : (nI j).toNatClampNeg = j := nI_clamp (by omega)
  unfold w_M_prints j_M_prints_40
  rw [ec, p2]
  have l : (2000 : Int32) ≤ nI (A.2.1 (2 + j)).length ↔ 2000 ≤ (A.2.1 (2 + j)).length := nI_leI (by decide) (by omega)
  rw [l]
  refine ⟨vp_in_nI hj (by decide), fun c => ⟨vp_in_nI hj (by decide), ?_⟩, fun c => ?_⟩
  · rintro S2 rfl
    rw [p1]
    exact hP _ (h.pr0 hj b c)
  · have e : (2000 : Int32) * nI j + nI (A.2.1 (2 + j)).length = nI (2000 * j + (A.2.1 (2 + j)).length) := by rw [show (2000 : Int32) = nI 2000 from rfl, pk_mul, nI_add]
    refine ⟨vin (by omega) e, ?_⟩
    rintro S3 rfl S4 rfl
    rw [clm e (by omega)]
    refine ⟨vp_in_nI hj (by decide), ?_⟩
    rintro S2 rfl
    have e13 : gM (sM T 14 (2000 * j + (A.2.1 (2 + j)).length) b) 13 j = nI (A.2.1 (2 + j)).length := p2
    rw [e13, nI_1]
    have e12 : gM (sM (sM T 14 (2000 * j + (A.2.1 (2 + j)).length) b) 13 j (nI ((A.2.1 (2 + j)).length + 1))) 12 j = gM A.1 7 j := p1
    rw [e12]
    exact hP _ (h.pr1 hj b (by omega))
/-! texts -/
theorem zlen_is {mm : Nat → Int32} {p k : Nat} (h : zlen mm p = some k) : p + k < 16384 ∧ mm (p + k) = 0 ∧ ∀ q, q < k → ¬ mm (p + q) = 0 := by
  have hl := zlen_lt h
  unfold zlen at h
  rw [List.find?_range_eq_some] at h
  obtain ⟨h1, -, h3⟩ := h
  exact ⟨hl, by simpa using h1, fun q hq => by simpa using h3 q hq⟩
theorem r_wz55 {A : zA} {a : Int32} {p K : Nat} (hz : zlen (gM A.1 3) p = some K) {P : zS → Prop} (hP : oEnd (prA A 0 (bytesOf (gM A.1 3) p K), 0) P) : ∀ (m i : Nat) (W : zS), m + i = K → RS (prA A 0 (bytesOf (gM A.1 3) p i)) W → l_M_writeUpToZero_55 a P (m + 1) W (nI (p + i)) := by
  obtain ⟨z1, z2, z3⟩ := zlen_is hz
  intro m
  induction m with
  | zero =>
    intro i W hi hW
    have hi : i = K := by omega
    subst hi
    unfold l_M_writeUpToZero_55
    have e : gM W 1 (p + i) = gM A.1 3 (p + i) := hW.m _ z1
    rw [nI_clamp (by omega), e]
    exact ⟨in_mem z1, fun _ => r_answer hW 0 hP, fun z => absurd z2 z⟩
  | succ m ih =>
    intro i W hi hW
    unfold l_M_writeUpToZero_55
    have e : gM W 1 (p + i) = gM A.1 3 (p + i) := hW.m _ (by omega)
    rw [nI_clamp (by omega), e]
    refine ⟨in_mem (by omega), fun z => absurd z (z3 i (by omega)), fun _ => ?_⟩
    refine r_prints hW (by decide) _ rfl ?_
    rw [prA_snoc, ← bytesOf_succ]
    intro W' hW'
    rw [nI_1]
    exact ih (i + 1) W' (by omega) hW'
theorem r_wz42 {A : zA} {T : zS} (h : RS A T) {a : Int32} {P : zS → Prop} (hP : oEnd (textA A a (zlen (gM A.1 3) (un a))) P) : j_M_writeUpToZero_42 a P T (if (zlen (gM A.1 3) (un a)).isSome = true then 1 else 0) := by
  unfold j_M_writeUpToZero_42
  cases hz : zlen (gM A.1 3) (un a) with
  | none =>
    rw [hz] at hP
    exact ⟨fun _ => r_fails h _ hP, fun z => absurd rfl z⟩
  | some K =>
    rw [hz] at hP
    refine ⟨fun z => absurd z (show ¬ (1 : Int32) = 0 by decide), fun _ => ⟨K + 1, ?_⟩⟩
    have := r_wz55 (a := a) hz hP K 0 T (by omega) (by
      unfold bytesOf
      rw [List.range_zero, List.map_nil, prA_nil (h.p 0 (by decide)).2.2.1]; exact h)
    rw [show un a + 0 = un a from rfl, nI_un] at this
    exact this
theorem r_writeUpToZero {A : zA} {T : zS} (h : RS A T) (a : Int32) {P : zS → Prop} (hP : oEnd (textA A a (zlen (gM A.1 3) (un a))) P) : w_M_writeUpToZero a T P := by
  have j42 := r_wz42 h hP
  have hlt := un_lt a
  have ge : ∀ n, n < 2 ^ 63 → (0 ≤ lg_cmp (lN n) (16384 : Int64) ↔ 16384 ≤ n) := fun n hn => by
    rw [lg_cmp_ge, show (16384 : Int64) = lN 16384 from rfl]; exact pk_lLE (by decide) hn
  unfold w_M_writeUpToZero w_M_whole
  rw [long_un]
  generalize un a = p at j42 hlt
  have loop : ∀ (m i : Nat), m = 16384 - (p + i) → p + i < 2 ^ 33 → (∀ q, q < i → ¬ gM A.1 3 (p + q) = 0) → l_M_writeUpToZero_7 a P (m + 2) T 0 (lN (p + i)) := by
    intro m
    induction m with
    | zero =>
      intro i hi hb hq
      unfold l_M_writeUpToZero_7
      rw [ge _ (by omega)]
      refine ⟨fun _ => ?_, fun z => absurd (by omega) z⟩
      rw [zlen_none (fun q hq9 => hq q (by omega))] at j42
      exact j42
    | succ m ih =>
      intro i hi hb hq
      unfold l_M_writeUpToZero_7
      rw [ge _ (by omega), lN_i, nI_clamp (by omega)]
      have e : gM T 1 (p + i) = gM A.1 3 (p + i) := h.m _ (by omega)
      rw [e]
      refine ⟨fun z => absurd z (by omega), fun _ => ⟨fun _ => ⟨in_mem (by omega), fun z => ?_, fun z => ?_⟩, fun z => absurd rfl z⟩⟩
      · unfold j_M_writeUpToZero_34
        rintro v1 rfl
        rw [zlen_some (by omega) z hq] at j42
        unfold l_M_writeUpToZero_7
        exact ⟨fun _ => j42, fun _ => ⟨fun z => absurd z (by decide), fun _ => j42⟩⟩
      · unfold j_M_writeUpToZero_34
        rintro v1 rfl
        rw [lN_1]
        exact ih (i + 1) (by omega) (by omega) (fun q hq9 => by
          by_cases e2 : q = i
          · subst e2; exact z
          · exact hq q (by omega))
  exact ⟨_, loop _ 0 rfl (by omega) (fun q hq => absurd hq (by omega))⟩
/-! a name in the memory -/
theorem r_nameFault {A : zA} {T : zS} (h : RS A T) (p n : Int32) {P : zS → Int32 → Prop} (hP : P T (nI (faultA (gM A.1 3) p n))) : w_M_nameFault p n T P := by
  unfold w_M_nameFault
  have e36 : ¬ (1 ≤ un n ∧ un n ≤ 24) → P T 36 := fun z => by unfold faultA at hP; rw [if_neg z] at hP; exact hP
  by_cases hn : n < 0
  · have l0 : n ≤ 0 := by
      rw [Int32.le_iff_toInt_le]
      rw [Int32.lt_iff_toInt_lt] at hn
      omega
    rw [neg_iff] at hn
    exact ⟨fun _ => e36 (by omega), fun c => absurd l0 c⟩
  obtain ⟨en, hlt⟩ := un_pos hn
  have l0 : n ≤ 0 ↔ un n ≤ 0 := le_of_un (m := 0) (by decide) hn
  have l24 : n ≤ (24 : Int32) ↔ un n ≤ 24 := le_of_un (m := 24) (by decide) hn
  rw [l0, l24]
  refine ⟨fun c => e36 (by omega), fun c => ⟨fun c2 => r_isArea _ _ ?_, fun c2 => e36 (by omega)⟩⟩
  unfold faultA at hP
  rw [if_pos (by omega)] at hP
  by_cases c3 : un p + un n ≤ 16384
  · rw [if_pos c3] at hP ⊢
    refine ⟨fun z => absurd z (by decide), fun _ => ?_⟩
    generalize hL : bytesOf (gM A.1 3) (un p) (un n) = L at hP
    have hLl : L.length = un n := by rw [← hL, bytesOf_len]
    have hLa : ∀ i (hi : i < L.length), L[i] = gM T 1 (un p + i) := fun i hi => by
      have := bytesOf_at (gM A.1 3) (un p) (n := un n) (i := i) (by omega)
      rw [hL, List.getElem?_eq_getElem hi] at this
      rw [Option.some.inj this]; exact (h.m _ (by omega)).symm
    have zf := zr_fz (l := L) (by omega)
    have loop : ∀ (k i : Nat), k + i = un n → l_M_nameFault_29 p n P (k + 1) T (if zr L i = true then 1 else 0) (nI i) := by
      intro k
      induction k with
      | zero =>
        intro i hi
        have hi : i = L.length := by omega
        unfold l_M_nameFault_29
        have le : n ≤ nI i := by rw [hi, hLl, nI_un]; exact Int32.le_refl n
        refine ⟨fun _ => ?_, fun z => absurd le z⟩
        rw [hi]
        cases hz : zr L L.length with
        | false =>
          rw [if_pos (zf.mpr hz)] at hP
          exact ⟨fun _ => hP, fun z => absurd rfl z⟩
        | true =>
          rw [if_neg (fun z => by rw [zf.mp z] at hz; exact Bool.noConfusion hz)] at hP
          exact ⟨fun z => absurd z (by decide), fun _ => hP⟩
      | succ k ih =>
        intro i hi
        have hil : i < L.length := by omega
        have nxt := ih (i + 1) (by omega)
        rw [zr_succ hil] at nxt
        have ea : p + nI i = nI (un p + i) := by rw [← nI_add, nI_un]
        unfold l_M_nameFault_29
        rw [clm ea (by omega), ← hLa i hil]
        refine ⟨fun z => ?_, fun _ => ?_⟩
        · rw [en, nI_leI hlt (by omega)] at z
          omega
        · cases hz : zr L i with
          | false =>
            rw [hz] at nxt
            refine ⟨fun _ => ⟨vin (by omega) ea, fun c => ?_, fun c => ?_⟩, fun z => absurd rfl z⟩
            · unfold j_M_nameFault_51 j_M_nameFault_56
              rw [nI_1]
              rw [c] at nxt
              exact nxt
            · unfold j_M_nameFault_56
              rw [nI_1]
              have : (L[i] == 0) = false := by simpa using c
              rw [this] at nxt
              exact nxt
          | true =>
            rw [hz] at nxt
            refine ⟨fun z => absurd z (by decide), fun _ => ?_⟩
            unfold j_M_nameFault_51 j_M_nameFault_56
            rw [nI_1]
            exact nxt
    exact ⟨_, loop (un n) 0 (by omega)⟩
  · rw [if_neg c3] at hP ⊢
    exact ⟨fun _ => hP, fun z => absurd rfl z⟩
theorem r_find {A : zA} {T : zS} (h : RS A T) {p n : Nat} (hp : p + n ≤ 16384) (hn : n ≤ 24) {P : zS → Int32 → Prop} (hP : P T (match findA A (bytesOf (gM A.1 3) p n) with | some k => nI k | none => -1)) : w_M_find (nI p) (nI n) T P := by
  obtain ⟨f1, f2, f3⟩ := h.f
  have loop : ∀ (m i : Nat), m + i = A.2.2.length → (∀ q f, q < i → A.2.2[q]? = some f → ¬ f.1 = bytesOf (gM A.1 3) p n) → l_M_find_2 (nI p) (nI n) P (m + 1) T (nI i) := by
    intro m
    induction m with
    | zero =>
      intro i hi hq
      unfold l_M_find_2
      rw [f1]
      refine ⟨fun _ => ?_, fun c => absurd (nI_le (by omega) (by omega)) c⟩
      have : findA A (bytesOf (gM A.1 3) p n) = none := by
        unfold findA
        rw [List.findIdx?_eq_none_iff]
        intro f hf
        obtain ⟨q, hq1⟩ := List.getElem?_of_mem hf
        have := hq q f (by have := (List.getElem?_eq_some_iff.mp hq1).1; omega) hq1
        simpa using this
      rw [this] at hP; exact hP
    | succ m ih =>
      intro i hi hq
      have hi1 : i < A.2.2.length := by omega
      have hf : A.2.2[i]? = some A.2.2[i] := List.getElem?_eq_getElem hi1
      obtain ⟨-, g2, g3, g4⟩ := f3 _ _ hf
      have nxt : ¬ A.2.2[i].1 = bytesOf (gM A.1 3) p n → l_M_find_2 (nI p) (nI n) P (m + 1) T (nI i + 1) := fun ne => by
        rw [nI_1]
        exact ih (i + 1) (by omega) (fun q f hq9 hf9 => by
          by_cases e2 : q = i
          · subst e2
            rw [hf] at hf9
            rw [← Option.some.inj hf9]; exact ne
          · exact hq q f (by omega) hf9)
      have yes : A.2.2[i].1 = bytesOf (gM A.1 3) p n → P T (nI i) := fun e => by
        have : findA A (bytesOf (gM A.1 3) p n) = some i := by
          unfold findA
          rw [List.findIdx?_eq_some_iff_getElem]
          refine ⟨hi1, by simp [e], fun j hj => ?_⟩
          have := hq j A.2.2[j] hj (List.getElem?_eq_getElem (by omega))
          simpa using this
        rw [this] at hP
        exact hP
      unfold l_M_find_2
      rw [f1, nI_clamp (by omega), g2]
      refine ⟨fun c => ?_, fun _ => ⟨vp_in_nI (by omega) (by decide), fun c => ?_, fun c => ?_⟩⟩
      · rw [nI_leI (by omega) (by omega)] at c
        omega
      · rw [nI_eq (by omega) (by omega)] at c
        unfold j_M_find_25
        have inner : ∀ (mm j : Nat), mm + j = n → (∀ q, q < j → A.2.2[i].1[q]? = (bytesOf (gM A.1 3) p n)[q]?) → l_M_find_30 (nI p) (nI n) P (fun S x3 => l_M_find_2 (nI p) (nI n) P (m + 1) S x3) (mm + 1) T (nI i) 1 (nI j) := by
          intro mm
          induction mm with
          | zero =>
            intro j hj hs
            have hj : j = n := by omega
            unfold l_M_find_30 j_M_find_78
            refine ⟨fun _ => ⟨fun z => absurd z (by decide), fun _ => yes (List.ext_getElem? (fun q => ?_))⟩, fun z => absurd (nI_le (by omega) (by omega)) z⟩
            by_cases hq9 : q < j
            · exact hs q hq9
            · rw [List.getElem?_eq_none (by omega), List.getElem?_eq_none (by rw [bytesOf_len]; omega)]
          | succ mm ih2 =>
            intro j hj hs
            have ex : (24 : Int32) * nI i + nI j = nI (24 * i + j) := by rw [show (24 : Int32) = nI 24 from rfl, pk_mul, nI_add]
            have ea : nI p + nI j = nI (p + j) := nI_add p j
            have e5 : some (gM T 5 (24 * i + j)) = A.2.2[i].1[j]? := (g4 j (by omega)).symm
            have e1 : gM T 1 (p + j) = gM A.1 3 (p + j) := h.m _ (by omega)
            unfold l_M_find_30
            rw [clm ex (by omega), clm ea (by omega), e1]
            refine ⟨fun z => ?_, fun _ => ⟨fun z => absurd z (by decide), fun _ => ⟨vin (by omega) ex, vin (by omega) ea, fun z => ?_, fun z => ?_⟩⟩⟩
            · rw [nI_leI (by omega) (by omega)] at z
              omega
            · unfold j_M_find_70
              rw [nI_1]
              refine ih2 (j + 1) (by omega) (fun q hq9 => ?_)
              by_cases e : q = j
              · subst e
                rw [← e5, z, bytesOf_at _ _ (by omega)]
              · exact hs q (by omega)
            · have ne : ¬ A.2.2[i].1 = bytesOf (gM A.1 3) p n := fun w => z (by
                rw [w, bytesOf_at _ _ (by omega)] at e5
                exact Option.some.inj e5)
              unfold j_M_find_70 l_M_find_30 j_M_find_78
              exact ⟨fun _ => ⟨fun _ => nxt ne, fun z => absurd rfl z⟩, fun _ => ⟨fun _ => ⟨fun _ => nxt ne, fun z => absurd rfl z⟩, fun z => absurd rfl z⟩⟩
        exact ⟨_, inner n 0 (by omega) (fun q hq => absurd hq (by omega))⟩
      · unfold j_M_find_25
        refine ⟨1, ?_⟩
        unfold l_M_find_30 j_M_find_78
        have ne : ¬ A.2.2[i].1 = bytesOf (gM A.1 3) p n := fun z => c (by rw [z, bytesOf_len])
        exact ⟨fun _ => ⟨fun _ => nxt ne, fun z => absurd rfl z⟩, fun _ => ⟨fun _ => ⟨fun _ => nxt ne, fun z => absurd rfl z⟩, fun z => absurd rfl z⟩⟩
  exact ⟨_, loop A.2.2.length 0 (by omega) (fun q f hq _ => absurd hq (by omega))⟩
