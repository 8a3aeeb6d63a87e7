/-! the reference's numbers stand for the state between -/
def arr (l : List Int32) (n : Int32) (m : Nat → Int32) (cap : Nat) : Prop := n = nI l.length ∧ l.length ≤ cap ∧ ∀ i, i < l.length → l[i]? = some (m i)
def RRs (A : zA) (s : Nat → Int32) : Prop := s 3 = gM A.1 0 0 ∧ s 4 = gM A.1 0 2 ∧ s 5 = gM A.1 0 3 ∧ s 6 = gM A.1 0 4 ∧ s 24 = gM A.1 0 6 ∧ s 27 = gM A.1 0 7 ∧ s 8 = gM A.1 0 8 ∧ s 9 = gM A.1 0 9
def RRx (A : zA) (x : Nat → Int32) : Prop := ∀ r, r < 32 → x r = gM A.1 2 r
def RRm (A : zA) (m : Nat → Int32) : Prop := ∀ i, i < 16384 → m i = gM A.1 3 i
def RRp (A : zA) (pr kp ps : Nat → Int32) : Prop := ∀ j, j < 2 → pr j = gM A.1 7 j ∧ arr (A.2.1 (2 + j)) (kp j) (fun i => ps (2000 * j + i)) 2000
def RRf (fs : List (List Int32 × List Int32)) (n : Int32) (dt sz nm ns : Nat → Int32) : Prop := n = nI fs.length ∧ fs.length ≤ 12 ∧ ∀ k f, fs[k]? = some f → arr f.2 (sz k) (fun i => dt (2000 * k + i)) 2000 ∧ arr f.1 (ns k) (fun i => nm (24 * k + i)) 24
def RRh (A : zA) (kd its pl my : Nat → Int32) : Prop := ∀ h, h < 10 → kd (h + 1) = gM A.1 4 h ∧ (gM A.1 4 h ≠ 0 → pl (h + 1) = gM A.1 5 h ∧ my (h + 1) = gM A.1 6 h) ∧ (gM A.1 4 h = 1 → ∃ q, gH A.1 h = some q ∧ its (h + 1) = nI q)
def RR (A : zA) (T : zS) : Prop := RRs A (gM T 0) ∧ RRx A (gM T 2) ∧ RRm A (gM T 1) ∧ RRp A (gM T 12) (gM T 13) (gM T 14) ∧ arr (A.2.1 0) (gM T 0 29) (gM T 16) 2100 ∧ arr (A.2.1 1) (gM T 0 20) (gM T 11) 400 ∧ arr (A.2.1 4) (gM T 0 26) (gM T 15) 80 ∧ RRf A.2.2 (gM T 0 14) (gM T 3) (gM T 4) (gM T 5) (gM T 6) ∧ RRh A (gM T 7) (gM T 8) (gM T 9) (gM T 10) ∧ gJ T = gJ A.1
theorem RR.s {A : zA} {T : zS} (h : RR A T) : RRs A (gM T 0) := h.1
theorem RR.x {A : zA} {T : zS} (h : RR A T) : RRx A (gM T 2) := h.2.1
theorem RR.m {A : zA} {T : zS} (h : RR A T) : RRm A (gM T 1) := h.2.2.1
theorem RR.p {A : zA} {T : zS} (h : RR A T) : RRp A (gM T 12) (gM T 13) (gM T 14) := h.2.2.2.1
theorem RR.t {A : zA} {T : zS} (h : RR A T) : arr (A.2.1 0) (gM T 0 29) (gM T 16) 2100 := h.2.2.2.2.1
theorem RR.i {A : zA} {T : zS} (h : RR A T) : arr (A.2.1 1) (gM T 0 20) (gM T 11) 400 := h.2.2.2.2.2.1
theorem RR.c {A : zA} {T : zS} (h : RR A T) : arr (A.2.1 4) (gM T 0 26) (gM T 15) 80 := h.2.2.2.2.2.2.1
theorem RR.f {A : zA} {T : zS} (h : RR A T) : RRf A.2.2 (gM T 0 14) (gM T 3) (gM T 4) (gM T 5) (gM T 6) := h.2.2.2.2.2.2.2.1
theorem RR.h {A : zA} {T : zS} (h : RR A T) : RRh A (gM T 7) (gM T 8) (gM T 9) (gM T 10) := h.2.2.2.2.2.2.2.2.1
theorem RR.j {A : zA} {T : zS} (h : RR A T) : gJ T = gJ A.1 := h.2.2.2.2.2.2.2.2.2
theorem RRp.row {A : zA} {a b c : Nat → Int32} (h : RRp A a b c) {t : Nat} (ht : t < 2 ∨ 3 < t) (l : List Int32) : RRp (aRow A t l) a b c := by
  intro j hj
  have e : (aRow A t l).2.1 (2 + j) = A.2.1 (2 + j) := if_neg (by omega)
  rw [e]
  exact h j hj
theorem RR.thr {A : zA} {T : zS} (h : RR A T) (v : Int32) : RR A (sM T 0 0 v) := ⟨h.s, h.x, h.m, h.p, h.t, h.i, h.c, h.f, h.h, h.j⟩
theorem RR.pc {A : zA} {T : zS} (h : RR A T) (v : Int32) : RR (aM A 0 0 v) (sM T 0 3 v) := ⟨⟨rfl, h.s.2⟩, h.x, h.m, h.p, h.t, h.i, h.c, h.f, h.h, h.j⟩
theorem RR.state {A : zA} {T : zS} (h : RR A T) (v : Int32) : RR (aM A 0 2 v) (sM T 0 4 v) := ⟨⟨h.s.1, rfl, h.s.2.2⟩, h.x, h.m, h.p, h.t, h.i, h.c, h.f, h.h, h.j⟩
theorem RR.trap {A : zA} {T : zS} (h : RR A T) (v : Int32) : RR (aM A 0 3 v) (sM T 0 5 v) := ⟨⟨h.s.1, h.s.2.1, rfl, h.s.2.2.2⟩, h.x, h.m, h.p, h.t, h.i, h.c, h.f, h.h, h.j⟩
theorem RR.code {A : zA} {T : zS} (h : RR A T) (v : Int32) : RR (aM A 0 4 v) (sM T 0 6 v) := ⟨⟨h.s.1, h.s.2.1, h.s.2.2.1, rfl, h.s.2.2.2.2⟩, h.x, h.m, h.p, h.t, h.i, h.c, h.f, h.h, h.j⟩
theorem RR.err {A : zA} {T : zS} (h : RR A T) (v : Int32) : RR (aM A 0 6 v) (sM T 0 24 v) := ⟨⟨h.s.1, h.s.2.1, h.s.2.2.1, h.s.2.2.2.1, rfl, h.s.2.2.2.2.2⟩, h.x, h.m, h.p, h.t, h.i, h.c, h.f, h.h, h.j⟩
theorem RR.clk {A : zA} {T : zS} (h : RR A T) (v : Int32) : RR (aM A 0 7 v) (sM T 0 27 v) := ⟨⟨h.s.1, h.s.2.1, h.s.2.2.1, h.s.2.2.2.1, h.s.2.2.2.2.1, rfl, h.s.2.2.2.2.2.2⟩, h.x, h.m, h.p, h.t, h.i, h.c, h.f, h.h, h.j⟩
theorem RR.cal {A : zA} {T : zS} (h : RR A T) (v : Int32) : RR (aM A 0 8 v) (sM T 0 8 v) := ⟨⟨h.s.1, h.s.2.1, h.s.2.2.1, h.s.2.2.2.1, h.s.2.2.2.2.1, h.s.2.2.2.2.2.1, rfl, h.s.2.2.2.2.2.2.2⟩, h.x, h.m, h.p, h.t, h.i, h.c, h.f, h.h, h.j⟩
theorem RR.lat {A : zA} {T : zS} (h : RR A T) (v : Int32) : RR (aM A 0 9 v) (sM T 0 9 v) := ⟨⟨h.s.1, h.s.2.1, h.s.2.2.1, h.s.2.2.2.1, h.s.2.2.2.2.1, h.s.2.2.2.2.2.1, h.s.2.2.2.2.2.2.1, rfl⟩, h.x, h.m, h.p, h.t, h.i, h.c, h.f, h.h, h.j⟩
theorem RR.stp {A : zA} {T : zS} (h : RR A T) (v : Int64) : RR (aJ A v) (sJ T v) := ⟨h.s, h.x, h.m, h.p, h.t, h.i, h.c, h.f, h.h, rfl⟩
theorem RR.reg {A : zA} {T : zS} (h : RR A T) (r : Nat) (v : Int32) : RR (aM A 2 r v) (sM T 2 r v) := by
  refine ⟨h.s, fun q hq => ?_, h.m, h.p, h.t, h.i, h.c, h.f, h.h, h.j⟩
  rw [gM_sM, gM_aM, if_pos rfl, if_pos rfl, h.x q hq]
/-- T is T0 but that l lies over component c from o on -/
def cpy (c o : Nat) (l : List Int32) (T0 T : zS) : Prop := (∀ c', c' ≠ c → gM T c' = gM T0 c') ∧ gM T c = mset (gM T0 c) o l ∧ T.2 = T0.2
theorem cpy.nil (c o : Nat) (T : zS) : cpy c o [] T T := ⟨fun _ _ => rfl, (mset_nil _ _).symm, rfl⟩
theorem mset_one (f : Nat → Int32) (p : Nat) (v : Int32) : (fun i => if i = p then v else f i) = mset f p [v] := by
  funext i
  unfold mset
  by_cases e : i = p
  · subst e
    rw [if_pos rfl, if_pos ⟨Nat.le_refl _, by simp⟩, Nat.sub_self]; rfl
  · rw [if_neg e, if_neg (by simp; omega)]
theorem gM_one (T : zS) (c p : Nat) (v : Int32) : gM (sM T c p v) c = mset (gM T c) p [v] := by
  rw [← mset_one]
  funext i
  rw [gM_sM, if_pos rfl]
theorem gM_off (T : zS) {c c' : Nat} (p : Nat) (v : Int32) (h : c' ≠ c) : gM (sM T c p v) c' = gM T c' := by
  funext i
  rw [gM_sM, if_neg h]
theorem cpy.snoc {c o : Nat} {l : List Int32} {T0 T : zS} (h : cpy c o l T0 T) {p : Nat} (hp : p = o + l.length) (v : Int32) : cpy c o (l ++ [v]) T0 (sM T c p v) := by
  refine ⟨fun c' hc => (gM_off T p v hc).trans (h.1 c' hc), ?_, h.2.2⟩
  rw [gM_one, h.2.1, hp, mset_snoc]
theorem cpy.j {c o : Nat} {l : List Int32} {T0 T : zS} (h : cpy c o l T0 T) : gJ T = gJ T0 := gJ_of (off2 h.2.2)
theorem mset_at (f : Nat → Int32) (o : Nat) (l : List Int32) {i : Nat} (h : i < l.length) : l[i]? = some (mset f o l (o + i)) := by
  unfold mset
  rw [if_pos (by omega), Nat.add_sub_cancel_left, List.getElem?_eq_getElem h]; rfl
theorem mset_out (f : Nat → Int32) (o : Nat) (l : List Int32) {i : Nat} (h : i < o ∨ o + l.length ≤ i) : mset f o l i = f i := by
  unfold mset
  rw [if_neg (by omega)]
theorem mset_cong {f g : Nat → Int32} {N : Nat} (h : ∀ i, i < N → f i = g i) (o : Nat) (l : List Int32) : ∀ i, i < N → mset f o l i = mset g o l i := by
  intro i hi
  unfold mset
  split
  · rfl
  · exact h i hi
theorem RR.cmem {A : zA} {T T' : zS} {o : Nat} {l : List Int32} (h : RR A T) (c : cpy 1 o l T T') : RR (aMem A (mset (gM A.1 3) o l)) T' := by
  have e : ∀ c', c' ≠ 1 → gM T' c' = gM T c' := c.1
  refine ⟨?_, ?_, ?_, ?_, ?_, ?_, ?_, ?_, ?_, c.j.trans h.j⟩
  · rw [e 0 (by decide)]; exact h.s
  · rw [e 2 (by decide)]; exact h.x
  · rw [c.2.1]; exact mset_cong h.m o l
  · rw [e 12 (by decide), e 13 (by decide), e 14 (by decide)]; exact h.p
  · rw [e 0 (by decide), e 16 (by decide)]; exact h.t
  · rw [e 0 (by decide), e 11 (by decide)]; exact h.i
  · rw [e 0 (by decide), e 15 (by decide)]; exact h.c
  · rw [e 0 (by decide), e 3 (by decide), e 4 (by decide), e 5 (by decide), e 6 (by decide)]; exact h.f
  · rw [e 7 (by decide), e 8 (by decide), e 9 (by decide), e 10 (by decide)]; exact h.h
/-- the tape's number alone -/
theorem RR.taped {A : zA} {T : zS} (h : RR A T) {n : Nat} (hn : n ≤ (A.2.1 0).length) : RR (aRow A 0 ((A.2.1 0).take n)) (sM T 0 29 (nI n)) := by
  refine ⟨h.s, h.x, h.m, h.p.row (Or.inl (by decide)) _, ?_, h.i, h.c, h.f, h.h, h.j⟩
  have hl : ((A.2.1 0).take n).length = n := by rw [List.length_take]; omega
  refine ⟨by show nI n = _; rw [show (aRow A 0 ((A.2.1 0).take n)).2.1 0 = (A.2.1 0).take n from rfl, hl], ?_, fun i hi => ?_⟩
  · rw [show (aRow A 0 ((A.2.1 0).take n)).2.1 0 = (A.2.1 0).take n from rfl, hl]
    have := h.t.2.1; omega
  · rw [show (aRow A 0 ((A.2.1 0).take n)).2.1 0 = (A.2.1 0).take n from rfl] at hi ⊢
    rw [hl] at hi
    rw [List.getElem?_take_of_lt hi]
    exact h.t.2.2 i (by omega)
theorem RR.tape0 {A : zA} {T : zS} (h : RR A T) : RR (tape0 A) (sM T 0 29 0) := by
  have := h.taped (n := 0) (Nat.zero_le _)
  rw [List.take_zero] at this
  exact this
/-- the byte that a signed shift brings -/
theorem sbyte (v : Int32) {k : Nat} (hk : k < 4) {s : Int32} (hs : s = nI (8 * k)) : (v >>> (s &&& 31)) &&& 255 = byteOf v k := by
  unfold byteOf
  rw [hs, show (8 : Int32) = nI 8 from rfl, pk_mul]
  apply b_ext
  intro i hi
  rw [b_and, b_and, b_255, b_sshr (8 * k) (by omega) v hi, b_ushr (8 * k) (by omega)]
  by_cases c : i < 8
  · rw [if_pos (by omega)]
  · simp [c]
theorem r_four_loop {T0 : zS} {v : Int32} {n : Nat} (hn : n + 4 ≤ 2120) (h29 : gM T0 0 29 = nI n) {P : zS → Prop} (hP : ∀ T, cpy 16 n (fourL v) T0 T → P (sM T 0 29 (nI (n + 4)))) : w_M_four v T0 P := by
  have step : ∀ (m i : Nat) (T : zS) (l : List Int32), i < 4 → l.length = i → cpy 16 n l T0 T → (∀ T', cpy 16 n (l ++ [byteOf v (3 - i)]) T0 T' → l_M_four_2 v P m T' (nI (i + 1))) → l_M_four_2 v P (m + 1) T (nI i) := by
    intro m i T l hi hl hc hk
    unfold l_M_four_2
    have e29 : gM T 0 29 = nI n := by rw [hc.1 0 (by decide)]; exact h29
    rw [e29, nI_add]
    refine ⟨fun z => ?_, fun _ => ⟨vp_in_nI (by omega) (by decide), ?_⟩⟩
    · rw [show (4 : Int32) = nI 4 from rfl, nI_leI (by decide) (by omega)] at z
      omega
    · rintro S3 rfl
      have es : (24 : Int32) - (8 : Int32) * nI i = nI (8 * (3 - i)) := by
        rw [show (8 : Int32) = nI 8 from rfl, show (24 : Int32) = nI 24 from rfl, pk_mul, pk_sub (by omega)]
        congr 1
        omega
      rw [nI_clamp (by omega), nI_1, sbyte v (by omega) es]
      exact hk _ (hc.snoc (by rw [hl]) _)
  unfold w_M_four
  refine ⟨5, step 4 0 T0 [] (by decide) rfl (cpy.nil 16 n T0) (fun T1 c1 => ?_)⟩
  refine step 3 1 T1 _ (by decide) rfl c1 (fun T2 c2 => ?_)
  refine step 2 2 T2 _ (by decide) rfl c2 (fun T3 c3 => ?_)
  refine step 1 3 T3 _ (by decide) rfl c3 (fun T4 c4 => ?_)
  unfold l_M_four_2
  refine ⟨fun _ => ?_, fun z => absurd (show (4 : Int32) ≤ nI 4 by decide) z⟩
  rintro S1 rfl
  have e29 : gM T4 0 29 = nI n := by rw [c4.1 0 (by decide)]; exact h29
  rw [e29, show (4 : Int32) = nI 4 from rfl, nI_add]
  exact hP T4 c4
/-- bytes come behind the tape -/
theorem RR.push {A : zA} {T T' : zS} {l : List Int32} (h : RR A T) (hl : (A.2.1 0).length + l.length ≤ 2100) (c : cpy 16 (A.2.1 0).length l T T') : RR (aRow A 0 (A.2.1 0 ++ l)) (sM T' 0 29 (nI ((A.2.1 0).length + l.length))) := by
  have e : ∀ c', c' ≠ 16 → gM T' c' = gM T c' := c.1
  have e0 : gM (sM T' 0 29 (nI ((A.2.1 0).length + l.length))) 0 = gM (sM T 0 29 (nI ((A.2.1 0).length + l.length))) 0 := by
    rw [gM_one, gM_one, e 0 (by decide)]
  have f : ∀ c', c' ≠ 0 → gM (sM T' 0 29 (nI ((A.2.1 0).length + l.length))) c' = gM T' c' := fun c' hc => gM_off _ _ _ hc
  refine ⟨?_, ?_, ?_, ?_, ?_, ?_, ?_, ?_, ?_, c.j.trans h.j⟩
  · rw [e0]; exact h.s
  · rw [f 2 (by decide), e 2 (by decide)]; exact h.x
  · rw [f 1 (by decide), e 1 (by decide)]; exact h.m
  · rw [f 12 (by decide), f 13 (by decide), f 14 (by decide), e 12 (by decide), e 13 (by decide), e 14 (by decide)]; exact h.p.row (Or.inl (by decide)) _
  · rw [f 16 (by decide)]
    refine ⟨by show nI _ = nI (A.2.1 0 ++ l).length; rw [List.length_append], by show (A.2.1 0 ++ l).length ≤ 2100; rw [List.length_append]; exact hl, fun i hi => ?_⟩
    have hi : i < (A.2.1 0 ++ l).length := hi
    show (A.2.1 0 ++ l)[i]? = _
    rw [List.length_append] at hi
    rw [c.2.1]
    by_cases z : i < (A.2.1 0).length
    · rw [List.getElem?_append_left z, mset_out _ _ _ (Or.inl z)]
      exact h.t.2.2 i z
    · rw [List.getElem?_append_right (by omega), mset_at (gM T 16) (A.2.1 0).length l (by omega)]
      congr 2
      omega
  · rw [e0, f 11 (by decide), e 11 (by decide)]; exact h.i
  · rw [e0, f 15 (by decide), e 15 (by decide)]; exact h.c
  · rw [e0, f 3 (by decide), f 4 (by decide), f 5 (by decide), f 6 (by decide), e 3 (by decide), e 4 (by decide), e 5 (by decide), e 6 (by decide)]; exact h.f
  · rw [f 7 (by decide), f 8 (by decide), f 9 (by decide), f 10 (by decide), e 7 (by decide), e 8 (by decide), e 9 (by decide), e 10 (by decide)]; exact h.h
theorem r_four {A : zA} {T : zS} (h : RR A T) (hl : (A.2.1 0).length + 4 ≤ 2100) (v : Int32) {P : zS → Prop} (hP : ∀ T', RR (aRow A 0 (A.2.1 0 ++ fourL v)) T' → P T') : w_M_four v T P := by
  refine r_four_loop (by omega) h.t.1 (fun T1 c1 => ?_)
  exact hP _ (h.push (l := fourL v) hl c1)
theorem m_feed {A : zA} {T : zS} (h : RR A T) (a b c d e : Int32) : w_M_feed a b c d e T (fun T' r => RR (feedA A a b c d e).1 T' ∧ r = (feedA A a b c d e).2) := by
  have hl := h.t.2.1
  unfold w_M_feed
  rintro S1 rfl
  have h1 := h.thr 0
  have e29 : gM (sM T 0 0 0) 0 29 = nI (A.2.1 0).length := h.t.1
  have l20 : gM (sM T 0 0 0) 0 29 + (20 : Int32) ≤ (2100 : Int32) ↔ (A.2.1 0).length + 20 ≤ 2100 := by
    rw [e29, show (20 : Int32) = nI 20 from rfl, nI_add]
    exact nI_leI (by omega) (by decide)
  rw [l20]
  have fl : ∀ v : Int32, (fourL v).length = 4 := fun v => rfl
  unfold feedA
  refine ⟨fun c20 => ?_, fun c20 => ?_⟩
  · rw [if_pos c20]
    refine r_four h1 (by omega) a (fun T1 h1 => ?_)
    refine r_four h1 (by show (A.2.1 0 ++ fourL a).length + 4 ≤ 2100; simp [fl]; omega) b (fun T2 h2 => ?_)
    refine r_four h2 (by show (A.2.1 0 ++ fourL a ++ fourL b).length + 4 ≤ 2100; simp [fl]; omega) c (fun T3 h3 => ?_)
    refine r_four h3 (by show (A.2.1 0 ++ fourL a ++ fourL b ++ fourL c).length + 4 ≤ 2100; simp [fl]; omega) d (fun T4 h4 => ?_)
    refine r_four h4 (by show (A.2.1 0 ++ fourL a ++ fourL b ++ fourL c ++ fourL d).length + 4 ≤ 2100; simp [fl]; omega) e (fun T5 h5 => ?_)
    have e5 : aRow (aRow (aRow (aRow (aRow A 0 (A.2.1 0 ++ fourL a)) 0 (A.2.1 0 ++ fourL a ++ fourL b)) 0 (A.2.1 0 ++ fourL a ++ fourL b ++ fourL c)) 0 (A.2.1 0 ++ fourL a ++ fourL b ++ fourL c ++ fourL d)) 0 (A.2.1 0 ++ fourL a ++ fourL b ++ fourL c ++ fourL d ++ fourL e) = aRow A 0 (A.2.1 0 ++ feedL a b c d e) := by
      refine Prod.ext rfl (Prod.ext ?_ rfl)
      funext s
      show (if s = 0 then _ else if s = 0 then _ else if s = 0 then _ else if s = 0 then _ else if s = 0 then _ else A.2.1 s) = if s = 0 then _ else A.2.1 s
      by_cases z : s = 0
      · simp only [if_pos z]; unfold feedL; simp
      · simp only [if_neg z]
    have h5 : RR (aRow (aRow (aRow (aRow (aRow A 0 (A.2.1 0 ++ fourL a)) 0 (A.2.1 0 ++ fourL a ++ fourL b)) 0 (A.2.1 0 ++ fourL a ++ fourL b ++ fourL c)) 0 (A.2.1 0 ++ fourL a ++ fourL b ++ fourL c ++ fourL d)) 0 (A.2.1 0 ++ fourL a ++ fourL b ++ fourL c ++ fourL d ++ fourL e)) T5 := h5
    rw [e5] at h5
    refine ⟨h5, ?_⟩
    rw [h5.t.1]
    show nI (A.2.1 0 ++ feedL a b c d e).length = _
    unfold feedL
    simp [fl]
  · rw [if_neg c20]
    exact ⟨h1, rfl⟩
theorem m_end {A : zA} {T : zS} (h : RR A T) (n : Int32) : w_M_end n T (fun T' r => RR (endA A n).1 T' ∧ r = (endA A n).2) := by
  have hl := h.t.2.1
  unfold w_M_end
  rintro S1 rfl
  have h1 := h.thr 0
  have e29 : gM (sM T 0 0 0) 0 29 = nI (A.2.1 0).length := h.t.1
  rw [e29]
  unfold endA
  refine ⟨fun c => ?_, fun c => ?_⟩
  · rw [neg_iff] at c
    rw [if_neg (by omega)]; exact ⟨h1, rfl⟩
  · rw [le_of_un (by omega) c]
    refine ⟨fun c2 => ?_, fun c2 => ?_⟩
    · rintro S2 rfl
      rw [if_pos c2]
      have := h1.taped c2
      rw [nI_un] at this
      exact ⟨this, rfl⟩
    · rw [if_neg c2]; exact ⟨h1, rfl⟩
theorem m_clock {A : zA} {T : zS} (h : RR A T) (v : Int32) : w_M_clock v T (fun T' => RR (clockA A v) T') := by
  unfold w_M_clock
  rintro S1 rfl S2 rfl
  exact (h.thr 0).clk v
theorem m_begin {A : zA} {T : zS} (h : RR A T) : w_M_begin T (fun T' => RR (beginA A) T') := by
  unfold w_M_begin
  rintro S1 rfl
  have h1 := h.thr 0
  generalize sM T 0 0 0 = U at h1
  have loop : ∀ (k i : Nat) (V : zS), k + i = 32 → cpy 2 0 (List.replicate i 0) U V → l_M_begin_7 (fun T' => RR (beginA A) T') (k + 1) V (nI i) := by
    intro k
    induction k with
    | zero =>
      intro i V hi c
      have hi : i = 32 := by omega
      subst hi
      unfold l_M_begin_7
      refine ⟨fun _ => ?_, fun z => absurd (show (32 : Int32) ≤ nI 32 by decide) z⟩
      rintro S1 rfl S2 rfl S3 rfl S4 rfl
      have h2 : RR (aRegs0 A) V := by
        have e : ∀ c', c' ≠ 2 → gM V c' = gM U c' := c.1
        refine ⟨?_, fun r hr => ?_, ?_, ?_, ?_, ?_, ?_, ?_, ?_, c.j.trans h1.j⟩
        · rw [e 0 (by decide)]; exact h1.s
        · rw [c.2.1]
          have := mset_at (gM U 2) 0 (List.replicate 32 0) (i := r) (by rw [List.length_replicate]; exact hr)
          rw [Nat.zero_add, List.getElem?_replicate, if_pos hr] at this
          exact (Option.some.inj this).symm
        · rw [e 1 (by decide)]; exact h1.m
        · rw [e 12 (by decide), e 13 (by decide), e 14 (by decide)]; exact h1.p
        · rw [e 0 (by decide), e 16 (by decide)]; exact h1.t
        · rw [e 0 (by decide), e 11 (by decide)]; exact h1.i
        · rw [e 0 (by decide), e 15 (by decide)]; exact h1.c
        · rw [e 0 (by decide), e 3 (by decide), e 4 (by decide), e 5 (by decide), e 6 (by decide)]; exact h1.f
        · rw [e 7 (by decide), e 8 (by decide), e 9 (by decide), e 10 (by decide)]; exact h1.h
      exact (((h2.pc 0).state 0).trap 0).code 0
    | succ k ih =>
      intro i V hi c
      unfold l_M_begin_7
      refine ⟨fun z => ?_, fun _ => ⟨vp_in_nI (by omega) (by decide), ?_⟩⟩
      · rw [show (32 : Int32) = nI 32 from rfl, nI_leI (by decide) (by omega)] at z
        omega
      · rintro S6 rfl
        rw [nI_clamp (by omega), nI_1]
        refine ih (i + 1) _ (by omega) ?_
        rw [List.replicate_succ']
        exact c.snoc (by rw [List.length_replicate]; omega) 0
  exact ⟨33, loop 32 0 U rfl (cpy.nil 2 0 U)⟩
theorem m_state {A : zA} {T : zS} (h : RR A T) : w_M_state T (fun T' r => RR A T' ∧ r = gM A.1 0 2) := by
  unfold w_M_state
  rintro S1 rfl
  exact ⟨h.thr 0, h.s.2.1⟩
theorem m_peek {A : zA} {T : zS} (h : RR A T) (p : Int32) : w_M_peek p T (fun T' r => RR A T' ∧ r = peekA A p) := by
  unfold w_M_peek j_M_peek_16
  rintro S1 rfl
  unfold peekA
  refine ⟨fun c => ⟨h.thr 0, ?_⟩, fun c => ?_⟩
  · rw [neg_iff] at c
    rw [if_neg (by omega)]
  · obtain ⟨e, hl⟩ := un_pos c
    have l : p < (16384 : Int32) ↔ un p < 16384 := by
      rw [e, un_nI (by omega)]
      exact nI_ltI hl (by decide)
    rw [l]
    refine ⟨fun c2 => ⟨by rw [e]; exact in_mem c2, h.thr 0, ?_⟩, fun c2 => ⟨h.thr 0, ?_⟩⟩
    · rw [if_pos c2]
      have ec : p.toNatClampNeg = un p := by rw [e, nI_clamp hl, un_nI (by omega)]
      rw [ec]
      exact h.m (un p) c2
    · rw [if_neg c2]
theorem m_files {A : zA} {T : zS} (h : RR A T) : w_M_files T (fun T' r => RR A T' ∧ r = filesA A) := by
  unfold w_M_files
  rintro S1 rfl
  exact ⟨h.thr 0, h.f.1⟩
theorem m_set {A : zA} {T : zS} (h : RR A T) (r v : Int32) : w_M_set r v T (fun T' q => RR (setA A r v).1 T' ∧ q = (setA A r v).2) := by
  unfold w_M_set
  rintro S1 rfl
  have h1 := h.thr 0
  unfold setA
  by_cases hn : r < 0
  · have hl : r < (1 : Int32) := by
      rw [Int32.lt_iff_toInt_lt] at *
      have : (1 : Int32).toInt = 1 := rfl
      rw [Int32.toInt_zero] at hn
      omega
    rw [neg_iff] at hn
    refine ⟨fun _ => ?_, fun c => absurd hl c⟩
    rw [if_neg (by omega)]
    exact ⟨h1, rfl⟩
  · obtain ⟨e, hl⟩ := un_pos hn
    have l1 : r < (1 : Int32) ↔ un r < 1 := by rw [e, un_nI (by omega)]; exact nI_ltI hl (by decide)
    have l32 : r ≤ (32 : Int32) ↔ un r ≤ 32 := le_of_un (m := 32) (by decide) hn
    have e32 : r = (32 : Int32) ↔ un r = 32 := by rw [e, un_nI (by omega)]; exact nI_eq hl (by decide)
    rw [l1, l32, e32]
    refine ⟨fun c => ?_, fun c => ⟨fun c2 => ⟨fun c3 => ?_, fun c3 => ⟨by rw [e]; exact vp_in_nI (by omega) (by decide), ?_⟩⟩, fun c2 => ?_⟩⟩
    · rw [if_neg (by omega)]; exact ⟨h1, rfl⟩
    · rintro S2 rfl
      rw [if_pos (by omega), if_pos c3]
      exact ⟨h1.pc v, rfl⟩
    · rintro S2 rfl
      rw [if_pos (by omega), if_neg c3]
      have ec : r.toNatClampNeg = un r := by rw [e, nI_clamp hl, un_nI (by omega)]
      rw [ec]
      exact ⟨h1.reg (un r) v, rfl⟩
    · rw [if_neg (by omega)]; exact ⟨h1, rfl⟩
theorem m_printed {A : zA} {T : zS} (h : RR A T) (w : Int32) : w_M_printed w T (fun T' r => RR A T' ∧ r = printedA A w) := by
  unfold w_M_printed j_M_printed_14
  rintro S1 rfl
  have h1 := h.thr 0
  unfold printedA
  refine ⟨fun c => ⟨h1, ?_⟩, fun c => ?_⟩
  · rw [if_neg (fun z => by rw [z] at c; exact absurd c (by decide)), if_neg (fun z => by rw [z] at c; exact absurd c (by decide))]
  · obtain ⟨e, hl⟩ := un_pos c
    have l1 : w ≤ (1 : Int32) ↔ un w ≤ 1 := le_of_un (m := 1) (by decide) c
    have e0 : w = (0 : Int32) ↔ un w = 0 := by rw [e, un_nI (by omega)]; exact nI_eq (b := 0) hl (by decide)
    have e1 : w = (1 : Int32) ↔ un w = 1 := by rw [e, un_nI (by omega)]; exact nI_eq hl (by decide)
    have ec : w.toNatClampNeg = un w := by rw [e, nI_clamp hl, un_nI (by omega)]
    rw [l1]
    simp only [e0, e1]
    refine ⟨fun c2 => ⟨by rw [e]; exact vp_in_nI (by omega) (by decide), h1, ?_⟩, fun c2 => ⟨h1, ?_⟩⟩
    · rw [ec]
      have := (h.p (un w) (by omega)).1
      rw [show gM (sM T 0 0 0) 12 (un w) = gM T 12 (un w) from rfl, this]
      by_cases z : un w = 0
      · rw [if_pos z, z]
      · rw [if_neg z, if_pos (by omega)]
        congr 1
        omega
    · rw [if_neg (by omega), if_neg (by omega)]
theorem m_print {A : zA} {T : zS} (h : RR A T) (w i : Int32) : w_M_print w i T (fun T' r => RR A T' ∧ r = printA A w i) := by
  unfold w_M_print j_M_print_28
  rintro S1 rfl
  have h1 := h.thr 0
  unfold printA
  refine ⟨fun c => ⟨h1, ?_⟩, fun c => ?_⟩
  · rw [if_neg (fun z => by rw [z] at c; exact absurd c (by decide)), if_neg (fun z => by rw [z] at c; exact absurd c (by decide))]
  · obtain ⟨e, hl⟩ := un_pos c
    have l1 : (1 : Int32) < w ↔ 1 < un w := by rw [e, un_nI (by omega)]; exact nI_ltI (by decide) hl
    have e0 : w = (0 : Int32) ↔ un w = 0 := by rw [e, un_nI (by omega)]; exact nI_eq (b := 0) hl (by decide)
    have e1 : w = (1 : Int32) ↔ un w = 1 := by rw [e, un_nI (by omega)]; exact nI_eq hl (by decide)
    have ec : w.toNatClampNeg = un w := by rw [e, nI_clamp hl, un_nI (by omega)]
    rw [l1]
    simp only [e0, e1]
    refine ⟨fun c2 => ⟨h1, ?_⟩, fun c2 => ?_⟩
    · rw [if_neg (by omega), if_neg (by omega)]
    · have val : ∀ q, (if un w = 0 then atL (A.2.1 2) q else if un w = 1 then atL (A.2.1 3) q else -1) = atL (A.2.1 (2 + un w)) q := fun q => by
        by_cases z : un w = 0
        · rw [if_pos z, z]
        · have z1 : un w = 1 := by omega
          rw [if_neg z, if_pos z1, z1]
      simp only [val]
      obtain ⟨hp1, hp2, hp3, hp4⟩ := h.p (un w) (by omega)
      refine ⟨fun c3 => ⟨h1, ?_⟩, fun c3 => ⟨by rw [e]; exact vp_in_nI (by omega) (by decide), ?_⟩⟩
      · unfold atL; rw [if_pos c3]
      · obtain ⟨ei, hil⟩ := un_pos c3
        rw [ec, show gM (sM T 0 0 0) 13 (un w) = gM T 13 (un w) from rfl, hp2]
        have li : i < nI (A.2.1 (2 + un w)).length ↔ un i < (A.2.1 (2 + un w)).length := by
          rw [ei, un_nI (by omega)]; exact nI_ltI hil (by omega)
        rw [li]
        have ea : atL (A.2.1 (2 + un w)) i = ((A.2.1 (2 + un w))[un i]?).getD (-1) := by
          rw [ei, un_nI (by omega)]; exact atL_nI hil
        rw [ea]
        refine ⟨fun c4 => ⟨?_, h1, ?_⟩, fun c4 => ⟨h1, ?_⟩⟩
        · rw [e, ei, show (2000 : Int32) = nI 2000 from rfl, pk_mul, nI_add]
          exact vp_in_nI (by omega) (by decide)
        · have ex : ((2000 : Int32) * w + i).toNatClampNeg = 2000 * un w + un i := by
            rw [e, ei, show (2000 : Int32) = nI 2000 from rfl, pk_mul, nI_add, nI_clamp (by omega), un_nI (by omega), un_nI (by omega)]
          rw [ex, hp4 (un i) c4]; rfl
        · rw [List.getElem?_eq_none (by omega)]; rfl
