/-! the reference's calls that may be refused -/
/-- the end of such a call: state, code, answer -/
def mP (A' : zA) (X : Nat × Int32) (T' : zS) (r : Int32) : Prop := RR A' T' ∧ gM T' 0 0 = nI X.1 ∧ (X.1 = 0 → r = X.2)
theorem t1 (U : zS) : ¬ gM (sM U 0 0 1) 0 0 ≤ 0 := show ¬ (1 : Int32) ≤ 0 by decide
theorem t0 (U : zS) : gM (sM U 0 0 0) 0 0 ≤ 0 := show (0 : Int32) ≤ 0 by decide
theorem n10 : ¬ (1 : Nat) = 0 := by decide
theorem aRow_comm (A : zA) {s t : Nat} (h : s ≠ t) (l m : List Int32) : aRow (aRow A s l) t m = aRow (aRow A t m) s l := by
  refine Prod.ext rfl (Prod.ext ?_ rfl)
  funext q
  show (if q = t then m else if q = s then l else A.2.1 q) = if q = s then l else if q = t then m else A.2.1 q
  by_cases e : q = t
  · subst e
    rw [if_pos rfl, if_neg (fun z => h z.symm), if_pos rfl]
  · rw [if_neg e, if_neg e]
theorem vin {x : Int32} {n N : Nat} (h : n < N) (e : x = nI n) (hN : N < 2 ^ 31 := by decide) : vp_in x N := by rw [e]; exact vp_in_nI h hN
theorem clm {x : Int32} {n : Nat} (e : x = nI n) (h : n < 2 ^ 31) : x.toNatClampNeg = n := by rw [e]; exact nI_clamp h
/-- bytes of the tape, as they lay before it was used up -/
def tpIs (l : List Int32) (T : zS) : Prop := l.length ≤ 2100 ∧ ∀ i, i < l.length → l[i]? = some (gM T 16 i)
theorem r_use {A : zA} {T : zS} (h : RR A T) {P : zS → Int32 → Prop} (hP : ∀ T', RR (tape0 A) T' → tpIs (A.2.1 0) T' → P T' (nI (A.2.1 0).length)) : w_M_use T P := by
  unfold w_M_use
  rintro v1 rfl S2 rfl
  rw [h.t.1]
  exact hP _ h.tape0 ⟨h.t.2.1, h.t.2.2⟩
theorem tpIs.at {l : List Int32} {T : zS} (h : tpIs l T) {i : Nat} (hi : i < l.length) : gM T 16 i = l[i] := by
  have := h.2 i hi
  rw [List.getElem?_eq_getElem hi] at this
  exact (Option.some.inj this).symm
theorem tk {l : List Int32} {i : Nat} (h : i < l.length) : l.take (i + 1) = l.take i ++ [l[i]] := (List.take_append_getElem h).symm
theorem lenT {l : List Int32} {i : Nat} (h : i ≤ l.length) : (l.take i).length = i := by rw [List.length_take]; omega
theorem m_put {A : zA} {T : zS} (h : RR A T) (p : Int32) : w_M_put p T (mP (putA A p).1 (putA A p).2) := by
  unfold w_M_put
  refine r_use h (fun U hU ht => ?_)
  have hl := ht.1
  have bad : ¬ un p + (A.2.1 0).length ≤ 16384 → j_M_put_19 p (mP (putA A p).1 (putA A p).2) U (nI (A.2.1 0).length) := by
    intro c
    unfold j_M_put_19 j_M_put_24 putA
    rw [if_neg c]
    rintro S1 rfl
    exact ⟨fun z => absurd z (t1 _), fun _ => ⟨hU.thr 1, rfl, fun z => absurd z n10⟩⟩
  refine ⟨fun c => bad (by rw [neg_iff] at c; omega), fun c => ?_⟩
  have l1 : p ≤ (16384 : Int32) - nI (A.2.1 0).length ↔ un p + (A.2.1 0).length ≤ 16384 := by
    rw [show (16384 : Int32) = nI 16384 from rfl, pk_sub (by omega), le_of_un (by omega) c]; omega
  rw [l1]
  refine ⟨fun c2 => ?_, bad⟩
  unfold j_M_put_24
  rintro V rfl
  have hV := hU.thr 0
  have htV : tpIs (A.2.1 0) (sM U 0 0 0) := ht
  have e0 : gM (sM U 0 0 0) 0 0 = 0 := rfl
  generalize sM U 0 0 0 = V at hV htV e0
  refine ⟨fun _ => ?_, fun z => absurd (by rw [e0]; decide) z⟩
  obtain ⟨ep, hp⟩ := un_pos c
  have loop : ∀ (k i : Nat) (W : zS), k + i = (A.2.1 0).length → cpy 1 (un p) ((A.2.1 0).take i) V W → l_M_put_38 p (mP (putA A p).1 (putA A p).2) (k + 1) W (nI (A.2.1 0).length) (nI i) := by
    intro k
    induction k with
    | zero =>
      intro i W hi hc
      have hi : i = (A.2.1 0).length := by omega
      subst hi
      rw [List.take_length] at hc
      unfold l_M_put_38
      refine ⟨fun _ => ?_, fun z => absurd (nI_le (Nat.le_refl _) (by omega)) z⟩
      unfold putA
      rw [if_pos c2]
      exact ⟨hV.cmem hc, by rw [hc.1 0 (by decide)]; exact e0, fun _ => rfl⟩
    | succ k ih =>
      intro i W hi hc
      have hil : i < (A.2.1 0).length := by omega
      unfold l_M_put_38
      have ea : p + nI i = nI (un p + i) := by rw [← nI_add, nI_un]
      refine ⟨fun z => ?_, fun _ => ⟨vp_in_nI (by omega) (by decide), vin (by omega) ea, ?_⟩⟩
      · rw [nI_leI (by omega) (by omega)] at z
        omega
      · rintro S3 rfl
        rw [clm ea (by omega), nI_clamp (by omega), nI_1, hc.1 16 (by decide), htV.at hil]
        refine ih (i + 1) _ (by omega) ?_
        rw [tk hil]
        exact hc.snoc (by rw [lenT (by omega)]) _
  exact ⟨_, loop (A.2.1 0).length 0 V (by omega) (by rw [List.take_zero]; exact cpy.nil 1 _ V)⟩
theorem RR.inp {A : zA} {T T' : zS} {l : List Int32} (h : RR A T) (hl : (A.2.1 1).length + l.length ≤ 400) (c : cpy 11 (A.2.1 1).length l T T') : RR (aRow A 1 (A.2.1 1 ++ l)) (sM T' 0 20 (nI ((A.2.1 1).length + l.length))) := by
  have e : ∀ c', c' ≠ 11 → gM T' c' = gM T c' := c.1
  have e0 : gM (sM T' 0 20 (nI ((A.2.1 1).length + l.length))) 0 = gM (sM T 0 20 (nI ((A.2.1 1).length + l.length))) 0 := by
    rw [gM_one, gM_one, e 0 (by decide)]
  have f : ∀ c', c' ≠ 0 → gM (sM T' 0 20 (nI ((A.2.1 1).length + l.length))) c' = gM T' c' := fun c' hc => gM_off _ _ _ hc
  refine ⟨?_, ?_, ?_, ?_, ?_, ?_, ?_, ?_, ?_, c.j.trans h.j⟩
  · rw [e0]; exact h.s
  · rw [f 2 (by decide), e 2 (by decide)]; exact h.x
  · rw [f 1 (by decide), e 1 (by decide)]; exact h.m
  · rw [f 12 (by decide), f 13 (by decide), f 14 (by decide), e 12 (by decide), e 13 (by decide), e 14 (by decide)]; exact h.p.row (Or.inl (by decide)) _
  · rw [e0, f 16 (by decide), e 16 (by decide)]; exact h.t
  · rw [f 11 (by decide)]
    refine ⟨by show nI _ = nI (A.2.1 1 ++ l).length; rw [List.length_append], by show (A.2.1 1 ++ l).length ≤ 400; rw [List.length_append]; exact hl, fun i hi => ?_⟩
    have hi : i < (A.2.1 1 ++ l).length := hi
    show (A.2.1 1 ++ l)[i]? = _
    rw [List.length_append] at hi
    rw [c.2.1]
    by_cases z : i < (A.2.1 1).length
    · rw [List.getElem?_append_left z, mset_out _ _ _ (Or.inl z)]
      exact h.i.2.2 i z
    · rw [List.getElem?_append_right (by omega), mset_at (gM T 11) (A.2.1 1).length l (by omega)]
      congr 2
      omega
  · rw [e0, f 15 (by decide), e 15 (by decide)]; exact h.c
  · rw [e0, f 3 (by decide), f 4 (by decide), f 5 (by decide), f 6 (by decide), e 3 (by decide), e 4 (by decide), e 5 (by decide), e 6 (by decide)]; exact h.f
  · rw [f 7 (by decide), f 8 (by decide), f 9 (by decide), f 10 (by decide), e 7 (by decide), e 8 (by decide), e 9 (by decide), e 10 (by decide)]; exact h.h
theorem RR.cmd {A : zA} {T T' : zS} {l : List Int32} (h : RR A T) (hl : l.length ≤ 80) (c : cpy 15 0 l T T') : RR (aRow A 4 l) (sM T' 0 26 (nI l.length)) := by
  have e : ∀ c', c' ≠ 15 → gM T' c' = gM T c' := c.1
  have e0 : gM (sM T' 0 26 (nI l.length)) 0 = gM (sM T 0 26 (nI l.length)) 0 := by
    rw [gM_one, gM_one, e 0 (by decide)]
  have f : ∀ c', c' ≠ 0 → gM (sM T' 0 26 (nI l.length)) c' = gM T' c' := fun c' hc => gM_off _ _ _ hc
  refine ⟨?_, ?_, ?_, ?_, ?_, ?_, ?_, ?_, ?_, c.j.trans h.j⟩
  · rw [e0]; exact h.s
  · rw [f 2 (by decide), e 2 (by decide)]; exact h.x
  · rw [f 1 (by decide), e 1 (by decide)]; exact h.m
  · rw [f 12 (by decide), f 13 (by decide), f 14 (by decide), e 12 (by decide), e 13 (by decide), e 14 (by decide)]; exact h.p.row (Or.inr (by decide)) _
  · rw [e0, f 16 (by decide), e 16 (by decide)]; exact h.t
  · rw [e0, f 11 (by decide), e 11 (by decide)]; exact h.i
  · rw [f 15 (by decide)]
    refine ⟨rfl, hl, fun i hi => ?_⟩
    have hi : i < l.length := hi
    show l[i]? = _
    rw [c.2.1]
    have := mset_at (gM T 15) 0 l hi
    rw [Nat.zero_add] at this
    exact this
  · rw [e0, f 3 (by decide), f 4 (by decide), f 5 (by decide), f 6 (by decide), e 3 (by decide), e 4 (by decide), e 5 (by decide), e 6 (by decide)]; exact h.f
  · rw [f 7 (by decide), f 8 (by decide), f 9 (by decide), f 10 (by decide), e 7 (by decide), e 8 (by decide), e 9 (by decide), e 10 (by decide)]; exact h.h
theorem m_type {A : zA} {T : zS} (h : RR A T) : w_M_type T (mP (typeA A).1 (typeA A).2) := by
  unfold w_M_type
  refine r_use h (fun U hU ht => ?_)
  have hl := ht.1
  have hw : gM U 0 20 = nI (A.2.1 1).length := hU.i.1
  have hwl : (A.2.1 1).length ≤ 400 := hU.i.2.1
  have l1 : gM U 0 20 + nI (A.2.1 0).length ≤ (400 : Int32) ↔ (A.2.1 1).length + (A.2.1 0).length ≤ 400 := by
    rw [hw, nI_add]; exact nI_leI (by omega) (by decide)
  rw [l1]
  refine ⟨fun c => ?_, fun c => ?_⟩
  · unfold j_M_type_23
    rintro V rfl
    have hV := hU.thr 0
    have htV : tpIs (A.2.1 0) (sM U 0 0 0) := ht
    have e0 : gM (sM U 0 0 0) 0 0 = 0 := rfl
    have e20 : gM (sM U 0 0 0) 0 20 = nI (A.2.1 1).length := hw
    generalize sM U 0 0 0 = V at hV htV e0 e20
    refine ⟨fun _ => ?_, fun z => absurd (by rw [e0]; decide) z⟩
    have loop : ∀ (k i : Nat) (W : zS), k + i = (A.2.1 0).length → cpy 11 (A.2.1 1).length ((A.2.1 0).take i) V W → l_M_type_37 (mP (typeA A).1 (typeA A).2) (k + 1) W (nI (A.2.1 0).length) (nI i) := by
      intro k
      induction k with
      | zero =>
        intro i W hi hc
        have hi : i = (A.2.1 0).length := by omega
        subst hi
        rw [List.take_length] at hc
        unfold l_M_type_37
        refine ⟨fun _ => ?_, fun z => absurd (nI_le (Nat.le_refl _) (by omega)) z⟩
        rintro S1 rfl
        have e20W : gM W 0 20 = nI (A.2.1 1).length := by rw [hc.1 0 (by decide)]; exact e20
        rw [e20W, nI_add]
        unfold typeA
        rw [if_pos c]
        refine ⟨?_, ?_, fun _ => rfl⟩
        · have := hV.inp (l := A.2.1 0) c hc
          show RR (aRow (aRow A 1 (A.2.1 1 ++ A.2.1 0)) 0 []) _
          rw [aRow_comm A (by decide)]
          exact this
        · show gM W 0 0 = _
          rw [hc.1 0 (by decide)]; exact e0
      | succ k ih =>
        intro i W hi hc
        have hil : i < (A.2.1 0).length := by omega
        unfold l_M_type_37
        have e20W : gM W 0 20 = nI (A.2.1 1).length := by rw [hc.1 0 (by decide)]; exact e20
        rw [e20W, nI_add _ i]
        refine ⟨fun z => ?_, fun _ => ⟨vp_in_nI (by omega) (by decide), vp_in_nI (by omega) (by decide), ?_⟩⟩
        · rw [nI_leI (by omega) (by omega)] at z
          omega
        · rintro S3 rfl
          rw [nI_clamp (by omega), nI_clamp (by omega), nI_1, hc.1 16 (by decide), htV.at hil]
          refine ih (i + 1) _ (by omega) ?_
          rw [tk hil]
          exact hc.snoc (by rw [lenT (by omega)]) _
    exact ⟨_, loop (A.2.1 0).length 0 V (by omega) (by rw [List.take_zero]; exact cpy.nil 11 _ V)⟩
  · unfold j_M_type_23 typeA
    rw [if_neg c]
    rintro S1 rfl
    exact ⟨fun z => absurd z (t1 _), fun _ => ⟨hU.thr 1, rfl, fun z => absurd z n10⟩⟩
/-- has a row a 0 among its first i -/
def zr (l : List Int32) (i : Nat) : Bool := (l.take i).any (fun v => v == 0)
theorem zr_succ {l : List Int32} {i : Nat} (h : i < l.length) : zr l (i + 1) = (zr l i || (l[i] == 0)) := by
  unfold zr
  rw [tk h, List.any_append]
  simp
theorem zr_fz {l : List Int32} (hl : l.length < 2 ^ 31) : fzL l = -1 ↔ zr l l.length = false := by
  unfold zr
  rw [List.take_length]
  constructor
  · intro h
    have := fz_no0 h hl
    rw [List.any_eq_false]
    intro x hx z
    exact this (by rw [← show x = 0 by simpa using z]; exact hx)
  · intro h
    unfold fzL
    have : l.findIdx? (fun v => v == 0) = none := by
      rw [List.findIdx?_eq_none_iff]
      intro x hx
      rw [List.any_eq_false] at h
      simpa using h x hx
    rw [this]
theorem m_command {A : zA} {T : zS} (h : RR A T) : w_M_command T (mP (commandA A).1 (commandA A).2) := by
  unfold w_M_command
  refine r_use h (fun U hU ht => ?_)
  have hl := ht.1
  have bad : ¬ ((A.2.1 0).length ≤ 80 ∧ fzL (A.2.1 0) = -1) → j_M_command_50 (mP (commandA A).1 (commandA A).2) U (nI (A.2.1 0).length) := by
    intro c
    unfold j_M_command_50 j_M_command_55 commandA
    rw [if_neg c]
    rintro S1 rfl
    exact ⟨fun z => absurd z (t1 _), fun _ => ⟨hU.thr 1, rfl, fun z => absurd z n10⟩⟩
  have good : (A.2.1 0).length ≤ 80 → fzL (A.2.1 0) = -1 → j_M_command_55 (mP (commandA A).1 (commandA A).2) U (nI (A.2.1 0).length) 0 := by
    intro c c2
    unfold j_M_command_55
    rintro V rfl
    have hV := hU.thr 0
    have htV : tpIs (A.2.1 0) (sM U 0 0 0) := ht
    have e0 : gM (sM U 0 0 0) 0 0 = 0 := rfl
    generalize sM U 0 0 0 = V at hV htV e0
    refine ⟨fun _ => ?_, fun z => absurd (by rw [e0]; decide) z⟩
    have loop : ∀ (k i : Nat) (W : zS), k + i = (A.2.1 0).length → cpy 15 0 ((A.2.1 0).take i) V W → l_M_command_69 (mP (commandA A).1 (commandA A).2) (k + 1) W (nI (A.2.1 0).length) (nI i) := by
      intro k
      induction k with
      | zero =>
        intro i W hi hc
        have hi : i = (A.2.1 0).length := by omega
        subst hi
        rw [List.take_length] at hc
        unfold l_M_command_69
        refine ⟨fun _ => ?_, fun z => absurd (nI_le (Nat.le_refl _) (by omega)) z⟩
        rintro S1 rfl
        unfold commandA
        rw [if_pos ⟨c, c2⟩]
        refine ⟨?_, ?_, fun _ => rfl⟩
        · have := hV.cmd (l := A.2.1 0) c hc
          show RR (aRow (aRow A 4 (A.2.1 0)) 0 []) _
          rw [aRow_comm A (by decide)]
          exact this
        · show gM W 0 0 = _
          rw [hc.1 0 (by decide)]; exact e0
      | succ k ih =>
        intro i W hi hc
        have hil : i < (A.2.1 0).length := by omega
        unfold l_M_command_69
        refine ⟨fun z => ?_, fun _ => ⟨vp_in_nI (by omega) (by decide), vp_in_nI (by omega) (by decide), ?_⟩⟩
        · rw [nI_leI (by omega) (by omega)] at z
          omega
        · rintro S3 rfl
          rw [nI_clamp (by omega), nI_1, hc.1 16 (by decide), htV.at hil]
          refine ih (i + 1) _ (by omega) ?_
          rw [tk hil]
          exact hc.snoc (by rw [lenT (by omega)]; omega) _
    exact ⟨_, loop (A.2.1 0).length 0 V (by omega) (by rw [List.take_zero]; exact cpy.nil 15 0 V)⟩
  have zf := zr_fz (l := A.2.1 0) (by omega)
  have loop : ∀ (k i : Nat), k + i = (A.2.1 0).length → l_M_command_9 (mP (commandA A).1 (commandA A).2) (k + 1) U (nI (A.2.1 0).length) (if zr (A.2.1 0) i = true then 1 else 0) (nI i) := by
    intro k
    induction k with
    | zero =>
      intro i hi
      have hi : i = (A.2.1 0).length := by omega
      subst hi
      unfold l_M_command_9
      have l80 : (80 : Int32) < nI (A.2.1 0).length ↔ 80 < (A.2.1 0).length := nI_ltI (by decide) (by omega)
      rw [l80]
      refine ⟨fun _ => ⟨fun c => bad (fun z => by omega), fun c => ?_⟩, fun z => absurd (nI_le (Nat.le_refl _) (by omega)) z⟩
      cases hz : zr (A.2.1 0) (A.2.1 0).length with
      | false => exact ⟨fun _ => good (by omega) (zf.mpr hz), fun z => absurd rfl z⟩
      | true => exact ⟨fun z => absurd z (by decide), fun _ => bad (fun z => by rw [zf.mp z.2] at hz; exact Bool.noConfusion hz)⟩
    | succ k ih =>
      intro i hi
      have hil : i < (A.2.1 0).length := by omega
      unfold l_M_command_9
      have nxt := ih (i + 1) (by omega)
      rw [zr_succ hil] at nxt
      refine ⟨fun z => ?_, fun _ => ?_⟩
      · rw [nI_leI (by omega) (by omega)] at z
        omega
      · cases hz : zr (A.2.1 0) i with
        | false =>
          rw [hz] at nxt
          refine ⟨fun _ => ⟨vp_in_nI (by omega) (by decide), fun c => ?_, fun c => ?_⟩, fun z => absurd rfl z⟩
          · rw [nI_clamp (by omega), ht.at hil] at c
            unfold j_M_command_27 j_M_command_32
            rw [nI_1]
            rw [c] at nxt
            exact nxt
          · rw [nI_clamp (by omega), ht.at hil] at c
            unfold j_M_command_32
            rw [nI_1]
            have : ((A.2.1 0)[i] == 0) = false := by simpa using c
            rw [this] at nxt
            exact nxt
        | true =>
          rw [hz] at nxt
          refine ⟨fun z => absurd z (by decide), fun _ => ?_⟩
          unfold j_M_command_27 j_M_command_32
          rw [nI_1]
          exact nxt
  exact ⟨_, loop (A.2.1 0).length 0 (by omega)⟩
theorem m_look {A : zA} {T : zS} (h : RR A T) (hI : AI A) (w : Int32) : w_M_look w T (mP A (lookA A w)) := by
  have j16 : j_M_look_16 w (mP A (lookA A w)) T (nI (lookA A w).1) := by
    unfold j_M_look_16
    rintro S1 rfl
    have h1 := h.thr (nI (lookA A w).1)
    obtain ⟨s1, s2, s3, s4, s5, s6, s7, s8⟩ := h.s
    have e0 : gM (sM T 0 0 (nI (lookA A w).1)) 0 0 = nI (lookA A w).1 := rfl
    refine ⟨fun c0 => ?_, fun c0 => ⟨fun c1 => ?_, fun c1 => ⟨fun c2 => ?_, fun c2 => ⟨fun c3 => ?_, fun c3 => ⟨fun c4 => ?_, fun c4 => ⟨fun c5 => ?_, fun c5 => ⟨fun c6 => ?_, fun c6 => ⟨fun c7 => ?_, fun c7 => ⟨fun c8 => ?_, fun c8 => ?_⟩⟩⟩⟩⟩⟩⟩⟩⟩
    · refine ⟨fun z => ⟨h1, e0, fun _ => ?_⟩, fun z => ⟨h1, e0, fun _ => ?_⟩⟩
      · unfold lookA; rw [if_pos c0]; exact s3
      · unfold lookA; rw [if_pos c0]
        exact (hI.s.2.2.1 (fun w => z (s2.trans w))).symm
    · refine ⟨fun z => ⟨h1, e0, fun _ => ?_⟩, fun z => ⟨h1, e0, fun _ => ?_⟩⟩
      · unfold lookA; rw [if_neg c0, if_pos c1]; exact s4
      · unfold lookA; rw [if_neg c0, if_pos c1]
        exact (hI.s.2.2.2 (fun w => z (s2.trans w))).symm
    · refine ⟨h1, e0, fun _ => ?_⟩
      unfold lookA; rw [if_neg c0, if_neg c1, if_pos c2]; exact s5
    · refine ⟨h1, e0, fun _ => ?_⟩
      unfold lookA; rw [if_neg c0, if_neg c1, if_neg c2, if_pos c3]
      show (gJ T).toInt32 = _
      rw [h.j]
    · refine ⟨h1, e0, fun _ => ?_⟩
      unfold lookA; rw [if_neg c0, if_neg c1, if_neg c2, if_neg c3, if_pos c4]; exact s7
    · refine ⟨h1, e0, fun _ => ?_⟩
      unfold lookA; rw [if_neg c0, if_neg c1, if_neg c2, if_neg c3, if_neg c4, if_pos c5]; exact s8
    · refine ⟨h1, e0, fun _ => ?_⟩
      unfold lookA; rw [if_neg c0, if_neg c1, if_neg c2, if_neg c3, if_neg c4, if_neg c5, if_pos c6]; exact h.i.1
    · refine ⟨h1, e0, fun _ => ?_⟩
      unfold lookA; rw [if_neg c0, if_neg c1, if_neg c2, if_neg c3, if_neg c4, if_neg c5, if_neg c6, if_pos c7]; exact s6
    · refine ⟨h1, e0, fun _ => ?_⟩
      unfold lookA; rw [if_neg c0, if_neg c1, if_neg c2, if_neg c3, if_neg c4, if_neg c5, if_neg c6, if_neg c7, if_pos c8]; exact h.c.1
    · refine ⟨h1, e0, fun z => ?_⟩
      unfold lookA at z ⊢
      rw [if_neg c0, if_neg c1, if_neg c2, if_neg c3, if_neg c4, if_neg c5, if_neg c6, if_neg c7, if_neg c8]
  have cd : ∀ n : Nat, un w = n → ¬ n ≤ 8 → (lookA A w).1 = 1 := by
    intro n hn hn8
    have ne : ∀ k : Nat, k ≤ 8 → ¬ w = nI k := fun k hk z => by rw [z, un_nI (by omega)] at hn; omega
    unfold lookA
    have n0 : ¬ w = (0 : Int32) := ne 0 (by decide)
    have n1 : ¬ w = (1 : Int32) := ne 1 (by decide)
    have n2 : ¬ w = (2 : Int32) := ne 2 (by decide)
    have n3 : ¬ w = (3 : Int32) := ne 3 (by decide)
    have n4 : ¬ w = (4 : Int32) := ne 4 (by decide)
    have n5 : ¬ w = (5 : Int32) := ne 5 (by decide)
    have n6 : ¬ w = (6 : Int32) := ne 6 (by decide)
    have n7 : ¬ w = (7 : Int32) := ne 7 (by decide)
    have n8 : ¬ w = (8 : Int32) := ne 8 (by decide)
    rw [if_neg n0, if_neg n1, if_neg n2, if_neg n3, if_neg n4, if_neg n5, if_neg n6, if_neg n7, if_neg n8]
  unfold w_M_look
  refine ⟨fun c => ?_, fun c => ?_⟩
  · rw [neg_iff] at c
    unfold j_M_look_11
    rw [cd _ rfl (by omega)] at j16
    exact j16
  · have l8 : w ≤ (8 : Int32) ↔ un w ≤ 8 := le_of_un (m := 8) (by decide) c
    rw [l8]
    refine ⟨fun c2 => ?_, fun c2 => ?_⟩
    · have e : (lookA A w).1 = 0 := by
        have ew : w = nI (un w) := (nI_un w).symm
        have : un w = 0 ∨ un w = 1 ∨ un w = 2 ∨ un w = 3 ∨ un w = 4 ∨ un w = 5 ∨ un w = 6 ∨ un w = 7 ∨ un w = 8 := by omega
        rcases this with z | z | z | z | z | z | z | z | z <;> (rw [z] at ew; rw [ew]; rfl)
      rw [e] at j16
      exact j16
    · unfold j_M_look_11
      rw [cd _ rfl c2] at j16
      exact j16
theorem m_register {A : zA} {T : zS} (h : RR A T) (r : Int32) : w_M_register r T (mP A (registerA A r)) := by
  unfold w_M_register
  have bad : ¬ un r ≤ 32 → j_M_register_11 r (mP A (registerA A r)) T := by
    intro c
    unfold j_M_register_11 j_M_register_16 registerA
    rw [if_neg c]
    rintro S1 rfl
    exact ⟨fun z => absurd z (t1 _), fun _ => ⟨h.thr 1, rfl, fun z => absurd z n10⟩⟩
  refine ⟨fun c => bad (by rw [neg_iff] at c; omega), fun c => ?_⟩
  have l : r ≤ (32 : Int32) ↔ un r ≤ 32 := le_of_un (m := 32) (by decide) c
  rw [l]
  refine ⟨fun c2 => ?_, bad⟩
  unfold j_M_register_16
  rintro S1 rfl
  obtain ⟨e, hl⟩ := un_pos c
  have e32 : r = (32 : Int32) ↔ un r = 32 := eq_of_un (n := 32) (by decide)
  refine ⟨fun _ => ?_, fun z => absurd (t0 _) z⟩
  rw [e32]
  unfold registerA
  rw [if_pos c2]
  refine ⟨fun c3 => ⟨h.thr 0, rfl, fun _ => ?_⟩, fun c3 => ⟨vin (by omega) e, h.thr 0, rfl, fun _ => ?_⟩⟩
  · rw [if_pos c3]; exact h.s.1
  · rw [if_neg c3, clm e hl]
    exact h.x (un r) (by omega)
theorem r_openOf {A : zA} {T : zS} (h : RR A T) {k : Nat} (hk : k < 12) {P : zS → Int32 → Prop} (hP : P T (nI (openA A k 10))) (hl : A.2.2.length ≤ 12) (hI : AI A) : w_M_openOf (nI k) T P := by
  have loop : ∀ (m i : Nat), m + i = 10 → l_M_openOf_4 (nI k) P (m + 1) T (nI (openA A k i)) (nI (i + 1)) := by
    intro m
    induction m with
    | zero =>
      intro i hi
      have hi : i = 10 := by omega
      subst hi
      unfold l_M_openOf_4
      exact ⟨fun _ => hP, fun z => absurd (show (10 : Int32) < nI 11 by decide) z⟩
    | succ m ih =>
      intro i hi
      have nxt := ih (i + 1) (by omega)
      obtain ⟨k1, k2, k3⟩ := h.h i (by omega)
      have ho := openA_le A k i
      unfold l_M_openOf_4
      refine ⟨fun z => ?_, fun _ => ⟨vp_in_nI (by omega) (by decide), ?_⟩⟩
      · rw [show (10 : Int32) = nI 10 from rfl, nI_ltI (by decide) (by omega)] at z
        omega
      · rw [nI_clamp (by omega), k1]
        refine ⟨fun c => ?_, fun c => ?_⟩
        · obtain ⟨q, q1, q2⟩ := k3 c
          obtain ⟨q', q3, q4⟩ := hI.1 i (by omega) c
          have eq : q = q' := by rw [q1] at q3; exact Option.some.inj q3
          rw [q2, nI_eq (by omega) (by omega)]
          refine ⟨fun z => ?_, fun z => ?_⟩
          · unfold j_M_openOf_36
            rintro v1 rfl
            have e3 : openA A k (i + 1) = openA A k i + 1 := by
              show openA A k i + _ = _
              rw [if_pos ⟨c, by rw [q1, z]⟩]
            rw [e3] at nxt
            rw [nI_1, nI_1]; exact nxt
          · unfold j_M_openOf_35 j_M_openOf_36
            rintro v1 rfl
            have e3 : openA A k (i + 1) = openA A k i := by
              show openA A k i + _ = _
              rw [if_neg (fun w => z (by rw [q1] at w; exact Option.some.inj w.2)), Nat.add_zero]
            rw [e3] at nxt
            rw [nI_1, show (0 : Int32) = nI 0 from rfl, nI_add, Nat.add_zero]; exact nxt
        · unfold j_M_openOf_35 j_M_openOf_36
          rintro v1 rfl
          have e3 : openA A k (i + 1) = openA A k i := by
            show openA A k i + _ = _
            rw [if_neg (fun w => c w.1), Nat.add_zero]
          rw [e3] at nxt
          rw [nI_1, show (0 : Int32) = nI 0 from rfl, nI_add, Nat.add_zero]; exact nxt
  unfold w_M_openOf
  exact ⟨11, loop 10 0 rfl⟩
theorem m_file {A : zA} {T : zS} (h : RR A T) (hI : AI A) (k w : Int32) : w_M_file k w T (mP A (fileA A k w)) := by
  obtain ⟨f1, f2, f3⟩ := h.f
  unfold w_M_file
  have bad : (∀ f, A.2.2[un k]? = some f → ¬ un w ≤ 2) → j_M_file_22 k w (mP A (fileA A k w)) T := by
    intro c
    have e : fileA A k w = (1, 0) := by
      unfold fileA
      cases hf : A.2.2[un k]? with
      | none => rfl
      | some f => simp only; rw [if_neg (c f hf)]
    unfold j_M_file_22 j_M_file_27
    rw [e]
    rintro S1 rfl
    exact ⟨fun z => absurd z (t1 _), fun _ => ⟨h.thr 1, rfl, fun z => absurd z n10⟩⟩
  refine ⟨fun c => bad (fun f hf => ?_), fun c => ?_⟩
  · rw [neg_iff] at c
    rw [List.getElem?_eq_none (by omega)] at hf
    cases hf
  · rw [f1, ge_iff (by omega) c]
    refine ⟨fun c2 => bad (fun f hf => by rw [List.getElem?_eq_none (by omega)] at hf; cases hf), fun c2 => ⟨fun c3 => bad (fun f hf => by rw [neg_iff] at c3; omega), fun c3 => ?_⟩⟩
    have l2 : w ≤ (2 : Int32) ↔ un w ≤ 2 := le_of_un (m := 2) (by decide) c3
    rw [l2]
    refine ⟨fun c4 => ?_, fun c4 => bad (fun f hf => c4)⟩
    obtain ⟨e, hkl⟩ := un_pos c
    have hf : A.2.2[un k]? = some A.2.2[un k] := List.getElem?_eq_getElem (by omega)
    obtain ⟨g1, g2⟩ := f3 _ _ hf
    have eA : fileA A k w = (0, if un w = 0 then nI A.2.2[un k].2.length else if un w = 1 then nI A.2.2[un k].1.length else nI (openA A (un k) 10)) := by unfold fileA; rw [hf]; simp only; rw [if_pos c4]
    unfold j_M_file_27
    rintro S1 rfl
    refine ⟨fun _ => ?_, fun z => absurd (t0 _) z⟩
    have e1 : w = (1 : Int32) ↔ un w = 1 := eq_of_un (n := 1) (by decide)
    rw [eA, eq0_of_un, e1]
    refine ⟨fun c5 => ⟨vin (by omega) e, h.thr 0, rfl, fun _ => ?_⟩, fun c5 => ⟨fun c6 => ⟨vin (by omega) e, h.thr 0, rfl, fun _ => ?_⟩, fun c6 => ?_⟩⟩
    · rw [clm e hkl]
      simp only [if_pos c5]
      exact g1.1
    · rw [clm e hkl]
      simp only [if_neg c5, if_pos c6]
      exact g2.1
    · have := r_openOf (k := un k) (P := mP A (0, if un w = 0 then nI A.2.2[un k].2.length else if un w = 1 then nI A.2.2[un k].1.length else nI (openA A (un k) 10))) (h.thr 0) (by omega) ⟨h.thr 0, rfl, fun _ => by simp only [if_neg c5, if_neg c6]⟩ f2 hI
      rw [← e] at this
      exact this
theorem m_fileByte {A : zA} {T : zS} (h : RR A T) (k i nm : Int32) : w_M_fileByte k i nm T (fun T' r => RR A T' ∧ r = fileByteA A k i nm) := by
  obtain ⟨f1, f2, f3⟩ := h.f
  unfold w_M_fileByte
  rintro S1 rfl
  have h1 := h.thr 0
  have no : ∀ (hk : ¬ un k < A.2.2.length), fileByteA A k i nm = -1 := fun hk => by
    unfold fileByteA
    rw [List.getElem?_eq_none (by omega)]
  refine ⟨fun c => ⟨h1, ?_⟩, fun c => ?_⟩
  · rw [neg_iff] at c
    rw [no (by omega)]
  · rw [show gM (sM T 0 0 0) 0 14 = gM T 0 14 from rfl, f1, ge_iff (by omega) c]
    refine ⟨fun c2 => ⟨h1, (no (by omega)).symm⟩, fun c2 => ?_⟩
    obtain ⟨e, hkl⟩ := un_pos c
    have hf : A.2.2[un k]? = some A.2.2[un k] := List.getElem?_eq_getElem (by omega)
    obtain ⟨g1, g2⟩ := f3 _ _ hf
    have eA : fileByteA A k i nm = atL (if nm = 0 then A.2.2[un k].2 else A.2.2[un k].1) i := by unfold fileByteA; rw [hf]
    rw [eA]
    refine ⟨fun c3 => ⟨h1, ?_⟩, fun c3 => ?_⟩
    · unfold atL; rw [if_pos c3]
    · obtain ⟨ei, hil⟩ := un_pos c3
      have at' : ∀ l : List Int32, atL l i = (l[un i]?).getD (-1) := fun l => by rw [ei, un_nI (by omega)]; exact atL_nI hil
      refine ⟨fun c4 => ⟨vin (by omega) e, ?_⟩, fun c4 => ⟨vin (by omega) e, ?_⟩⟩
      · unfold j_M_fileByte_41
        rw [if_pos c4, clm e hkl, show gM (sM T 0 0 0) 4 (un k) = gM T 4 (un k) from rfl, g1.1, at']
        have hb := g1.2.1
        have li : i < nI A.2.2[un k].2.length ↔ un i < A.2.2[un k].2.length := by
          rw [ei, un_nI (by omega)]; exact nI_ltI hil (by omega)
        have ex : (2000 : Int32) * k + i = nI (2000 * un k + un i) := by rw [← nI_add, ← pk_mul, nI_un, nI_un]; rfl
        rw [li]
        refine ⟨fun c5 => ⟨fun _ => ⟨vin (by omega) ex, h1, ?_⟩, fun z => absurd c4 z⟩, fun c5 => ⟨h1, ?_⟩⟩
        · rw [clm ex (by omega), g1.2.2 _ c5]; rfl
        · rw [List.getElem?_eq_none (by omega)]; rfl
      · unfold j_M_fileByte_41
        rw [if_neg c4, clm e hkl, show gM (sM T 0 0 0) 6 (un k) = gM T 6 (un k) from rfl, g2.1, at']
        have hb := g2.2.1
        have li : i < nI A.2.2[un k].1.length ↔ un i < A.2.2[un k].1.length := by
          rw [ei, un_nI (by omega)]; exact nI_ltI hil (by omega)
        have ex : (24 : Int32) * k + i = nI (24 * un k + un i) := by rw [← nI_add, ← pk_mul, nI_un, nI_un]; rfl
        rw [li]
        refine ⟨fun c5 => ⟨fun z => absurd z c4, fun _ => ⟨vin (by omega) ex, h1, ?_⟩⟩, fun c5 => ⟨h1, ?_⟩⟩
        · rw [clm ex (by omega), g2.2.2 _ c5]; rfl
        · rw [List.getElem?_eq_none (by omega)]; rfl
theorem m_handle {A : zA} {T : zS} (h : RR A T) (hI : AI A) (x w : Int32) : w_M_handle x w T (mP A (handleA A x w)) := by
  unfold w_M_handle
  have bad : (∀ k, hnd x = some k → ¬ un w ≤ 3) → j_M_handle_21 x w (mP A (handleA A x w)) T := by
    intro c
    have e : handleA A x w = (1, 0) := by
      unfold handleA
      cases hf : hnd x with
      | none => rfl
      | some f => simp only; rw [if_neg (c f hf)]
    unfold j_M_handle_21 j_M_handle_26
    rw [e]
    rintro S1 rfl
    exact ⟨fun z => absurd z (t1 _), fun _ => ⟨h.thr 1, rfl, fun z => absurd z n10⟩⟩
  have hno : ¬ (1 ≤ un x ∧ un x ≤ 10) → ∀ k, hnd x = some k → ¬ un w ≤ 3 := fun z k e => by
    unfold hnd at e
    rw [if_neg z] at e; cases e
  by_cases hn : x < 0
  · have hl1 : x < (1 : Int32) := by
      rw [Int32.lt_iff_toInt_lt] at *
      have : (1 : Int32).toInt = 1 := rfl
      rw [Int32.toInt_zero] at hn
      omega
    rw [neg_iff] at hn
    exact ⟨fun _ => bad (hno (by omega)), fun c => absurd hl1 c⟩
  obtain ⟨e, hl⟩ := un_pos hn
  have l1 : x < (1 : Int32) ↔ un x < 1 := by rw [e, un_nI (by omega)]; exact nI_ltI hl (by decide)
  have l10 : (10 : Int32) < x ↔ 10 < un x := by rw [e, un_nI (by omega)]; exact nI_ltI (by decide) hl
  rw [l1, l10]
  refine ⟨fun c => bad (hno (by omega)), fun c => ⟨fun c2 => bad (hno (by omega)), fun c2 => ⟨fun c3 => bad (fun k hk => by rw [neg_iff] at c3; omega), fun c3 => ?_⟩⟩⟩
  have l3 : w ≤ (3 : Int32) ↔ un w ≤ 3 := le_of_un (m := 3) (by decide) c3
  rw [l3]
  refine ⟨fun c4 => ?_, fun c4 => bad (fun k hk => c4)⟩
  have hh : hnd x = some (un x - 1) := by unfold hnd; rw [if_pos (by omega)]
  obtain ⟨k1, k2, k3⟩ := h.h (un x - 1) (by omega)
  rw [show un x - 1 + 1 = un x by omega] at k1 k2 k3
  have eA : handleA A x w = (0, if un w = 0 then gM A.1 4 (un x - 1) else if gM A.1 4 (un x - 1) = 0 then -1 else if un w = 1 then gM A.1 5 (un x - 1) else if un w = 2 then (if gM A.1 4 (un x - 1) = 1 then (match gH A.1 (un x - 1) with | some q => nI q | none => -1) else -1) else gM A.1 6 (un x - 1)) := by
    unfold handleA; rw [hh]; simp only; rw [if_pos c4]; rfl
  unfold j_M_handle_26
  rintro S1 rfl
  refine ⟨fun _ => ?_, fun z => absurd (t0 _) z⟩
  have e1 : w = (1 : Int32) ↔ un w = 1 := eq_of_un (n := 1) (by decide)
  have e2 : w = (2 : Int32) ↔ un w = 2 := eq_of_un (n := 2) (by decide)
  have i7 : gM (sM T 0 0 0) 7 (un x) = gM A.1 4 (un x - 1) := k1
  rw [eA, eq0_of_un, e1, e2, clm e hl, i7]
  refine ⟨fun c5 => ⟨vin (by omega) e, h.thr 0, rfl, fun _ => ?_⟩, fun c5 => ⟨vin (by omega) e, fun c6 => ⟨h.thr 0, rfl, fun _ => ?_⟩, fun c6 => ⟨fun c7 => ⟨h.thr 0, rfl, fun _ => ?_⟩, fun c7 => ⟨fun c8 => ⟨fun c9 => ⟨h.thr 0, rfl, fun _ => ?_⟩, fun c9 => ⟨h.thr 0, rfl, fun _ => ?_⟩⟩, fun c8 => ⟨h.thr 0, rfl, fun _ => ?_⟩⟩⟩⟩⟩
  · simp only [if_pos c5]
  · simp only [if_neg c5, if_pos c6]
  · simp only [if_neg c5, if_neg c6, if_pos c7]
    exact (k2 c6).1
  · simp only [if_neg c5, if_neg c6, if_neg c7, if_pos c8, if_pos c9]
    obtain ⟨q, q1, q2⟩ := k3 c9
    rw [q1]
    exact q2
  · simp only [if_neg c5, if_neg c6, if_neg c7, if_pos c8, if_neg c9]
  · simp only [if_neg c5, if_neg c6, if_neg c7, if_neg c8]
    exact (k2 c6).2
