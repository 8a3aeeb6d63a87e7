/-! one instruction: fields of a word, what it does -/
def f3 (w : Int32) : Nat := un w / 4096 % 8
def fRd (w : Int32) : Nat := un w / 128 % 32
def fR1 (w : Int32) : Nat := un w / 32768 % 32
def fR2 (w : Int32) : Nat := un w / 1048576 % 32
def fTop (w : Int32) : Nat := un w / 33554432
def immI (w : Int32) : Int32 := w >>> ((20 : Int32) &&& 31)
def immU (w : Int32) : Int32 := w &&& (-4096)
def immS (w : Int32) : Int32 := ((w >>> ((25 : Int32) &&& 31)) <<< ((5 : Int32) &&& 31)) ||| (((w.toUInt32 >>> ((7 : Int32).toUInt32 &&& Int32.toUInt32 31)).toInt32) &&& 31)
def immJ (w : Int32) : Int32 := (((((w >>> ((31 : Int32) &&& 31)) <<< ((20 : Int32) &&& 31)) ||| (w &&& (1044480 : Int32))) ||| (((w.toUInt32 >>> ((9 : Int32).toUInt32 &&& Int32.toUInt32 31)).toInt32) &&& (2048 : Int32))) ||| (((w.toUInt32 >>> ((20 : Int32).toUInt32 &&& Int32.toUInt32 31)).toInt32) &&& (2046 : Int32)))
def immB (w : Int32) : Int32 := (((((w >>> ((31 : Int32) &&& 31)) <<< ((12 : Int32) &&& 31)) ||| ((w &&& (128 : Int32)) <<< ((4 : Int32) &&& 31))) ||| (((w.toUInt32 >>> ((20 : Int32).toUInt32 &&& Int32.toUInt32 31)).toInt32) &&& (2016 : Int32))) ||| (((w.toUInt32 >>> ((7 : Int32).toUInt32 &&& Int32.toUInt32 31)).toInt32) &&& (30 : Int32)))
theorem f3_lt (w : Int32) : f3 w < 8 := Nat.mod_lt _ (by decide)
theorem us7 (w : Int32) : un ((w.toUInt32 >>> ((7 : Int32).toUInt32 &&& Int32.toUInt32 31)).toInt32) = un w / 128 := pk_ushr w 7 7 (by decide)
theorem us12 (w : Int32) : un ((w.toUInt32 >>> ((12 : Int32).toUInt32 &&& Int32.toUInt32 31)).toInt32) = un w / 4096 := pk_ushr w 12 12 (by decide)
theorem us15 (w : Int32) : un ((w.toUInt32 >>> ((15 : Int32).toUInt32 &&& Int32.toUInt32 31)).toInt32) = un w / 32768 := pk_ushr w 15 15 (by decide)
theorem us20 (w : Int32) : un ((w.toUInt32 >>> ((20 : Int32).toUInt32 &&& Int32.toUInt32 31)).toInt32) = un w / 1048576 := pk_ushr w 20 20 (by decide)
theorem us25 (w : Int32) : un ((w.toUInt32 >>> ((25 : Int32).toUInt32 &&& Int32.toUInt32 31)).toInt32) = un w / 33554432 := pk_ushr w 25 25 (by decide)
theorem top_eq (w : Int32) : (w.toUInt32 >>> ((25 : Int32).toUInt32 &&& Int32.toUInt32 31)).toInt32 = nI (fTop w) := by rw [← nI_un ((w.toUInt32 >>> ((25 : Int32).toUInt32 &&& Int32.toUInt32 31)).toInt32), us25]; rfl
theorem fTop_lt (w : Int32) : fTop w < 128 := by unfold fTop; have := un_lt w; omega
theorem s_funct3 {S : zS} (w : Int32) {P : zS → Int32 → Prop} (h : P S (nI (f3 w))) : w_Guest_funct3 w S P := by
  unfold w_Guest_funct3
  have e : ((w.toUInt32 >>> ((12 : Int32).toUInt32 &&& Int32.toUInt32 31)).toInt32) &&& 7 = nI (f3 w) := by
    rw [pk_and _ 3 (by decide)]
    show nI (un _ % 8) = _
    rw [us12]; rfl
  rw [e]; exact h
def asg (A : zA) (r : Nat) (v : Int32) : zA := if r = 0 then A else aM A 2 r v
theorem s_asg {A : zA} {S : zS} (h : RC A S) (w v : Int32) {P : zS → Prop} (hP : ∀ S', RC (asg A (fRd w) v) S' → gM S' 0 1 = gM S 0 1 → P S') : w_Guest_assign ((w.toUInt32 >>> ((7 : Int32).toUInt32 &&& Int32.toUInt32 31)).toInt32) v S P := by
  unfold w_Guest_assign
  rw [and31, us7]
  have hm : un w / 128 % 32 < 32 := Nat.mod_lt _ (by decide)
  refine ⟨fun c => ?_, fun c => ⟨vp_in_nI hm (by decide), ?_⟩⟩
  · rw [← nI_0, nI_eq (by omega) (by decide)] at c
    exact hP S (by unfold asg fRd; rw [if_pos c]; exact h) rfl
  · have c' : ¬ un w / 128 % 32 = 0 := fun z => c (by rw [z]; exact nI_0)
    rintro S2 rfl
    rw [nI_clamp (by omega)]
    exact hP _ (by unfold asg fRd; rw [if_neg c']; exact h.reg _ v) rfl
theorem s_r1 {A : zA} {S : zS} (h : RC A S) (w : Int32) {P : zS → Int32 → Prop} (hP : P S (gM A.1 2 (fR1 w))) : w_Guest_value ((w.toUInt32 >>> ((15 : Int32).toUInt32 &&& Int32.toUInt32 31)).toInt32) S P := by
  refine s_value h _ ?_
  rw [us15]; exact hP
theorem s_r2 {A : zA} {S : zS} (h : RC A S) (w : Int32) {P : zS → Int32 → Prop} (hP : P S (gM A.1 2 (fR2 w))) : w_Guest_value ((w.toUInt32 >>> ((20 : Int32).toUInt32 &&& Int32.toUInt32 31)).toInt32) S P := by
  refine s_value h _ ?_
  rw [us20]; exact hP
theorem RC.pc {A : zA} {S : zS} (h : RC A S) : gM S 0 0 = gM A.1 0 0 := h.1.1 0 (Or.inl rfl)
/-- state, where it goes on, trap -/
abbrev zX3 : Type := zA × Int32 × Int32
def jumpA (A : zA) (w to : Int32) : zX3 := if un to % 4 = 0 then (asg A (fRd w) (gM A.1 0 0 + 4), to, 0) else (A, gM A.1 0 0 + 4, 1)
theorem and3 (x : Int32) : x &&& 3 = 0 ↔ un x % 4 = 0 := by
  rw [pk_and x 2 (by decide)]
  show nI (un x % 4) = 0 ↔ _
  rw [← nI_0, nI_eq (by omega) (by decide)]
/-- a walk's end: the class's numbers stand for the state, and it goes on where told -/
def xEnd (X : zX3) (P : zS → Int32 → Prop) : Prop := ∀ S', RC X.1 S' → gM S' 0 1 = X.2.1 → P S' X.2.2
theorem s_jump {A : zA} {S : zS} (h : RC A S) (hn : gM S 0 1 = gM A.1 0 0 + 4) (w to : Int32) {P : zS → Int32 → Prop} (hP : xEnd (jumpA A w to) P) : w_Guest_jump w to S P := by
  unfold w_Guest_jump
  rw [and3]
  refine ⟨fun c => ?_, fun c => ?_⟩
  · rw [h.pc]
    refine s_asg h w _ (fun S1 h1 _ => ?_)
    rintro S2 rfl
    unfold jumpA at hP
    rw [if_pos c] at hP
    exact hP _ (h1.sc0 (Or.inl rfl) to) (by simp [gM_sM])
  · unfold jumpA at hP
    rw [if_neg c] at hP
    exact hP S h hn
theorem s_less {S : zS} (a b : Int32) {P : zS → Int32 → Prop} (h : P S (if un a < un b then 1 else 0)) : w_Guest_isLessWithoutSign a b S P := by
  unfold w_Guest_isLessWithoutSign
  have h1 := un_lt a
  have h2 := un_lt b
  rw [lg_cmp_ge, long_un, long_un, pk_lLE (by omega) (by omega)]
  refine ⟨fun c => ?_, fun c => ?_⟩
  · rw [if_neg (by omega)] at h; exact h
  · rw [if_pos (by omega)] at h; exact h
def takenA (k : Nat) (a b : Int32) : Bool := if k = 0 then decide (a = b) else if k = 1 then !decide (a = b) else if k = 4 then decide (a < b) else if k = 5 then !decide (a < b) else if k = 6 then decide (un a < un b) else !decide (un a < un b)
theorem lt_le {a b : Int32} : ¬ b ≤ a ↔ a < b := by
  rw [Int32.le_iff_toInt_le, Int32.lt_iff_toInt_lt]; omega
theorem nk {k : Nat} (hk : k < 128) (m : Nat) (hm : m < 128) : nI k = nI m ↔ k = m := nI_eq (by omega) (by omega)
theorem s_taken {S : zS} {k : Nat} (hk : k < 8) (a b : Int32) {P : zS → Int32 → Prop} (h : P S (if takenA k a b = true then 1 else 0)) : w_Guest_isTaken (nI k) a b S P := by
  have q0 : nI k = (0 : Int32) ↔ k = 0 := nk (by omega) 0 (by decide)
  have q1 : nI k = (1 : Int32) ↔ k = 1 := nk (by omega) 1 (by decide)
  have q4 : nI k = (4 : Int32) ↔ k = 4 := nk (by omega) 4 (by decide)
  have q5 : nI k = (5 : Int32) ↔ k = 5 := nk (by omega) 5 (by decide)
  have q6 : nI k = (6 : Int32) ↔ k = 6 := nk (by omega) 6 (by decide)
  unfold w_Guest_isTaken
  unfold takenA at h
  rw [q0, q1, q4, q5, q6]
  refine ⟨fun c0 => ⟨fun e => ?_, fun e => ?_⟩, fun c0 => ⟨fun c1 => ⟨fun e => ?_, fun e => ?_⟩, fun c1 => ⟨fun c4 => ⟨fun e => ?_, fun e => ?_⟩, fun c4 => ⟨fun c5 => ⟨fun e => ?_, fun e => ?_⟩, fun c5 => ⟨fun c6 => s_less a b ?_, fun c6 => s_less a b ⟨fun e => ?_, fun e => ?_⟩⟩⟩⟩⟩⟩
  · simpa [c0, e] using h
  · simpa [c0, e] using h
  · simpa [c1, e] using h
  · simpa [c1, e] using h
  · have e' : ¬ a < b := fun z => (lt_le.mpr z) e
    simpa [c4, e'] using h
  · have e' : a < b := lt_le.mp e
    simpa [c4, e'] using h
  · simpa [c5, e] using h
  · simpa [c5, e] using h
  · by_cases e : un a < un b
    · rw [if_pos e]; exact ⟨rfl, by simpa [c6, e] using h⟩
    · rw [if_neg e]; exact ⟨rfl, by simpa [c6, e] using h⟩
  · by_cases e2 : un a < un b
    · rw [if_pos e2] at e; exact absurd e (by decide)
    · simpa [c0, c1, c4, c5, c6, e2] using h
  · by_cases e2 : un a < un b
    · simpa [c0, c1, c4, c5, c6, e2] using h
    · rw [if_neg e2] at e; exact absurd rfl e
def branchA (A : zA) (w : Int32) : zX3 := if f3 w = 2 ∨ f3 w = 3 then (A, gM A.1 0 0 + 4, 3) else if takenA (f3 w) (gM A.1 2 (fR1 w)) (gM A.1 2 (fR2 w)) = true then (if un (gM A.1 0 0 + immB w) % 4 = 0 then (A, gM A.1 0 0 + immB w, 0) else (A, gM A.1 0 0 + 4, 1)) else (A, gM A.1 0 0 + 4, 0)
theorem s_branch {A : zA} {S : zS} (h : RC A S) (hn : gM S 0 1 = gM A.1 0 0 + 4) (w : Int32) {P : zS → Int32 → Prop} (hP : xEnd (branchA A w) P) : w_Guest_branch w S P := by
  have hf := f3_lt w
  unfold w_Guest_branch
  refine s_funct3 w ?_
  unfold branchA at hP
  have q2 : nI (f3 w) = (2 : Int32) ↔ f3 w = 2 := nk (by omega) 2 (by decide)
  have q3 : nI (f3 w) = (3 : Int32) ↔ f3 w = 3 := nk (by omega) 3 (by decide)
  rw [q2, q3]
  refine ⟨fun c => ?_, fun c => ⟨fun c2 => ?_, fun c2 => s_r1 h w (s_r2 h w (s_taken hf _ _ ?_))⟩⟩
  · rw [if_pos (Or.inl c)] at hP; exact hP S h hn
  · rw [if_pos (Or.inr c2)] at hP; exact hP S h hn
  · rw [if_neg (by omega)] at hP
    by_cases t : takenA (f3 w) (gM A.1 2 (fR1 w)) (gM A.1 2 (fR2 w)) = true
    · rw [if_pos t] at hP ⊢
      refine ⟨fun z => absurd z (by decide), fun _ => ?_⟩
      unfold w_Guest_branchOffset
      rintro v11 rfl
      rw [h.pc]
      show ((gM A.1 0 0 + immB w) &&& 3 = 0 → _) ∧ (¬ (gM A.1 0 0 + immB w) &&& 3 = 0 → _)
      rw [and3]
      refine ⟨fun c3 => ?_, fun c3 => ?_⟩
      · rintro S12 rfl
        rw [if_pos c3] at hP
        exact hP _ (h.sc0 (Or.inl rfl) _) (by rw [gM_sM, if_pos rfl, if_pos rfl]; rfl)
      · rw [if_neg c3] at hP; exact hP S h hn
    · rw [if_neg t] at hP ⊢
      exact ⟨fun _ => hP S h hn, fun z => absurd rfl z⟩
