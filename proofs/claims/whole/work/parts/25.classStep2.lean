/-! products, quotients; one step of the class -/
def mulA (k : Nat) (a b : Int32) : Int32 := if k = 0 then a * b else if k = 1 then ((a.toInt64 * b.toInt64) >>> ((32 : Int32).toInt64 &&& 63)).toInt32 else if k = 2 then ((a.toInt64 * (b.toInt64 &&& (4294967295 : Int64))) >>> ((32 : Int32).toInt64 &&& 63)).toInt32 else ((((a.toInt64 &&& (4294967295 : Int64)) * (b.toInt64 &&& (4294967295 : Int64))).toUInt64 >>> ((32 : Int32).toInt64.toUInt64 &&& Int64.toUInt64 63)).toInt64).toInt32
theorem s_multiplied {S : zS} {k : Nat} (hk : k < 4) (a b : Int32) {P : zS → Int32 → Prop} (h : P S (mulA k a b)) : w_Guest_multiplied (nI k) a b S P := by
  have q0 : nI k = (0 : Int32) ↔ k = 0 := nk (by omega) 0 (by decide)
  have q1 : nI k = (1 : Int32) ↔ k = 1 := nk (by omega) 1 (by decide)
  have q2 : nI k = (2 : Int32) ↔ k = 2 := nk (by omega) 2 (by decide)
  unfold w_Guest_multiplied
  unfold mulA at h
  rw [q0, q1, q2]
  refine ⟨fun c0 => ?_, fun c0 => ⟨fun c1 => ?_, fun c1 => ⟨fun c2 => ?_, fun c2 => ?_⟩⟩⟩
  · rw [if_pos c0] at h; exact h
  · rw [if_neg c0, if_pos c1] at h; exact h
  · rw [if_neg c0, if_neg c1, if_pos c2] at h; exact h
  · rw [if_neg c0, if_neg c1, if_neg c2] at h; exact h
def divA (k : Nat) (a b : Int32) : Int32 := if b = 0 then (if k < 6 then -1 else a) else if k = 4 then a / b else if k = 5 then nI (un a / un b) else if k = 6 then a - a / b * b else nI (un a % un b)
theorem div64 (a b : Int32) : (a.toInt64 / b.toInt64).toInt32 = a / b := by
  apply Int32.toInt_inj.mp
  rw [Int64.toInt_toInt32, Int64.toInt_div, Int32.toInt_div, Int32.toInt_toInt64, Int32.toInt_toInt64]
  exact Int.bmod_bmod_of_dvd (by decide)
theorem un_ne0 {b : Int32} (h : ¬ b = 0) : 0 < un b := by
  rcases Nat.eq_zero_or_pos (un b) with e | e
  · exact absurd (by rw [← nI_un b, e, nI_0]) h
  · exact e
theorem i64_ne0 {b : Int32} (h : ¬ b = 0) : ¬ b.toInt64 = 0 := fun z => h (by
  have := congrArg Int64.toInt32 z
  rw [lg_l2i_i2l] at this
  exact this)
theorem s_divided {S : zS} {k : Nat} (hk : k < 8) (h4 : 4 ≤ k) (a b : Int32) {P : zS → Int32 → Prop} (h : P S (divA k a b)) : w_Guest_divided (nI k) a b S P := by
  have q6 : nI k < (6 : Int32) ↔ k < 6 := nI_ltI (by omega) (by decide)
  have ha := un_lt a
  have hb := un_lt b
  have o1 : nI k &&& 1 = 0 ↔ k % 2 = 0 := by
    rw [pk_andN (by omega) 1 rfl]
    show nI (k % 2) = 0 ↔ _
    rw [← nI_0, nI_eq (by omega) (by decide)]
  unfold w_Guest_divided j_Guest_divided_11
  rw [q6, o1]
  have core : ∀ x3 : Int32, (¬ b = 0) → (x3 = 0 ↔ k < 6) → ((k % 2 = 0 → j_Guest_divided_37 (nI k) a b P S x3 1) ∧ (¬ k % 2 = 0 → j_Guest_divided_37 (nI k) a b P S x3 0)) := by
    intro x3 hb0 hx
    unfold divA at h
    rw [if_neg hb0] at h
    have hu := un_ne0 hb0
    unfold j_Guest_divided_37 j_Guest_divided_55 j_Guest_divided_73 j_Guest_divided_92
    rw [hx]
    refine ⟨fun e => ⟨fun z => absurd z (by decide), fun _ => ⟨fun z => absurd z (by decide), fun _ => ⟨fun c => ⟨i64_ne0 hb0, ?_⟩, fun c => ⟨i64_ne0 hb0, ?_⟩⟩⟩⟩, fun e => ⟨fun _ => ⟨fun _ => ?_, fun z => absurd rfl z⟩, fun z => absurd rfl z⟩⟩
    · rw [if_pos (by omega)] at h
      rw [div64]; exact h
    · rw [if_neg (by omega), if_neg (by omega), if_pos (by omega)] at h
      rw [lg_l2i_sub, lg_l2i_mul, div64, lg_l2i_i2l, lg_l2i_i2l]; exact h
    · have ne : ¬ b.toInt64 &&& 4294967295 = 0 := by
        rw [long_un, show (0 : Int64) = lN 0 from rfl, pk_lEQ (by omega) (by decide)]; omega
      refine ⟨fun c => ⟨ne, ?_⟩, fun c => ⟨ne, ?_⟩⟩
      · rw [if_neg (by omega), if_pos (by omega)] at h
        rw [long_un, long_un, pk_lDiv (by omega) hu (by omega), lN_i]; exact h
      · rw [if_neg (by omega), if_neg (by omega), if_neg (by omega)] at h
        rw [long_un, long_un, pk_lRem (by omega) hu (by omega), lN_i]; exact h
  refine ⟨fun c => ⟨fun hb0 => ⟨fun _ => ?_, fun z => absurd rfl z⟩, fun hb0 => core 0 hb0 ⟨fun _ => c, fun _ => rfl⟩⟩, fun c => ⟨fun hb0 => ⟨fun z => absurd z (by decide), fun _ => ?_⟩, fun hb0 => core 1 hb0 ⟨fun z => absurd z (by decide), fun z => absurd z c⟩⟩⟩
  · unfold divA at h
    rw [if_pos hb0, if_pos c] at h; exact h
  · unfold divA at h
    rw [if_pos hb0, if_neg c] at h; exact h
def opA (A : zA) (w : Int32) : zX3 := if fTop w = 1 then (asg A (fRd w) (if f3 w < 4 then mulA (f3 w) (gM A.1 2 (fR1 w)) (gM A.1 2 (fR2 w)) else divA (f3 w) (gM A.1 2 (fR1 w)) (gM A.1 2 (fR2 w))), gM A.1 0 0 + 4, 0) else if fTop w = 0 then (asg A (fRd w) (aluA (f3 w) (gM A.1 2 (fR1 w)) (gM A.1 2 (fR2 w)) false), gM A.1 0 0 + 4, 0) else if fTop w = 32 ∧ (f3 w = 0 ∨ f3 w = 5) then (asg A (fRd w) (aluA (f3 w) (gM A.1 2 (fR1 w)) (gM A.1 2 (fR2 w)) true), gM A.1 0 0 + 4, 0) else (A, gM A.1 0 0 + 4, 3)
theorem s_op102 {A : zA} {S : zS} (h : RC A S) (hn : gM S 0 1 = gM A.1 0 0 + 4) (w : Int32) (o : Bool) {P : zS → Int32 → Prop} (hP : xEnd (asg A (fRd w) (aluA (f3 w) (gM A.1 2 (fR1 w)) (gM A.1 2 (fR2 w)) o), gM A.1 0 0 + 4, 0) P) : j_Guest_operate_102 w P S (nI (f3 w)) (gM A.1 2 (fR1 w)) (gM A.1 2 (fR2 w)) (if o = true then 1 else 0) := by
  unfold j_Guest_operate_102
  refine s_computed (f3_lt w) _ _ o ?_
  exact s_asg h w _ (fun S1 h1 e1 => hP S1 h1 (e1.trans hn))
theorem s_op {A : zA} {S : zS} (h : RC A S) (hn : gM S 0 1 = gM A.1 0 0 + 4) (w : Int32) {P : zS → Int32 → Prop} (hP : xEnd (opA A w) P) : w_Guest_operate w S P := by
  have hf := f3_lt w
  have ht := fTop_lt w
  have q0 : nI (f3 w) = (0 : Int32) ↔ f3 w = 0 := nk (by omega) 0 (by decide)
  have q5 : nI (f3 w) = (5 : Int32) ↔ f3 w = 5 := nk (by omega) 5 (by decide)
  have l4 : (4 : Int32) ≤ nI (f3 w) ↔ 4 ≤ f3 w := nI_leI (by decide) (by omega)
  have t0 : nI (fTop w) = (0 : Int32) ↔ fTop w = 0 := nk (by omega) 0 (by decide)
  have t1 : nI (fTop w) = (1 : Int32) ↔ fTop w = 1 := nk (by omega) 1 (by decide)
  have t32 : nI (fTop w) = (32 : Int32) ↔ fTop w = 32 := nk (by omega) 32 (by decide)
  unfold opA at hP
  unfold w_Guest_operate
  refine s_funct3 w ?_
  rintro v3 rfl
  refine s_r1 h w (s_r2 h w ?_)
  rw [top_eq, t1, t32, l4, q0, q5]
  have g88 : ¬ fTop w = 1 → ¬ (fTop w = 32 ∧ (f3 w = 0 ∨ f3 w = 5)) → j_Guest_operate_88 w P S (nI (f3 w)) (nI (fTop w)) (gM A.1 2 (fR1 w)) (gM A.1 2 (fR2 w)) := by
    intro c1 c2
    unfold j_Guest_operate_88 j_Guest_operate_89
    rw [t0]
    rw [if_neg c1] at hP
    refine ⟨fun c => ?_, fun c => ⟨fun _ => ?_, fun z => absurd rfl z⟩⟩
    · rw [if_pos c] at hP
      exact s_op102 h hn w false hP
    · rw [if_neg c, if_neg c2] at hP
      exact hP S h hn
  have g84 : ¬ fTop w = 1 → (fTop w = 32 ∧ (f3 w = 0 ∨ f3 w = 5)) → j_Guest_operate_84 w P S (nI (f3 w)) (nI (fTop w)) (gM A.1 2 (fR1 w)) (gM A.1 2 (fR2 w)) := by
    intro c1 c2
    unfold j_Guest_operate_84 j_Guest_operate_89
    rw [t0]
    rw [if_neg c1, if_neg (by omega), if_pos c2] at hP
    exact ⟨fun c => by omega, fun c => ⟨fun z => absurd z (by decide), fun _ => s_op102 h hn w true hP⟩⟩
  refine ⟨fun c1 => ⟨fun c4 => s_divided hf c4 _ _ ?_, fun c4 => s_multiplied (by omega) _ _ ?_⟩, fun c1 => ⟨fun c32 => ⟨fun c0 => g84 c1 ⟨c32, Or.inl c0⟩, fun c0 => ⟨fun c5 => g84 c1 ⟨c32, Or.inr c5⟩, fun c5 => g88 c1 (by omega)⟩⟩, fun c32 => g88 c1 (by omega)⟩⟩
  · rw [if_pos c1, if_neg (by omega)] at hP
    unfold j_Guest_operate_64
    exact s_asg h w _ (fun S1 h1 e1 => hP S1 h1 (e1.trans hn))
  · rw [if_pos c1, if_pos (by omega)] at hP
    unfold j_Guest_operate_64
    exact s_asg h w _ (fun S1 h1 e1 => hP S1 h1 (e1.trans hn))
def exA (A : zA) (w : Int32) : zX3 :=
  if un w % 128 = 3 then loadA A w
  else if un w % 128 = 15 then (A, gM A.1 0 0 + 4, if f3 w ≤ 1 then 0 else 3)
  else if un w % 128 = 19 then immA A w
  else if un w % 128 = 23 then (asg A (fRd w) (gM A.1 0 0 + immU w), gM A.1 0 0 + 4, 0)
  else if un w % 128 = 35 then storeA A w
  else if un w % 128 = 51 then opA A w
  else if un w % 128 = 55 then (asg A (fRd w) (immU w), gM A.1 0 0 + 4, 0)
  else if un w % 128 = 99 then branchA A w
  else if un w % 128 = 103 then (if f3 w = 0 then jumpA A w ((gM A.1 2 (fR1 w) + immI w) &&& (-2)) else (A, gM A.1 0 0 + 4, 3))
  else if un w % 128 = 111 then jumpA A w (gM A.1 0 0 + immJ w)
  else if w = 115 then (A, gM A.1 0 0 + 4, 4)
  else if w = 1048691 then (A, gM A.1 0 0 + 4, 5)
  else (A, gM A.1 0 0 + 4, 3)
theorem s_execute {A : zA} {S : zS} (h : RC A S) (hn : gM S 0 1 = gM A.1 0 0 + 4) (w : Int32) {P : zS → Int32 → Prop} (hP : xEnd (exA A w) P) : w_Guest_execute w S P := by
  have hf := f3_lt w
  have e : w &&& 127 = nI (un w % 128) := pk_and w 7 rfl
  have hm : un w % 128 < 128 := Nat.mod_lt _ (by decide)
  have q : ∀ m, m < 128 → (nI (un w % 128) = nI m ↔ un w % 128 = m) := fun m hm9 => nk hm m hm9
  unfold exA at hP
  unfold w_Guest_execute
  rw [e]
  rw [show (nI (un w % 128) = (3 : Int32)) = (un w % 128 = 3) from propext (q 3 (by decide)), show (nI (un w % 128) = (15 : Int32)) = (un w % 128 = 15) from propext (q 15 (by decide)), show (nI (un w % 128) = (19 : Int32)) = (un w % 128 = 19) from propext (q 19 (by decide)), show (nI (un w % 128) = (23 : Int32)) = (un w % 128 = 23) from propext (q 23 (by decide)), show (nI (un w % 128) = (35 : Int32)) = (un w % 128 = 35) from propext (q 35 (by decide)), show (nI (un w % 128) = (51 : Int32)) = (un w % 128 = 51) from propext (q 51 (by decide)), show (nI (un w % 128) = (55 : Int32)) = (un w % 128 = 55) from propext (q 55 (by decide)), show (nI (un w % 128) = (99 : Int32)) = (un w % 128 = 99) from propext (q 99 (by decide)), show (nI (un w % 128) = (103 : Int32)) = (un w % 128 = 103) from propext (q 103 (by decide)), show (nI (un w % 128) = (111 : Int32)) = (un w % 128 = 111) from propext (q 111 (by decide)), show (nI (un w % 128) = (115 : Int32)) = (un w % 128 = 115) from propext (q 115 (by decide))]
  refine ⟨fun c => ?_, fun c => ?_⟩
  · rw [if_pos c] at hP; exact s_load h hn w hP
  rw [if_neg c] at hP
  refine ⟨fun c => ?_, fun c => ?_⟩
  · rw [if_pos c] at hP
    refine s_funct3 w ?_
    have l1 : (1 : Int32) < nI (f3 w) ↔ 1 < f3 w := nI_ltI (by decide) (by omega)
    rw [l1]
    refine ⟨fun c2 => ?_, fun c2 => ?_⟩
    · rw [if_neg (by omega)] at hP; exact hP S h hn
    · rw [if_pos (by omega)] at hP; exact hP S h hn
  rw [if_neg c] at hP
  refine ⟨fun c => ?_, fun c => ?_⟩
  · rw [if_pos c] at hP; exact s_imm h hn w hP
  rw [if_neg c] at hP
  refine ⟨fun c => ?_, fun c => ?_⟩
  · rw [if_pos c] at hP
    rw [h.pc]
    exact s_asg h w _ (fun S1 h1 e1 => hP S1 h1 (e1.trans hn))
  rw [if_neg c] at hP
  refine ⟨fun c => ?_, fun c => ?_⟩
  · rw [if_pos c] at hP; exact s_store h hn w hP
  rw [if_neg c] at hP
  refine ⟨fun c => ?_, fun c => ?_⟩
  · rw [if_pos c] at hP; exact s_op h hn w hP
  rw [if_neg c] at hP
  refine ⟨fun c => ?_, fun c => ?_⟩
  · rw [if_pos c] at hP
    exact s_asg h w _ (fun S1 h1 e1 => hP S1 h1 (e1.trans hn))
  rw [if_neg c] at hP
  refine ⟨fun c => ?_, fun c => ?_⟩
  · rw [if_pos c] at hP; exact s_branch h hn w hP
  rw [if_neg c] at hP
  refine ⟨fun c => ?_, fun c => ?_⟩
  · rw [if_pos c] at hP
    refine s_funct3 w ?_
    have q0 : nI (f3 w) = (0 : Int32) ↔ f3 w = 0 := nk (by omega) 0 (by decide)
    rw [q0]
    refine ⟨fun c2 => s_r1 h w ?_, fun c2 => ?_⟩
    · rw [if_pos c2] at hP; exact s_jump h hn w _ hP
    · rw [if_neg c2] at hP; exact hP S h hn
  rw [if_neg c] at hP
  refine ⟨fun c => ?_, fun c => ?_⟩
  · rw [if_pos c] at hP
    unfold w_Guest_jumpOffset
    rw [h.pc]
    exact s_jump h hn w _ hP
  rw [if_neg c] at hP
  refine ⟨fun c => ?_, fun c => ?_⟩
  · unfold w_Guest_system
    refine ⟨fun c1 => ?_, fun c1 => ⟨fun c2 => ?_, fun c2 => ?_⟩⟩
    · rw [if_pos c1] at hP; exact hP S h hn
    · rw [if_neg c1, if_pos c2] at hP; exact hP S h hn
    · rw [if_neg c1, if_neg c2] at hP; exact hP S h hn
  · have c1 : ¬ w = 115 := fun z => c (by rw [z]; decide)
    have c2 : ¬ w = 1048691 := fun z => c (by rw [z]; decide)
    rw [if_neg c1, if_neg c2] at hP; exact hP S h hn
def stopA (A : zA) (t : Int32) : zA := aM (aM A 0 2 2) 0 3 t
theorem s_stop {A : zA} {S : zS} (h : RC A S) (t : Int32) {P : zS → Prop} (hP : ∀ S', RC (stopA A t) S' → P S') : w_Guest_stop t S P := by
  unfold w_Guest_stop
  rintro S1 rfl S2 rfl
  exact hP _ ((h.sc (by decide) 2).sc (by decide) t)
def markedA (A : zA) : Bool := decide (4 ≤ un (gM A.1 0 0) ∧ un (gM A.1 0 0) + 8 ≤ 16384 ∧ wordOf (gM A.1 3) (un (gM A.1 0 0) - 4) = 32509971 ∧ wordOf (gM A.1 3) (un (gM A.1 0 0) + 4) = 1081102355)
theorem markedA_iff (A : zA) : markedA A = true ↔ 4 ≤ un (gM A.1 0 0) ∧ un (gM A.1 0 0) + 8 ≤ 16384 ∧ wordOf (gM A.1 3) (un (gM A.1 0 0) - 4) = 32509971 ∧ wordOf (gM A.1 3) (un (gM A.1 0 0) + 4) = 1081102355 := by unfold markedA; exact decide_eq_true_iff
theorem s_marked {A : zA} {S : zS} (h : RC A S) (hp : un (gM A.1 0 0) + 4 ≤ 16384) {P : zS → Int32 → Prop} (hP : P S (if markedA A = true then 1 else 0)) : w_Guest_isMarked S P := by
  have hm := h.1.2.2.1
  have hb : un (gM A.1 0 0) + 4 ≤ 16384 := hp
  unfold w_Guest_isMarked
  rw [h.pc]
  simp only [markedA_iff] at hP
  generalize ha : un (gM A.1 0 0) = a at hP hb
  have e : gM A.1 0 0 = nI a := by rw [← ha, nI_un]
  rw [e]
  have l4 : nI a < (4 : Int32) ↔ a < 4 := nI_ltI (by omega) (by decide)
  rw [l4]
  refine ⟨fun c => ?_, fun c => ?_⟩
  · rw [if_neg (by omega)] at hP; exact hP
  rw [show (4 : Int32) = nI 4 from rfl, pk_sub (by omega)]
  refine s_wordAt hm (by omega) ⟨fun c1 => ?_, fun c1 => ?_⟩
  · rw [h.pc, e, nI_add]
    refine s_hasArea _ _ ?_
    rw [un_nI (by omega), un_nI (by omega)]
    by_cases c2 : a + 4 + 4 ≤ 16384
    · rw [if_pos c2]
      refine ⟨fun z => absurd z (by decide), fun _ => ?_⟩
      rw [h.pc, e, nI_add]
      refine s_wordAt hm c2 ⟨fun c3 => ?_, fun c3 => ?_⟩
      · rw [if_pos ⟨by omega, by omega, c1, c3⟩] at hP; exact hP
      · rw [if_neg (fun z => c3 z.2.2.2)] at hP; exact hP
    · rw [if_neg c2]
      refine ⟨fun _ => ?_, fun z => absurd rfl z⟩
      rw [if_neg (fun z => c2 (by omega))] at hP; exact hP
  · rw [if_neg (fun z => c1 z.2.2.1)] at hP; exact hP
/-- one step: the state behind it, and whether a CALL is yet to be answered -/
def stepA (A : zA) : zA × Bool :=
  if ¬ un (gM A.1 0 0) % 4 = 0 then (stopA (aJ A (gJ A.1 + 1)) 1, false)
  else if ¬ un (gM A.1 0 0) + 4 ≤ 16384 then (stopA (aJ A (gJ A.1 + 1)) 2, false)
  else if wordOf (gM A.1 3) (un (gM A.1 0 0)) = 1048691 ∧ markedA A = true then (aJ A (gJ A.1 + 1), true)
  else if (exA (aJ A (gJ A.1 + 1)) (wordOf (gM A.1 3) (un (gM A.1 0 0)))).2.2 = 0 then (aM (exA (aJ A (gJ A.1 + 1)) (wordOf (gM A.1 3) (un (gM A.1 0 0)))).1 0 0 (exA (aJ A (gJ A.1 + 1)) (wordOf (gM A.1 3) (un (gM A.1 0 0)))).2.1, false)
  else (stopA (exA (aJ A (gJ A.1 + 1)) (wordOf (gM A.1 3) (un (gM A.1 0 0)))).1 (exA (aJ A (gJ A.1 + 1)) (wordOf (gM A.1 3) (un (gM A.1 0 0)))).2.2, false)
theorem s_step75 {A : zA} {S : zS} (h : RC A S) (w : Int32) {P : zS → Int32 → Prop} (h0 : (exA A w).2.2 = 0 → ∀ S', RC (aM (exA A w).1 0 0 (exA A w).2.1) S' → P S' 0) (h1 : ¬ (exA A w).2.2 = 0 → ∀ S', RC (stopA (exA A w).1 (exA A w).2.2) S' → P S' 0) : j_Guest_step_75 P S w := by
  unfold j_Guest_step_75
  rintro S1 rfl
  rw [h.pc]
  refine s_execute (h.sc0 (Or.inl rfl) _) (by rw [gM_sM, if_pos rfl, if_pos rfl]) w (fun S2 h2 e2 => ⟨fun c => ?_, fun c => s_stop h2 _ (fun S' h' => h1 c S' h')⟩)
  rintro S5 rfl
  refine h0 c _ ?_
  rw [e2]
  exact h2.sc (by decide) _
theorem s_step {A : zA} {S : zS} (h : RC A S) {P : zS → Int32 → Prop} (hP : ∀ S', RC (stepA A).1 S' → P S' (if (stepA A).2 = true then 1 else 0)) : w_Guest_step S P := by
  have hJ : gJ S = gJ A.1 := h.1.2.2.2.2
  unfold w_Guest_step
  rintro S1 rfl
  rw [hJ]
  have h1 : RC (aJ A (gJ A.1 + 1)) (sJ S (gJ A.1 + 1)) := h.steps _
  have hpc : gM (sJ S (gJ A.1 + 1)) 0 0 = gM A.1 0 0 := h.pc
  have hm : memIs (sJ S (gJ A.1 + 1)) (gM A.1 3) := h1.1.2.2.1
  rw [hpc, and3]
  unfold stepA at hP
  refine ⟨fun c => s_hasArea _ _ ?_, fun c => ?_⟩
  · rw [if_neg (fun z => z c)] at hP
    rw [show un 4 = 4 from rfl]
    by_cases c2 : un (gM A.1 0 0) + 4 ≤ 16384
    · rw [if_pos c2]
      rw [if_neg (fun z => z c2)] at hP
      refine ⟨fun z => absurd z (by decide), fun _ => ?_⟩
      rw [hpc, ← nI_un (gM A.1 0 0)]
      refine s_wordAt hm c2 ⟨fun c3 => s_marked h1 c2 ⟨fun c4 => ?_, fun c4 => ?_⟩, fun c3 => ?_⟩
      · have c5 : ¬ markedA A = true := fun z => by
          have z : markedA (aJ A (gJ A.1 + 1)) = true := z
          rw [if_pos z] at c4
          exact absurd c4 (by decide)
        rw [if_neg (fun z => c5 z.2)] at hP
        refine s_step75 h1 _ (fun e S' h' => ?_) (fun e S' h' => ?_)
        · rw [if_pos e] at hP; exact hP S' h'
        · rw [if_neg e] at hP; exact hP S' h'
      · have c5 : markedA A = true := Classical.byContradiction (fun z => by
          have z : ¬ markedA (aJ A (gJ A.1 + 1)) = true := z
          rw [if_neg z] at c4
          exact c4 rfl)
        rw [if_pos ⟨c3, c5⟩] at hP
        exact hP _ h1
      · rw [if_neg (fun z => c3 z.1)] at hP
        refine s_step75 h1 _ (fun e S' h' => ?_) (fun e S' h' => ?_)
        · rw [if_pos e] at hP; exact hP S' h'
        · rw [if_neg e] at hP; exact hP S' h'
    · rw [if_neg c2]
      rw [if_pos c2] at hP
      exact ⟨fun _ => s_stop h1 _ (fun S' h' => hP S' h'), fun z => absurd rfl z⟩
  · rw [if_pos c] at hP
    exact s_stop h1 _ (fun S' h' => hP S' h')
