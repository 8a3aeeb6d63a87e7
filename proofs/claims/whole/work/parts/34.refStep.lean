/-! one instruction of the reference -/
theorem shm (w : Int32) (k j : Nat) (m : Int32) (hm : ∀ i, i < 32 → bt m i = decide (i < j)) (hkj : k + j ≤ 32) (hk : k < 32) : (w >>> (nI k &&& 31)) &&& m = (w.toUInt32 >>> ((nI k).toUInt32 &&& Int32.toUInt32 31)).toInt32 &&& m := by
  apply b_ext
  intro i hi
  rw [b_and, b_and, b_sshr k hk w hi, b_ushr k hk, hm i hi]
  by_cases c : i < j
  · rw [if_pos (by omega)]
  · simp [c]
theorem m31 : ∀ i, i < 32 → bt 31 i = decide (i < 5) := by decide +kernel
theorem m7 : ∀ i, i < 32 → bt 7 i = decide (i < 3) := by decide +kernel
theorem rd_eq (w : Int32) : (w >>> ((7 : Int32) &&& 31)) &&& 31 = nI (fRd w) := by
  have := shm w 7 5 31 m31 (by decide) (by decide)
  rw [show nI 7 = 7 from rfl] at this
  rw [this, and31, us7]; rfl
theorem r1_eq (w : Int32) : (w >>> ((15 : Int32) &&& 31)) &&& 31 = nI (fR1 w) := by
  have := shm w 15 5 31 m31 (by decide) (by decide)
  rw [show nI 15 = 15 from rfl] at this
  rw [this, and31, us15]; rfl
theorem r2_eq (w : Int32) : (w >>> ((20 : Int32) &&& 31)) &&& 31 = nI (fR2 w) := by
  have := shm w 20 5 31 m31 (by decide) (by decide)
  rw [show nI 20 = 20 from rfl] at this
  rw [this, and31, us20]; rfl
theorem f3_eq (w : Int32) : (w >>> ((12 : Int32) &&& 31)) &&& 7 = nI (f3 w) := by
  have := shm w 12 3 7 m7 (by decide) (by decide)
  rw [show nI 12 = 12 from rfl] at this
  rw [this, pk_and _ 3 (by decide)]
  show nI (un _ % 8) = _
  rw [us12]; rfl
theorem immS_eq (w : Int32) : ((w >>> ((25 : Int32) &&& 31)) <<< ((5 : Int32) &&& 31)) ||| ((w >>> ((7 : Int32) &&& 31)) &&& 31) = immS w := by
  unfold immS
  have := shm w 7 5 31 m31 (by decide) (by decide)
  rw [show nI 7 = 7 from rfl] at this
  rw [this]
theorem imm_eq (w : Int32) (a b c : Nat) (M m : Int32) (hb : b = a + c) (hb32 : b < 32) (hM : ∀ i, i < 32 → bt M i = (decide (c ≤ i) && bt m (i - c))) (hm : ∀ k, k < 32 → bt m k = true → b + k < 32) : ((w >>> (nI b &&& 31)) &&& m) <<< (nI c &&& 31) = (w.toUInt32 >>> ((nI a).toUInt32 &&& Int32.toUInt32 31)).toInt32 &&& M := by
  apply b_ext
  intro i hi
  rw [b_shl c (by omega) _ hi, b_and, b_and, b_ushr a (by omega), hM i hi, b_sshr b hb32 w (by omega)]
  by_cases h1 : c ≤ i
  · cases h2 : bt m (i - c) with
    | false => simp
    | true =>
      have := hm (i - c) (by omega) h2
      rw [if_pos this, show b + (i - c) = a + i by omega]
      simp [h1]
  · simp [h1]
theorem immB_eq (w : Int32) : ((((w >>> ((31 : Int32) &&& 31)) <<< ((12 : Int32) &&& 31)) ||| (((w >>> ((7 : Int32) &&& 31)) &&& (1 : Int32)) <<< ((11 : Int32) &&& 31))) ||| (((w >>> ((25 : Int32) &&& 31)) &&& (63 : Int32)) <<< ((5 : Int32) &&& 31))) ||| (((w >>> ((8 : Int32) &&& 31)) &&& (15 : Int32)) <<< ((1 : Int32) &&& 31)) = immB w := by
  unfold immB
  have e1 := imm_eq w 20 25 5 2016 63 (by decide) (by decide) (by decide +kernel) (by decide +kernel)
  have e2 := imm_eq w 7 8 1 30 15 (by decide) (by decide) (by decide +kernel) (by decide +kernel)
  have e3 : ((w >>> ((7 : Int32) &&& 31)) &&& (1 : Int32)) <<< ((11 : Int32) &&& 31) = (w &&& (128 : Int32)) <<< ((4 : Int32) &&& 31) := by
    apply b_ext
    intro i hi
    have h7 := b_sshr 7 (by decide) w (i := i - 11) (by omega)
    have h11 := b_shl 11 (by decide) ((w >>> ((7 : Int32) &&& 31)) &&& (1 : Int32)) hi
    have h4 := b_shl 4 (by decide) (w &&& (128 : Int32)) hi
    rw [show nI 7 = 7 from rfl] at h7
    rw [show nI 11 = 11 from rfl] at h11
    rw [show nI 4 = 4 from rfl] at h4
    rw [h11, h4, b_and, b_and, h7]
    have k1 : ∀ k, k < 32 → bt 1 k = decide (k = 0) := by decide +kernel
    have k128 : ∀ k, k < 32 → bt 128 k = decide (k = 7) := by decide +kernel
    rw [k1 _ (by omega), k128 _ (by omega)]
    by_cases c : i = 11
    · subst c; simp
    · have c1 : ¬ (11 ≤ i ∧ i - 11 = 0) := by omega
      have c2 : ¬ (4 ≤ i ∧ i - 4 = 7) := by omega
      by_cases d1 : 11 ≤ i
      · have d2 : ¬ i - 11 = 0 := fun z => c1 ⟨d1, z⟩
        have d3 : ¬ i - 4 = 7 := fun z => c2 ⟨by omega, z⟩
        simp [d2, d3]
      · by_cases d4 : 4 ≤ i
        · have d3 : ¬ i - 4 = 7 := fun z => c2 ⟨d4, z⟩
          simp [d1, d3]
        · simp [d1, d4]
  rw [show nI 25 = 25 from rfl, show nI 5 = 5 from rfl, show nI 20 = 20 from rfl] at e1
  rw [show nI 8 = 8 from rfl, show nI 1 = 1 from rfl, show nI 7 = 7 from rfl] at e2
  rw [e1, e2, e3]
theorem immJ_eq (w : Int32) : ((((w >>> ((31 : Int32) &&& 31)) <<< ((20 : Int32) &&& 31)) ||| (w &&& (1044480 : Int32))) ||| (((w >>> ((20 : Int32) &&& 31)) &&& (1 : Int32)) <<< ((11 : Int32) &&& 31))) ||| (((w >>> ((21 : Int32) &&& 31)) &&& (1023 : Int32)) <<< ((1 : Int32) &&& 31)) = immJ w := by
  unfold immJ
  have e1 := imm_eq w 9 20 11 2048 1 (by decide) (by decide) (by decide +kernel) (by decide +kernel)
  have e2 := imm_eq w 20 21 1 2046 1023 (by decide) (by decide) (by decide +kernel) (by decide +kernel)
  rw [show nI 20 = 20 from rfl, show nI 11 = 11 from rfl, show nI 9 = 9 from rfl] at e1
  rw [show nI 21 = 21 from rfl, show nI 1 = 1 from rfl, show nI 20 = 20 from rfl] at e2
  rw [e1, e2]
/-- what an instruction leaves -/
def xR (X : zX3) : zA := if X.2.2 = 0 then aM X.1 0 0 X.2.1 else stopA X.1 X.2.2
def rEnd (A : zA) (P : zS → Prop) : Prop := ∀ T', RS A T' → P T'
theorem r_stop {A : zA} {T : zS} (h : RS A T) (t : Int32) {P : zS → Prop} (hP : rEnd (stopA A t) P) : w_M_stop t T P := by
  unfold w_M_stop
  rintro S1 rfl S2 rfl
  exact hP _ ((h.state 2).trap t)
theorem r_comes {A : zA} {T : zS} (h : RS A T) {r : Nat} (hr : r < 32) (v : Int32) {P : zS → Prop} (hP : rEnd (asg A r v) P) : w_M_comes (nI r) v T P := by
  unfold w_M_comes
  have l0 : nI r ≤ (0 : Int32) ↔ r = 0 := by
    rw [← nI_0, nI_leI (by omega) (by decide)]; omega
  rw [l0]
  unfold asg at hP
  refine ⟨fun c => ?_, fun c => ⟨vp_in_nI hr (by decide), ?_⟩⟩
  · rw [if_pos c] at hP; exact hP T h
  · rintro S2 rfl
    rw [if_neg c] at hP
    rw [nI_clamp (by omega)]
    exact hP _ (h.reg r v)
theorem fRd_lt (w : Int32) : fRd w < 32 := Nat.mod_lt _ (by decide)
theorem fR1_lt (w : Int32) : fR1 w < 32 := Nat.mod_lt _ (by decide)
theorem fR2_lt (w : Int32) : fR2 w < 32 := Nat.mod_lt _ (by decide)
theorem asg_pc (A : zA) (r : Nat) (v : Int32) : gM (asg A r v).1 0 0 = gM A.1 0 0 := by unfold asg; split <;> rfl
theorem RS.pcv {A : zA} {T : zS} (h : RS A T) : gM T 0 3 = gM A.1 0 0 := h.s.1
/-- a number comes to a register, and on -/
theorem r_comesOn {A : zA} {T : zS} (h : RS A T) (w v : Int32) {P : zS → Prop} (hP : rEnd (xR (asg A (fRd w) v, gM A.1 0 0 + 4, 0)) P) : w_M_comes (nI (fRd w)) v T (fun S1 => ∀ S2 : zS, S2 = sM S1 0 3 (gM S1 0 3 + 4) → P S2) := by
  refine r_comes h (fRd_lt w) v (fun T1 h1 => ?_)
  rintro S2 rfl
  rw [h1.pcv, asg_pc]
  unfold xR at hP
  rw [if_pos rfl] at hP
  exact hP _ (h1.pc _)
theorem xR0 (A : zA) (n : Int32) : xR (A, n, 0) = aM A 0 0 n := if_pos rfl
theorem xR1 (A : zA) (n : Int32) {t : Int32} (h : ¬ t = 0) : xR (A, n, t) = stopA A t := if_neg h
theorem r_jump {A : zA} {T : zS} (h : RS A T) (w to : Int32) {P : zS → Prop} (hP : rEnd (xR (jumpA A w to)) P) : w_M_jump (nI (fRd w)) to T P := by
  unfold w_M_jump
  rw [and3]
  unfold jumpA at hP
  refine ⟨fun c => ?_, fun c => ?_⟩
  · rw [if_pos c, xR0] at hP
    rw [h.pcv]
    refine r_comes h (fRd_lt w) _ (fun T1 h1 => ?_)
    rintro S2 rfl
    exact hP _ (h1.pc to)
  · rw [if_neg c, xR1 _ _ (by decide)] at hP
    exact r_stop h _ hP
theorem r_br94 {A : zA} {T : zS} (h : RS A T) (w a2 a b : Int32) (tk : Bool) {P : zS → Prop} (hP : rEnd (xR (if tk = true then (if un (gM A.1 0 0 + immB w) % 4 = 0 then (A, gM A.1 0 0 + immB w, 0) else (A, gM A.1 0 0 + 4, 1)) else (A, gM A.1 0 0 + 4, 0))) P) : j_M_branch_94 w a2 a b P T (if tk = true then 1 else 0) := by
  unfold j_M_branch_94
  rintro v1 rfl
  rw [immB_eq, h.pcv, and3]
  cases tk with
  | false =>
    rw [if_neg (by decide), xR0] at hP
    refine ⟨fun _ => ?_, fun z => absurd rfl z⟩
    rintro S4 rfl
    exact hP _ (h.pc _)
  | true =>
    rw [if_pos rfl] at hP
    refine ⟨fun z => absurd z (by decide), fun _ => ⟨fun c => ?_, fun c => ?_⟩⟩
    · rw [if_pos c, xR0] at hP
      rintro S2 rfl
      exact hP _ (h.pc _)
    · rw [if_neg c, xR1 _ _ (by decide)] at hP
      exact r_stop h _ hP
theorem less_iff (a b : Int32) : (0 ≤ lg_cmp (a.toInt64 &&& (4294967295 : Int64)) (b.toInt64 &&& (4294967295 : Int64))) ↔ ¬ un a < un b := by
  have h1 := un_lt a
  have h2 := un_lt b
  rw [lg_cmp_ge, long_un, long_un, pk_lLE (by omega) (by omega)]
  omega
theorem r_branch {A : zA} {T : zS} (h : RS A T) (w : Int32) {P : zS → Prop} (hP : rEnd (xR (branchA A w)) P) : w_M_branch w (nI (f3 w)) (gM A.1 2 (fR1 w)) (gM A.1 2 (fR2 w)) T P := by
  have hf := f3_lt w
  unfold branchA at hP
  generalize gM A.1 2 (fR1 w) = a at *
  generalize gM A.1 2 (fR2 w) = b at *
  have q2 : nI (f3 w) = (2 : Int32) ↔ f3 w = 2 := nk (by omega) 2 (by decide)
  have q3 : nI (f3 w) = (3 : Int32) ↔ f3 w = 3 := nk (by omega) 3 (by decide)
  have l2 : (2 : Int32) ≤ nI (f3 w) ↔ 2 ≤ f3 w := nI_leI (by decide) (by omega)
  have l6 : (6 : Int32) ≤ nI (f3 w) ↔ 6 ≤ f3 w := nI_leI (by decide) (by omega)
  have bad : f3 w = 2 ∨ f3 w = 3 → j_M_branch_10 w (nI (f3 w)) a b P T := by
    intro c
    rw [if_pos c, xR1 _ _ (by decide)] at hP
    unfold j_M_branch_10
    exact r_stop h _ hP
  have odd : nI (f3 w) - nI (f3 w) / (2 : Int32) * (2 : Int32) = (1 : Int32) ↔ f3 w % 2 = 1 := by
    rw [show (2 : Int32) = nI 2 from rfl, pk_rem (by omega) (by decide) (by decide)]
    exact nI_eq (by omega) (by decide)
  have j73 : ∀ is : Bool, ¬ (f3 w = 2 ∨ f3 w = 3) → takenA (f3 w) a b = (if f3 w % 2 = 1 then !is else is) → j_M_branch_73 w (nI (f3 w)) a b P T (if is = true then 1 else 0) := by
    intro is c e
    rw [if_neg c] at hP
    unfold j_M_branch_73 j_M_branch_92
    rw [odd]
    refine ⟨fun o => ?_, fun o => ?_⟩
    · rw [if_pos o] at e
      cases is with
      | false =>
        rw [e] at hP
        exact ⟨fun _ => r_br94 h w _ a b true hP, fun z => absurd rfl z⟩
      | true =>
        rw [e] at hP
        exact ⟨fun z => absurd z (by decide), fun _ => r_br94 h w _ a b false hP⟩
    · rw [if_neg o] at e
      rw [e] at hP
      exact r_br94 h w _ a b is hP
  unfold w_M_branch w_M_whole
  rw [q2, q3, l2, l6]
  refine ⟨fun c => bad (Or.inl c), fun c => ⟨fun c2 => bad (Or.inr c2), fun c2 => ⟨fun c3 => ⟨fun c6 => ⟨fun z => ?_, fun z => ?_⟩, fun c6 => ⟨fun z => ?_, fun z => ?_⟩⟩, fun c3 => ⟨fun z => ?_, fun z => ?_⟩⟩⟩⟩
  · have z : ¬ un a < un b := (less_iff a b).mp z
    refine j73 false (by omega) ?_
    have hc : f3 w = 6 ∨ f3 w = 7 := by omega
    rcases hc with e | e <;> rw [e] <;> simp [takenA, z]
  · have z' : un a < un b := Classical.not_not.mp (fun y => z ((less_iff a b).mpr y))
    refine j73 true (by omega) ?_
    have hc : f3 w = 6 ∨ f3 w = 7 := by omega
    rcases hc with e | e <;> rw [e] <;> simp [takenA, z']
  · have z' : ¬ a < b := fun y => (lt_le.mpr y) z
    refine j73 false (by omega) ?_
    have hc : f3 w = 4 ∨ f3 w = 5 := by omega
    rcases hc with e | e <;> rw [e] <;> simp [takenA, z']
  · have z' : a < b := lt_le.mp z
    refine j73 true (by omega) ?_
    have hc : f3 w = 4 ∨ f3 w = 5 := by omega
    rcases hc with e | e <;> rw [e] <;> simp [takenA, z']
  · refine j73 true (by omega) ?_
    have hc : f3 w = 0 ∨ f3 w = 1 := by omega
    rcases hc with e | e <;> rw [e] <;> simp [takenA, z]
  · refine j73 false (by omega) ?_
    have hc : f3 w = 0 ∨ f3 w = 1 := by omega
    rcases hc with e | e <;> rw [e] <;> simp [takenA, z]
theorem r_isArea {T : zS} (p n : Int32) {P : zS → Int32 → Prop} (h : P T (if un p + un n ≤ 16384 then 1 else 0)) : w_M_isArea p n T P := by
  unfold w_M_isArea w_M_whole
  refine ⟨fun c => ?_, fun c => ?_⟩
  · rw [area_iff] at c; rw [if_neg c] at h; exact h
  · rw [area_iff] at c; rw [if_pos (Classical.not_not.mp c)] at h; exact h
theorem r_word {A : zA} {T : zS} (h : RS A T) {a : Nat} (ha : a + 4 ≤ 16384) {x : Int32} (hx : x = nI a) {P : zS → Int32 → Prop} (hP : P T (wordOf (gM A.1 3) a)) : w_M_word x T P := by
  unfold w_M_word
  rw [hx, show (1 : Int32) = nI 1 from rfl, show (2 : Int32) = nI 2 from rfl, show (3 : Int32) = nI 3 from rfl, nI_add, nI_add, nI_add, nI_clamp (by omega), nI_clamp (by omega), nI_clamp (by omega), nI_clamp (by omega), h.m a (by omega), h.m (a + 1) (by omega), h.m (a + 2) (by omega), h.m (a + 3) (by omega)]
  exact ⟨in_mem (by omega), in_mem (by omega), in_mem (by omega), in_mem (by omega), hP⟩
theorem rem_iff (x : Int32) {n : Nat} (hn : n = 1 ∨ n = 2 ∨ n = 4) : x - x / nI n * nI n = 0 ↔ un x % n = 0 := by
  have hx := un_lt x
  have ti := un_toInt x
  have en : (nI n).toInt = n := nI_toInt (by omega)
  have hr1 := Int32.le_toInt x
  have hr2 := Int32.toInt_lt x
  constructor
  · intro h
    have e : x = x / nI n * nI n := by
      have := congrArg (· + x / nI n * nI n) h
      simpa using this
    have e2 : un x = un (x / nI n) * n % 2 ^ 32 := by
      have := congrArg un e
      rw [this]
      unfold un
      rw [Int32.toBitVec_mul, BitVec.toNat_mul, show (nI n).toBitVec.toNat = n from pk_tn (by omega)]
    rw [e2]
    rcases hn with z | z | z <;> subst z <;> omega
  · intro h
    have hd : (n : Int) ∣ x.toInt := by
      rw [ti]
      rcases hn with z | z | z <;> subst z <;> split <;> omega
    obtain ⟨t, ht⟩ := hd
    have eq : (x / nI n).toInt = t := by
      rw [Int32.toInt_div, en, ht, Int.mul_tdiv_cancel_left _ (by omega)]
      rw [Int.bmod_eq_of_le]
      · rcases hn with z | z | z <;> subst z <;> omega
      · rcases hn with z | z | z <;> subst z <;> omega
    have e3 : x / nI n * nI n = x := by
      apply Int32.toInt_inj.mp
      rw [Int32.toInt_mul, eq, en, Int.mul_comm, ← ht]
      exact Int.bmod_eq_of_le (by omega) (by omega)
    rw [e3]
    simp
theorem w4 (m0 m1 m2 m3 : Int32) : ((((((m3 <<< ((8 : Int32) &&& 31)) ||| m2) <<< ((8 : Int32) &&& 31)) ||| m1) <<< ((8 : Int32) &&& 31)) ||| m0) = (((m0 ||| (m1 <<< ((8 : Int32) &&& 31))) ||| (m2 <<< ((16 : Int32) &&& 31))) ||| (m3 <<< ((24 : Int32) &&& 31))) := by
  apply b_ext
  intro i hi
  rw [b_or, b_or, b_or, b_or, b_shl8 _ hi, b_shl8 _ hi, b_shl16 _ hi, b_shl24 _ hi, b_or, b_shl8 _ (by omega), b_or, b_shl8 _ (by omega)]
  rw [show i - 8 - 8 = i - 16 by omega, show i - 16 - 8 = i - 24 by omega]
  by_cases c8 : 8 ≤ i
  · by_cases c16 : 16 ≤ i
    · by_cases c24 : 24 ≤ i
      · have d1 : 8 ≤ i - 8 := by omega
        have d2 : 8 ≤ i - 16 := by omega
        simp [c8, c16, c24, d1, d2]
        cases bt m0 i <;> cases bt m1 (i - 8) <;> cases bt m2 (i - 16) <;> cases bt m3 (i - 24) <;> rfl
      · have d1 : 8 ≤ i - 8 := by omega
        have d2 : ¬ 8 ≤ i - 16 := by omega
        simp [c8, c16, c24, d1, d2]
        cases bt m0 i <;> cases bt m1 (i - 8) <;> cases bt m2 (i - 16) <;> rfl
    · have d1 : ¬ 8 ≤ i - 8 := by omega
      have d3 : ¬ 24 ≤ i := by omega
      simp [c8, c16, d1, d3]
      cases bt m0 i <;> cases bt m1 (i - 8) <;> rfl
  · have d2 : ¬ 16 ≤ i := by omega
    have d3 : ¬ 24 ≤ i := by omega
    simp [c8, d2, d3]
theorem z8 (m : Int32) : ((0 : Int32) <<< ((8 : Int32) &&& 31)) ||| m = m := by
  rw [show (0 : Int32) <<< ((8 : Int32) &&& 31) = 0 from rfl, Int32.zero_or]
theorem r_load_step {A : zA} {T : zS} (h : RS A T) {a1 a2 x5 x6 : Int32} {a j n : Nat} (ha : a + j < 16384) {P : zS → Prop} (hP : l_M_load_91 a1 a2 (nI a) P n T ((x5 <<< ((8 : Int32) &&& 31)) ||| gM A.1 3 (a + j)) x6) (hx : x6 = nI j + (-1)) : l_M_load_91 a1 a2 (nI a) P (n + 1) T x5 (nI j) := by
  unfold l_M_load_91
  refine ⟨fun z => absurd z (nI_pos (by omega)), fun _ => ⟨by rw [nI_add]; exact in_mem ha, ?_⟩⟩
  rintro v2 rfl
  rw [nI_add, nI_clamp (by omega), h.m _ ha, ← hx]
  exact hP
theorem r_load91 {A : zA} {T : zS} (h : RS A T) (w : Int32) {a : Nat} (hk : f3 w < 6) (h3 : f3 w ≠ 3) (ha : a + szA (f3 w) ≤ 16384) {P : zS → Prop} (hP : rEnd (xR (asg A (fRd w) (loadV (gM A.1 3) (f3 w) a), gM A.1 0 0 + 4, 0)) P) : ∃ n, l_M_load_91 (nI (fRd w)) (nI (f3 w)) (nI a) P n T 0 (nI (szA (f3 w)) - 1) := by
  have q0 : nI (f3 w) = (0 : Int32) ↔ f3 w = 0 := nk (by omega) 0 (by decide)
  have q1 : nI (f3 w) = (1 : Int32) ↔ f3 w = 1 := nk (by omega) 1 (by decide)
  have fin : ∀ x5 n, (if f3 w = 0 then x5.toInt8.toInt32 else if f3 w = 1 then x5.toInt16.toInt32 else x5) = loadV (gM A.1 3) (f3 w) a → l_M_load_91 (nI (fRd w)) (nI (f3 w)) (nI a) P (n + 1) T x5 (-1) := by
    intro x5 n e
    unfold l_M_load_91 j_M_load_144
    rw [q0, q1]
    refine ⟨fun _ => ⟨fun c0 => ?_, fun c0 => ⟨fun c1 => ?_, fun c1 => ?_⟩⟩, fun z => absurd (by decide) z⟩
    · rw [if_pos c0] at e
      rw [e]; exact r_comesOn h w _ hP
    · rw [if_neg c0, if_pos c1] at e
      rw [e]; exact r_comesOn h w _ hP
    · rw [if_neg c0, if_neg c1] at e
      rw [e]; exact r_comesOn h w _ hP
  have hz : f3 w = 0 ∨ f3 w = 1 ∨ f3 w = 2 ∨ f3 w = 4 ∨ f3 w = 5 := by omega
  rcases hz with e | e | e | e | e
  · have es : szA (f3 w) = 1 := by rw [e]; rfl
    rw [es] at ha ⊢
    refine ⟨2, r_load_step (x6 := -1) (j := 0) h (by omega) (fin _ 0 ?_) (by decide)⟩
    rw [if_pos e, z8]
    unfold loadV; rw [if_pos e]; rfl
  · have es : szA (f3 w) = 2 := by rw [e]; rfl
    rw [es] at ha ⊢
    refine ⟨3, r_load_step (x6 := nI 0) (j := 1) h (by omega) (r_load_step (x6 := -1) (j := 0) h (by omega) (fin _ 0 ?_) (by decide)) (by decide)⟩
    rw [if_neg (by omega), if_pos e, z8]
    unfold loadV; rw [if_neg (by omega), if_pos e]
    unfold halfOf
    rw [Int32.or_comm]; rfl
  · have es : szA (f3 w) = 4 := by rw [e]; rfl
    rw [es] at ha ⊢
    refine ⟨5, r_load_step (x6 := nI 2) (j := 3) h (by omega) (r_load_step (x6 := nI 1) (j := 2) h (by omega) (r_load_step (x6 := nI 0) (j := 1) h (by omega) (r_load_step (x6 := -1) (j := 0) h (by omega) (fin _ 0 ?_) (by decide)) (by decide)) (by decide)) (by decide)⟩
    rw [if_neg (by omega), if_neg (by omega), z8]
    unfold loadV; rw [if_neg (by omega), if_neg (by omega), if_pos e]
    unfold wordOf
    exact w4 _ _ _ _
  · have es : szA (f3 w) = 1 := by rw [e]; rfl
    rw [es] at ha ⊢
    refine ⟨2, r_load_step (x6 := -1) (j := 0) h (by omega) (fin _ 0 ?_) (by decide)⟩
    rw [if_neg (by omega), if_neg (by omega), z8]
    unfold loadV; rw [if_neg (by omega), if_neg (by omega), if_neg (by omega), if_pos e]; rfl
  · have es : szA (f3 w) = 2 := by rw [e]; rfl
    rw [es] at ha ⊢
    refine ⟨3, r_load_step (x6 := nI 0) (j := 1) h (by omega) (r_load_step (x6 := -1) (j := 0) h (by omega) (fin _ 0 ?_) (by decide)) (by decide)⟩
    rw [if_neg (by omega), if_neg (by omega), z8]
    unfold loadV; rw [if_neg (by omega), if_neg (by omega), if_neg (by omega), if_neg (by omega)]
    unfold halfOf
    rw [Int32.or_comm]; rfl
theorem r_load {A : zA} {T : zS} (h : RS A T) (w : Int32) {P : zS → Prop} (hP : rEnd (xR (loadA A w)) P) : w_M_load (nI (fRd w)) (nI (f3 w)) (gM A.1 2 (fR1 w) + immI w) T P := by
  have hf := f3_lt w
  unfold loadA at hP
  generalize gM A.1 2 (fR1 w) + immI w = x at *
  have q : ∀ m, m < 8 → (nI (f3 w) = nI m ↔ f3 w = m) := fun m hm => nk (by omega) m (by omega)
  have q0 : nI (f3 w) = (0 : Int32) ↔ f3 w = 0 := q 0 (by decide)
  have q1 : nI (f3 w) = (1 : Int32) ↔ f3 w = 1 := q 1 (by decide)
  have q3 : nI (f3 w) = (3 : Int32) ↔ f3 w = 3 := q 3 (by decide)
  have q4 : nI (f3 w) = (4 : Int32) ↔ f3 w = 4 := q 4 (by decide)
  have q5 : nI (f3 w) = (5 : Int32) ↔ f3 w = 5 := q 5 (by decide)
  have l5 : nI (f3 w) ≤ (5 : Int32) ↔ f3 w ≤ 5 := nI_leI (by omega) (by decide)
  have bad : f3 w = 3 ∨ 5 < f3 w → j_M_load_40 (nI (fRd w)) (nI (f3 w)) x P T := by
    intro c
    rw [if_pos c, xR1 _ _ (by decide)] at hP
    unfold j_M_load_40
    exact r_stop h _ hP
  have j28 : ∀ s0 : Int32, (¬ (f3 w = 3 ∨ 5 < f3 w) → s0 = nI (szA (f3 w))) → j_M_load_28 (nI (fRd w)) (nI (f3 w)) x P T s0 := by
    intro s0 hs0
    unfold j_M_load_28
    rw [q3, l5]
    refine ⟨fun c => bad (Or.inl c), fun c => ⟨fun c2 => ?_, fun c2 => bad (by omega)⟩⟩
    have hs := hs0 (by omega)
    subst hs
    have hsz := szA_or (f3 w)
    rw [if_neg (by omega)] at hP
    rw [rem_iff x hsz]
    refine ⟨nI_ne0 (by omega) (by omega), fun c3 => r_isArea _ _ ?_, fun c3 => ?_⟩
    · rw [un_nI (by omega)]
      rw [if_neg (fun z => z c3)] at hP
      by_cases c4 : un x + szA (f3 w) ≤ 16384
      · rw [if_pos c4] at hP ⊢
        refine ⟨fun z => absurd z (by decide), fun _ => ?_⟩
        rintro v3 rfl
        have := r_load91 h w (a := un x) (by omega) c c4 hP
        rw [nI_un] at this
        exact this
      · rw [if_neg c4, xR1 _ _ (by decide)] at hP
        rw [if_neg c4]
        exact ⟨fun _ => r_stop h _ hP, fun z => absurd rfl z⟩
    · rw [if_pos c3, xR1 _ _ (by decide)] at hP
      exact r_stop h _ hP
  unfold w_M_load j_M_load_9 j_M_load_23
  rw [q0, q4, q1, q5]
  refine ⟨fun c => j28 1 (fun _ => by rw [c]; rfl), fun c => ⟨fun c2 => j28 1 (fun _ => by rw [c2]; rfl), fun c2 => ⟨fun c3 => j28 2 (fun _ => by rw [c3]; rfl), fun c3 => ⟨fun c4 => j28 2 (fun _ => by rw [c4]; rfl), fun c4 => j28 4 (fun z => ?_)⟩⟩⟩⟩
  have : f3 w = 2 := by omega
  rw [this]; rfl
/-- bytes of a word come to the memory -/
theorem r_lays {A : zA} {T : zS} (h : RS A T) {a n : Nat} (hn : n ≤ 4) (ha : a + n ≤ 16384) {x m : Int32} (hx : x = nI a) (hm : m = nI n) (v : Int32) {P : zS → Prop} (hP : ∀ T', cpy 1 a (bl v n) T T' → P T') : w_M_lays x v m T P := by
  have loop : ∀ (k i : Nat) (W : zS), k + i = n → cpy 1 a (bl v i) T W → l_M_lays_3 x v m P (k + 1) W (nI i) := by
    intro k
    induction k with
    | zero =>
      intro i W hi hc
      have hi : i = n := by omega
      subst hi
      unfold l_M_lays_3
      rw [hm]
      exact ⟨fun _ => hP W hc, fun z => absurd (nI_le (Nat.le_refl _) (by omega)) z⟩
    | succ k ih =>
      intro i W hi hc
      unfold l_M_lays_3
      have e : x + nI i = nI (a + i) := by rw [hx, nI_add]
      refine ⟨fun z => ?_, fun _ => ⟨vin (by omega) e, ?_⟩⟩
      · rw [hm, nI_leI (by omega) (by omega)] at z
        omega
      · rintro S2 rfl
        have eb : (8 : Int32) * nI i = nI (8 * i) := by rw [show (8 : Int32) = nI 8 from rfl, pk_mul]
        rw [clm e (by omega), nI_1, sbyte v (by omega) eb]
        refine ih (i + 1) _ (by omega) ?_
        rw [bl_succ]
        exact hc.snoc (by rw [bl_len]) _
  unfold w_M_lays
  exact ⟨n + 1, loop n 0 T (by omega) (by unfold bl; exact cpy.nil 1 a T)⟩
theorem r_store {A : zA} {T : zS} (h : RS A T) (w : Int32) {P : zS → Prop} (hP : rEnd (xR (storeA A w)) P) : w_M_store (nI (f3 w)) (gM A.1 2 (fR1 w) + immS w) (gM A.1 2 (fR2 w)) T P := by
  have hf := f3_lt w
  unfold storeA at hP
  generalize gM A.1 2 (fR1 w) + immS w = x at *
  generalize gM A.1 2 (fR2 w) = v at *
  have l2 : nI (f3 w) ≤ (2 : Int32) ↔ f3 w ≤ 2 := nI_leI (by omega) (by decide)
  unfold w_M_store
  rintro v1 rfl
  rw [l2]
  refine ⟨fun c => ?_, fun c => ?_⟩
  · have hsz := szA_or (f3 w)
    rw [if_neg (by omega)] at hP
    rw [szA_store (f3 w) (by omega), rem_iff x hsz]
    refine ⟨nI_ne0 (by omega) (by omega), fun c3 => r_isArea _ _ ?_, fun c3 => ?_⟩
    · rw [un_nI (by omega)]
      rw [if_neg (fun z => z c3)] at hP
      by_cases c4 : un x + szA (f3 w) ≤ 16384
      · rw [if_pos c4, xR0] at hP
        rw [if_pos c4]
        refine ⟨fun z => absurd z (by decide), fun _ => ?_⟩
        refine r_lays h (a := un x) (n := szA (f3 w)) (by omega) c4 (nI_un x).symm rfl v (fun T1 c1 => ?_)
        have h1 := h.cmem c1
        rintro S5 rfl
        rw [h1.pcv]
        exact hP _ (h1.pc _)
      · rw [if_neg c4, xR1 _ _ (by decide)] at hP
        rw [if_neg c4]
        exact ⟨fun _ => r_stop h _ hP, fun z => absurd rfl z⟩
    · rw [if_pos c3, xR1 _ _ (by decide)] at hP
      exact r_stop h _ hP
  · rw [if_pos (by omega), xR1 _ _ (by decide)] at hP
    exact r_stop h _ hP
