/-! one instruction of the class, the rest; one step -/
def szA (k : Nat) : Nat := if k % 4 = 0 then 1 else if k % 4 = 1 then 2 else 4
theorem szA_or (k : Nat) : szA k = 1 ∨ szA k = 2 ∨ szA k = 4 := by
  unfold szA
  repeat' split
  all_goals omega
theorem szA_load : ∀ k, k < 6 → k ≠ 3 → (1 : Int32) <<< ((nI k &&& 3) &&& 31) = nI (szA k) := by decide
theorem szA_store : ∀ k, k < 3 → (1 : Int32) <<< (nI k &&& 31) = nI (szA k) := by decide
theorem and_sz (x : Int32) (k : Nat) : x &&& (nI (szA k) - 1) = 0 ↔ un x % szA k = 0 := by
  rcases szA_or k with h | h | h
  · rw [h, show nI 1 - 1 = nI (2 ^ 0 - 1) from rfl, pk_and x 0 rfl]
    show nI (un x % 1) = 0 ↔ _
    rw [← nI_0, nI_eq (by omega) (by decide)]
  · rw [h, show nI 2 - 1 = nI (2 ^ 1 - 1) from rfl, pk_and x 1 rfl]
    show nI (un x % 2) = 0 ↔ _
    rw [← nI_0, nI_eq (by omega) (by decide)]
  · rw [h, show nI 4 - 1 = nI (2 ^ 2 - 1) from rfl, pk_and x 2 rfl]
    show nI (un x % 4) = 0 ↔ _
    rw [← nI_0, nI_eq (by omega) (by decide)]
def loadV (mm : Nat → Int32) (k a : Nat) : Int32 := if k = 0 then (mm a).toInt8.toInt32 else if k = 1 then (halfOf mm a).toInt16.toInt32 else if k = 2 then wordOf mm a else if k = 4 then mm a else halfOf mm a
theorem s_loaded {S : zS} {mm : Nat → Int32} (hm : memIs S mm) {k a : Nat} (hk : k < 6) (h3 : k ≠ 3) (ha : a + szA k ≤ 16384) {P : zS → Int32 → Prop} (h : P S (loadV mm k a)) : w_Guest_loaded (nI k) (nI a) S P := by
  have q0 : nI k = (0 : Int32) ↔ k = 0 := nk (by omega) 0 (by decide)
  have q1 : nI k = (1 : Int32) ↔ k = 1 := nk (by omega) 1 (by decide)
  have q2 : nI k = (2 : Int32) ↔ k = 2 := nk (by omega) 2 (by decide)
  have q4 : nI k = (4 : Int32) ↔ k = 4 := nk (by omega) 4 (by decide)
  have hs := szA_or k
  have hu : un (nI a) = a := un_nI (by omega)
  unfold w_Guest_loaded
  unfold loadV at h
  rw [q0, q1, q2, q4]
  refine ⟨fun c0 => ?_, fun c0 => ⟨fun c1 => ?_, fun c1 => ⟨fun c2 => ?_, fun c2 => ⟨fun c4 => ?_, fun c4 => ?_⟩⟩⟩⟩
  · rw [if_pos c0] at h
    exact s_byteAt hm _ (by rw [hu, if_pos (by omega)]; exact h)
  · rw [if_neg c0, if_pos c1] at h
    subst c1
    exact s_halfAt hm ha h
  · rw [if_neg c0, if_neg c1, if_pos c2] at h
    subst c2
    exact s_wordAt hm ha h
  · rw [if_neg c0, if_neg c1, if_neg c2, if_pos c4] at h
    exact s_byteAt hm _ (by rw [hu, if_pos (by omega)]; exact h)
  · rw [if_neg c0, if_neg c1, if_neg c2, if_neg c4] at h
    have : k = 5 := by omega
    subst this
    exact s_halfAt hm ha h
def loadA (A : zA) (w : Int32) : zX3 := if f3 w = 3 ∨ 5 < f3 w then (A, gM A.1 0 0 + 4, 3) else if ¬ un (gM A.1 2 (fR1 w) + immI w) % szA (f3 w) = 0 then (A, gM A.1 0 0 + 4, 6) else if un (gM A.1 2 (fR1 w) + immI w) + szA (f3 w) ≤ 16384 then (asg A (fRd w) (loadV (gM A.1 3) (f3 w) (un (gM A.1 2 (fR1 w) + immI w))), gM A.1 0 0 + 4, 0) else (A, gM A.1 0 0 + 4, 7)
theorem s_load {A : zA} {S : zS} (h : RC A S) (hn : gM S 0 1 = gM A.1 0 0 + 4) (w : Int32) {P : zS → Int32 → Prop} (hP : xEnd (loadA A w) P) : w_Guest_load w S P := by
  have hf := f3_lt w
  unfold w_Guest_load
  refine s_funct3 w ?_
  unfold loadA at hP
  have q3 : nI (f3 w) = (3 : Int32) ↔ f3 w = 3 := nk (by omega) 3 (by decide)
  have q5 : nI (f3 w) ≤ (5 : Int32) ↔ f3 w ≤ 5 := nI_leI (by omega) (by decide)
  rw [q3, q5]
  refine ⟨fun c => ?_, fun c => ⟨fun c2 => s_r1 h w ?_, fun c2 => ?_⟩⟩
  · rw [if_pos (Or.inl c)] at hP; exact hP S h hn
  · rw [if_neg (by omega)] at hP
    rintro v5 rfl v6 rfl
    rw [szA_load (f3 w) (by omega) c, and_sz]
    have hs := szA_or (f3 w)
    generalize ha : gM A.1 2 (fR1 w) + immI w = a at hP
    have ha' : gM A.1 2 (fR1 w) + w >>> ((20 : Int32) &&& 31) = a := ha
    rw [ha']
    refine ⟨fun c3 => s_hasArea _ _ ?_, fun c3 => ?_⟩
    · rw [un_nI (by omega)]
      rw [if_neg (by simpa using c3)] at hP
      by_cases c4 : un a + szA (f3 w) ≤ 16384
      · rw [if_pos c4] at hP ⊢
        refine ⟨fun z => absurd z (by decide), fun _ => ?_⟩
        have e : a = nI (un a) := (nI_un a).symm
        rw [e]
        refine s_loaded h.1.2.2.1 (by omega) c c4 ?_
        refine s_asg h w _ (fun S1 h1 e1 => hP S1 h1 (e1.trans hn))
      · rw [if_neg c4] at hP ⊢
        exact ⟨fun _ => hP S h hn, fun z => absurd rfl z⟩
    · rw [if_pos c3] at hP; exact hP S h hn
  · rw [if_pos (by omega)] at hP; exact hP S h hn
def storeA (A : zA) (w : Int32) : zX3 := if 2 < f3 w then (A, gM A.1 0 0 + 4, 3) else if ¬ un (gM A.1 2 (fR1 w) + immS w) % szA (f3 w) = 0 then (A, gM A.1 0 0 + 4, 8) else if un (gM A.1 2 (fR1 w) + immS w) + szA (f3 w) ≤ 16384 then (aMem A (mset (gM A.1 3) (un (gM A.1 2 (fR1 w) + immS w)) (bl (gM A.1 2 (fR2 w)) (szA (f3 w)))), gM A.1 0 0 + 4, 0) else (A, gM A.1 0 0 + 4, 9)
theorem s_store_loop {S : zS} {mm : Nat → Int32} {a n : Nat} {w : Int32} (hn : n ≤ 4) (ha : a + n ≤ 16384) (v : Int32) {P : zS → Int32 → Prop} (h : ∀ S', offMem S S' → memIs S' (mset mm a (bl v n)) → P S' 0) :
    ∀ (k i : Nat) (T : zS), k + i = n → offMem S T → memIs T (mset mm a (bl v i)) → l_Guest_store_82 w P (k + 1) T (nI a) (nI n) v (nI i) := by
  intro k
  induction k with
  | zero =>
    intro i T hi h1 h2
    have hi : i = n := by omega
    subst hi
    unfold l_Guest_store_82
    exact ⟨fun _ => h T h1 h2, fun c => absurd (nI_le (Nat.le_refl _) (by omega)) c⟩
  | succ k ih =>
    intro i T hi h1 h2
    unfold l_Guest_store_82
    refine ⟨fun c => ?_, fun _ => ?_⟩
    · rw [nI_leI (by omega) (by omega)] at c
      omega
    · refine s_storeByte h2 _ _ (fun S' o1 o2 => ?_)
      rw [nI_add, un_nI (by omega), if_pos (by omega)] at o2
      have e : mset (mset mm a (bl v i)) (a + i) [(v.toUInt32 >>> (((8 : Int32) * nI i).toUInt32 &&& Int32.toUInt32 31)).toInt32 &&& 255] = mset mm a (bl v (i + 1)) := by
        have := mset_snoc mm a (bl v i) (byteOf v i)
        rw [bl_len] at this
        rw [bl_succ]
        exact this
      rw [e] at o2
      rw [nI_1]
      exact ih (i + 1) S' (by omega) (h1.tr o1) o2
theorem s_store {A : zA} {S : zS} (h : RC A S) (hn : gM S 0 1 = gM A.1 0 0 + 4) (w : Int32) {P : zS → Int32 → Prop} (hP : xEnd (storeA A w) P) : w_Guest_store w S P := by
  have hf := f3_lt w
  unfold w_Guest_store
  refine s_funct3 w ?_
  unfold storeA at hP
  have q2 : nI (f3 w) ≤ (2 : Int32) ↔ f3 w ≤ 2 := nI_leI (by omega) (by decide)
  rw [q2]
  refine ⟨fun c => s_r1 h w ?_, fun c => ?_⟩
  · rw [if_neg (by omega)] at hP
    rintro v5 rfl v6 rfl
    rw [szA_store (f3 w) (by omega), and_sz]
    have hs := szA_or (f3 w)
    generalize ha : gM A.1 2 (fR1 w) + immS w = a at hP
    have ha' : gM A.1 2 (fR1 w) + (((w >>> ((25 : Int32) &&& 31)) <<< ((5 : Int32) &&& 31)) ||| (((w.toUInt32 >>> ((7 : Int32).toUInt32 &&& Int32.toUInt32 31)).toInt32) &&& 31)) = a := ha
    rw [ha']
    refine ⟨fun c3 => s_hasArea _ _ ?_, fun c3 => ?_⟩
    · rw [un_nI (by omega)]
      rw [if_neg (by simpa using c3)] at hP
      by_cases c4 : un a + szA (f3 w) ≤ 16384
      · rw [if_pos c4] at hP ⊢
        refine ⟨fun z => absurd z (by decide), fun _ => ?_⟩
        refine s_r2 h w ?_
        have e : a = nI (un a) := (nI_un a).symm
        rw [e]
        refine ⟨szA (f3 w) + 1, s_store_loop (mm := gM A.1 3) (by omega) c4 _ (fun S' o m => ?_) (szA (f3 w)) 0 S (by omega) (offMem.rf S) ?_⟩
        · exact hP S' (h.mem o m) ((o.1 0 1 (by decide)).trans hn)
        · unfold bl; rw [List.range_zero, List.map_nil, mset_nil]; exact h.1.2.2.1
      · rw [if_neg c4] at hP ⊢
        exact ⟨fun _ => hP S h hn, fun z => absurd rfl z⟩
    · rw [if_pos c3] at hP; exact hP S h hn
  · rw [if_pos (by omega)] at hP; exact hP S h hn
def aluA (k : Nat) (a b : Int32) (o : Bool) : Int32 := if k = 0 then (if o = true then a - b else a + b) else if k = 1 then a <<< ((b &&& 31) &&& 31) else if k = 2 then (if a < b then 1 else 0) else if k = 3 then (if un a < un b then 1 else 0) else if k = 4 then a ^^^ b else if k = 5 then (if o = true then a >>> ((b &&& 31) &&& 31) else (a.toUInt32 >>> ((b &&& 31).toUInt32 &&& Int32.toUInt32 31)).toInt32) else if k = 6 then a ||| b else a &&& b
theorem s_computed {S : zS} {k : Nat} (hk : k < 8) (a b : Int32) (o : Bool) {P : zS → Int32 → Prop} (h : P S (aluA k a b o)) : w_Guest_computed (nI k) a b (if o = true then 1 else 0) S P := by
  have q0 : nI k = (0 : Int32) ↔ k = 0 := nk (by omega) 0 (by decide)
  have q1 : nI k = (1 : Int32) ↔ k = 1 := nk (by omega) 1 (by decide)
  have q2 : nI k = (2 : Int32) ↔ k = 2 := nk (by omega) 2 (by decide)
  have q3 : nI k = (3 : Int32) ↔ k = 3 := nk (by omega) 3 (by decide)
  have q4 : nI k = (4 : Int32) ↔ k = 4 := nk (by omega) 4 (by decide)
  have q5 : nI k = (5 : Int32) ↔ k = 5 := nk (by omega) 5 (by decide)
  have q6 : nI k = (6 : Int32) ↔ k = 6 := nk (by omega) 6 (by decide)
  have qo : (if o = true then (1 : Int32) else 0) = 0 ↔ ¬ o = true := by cases o <;> decide
  unfold w_Guest_computed
  unfold aluA at h
  rw [q0, q1, q2, q3, q4, q5, q6, qo]
  refine ⟨fun c0 => ⟨fun e => ?_, fun e => ?_⟩, fun c0 => ⟨fun c1 => ?_, fun c1 => ⟨fun c2 => ⟨fun e => ?_, fun e => ?_⟩, fun c2 => ⟨fun c3 => s_less a b ⟨fun e => ?_, fun e => ?_⟩, fun c3 => ⟨fun c4 => ?_, fun c4 => ⟨fun c5 => ⟨fun e => ?_, fun e => ?_⟩, fun c5 => ⟨fun c6 => ?_, fun c6 => ?_⟩⟩⟩⟩⟩⟩⟩
  · rw [if_pos c0, if_neg e] at h; exact h
  · rw [if_pos c0, if_pos (Classical.not_not.mp e)] at h; exact h
  · rw [if_neg c0, if_pos c1] at h; exact h
  · rw [if_neg c0, if_neg c1, if_pos c2, if_neg (fun z => (lt_le.mpr z) e)] at h; exact h
  · rw [if_neg c0, if_neg c1, if_pos c2, if_pos (lt_le.mp e)] at h; exact h
  · rw [if_neg c0, if_neg c1, if_neg c2, if_pos c3] at h
    by_cases e2 : un a < un b
    · rw [if_pos e2] at e; exact absurd e (by decide)
    · rw [if_neg e2] at h; exact h
  · rw [if_neg c0, if_neg c1, if_neg c2, if_pos c3] at h
    by_cases e2 : un a < un b
    · rw [if_pos e2] at h; exact h
    · rw [if_neg e2] at e; exact absurd rfl e
  · rw [if_neg c0, if_neg c1, if_neg c2, if_neg c3, if_pos c4] at h; exact h
  · rw [if_neg c0, if_neg c1, if_neg c2, if_neg c3, if_neg c4, if_pos c5, if_neg e] at h; exact h
  · rw [if_neg c0, if_neg c1, if_neg c2, if_neg c3, if_neg c4, if_pos c5, if_pos (Classical.not_not.mp e)] at h; exact h
  · rw [if_neg c0, if_neg c1, if_neg c2, if_neg c3, if_neg c4, if_neg c5, if_pos c6] at h; exact h
  · rw [if_neg c0, if_neg c1, if_neg c2, if_neg c3, if_neg c4, if_neg c5, if_neg c6] at h; exact h
def immA (A : zA) (w : Int32) : zX3 := if (f3 w = 1 ∧ fTop w ≠ 0) ∨ (f3 w = 5 ∧ fTop w ≠ 0 ∧ fTop w ≠ 32) then (A, gM A.1 0 0 + 4, 3) else (asg A (fRd w) (aluA (f3 w) (gM A.1 2 (fR1 w)) (immI w) (decide (f3 w = 5 ∧ fTop w = 32))), gM A.1 0 0 + 4, 0)
theorem s_imm49 {A : zA} {S : zS} (h : RC A S) (hn : gM S 0 1 = gM A.1 0 0 + 4) (w : Int32) (o : Bool) {P : zS → Int32 → Prop} (hP : xEnd (asg A (fRd w) (aluA (f3 w) (gM A.1 2 (fR1 w)) (immI w) o), gM A.1 0 0 + 4, 0) P) : j_Guest_operateOnNumber_49 w P S (nI (f3 w)) (if o = true then 1 else 0) := by
  unfold j_Guest_operateOnNumber_49
  refine s_r1 h w (s_computed (f3_lt w) _ _ o ?_)
  exact s_asg h w _ (fun S1 h1 e1 => hP S1 h1 (e1.trans hn))
theorem s_imm {A : zA} {S : zS} (h : RC A S) (hn : gM S 0 1 = gM A.1 0 0 + 4) (w : Int32) {P : zS → Int32 → Prop} (hP : xEnd (immA A w) P) : w_Guest_operateOnNumber w S P := by
  have hf := f3_lt w
  have ht := fTop_lt w
  have q1 : nI (f3 w) = (1 : Int32) ↔ f3 w = 1 := nk (by omega) 1 (by decide)
  have q5 : nI (f3 w) = (5 : Int32) ↔ f3 w = 5 := nk (by omega) 5 (by decide)
  have t0 : nI (fTop w) = (0 : Int32) ↔ fTop w = 0 := nk (by omega) 0 (by decide)
  have t32 : nI (fTop w) = (32 : Int32) ↔ fTop w = 32 := nk (by omega) 32 (by decide)
  unfold immA at hP
  have f49 : ¬ ((f3 w = 1 ∧ fTop w ≠ 0) ∨ (f3 w = 5 ∧ fTop w ≠ 0 ∧ fTop w ≠ 32)) → ∀ o, o = decide (f3 w = 5 ∧ fTop w = 32) → j_Guest_operateOnNumber_49 w P S (nI (f3 w)) (if o = true then 1 else 0) := by
    intro c o ho
    rw [if_neg c, ← ho] at hP
    exact s_imm49 h hn w o hP
  have f3' : ((f3 w = 1 ∧ fTop w ≠ 0) ∨ (f3 w = 5 ∧ fTop w ≠ 0 ∧ fTop w ≠ 32)) → P S 3 := by
    intro c
    rw [if_pos c] at hP
    exact hP S h hn
  unfold w_Guest_operateOnNumber
  refine s_funct3 w ?_
  rintro v3 rfl
  rw [top_eq, q5, t32]
  have g26 : ∀ o, o = decide (f3 w = 5 ∧ fTop w = 32) → j_Guest_operateOnNumber_26 w P S (nI (f3 w)) (nI (fTop w)) (if o = true then 1 else 0) := by
    intro o ho
    unfold j_Guest_operateOnNumber_26 j_Guest_operateOnNumber_38
    rw [q1, q5, t0]
    have ho2 : (if o = true then (1 : Int32) else 0) = 0 ↔ ¬ (f3 w = 5 ∧ fTop w = 32) := by
      rw [ho]
      by_cases z : f3 w = 5 ∧ fTop w = 32 <;> simp [z]
    rw [ho2]
    refine ⟨fun c1 => ⟨fun c2 => f49 (by omega) o ho, fun c2 => ⟨fun c3 => f3' (by omega), fun c3 => f49 (by omega) o ho⟩⟩, fun c1 => ⟨fun c5 => ⟨fun c2 => f49 (by omega) o ho, fun c2 => ⟨fun c3 => f3' (by omega), fun c3 => f49 (by omega) o ho⟩⟩, fun c5 => f49 (by omega) o ho⟩⟩
  refine ⟨fun c5 => ⟨fun c => ?_, fun c => ?_⟩, fun c5 => ?_⟩
  · exact g26 true (by simp [c5, c])
  · unfold j_Guest_operateOnNumber_25
    exact g26 false (by simp [c])
  · unfold j_Guest_operateOnNumber_25
    exact g26 false (by simp [c5])
