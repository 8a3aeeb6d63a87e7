/-! the class's simple calls, as the state between has them -/
def endA (A : zA) (n : Int32) : zA × Int32 := if un n ≤ (A.2.1 0).length then (aRow A 0 ((A.2.1 0).take (un n)), 1) else (A, 0)
def clockA (A : zA) (v : Int32) : zA := aM A 0 7 v
def aRegs0 (A : zA) : zA := ((fun c i => if c = 2 then 0 else A.1.1 c i, A.1.2), A.2)
def beginA (A : zA) : zA := aM (aM (aM (aM (aRegs0 A) 0 0 0) 0 2 0) 0 3 0) 0 4 0
def setA (A : zA) (r v : Int32) : zA × Int32 := if 1 ≤ un r ∧ un r ≤ 32 then (if un r = 32 then aM A 0 0 v else aM A 2 (un r) v, 1) else (A, 0)
def peekA (A : zA) (p : Int32) : Int32 := if un p < 16384 then gM A.1 3 (un p) else -1
def filesA (A : zA) : Int32 := nI A.2.2.length
def fileByteA (A : zA) (k i nm : Int32) : Int32 := match A.2.2[un k]? with
  | some f => atL (if nm = 0 then f.2 else f.1) i
  | none => -1
def printedA (A : zA) (w : Int32) : Int32 := if w = 0 then gM A.1 7 0 else if w = 1 then gM A.1 7 1 else -1
def printA (A : zA) (w i : Int32) : Int32 := if w = 0 then atL (A.2.1 2) i else if w = 1 then atL (A.2.1 3) i else -1
def fourL (v : Int32) : List Int32 := [byteOf v 3, byteOf v 2, byteOf v 1, byteOf v 0]
def feedL (a b c d e : Int32) : List Int32 := fourL a ++ (fourL b ++ (fourL c ++ (fourL d ++ fourL e)))
def feedA (A : zA) (a b c d e : Int32) : zA × Int32 := if (A.2.1 0).length + 20 ≤ 2100 then (aRow A 0 (A.2.1 0 ++ feedL a b c d e), nI ((A.2.1 0).length + 20)) else (A, -1)
theorem le_of_un {n : Int32} {m : Nat} (hm : m < 2 ^ 31) (hn : ¬ n < 0) : n ≤ nI m ↔ un n ≤ m := by
  obtain ⟨e, hl⟩ := un_pos hn
  rw [e, nI_leI hl hm, un_nI (by omega)]
theorem k_end {A : zA} {S : zS} (h : RC A S) (n : Int32) : w_HB_end n S (fun S' r => RC (endA A n).1 S' ∧ r = (endA A n).2) := by
  have ht := h.tapeIs
  have hl := ht.lt
  unfold w_HB_end
  refine ⟨fun c => ?_, fun c => ⟨by decide, s_size ht (by decide) ⟨fun c2 => ?_, fun c2 => ?_⟩⟩⟩
  · rw [neg_iff] at c
    unfold endA
    rw [if_neg (by omega)]
    exact ⟨h, rfl⟩
  · rw [le_of_un hl c] at c2
    obtain ⟨e, -⟩ := un_pos c
    rw [e]
    refine s_cut ht (by decide) c2 (fun S' o r => ?_)
    rw [← e]
    unfold endA
    rw [if_pos c2]
    exact ⟨h.row (t := 0) (by decide) o r, rfl⟩
  · rw [le_of_un hl c] at c2
    unfold endA
    rw [if_neg c2]
    exact ⟨h, rfl⟩
theorem k_clock {A : zA} {S : zS} (h : RC A S) (v : Int32) : w_HB_clock v S (fun S' => RC (clockA A v) S') := by
  unfold w_HB_clock
  rintro S1 rfl
  exact h.sc (by decide) v
theorem s_restart_loop {A : zA} {S : zS} (h : RC A S) {P : zS → Prop} (hP : ∀ S', RC (beginA A) S' → P S') :
    ∀ (k i : Nat) (T : zS), k + i = 32 → (∀ c q, ¬ (c = 2 ∧ q < 32) → gM T c q = gM S c q) → (∀ q, q < i → gM T 2 q = 0) → (∀ q, i ≤ q → gM T 2 q = gM S 2 q) → T.2 = S.2 → l_Guest_restart_2 P (k + 1) T (nI i) := by
  intro k
  induction k with
  | zero =>
    intro i T hi t1 t2 t3 t4
    have hi : i = 32 := by omega
    subst hi
    unfold l_Guest_restart_2
    refine ⟨fun _ => ?_, fun c => absurd (show (32 : Int32) ≤ nI 32 by decide) c⟩
    rintro S1 rfl S2 rfl S3 rfl S4 rfl
    have w : ∀ c q, c ≠ 2 → gM T c q = gM S c q := fun c q hc => t1 c q (fun z => hc z.1)
    have h0 : RC (aRegs0 A) T := by
      refine h.nums rfl (off2 t4) (fun b => w 8 b (by decide)) (fun b j => gR_of t4 b j) (w 0 10 (by decide)) (fun j _ => ⟨w 4 j (by decide), w 5 j (by decide), w 6 j (by decide)⟩) (fun j _ => ⟨rfl, rfl, rfl, rfl⟩) ?_
      obtain ⟨n1, n2, n3, n4, n5⟩ := h.1
      exact ⟨fun j hj => (w 0 j (by decide)).trans (n1 j hj), fun r hr => t2 r hr, fun q hq => by rw [w 3 q (by decide)]; exact n3 q hq, fun j hj => (w 7 j (by decide)).trans (n4 j hj), (gJ_of (off2 t4)).trans n5⟩
    exact hP _ ((((h0.sc (i := 0) (by decide) 0).sc (i := 2) (by decide) 0).sc (i := 3) (by decide) 0).sc (i := 4) (by decide) 0)
  | succ k ih =>
    intro i T hi t1 t2 t3 t4
    unfold l_Guest_restart_2
    refine ⟨fun c => ?_, fun _ => ⟨vp_in_nI (by omega) (by decide), ?_⟩⟩
    · rw [show (32 : Int32) = nI 32 from rfl, nI_leI (by decide) (by omega)] at c
      omega
    · rintro S6 rfl
      rw [nI_clamp (by omega), nI_1]
      refine ih (i + 1) _ (by omega) (fun c q z => ?_) (fun q hq => ?_) (fun q hq => ?_) t4
      · rw [gM_sM]
        by_cases e : c = 2
        · by_cases e2 : q = i
          · exact absurd ⟨e, by omega⟩ z
          · rw [if_pos e, if_neg e2]; exact t1 c q z
        · rw [if_neg e]; exact t1 c q z
      · rw [gM_sM, if_pos rfl]
        by_cases e2 : q = i
        · rw [if_pos e2]
        · rw [if_neg e2]; exact t2 q (by omega)
      · rw [gM_sM, if_pos rfl, if_neg (by omega)]; exact t3 q (by omega)
theorem k_begin {A : zA} {S : zS} (h : RC A S) : w_HB_begin S (fun S' => RC (beginA A) S') := by
  unfold w_HB_begin w_Guest_restart
  exact ⟨33, s_restart_loop h (fun S' h' => h') 32 0 S rfl (fun _ _ _ => rfl) (fun q hq => by omega) (fun _ _ => rfl) rfl⟩
theorem k_state {A : zA} {S : zS} (h : RC A S) : w_HB_state S (fun S' r => RC A S' ∧ r = gM A.1 0 2) := by
  unfold w_HB_state
  exact ⟨h, h.1.1 2 (Or.inr (Or.inl rfl))⟩
theorem and31 (x : Int32) : x &&& 31 = nI (un x % 32) := pk_and x 5 rfl
theorem s_assign {A : zA} {S : zS} (h : RC A S) (r v : Int32) {P : zS → Prop} (hP : ∀ S', RC (if un r % 32 = 0 then A else aM A 2 (un r % 32) v) S' → P S') : w_Guest_assign r v S P := by
  unfold w_Guest_assign
  rw [and31]
  have hm : un r % 32 < 32 := Nat.mod_lt _ (by decide)
  refine ⟨fun c => ?_, fun c => ⟨vp_in_nI hm (by decide), ?_⟩⟩
  · rw [← nI_0, nI_eq (by omega) (by decide)] at c
    exact hP S (by rw [if_pos c]; exact h)
  · have c' : ¬ un r % 32 = 0 := fun z => c (by rw [z]; exact nI_0)
    rintro S2 rfl
    rw [nI_clamp (by omega)]
    exact hP _ (by rw [if_neg c']; exact h.reg _ v)
theorem s_value {A : zA} {S : zS} (h : RC A S) (r : Int32) {P : zS → Int32 → Prop} (hP : P S (gM A.1 2 (un r % 32))) : w_Guest_value r S P := by
  unfold w_Guest_value
  rw [and31]
  have hm : un r % 32 < 32 := Nat.mod_lt _ (by decide)
  refine ⟨vp_in_nI hm (by decide), ?_⟩
  rw [nI_clamp (by omega), h.1.2.1 _ hm]
  exact hP
theorem k_set {A : zA} {S : zS} (h : RC A S) (r v : Int32) : w_HB_set r v S (fun S' q => RC (setA A r v).1 S' ∧ q = (setA A r v).2) := by
  unfold w_HB_set
  by_cases hn : r < 0
  · have hl : r < (1 : Int32) := by
      rw [Int32.lt_iff_toInt_lt] at *
      have : (1 : Int32).toInt = 1 := rfl
      rw [Int32.toInt_zero] at hn
      omega
    rw [neg_iff] at hn
    refine ⟨fun _ => ?_, fun c => absurd hl c⟩
    unfold setA
    rw [if_neg (by omega)]
    exact ⟨h, rfl⟩
  · obtain ⟨e, hl⟩ := un_pos hn
    obtain ⟨n, hN⟩ : ∃ n, n = un r := ⟨_, rfl⟩
    rw [← hN] at e hl
    subst e
    rw [show (1 : Int32) = nI 1 from rfl, show (32 : Int32) = nI 32 from rfl, nI_ltI hl (by decide), nI_leI hl (by decide), nI_eq hl (by decide)]
    refine ⟨fun c => ?_, fun c => ⟨fun c2 => ⟨fun c3 => ?_, fun c3 => ?_⟩, fun c2 => ?_⟩⟩
    · unfold setA
      rw [← hN, if_neg (by omega)]
      exact ⟨h, rfl⟩
    · rintro S2 rfl
      unfold setA
      rw [← hN, if_pos (by omega), if_pos c3]
      exact ⟨h.sc (by decide) v, rfl⟩
    · refine s_assign h _ v (fun S' h' => ?_)
      rw [← hN, Nat.mod_eq_of_lt (by omega), if_neg (by omega)] at h'
      unfold setA
      rw [← hN, if_pos (by omega), if_neg c3]
      exact ⟨h', rfl⟩
    · unfold setA
      rw [← hN, if_neg (by omega)]
      exact ⟨h, rfl⟩
theorem k_peek {A : zA} {S : zS} (h : RC A S) (p : Int32) : w_HB_peek p S (fun S' r => RC A S' ∧ r = peekA A p) := by
  unfold w_HB_peek
  exact s_byteAt h.1.2.2.1 p ⟨h, rfl⟩
theorem k_files {A : zA} {S : zS} (h : RC A S) : w_HB_files S (fun S' r => RC A S' ∧ r = filesA A) := by
  unfold w_HB_files
  exact ⟨h, h.cnt⟩
theorem k_fileByte {A : zA} {S : zS} (h : RC A S) (k i nm : Int32) : w_HB_fileByte k i nm S (fun S' r => RC A S' ∧ r = fileByteA A k i nm) := by
  have hl := h.le12
  unfold w_HB_fileByte
  refine s_Folder_get h k ?_
  by_cases c : un k < A.2.2.length
  · have hf : A.2.2[un k]? = some A.2.2[un k] := List.getElem?_eq_getElem c
    have hg := h.fid (show un k < 12 by omega)
    have hr := h.frow hf
    rw [if_pos c]
    refine ⟨fun z => (by cases z), fun q e => ?_⟩
    have e := Option.some.inj e
    subst e
    refine ⟨fun z => ⟨hg, by omega, s_at hr.2 (by omega) i ⟨h, ?_⟩⟩, fun z => ⟨hg, by omega, s_at hr.1 (by omega) i ⟨h, ?_⟩⟩⟩
    · unfold fileByteA; rw [hf]; show _ = atL (if nm = 0 then _ else _) i; rw [if_pos z]
    · unfold fileByteA; rw [hf]; show _ = atL (if nm = 0 then _ else _) i; rw [if_neg z]
  · rw [if_neg c]
    refine ⟨fun _ => ⟨h, ?_⟩, fun q e => by cases e⟩
    unfold fileByteA
    rw [List.getElem?_eq_none (by omega)]
theorem k_printed {A : zA} {S : zS} (h : RC A S) (w : Int32) : w_HB_printed w S (fun S' r => RC A S' ∧ r = printedA A w) := by
  unfold w_HB_printed printedA
  refine ⟨fun c => ⟨by decide, h, ?_⟩, fun c => ⟨fun c2 => ⟨by decide, h, ?_⟩, fun c2 => ⟨h, ?_⟩⟩⟩
  · rw [if_pos c]; exact h.1.2.2.2.1 0 (by decide)
  · rw [if_neg c, if_pos c2]; exact h.1.2.2.2.1 1 (by decide)
  · rw [if_neg c, if_neg c2]
theorem k_print {A : zA} {S : zS} (h : RC A S) (w i : Int32) : w_HB_print w i S (fun S' r => RC A S' ∧ r = printA A w i) := by
  unfold w_HB_print printA
  refine ⟨fun c => ⟨by decide, by decide, s_at (h.2.1.1 2 (by decide)) (by decide) i ⟨h, ?_⟩⟩, fun c => ⟨fun c2 => ⟨by decide, by decide, s_at (h.2.1.1 3 (by decide)) (by decide) i ⟨h, ?_⟩⟩, fun c2 => ⟨h, ?_⟩⟩⟩
  · rw [if_pos c]
  · rw [if_neg c, if_pos c2]
  · rw [if_neg c, if_neg c2]
