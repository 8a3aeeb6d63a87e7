/-! OPEN, CLOSE, the text writes, and what asks of a handle -/
theorem at3 (x y z : Int32) : atL [x, y, z] 0 = x ∧ atL [x, y, z] 1 = y ∧ atL [x, y, z] 2 = z := ⟨atL_nI (i := 0) (by decide), atL_nI (i := 1) (by decide), atL_nI (i := 2) (by decide)⟩
theorem s_namesConsole {S : zS} {b : Nat} {l : List Int32} (hr : rowIs S b l) (hb : b < 32) {P : zS → Int32 → Prop} (h : P S (if l = [58, 116, 116] then 1 else 0)) : w_Host_namesConsole b S P := by
  unfold w_Host_namesConsole
  refine ⟨hb, s_size hr hb ?_⟩
  have q3 : nI l.length = (3 : Int32) ↔ l.length = 3 := nI_eq hr.lt (by decide)
  rw [q3]
  refine ⟨fun c => ?_, fun c => ?_⟩
  · obtain ⟨x, y, z, rfl⟩ : ∃ x y z, l = [x, y, z] := by
      match l, c with
      | [x, y, z], _ => exact ⟨x, y, z, rfl⟩
    obtain ⟨e0, e1, e2⟩ := at3 x y z
    have no : ∀ (hne : ¬ [x, y, z] = [58, 116, 116]), P S 0 := fun hne => by rw [if_neg hne] at h; exact h
    refine s_at hr hb _ ?_
    rw [e0]
    refine ⟨fun c0 => s_at hr hb _ ?_, fun c0 => no (fun w => c0 (by simp only [List.cons.injEq, and_true] at w; exact w.1))⟩
    rw [e1]
    refine ⟨fun c1 => s_at hr hb _ ?_, fun c1 => no (fun w => c1 (by simp only [List.cons.injEq, and_true] at w; exact w.2.1))⟩
    rw [e2]
    refine ⟨fun c2 => ?_, fun c2 => no (fun w => c2 (by simp only [List.cons.injEq, and_true] at w; exact w.2.2))⟩
    subst c0; subst c1; subst c2
    rw [if_pos rfl] at h; exact h
  · rw [if_neg (fun z => c (by rw [z]; rfl))] at h; exact h
def openF (A : zA) (i m : Nat) (nm : List Int32) : zA × Int32 := match findA A nm with
  | none => if m < 4 then (aM A 0 6 2, 0) else if A.2.2.length < 12 then (aOpen (aFiles A (A.2.2 ++ [(nm, [])])) i 1 (some A.2.2.length) 0 (fileMay m), 1) else (aM A 0 6 28, 0)
  | some k => (aOpen (if 4 ≤ m ∧ m < 8 then aFiles A (A.2.2.set k (nm, [])) else A) i 1 (some k) 0 (fileMay m), 1)
theorem s_of45 {A : zA} {S : zS} (h : RC A S) {i m k : Nat} (hi : i < 10) (hm : m ≤ 11) {f : List Int32 × List Int32} (hk : A.2.2[k]? = some f) {P : zS → Int32 → Prop} (hP : ∀ S', RC (aOpen (if 4 ≤ m ∧ m < 8 then aFiles A (A.2.2.set k (f.1, [])) else A) i 1 (some k) 0 (fileMay m)) S' → P S' 1) : j_Host_openFile_45 i (nI m) P S (some (gF S k)) := by
  have hk12 : k < 12 := Nat.lt_of_lt_of_le (List.getElem?_eq_some_iff.mp hk).1 h.le12
  have hg := h.fid hk12
  have hr := (h.frow hk).2
  have l4 : nI m < (4 : Int32) ↔ m < 4 := nI_ltI (by omega) (by decide)
  have l8 : (8 : Int32) ≤ nI m ↔ 8 ≤ m := nI_leI (by decide) (by omega)
  unfold j_Host_openFile_45
  refine ⟨fun e => (by cases e), fun q e => ?_⟩
  have e := Option.some.inj e
  subst e
  rw [l4, l8]
  have no : ¬ (4 ≤ m ∧ m < 8) → j_Host_openFile_77 i (nI m) P S (some (gF S k)) := by
    intro z
    rw [if_neg z] at hP
    unfold j_Host_openFile_77
    exact ⟨hi, gF S k, rfl, s_openFileH h hi hm hP⟩
  refine ⟨fun c => no (by omega), fun c => ⟨fun c2 => no (by omega), fun c2 => ⟨hg, by omega, s_cut0 hr (by omega) (fun S1 o1 r1 => ?_)⟩⟩⟩
  rw [if_pos (by omega)] at hP
  have h1 : RC (aFiles A (A.2.2.set k (f.1, []))) S1 := h.fchange hk false o1 r1
  have e1 : gF S1 k = gF S k := gF_of o1.2.2 k
  unfold j_Host_openFile_77
  refine ⟨hi, gF S k, rfl, ?_⟩
  rw [← e1]
  exact s_openFileH h1 hi hm hP
theorem s_openFile {A : zA} {S : zS} (h : RC A S) {i m : Nat} (hi : i < 10) (hm : m ≤ 11) {nm : List Int32} (hr : rowIs S 30 nm) (hl : nm.length ≤ 24) {P : zS → Int32 → Prop} (hP : hEnd (openF A i m nm) P) : w_Host_openFile i (nI m) S P := by
  have l4 : (4 : Int32) ≤ nI m ↔ 4 ≤ m := nI_leI (by decide) (by omega)
  unfold w_Host_openFile
  refine s_find h (by decide) hr ?_
  unfold openF at hP
  rw [l4]
  cases hf : findA A nm with
  | none =>
    rw [hf] at hP
    simp only at hP
    refine ⟨fun _ => ⟨fun c => ?_, fun c => ?_⟩, fun q e => by cases e⟩
    · rw [if_neg (by omega)] at hP
      unfold j_Host_openFile_29
      refine ⟨fun _ => ?_, fun q e => by cases e⟩
      refine s_make h (Or.inr (Or.inl rfl)) hr hl (fun c2 S1 h1 e1 => ?_) (fun c2 => ?_)
      · rw [if_pos c2] at hP
        rw [← e1]
        have hk : (aFiles A (A.2.2 ++ [(nm, [])])).2.2[A.2.2.length]? = some (nm, []) := by
          show (A.2.2 ++ [(nm, [])])[A.2.2.length]? = _
          simp
        refine s_of45 h1 hi hm hk (fun S2 h2 => hP S2 ?_)
        have e2 : (if 4 ≤ m ∧ m < 8 then aFiles (aFiles A (A.2.2 ++ [(nm, [])])) ((aFiles A (A.2.2 ++ [(nm, [])])).2.2.set A.2.2.length ((nm, ([] : List Int32)).1, [])) else aFiles A (A.2.2 ++ [(nm, [])])) = aFiles A (A.2.2 ++ [(nm, [])]) := by
          by_cases z : 4 ≤ m ∧ m < 8
          · rw [if_pos z]
            show aFiles A ((A.2.2 ++ [(nm, [])]).set A.2.2.length (nm, [])) = _
            congr 1
            rw [List.set_append_right _ _ (Nat.le_refl _)]; simp
          · rw [if_neg z]
        rw [e2] at h2
        exact h2
      · rw [if_neg c2] at hP
        unfold j_Host_openFile_45
        exact ⟨fun _ => s_fail' h _ (fun S' h' => hP S' h'), fun q e => by cases e⟩
    · rw [if_pos (by omega)] at hP
      exact s_fail' h _ (fun S' h' => hP S' h')
  | some k =>
    rw [hf] at hP
    simp only at hP
    refine ⟨fun e => (by cases e), fun q e => ?_⟩
    have e := Option.some.inj e
    subst e
    obtain ⟨f, hfk, hfn⟩ := findA_name hf
    unfold j_Host_openFile_29
    refine ⟨fun e => (by cases e), fun q e => ?_⟩
    have e := Option.some.inj e
    subst e
    refine s_of45 h hi hm hfk (fun S2 h2 => hP S2 ?_)
    rw [hfn] at h2
    exact h2
def openC (A : zA) (p md n : Int32) : zA × Int32 :=
  if ¬ un md ≤ 11 then failA A 22
  else if ¬ faultA (gM A.1 3) p n = 0 then failA A (nI (faultA (gM A.1 3) p n))
  else match leastA A with
    | none => failA A 24
    | some h => if bytesOf (gM A.1 3) (un p) (un n) = [58, 116, 116] then (aOpen A h (conKind (un md)) none 0 (conMay (un md)), nI (h + 1))
      else ((openF A h (un md) (bytesOf (gM A.1 3) (un p) (un n))).1, if (openF A h (un md) (bytesOf (gM A.1 3) (un p) (un n))).2 = 0 then -1 else nI (h + 1))
theorem faultA_len {mm : Nat → Int32} {p n : Int32} (h : faultA mm p n = 0) : 1 ≤ un n ∧ un n ≤ 24 ∧ un p + un n ≤ 16384 ∧ fzL (bytesOf mm (un p) (un n)) = -1 := by
  unfold faultA at h
  by_cases c : 1 ≤ un n ∧ un n ≤ 24
  · rw [if_pos c] at h
    by_cases c2 : un p + un n ≤ 16384
    · rw [if_pos c2] at h
      by_cases c3 : fzL (bytesOf mm (un p) (un n)) = -1
      · exact ⟨c.1, c.2, c2, c3⟩
      · rw [if_neg c3] at h; omega
    · rw [if_neg c2] at h; omega
  · rw [if_neg c] at h; omega
theorem faultA_lt (mm : Nat → Int32) (p n : Int32) : faultA mm p n < 128 := by
  unfold faultA
  repeat' split
  all_goals omega
theorem hnd_nI {k : Nat} (h : k < 10) : hnd (nI (k + 1)) = some k := by
  unfold hnd
  rw [un_nI (by omega), if_pos (by omega)]; rfl
theorem s_open {A : zA} {S : zS} (h : RC A S) (p md n : Int32) {P : zS → Int32 → Prop} (hP : hEnd (openC A p md n) P) : w_Host_open p md n S P := by
  unfold w_Host_open
  unfold openC at hP
  have bad : ¬ un md ≤ 11 → j_Host_open_10 p md n P S := by
    intro c
    rw [if_pos c] at hP
    unfold j_Host_open_10
    exact s_fail h _ hP
  refine ⟨fun c => bad (by rw [neg_iff] at c; omega), fun c => ?_⟩
  obtain ⟨em, hm⟩ := un_pos c
  have l11 : md ≤ (11 : Int32) ↔ un md ≤ 11 := by
    rw [em, un_nI (by omega)]
    exact nI_leI hm (by decide)
  rw [l11]
  refine ⟨fun c2 => ?_, fun c2 => bad c2⟩
  rw [if_neg (fun z => z c2)] at hP
  refine s_bringName h (Or.inl rfl) p n (fun S1 h1 _ r1 _ => ?_)
  have q0 : nI (faultA (gM A.1 3) p n) = (0 : Int32) ↔ faultA (gM A.1 3) p n = 0 := nk (faultA_lt _ _ _) 0 (by decide)
  rw [q0]
  refine ⟨fun cf => ?_, fun cf => ?_⟩
  · rw [if_neg (fun z => z cf)] at hP
    have hr := r1 cf
    obtain ⟨n1, n2, n3, n4⟩ := faultA_len cf
    refine s_leastShut h1 (s_Desk_get _ ?_)
    cases hl : leastA A with
    | none =>
      rw [hl] at hP
      simp only at hP
      refine ⟨fun _ => s_fail h1 _ hP, fun q e => ?_⟩
      have : hnd (-1) = none := by unfold hnd; rw [if_neg (by decide)]
      rw [this] at e; cases e
    | some k =>
      rw [hl] at hP
      simp only at hP
      have hk := (leastA_spec hl).1
      show (hnd (nI (k + 1)) = none → _) ∧ _
      rw [hnd_nI hk]
      refine ⟨fun e => (by cases e), fun q e => ?_⟩
      have e := Option.some.inj e
      subst e
      refine s_namesConsole hr (by decide) ?_
      by_cases ct : bytesOf (gM A.1 3) (un p) (un n) = [58, 116, 116]
      · rw [if_pos ct] at hP ⊢
        refine ⟨fun z => absurd z (by decide), fun _ => ⟨hk, ?_⟩⟩
        rw [em]
        exact s_openConsole h1 hk c2 hP
      · rw [if_neg ct] at hP ⊢
        refine ⟨fun _ => ?_, fun z => absurd rfl z⟩
        rw [em]
        refine s_openFile h1 hk c2 hr (by rw [bytesOf_len]; omega) (fun S2 h2 => ⟨fun z => ?_, fun z => ?_⟩)
        · have := hP S2 h2
          simp only at this
          rw [if_pos z] at this; exact this
        · have := hP S2 h2
          simp only at this
          rw [if_neg z] at this; exact this
  · rw [if_pos cf] at hP
    exact s_fail h1 _ hP
def closeA (A : zA) (h : Int32) : zA × Int32 := match hopen A h with
  | none => failA A 9
  | some k => (aOpen A k 0 none 0 0, 0)
theorem s_close {A : zA} {S : zS} (h : RC A S) (x : Int32) {P : zS → Int32 → Prop} (hP : hEnd (closeA A x) P) : w_Host_close x S P := by
  unfold w_Host_close
  refine s_getOpen h x ?_
  unfold closeA at hP
  cases hh : hopen A x with
  | none =>
    rw [hh] at hP
    exact ⟨fun _ => s_fail h _ hP, fun q e => by cases e⟩
  | some k =>
    rw [hh] at hP
    refine ⟨fun e => (by cases e), fun q e => ?_⟩
    have e := Option.some.inj e
    subst e
    exact ⟨(hopen_spec hh).1, s_shut h (hopen_spec hh).1 hP⟩
/-- a text of k bytes is written, or there is none -/
def textA (A : zA) (a : Int32) (k : Option Nat) : zA × Int32 := match k with
  | none => failA A 14
  | some k => (prA A 0 (bytesOf (gM A.1 3) (un a) k), 0)
theorem s_text0 {A : zA} {S : zS} (h : RC A S) {a : Int32} {P : zS → Int32 → Prop} (hP : hEnd (textA A a none) P) : w_Host_writeText (-1) S P := by
  unfold w_Host_writeText
  exact ⟨fun _ => s_fail h _ hP, fun z => absurd rfl z⟩
theorem s_text1 {A : zA} {S : zS} (h : RC A S) {a : Int32} (hb : gM S 0 5 = a) {q : Nat} (hq : un a + q ≤ 16384) {P : zS → Int32 → Prop} (hP : hEnd (textA A a (some q)) P) : w_Host_writeText (nI q) S P := by
  unfold w_Host_writeText
  refine ⟨fun z => ?_, fun _ => ⟨by decide, ?_⟩⟩
  · have : ¬ nI q < 0 := nI_pos (by omega)
    rw [z] at this
    exact absurd (by decide) this
  · rw [hb, ← nI_un a]
    exact s_receive h (by decide) hq hP
def isConA (A : zA) (h : Int32) : zA × Int32 := match hopen A h with
  | none => failA A 9
  | some k => (A, if gM A.1 4 k = 1 then 0 else 1)
/-- which file an open handle has -/
theorem gH_cases {A : zA} {S : zS} (h : RC A S) (hI : AI A) {k : Nat} (hk : k < 10) : (gM A.1 4 k = 1 ∧ ∃ q f, gH A.1 k = some q ∧ A.2.2[q]? = some f ∧ q < 12 ∧ gH S k = some (gF S q)) ∨ (¬ gM A.1 4 k = 1 ∧ gH S k = none) := by
  have e0 := h.hfile hk
  by_cases c : gM A.1 4 k = 1
  · obtain ⟨q, e, hq⟩ := hI.1 k hk c
    rw [if_pos c, e] at e0
    have hl := h.le12
    exact Or.inl ⟨c, q, A.2.2[q], e, List.getElem?_eq_getElem hq, by omega, e0⟩
  · rw [if_neg c] at e0
    exact Or.inr ⟨c, e0⟩
theorem s_isConsole {A : zA} {S : zS} (h : RC A S) (hI : AI A) (x : Int32) {P : zS → Int32 → Prop} (hP : hEnd (isConA A x) P) : w_Host_isConsole x S P := by
  unfold w_Host_isConsole
  refine s_getOpen h x ?_
  unfold isConA at hP
  cases hh : hopen A x with
  | none =>
    rw [hh] at hP
    exact ⟨fun _ => s_fail h _ hP, fun q e => by cases e⟩
  | some k =>
    rw [hh] at hP
    simp only at hP
    have hk := (hopen_spec hh).1
    refine ⟨fun e => (by cases e), fun q e => ?_⟩
    have e := Option.some.inj e
    subst e
    refine ⟨hk, ?_⟩
    rintro o7 rfl
    rcases gH_cases h hI hk with ⟨c, q, f, e1, e2, hq, e3⟩ | ⟨c, e3⟩
    · rw [if_pos c] at hP
      rw [e3]
      exact ⟨fun e => (by cases e), fun _ _ => hP S h⟩
    · rw [if_neg c] at hP
      rw [e3]
      exact ⟨fun _ => hP S h, fun _ e => by cases e⟩
/-- the bytes of the file that handle k has -/
def contA (A : zA) (k : Nat) : List Int32 := match gH A.1 k with
  | some q => (match A.2.2[q]? with | some f => f.2 | none => [])
  | none => []
theorem contA_eq {A : zA} {k q : Nat} {f : List Int32 × List Int32} (e : gH A.1 k = some q) (hf : A.2.2[q]? = some f) : contA A k = f.2 := by
  unfold contA
  rw [e]
  show (match A.2.2[q]? with | some f => f.2 | none => []) = _
  rw [hf]
theorem RC.place {A : zA} {S : zS} (h : RC A S) (i : Nat) (v : Int32) : RC (aM A 5 i v) (sM S 5 i v) := by
  obtain ⟨⟨n1, n2, n3, n4, n5⟩, ⟨r1, ⟨l1, r2⟩, ⟨l2, r3⟩, l3, r4⟩, ⟨f1, f2, f3, f4, f5, f6⟩, g1, g2, g3⟩ := h
  refine ⟨⟨fun j hj => n1 j hj, fun r hr => n2 r hr, fun q hq => n3 q hq, fun j hj => n4 j hj, n5⟩, ⟨r1, ⟨l1, r2⟩, ⟨l2, r3⟩, l3, r4⟩, ⟨f1, f2, f3, f4, f5, f6⟩, g1, fun q hq hne => ?_, g3⟩
  have := g2 q hq hne
  refine ⟨?_, this.2⟩
  rw [gM_sM, gM_aM, if_pos rfl, if_pos rfl, this.1]
def seekA (A : zA) (h to : Int32) : zA × Int32 := match hopen A h with
  | none => failA A 9
  | some k => if gM A.1 4 k = 1 ∧ un to ≤ (contA A k).length then (aM A 5 k to, 0) else failA A 22
theorem s_seek {A : zA} {S : zS} (h : RC A S) (hI : AI A) (x to : Int32) {P : zS → Int32 → Prop} (hP : hEnd (seekA A x to) P) : w_Host_seek x to S P := by
  unfold w_Host_seek
  refine s_getOpen h x ?_
  unfold seekA at hP
  cases hh : hopen A x with
  | none =>
    rw [hh] at hP
    exact ⟨fun _ => s_fail h _ hP, fun q e => by cases e⟩
  | some k =>
    rw [hh] at hP
    simp only at hP
    have hk := (hopen_spec hh).1
    refine ⟨fun e => (by cases e), fun q e => ?_⟩
    have e := Option.some.inj e
    subst e
    refine ⟨hk, ?_⟩
    rintro o7 rfl
    have bad : ¬ (gM A.1 4 k = 1 ∧ un to ≤ (contA A k).length) → j_Host_seek_47 x to P S := by
      intro z
      rw [if_neg z] at hP
      unfold j_Host_seek_47
      exact s_fail h _ hP
    rcases gH_cases h hI hk with ⟨c, q, f, e1, e2, hq, e3⟩ | ⟨c, e3⟩
    case inr => rw [e3]; exact ⟨fun _ => bad (fun z => c z.1), fun _ e => by cases e⟩
    rw [e3]
    refine ⟨fun e => (by cases e), fun k8 e => ?_⟩
    have e := Option.some.inj e
    subst e
    have hr := (h.frow e2).2
    have hg := h.fid hq
    rw [contA_eq e1 e2] at bad hP
    refine ⟨fun c2 => bad (fun z => ?_), fun c2 => ⟨hg, by omega, s_size hr (by omega) ⟨fun c3 => ?_, fun c3 => ?_⟩⟩⟩
    · rw [neg_iff] at c2
      have := hr.lt
      omega
    · rw [le_of_un hr.lt c2] at c3
      rw [if_pos ⟨c, c3⟩] at hP
      rintro S13 rfl
      exact hP _ (h.place k to)
    · rw [le_of_un hr.lt c2] at c3
      exact bad (fun z => c3 z.2)
def lengthA (A : zA) (h : Int32) : zA × Int32 := match hopen A h with
  | none => failA A 9
  | some k => (A, if gM A.1 4 k = 1 then nI (contA A k).length else 0)
theorem s_length {A : zA} {S : zS} (h : RC A S) (hI : AI A) (x : Int32) {P : zS → Int32 → Prop} (hP : hEnd (lengthA A x) P) : w_Host_length x S P := by
  unfold w_Host_length
  refine s_getOpen h x ?_
  unfold lengthA at hP
  cases hh : hopen A x with
  | none =>
    rw [hh] at hP
    exact ⟨fun _ => s_fail h _ hP, fun q e => by cases e⟩
  | some k =>
    rw [hh] at hP
    simp only at hP
    have hk := (hopen_spec hh).1
    refine ⟨fun e => (by cases e), fun q e => ?_⟩
    have e := Option.some.inj e
    subst e
    refine ⟨hk, ?_⟩
    rintro o7 rfl
    rcases gH_cases h hI hk with ⟨c, q, f, e1, e2, hq, e3⟩ | ⟨c, e3⟩
    · rw [e3]
      refine ⟨fun e => (by cases e), fun k8 e => ?_⟩
      have e := Option.some.inj e
      subst e
      have hr := (h.frow e2).2
      have hg := h.fid hq
      rw [contA_eq e1 e2, if_pos c] at hP
      exact ⟨hg, by omega, s_size hr (by omega) (hP S h)⟩
    · rw [e3]
      rw [if_neg c] at hP
      exact ⟨fun _ => hP S h, fun _ e => by cases e⟩
def readByteA (A : zA) : zA × Int32 := (aRow A 1 ((A.2.1 1).drop 1), atL (A.2.1 1) 0)
theorem s_readByte {A : zA} {S : zS} (h : RC A S) {P : zS → Int32 → Prop} (hP : hEnd (readByteA A) P) : w_Host_readByte S P := by
  have hr : rowIs S 26 (A.2.1 1) := h.2.1.1 1 (by decide)
  unfold w_Host_readByte
  refine ⟨by decide, s_at hr (by decide) _ ?_⟩
  have := s_dropFirst hr (by decide) (n := 1) (by decide) (P := fun S4 => P S4 (atL (A.2.1 1) 0)) (fun S' o r => hP S' (h.row (t := 1) (by decide) o r))
  exact this
