/-! WRITE and READ -/
/-- l lies over c from place p on -/
def ov (c : List Int32) (p : Nat) (l : List Int32) : List Int32 := c.take p ++ (l ++ c.drop (p + l.length))
theorem ov_at {c : List Int32} {p : Nat} (hp : p ≤ c.length) (l : List Int32) (q : Nat) : (ov c p l)[q]? = if q < p then c[q]? else if q < p + l.length then l[q - p]? else c[q]? := by
  unfold ov
  have h1 : (c.take p).length = p := by rw [List.length_take]; omega
  by_cases c1 : q < p
  · rw [if_pos c1, List.getElem?_append_left (by omega), List.getElem?_take_of_lt c1]
  · rw [if_neg c1, List.getElem?_append_right (by omega), h1]
    by_cases c2 : q < p + l.length
    · rw [if_pos c2, List.getElem?_append_left (by omega)]
    · rw [if_neg c2, List.getElem?_append_right (by omega), List.getElem?_drop]
      congr 1
      omega
theorem ov_len {c : List Int32} {p : Nat} (hp : p ≤ c.length) (l : List Int32) : (ov c p l).length = max c.length (p + l.length) := by
  unfold ov
  rw [List.length_append, List.length_append, List.length_take, List.length_drop]
  omega
theorem ov_nil (c : List Int32) (p : Nat) : ov c p [] = c := by
  unfold ov
  show c.take p ++ ([] ++ c.drop p) = c
  rw [List.nil_append, List.take_append_drop]
theorem ov_set {c : List Int32} {p : Nat} (hp : p ≤ c.length) (l : List Int32) (v : Int32) (h : p + l.length < (ov c p l).length) : (ov c p l).set (p + l.length) v = ov c p (l ++ [v]) := by
  apply List.ext_getElem?
  intro q
  rw [ov_at hp]
  by_cases e : p + l.length = q
  · subst e
    rw [List.getElem?_set_self h, if_neg (by omega), if_pos (by rw [List.length_append, List.length_singleton]; omega), Nat.add_sub_cancel_left, List.getElem?_append_right (Nat.le_refl _), Nat.sub_self]; rfl
  · rw [List.getElem?_set_ne e, ov_at hp]
    by_cases c1 : q < p
    · rw [if_pos c1, if_pos c1]
    · rw [if_neg c1, if_neg c1]
      by_cases c2 : q < p + l.length
      · rw [if_pos c2, if_pos (by rw [List.length_append, List.length_singleton]; omega), List.getElem?_append_left (by omega)]
      · rw [if_neg c2, if_neg (by rw [List.length_append, List.length_singleton]; omega)]
theorem ov_add {c : List Int32} {p : Nat} (hp : p ≤ c.length) (l : List Int32) (v : Int32) (h : ¬ p + l.length < (ov c p l).length) : ov c p l ++ [v] = ov c p (l ++ [v]) := by
  have hl := ov_len hp l
  have hc : c.length ≤ p + l.length := by omega
  unfold ov
  rw [List.drop_of_length_le (by omega), List.drop_of_length_le (by rw [List.length_append, List.length_singleton]; omega), List.append_nil, List.append_nil, List.append_assoc]
theorem rep_snoc (c : List Int32) (k : Nat) : c ++ List.replicate k 0 ++ [(0 : Int32)] = c ++ List.replicate (k + 1) 0 := by
  rw [List.append_assoc, List.replicate_succ']
/-- the loop that lays zeros -/
theorem s_pad_loop {S : zS} {b : Nat} {c : List Int32} (hr : rowIs S b c) (hb : b < 32) (hcap : capB b = 2000) {a1 a2 p : Nat} {a3 a4 x7 : Int32} (hp : p ≤ 2000) {P : zS → Int32 → Prop} (hP : ∀ S', offRow b S S' → rowIs S' b (c ++ List.replicate (p - c.length) 0) → j_Host_writeFile_77 a1 a2 a3 a4 P S' b (nI p) x7) :
    ∀ (k i : Nat) (T : zS), k = p - (c.length + i) → c.length + i ≤ max p c.length → offRow b S T → rowIs T b (c ++ List.replicate i 0) → l_Host_writeFile_58 a1 a2 a3 a4 P (k + 1) T b (nI p) x7 (nI (c.length + i)) := by
  have hl := hr.2.1
  rw [hcap] at hl
  intro k
  induction k with
  | zero =>
    intro i T hi h2 o r
    unfold l_Host_writeFile_58
    have : p - c.length = i := by omega
    rw [← this] at r
    exact ⟨fun _ => hP T o r, fun z => absurd (nI_le (by omega) (by omega)) z⟩
  | succ k ih =>
    intro i T hi h2 o r
    unfold l_Host_writeFile_58
    refine ⟨fun z => ?_, fun _ => ⟨hb, s_add r hb _ (fun T' o' r' => ?_)⟩⟩
    · rw [nI_leI (by omega) (by omega)] at z
      omega
    · rw [hcap, if_pos (by rw [List.length_append, List.length_replicate]; omega), show (0 : Int32) &&& 255 = 0 from rfl, rep_snoc] at r'
      rw [nI_1]
      exact ih (i + 1) T' (by omega) (by omega) (o.tr o') r'
theorem s_wr_loop {A : zA} {S : zS} (hm : memIs S (gM A.1 3)) {k q : Nat} (hk : k < 10) {b : Nat} {c : List Int32} (hr : rowIs S b c) (hb : b < 32) (hcap : capB b = 2000) {a2 p at' n cnt : Nat} (hp : p ≤ c.length) (hc : p + cnt ≤ 2000) (ha : at' + n ≤ 16384) (hcn : cnt ≤ n) {P : zS → Int32 → Prop} (hP : ∀ S', offRow b S S' → rowIs S' b (ov c p (bytesOf (gM A.1 3) at' cnt)) → ∀ S2, S2 = sM S' 5 k (nI p + nI cnt) → (nI n ≤ nI cnt → P S2 (nI n - nI cnt)) ∧ (¬ nI n ≤ nI cnt → ∀ S3, S3 = sM S2 0 6 28 → P S3 (nI n - nI cnt))) :
    ∀ (m i : Nat) (T : zS), m + i = cnt → offRow b S T → rowIs T b (ov c p (bytesOf (gM A.1 3) at' i)) → l_Host_writeFile_80 k a2 (nI at') (nI n) P (m + 1) T b (nI p) (nI cnt) (nI i) := by
  have hl := hr.2.1
  rw [hcap] at hl
  intro m
  induction m with
  | zero =>
    intro i T hi o r
    have hi : i = cnt := by omega
    subst hi
    unfold l_Host_writeFile_80
    refine ⟨fun _ => ⟨hk, fun S2 e2 => ?_⟩, fun z => absurd (nI_le (Nat.le_refl _) (by omega)) z⟩
    unfold j_Host_writeFile_163
    exact hP T o r S2 e2
  | succ m ih =>
    intro i T hi o r
    have hlen : (ov c p (bytesOf (gM A.1 3) at' i)).length = max c.length (p + i) := by rw [ov_len hp, bytesOf_len]
    unfold l_Host_writeFile_80
    refine ⟨fun z => ?_, fun _ => ?_⟩
    · rw [nI_leI (by omega) (by omega)] at z
      omega
    · have hmT : memIs T (gM A.1 3) := fun q hq => by
        rw [o.1 3 q (by omega)]; exact hm q hq
      refine s_byteAt hmT _ ⟨hb, s_size r hb ?_⟩
      rw [nI_add at' i, un_nI (by omega), if_pos (by omega), nI_add p i, hlen]
      refine ⟨fun z => s_add r hb _ (fun T' o' r' => ?_), fun z => s_change r hb (by rw [hlen]; rw [nI_leI (by omega) (by omega)] at z; omega) _ (fun T' o' r' => ?_)⟩
      · rw [nI_leI (by omega) (by omega)] at z
        have e := ov_add hp (bytesOf (gM A.1 3) at' i) (gM A.1 3 (at' + i)) (by rw [hlen, bytesOf_len]; omega)
        rw [hlen, hcap, if_pos (by omega), hm.and (by omega), e, ← bytesOf_succ] at r'
        unfold j_Host_writeFile_135
        rw [nI_1]
        exact ih (i + 1) T' (by omega) (o.tr o') r'
      · rw [nI_leI (by omega) (by omega)] at z
        have e := ov_set hp (bytesOf (gM A.1 3) at' i) (gM A.1 3 (at' + i)) (by rw [hlen, bytesOf_len]; omega)
        rw [bytesOf_len] at e
        rw [hm.and (by omega), e, ← bytesOf_succ] at r'
        unfold j_Host_writeFile_135
        rw [nI_1]
        exact ih (i + 1) T' (by omega) (o.tr o') r'
/-- bytes to the file q of handle k, at its place p -/
def wrP (A : zA) (k q : Nat) (f : List Int32 × List Int32) (p at' n : Nat) : zA × Int32 :=
  (if min n (2000 - p) < n then aM (aM (aFiles A (if min n (2000 - p) = 0 then A.2.2 else A.2.2.set q (f.1, ov (f.2 ++ List.replicate (p - f.2.length) 0) p (bytesOf (gM A.1 3) at' (min n (2000 - p)))))) 5 k (nI (p + min n (2000 - p)))) 0 6 28
   else aM (aFiles A (if min n (2000 - p) = 0 then A.2.2 else A.2.2.set q (f.1, ov (f.2 ++ List.replicate (p - f.2.length) 0) p (bytesOf (gM A.1 3) at' (min n (2000 - p)))))) 5 k (nI (p + min n (2000 - p))),
   nI (n - min n (2000 - p)))
theorem capF {g : Nat} (h : g < 12) : capB (3 + 2 * g) = 2000 := capB_cont h
theorem s_wf23 {A : zA} {S : zS} (h : RC A S) {k q : Nat} {f : List Int32 × List Int32} (hk : k < 10) (hkind : gM A.1 4 k ≠ 0) (hf : A.2.2[q]? = some f) {p at' n a2 : Nat} (hpl : gM A.1 5 k = nI p) (hp : p ≤ 2000) (ha : at' + n ≤ 16384) {P : zS → Int32 → Prop} (hP : hEnd (wrP A k q f p at' n) P) : j_Host_writeFile_23 k a2 (nI at') (nI n) P S (3 + 2 * gF S q) := by
  have hq12 : q < 12 := Nat.lt_of_lt_of_le (List.getElem?_eq_some_iff.mp hf).1 h.le12
  have hg := h.fid hq12
  have hr := (h.frow hf).2
  have hcap := capF hg
  have hl := hr.2.1
  rw [hcap] at hl
  have e5 : gM S 5 k = nI p := ((h.2.2.2.2.1 k hk hkind).1).trans hpl
  unfold j_Host_writeFile_23
  refine ⟨hk, ?_⟩
  rw [e5]
  rintro v2 rfl v3 rfl
  rw [show (2000 : Int32) = nI 2000 from rfl, pk_sub hp, mnI_nI (by omega) (by omega), mxI_0 (by omega)]
  unfold wrP at hP
  generalize hcn : min n (2000 - p) = cnt at hP
  -- the end of both ways
  have fin : ∀ (S1 : zS) (fs : List (List Int32 × List Int32)), RC (aFiles A fs) S1 → (fs = if cnt = 0 then A.2.2 else A.2.2.set q (f.1, ov (f.2 ++ List.replicate (p - f.2.length) 0) p (bytesOf (gM A.1 3) at' cnt))) → ∀ S2, S2 = sM S1 5 k (nI p + nI cnt) → (nI n ≤ nI cnt → P S2 (nI n - nI cnt)) ∧ (¬ nI n ≤ nI cnt → ∀ S3, S3 = sM S2 0 6 28 → P S3 (nI n - nI cnt)) := by
    intro S1 fs h1 efs S2 e2
    subst e2
    rw [← efs] at hP
    rw [nI_leI (by omega) (by omega), pk_sub (by omega), nI_add]
    have h2 := h1.place k (nI (p + cnt))
    refine ⟨fun z => ?_, fun z => ?_⟩
    · rw [if_neg (by omega)] at hP
      exact hP _ h2
    · rw [if_pos (by omega)] at hP
      rintro S3 rfl
      exact hP _ (h2.sc (by decide) 28)
  have c0 : nI cnt ≤ (0 : Int32) ↔ cnt = 0 := by
    rw [← nI_0, nI_leI (by omega) (by decide)]; omega
  rw [c0]
  refine ⟨fun z => ?_, fun z => ⟨by omega, s_size hr (by omega) ?_⟩⟩
  · subst z
    unfold j_Host_writeFile_77
    refine ⟨1, ?_⟩
    unfold l_Host_writeFile_80
    refine ⟨fun _ => ⟨hk, fun S2 e2 => ?_⟩, fun w => absurd (show nI 0 ≤ nI 0 from nI_le (Nat.le_refl _) (by decide)) w⟩
    unfold j_Host_writeFile_163
    exact fin S A.2.2 h (by rw [if_pos rfl]) S2 e2
  · have hcl : p ≤ (f.2 ++ List.replicate (p - f.2.length) (0 : Int32)).length := by rw [List.length_append, List.length_replicate]; omega
    have := s_pad_loop (a1 := k) (a2 := a2) (a3 := nI at') (a4 := nI n) (x7 := nI cnt) (p := p) hr (by omega) hcap hp (P := P) (fun S1 o1 r1 => ?_) (p - f.2.length) 0 S (by omega) (by omega) (offRow.rf _ S) (by rw [List.replicate_zero, List.append_nil]; exact hr)
    · rw [Nat.add_zero] at this
      exact ⟨_, this⟩
    · unfold j_Host_writeFile_77
      have h1 := h.fchange hf false o1 r1
      refine ⟨cnt + 1, s_wr_loop (A := A) (q := q) (k := k) (c := f.2 ++ List.replicate (p - f.2.length) 0) (n := n) h1.1.2.2.1 hk r1 (by omega) hcap hcl (by omega) ha (by omega) (fun S2 o2 r2 => ?_) cnt 0 S1 (by omega) (offRow.rf _ S1) (by unfold bytesOf; rw [List.range_zero, List.map_nil, ov_nil]; exact r1)⟩
      have h2 : RC (aFiles A (A.2.2.set q (f.1, ov (f.2 ++ List.replicate (p - f.2.length) 0) p (bytesOf (gM A.1 3) at' cnt)))) S2 := h.fchange hf false (o1.tr o2) r2
      exact fin S2 _ h2 (by rw [if_neg z])
def wrF (A : zA) (k q : Nat) (f : List Int32 × List Int32) (at' n : Nat) : zA × Int32 := if gM A.1 6 k &&& 4 = 0 then wrP A k q f (un (gM A.1 5 k)) at' n else wrP (aM A 5 k (nI f.2.length)) k q f f.2.length at' n
theorem s_writeFile {A : zA} {S : zS} (h : RC A S) (hI : AI A) {k q : Nat} {f : List Int32 × List Int32} (hk : k < 10) (hkind : gM A.1 4 k ≠ 0) (hf : A.2.2[q]? = some f) {at' n : Nat} (ha : at' + n ≤ 16384) {P : zS → Int32 → Prop} (hP : hEnd (wrF A k q f at' n) P) : w_Host_writeFile k (gF S q) (nI at') (nI n) S P := by
  have hq12 : q < 12 := Nat.lt_of_lt_of_le (List.getElem?_eq_some_iff.mp hf).1 h.le12
  have hg := h.fid hq12
  have hr := (h.frow hf).2
  have hl := hr.2.1
  rw [capF hg] at hl
  unfold w_Host_writeFile
  refine ⟨hg, hk, s_may hk _ ?_⟩
  have e6 : gM S 6 k = gM A.1 6 k := (h.2.2.2.2.1 k hk hkind).2
  rw [e6]
  unfold wrF at hP
  by_cases c : gM A.1 6 k &&& 4 = 0
  · rw [if_pos c] at hP ⊢
    refine ⟨fun _ => ?_, fun z => absurd rfl z⟩
    obtain ⟨p, hp1, hp2⟩ := hI.2.2.1 k hk hkind
    rw [hp2, un_nI (by omega)] at hP
    exact s_wf23 h hk hkind hf hp2 hp1 ha hP
  · rw [if_neg c] at hP ⊢
    refine ⟨fun z => absurd z (by decide), fun _ => ⟨by omega, s_size hr (by omega) ?_⟩⟩
    rintro S8 rfl
    have h8 := h.place k (nI f.2.length)
    have := s_wf23 (a2 := gF S q) h8 (q := q) hk (by rw [gM_aM, if_neg (by decide)]; exact hkind) hf (p := f.2.length) (by rw [gM_aM, if_pos rfl, if_pos rfl]) (by omega) ha hP
    exact this
def writeA (A : zA) (h p n : Int32) : zA × Int32 := match hopen A h with
  | none => failN A 9 n
  | some k => if gM A.1 6 k &&& 2 = 0 then failN A 9 n else if ¬ un p + un n ≤ 16384 then failN A 14 n else if gM A.1 4 k = 1 then (match gH A.1 k with | some q => (match A.2.2[q]? with | some f => wrF A k q f (un p) (un n) | none => (A, 0)) | none => (A, 0)) else (prA A (if gM A.1 4 k = 4 then 1 else 0) (bytesOf (gM A.1 3) (un p) (un n)), 0)
theorem s_write {A : zA} {S : zS} (h : RC A S) (hI : AI A) (x p n : Int32) {P : zS → Int32 → Prop} (hP : hEnd (writeA A x p n) P) : w_Host_write x p n S P := by
  unfold w_Host_write
  refine s_getOpen h x ?_
  unfold writeA at hP
  cases hh : hopen A x with
  | none =>
    rw [hh] at hP
    refine ⟨fun _ => ?_, fun q e => by cases e⟩
    unfold j_Host_write_24
    rintro S1 rfl
    exact hP _ (h.sc (by decide) 9)
  | some k =>
    rw [hh] at hP
    simp only at hP
    obtain ⟨hk, hkind⟩ := hopen_spec hh
    refine ⟨fun e => (by cases e), fun q e => ?_⟩
    have e := Option.some.inj e
    subst e
    refine ⟨hk, s_may hk _ ?_⟩
    have e6 : gM S 6 k = gM A.1 6 k := (h.2.2.2.2.1 k hk hkind).2
    rw [e6]
    by_cases c : gM A.1 6 k &&& 2 = 0
    · rw [if_pos c] at hP ⊢
      refine ⟨fun _ => ?_, fun z => absurd rfl z⟩
      unfold j_Host_write_24
      rintro S1 rfl
      exact hP _ (h.sc (by decide) 9)
    · rw [if_neg c] at hP ⊢
      refine ⟨fun z => absurd z (by decide), fun _ => s_hasArea _ _ ?_⟩
      by_cases c2 : un p + un n ≤ 16384
      · rw [if_neg (fun z => z c2)] at hP
        rw [if_pos c2]
        refine ⟨fun z => absurd z (by decide), fun _ => ?_⟩
        rintro o9 rfl
        rcases gH_cases h hI hk with ⟨c3, q, f, e1, e2, hq, e3⟩ | ⟨c3, e3⟩
        · rw [e3]
          refine ⟨fun e => (by cases e), fun k8 e => ?_⟩
          have e := Option.some.inj e
          subst e
          rw [if_pos c3, e1] at hP
          simp only [e2] at hP
          rw [← nI_un p, ← nI_un n]
          exact s_writeFile h hI hk hkind e2 c2 hP
        · rw [e3]
          refine ⟨fun _ => ?_, fun k8 e => by cases e⟩
          rw [if_neg c3] at hP
          rw [h.kind hk]
          unfold j_Host_write_95
          rw [← nI_un p, ← nI_un n]
          refine ⟨fun c4 => ⟨by decide, ?_⟩, fun c4 => ⟨by decide, ?_⟩⟩
          · rw [if_pos c4] at hP
            exact s_receive h (by decide) c2 hP
          · rw [if_neg c4] at hP
            exact s_receive h (by decide) c2 hP
      · rw [if_pos c2] at hP
        rw [if_neg c2]
        refine ⟨fun _ => ?_, fun z => absurd rfl z⟩
        rintro S13 rfl
        exact hP _ (h.sc (by decide) 14)
/-- bytes of l come to the memory -/
def rdF (A : zA) (k : Nat) (c : List Int32) (p n : Nat) : zA × Int32 := (aM (aMem A (mset (gM A.1 3) p ((c.drop (un (gM A.1 5 k))).take n))) 5 k (gM A.1 5 k + nI (min n (c.length - un (gM A.1 5 k)))), nI (n - min n (c.length - un (gM A.1 5 k))))
def rdC (A : zA) (p n : Nat) : zA × Int32 := (aRow (aMem A (mset (gM A.1 3) p ((A.2.1 1).take n))) 1 ((A.2.1 1).drop (min n (A.2.1 1).length)), nI (n - min n (A.2.1 1).length))
def readA (A : zA) (h p n : Int32) : zA × Int32 := match hopen A h with
  | none => failN A 9 n
  | some k => if gM A.1 6 k &&& 1 = 0 then failN A 9 n else if ¬ un p + un n ≤ 16384 then failN A 14 n else if gM A.1 4 k = 1 then rdF A k (contA A k) (un p) (un n) else rdC A (un p) (un n)
theorem s_read {A : zA} {S : zS} (h : RC A S) (hI : AI A) (x p n : Int32) {P : zS → Int32 → Prop} (hP : hEnd (readA A x p n) P) : w_Host_read x p n S P := by
  unfold w_Host_read
  refine s_getOpen h x ?_
  unfold readA at hP
  have hm : memIs S (gM A.1 3) := h.1.2.2.1
  cases hh : hopen A x with
  | none =>
    rw [hh] at hP
    refine ⟨fun _ => ?_, fun q e => by cases e⟩
    unfold j_Host_read_24
    rintro S1 rfl
    exact hP _ (h.sc (by decide) 9)
  | some k =>
    rw [hh] at hP
    simp only at hP
    obtain ⟨hk, hkind⟩ := hopen_spec hh
    refine ⟨fun e => (by cases e), fun q e => ?_⟩
    have e := Option.some.inj e
    subst e
    refine ⟨hk, s_may hk _ ?_⟩
    have e6 : gM S 6 k = gM A.1 6 k := (h.2.2.2.2.1 k hk hkind).2
    rw [e6]
    by_cases c : gM A.1 6 k &&& 1 = 0
    · rw [if_pos c] at hP ⊢
      refine ⟨fun _ => ?_, fun z => absurd rfl z⟩
      unfold j_Host_read_24
      rintro S1 rfl
      exact hP _ (h.sc (by decide) 9)
    · rw [if_neg c] at hP ⊢
      refine ⟨fun z => absurd z (by decide), fun _ => s_hasArea _ _ ?_⟩
      by_cases c2 : un p + un n ≤ 16384
      · rw [if_neg (fun z => z c2)] at hP
        rw [if_pos c2]
        refine ⟨fun z => absurd z (by decide), fun _ => ?_⟩
        rintro o9 rfl
        rcases gH_cases h hI hk with ⟨c3, q, f, e1, e2, hq, e3⟩ | ⟨c3, e3⟩
        · rw [e3]
          refine ⟨fun e => (by cases e), fun k8 e => ?_⟩
          have e := Option.some.inj e
          subst e
          rw [if_pos c3, contA_eq e1 e2] at hP
          have hg := h.fid hq
          have hr := (h.frow e2).2
          refine ⟨hg, ?_⟩
          obtain ⟨pl, hp1, hp2⟩ := hI.2.2.1 k hk hkind
          have e5 : gM S 5 k = nI pl := ((h.2.2.2.2.1 k hk hkind).1).trans hp2
          unfold rdF at hP
          rw [hp2, un_nI (by omega)] at hP
          rw [e5, ← nI_un p, ← nI_un n]
          refine s_bringBytes hm hr (by omega) hp1 c2 (fun S' o m => ?_)
          rintro S18 rfl
          rw [o.1 5 k (by decide), e5, pk_sub (by omega)]
          have h1 := h.mem o m
          have h2 := h1.place k (nI pl + nI (min (un n) (f.2.length - pl)))
          exact hP _ h2
        · rw [e3]
          refine ⟨fun _ => ?_, fun k8 e => by cases e⟩
          rw [if_neg c3] at hP
          have hr : rowIs S 26 (A.2.1 1) := h.2.1.1 1 (by decide)
          rw [← nI_un p, ← nI_un n]
          have := s_bringBytes (f := 0) (n := un n) hm hr (by decide) (by decide) c2 (P := fun S11 r12 => 26 < 32 ∧ w_Bytes_dropFirst 26 r12 S11 (fun S14 => P S14 (nI (un n) - r12))) (fun S' o m => ⟨by decide, ?_⟩)
          · exact this
          · rw [List.drop_zero] at m
            rw [Nat.sub_zero]
            have h1 := h.mem o m
            refine s_dropFirst (o.row hr) (by decide) (by omega) (fun S2 o2 r2 => ?_)
            rw [pk_sub (by omega)]
            unfold rdC at hP
            exact hP _ (h1.row (t := 1) (by decide) o2 r2)
      · rw [if_pos c2] at hP
        rw [if_neg c2]
        refine ⟨fun _ => ?_, fun z => absurd rfl z⟩
        rintro S19 rfl
        exact hP _ (h.sc (by decide) 14)
