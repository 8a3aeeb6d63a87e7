/-! what the host's operations share -/
def hEnd (X : zA × Int32) (P : zS → Int32 → Prop) : Prop := ∀ S', RC X.1 S' → P S' X.2
def failA (A : zA) (e : Int32) : zA × Int32 := (aM A 0 6 e, -1)
def failN (A : zA) (e n : Int32) : zA × Int32 := (aM A 0 6 e, n)
theorem s_fail {A : zA} {S : zS} (h : RC A S) (e : Int32) {P : zS → Int32 → Prop} (hP : hEnd (failA A e) P) : w_Host_fail e S P := by
  unfold w_Host_fail
  rintro S1 rfl
  exact hP _ (h.sc (by decide) e)
theorem s_fail' {A : zA} {S : zS} (h : RC A S) (e : Int32) {P : zS → Int32 → Prop} (hP : ∀ S', RC (aM A 0 6 e) S' → P S' (-1)) : w_Host_fail e S P := s_fail h e hP
def bytesOf (mm : Nat → Int32) (a n : Nat) : List Int32 := (List.range n).map (fun i => mm (a + i))
theorem bytesOf_len (mm : Nat → Int32) (a n : Nat) : (bytesOf mm a n).length = n := by unfold bytesOf; simp
theorem bytesOf_succ (mm : Nat → Int32) (a n : Nat) : bytesOf mm a (n + 1) = bytesOf mm a n ++ [mm (a + n)] := by unfold bytesOf; rw [List.range_succ, List.map_append]; rfl
theorem bytesOf_at (mm : Nat → Int32) (a : Nat) {n i : Nat} (h : i < n) : (bytesOf mm a n)[i]? = some (mm (a + i)) := by
  unfold bytesOf
  rw [List.getElem?_map, List.getElem?_range h]; rfl
theorem bytesOf_take (mm : Nat → Int32) (a : Nat) {n k : Nat} (h : k ≤ n) : (bytesOf mm a n).take k = bytesOf mm a k := by
  apply List.ext_getElem?
  intro i
  by_cases hi : i < k
  · rw [List.getElem?_take_of_lt hi, bytesOf_at mm a (by omega), bytesOf_at mm a hi]
  · rw [List.getElem?_eq_none (by rw [List.length_take, bytesOf_len]; omega), List.getElem?_eq_none (by rw [bytesOf_len]; omega)]
theorem memIs.and {S : zS} {mm : Nat → Int32} (h : memIs S mm) {i : Nat} (hi : i < 16384) : mm i &&& 255 = mm i := by
  have := (h i hi).2
  rw [← this, Int32.and_assoc]
  rfl
/-- a word of the block of fields -/
def fieldA (A : zA) (a : Int32) (k : Nat) : Int32 := wordOf (gM A.1 3) (un a + 4 * k)
theorem s_field {A : zA} {S : zS} (h : RC A S) {a : Int32} (hb : gM S 0 5 = a) {k : Nat} (hk : un a + 4 * k + 4 ≤ 16384) {x : Int32} (hx : x = nI k) {P : zS → Int32 → Prop} (hP : P S (fieldA A a k)) : w_Host_field x S P := by
  unfold w_Host_field
  rw [hb, hx, ← nI_un a, show (4 : Int32) = nI 4 from rfl, pk_mul, nI_add]
  exact s_wordAt h.1.2.2.1 hk hP
def fieldsA (o : Int32) : Nat := if o = 1 then 3 else if o = 2 then 1 else if o = 5 then 3 else if o = 6 then 3 else if o = 8 then 1 else if o = 9 then 1 else if o = 10 then 2 else if o = 12 then 1 else if o = 13 then 3 else if o = 14 then 2 else if o = 15 then 4 else if o = 18 then 2 else if o = 21 then 2 else if o = 22 then 1 else if o = 32 then 2 else 0
theorem ite_le {c : Prop} [Decidable c] {x y n : Nat} (h1 : x ≤ n) (h2 : y ≤ n) : (if c then x else y) ≤ n := by
  by_cases z : c
  · rw [if_pos z]; exact h1
  · rw [if_neg z]; exact h2
theorem fieldsA_le (o : Int32) : fieldsA o ≤ 4 := by
  unfold fieldsA
  repeat' apply ite_le
  all_goals decide
theorem s_fieldsOf {S : zS} (o : Int32) {P : zS → Int32 → Prop} (h : P S (nI (fieldsA o))) : w_Host_fieldsOf o S P := by
  unfold w_Host_fieldsOf
  unfold fieldsA at h
  refine ⟨fun c => by rw [if_pos c] at h; exact h, fun c => ?_⟩
  rw [if_neg c] at h
  refine ⟨fun c => by rw [if_pos c] at h; exact h, fun c => ?_⟩
  rw [if_neg c] at h
  refine ⟨fun c => by rw [if_pos c] at h; exact h, fun c => ?_⟩
  rw [if_neg c] at h
  refine ⟨fun c => by rw [if_pos c] at h; exact h, fun c => ?_⟩
  rw [if_neg c] at h
  refine ⟨fun c => by rw [if_pos c] at h; exact h, fun c => ?_⟩
  rw [if_neg c] at h
  refine ⟨fun c => by rw [if_pos c] at h; exact h, fun c => ?_⟩
  rw [if_neg c] at h
  refine ⟨fun c => by rw [if_pos c] at h; exact h, fun c => ?_⟩
  rw [if_neg c] at h
  refine ⟨fun c => by rw [if_pos c] at h; exact h, fun c => ?_⟩
  rw [if_neg c] at h
  refine ⟨fun c => by rw [if_pos c] at h; exact h, fun c => ?_⟩
  rw [if_neg c] at h
  refine ⟨fun c => by rw [if_pos c] at h; exact h, fun c => ?_⟩
  rw [if_neg c] at h
  refine ⟨fun c => by rw [if_pos c] at h; exact h, fun c => ?_⟩
  rw [if_neg c] at h
  refine ⟨fun c => by rw [if_pos c] at h; exact h, fun c => ?_⟩
  rw [if_neg c] at h
  refine ⟨fun c => by rw [if_pos c] at h; exact h, fun c => ?_⟩
  rw [if_neg c] at h
  refine ⟨fun c => by rw [if_pos c] at h; exact h, fun c => ?_⟩
  rw [if_neg c] at h
  refine ⟨fun c => by rw [if_pos c] at h; exact h, fun c => ?_⟩
  rw [if_neg c] at h
  exact h
/-- the fields of an operation lie in the memory -/
def okA (a : Int32) (n : Nat) : Bool := decide (n = 0 ∨ (un a % 4 = 0 ∧ un a + 4 * n ≤ 16384))
theorem okA_iff (a : Int32) (n : Nat) : okA a n = true ↔ n = 0 ∨ (un a % 4 = 0 ∧ un a + 4 * n ≤ 16384) := by unfold okA; exact decide_eq_true_iff
theorem s_hasFields {S : zS} {a : Int32} (hb : gM S 0 5 = a) {n : Nat} (hn : n ≤ 4) {P : zS → Int32 → Prop} (h : P S (if okA a n = true then 1 else 0)) : w_Host_hasFields (nI n) S P := by
  unfold w_Host_hasFields j_Host_hasFields_30
  simp only [okA_iff] at h
  have q0 : nI n = (0 : Int32) ↔ n = 0 := nk (by omega) 0 (by decide)
  rw [q0, hb, and3]
  refine ⟨fun c => ?_, fun c => ⟨fun c2 => s_hasArea _ _ ?_, fun c2 => ?_⟩⟩
  · rw [if_pos (Or.inl c)] at h; exact h
  · rw [show (4 : Int32) = nI 4 from rfl, pk_mul, un_nI (by omega)]
    by_cases c3 : un a + 4 * n ≤ 16384
    · rw [if_pos c3]
      rw [if_pos (Or.inr ⟨c2, c3⟩)] at h
      exact ⟨fun z => absurd z (by decide), fun _ => h⟩
    · rw [if_neg c3]
      rw [if_neg (by omega)] at h
      exact ⟨fun _ => h, fun z => absurd rfl z⟩
  · rw [if_neg (by omega)] at h; exact h
/-- what is wrong with a name in the memory; 0 if nothing is -/
def faultA (mm : Nat → Int32) (p n : Int32) : Nat := if 1 ≤ un n ∧ un n ≤ 24 then (if un p + un n ≤ 16384 then (if fzL (bytesOf mm (un p) (un n)) = -1 then 0 else 22) else 14) else 36
theorem s_bring_loop {A : zA} {S : zS} (h : RC A S) {b : Nat} (hb : b = 30 ∨ b = 31) {p n : Nat} (hp : p + n ≤ 16384) (hn : n ≤ 24) {P : zS → Int32 → Prop} (hP : ∀ S', offRow b S S' → rowIs S' b (bytesOf (gM A.1 3) p n) → P S' (if fzL (bytesOf (gM A.1 3) p n) = -1 then 0 else 22)) :
    ∀ (k i : Nat) (T : zS), k + i = n → offRow b S T → rowIs T b (bytesOf (gM A.1 3) p i) → l_Host_bringName_37 b (nI p) (nI n) P (k + 1) T (nI i) := by
  have hb32 : b < 32 := by omega
  have hcap : capB b = 24 := by rcases hb with e | e <;> rw [e] <;> rfl
  have hm : memIs S (gM A.1 3) := h.1.2.2.1
  intro k
  induction k with
  | zero =>
    intro i T hi o r
    have hi : i = n := by omega
    subst hi
    unfold l_Host_bringName_37
    refine ⟨fun _ => ⟨hb32, s_firstZero r hb32 ⟨fun c => ?_, fun c => ?_⟩⟩, fun c => absurd (nI_le (Nat.le_refl _) (by omega)) c⟩
    · have := hP T o r
      rw [if_pos c] at this; exact this
    · have := hP T o r
      rw [if_neg c] at this; exact this
  | succ k ih =>
    intro i T hi o r
    unfold l_Host_bringName_37
    refine ⟨fun c => ?_, fun _ => ?_⟩
    · rw [nI_leI (by omega) (by omega)] at c
      omega
    · have hmT : memIs T (gM A.1 3) := fun q hq => by
        rw [o.1 3 q (by omega)]; exact hm q hq
      refine s_byteAt hmT _ ⟨hb32, s_add r hb32 _ (fun T' o' r' => ?_)⟩
      rw [bytesOf_len, hcap, if_pos (by omega), nI_add, un_nI (by omega), if_pos (by omega), hm.and (by omega), ← bytesOf_succ] at r'
      rw [nI_1]
      exact ih (i + 1) T' (by omega) (o.tr o') r'
theorem s_bringName {A : zA} {S : zS} (h : RC A S) {b : Nat} (hb : b = 30 ∨ b = 31) (p n : Int32) {P : zS → Int32 → Prop} (hP : ∀ S', RC A S' → gM S' 0 5 = gM S 0 5 → (faultA (gM A.1 3) p n = 0 → rowIs S' b (bytesOf (gM A.1 3) (un p) (un n))) → (∀ b' l, b' ≠ b → rowIs S b' l → rowIs S' b' l) → P S' (nI (faultA (gM A.1 3) p n))) : w_Host_bringName b p n S P := by
  have hb32 : b < 32 := by omega
  unfold w_Host_bringName
  have hl := un_lt n
  have same : ∀ f, faultA (gM A.1 3) p n = f → f ≠ 0 → P S (nI f) := fun f e hf => by
    have := hP S h rfl (fun z => absurd (e.symm.trans z) hf) (fun _ _ _ r => r)
    rw [e] at this
    exact this
  have e36 : ¬ (1 ≤ un n ∧ un n ≤ 24) → faultA (gM A.1 3) p n = 36 := fun z => by unfold faultA; rw [if_neg z]
  by_cases hn : n < 0
  · have hl1 : n < (1 : Int32) := by
      rw [Int32.lt_iff_toInt_lt] at *
      have : (1 : Int32).toInt = 1 := rfl
      rw [Int32.toInt_zero] at hn
      omega
    rw [neg_iff] at hn
    exact ⟨fun _ => same 36 (e36 (by omega)) (by decide), fun c => absurd hl1 c⟩
  obtain ⟨en, hlt⟩ := un_pos hn
  have l1 : n < (1 : Int32) ↔ un n < 1 := by
    rw [en, un_nI hl]
    exact nI_ltI hlt (by decide)
  have l24 : n ≤ (24 : Int32) ↔ un n ≤ 24 := by
    rw [en, un_nI hl]
    exact nI_leI hlt (by decide)
  rw [l1, l24]
  refine ⟨fun c => same 36 (e36 (by omega)) (by decide), fun c => ⟨fun c2 => s_hasArea _ _ ?_, fun c2 => same 36 (e36 (by omega)) (by decide)⟩⟩
  by_cases c3 : un p + un n ≤ 16384
  · rw [if_pos c3]
    refine ⟨fun z => absurd z (by decide), fun _ => ⟨hb32, ?_⟩⟩
    obtain ⟨l0, hr⟩ : ∃ l, rowIs S b l := by
      rcases hb with e | e <;> rw [e]
      · exact h.2.1.2.2.1
      · exact h.2.1.2.2.2
    refine s_cut0 hr hb32 (fun S1 o1 r1 => ?_)
    have h1 : RC A S1 := h.own (by omega) o1 r1
    have ep : p = nI (un p) := (nI_un p).symm
    have := s_bring_loop h1 hb c3 c2 (P := P) (fun S' o' r' => ?_) (un n) 0 S1 (by omega) (offRow.rf b S1) (by unfold bytesOf; rw [List.range_zero, List.map_nil]; exact r1)
    · rw [← ep, ← en] at this
      exact ⟨_, this⟩
    · have ef : faultA (gM A.1 3) p n = if fzL (bytesOf (gM A.1 3) (un p) (un n)) = -1 then 0 else 22 := by unfold faultA; rw [if_pos (by omega), if_pos c3]
      have o2 := o1.tr o'
      have := hP S' (h.own (by omega) o2 r') (o2.1 0 5 (by omega)) (fun _ => r') (fun b' l hne r => o2.row hne r)
      rw [ef] at this
      by_cases z : fzL (bytesOf (gM A.1 3) (un p) (un n)) = -1
      · rw [if_pos z] at this ⊢; exact this
      · rw [if_neg z] at this ⊢; exact this
  · rw [if_neg c3]
    refine ⟨fun _ => same 14 ?_ (by decide), fun z => absurd rfl z⟩
    unfold faultA; rw [if_pos (by omega), if_neg c3]
/-- bytes come to OUT (0) or ERR (1) -/
def prA (A : zA) (j : Nat) (l : List Int32) : zA := aM (aRow A (2 + j) ((A.2.1 (2 + j) ++ l).take 2000)) 7 j (gM A.1 7 j + nI l.length)
theorem s_recv_loop {A : zA} {S : zS} (h : RC A S) {j : Nat} (hj : j < 2) {p n m : Nat} {c : Int32} (hp : p + m ≤ 16384) (hm2 : (A.2.1 (2 + j)).length + m ≤ 2000) {P : zS → Prop} (hP : ∀ S', RC (aM (aRow A (2 + j) (A.2.1 (2 + j) ++ bytesOf (gM A.1 3) p m)) 7 j (gM A.1 7 j + c)) S' → P S') :
    ∀ (k i : Nat) (T : zS), k + i = m → offRow (27 + j) S T → rowIs T (27 + j) (A.2.1 (2 + j) ++ bytesOf (gM A.1 3) p i) → l_Output_receive_16 j (nI p) c P (k + 1) T (nI m) (nI i) := by
  have hb32 : 27 + j < 32 := by omega
  have hcap : capB (27 + j) = 2000 := by
    have : j = 0 ∨ j = 1 := by omega
    rcases this with e | e <;> rw [e] <;> rfl
  have hm : memIs S (gM A.1 3) := h.1.2.2.1
  have hrn : rowNo (2 + j) = 27 + j := by unfold rowNo; rw [if_neg (by omega)]; omega
  intro k
  induction k with
  | zero =>
    intro i T hi o r
    have hi : i = m := by omega
    subst hi
    unfold l_Output_receive_16
    refine ⟨fun _ => ⟨hj, ?_⟩, fun c => absurd (nI_le (Nat.le_refl _) (by omega)) c⟩
    rintro S2 rfl
    have hT : RC (aRow A (2 + j) (A.2.1 (2 + j) ++ bytesOf (gM A.1 3) p i)) T := h.row (t := 2 + j) (by omega) (by rw [hrn]; exact o) (by rw [hrn]; exact r)
    have e7 : gM T 7 j = gM A.1 7 j := hT.1.2.2.2.1 j hj
    rw [e7]
    exact hP _ (hT.tot j _)
  | succ k ih =>
    intro i T hi o r
    unfold l_Output_receive_16
    refine ⟨fun c => ?_, fun _ => ⟨hj, ?_⟩⟩
    · rw [nI_leI (by omega) (by omega)] at c
      omega
    · have hmT : memIs T (gM A.1 3) := fun q hq => by
        rw [o.1 3 q (by omega)]; exact hm q hq
      refine s_byteAt hmT _ ⟨hb32, s_add r hb32 _ (fun T' o' r' => ?_)⟩
      rw [List.length_append, bytesOf_len, hcap, if_pos (by omega), nI_add, un_nI (by omega), if_pos (by omega), hm.and (by omega), List.append_assoc, ← bytesOf_succ] at r'
      rw [nI_1]
      exact ih (i + 1) T' (by omega) (o.tr o') r'
theorem s_receive {A : zA} {S : zS} (h : RC A S) {j : Nat} (hj : j < 2) {p n : Nat} (hp : p + n ≤ 16384) {P : zS → Prop} (hP : ∀ S', RC (prA A j (bytesOf (gM A.1 3) p n)) S' → P S') : w_Output_receive j (nI p) (nI n) S P := by
  have hb32 : 27 + j < 32 := by omega
  have hcap : capB (27 + j) = 2000 := by
    have : j = 0 ∨ j = 1 := by omega
    rcases this with e | e <;> rw [e] <;> rfl
  have hrn : rowNo (2 + j) = 27 + j := by unfold rowNo; rw [if_neg (by omega)]; omega
  have hr : rowIs S (27 + j) (A.2.1 (2 + j)) := by rw [← hrn]; exact h.2.1.1 (2 + j) (by omega)
  have hl := hr.2.1
  rw [hcap] at hl
  unfold w_Output_receive
  refine ⟨hj, hb32, s_spare hr hb32 ?_⟩
  rintro v5 rfl
  rw [hcap, mnI_nI (by omega) (by omega)]
  refine ⟨min n (2000 - (A.2.1 (2 + j)).length) + 1, s_recv_loop h hj (n := n) (p := p) (by omega) (by omega) (fun S' h' => hP S' ?_) (min n (2000 - (A.2.1 (2 + j)).length)) 0 S (by omega) (offRow.rf _ S) (by unfold bytesOf; rw [List.range_zero, List.map_nil, List.append_nil]; exact hr)⟩
  have e : (A.2.1 (2 + j) ++ bytesOf (gM A.1 3) p n).take 2000 = A.2.1 (2 + j) ++ bytesOf (gM A.1 3) p (min n (2000 - (A.2.1 (2 + j)).length)) := by
    rw [List.take_append, List.take_of_length_le hl]
    congr 1
    rcases Nat.le_total n (2000 - (A.2.1 (2 + j)).length) with z | z
    · rw [Nat.min_eq_left z, List.take_of_length_le (by rw [bytesOf_len]; exact z)]
    · rw [Nat.min_eq_right z, bytesOf_take _ _ z]
  unfold prA
  rw [e, bytesOf_len]
  exact h'
/-- bytes of a row come to the memory -/
theorem s_bb_loop {S : zS} {mm : Nat → Int32} {b : Nat} {l : List Int32} (hr : rowIs S b l) (hb : b < 32) {f p c : Nat} {x : Int32} (hf : f + c ≤ l.length) (hp : p + c ≤ 16384) {P : zS → Int32 → Prop} (hP : ∀ S', offMem S S' → memIs S' (mset mm p ((l.drop f).take c)) → P S' (nI c)) :
    ∀ (k i : Nat) (T : zS), k + i = c → offMem S T → memIs T (mset mm p ((l.drop f).take i)) → l_Host_bringBytes_20 b (nI f) (nI p) x P (k + 1) T (nI c) (nI i) := by
  have hlt := hr.lt
  intro k
  induction k with
  | zero =>
    intro i T hi o m
    have hi : i = c := by omega
    subst hi
    unfold l_Host_bringBytes_20
    exact ⟨fun _ => hP T o m, fun c => absurd (nI_le (Nat.le_refl _) (by omega)) c⟩
  | succ k ih =>
    intro i T hi o m
    have hil : f + i < l.length := by omega
    unfold l_Host_bringBytes_20
    refine ⟨fun c => ?_, fun _ => ⟨hb, s_at (o.row hr) hb _ ?_⟩⟩
    · rw [nI_leI (by omega) (by omega)] at c
      omega
    · rw [nI_add f i, atL_nI (by omega), List.getElem?_eq_getElem hil]
      show w_Memory_storeByte _ (l[f + i]) T _
      refine s_storeByte m _ _ (fun T' o' m' => ?_)
      rw [nI_add, un_nI (by omega), if_pos (by omega), hr.and hil] at m'
      have hl2 : i < (l.drop f).length := by rw [List.length_drop]; omega
      have e : mset (mset mm p ((l.drop f).take i)) (p + i) [l[f + i]] = mset mm p ((l.drop f).take (i + 1)) := by
        have := mset_snoc mm p ((l.drop f).take i) l[f + i]
        rw [List.length_take, Nat.min_eq_left (by omega)] at this
        rw [this]
        have e2 : l[f + i] = (l.drop f)[i] := by rw [List.getElem_drop]
        rw [e2, List.take_append_getElem hl2]
      rw [e] at m'
      rw [nI_1]
      exact ih (i + 1) T' (by omega) (o.tr o') m'
theorem mnI_neg {n c : Nat} {x : Int32} (hn : n < 2 ^ 31) (hx : x < 0) : mxI 0 (mnI (nI n) x) = 0 := by
  have h1 : x < nI n := by
    have := nI_toInt hn
    rw [Int32.lt_iff_toInt_lt] at *
    rw [Int32.toInt_zero] at hx
    omega
  have e : mnI (nI n) x = x := by unfold mnI; rw [if_pos h1]
  rw [e]
  unfold mxI
  rw [if_neg (fun z => by
    rw [Int32.lt_iff_toInt_lt] at *
    omega)]
theorem s_bringBytes {S : zS} {mm : Nat → Int32} {b : Nat} {l : List Int32} (hm : memIs S mm) (hr : rowIs S b l) (hb : b < 32) {f p n : Nat} (hf : f ≤ 2000) (hp : p + n ≤ 16384) {P : zS → Int32 → Prop} (hP : ∀ S', offMem S S' → memIs S' (mset mm p ((l.drop f).take n)) → P S' (nI (min n (l.length - f)))) : w_Host_bringBytes b (nI f) (nI p) (nI n) S P := by
  have hl := hr.2.1
  have hc := capB_le b
  unfold w_Host_bringBytes
  refine ⟨hb, s_size hr hb ?_⟩
  rintro v4 rfl
  have ev : mxI 0 (mnI (nI n) (nI l.length - nI f)) = nI (min n (l.length - f)) := by
    by_cases c : f ≤ l.length
    · rw [pk_sub c, mnI_nI (by omega) (by omega), mxI_0 (by omega)]
    · rw [mnI_neg (c := 0) (by omega) (pk_sneg (by omega) (by omega)), show l.length - f = 0 by omega, Nat.min_eq_right (Nat.zero_le _)]; rfl
  rw [ev]
  have et : (l.drop f).take n = (l.drop f).take (min n (l.length - f)) := by
    rcases Nat.le_total n (l.length - f) with z | z
    · rw [Nat.min_eq_left z]
    · rw [Nat.min_eq_right z, List.take_of_length_le (by rw [List.length_drop]; omega), List.take_of_length_le (by rw [List.length_drop]; omega)]
  rw [et] at hP
  generalize hcn : min n (l.length - f) = c at hP
  rcases Nat.eq_zero_or_pos c with z | z
  · subst z
    refine ⟨1, ?_⟩
    unfold l_Host_bringBytes_20
    exact ⟨fun _ => hP S (offMem.rf S) (by rw [List.take_zero, mset_nil]; exact hm), fun q => absurd (nI_le (Nat.le_refl _) (by omega)) q⟩
  · exact ⟨c + 1, s_bb_loop hr hb (by omega) (by omega) hP c 0 S (by omega) (offMem.rf S) (by rw [List.take_zero, mset_nil]; exact hm)⟩
