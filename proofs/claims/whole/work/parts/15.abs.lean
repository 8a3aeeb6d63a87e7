/-! pure: the state between class and reference: numbers, rows of bytes (0 tape, 1 IN, 2 OUT, 3 ERR, 4 COMMAND), files (name, bytes) -/
abbrev zA : Type := zS × (Nat → List Int32) × List (List Int32 × List Int32)
def aM (A : zA) (c i : Nat) (v : Int32) : zA := (sM A.1 c i v, A.2)
def aMem (A : zA) (mm : Nat → Int32) : zA := ((fun c i => if c = 3 then mm i else A.1.1 c i, A.1.2), A.2)
def aRow (A : zA) (t : Nat) (l : List Int32) : zA := (A.1, fun s => if s = t then l else A.2.1 s, A.2.2)
def aFiles (A : zA) (fs : List (List Int32 × List Int32)) : zA := (A.1, A.2.1, fs)
def aH (A : zA) (h : Nat) (v : Option Nat) : zA := (sH A.1 h v, A.2)
def aJ (A : zA) (v : Int64) : zA := (sJ A.1 v, A.2)
/-- which scalars are told -/
def scOk (i : Nat) : Prop := i = 0 ∨ i = 2 ∨ i = 3 ∨ i = 4 ∨ i = 6 ∨ i = 7 ∨ i = 8 ∨ i = 9
/-- the class's row of a told row -/
def rowNo (t : Nat) : Nat := if t = 0 then 0 else 25 + t
def RCn (A : zA) (S : zS) : Prop := (∀ i, scOk i → gM S 0 i = gM A.1 0 i) ∧ (∀ r, r < 32 → gM S 2 r = gM A.1 2 r) ∧ memIs S (gM A.1 3) ∧ (∀ j, j < 2 → gM S 7 j = gM A.1 7 j) ∧ gJ S = gJ A.1
def RCr (A : zA) (S : zS) : Prop := (∀ t, t < 5 → rowIs S (rowNo t) (A.2.1 t)) ∧ (∃ l, rowIs S 1 l) ∧ (∃ l, rowIs S 30 l) ∧ ∃ l, rowIs S 31 l
def RCf (A : zA) (S : zS) : Prop := gM S 0 10 = nI A.2.2.length ∧ A.2.2.length ≤ 12 ∧ (∀ k, k < 12 → gF S k < 12) ∧ (∀ k q, k < 12 → q < 12 → gF S k = gF S q → k = q) ∧ (∀ k f, A.2.2[k]? = some f → rowIs S (2 + 2 * gF S k) f.1 ∧ rowIs S (3 + 2 * gF S k) f.2) ∧ ∀ k, k < 12 → (∃ l, rowIs S (2 + 2 * k) l) ∧ ∃ l, rowIs S (3 + 2 * k) l
def RCh (A : zA) (S : zS) : Prop := (∀ h, h < 10 → gM S 4 h = gM A.1 4 h) ∧ (∀ h, h < 10 → gM A.1 4 h ≠ 0 → gM S 5 h = gM A.1 5 h ∧ gM S 6 h = gM A.1 6 h) ∧ ∀ h, h < 10 → gH S h = if gM A.1 4 h = 1 then (gH A.1 h).map (gF S) else none
/-- the class's numbers S stand for A -/
def RC (A : zA) (S : zS) : Prop := RCn A S ∧ RCr A S ∧ RCf A S ∧ RCh A S
theorem gF_of {S T : zS} (h : T.2.2 = S.2.2) (i : Nat) : gF T i = gF S i := by unfold gF; rw [h]
theorem gH_of {S T : zS} (h : T.2.2 = S.2.2) (i : Nat) : gH T i = gH S i := by unfold gH; rw [h]
theorem gJ_of {S T : zS} (h : T.2.2 = S.2.2) : gJ T = gJ S := by unfold gJ; rw [h]
theorem gR_of {S T : zS} (h : T.2 = S.2) (b i : Nat) : gR T b i = gR S b i := by unfold gR; rw [h]
theorem off2 {S T : zS} (h : T.2 = S.2) : T.2.2 = S.2.2 := by rw [h]
theorem rowIs_of {S T : zS} (h2 : T.2 = S.2) {b : Nat} {l : List Int32} (h1 : gM T 8 b = gM S 8 b) (hr : rowIs S b l) : rowIs T b l := by
  obtain ⟨a1, a2, a3⟩ := hr
  exact ⟨h1.trans a1, a2, fun i hi => by rw [gR_of h2]; exact a3 i hi⟩
/-- numbers that change neither rows, files nor handles -/
theorem RC.nums {A A' : zA} {S S' : zS} (h : RC A S) (hA : A'.2 = A.2) (h2 : S'.2.2 = S.2.2) (h8 : ∀ b, gM S' 8 b = gM S 8 b) (hR : ∀ b i, gR S' b i = gR S b i) (h10 : gM S' 0 10 = gM S 0 10)
    (k4 : ∀ i, i < 10 → gM S' 4 i = gM S 4 i ∧ gM S' 5 i = gM S 5 i ∧ gM S' 6 i = gM S 6 i) (q4 : ∀ i, i < 10 → gM A'.1 4 i = gM A.1 4 i ∧ gM A'.1 5 i = gM A.1 5 i ∧ gM A'.1 6 i = gM A.1 6 i ∧ gH A'.1 i = gH A.1 i) (hn : RCn A' S') : RC A' S' := by
  have hrow : ∀ b l, rowIs S b l → rowIs S' b l := fun b l hr => ⟨(h8 b).trans hr.1, hr.2.1, fun i hi => by rw [hR]; exact hr.2.2 i hi⟩
  obtain ⟨-, ⟨r1, ⟨l1, r2⟩, ⟨l2, r3⟩, l3, r4⟩, ⟨f1, f2, f3, f4, f5, f6⟩, g1, g2, g3⟩ := h
  refine ⟨hn, ⟨fun t ht => ?_, ⟨l1, hrow _ _ r2⟩, ⟨l2, hrow _ _ r3⟩, l3, hrow _ _ r4⟩, ⟨?_, by rw [hA]; exact f2, fun k hk => ?_, fun k q hk hq e => ?_, fun k f hf => ?_, fun k hk => ?_⟩, fun i hi => ?_, fun i hi hne => ?_, fun i hi => ?_⟩
  · rw [hA]; exact hrow _ _ (r1 t ht)
  · rw [h10, hA]; exact f1
  · rw [gF_of h2]; exact f3 k hk
  · rw [gF_of h2, gF_of h2] at e; exact f4 k q hk hq e
  · rw [hA] at hf; rw [gF_of h2]; exact ⟨hrow _ _ (f5 k f hf).1, hrow _ _ (f5 k f hf).2⟩
  · obtain ⟨⟨l, hl⟩, l', hl'⟩ := f6 k hk
    exact ⟨⟨l, hrow _ _ hl⟩, l', hrow _ _ hl'⟩
  · rw [(k4 i hi).1, (q4 i hi).1]; exact g1 i hi
  · rw [(q4 i hi).1] at hne
    rw [(k4 i hi).2.1, (k4 i hi).2.2, (q4 i hi).2.1, (q4 i hi).2.2.1]; exact g2 i hi hne
  · rw [gH_of h2, g3 i hi, (q4 i hi).1, (q4 i hi).2.2.2]
    have : gF S' = gF S := by funext q; exact gF_of h2 q
    rw [this]
theorem RC.mem {A : zA} {S S' : zS} {mm : Nat → Int32} (h : RC A S) (o : offMem S S') (hm : memIs S' mm) : RC (aMem A mm) S' := by
  refine h.nums rfl (off2 o.2) (fun b => o.1 8 b (by decide)) (fun b i => gR_of o.2 b i) (o.1 0 10 (by decide)) (fun i _ => ⟨o.1 4 i (by decide), o.1 5 i (by decide), o.1 6 i (by decide)⟩) (fun i _ => ⟨rfl, rfl, rfl, rfl⟩) ?_
  obtain ⟨n1, n2, n3, n4, n5⟩ := h.1
  exact ⟨fun i hi => (o.1 0 i (by decide)).trans (n1 i hi), fun r hr => (o.1 2 r (by decide)).trans (n2 r hr), hm, fun j hj => (o.1 7 j (by decide)).trans (n4 j hj), (gJ_of (off2 o.2)).trans n5⟩
theorem gM_aM (A : zA) (c i : Nat) (v : Int32) (c' i' : Nat) : gM (aM A c i v).1 c' i' = if c' = c then (if i' = i then v else gM A.1 c' i') else gM A.1 c' i' := rfl
/-- a told scalar -/
theorem RC.sc {A : zA} {S : zS} (h : RC A S) {i : Nat} (hi : i ≠ 10) (v : Int32) : RC (aM A 0 i v) (sM S 0 i v) := by
  refine h.nums rfl rfl (fun b => rfl) (fun b j => rfl) ?_ (fun j _ => ⟨rfl, rfl, rfl⟩) (fun j _ => ⟨rfl, rfl, rfl, rfl⟩) ?_
  · rw [gM_sM, if_pos rfl, if_neg (fun e => hi e.symm)]
  · obtain ⟨n1, n2, n3, n4, n5⟩ := h.1
    refine ⟨fun j hj => ?_, fun r hr => n2 r hr, fun q hq => n3 q hq, fun j hj => n4 j hj, n5⟩
    rw [gM_sM, gM_aM, if_pos rfl, if_pos rfl, n1 j hj]
/-- a scalar of the class's own -/
theorem RC.sc0 {A : zA} {S : zS} (h : RC A S) {i : Nat} (hi : i = 1 ∨ i = 5) (v : Int32) : RC A (sM S 0 i v) := by
  refine h.nums rfl rfl (fun b => rfl) (fun b j => rfl) ?_ (fun j _ => ⟨rfl, rfl, rfl⟩) (fun j _ => ⟨rfl, rfl, rfl, rfl⟩) ?_
  · rw [gM_sM, if_pos rfl, if_neg (by omega)]
  · obtain ⟨n1, n2, n3, n4, n5⟩ := h.1
    refine ⟨fun j hj => ?_, fun r hr => n2 r hr, fun q hq => n3 q hq, fun j hj => n4 j hj, n5⟩
    have : j ≠ i := by unfold scOk at hj; omega
    rw [gM_sM, if_pos rfl, if_neg this, n1 j hj]
/-- the feeding row is the class's own -/
theorem RC.fed {A : zA} {S : zS} (h : RC A S) (i : Nat) (v : Int32) : RC A (sM S 1 i v) := by
  refine h.nums rfl rfl (fun b => rfl) (fun b j => rfl) rfl (fun j _ => ⟨rfl, rfl, rfl⟩) (fun j _ => ⟨rfl, rfl, rfl, rfl⟩) ?_
  obtain ⟨n1, n2, n3, n4, n5⟩ := h.1
  exact ⟨fun j hj => n1 j hj, fun r hr => n2 r hr, fun q hq => n3 q hq, fun j hj => n4 j hj, n5⟩
theorem RC.reg {A : zA} {S : zS} (h : RC A S) (r : Nat) (v : Int32) : RC (aM A 2 r v) (sM S 2 r v) := by
  refine h.nums rfl rfl (fun b => rfl) (fun b j => rfl) rfl (fun j _ => ⟨rfl, rfl, rfl⟩) (fun j _ => ⟨rfl, rfl, rfl, rfl⟩) ?_
  obtain ⟨n1, n2, n3, n4, n5⟩ := h.1
  refine ⟨fun j hj => n1 j hj, fun q hq => ?_, fun q hq => n3 q hq, fun j hj => n4 j hj, n5⟩
  rw [gM_sM, gM_aM, if_pos rfl, if_pos rfl, n2 q hq]
theorem RC.tot {A : zA} {S : zS} (h : RC A S) (j : Nat) (v : Int32) : RC (aM A 7 j v) (sM S 7 j v) := by
  refine h.nums rfl rfl (fun b => rfl) (fun b j => rfl) rfl (fun j _ => ⟨rfl, rfl, rfl⟩) (fun j _ => ⟨rfl, rfl, rfl, rfl⟩) ?_
  obtain ⟨n1, n2, n3, n4, n5⟩ := h.1
  refine ⟨fun j hj => n1 j hj, fun q hq => n2 q hq, fun q hq => n3 q hq, fun q hq => ?_, n5⟩
  rw [gM_sM, gM_aM, if_pos rfl, if_pos rfl, n4 q hq]
theorem RC.steps {A : zA} {S : zS} (h : RC A S) (v : Int64) : RC (aJ A v) (sJ S v) := by
  obtain ⟨⟨n1, n2, n3, n4, n5⟩, ⟨r1, ⟨l1, r2⟩, ⟨l2, r3⟩, l3, r4⟩, f, g⟩ := h
  exact ⟨⟨fun j hj => n1 j hj, fun r hr => n2 r hr, fun q hq => n3 q hq, fun j hj => n4 j hj, rfl⟩, ⟨r1, ⟨l1, r2⟩, ⟨l2, r3⟩, l3, r4⟩, f, g⟩
/-- a told row changes -/
theorem rowNo_ne {t s : Nat} (ht : t < 5) (hs : s < 5) (h : t ≠ s) : rowNo t ≠ rowNo s := by unfold rowNo; split <;> split <;> omega
theorem RC.offr {A A' : zA} {S S' : zS} {b : Nat} (h : RC A S) (hb : b < 2 ∨ 26 ≤ b) (o : offRow b S S') (hA : A'.1 = A.1 ∧ A'.2.2 = A.2.2) (hr : RCr A' S') : RC A' S' := by
  obtain ⟨⟨n1, n2, n3, n4, n5⟩, -, ⟨f1, f2, f3, f4, f5, f6⟩, g1, g2, g3⟩ := h
  obtain ⟨o1, o2, o3⟩ := o
  have w : ∀ c i, c ≠ 8 → gM S' c i = gM S c i := fun c i hc => o1 c i (fun q => hc q.1)
  have row : ∀ b' l, b' ≠ b → rowIs S b' l → rowIs S' b' l := fun b' l hb' hr => offRow.row ⟨o1, o2, o3⟩ hb' hr
  refine ⟨⟨fun i hi => ?_, fun r hr => ?_, fun q hq => ?_, fun j hj => ?_, ?_⟩, hr, ⟨?_, ?_, fun k hk => ?_, fun k q hk hq e => ?_, fun k f hf => ?_, fun k hk => ?_⟩, fun i hi => ?_, fun i hi hne => ?_, fun i hi => ?_⟩
  · rw [w 0 i (by decide), hA.1]; exact n1 i hi
  · rw [w 2 r (by decide), hA.1]; exact n2 r hr
  · rw [w 3 q (by decide), hA.1]; exact n3 q hq
  · rw [w 7 j (by decide), hA.1]; exact n4 j hj
  · rw [gJ_of o3, hA.1]; exact n5
  · rw [w 0 10 (by decide), hA.2]; exact f1
  · rw [hA.2]; exact f2
  · rw [gF_of o3]; exact f3 k hk
  · rw [gF_of o3, gF_of o3] at e; exact f4 k q hk hq e
  · rw [hA.2] at hf
    rw [gF_of o3]
    have hk : k < 12 := Nat.lt_of_lt_of_le (List.getElem?_eq_some_iff.mp hf).1 f2
    have := f3 k hk
    exact ⟨row _ _ (by omega) (f5 k f hf).1, row _ _ (by omega) (f5 k f hf).2⟩
  · obtain ⟨⟨l, hl⟩, l', hl'⟩ := f6 k hk
    exact ⟨⟨l, row _ _ (by omega) hl⟩, l', row _ _ (by omega) hl'⟩
  · rw [w 4 i (by decide), hA.1]; exact g1 i hi
  · rw [hA.1] at hne
    rw [w 5 i (by decide), w 6 i (by decide), hA.1]; exact g2 i hi hne
  · rw [gH_of o3, g3 i hi, hA.1]
    have : gF S' = gF S := by funext q; exact gF_of o3 q
    rw [this]
theorem RC.row {A : zA} {S S' : zS} {t : Nat} {l : List Int32} (h : RC A S) (ht : t < 5) (o : offRow (rowNo t) S S') (hr : rowIs S' (rowNo t) l) : RC (aRow A t l) S' := by
  have hb : rowNo t < 2 ∨ 26 ≤ rowNo t := by unfold rowNo; split <;> omega
  refine h.offr hb o ⟨rfl, rfl⟩ ?_
  obtain ⟨-, ⟨r1, ⟨l1, r2⟩, ⟨l2, r3⟩, l3, r4⟩, -, -⟩ := h
  have n1 : 1 ≠ rowNo t ∧ 30 ≠ rowNo t ∧ 31 ≠ rowNo t := by unfold rowNo; split <;> omega
  refine ⟨fun s hs => ?_, ⟨l1, o.row n1.1 r2⟩, ⟨l2, o.row n1.2.1 r3⟩, l3, o.row n1.2.2 r4⟩
  by_cases e : s = t
  · subst e
    show rowIs S' (rowNo s) (if s = s then l else _)
    rw [if_pos rfl]; exact hr
  · show rowIs S' (rowNo s) (if s = t then l else A.2.1 s)
    rw [if_neg e]; exact o.row (rowNo_ne hs ht e) (r1 s hs)
/-- a row of the class's own changes -/
theorem RC.own {A : zA} {S S' : zS} {b : Nat} {l : List Int32} (h : RC A S) (hb : b = 1 ∨ b = 30 ∨ b = 31) (o : offRow b S S') (hr : rowIs S' b l) : RC A S' := by
  refine h.offr (by omega) o ⟨rfl, rfl⟩ ?_
  obtain ⟨-, ⟨r1, ⟨l1, r2⟩, ⟨l2, r3⟩, l3, r4⟩, -, -⟩ := h
  have key : ∀ c l', rowIs S c l' → ∃ m, rowIs S' c m := fun c l' hc => by
    by_cases e : c = b
    · subst e; exact ⟨l, hr⟩
    · exact ⟨l', o.row e hc⟩
  refine ⟨fun t ht => o.row ?_ (r1 t ht), key 1 l1 r2, key 30 l2 r3, key 31 l3 r4⟩
  unfold rowNo; split <;> omega
