/-! pure: handles, desk, folder -/
theorem RC.tapeIs {A : zA} {S : zS} (h : RC A S) : rowIs S 0 (A.2.1 0) := h.2.1.1 0 (by decide)
theorem RC.cnt {A : zA} {S : zS} (h : RC A S) : gM S 0 10 = nI A.2.2.length := h.2.2.1.1
theorem RC.le12 {A : zA} {S : zS} (h : RC A S) : A.2.2.length ≤ 12 := h.2.2.1.2.1
theorem RC.fid {A : zA} {S : zS} (h : RC A S) {k : Nat} (hk : k < 12) : gF S k < 12 := h.2.2.1.2.2.1 k hk
theorem RC.finj {A : zA} {S : zS} (h : RC A S) {k q : Nat} (hk : k < 12) (hq : q < 12) (e : gF S k = gF S q) : k = q := h.2.2.1.2.2.2.1 k q hk hq e
theorem RC.frow {A : zA} {S : zS} (h : RC A S) {k : Nat} {f : List Int32 × List Int32} (hf : A.2.2[k]? = some f) : rowIs S (2 + 2 * gF S k) f.1 ∧ rowIs S (3 + 2 * gF S k) f.2 := h.2.2.1.2.2.2.2.1 k f hf
theorem RC.kind {A : zA} {S : zS} (h : RC A S) {i : Nat} (hi : i < 10) : gM S 4 i = gM A.1 4 i := h.2.2.2.1 i hi
theorem RC.hfile {A : zA} {S : zS} (h : RC A S) {i : Nat} (hi : i < 10) : gH S i = if gM A.1 4 i = 1 then (gH A.1 i).map (gF S) else none := h.2.2.2.2.2 i hi
/-- what always holds of the state between -/
def AI (A : zA) : Prop := (∀ h, h < 10 → gM A.1 4 h = 1 → ∃ q, gH A.1 h = some q ∧ q < A.2.2.length) ∧ (∀ h, h < 10 → ∃ k, k ≤ 4 ∧ gM A.1 4 h = nI k) ∧ (∀ h, h < 10 → gM A.1 4 h ≠ 0 → ∃ p, p ≤ 2000 ∧ gM A.1 5 h = nI p) ∧
  (∀ h, h < 10 → (gM A.1 4 h = 1 → gM A.1 6 h = 1 ∨ gM A.1 6 h = 2 ∨ gM A.1 6 h = 3 ∨ gM A.1 6 h = 6 ∨ gM A.1 6 h = 7) ∧ (gM A.1 4 h = 2 → gM A.1 6 h = 1) ∧ (gM A.1 4 h = 3 ∨ gM A.1 4 h = 4 → gM A.1 6 h = 2)) ∧
  (∀ (k q : Nat) (f g : List Int32 × List Int32), A.2.2[k]? = some f → A.2.2[q]? = some g → f.1 = g.1 → k = q) ∧ (∀ f ∈ A.2.2, 1 ≤ f.1.length ∧ f.1.length ≤ 24 ∧ ¬ (0 : Int32) ∈ f.1 ∧ f.2.length ≤ 2000) ∧
  gM A.1 2 0 = 0 ∧ (∃ s, s ≤ 2 ∧ gM A.1 0 2 = nI s) ∧ (¬ gM A.1 0 2 = 2 → gM A.1 0 3 = 0) ∧ (¬ gM A.1 0 2 = 1 → gM A.1 0 4 = 0)
/-- how many open handles have file k -/
def openA (A : zA) (k : Nat) : Nat → Nat
  | 0 => 0
  | n + 1 => openA A k n + (if gM A.1 4 n = 1 ∧ gH A.1 n = some k then 1 else 0)
theorem openA_le (A : zA) (k : Nat) : ∀ n, openA A k n ≤ n := by
  intro n
  induction n with
  | zero => exact Nat.le_refl _
  | succ n ih => unfold openA; split <;> omega
theorem s_openOn_loop {A : zA} {S : zS} (h : RC A S) (hI : AI A) {k : Nat} (hk : k < 12) {P : zS → Int32 → Prop} (hP : P S (nI (openA A k 10))) :
    ∀ (m i : Nat), m + i = 10 → l_Desk_openOn_4 (gF S k) P (m + 1) S (nI (openA A k i)) (nI i) := by
  intro m
  induction m with
  | zero =>
    intro i hi
    have hi : i = 10 := by omega
    subst hi
    unfold l_Desk_openOn_4
    exact ⟨fun _ => hP, fun c => absurd (show (10 : Int32) ≤ nI 10 by decide) c⟩
  | succ m ih =>
    intro i hi
    have hi10 : i < 10 := by omega
    unfold l_Desk_openOn_4
    refine ⟨fun c => ?_, fun _ => ?_⟩
    · rw [show (10 : Int32) = nI 10 from rfl, nI_leI (by decide) (by omega)] at c
      omega
    · have ec : (nI i).toNatClampNeg = i := nI_clamp (by omega)
      rw [ec]
      have nxt := ih (i + 1) (by omega)
      refine ⟨vp_in_nI hi10 (by decide), hi10, fun c => ?_, fun c => ?_⟩
      · rintro o3 rfl
        rw [h.kind hi10] at c
        obtain ⟨q, hq1, hq2⟩ := hI.1 i hi10 c
        have hq12 : q < 12 := Nat.lt_of_lt_of_le hq2 h.le12
        rw [h.hfile hi10, if_pos c, hq1]
        refine ⟨fun e => ?_, fun e => ?_⟩
        · have e2 : q = k := h.finj hq12 hk (Option.some.inj e)
          unfold j_Desk_openOn_39
          have e3 : openA A k (i + 1) = openA A k i + 1 := by
            show openA A k i + _ = _
            rw [if_pos ⟨c, by rw [hq1, e2]⟩]
          rw [e3] at nxt
          rw [nI_1, nI_1]
          exact nxt
        · unfold j_Desk_openOn_39
          have e3 : openA A k (i + 1) = openA A k i := by
            show openA A k i + _ = _
            rw [if_neg (fun z => e (by rw [hq1] at z; rw [Option.some.inj z.2]; rfl)), Nat.add_zero]
          rw [e3] at nxt
          rw [nI_1]
          exact nxt
      · rw [h.kind hi10] at c
        unfold j_Desk_openOn_39
        have e3 : openA A k (i + 1) = openA A k i := by
          show openA A k i + _ = _
          rw [if_neg (fun z => c z.1), Nat.add_zero]
        rw [e3] at nxt
        rw [nI_1]
        exact nxt
theorem s_openOn {A : zA} {S : zS} (h : RC A S) (hI : AI A) {k : Nat} (hk : k < 12) {P : zS → Int32 → Prop} (hP : P S (nI (openA A k 10))) : w_Desk_openOn (gF S k) S P := by
  unfold w_Desk_openOn
  exact ⟨11, s_openOn_loop h hI hk hP 10 0 rfl⟩
/-- the handle of a number, from 0 on -/
def hnd (h : Int32) : Option Nat := if 1 ≤ un h ∧ un h ≤ 10 then some (un h - 1) else none
theorem s_Desk_get {S : zS} (h : Int32) {P : zS → Option Nat → Prop} (hP : P S (hnd h)) : w_Desk_get h S P := by
  unfold w_Desk_get
  unfold hnd at hP
  by_cases hn : h < 0
  · have hl : h < (1 : Int32) := by
      rw [Int32.lt_iff_toInt_lt] at *
      have : (1 : Int32).toInt = 1 := rfl
      rw [Int32.toInt_zero] at hn
      omega
    rw [neg_iff] at hn
    rw [if_neg (by omega)] at hP
    exact ⟨fun _ => hP, fun c => absurd hl c⟩
  · obtain ⟨e, hl⟩ := un_pos hn
    generalize un h = n at *
    subst e
    refine ⟨fun c => ?_, fun c => ⟨fun c2 => ?_, fun c2 => ?_⟩⟩
    · rw [show (1 : Int32) = nI 1 from rfl, nI_ltI hl (by decide)] at c
      rw [if_neg (by omega)] at hP; exact hP
    · rw [show (10 : Int32) = nI 10 from rfl, nI_ltI (by decide) hl] at c2
      rw [if_neg (by omega)] at hP; exact hP
    · rw [show (1 : Int32) = nI 1 from rfl, nI_ltI hl (by decide)] at c
      rw [show (10 : Int32) = nI 10 from rfl, nI_ltI (by decide) hl] at c2
      rw [if_pos (by omega)] at hP
      rw [show (1 : Int32) = nI 1 from rfl, pk_sub (by omega), nI_clamp (by omega)]
      exact ⟨vp_in_nI (by omega) (by decide), hP⟩
theorem hnd_lt {h : Int32} {k : Nat} (e : hnd h = some k) : k < 10 := by
  unfold hnd at e
  split at e
  · cases e; omega
  · cases e
/-- the open handle of a number -/
def hopen (A : zA) (h : Int32) : Option Nat := (hnd h).bind (fun k => if gM A.1 4 k = 0 then none else some k)
theorem hopen_spec {A : zA} {h : Int32} {k : Nat} (e : hopen A h = some k) : k < 10 ∧ ¬ gM A.1 4 k = 0 := by
  unfold hopen at e
  cases hh : hnd h with
  | none => rw [hh] at e; cases e
  | some q =>
    rw [hh] at e
    simp only [Option.bind_some] at e
    split at e
    · cases e
    · cases e
      exact ⟨hnd_lt hh, by assumption⟩
theorem s_getOpen {A : zA} {S : zS} (hR : RC A S) (h : Int32) {P : zS → Option Nat → Prop} (hP : P S (hopen A h)) : w_Desk_getOpen h S P := by
  unfold w_Desk_getOpen
  apply s_Desk_get
  refine ⟨fun e => ?_, fun k e => ?_⟩
  · unfold hopen at hP; rw [e] at hP; exact hP
  · have hk := hnd_lt e
    unfold hopen at hP
    rw [e] at hP
    simp only [Option.bind_some] at hP
    refine ⟨hk, fun c => ?_, fun c => ?_⟩
    · rw [hR.kind hk] at c; rw [if_pos c] at hP; exact hP
    · rw [hR.kind hk] at c; rw [if_neg c] at hP; exact hP
/-- the least handle that is not open, from 0 on -/
def leastA (A : zA) : Option Nat := (List.range 10).find? (fun h => gM A.1 4 h == 0)
theorem s_leastShut_loop {A : zA} {S : zS} (h : RC A S) {P : zS → Int32 → Prop} (hP : P S (match leastA A with | some k => nI (k + 1) | none => -1)) :
    ∀ (m i : Nat), m + i = 10 → (∀ q, q < i → ¬ gM A.1 4 q = 0) → l_Desk_leastShut_2 P (m + 1) S (nI i) := by
  intro m
  induction m with
  | zero =>
    intro i hi hq
    have hi : i = 10 := by omega
    subst hi
    unfold l_Desk_leastShut_2
    refine ⟨fun _ => ?_, fun c => absurd (show (10 : Int32) ≤ nI 10 by decide) c⟩
    have : leastA A = none := by
      unfold leastA
      rw [List.find?_range_eq_none]
      intro j hj
      simp [hq j hj]
    rw [this] at hP; exact hP
  | succ m ih =>
    intro i hi hq
    have hi10 : i < 10 := by omega
    unfold l_Desk_leastShut_2
    have ec : (nI i).toNatClampNeg = i := nI_clamp (by omega)
    rw [ec]
    refine ⟨fun c => ?_, fun _ => ⟨vp_in_nI hi10 (by decide), hi10, fun c => ?_, fun c => ?_⟩⟩
    · rw [show (10 : Int32) = nI 10 from rfl, nI_leI (by decide) (by omega)] at c
      omega
    · rw [h.kind hi10] at c
      have : leastA A = some i := by
        unfold leastA
        rw [List.find?_range_eq_some]
        exact ⟨by simp [c], List.mem_range.mpr hi10, fun j hj => by simp [hq j hj]⟩
      rw [this] at hP
      rw [nI_1]; exact hP
    · rw [h.kind hi10] at c
      rw [nI_1]
      exact ih (i + 1) (by omega) (fun q hq9 => by
        by_cases e : q = i
        · subst e; exact c
        · exact hq q (by omega))
theorem s_leastShut {A : zA} {S : zS} (h : RC A S) {P : zS → Int32 → Prop} (hP : P S (match leastA A with | some k => nI (k + 1) | none => -1)) : w_Desk_leastShut S P := by
  unfold w_Desk_leastShut
  exact ⟨11, s_leastShut_loop h hP 10 0 rfl (fun q hq => by omega)⟩
theorem leastA_spec {A : zA} {k : Nat} (e : leastA A = some k) : k < 10 ∧ gM A.1 4 k = 0 := by
  unfold leastA at e
  have h1 := List.find?_some e
  have h2 := List.mem_of_find?_eq_some e
  exact ⟨List.mem_range.mp h2, by simpa using h1⟩
