/-! pure: rows of bytes as lists of numbers 0 to 255 -/
/-- a byte as it lies in a byte array -/
def byteOk (x : Int32) : Prop := x.toInt8.toInt32 = x
theorem byteOk_nar (x : Int32) : byteOk (vp_nar .byte x) := by
  unfold byteOk; rw [vp_nar_byte]; simp
theorem nar_and (x : Int32) : vp_nar .byte x &&& 255 = x &&& 255 := by rw [vp_nar_byte]; exact bp_b x
theorem byte_ext {x y : Int32} (hx : byteOk x) (hy : byteOk y) (h : x &&& 255 = y &&& 255) : x = y := by
  have e : ∀ z : Int32, z.toInt8 = (z &&& 255).toInt8 := by
    intro z
    apply Int8.toBitVec_inj.mp
    simp only [Int32.toBitVec_toInt8, Int32.toBitVec_and]
    apply BitVec.eq_of_getLsbD_eq
    intro i hi
    have h8 : i < 8 := hi
    have hm : (255 : Int32).toBitVec.getLsbD i = true := by
      have : ∀ k, k < 8 → (255 : Int32).toBitVec.getLsbD k = true := by decide
      exact this i h8
    have h9 : (255#8).getLsbD i = true := (by decide : ∀ k, k < 8 → (255#8).getLsbD k = true) i h8
    simp [BitVec.getLsbD_setWidth, BitVec.getLsbD_and, hm, h9]
  have : x.toInt8 = y.toInt8 := by rw [e x, e y, h]
  rw [← hx, ← hy, this]
theorem byte_zero {x : Int32} (hx : byteOk x) : x = 0 ↔ x &&& 255 = 0 := by
  constructor
  · intro h; rw [h]; decide
  · intro h; exact byte_ext hx (by unfold byteOk; decide) (h.trans (by decide))
theorem capB_le (b : Nat) : capB b ≤ 2100 := by
  unfold capB
  repeat' split
  all_goals omega
/-- row b of the class holds the bytes l -/
def rowIs (S : zS) (b : Nat) (l : List Int32) : Prop := gM S 8 b = nI l.length ∧ l.length ≤ capB b ∧ ∀ i, i < l.length → byteOk (gR S b i) ∧ l[i]? = some (gR S b i &&& 255)
theorem rowIs.lt {S : zS} {b : Nat} {l : List Int32} (h : rowIs S b l) : l.length < 2 ^ 31 := by
  have := h.2.1; have := capB_le b; omega
/-- S' is S but for row b -/
def offRow (b : Nat) (S S' : zS) : Prop := (∀ c i, ¬ (c = 8 ∧ i = b) → gM S' c i = gM S c i) ∧ (∀ b' i, b' ≠ b → gR S' b' i = gR S b' i) ∧ S'.2.2 = S.2.2
theorem offRow.rf (b : Nat) (S : zS) : offRow b S S := ⟨fun _ _ _ => rfl, fun _ _ _ => rfl, rfl⟩
theorem offRow.tr {b : Nat} {S T U : zS} (h : offRow b S T) (k : offRow b T U) : offRow b S U := ⟨fun c i q => (k.1 c i q).trans (h.1 c i q), fun c i q => (k.2.1 c i q).trans (h.2.1 c i q), k.2.2.trans h.2.2⟩
theorem offRow.row {b b' : Nat} {S T : zS} {l : List Int32} (h : offRow b S T) (hb : b' ≠ b) (hr : rowIs S b' l) : rowIs T b' l := by
  obtain ⟨h1, h2, h3⟩ := hr
  exact ⟨(h.1 8 b' (fun q => hb q.2)).trans h1, h2, fun i hi => by rw [h.2.1 b' i hb]; exact h3 i hi⟩
theorem gM_sM (S : zS) (c i : Nat) (v : Int32) (c' i' : Nat) : gM (sM S c i v) c' i' = if c' = c then (if i' = i then v else gM S c' i') else gM S c' i' := rfl
theorem gR_sM (S : zS) (c i : Nat) (v : Int32) (b j : Nat) : gR (sM S c i v) b j = gR S b j := rfl
theorem gM_sR (S : zS) (c i : Nat) (v : Int32) (b j : Nat) : gM (sR S c i v) b j = gM S b j := rfl
theorem gR_sR (S : zS) (c i : Nat) (v : Int32) (c' i' : Nat) : gR (sR S c i v) c' i' = if c' = c then (if i' = i then v else gR S c' i') else gR S c' i' := rfl
theorem offRow.size (b : Nat) (S : zS) (v : Int32) : offRow b S (sM S 8 b v) := by
  refine ⟨fun c i q => ?_, fun _ _ _ => rfl, rfl⟩
  rw [gM_sM]
  by_cases h1 : c = 8
  · by_cases h2 : i = b
    · exact absurd ⟨h1, h2⟩ q
    · simp [h1, h2]
  · simp [h1]
theorem offRow.cell (b i : Nat) (S : zS) (v : Int32) : offRow b S (sR S b i v) := by
  refine ⟨fun _ _ _ => rfl, fun c j q => ?_, rfl⟩
  rw [gR_sR, if_neg q]
theorem in_cap {i b : Nat} (h : i < capB b) : vp_in (nI i) (capB b) := vp_in_nI h (by have := capB_le b; omega)
theorem s_size {S : zS} {b : Nat} {l : List Int32} (hr : rowIs S b l) (hb : b < 32) {P : zS → Int32 → Prop} (h : P S (nI l.length)) : w_Bytes_size b S P := by
  unfold w_Bytes_size
  refine ⟨hb, ?_⟩
  rw [hr.1]; exact h
theorem s_spare {S : zS} {b : Nat} {l : List Int32} (hr : rowIs S b l) (hb : b < 32) {P : zS → Int32 → Prop} (h : P S (nI (capB b - l.length))) : w_Bytes_spare b S P := by
  unfold w_Bytes_spare
  refine ⟨hb, ?_⟩
  rw [hr.1]
  have : Int32.ofNat (capB b) - nI l.length = nI (capB b - l.length) := pk_sub hr.2.1
  rw [this]; exact h
/-- element i of a row, -1 if there is none such -/
def atL (l : List Int32) (i : Int32) : Int32 := if i < 0 then -1 else (l[i.toNatClampNeg]?).getD (-1)
theorem atL_nI {l : List Int32} {i : Nat} (h : i < 2 ^ 31) : atL l (nI i) = (l[i]?).getD (-1) := by
  unfold atL
  rw [if_neg (nI_pos h), nI_clamp h]
theorem s_at {S : zS} {b : Nat} {l : List Int32} (hr : rowIs S b l) (hb : b < 32) (i : Int32) {P : zS → Int32 → Prop} (h : P S (atL l i)) : w_Bytes_at b i S P := by
  unfold w_Bytes_at
  refine ⟨fun c => ?_, fun c => ⟨hb, fun c2 => ?_, fun c2 => ?_⟩⟩
  · have : atL l i = -1 := by unfold atL; rw [if_pos c]
    rw [this] at h; exact h
  · obtain ⟨j, hj, rfl⟩ := nI_of c
    rw [hr.1, nI_leI hr.lt hj] at c2
    rw [atL_nI hj, List.getElem?_eq_none c2] at h
    exact h
  · obtain ⟨j, hj, rfl⟩ := nI_of c
    rw [hr.1, nI_leI hr.lt hj] at c2
    have hlt : j < l.length := by omega
    refine ⟨in_cap (Nat.lt_of_lt_of_le hlt hr.2.1), ?_⟩
    rw [atL_nI hj, (hr.2.2 j hlt).2] at h
    rw [nI_clamp hj]
    exact h
theorem rowIs.push {S : zS} {b : Nat} {l : List Int32} (hr : rowIs S b l) (hl : l.length < capB b) (v : Int32) : rowIs (sM (sR S b l.length (vp_nar .byte v)) 8 b (nI (l.length + 1))) b (l ++ [v &&& 255]) := by
  refine ⟨?_, by simp; omega, fun i hi => ?_⟩
  · rw [gM_sM]; simp
  · rw [gR_sM, gR_sR, if_pos rfl]
    simp only [List.length_append, List.length_singleton] at hi
    by_cases q : i = l.length
    · subst q
      rw [if_pos rfl]
      exact ⟨byteOk_nar v, by rw [nar_and]; simp⟩
    · rw [if_neg q]
      have hi2 : i < l.length := by omega
      exact ⟨(hr.2.2 i hi2).1, by rw [List.getElem?_append_left hi2]; exact (hr.2.2 i hi2).2⟩
theorem s_add {S : zS} {b : Nat} {l : List Int32} (hr : rowIs S b l) (hb : b < 32) (v : Int32) {P : zS → Prop} (h : ∀ S', offRow b S S' → rowIs S' b (if l.length < capB b then l ++ [v &&& 255] else l) → P S') : w_Bytes_add b v S P := by
  have hc := capB_le b
  unfold w_Bytes_add
  refine ⟨hb, fun c => ?_, fun c => ?_⟩
  · rw [hr.1] at c
    have c' : ¬ l.length < capB b := by
      have : nI (capB b) ≤ nI l.length := c
      rw [nI_leI (by omega) hr.lt] at this; omega
    exact h S (offRow.rf b S) (by rw [if_neg c']; exact hr)
  · rw [hr.1] at c
    have c' : l.length < capB b := by
      rcases Nat.lt_or_ge l.length (capB b) with q | q
      · exact q
      · exact absurd (show nI (capB b) ≤ nI l.length from nI_le q hr.lt) c
    rw [hr.1]
    refine ⟨in_cap c', ?_⟩
    rintro S1 rfl S2 rfl
    have e : (nI l.length).toNatClampNeg = l.length := nI_clamp hr.lt
    have hp := hr.push c' v.toInt8.toInt32
    have e2 : v.toInt8.toInt32 &&& 255 = v &&& 255 := bp_b v
    rw [e2] at hp
    refine h _ ?_ ?_
    · rw [e]; exact (offRow.cell b l.length S _).tr (offRow.size b _ _)
    · rw [if_pos c', e, gM_sR, hr.1, nI_1]; exact hp

theorem s_change {S : zS} {b : Nat} {l : List Int32} (hr : rowIs S b l) (hb : b < 32) {i : Nat} (hi : i < l.length) (v : Int32) {P : zS → Prop} (h : ∀ S', offRow b S S' → rowIs S' b (l.set i (v &&& 255)) → P S') : w_Bytes_change b (nI i) v S P := by
  have hlt := hr.lt
  have hi31 : i < 2 ^ 31 := by omega
  unfold w_Bytes_change
  refine ⟨fun c => absurd c (nI_pos hi31), fun _ => ⟨hb, fun c => ?_, fun c => ?_⟩⟩
  · rw [hr.1, nI_leI hlt hi31] at c
    omega
  · refine ⟨in_cap (Nat.lt_of_lt_of_le hi hr.2.1), ?_⟩
    rintro S1 rfl
    rw [nI_clamp hi31]
    refine h _ (offRow.cell b i S _) ⟨?_, by rw [List.length_set]; exact hr.2.1, fun k hk => ?_⟩
    · rw [gM_sR, List.length_set]; exact hr.1
    · rw [List.length_set] at hk
      rw [gR_sR, if_pos rfl]
      by_cases q : k = i
      · subst q
        rw [if_pos rfl]
        have e : v.toInt8.toInt32 &&& 255 = v &&& 255 := bp_b v
        exact ⟨byteOk_nar _, by rw [nar_and, e, List.getElem?_set_self hk]⟩
      · rw [if_neg q]
        exact ⟨(hr.2.2 k hk).1, by rw [List.getElem?_set_ne (Ne.symm q)]; exact (hr.2.2 k hk).2⟩
theorem rowIs.take {S : zS} {b : Nat} {l : List Int32} (hr : rowIs S b l) {n : Nat} (hn : n ≤ l.length) : rowIs (sM S 8 b (nI n)) b (l.take n) := by
  have e : (l.take n).length = n := by rw [List.length_take]; omega
  refine ⟨?_, by rw [e]; have := hr.2.1; omega, fun i hi => ?_⟩
  · rw [gM_sM, e]; simp
  · rw [e] at hi
    rw [gR_sM]
    exact ⟨(hr.2.2 i (by omega)).1, by rw [List.getElem?_take_of_lt hi]; exact (hr.2.2 i (by omega)).2⟩
theorem s_cut {S : zS} {b : Nat} {l : List Int32} (hr : rowIs S b l) (hb : b < 32) {n : Nat} (hn : n ≤ l.length) {P : zS → Prop} (h : ∀ S', offRow b S S' → rowIs S' b (l.take n) → P S') : w_Bytes_cut b (nI n) S P := by
  have hlt := hr.lt
  have hn31 : n < 2 ^ 31 := by omega
  unfold w_Bytes_cut
  refine ⟨fun c => absurd c (nI_pos hn31), fun _ => ⟨hb, fun c => ?_, fun c => ?_⟩⟩
  · rw [hr.1, nI_leI hlt hn31] at c
    have : n = l.length := by omega
    subst this
    exact h S (offRow.rf b S) (by rw [List.take_length]; exact hr)
  · rintro S1 rfl
    exact h _ (offRow.size b S _) (hr.take hn)
theorem s_cut0 {S : zS} {b : Nat} {l : List Int32} (hr : rowIs S b l) (hb : b < 32) {P : zS → Prop} (h : ∀ S', offRow b S S' → rowIs S' b [] → P S') : w_Bytes_cut b 0 S P := by
  have := s_cut hr hb (n := 0) (Nat.zero_le _) (P := P) (fun S' h1 h2 => h S' h1 h2)
  exact this
/-- the place of the first 0 of a row, -1 if there is none -/
def fzL (l : List Int32) : Int32 := match l.findIdx? (fun v => v == 0) with
  | some i => nI i
  | none => -1
theorem s_fz_loop {S : zS} {b : Nat} {l : List Int32} (hr : rowIs S b l) (hb : b < 32) {P : zS → Int32 → Prop} (h : P S (fzL l)) : ∀ (k i : Nat), k + i = l.length → (∀ q, q < i → ¬ l[q]? = some 0) → l_Bytes_firstZero_2 b P (k + 1) S (nI i) := by
  have hlt := hr.lt
  intro k
  induction k with
  | zero =>
    intro i hi hq
    unfold l_Bytes_firstZero_2
    refine ⟨hb, fun _ => ?_, fun c => ?_⟩
    · have : fzL l = -1 := by
        unfold fzL
        have : l.findIdx? (fun v => v == 0) = none := by
          rw [List.findIdx?_eq_none_iff]
          intro x hx
          obtain ⟨q, hq1⟩ := List.getElem?_of_mem hx
          have hq2 : q < l.length := (List.getElem?_eq_some_iff.mp hq1).1
          have := hq q (by omega)
          rw [hq1] at this
          simpa using this
        rw [this]
      rw [this] at h; exact h
    · rw [hr.1, nI_leI hlt (by omega)] at c
      omega
  | succ k ih =>
    intro i hi hq
    have hi1 : i < l.length := by omega
    unfold l_Bytes_firstZero_2
    refine ⟨hb, fun c => ?_, fun _ => ⟨in_cap (Nat.lt_of_lt_of_le hi1 hr.2.1), fun c => ?_, fun c => ?_⟩⟩
    · rw [hr.1, nI_leI hlt (by omega)] at c
      omega
    · rw [nI_clamp (by omega)] at c
      have hz : l[i]? = some 0 := by rw [(hr.2.2 i hi1).2, c]; rfl
      have : fzL l = nI i := by
        unfold fzL
        have : l.findIdx? (fun v => v == 0) = some i := by
          rw [List.findIdx?_eq_some_iff_getElem]
          obtain ⟨h1, h2⟩ := List.getElem?_eq_some_iff.mp hz
          refine ⟨h1, by simp [h2], fun j hj => ?_⟩
          have := hq j hj
          rw [List.getElem?_eq_getElem (by omega)] at this
          simpa using this
        rw [this]
      rw [this] at h; exact h
    · rw [nI_clamp (by omega)] at c
      have := ih (i + 1) (by omega) (fun q hq9 => by
        by_cases e : q = i
        · subst e
          rw [(hr.2.2 q hi1).2]
          intro z
          exact c ((byte_zero (hr.2.2 q hi1).1).mpr (Option.some.inj z))
        · exact hq q (by omega))
      rw [nI_1]; exact this
theorem s_firstZero {S : zS} {b : Nat} {l : List Int32} (hr : rowIs S b l) (hb : b < 32) {P : zS → Int32 → Prop} (h : P S (fzL l)) : w_Bytes_firstZero b S P := by
  unfold w_Bytes_firstZero
  exact ⟨l.length + 1, s_fz_loop hr hb h l.length 0 (by omega) (fun q hq => by omega)⟩
theorem s_same_loop {S : zS} {b o : Nat} {l m : List Int32} (hr : rowIs S b l) (hm : rowIs S o m) (hb : b < 32) (ho : o < 32) (he : l.length = m.length) {P : zS → Int32 → Prop} (h : P S (if l = m then 1 else 0)) : ∀ (k i : Nat), k + i = l.length → (∀ q, q < i → l[q]? = m[q]?) → l_Bytes_same_15 b o P (k + 1) S (nI i) := by
  have hlt := hr.lt
  intro k
  induction k with
  | zero =>
    intro i hi hq
    unfold l_Bytes_same_15
    refine ⟨hb, fun _ => ?_, fun c => ?_⟩
    · have : l = m := by
        apply List.ext_getElem? 
        intro q
        by_cases hq1 : q < i
        · exact hq q hq1
        · rw [List.getElem?_eq_none (by omega), List.getElem?_eq_none (by omega)]
      rw [if_pos this] at h; exact h
    · rw [hr.1, nI_leI hlt (by omega)] at c
      omega
  | succ k ih =>
    intro i hi hq
    have hi1 : i < l.length := by omega
    unfold l_Bytes_same_15
    refine ⟨hb, fun c => ?_, fun _ => ⟨in_cap (Nat.lt_of_lt_of_le hi1 hr.2.1), ho, in_cap (Nat.lt_of_lt_of_le (by omega) hm.2.1), fun c => ?_, fun c => ?_⟩⟩
    · rw [hr.1, nI_leI hlt (by omega)] at c
      omega
    · rw [nI_clamp (by omega)] at c
      have := ih (i + 1) (by omega) (fun q hq9 => by
        by_cases e : q = i
        · subst e
          rw [(hr.2.2 q hi1).2, (hm.2.2 q (by omega)).2, c]
        · exact hq q (by omega))
      rw [nI_1]; exact this
    · rw [nI_clamp (by omega)] at c
      have : ¬ l = m := by
        intro z
        subst z
        apply c
        have h1 := (hr.2.2 i hi1).2
        rw [(hm.2.2 i hi1).2] at h1
        exact byte_ext (hr.2.2 i hi1).1 (hm.2.2 i hi1).1 (Option.some.inj h1).symm
      rw [if_neg this] at h; exact h
theorem s_same {S : zS} {b o : Nat} {l m : List Int32} (hr : rowIs S b l) (hm : rowIs S o m) (hb : b < 32) (ho : o < 32) {P : zS → Int32 → Prop} (h : P S (if l = m then 1 else 0)) : w_Bytes_same b o S P := by
  unfold w_Bytes_same
  refine ⟨hb, ho, ?_⟩
  rw [hr.1, hm.1]
  have hb1 := hr.lt
  have hb2 := hm.lt
  refine ⟨fun c => ?_, fun c => ?_⟩
  · rw [nI_eq hb1 hb2] at c
    exact ⟨l.length + 1, s_same_loop hr hm hb ho c h l.length 0 (by omega) (fun q hq => by omega)⟩
  · rw [nI_eq hb1 hb2] at c
    have : ¬ l = m := fun z => c (by rw [z])
    rw [if_neg this] at h; exact h
theorem mnI_nI {a b : Nat} (ha : a < 2 ^ 31) (hb : b < 2 ^ 31) : mnI (nI a) (nI b) = nI (min a b) := by
  unfold mnI
  by_cases h : nI b < nI a
  · rw [if_pos h]
    rw [nI_ltI hb ha] at h
    rw [Nat.min_eq_right (by omega)]
  · rw [if_neg h]
    rw [nI_ltI hb ha] at h
    rw [Nat.min_eq_left (by omega)]
theorem mxI_0 {a : Nat} (ha : a < 2 ^ 31) : mxI 0 (nI a) = nI a := by
  unfold mxI
  by_cases h : (0 : Int32) < nI a
  · rw [if_pos h]
  · rw [if_neg h]
    have h0 : (0 : Int32) = nI 0 := nI_0.symm
    rw [h0, nI_ltI (by omega) ha] at h
    rw [h0]
    congr 1
    omega
/-- the loop of append: i bytes have come -/
def apI (S : zS) (b o f n i : Nat) (T : zS) : Prop := (∀ c q, gM T c q = gM S c q) ∧ (∀ b' q, b' ≠ b → gR T b' q = gR S b' q) ∧ (∀ q, q < n → gR T b q = gR S b q) ∧ (∀ q, q < i → gR T b (n + q) = vp_nar .byte (gR S o (f + q))) ∧ T.2.2 = S.2.2
theorem s_ap_loop {S : zS} {b o : Nat} {l m : List Int32} (hr : rowIs S b l) (hm : rowIs S o m) (hb : b < 32) (ho : o < 32) (hbo : o ≠ b) {f came : Nat} (hf : f + came ≤ m.length) (hc : l.length + came ≤ capB b) {a2 a3 : Int32} {P : zS → Prop} (h : ∀ S', offRow b S S' → rowIs S' b (l ++ (m.drop f).take came) → P S') :
    ∀ (k i : Nat) (T : zS), k + i = came → apI S b o f l.length i T → l_Bytes_append_40 b o a2 a3 P (k + 1) T (nI f) (nI came) (nI i) := by
  have hlt := hr.lt
  have hlm := hm.lt
  have hcb := capB_le b
  intro k
  induction k with
  | zero =>
    intro i T hi hT
    have hi : i = came := by omega
    subst hi
    obtain ⟨t1, t2, t3, t4, t5⟩ := hT
    unfold l_Bytes_append_40
    refine ⟨fun _ => ⟨hb, ?_⟩, fun c => ?_⟩
    · rintro S2 rfl
      rw [t1, hr.1, nI_add]
      have hlen : (l ++ (m.drop f).take i).length = l.length + i := by
        rw [List.length_append, List.length_take, List.length_drop]; omega
      refine h _ ⟨fun c q z => ?_, fun b' q z => (t2 b' q z), t5⟩ ⟨?_, by rw [hlen]; exact hc, fun q hq => ?_⟩
      · rw [(offRow.size b T _).1 c q z]; exact t1 c q
      · rw [gM_sM, hlen]; simp
      · rw [hlen] at hq
        rw [gR_sM]
        by_cases z : q < l.length
        · rw [t3 q z, List.getElem?_append_left z]
          exact hr.2.2 q z
        · obtain ⟨w, rfl⟩ : ∃ w, q = l.length + w := ⟨q - l.length, by omega⟩
          have hw : w < i := by omega
          rw [t4 w hw]
          refine ⟨byteOk_nar _, ?_⟩
          rw [nar_and, List.getElem?_append_right (by omega), Nat.add_sub_cancel_left, List.getElem?_take_of_lt hw, List.getElem?_drop]
          exact (hm.2.2 (f + w) (by omega)).2
    · rw [nI_leI (by omega) (by omega)] at c
      omega
  | succ k ih =>
    intro i T hi hT
    obtain ⟨t1, t2, t3, t4, t5⟩ := hT
    unfold l_Bytes_append_40
    refine ⟨fun c => ?_, fun _ => ?_⟩
    · rw [nI_leI (by omega) (by omega)] at c
      omega
    · rw [t1, hr.1, nI_add, nI_add]
      refine ⟨hb, ho, in_cap (Nat.lt_of_lt_of_le (by omega) hm.2.1), in_cap (by omega), ?_⟩
      rintro S7 rfl
      rw [nI_clamp (by omega), nI_clamp (by omega), nI_1]
      refine ih (i + 1) _ (by omega) ⟨fun c q => t1 c q, fun b' q z => ?_, fun q z => ?_, fun q z => ?_, t5⟩
      · rw [(offRow.cell b _ T _).2.1 b' q z]; exact t2 b' q z
      · rw [gR_sR, if_pos rfl, if_neg (by omega)]; exact t3 q z
      · rw [gR_sR, if_pos rfl]
        by_cases w : q = i
        · subst w
          rw [if_pos rfl, t2 o (f + q) hbo]
        · rw [if_neg (by omega)]
          exact t4 q (by omega)
theorem s_append {S : zS} {b o : Nat} {l m : List Int32} (hr : rowIs S b l) (hm : rowIs S o m) (hb : b < 32) (ho : o < 32) (hbo : o ≠ b) {f n : Nat} (hf : f ≤ m.length) (hn : n < 2 ^ 31) {P : zS → Prop} (h : ∀ S', offRow b S S' → rowIs S' b (l ++ (m.drop f).take (min n (capB b - l.length))) → P S') : w_Bytes_append b o (nI f) (nI n) S P := by
  have hlt := hr.lt
  have hlm := hm.lt
  have hcb := capB_le b
  have hlc := hr.2.1
  unfold w_Bytes_append
  rintro v1 rfl
  refine ⟨ho, hb, ?_⟩
  rintro v4 rfl
  have e1 : mxI 0 (nI f) = nI f := mxI_0 (by omega)
  have e2 : Int32.ofNat (capB b) - gM S 8 b = nI (capB b - l.length) := by rw [hr.1]; exact pk_sub hr.2.1
  rw [e1, e2, hm.1, pk_sub hf, mnI_nI (by omega) (by omega), mnI_nI hn (by omega), mxI_0 (by omega)]
  obtain ⟨came, hcame⟩ : ∃ came, came = min n (min (m.length - f) (capB b - l.length)) := ⟨_, rfl⟩
  rw [← hcame]
  refine ⟨came + 1, s_ap_loop hr hm hb ho hbo (by omega) (by omega) (fun S' h1 h2 => h S' h1 ?_) came 0 S (by omega) ⟨fun _ _ => rfl, fun _ _ _ => rfl, fun _ _ => rfl, fun q hq => by omega, rfl⟩⟩
  have e3 : (m.drop f).take (min n (capB b - l.length)) = (m.drop f).take came := by
    rw [List.take_eq_take_iff, List.length_drop, hcame]
    omega
  rw [e3]; exact h2
/-- the loop of dropFirst -/
def dfI (S : zS) (b g i : Nat) (T : zS) : Prop := (∀ c q, gM T c q = gM S c q) ∧ (∀ b' q, b' ≠ b → gR T b' q = gR S b' q) ∧ (∀ q, q < i → gR T b q = vp_nar .byte (gR S b (q + g))) ∧ (∀ q, i ≤ q → gR T b q = gR S b q) ∧ T.2.2 = S.2.2
theorem s_df_loop {S : zS} {b : Nat} (hb : b < 32) {n g : Nat} (hn : gM S 8 b = nI n) (hc : n + g ≤ capB b) {a1 : Int32} {P : zS → Prop} (h : ∀ T, dfI S b g n T → P T) :
    ∀ (k i : Nat) (T : zS), k + i = n → dfI S b g i T → l_Bytes_dropFirst_25 b a1 P (k + 1) T (nI g) (nI i) := by
  have hcb := capB_le b
  intro k
  induction k with
  | zero =>
    intro i T hi hT
    have hi : i = n := by omega
    subst hi
    unfold l_Bytes_dropFirst_25
    refine ⟨hb, fun _ => h T hT, fun c => ?_⟩
    rw [hT.1, hn, nI_leI (by omega) (by omega)] at c
    omega
  | succ k ih =>
    intro i T hi hT
    obtain ⟨t1, t2, t3, t4, t5⟩ := hT
    unfold l_Bytes_dropFirst_25
    refine ⟨hb, fun c => ?_, fun _ => ?_⟩
    · rw [t1, hn, nI_leI (by omega) (by omega)] at c
      omega
    · rw [nI_add]
      refine ⟨in_cap (by omega), in_cap (by omega), ?_⟩
      rintro S4 rfl
      rw [nI_clamp (by omega), nI_clamp (by omega), nI_1]
      refine ih (i + 1) _ (by omega) ⟨fun c q => t1 c q, fun b' q z => ?_, fun q z => ?_, fun q z => ?_, t5⟩
      · rw [(offRow.cell b _ T _).2.1 b' q z]; exact t2 b' q z
      · rw [gR_sR, if_pos rfl]
        by_cases w : q = i
        · subst w
          rw [if_pos rfl, t4 (q + g) (by omega)]
        · rw [if_neg w]
          exact t3 q (by omega)
      · rw [gR_sR, if_pos rfl, if_neg (by omega)]
        exact t4 q (by omega)
theorem s_dropFirst {S : zS} {b : Nat} {l : List Int32} (hr : rowIs S b l) (hb : b < 32) {n : Nat} (hn : n < 2 ^ 31) {P : zS → Prop} (h : ∀ S', offRow b S S' → rowIs S' b (l.drop n) → P S') : w_Bytes_dropFirst b (nI n) S P := by
  have hlt := hr.lt
  have hlc := hr.2.1
  unfold w_Bytes_dropFirst
  refine ⟨hb, ?_⟩
  rintro v2 rfl S3 rfl
  obtain ⟨g, hg⟩ : ∃ g, g = min n l.length := ⟨_, rfl⟩
  have e1 : mxI 0 (mnI (nI n) (gM S 8 b)) = nI g := by rw [hr.1, mnI_nI hn hlt, mxI_0 (by omega), hg]
  rw [e1, hr.1, pk_sub (by omega)]
  have hsz : gM (sM S 8 b (nI (l.length - g))) 8 b = nI (l.length - g) := by rw [gM_sM]; simp
  refine ⟨(l.length - g) + 1, s_df_loop hb hsz (by omega) (fun T hT => ?_) (l.length - g) 0 _ (by omega) ⟨fun _ _ => rfl, fun _ _ _ => rfl, fun q hq => by omega, fun _ _ => rfl, rfl⟩⟩
  obtain ⟨t1, t2, t3, t4, t5⟩ := hT
  have e2 : l.drop n = l.drop g := by
    by_cases q : n ≤ l.length
    · rw [hg, Nat.min_eq_left q]
    · rw [List.drop_eq_nil_of_le (by omega), List.drop_eq_nil_of_le (by omega)]
  rw [e2] at h
  refine h T ⟨fun c q z => ?_, fun b' q z => (t2 b' q z), t5⟩ ⟨?_, by rw [List.length_drop]; omega, fun q hq => ?_⟩
  · rw [t1]; exact (offRow.size b S _).1 c q z
  · rw [t1, hsz, List.length_drop]
  · rw [List.length_drop] at hq
    rw [t3 q hq, gR_sM]
    refine ⟨byteOk_nar _, ?_⟩
    rw [nar_and, List.getElem?_drop, Nat.add_comm g q]
    exact (hr.2.2 (q + g) (by omega)).2
