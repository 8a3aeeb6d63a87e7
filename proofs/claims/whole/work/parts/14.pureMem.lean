/-! pure: the memory -/
/-- a number without sign -/
def un (x : Int32) : Nat := x.toBitVec.toNat
theorem un_lt (x : Int32) : un x < 2 ^ 32 := x.toBitVec.isLt
theorem un_nI {n : Nat} (h : n < 2 ^ 32) : un (nI n) = n := pk_tn h
theorem nI_un (x : Int32) : nI (un x) = x := by
  obtain ⟨n, hn, rfl⟩ := wb_of32 x
  rw [un_nI hn]
theorem un_toInt (x : Int32) : x.toInt = (un x : Int) - (if un x < 2 ^ 31 then 0 else 2 ^ 32) := by
  have h := Int32.toInt_toBitVec x
  unfold un
  rw [← h, BitVec.toInt_eq_toNat_cond]
  split <;> split <;> omega
theorem neg_iff (x : Int32) : x < 0 ↔ 2 ^ 31 ≤ un x := by
  rw [Int32.lt_iff_toInt_lt, Int32.toInt_zero, un_toInt]
  have := un_lt x
  split <;> omega
theorem un_pos {x : Int32} (h : ¬ x < 0) : x = nI (un x) ∧ un x < 2 ^ 31 := by
  rw [neg_iff] at h
  exact ⟨(nI_un x).symm, by omega⟩
theorem ge_iff {x : Int32} {n : Nat} (hn : n < 2 ^ 31) (hx : ¬ x < 0) : nI n ≤ x ↔ n ≤ un x := by
  obtain ⟨e, hl⟩ := un_pos hx
  rw [e, nI_leI hn hl, un_nI (by omega)]
theorem lit_nI (n : Nat) : (OfNat.ofNat n : Int32) = nI n := rfl
theorem long_un (x : Int32) : x.toInt64 &&& 4294967295 = lN (un x) := by
  apply wb_inj
  rw [wb_tb]
  apply BitVec.eq_of_toNat_eq
  have hx := un_lt x
  have e : (4294967295 : Int64).toBitVec = BitVec.ofNat 64 (2 ^ 32 - 1) := rfl
  rw [Int64.toBitVec_and, Int32.toBitVec_toInt64, e, BitVec.toNat_and, BitVec.toNat_ofNat, BitVec.toNat_ofNat]
  rw [Nat.mod_eq_of_lt (show 2 ^ 32 - 1 < 2 ^ 64 by decide), Nat.mod_eq_of_lt (show un x < 2 ^ 64 by omega), Nat.and_two_pow_sub_one_eq_mod]
  unfold un
  rw [BitVec.toNat_signExtend]
  split
  · rw [BitVec.toNat_setWidth]
    have := x.toBitVec.isLt
    omega
  · rw [BitVec.toNat_setWidth]
    have := x.toBitVec.isLt
    omega
theorem area_iff (p n : Int32) : (0 < lg_cmp ((p.toInt64 &&& 4294967295) + (n.toInt64 &&& 4294967295)) 16384) ↔ ¬ un p + un n ≤ 16384 := by
  have h1 := un_lt p
  have h2 := un_lt n
  rw [lg_cmp_gt, long_un, long_un, lN_add, show (16384 : Int64) = lN 16384 from rfl, pk_lLT (by omega) (by omega)]
  omega
theorem s_hasArea {S : zS} (p n : Int32) {P : zS → Int32 → Prop} (h : P S (if un p + un n ≤ 16384 then 1 else 0)) : w_Memory_hasArea p n S P := by
  unfold w_Memory_hasArea
  refine ⟨fun c => ?_, fun c => ?_⟩
  · rw [area_iff] at c; rw [if_neg c] at h; exact h
  · rw [area_iff] at c; rw [if_pos (Classical.not_not.mp c)] at h; exact h
/-- the class's memory holds mm -/
def memIs (S : zS) (mm : Nat → Int32) : Prop := ∀ i, i < 16384 → byteOk (gM S 3 i) ∧ gM S 3 i &&& 255 = mm i
/-- S' is S but for the memory -/
def offMem (S S' : zS) : Prop := (∀ c i, c ≠ 3 → gM S' c i = gM S c i) ∧ S'.2 = S.2
theorem offMem.rf (S : zS) : offMem S S := ⟨fun _ _ _ => rfl, rfl⟩
theorem offMem.tr {S T U : zS} (h : offMem S T) (k : offMem T U) : offMem S U := ⟨fun c i q => (k.1 c i q).trans (h.1 c i q), k.2.trans h.2⟩
theorem offMem.row {S T : zS} {b : Nat} {l : List Int32} (h : offMem S T) (hr : rowIs S b l) : rowIs T b l := by
  obtain ⟨h1, h2, h3⟩ := hr
  refine ⟨(h.1 8 b (by decide)).trans h1, h2, fun i hi => ?_⟩
  have : gR T b i = gR S b i := by unfold gR; rw [h.2]
  rw [this]; exact h3 i hi
/-- bytes laid into a memory from p on -/
def mset (mm : Nat → Int32) (p : Nat) (l : List Int32) : Nat → Int32 := fun i => if p ≤ i ∧ i < p + l.length then (l[i - p]?).getD 0 else mm i
theorem mset_nil (mm : Nat → Int32) (p : Nat) : mset mm p [] = mm := by
  funext i
  unfold mset
  rw [if_neg (by simp only [List.length_nil]; omega)]
theorem mset_snoc (mm : Nat → Int32) (p : Nat) (l : List Int32) (v : Int32) : mset (mset mm p l) (p + l.length) [v] = mset mm p (l ++ [v]) := by
  funext i
  unfold mset
  simp only [List.length_append, List.length_singleton]
  by_cases h1 : i = p + l.length
  · subst h1
    rw [if_pos (by omega), if_pos (by omega)]
    simp
  · by_cases h2 : p ≤ i ∧ i < p + l.length
    · rw [if_neg (by omega), if_pos h2, if_pos (by omega), List.getElem?_append_left (by omega)]
    · rw [if_neg (by omega), if_neg h2, if_neg (by omega)]
theorem offMem.cell (S : zS) (i : Nat) (v : Int32) : offMem S (sM S 3 i v) := by
  refine ⟨fun c j q => ?_, rfl⟩
  rw [gM_sM, if_neg q]
theorem memIs.set {S : zS} {mm : Nat → Int32} (h : memIs S mm) (p : Nat) (v : Int32) : memIs (sM S 3 p (vp_nar .byte v)) (mset mm p [v &&& 255]) := by
  intro i hi
  rw [gM_sM, if_pos rfl]
  unfold mset
  by_cases q : i = p
  · subst q
    rw [if_pos rfl, if_pos (by simp)]
    exact ⟨byteOk_nar v, by rw [nar_and]; simp⟩
  · rw [if_neg q, if_neg (by simp; omega)]
    exact h i hi
theorem in_mem {i : Nat} (h : i < 16384) : vp_in (nI i) 16384 := vp_in_nI h (by decide)
theorem s_byteAt {S : zS} {mm : Nat → Int32} (hm : memIs S mm) (p : Int32) {P : zS → Int32 → Prop} (h : P S (if un p < 16384 then mm (un p) else -1)) : w_Memory_byteAt p S P := by
  unfold w_Memory_byteAt
  refine ⟨fun c => ?_, fun c => ⟨fun c2 => ?_, fun c2 => ?_⟩⟩
  · rw [neg_iff] at c; rw [if_neg (by omega)] at h; exact h
  · rw [show (16384 : Int32) = nI 16384 from rfl, ge_iff (by decide) c] at c2
    rw [if_neg (by omega)] at h; exact h
  · rw [show (16384 : Int32) = nI 16384 from rfl, ge_iff (by decide) c] at c2
    obtain ⟨e, hl⟩ := un_pos c
    have hlt : un p < 16384 := by omega
    rw [if_pos hlt] at h
    refine ⟨by rw [e]; exact in_mem hlt, ?_⟩
    have e2 : p.toNatClampNeg = un p := by rw [e, nI_clamp hl, un_nI (by omega)]
    rw [e2, (hm _ hlt).2]
    exact h
theorem s_storeByte {S : zS} {mm : Nat → Int32} (hm : memIs S mm) (p v : Int32) {P : zS → Prop} (h : ∀ S', offMem S S' → memIs S' (if un p < 16384 then mset mm (un p) [v &&& 255] else mm) → P S') : w_Memory_storeByte p v S P := by
  unfold w_Memory_storeByte
  refine ⟨fun c => ?_, fun c => ⟨fun c2 => ?_, fun c2 => ?_⟩⟩
  · rw [neg_iff] at c
    exact h S (offMem.rf S) (by rw [if_neg (by omega)]; exact hm)
  · rw [show (16384 : Int32) = nI 16384 from rfl, ge_iff (by decide) c] at c2
    exact h S (offMem.rf S) (by rw [if_neg (by omega)]; exact hm)
  · rw [show (16384 : Int32) = nI 16384 from rfl, ge_iff (by decide) c] at c2
    obtain ⟨e, hl⟩ := un_pos c
    have hlt : un p < 16384 := by omega
    refine ⟨by rw [e]; exact in_mem hlt, ?_⟩
    rintro S2 rfl
    have e2 : p.toNatClampNeg = un p := by rw [e, nI_clamp hl, un_nI (by omega)]
    rw [e2]
    refine h _ (offMem.cell S _ _) ?_
    rw [if_pos hlt]
    have := hm.set (un p) v.toInt8.toInt32
    rw [show v.toInt8.toInt32 &&& 255 = v &&& 255 from bp_b v] at this
    exact this
/-- the word at a place of a memory -/
def wordOf (mm : Nat → Int32) (a : Nat) : Int32 := ((mm a ||| (mm (a + 1) <<< ((8 : Int32) &&& 31))) ||| (mm (a + 2) <<< ((16 : Int32) &&& 31))) ||| (mm (a + 3) <<< ((24 : Int32) &&& 31))
def halfOf (mm : Nat → Int32) (a : Nat) : Int32 := mm a ||| (mm (a + 1) <<< ((8 : Int32) &&& 31))
theorem shl24 (x : Int32) : x <<< ((24 : Int32) &&& 31) = (x &&& 255) <<< ((24 : Int32) &&& 31) := by
  apply b_ext
  intro i hi
  rw [b_shl24 x hi, b_shl24 _ hi, b_and, b_255]
  by_cases h : 24 ≤ i
  · have : i - 24 < 8 := by omega
    simp [h, this]
  · simp [h]
theorem s_wordAt {S : zS} {mm : Nat → Int32} (hm : memIs S mm) {a : Nat} (ha : a + 4 ≤ 16384) {P : zS → Int32 → Prop} (h : P S (wordOf mm a)) : w_Memory_wordAt (nI a) S P := by
  unfold w_Memory_wordAt
  apply s_hasArea
  rw [un_nI (by omega), show un 4 = 4 from rfl, if_pos ha]
  refine ⟨fun c => absurd c (by decide), fun _ => ?_⟩
  rw [show (1 : Int32) = nI 1 from rfl, show (2 : Int32) = nI 2 from rfl, show (3 : Int32) = nI 3 from rfl, nI_add, nI_add, nI_add]
  refine ⟨in_mem (by omega), in_mem (by omega), in_mem (by omega), in_mem (by omega), ?_⟩
  rw [nI_clamp (by omega), nI_clamp (by omega), nI_clamp (by omega), nI_clamp (by omega), (hm a (by omega)).2, (hm (a + 1) (by omega)).2, (hm (a + 2) (by omega)).2, shl24, (hm (a + 3) (by omega)).2]
  exact h
theorem s_halfAt {S : zS} {mm : Nat → Int32} (hm : memIs S mm) {a : Nat} (ha : a + 2 ≤ 16384) {P : zS → Int32 → Prop} (h : P S (halfOf mm a)) : w_Memory_halfAt (nI a) S P := by
  unfold w_Memory_halfAt
  apply s_hasArea
  rw [un_nI (by omega), show un 2 = 2 from rfl, if_pos ha]
  refine ⟨fun c => absurd c (by decide), fun _ => ?_⟩
  rw [show (1 : Int32) = nI 1 from rfl, nI_add]
  refine ⟨in_mem (by omega), in_mem (by omega), ?_⟩
  rw [nI_clamp (by omega), nI_clamp (by omega), (hm a (by omega)).2, (hm (a + 1) (by omega)).2]
  exact h

/-- byte k of a word, and the first n of them -/
def byteOf (v : Int32) (k : Nat) : Int32 := (v.toUInt32 >>> (((8 : Int32) * nI k).toUInt32 &&& Int32.toUInt32 31)).toInt32 &&& 255
def bl (v : Int32) (n : Nat) : List Int32 := (List.range n).map (byteOf v)
theorem bl_len (v : Int32) (n : Nat) : (bl v n).length = n := by unfold bl; simp
theorem bl_succ (v : Int32) (n : Nat) : bl v (n + 1) = bl v n ++ [byteOf v n] := by unfold bl; rw [List.range_succ, List.map_append]; rfl
theorem s_storeWord_loop {S : zS} {mm : Nat → Int32} {a : Nat} (ha : a + 4 ≤ 16384) (v : Int32) {P : zS → Prop} (h : ∀ S', offMem S S' → memIs S' (mset mm a (bl v 4)) → P S') :
    ∀ (k i : Nat) (T : zS), k + i = 4 → offMem S T → memIs T (mset mm a (bl v i)) → l_Memory_storeWord_2 (nI a) v P (k + 1) T (nI i) := by
  intro k
  induction k with
  | zero =>
    intro i T hi h1 h2
    have hi : i = 4 := by omega
    subst hi
    unfold l_Memory_storeWord_2
    exact ⟨fun _ => h T h1 h2, fun c => absurd (show (4 : Int32) ≤ nI 4 by decide) c⟩
  | succ k ih =>
    intro i T hi h1 h2
    unfold l_Memory_storeWord_2
    refine ⟨fun c => ?_, fun _ => ?_⟩
    · rw [show (4 : Int32) = nI 4 from rfl, nI_leI (by decide) (by omega)] at c
      omega
    · refine s_storeByte h2 _ _ (fun S' o1 o2 => ?_)
      rw [nI_add, un_nI (by omega), if_pos (by omega)] at o2
      have e : mset (mset mm a (bl v i)) (a + i) [(v.toUInt32 >>> (((8 : Int32) * nI i).toUInt32 &&& Int32.toUInt32 31)).toInt32 &&& 255] = mset mm a (bl v (i + 1)) := by
        have := mset_snoc mm a (bl v i) (byteOf v i)
        rw [bl_len] at this
        rw [bl_succ]
        exact this
      rw [e] at o2
      rw [nI_1]
      exact ih (i + 1) S' (by omega) (h1.tr o1) o2
theorem s_storeWord {S : zS} {mm : Nat → Int32} (hm : memIs S mm) {a : Nat} (ha : a + 4 ≤ 16384) (v : Int32) {P : zS → Prop} (h : ∀ S', offMem S S' → memIs S' (mset mm a (bl v 4)) → P S') : w_Memory_storeWord (nI a) v S P := by
  unfold w_Memory_storeWord
  exact ⟨5, s_storeWord_loop ha v h 4 0 S rfl (offMem.rf S) (by unfold bl; rw [List.range_zero, List.map_nil, mset_nil]; exact hm)⟩
/-- how many bytes lie from p on ahead of a 0 -/
def zlen (mm : Nat → Int32) (p : Nat) : Option Nat := (List.range (16384 - p)).find? (fun k => mm (p + k) == 0)
theorem zlen_some {mm : Nat → Int32} {p k : Nat} (hk : k < 16384 - p) (h0 : mm (p + k) = 0) (hb : ∀ q, q < k → ¬ mm (p + q) = 0) : zlen mm p = some k := by
  unfold zlen
  rw [List.find?_range_eq_some]
  exact ⟨by simp [h0], List.mem_range.mpr hk, fun j hj => by simp [hb j hj]⟩
theorem zlen_none {mm : Nat → Int32} {p : Nat} (hb : ∀ q, q < 16384 - p → ¬ mm (p + q) = 0) : zlen mm p = none := by
  unfold zlen
  rw [List.find?_range_eq_none]
  intro j hj
  simp [hb j hj]
theorem s_len0_loop {S : zS} {mm : Nat → Int32} (hm : memIs S mm) {p : Nat} (hp : p < 2 ^ 31) {P : zS → Int32 → Prop} (h : P S (match zlen mm p with | some k => nI k | none => -1)) :
    ∀ (k i : Nat), k + i = 16384 - p → (∀ q, q < i → ¬ mm (p + q) = 0) → l_Memory_lengthUpToZero_8 (nI p) P (k + 1) S (nI (p + i)) := by
  intro k
  induction k with
  | zero =>
    intro i hi hq
    unfold l_Memory_lengthUpToZero_8
    refine ⟨fun _ => ?_, fun c => ?_⟩
    · rw [zlen_none (fun q hq9 => hq q (by omega))] at h; exact h
    · exfalso
      by_cases hp2 : p + i < 2 ^ 31
      · rw [show (16384 : Int32) = nI 16384 from rfl, nI_leI (by decide) hp2] at c
        omega
      · omega
  | succ k ih =>
    intro i hi hq
    have hlt : p + i < 16384 := by omega
    unfold l_Memory_lengthUpToZero_8
    refine ⟨fun c => ?_, fun _ => ⟨in_mem hlt, fun c => ?_, fun c => ?_⟩⟩
    · rw [show (16384 : Int32) = nI 16384 from rfl, nI_leI (by decide) (by omega)] at c
      omega
    · rw [nI_clamp (by omega)] at c
      have h0 : mm (p + i) = 0 := by rw [← (hm (p + i) hlt).2, c]; rfl
      rw [zlen_some (by omega) h0 hq] at h
      rw [pk_sub (by omega), Nat.add_sub_cancel_left]
      exact h
    · rw [nI_clamp (by omega)] at c
      rw [nI_1]
      exact ih (i + 1) (by omega) (fun q hq9 => by
        by_cases e : q = i
        · subst e
          rw [← (hm (p + q) hlt).2]
          intro z
          exact c ((byte_zero (hm (p + q) hlt).1).mpr z)
        · exact hq q (by omega))
theorem s_lengthUpToZero {S : zS} {mm : Nat → Int32} (hm : memIs S mm) (p : Int32) {P : zS → Int32 → Prop} (h : P S (match zlen mm (un p) with | some k => nI k | none => -1)) : w_Memory_lengthUpToZero p S P := by
  unfold w_Memory_lengthUpToZero
  refine ⟨fun c => ?_, fun c => ?_⟩
  · have hn : ¬ p < 0 := by
      rw [Int32.le_iff_toInt_le] at c
      rw [Int32.lt_iff_toInt_lt]; omega
    obtain ⟨e, hl⟩ := un_pos hn
    have := s_len0_loop hm hl h (16384 - un p) 0 (by omega) (fun q hq => by omega)
    rw [show nI (un p + 0) = nI (un p) from rfl, ← e] at this
    exact ⟨_, this⟩
  · have hn : p < 0 := by
      rw [Int32.le_iff_toInt_le] at c
      rw [Int32.lt_iff_toInt_lt]; omega
    rw [neg_iff] at hn
    rw [zlen_none (fun q hq => by omega)] at h
    exact h
