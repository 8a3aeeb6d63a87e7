/-! the reference's lay -/
theorem zpos_some {l : List Int32} {i : Nat} (hi : l[i]? = some 0) (hq : ∀ q, q < i → ¬ l[q]? = some 0) : zpos l = some i := by
  have hl := (List.getElem?_eq_some_iff.mp hi).1
  unfold zpos
  rw [List.findIdx?_eq_some_iff_getElem]
  refine ⟨hl, ?_, fun j hj => ?_⟩
  · rw [List.getElem?_eq_getElem hl] at hi
    simp [Option.some.inj hi]
  · have := hq j hj
    rw [List.getElem?_eq_getElem (by omega)] at this
    simpa using this
theorem zpos_none {l : List Int32} (hq : ∀ q, q < l.length → ¬ l[q]? = some 0) : zpos l = none := by
  unfold zpos
  rw [List.findIdx?_eq_none_iff]
  intro x hx
  obtain ⟨q, hq1⟩ := List.getElem?_of_mem hx
  have := hq q (List.getElem?_eq_some_iff.mp hq1).1
  rw [hq1] at this
  simpa using this
theorem m_isNamed {A : zA} {V : zS} (h : RR A V) {l : List Int32} (ht : tpIs l V) {i z : Nat} (hz : z ≤ l.length) (hz24 : z ≤ 24) {f : List Int32 × List Int32} (hf : A.2.2[i]? = some f) {P : zS → Int32 → Prop} (hP : P V (if f.1 = l.take z then 1 else 0)) : w_M_isNamed (nI i) (nI z) V P := by
  have hi := (List.getElem?_eq_some_iff.mp hf).1
  have hl := h.f.2.1
  obtain ⟨-, g2, g3, g4⟩ := h.arrs hf
  have hlz : (l.take z).length = z := lenT hz
  have yes : f.1 = l.take z → P V 1 := fun e => by rw [if_pos e] at hP; exact hP
  have no : ¬ f.1 = l.take z → P V 0 := fun e => by rw [if_neg e] at hP; exact hP
  unfold w_M_isNamed
  rw [nI_clamp (show i < 2 ^ 31 by omega), g2, nI_eq (by omega) (by omega)]
  refine ⟨vp_in_nI (by omega) (by decide), fun c => ?_, fun c => ?_⟩
  · unfold j_M_isNamed_15
    have inner : ∀ (k j : Nat), k + j = z → (∀ q, q < j → f.1[q]? = (l.take z)[q]?) → l_M_isNamed_19 (nI i) (nI z) P (k + 1) V 1 (nI j) := by
      intro k
      induction k with
      | zero =>
        intro j hj hs
        unfold l_M_isNamed_19
        refine ⟨fun _ => ⟨rfl, yes (List.ext_getElem? (fun q => ?_))⟩, fun w => absurd (nI_le (by omega) (by omega)) w⟩
        by_cases hq9 : q < j
        · exact hs q hq9
        · rw [List.getElem?_eq_none (by omega), List.getElem?_eq_none (by omega)]
      | succ k ih =>
        intro j hj hs
        have ex : (24 : Int32) * nI i + nI j = nI (24 * i + j) := by rw [show (24 : Int32) = nI 24 from rfl, pk_mul, nI_add]
        have e5 : some (gM V 5 (24 * i + j)) = f.1[j]? := (g4 j (by omega)).symm
        have e16 : some (gM V 16 j) = (l.take z)[j]? := by
          rw [List.getElem?_take_of_lt (by omega)]
          exact (ht.2 j (by omega)).symm
        unfold l_M_isNamed_19
        rw [clm ex (by omega), nI_clamp (show j < 2 ^ 31 by omega)]
        refine ⟨fun w => ?_, fun _ => ⟨fun w => absurd w (by decide), fun _ => ⟨vin (by omega) ex, vp_in_nI (by omega) (by decide), fun w => ?_, fun w => ?_⟩⟩⟩
        · rw [nI_leI (by omega) (by omega)] at w
          omega
        · unfold j_M_isNamed_56
          rw [nI_1]
          refine ih (j + 1) (by omega) (fun q hq9 => ?_)
          by_cases e : q = j
          · subst e
            rw [← e5, ← e16, w]
          · exact hs q (by omega)
        · have ne : ¬ f.1 = l.take z := fun y => w (by
            rw [y, ← e16] at e5
            exact Option.some.inj e5)
          unfold j_M_isNamed_56 l_M_isNamed_19
          exact ⟨fun _ => ⟨rfl, no ne⟩, fun _ => ⟨fun _ => ⟨rfl, no ne⟩, fun y => absurd rfl y⟩⟩
    exact ⟨_, inner z 0 (by omega) (fun q hq => absurd hq (by omega))⟩
  · unfold j_M_isNamed_15
    refine ⟨1, ?_⟩
    unfold l_M_isNamed_19
    have ne : ¬ f.1 = l.take z := fun y => c (by rw [y, hlz])
    exact ⟨fun _ => ⟨rfl, no ne⟩, fun _ => ⟨fun _ => ⟨rfl, no ne⟩, fun y => absurd rfl y⟩⟩
theorem m_l220 {W0 : zS} {l : List Int32} (ht : tpIs l W0) {z k L : Nat} (hk : k < 12) (hz : z + 1 + L = l.length) (hL : L ≤ 2000) {P : zS → Int32 → Prop} (hP : ∀ W, cpy 3 (2000 * k) (l.drop (z + 1)) (sM W0 4 k (nI L)) W → P W (nI L)) : ∀ (r i : Nat) (W : zS), r + i = L → cpy 3 (2000 * k) ((l.drop (z + 1)).take i) (sM W0 4 k (nI L)) W → l_M_lay_220 P (r + 1) W (nI z) (nI k) (nI i) := by
  have hl := ht.1
  have hdl : (l.drop (z + 1)).length = L := by rw [List.length_drop]; omega
  have e4 : ∀ (m : List Int32) (W : zS), cpy 3 (2000 * k) m (sM W0 4 k (nI L)) W → gM W 4 k = nI L := fun m W hc => by
    rw [hc.1 4 (by decide)]
    show (if k = k then _ else _) = _
    rw [if_pos rfl]
  intro r
  induction r with
  | zero =>
    intro i W hi hc
    have hi : i = L := by omega
    unfold l_M_lay_220
    rw [nI_clamp (show k < 2 ^ 31 by omega), e4 _ W hc]
    rw [List.take_of_length_le (by omega)] at hc
    exact ⟨vp_in_nI hk (by decide), fun _ => hP W hc, fun w => absurd (nI_le (by omega) (by omega)) w⟩
  | succ r ih =>
    intro i W hi hc
    have hil : i < (l.drop (z + 1)).length := by omega
    have ea : nI z + 1 + nI i = nI (z + 1 + i) := by rw [nI_1, nI_add]
    have ed : (2000 : Int32) * nI k + nI i = nI (2000 * k + i) := by rw [show (2000 : Int32) = nI 2000 from rfl, pk_mul, nI_add]
    have ev : gM W 16 (z + 1 + i) = (l.drop (z + 1))[i] := by
      rw [hc.1 16 (by decide), List.getElem_drop]
      exact ht.at (by omega)
    unfold l_M_lay_220
    rw [nI_clamp (show k < 2 ^ 31 by omega), e4 _ W hc, clm ea (by omega), clm ed (by omega), ev]
    refine ⟨vp_in_nI hk (by decide), fun w => ?_, fun _ => ⟨vin (by omega) ea, vin (by omega) ed, ?_⟩⟩
    · rw [nI_leI (by omega) (by omega)] at w
      omega
    · rintro S4 rfl
      rw [nI_1]
      refine ih (i + 1) _ (by omega) ?_
      rw [tk hil]
      exact hc.snoc (by rw [lenT (by omega)]) _
def layB (A : zA) (z : Nat) : zA × Nat × Int32 := match findA A ((A.2.1 0).take z) with
  | some k => if openA A k 10 = 0 then (tape0 (aFiles A (A.2.2.set k ((A.2.1 0).take z, (A.2.1 0).drop (z + 1)))), 0, nI ((A.2.1 0).length - z - 1)) else (tape0 A, 2, 0)
  | none => if A.2.2.length < 12 then (tape0 (aFiles A (A.2.2 ++ [((A.2.1 0).take z, (A.2.1 0).drop (z + 1))])), 0, nI ((A.2.1 0).length - z - 1)) else (tape0 A, 3, 0)
theorem m_lay_old {A : zA} {V : zS} (h : RR (tape0 A) V) (ht : tpIs (A.2.1 0) V) (h0 : gM V 0 0 = 0) {z k L : Nat} {f : List Int32 × List Int32} (hf : A.2.2[k]? = some f) (hz : z + 1 + L = (A.2.1 0).length) (hL : L ≤ 2000) {P : zS → Int32 → Prop} (hP : ∀ W, RR (tape0 (aFiles A (A.2.2.set k (f.1, (A.2.1 0).drop (z + 1))))) W → gM W 0 0 = 0 → P W (nI L)) : j_M_lay_206 P V (nI (A.2.1 0).length) (nI z) (nI k) := by
  have hl := ht.1
  have hk := (List.getElem?_eq_some_iff.mp hf).1
  have hn : A.2.2.length ≤ 12 := h.f.2.1
  have hdl : ((A.2.1 0).drop (z + 1)).length = L := by rw [List.length_drop]; omega
  have eL : nI (A.2.1 0).length - nI z - 1 = nI L := by
    rw [pk_sub (by omega), show (1 : Int32) = nI 1 from rfl, pk_sub (by omega)]
    congr 1; omega
  unfold j_M_lay_206
  rw [nI_clamp (show k < 2 ^ 31 by omega), eL]
  refine ⟨vp_in_nI (by omega) (by decide), ?_⟩
  rintro S2 rfl
  refine ⟨_, m_l220 ht (by omega) hz hL (fun W c => ?_) L 0 _ (by omega) (by rw [List.take_zero]; exact cpy.nil 3 _ _)⟩
  have e := c.1
  refine hP W ?_ (by rw [e 0 (by decide)]; exact h0)
  have ar := (h.arrs (q := k) (f := f) hf).2
  refine h.fchg (q := k) (f := f) hf (fun c' hc => ?_) ?_ c.j (fun q hq => ?_) (fun q hq => ?_) (fun q i hq hi => ?_) (fun q i hq hi => ?_) ?_ ?_
  · rw [e c' (by omega), gM_off _ _ _ (show c' ≠ 4 by omega)]
  · rw [e 0 (by decide)]; rfl
  · rw [e 4 (by decide)]
    show (if q = k then _ else _) = _
    rw [if_neg hq]; rfl
  · rw [e 6 (by decide)]; rfl
  · rw [c.2.1, mset_out _ _ _ (by omega)]; rfl
  · rw [e 5 (by decide)]; rfl
  · rw [e 4 (by decide)]
    refine ⟨?_, by omega, fun i hi => ?_⟩
    · show (if k = k then _ else _) = _
      rw [if_pos rfl, hdl]
    · show _ = some (gM W 3 (2000 * k + i))
      rw [c.2.1]
      exact mset_at _ _ _ hi
  · rw [e 6 (by decide), e 5 (by decide)]; exact ar
theorem m_lay_new {A : zA} {V : zS} (h : RR (tape0 A) V) (ht : tpIs (A.2.1 0) V) (h0 : gM V 0 0 = 0) {z L : Nat} (hz : z + 1 + L = (A.2.1 0).length) (hz24 : z ≤ 24) (hL : L ≤ 2000) (hn : A.2.2.length < 12) {P : zS → Int32 → Prop} (hP : ∀ W, RR (tape0 (aFiles A (A.2.2 ++ [((A.2.1 0).take z, (A.2.1 0).drop (z + 1))]))) W → gM W 0 0 = 0 → P W (nI L)) : j_M_lay_145 P V (nI (A.2.1 0).length) (nI z) (-1) := by
  have hl := ht.1
  have hdl : ((A.2.1 0).drop (z + 1)).length = L := by rw [List.length_drop]; omega
  have hlz : ((A.2.1 0).take z).length = z := lenT (by omega)
  have eL : nI (A.2.1 0).length - nI z - 1 = nI L := by
    rw [pk_sub (by omega), show (1 : Int32) = nI 1 from rfl, pk_sub (by omega)]
    congr 1; omega
  have e14 : gM V 0 14 = nI A.2.2.length := h.f.1
  unfold j_M_lay_145
  refine ⟨fun _ => ?_, fun w => absurd rfl w⟩
  rw [e14, nI_1]
  rintro v1 rfl S2 rfl
  rw [nI_clamp (show A.2.2.length < 2 ^ 31 by omega)]
  refine ⟨vp_in_nI hn (by decide), ?_⟩
  rintro S4 rfl
  have loop : ∀ (r j : Nat) (W : zS), r + j = z → cpy 5 (24 * A.2.2.length) (((A.2.1 0).take z).take j) (sM (sM V 0 14 (nI (A.2.2.length + 1))) 6 A.2.2.length (nI z)) W → l_M_lay_175 P (r + 1) W (nI (A.2.1 0).length) (nI z) (nI A.2.2.length) (nI j) := by
    intro r
    induction r with
    | zero =>
      intro j W hj c1
      unfold l_M_lay_175
      refine ⟨fun _ => ?_, fun w => absurd (nI_le (by omega) (by omega)) w⟩
      rw [List.take_of_length_le (show ((A.2.1 0).take z).length ≤ j by omega)] at c1
      have htW : tpIs (A.2.1 0) W := ⟨hl, fun i hi => by rw [c1.1 16 (by decide)]; exact ht.2 i hi⟩
      unfold j_M_lay_206
      rw [nI_clamp (show A.2.2.length < 2 ^ 31 by omega), eL]
      refine ⟨vp_in_nI hn (by decide), ?_⟩
      rintro S2 rfl
      refine ⟨_, m_l220 htW hn hz hL (fun W' c2 => ?_) L 0 _ (by omega) (by rw [List.take_zero]; exact cpy.nil 3 _ _)⟩
      have e1 := c1.1
      have e2 := c2.1
      refine hP W' ?_ (by rw [e2 0 (by decide)]; show gM W 0 0 = 0; rw [e1 0 (by decide)]; exact h0)
      refine h.fadd hn (fun c hc => ?_) (fun i hi => ?_) ?_ (c2.j.trans c1.j) (fun q hq => ?_) (fun q hq => ?_) (fun i hi => ?_) (fun i hi => ?_) ?_ ?_
      · rw [e2 c (by omega), gM_off _ _ _ (show c ≠ 4 by omega), e1 c (by omega), gM_off _ _ _ (show c ≠ 6 by omega), gM_off _ _ _ (show c ≠ 0 by omega)]
      · rw [e2 0 (by decide)]
        show gM W 0 i = _
        rw [e1 0 (by decide)]
        show (if i = 14 then _ else _) = _
        rw [if_neg hi]; rfl
      · rw [e2 0 (by decide)]
        show gM W 0 14 = _
        rw [e1 0 (by decide)]; rfl
      · rw [e2 4 (by decide)]
        show (if q = A.2.2.length then _ else gM W 4 q) = _
        have hq : q < A.2.2.length := hq
        rw [if_neg (by omega), e1 4 (by decide)]; rfl
      · rw [e2 6 (by decide)]
        show gM W 6 q = _
        have hq : q < A.2.2.length := hq
        rw [e1 6 (by decide)]
        show (if q = A.2.2.length then _ else _) = _
        rw [if_neg (by omega)]; rfl
      · have hi : i < 2000 * A.2.2.length := hi
        rw [c2.2.1, mset_out _ _ _ (Or.inl hi)]
        show gM W 3 i = _
        rw [e1 3 (by decide)]; rfl
      · rw [e2 5 (by decide)]
        show gM W 5 i = _
        have hi : i < 24 * A.2.2.length := hi
        rw [c1.2.1, mset_out _ _ _ (Or.inl hi)]; rfl
      · show arr _ (gM W' 4 A.2.2.length) (fun i => gM W' 3 (2000 * A.2.2.length + i)) 2000
        rw [e2 4 (by decide)]
        refine ⟨?_, by omega, fun i hi => ?_⟩
        · show (if A.2.2.length = A.2.2.length then _ else _) = _
          rw [if_pos rfl, hdl]
        · show _ = some (gM W' 3 (2000 * A.2.2.length + i))
          rw [c2.2.1]
          exact mset_at _ _ _ hi
      · show arr _ (gM W' 6 A.2.2.length) (fun i => gM W' 5 (24 * A.2.2.length + i)) 24
        rw [e2 6 (by decide), e2 5 (by decide)]
        refine ⟨?_, by omega, fun i hi => ?_⟩
        · show gM W 6 A.2.2.length = _
          rw [e1 6 (by decide), hlz]
          show (if A.2.2.length = A.2.2.length then _ else _) = _
          rw [if_pos rfl]
        · show _ = some (gM W 5 (24 * A.2.2.length + i))
          rw [c1.2.1]
          exact mset_at _ _ _ hi
    | succ r ih =>
      intro j W hj c1
      have hjl : j < ((A.2.1 0).take z).length := by omega
      have ed : (24 : Int32) * nI A.2.2.length + nI j = nI (24 * A.2.2.length + j) := by rw [show (24 : Int32) = nI 24 from rfl, pk_mul, nI_add]
      have ev : gM W 16 j = ((A.2.1 0).take z)[j] := by
        rw [c1.1 16 (by decide), List.getElem_take]
        exact ht.at (by omega)
      unfold l_M_lay_175
      rw [clm ed (by omega), nI_clamp (show j < 2 ^ 31 by omega), ev]
      refine ⟨fun w => ?_, fun _ => ⟨vp_in_nI (by omega) (by decide), vin (by omega) ed, ?_⟩⟩
      · rw [nI_leI (by omega) (by omega)] at w
        omega
      · rintro S3 rfl
        rw [nI_1]
        refine ih (j + 1) _ (by omega) ?_
        rw [tk hjl]
        exact c1.snoc (by rw [lenT (by omega)]) _
  exact ⟨_, loop z 0 _ (by omega) (by rw [List.take_zero]; exact cpy.nil 5 _ _)⟩
/-- what the search has found among the first i -/
def fnd (A : zA) (m : List Int32) (i : Nat) : Int32 := match findA A m with
  | some k => if k < i then nI k else -1
  | none => -1
theorem m_lay59 {A : zA} {U : zS} (h : RR (tape0 A) U) (ht : tpIs (A.2.1 0) U) (hI : AI A) {z : Nat} (hz : z < (A.2.1 0).length) (h1 : 1 ≤ z) (h24 : z ≤ 24) (h2000 : (A.2.1 0).length - z - 1 ≤ 2000) : j_M_lay_59 (mP (layB A z).1 (layB A z).2) U (nI (A.2.1 0).length) (nI z) 0 := by
  have hl := ht.1
  have hn : A.2.2.length ≤ 12 := h.f.2.1
  unfold j_M_lay_59
  rintro V rfl
  have hV := h.thr 0
  have htV : tpIs (A.2.1 0) (sM U 0 0 0) := ht
  have e0 : gM (sM U 0 0 0) 0 0 = 0 := rfl
  generalize sM U 0 0 0 = V at hV htV e0
  refine ⟨fun _ => ?_, fun w => absurd (by rw [e0]; decide) w⟩
  have e14 : gM V 0 14 = nI A.2.2.length := hV.f.1
  have loop : ∀ (r i : Nat), r + i = A.2.2.length → l_M_lay_76 (mP (layB A z).1 (layB A z).2) (r + 1) V (nI (A.2.1 0).length) (nI z) (fnd A ((A.2.1 0).take z) i) (nI i) := by
    intro r
    induction r with
    | zero =>
      intro i hi
      have hi : i = A.2.2.length := by omega
      unfold l_M_lay_76
      rw [e14]
      refine ⟨fun _ => ?_, fun w => absurd (nI_le (by omega) (by omega)) w⟩
      unfold fnd layB
      cases hf : findA A ((A.2.1 0).take z) with
      | none =>
        refine ⟨fun _ => ?_, fun w => absurd rfl w⟩
        unfold j_M_lay_124
        have q12 : nI A.2.2.length = (12 : Int32) ↔ A.2.2.length = 12 := nI_eq (by omega) (by decide)
        rw [e14, q12]
        refine ⟨fun _ => ⟨fun c => ?_, fun c => ?_⟩, fun w => absurd rfl w⟩
        · simp only
          rw [if_neg (by omega)]
          rintro S1 rfl
          exact ⟨hV.thr 3, rfl, fun w => absurd w (show ¬ (3 : Nat) = 0 by decide)⟩
        · simp only
          rw [if_pos (by omega)]
          have := m_lay_new (L := (A.2.1 0).length - z - 1) (P := mP (tape0 (aFiles A (A.2.2 ++ [((A.2.1 0).take z, (A.2.1 0).drop (z + 1))]))) (0, nI ((A.2.1 0).length - z - 1))) hV htV e0 (by omega) h24 h2000 (by omega) (fun W hW w0 => ⟨hW, w0, fun _ => rfl⟩)
          exact this
      | some k =>
        have hk := findA_lt hf
        obtain ⟨f, hfk, hfn⟩ := findA_name hf
        simp only
        rw [if_pos (by omega)]
        have ne : ¬ nI k = (-1 : Int32) := fun w => nI_pos (n := k) (by omega) (by rw [w]; decide)
        refine ⟨fun w => absurd w ne, fun _ => ?_⟩
        have ho : openA (tape0 A) k 10 = openA A k 10 := rfl
        refine r_openOf hV (by omega) ?_ hn hI
        rw [ho]
        have l0 : nI (openA A k 10) ≤ (0 : Int32) ↔ openA A k 10 = 0 := by
          have := openA_le A k 10
          rw [← nI_0, nI_leI (by omega) (by decide)]; omega
        rw [l0]
        refine ⟨fun c => ?_, fun c => ?_⟩
        · rw [if_pos c]
          unfold j_M_lay_124 j_M_lay_145
          refine ⟨fun w => absurd w ne, fun _ => ⟨fun w => absurd w ne, fun _ => ?_⟩⟩
          refine m_lay_old (L := (A.2.1 0).length - z - 1) hV htV e0 hfk (by omega) h2000 (fun W hW w0 => ⟨?_, w0, fun _ => rfl⟩)
          rw [hfn] at hW
          exact hW
        · rw [if_neg c]
          rintro S3 rfl
          exact ⟨hV.thr 2, rfl, fun w => absurd w (show ¬ (2 : Nat) = 0 by decide)⟩
    | succ r ih =>
      intro i hi
      have hi1 : i < A.2.2.length := by omega
      have hf : A.2.2[i]? = some A.2.2[i] := List.getElem?_eq_getElem hi1
      have nxt := ih (i + 1) (by omega)
      unfold l_M_lay_76
      rw [e14]
      refine ⟨fun w => ?_, fun _ => ?_⟩
      · rw [nI_leI (by omega) (by omega)] at w
        omega
      · refine m_isNamed (f := A.2.2[i]) hV htV (by omega) h24 hf ?_
        unfold j_M_lay_98
        rw [nI_1]
        by_cases c : A.2.2[i].1 = (A.2.1 0).take z
        · rw [if_pos c]
          refine ⟨fun w => absurd w (by decide), fun _ => ?_⟩
          have e : fnd A ((A.2.1 0).take z) (i + 1) = nI i := by
            unfold fnd
            cases hg : findA A ((A.2.1 0).take z) with
            | none => exact absurd c (findA_none hg i _ hf)
            | some k =>
              have := findA_first hg i _ hf hI.f c
              simp only
              rw [if_pos (by omega), this]
          rw [e] at nxt
          exact nxt
        · rw [if_neg c]
          refine ⟨fun _ => ?_, fun w => absurd rfl w⟩
          have e : fnd A ((A.2.1 0).take z) (i + 1) = fnd A ((A.2.1 0).take z) i := by
            unfold fnd
            cases hg : findA A ((A.2.1 0).take z) with
            | none => rfl
            | some k =>
              have hk : k ≠ i := fun w => by
                obtain ⟨g, hg1, hg2⟩ := findA_name hg
                rw [w, hf] at hg1
                exact c (by rw [Option.some.inj hg1]; exact hg2)
              simp only
              by_cases y : k < i
              · rw [if_pos y, if_pos (by omega)]
              · rw [if_neg y, if_neg (by omega)]
          rw [e] at nxt
          exact nxt
  have f0 : fnd A ((A.2.1 0).take z) 0 = -1 := by
    unfold fnd
    cases findA A ((A.2.1 0).take z) with
    | none => rfl
    | some k => exact if_neg (by omega)
  have := loop A.2.2.length 0 (by omega)
  rw [f0] at this
  exact ⟨_, this⟩
theorem m_lay {A : zA} {T : zS} (h : RR A T) (hI : AI A) : w_M_lay T (mP (layA A).1 (layA A).2) := by
  unfold w_M_lay
  refine r_use h (fun U hU ht => ?_)
  have hl := ht.1
  have bad : ∀ x2 : Int32, layA A = (tape0 A, 1, 0) → j_M_lay_54 (mP (layA A).1 (layA A).2) U (nI (A.2.1 0).length) x2 := by
    intro x2 e
    rw [e]
    unfold j_M_lay_54 j_M_lay_59
    rintro S1 rfl
    exact ⟨fun w => absurd w (t1 _), fun _ => ⟨hU.thr 1, rfl, fun w => absurd w n10⟩⟩
  have loop : ∀ (r i : Nat), r + i = (A.2.1 0).length → (∀ q, q < i → ¬ (A.2.1 0)[q]? = some 0) → l_M_lay_7 (mP (layA A).1 (layA A).2) (r + 1) U (nI (A.2.1 0).length) (nI i) := by
    intro r
    induction r with
    | zero =>
      intro i hi hq
      have hi : i = (A.2.1 0).length := by omega
      unfold l_M_lay_7 j_M_lay_27
      refine ⟨fun _ => ⟨fun _ => bad _ ?_, fun w => absurd (by rw [hi]) w⟩, fun w => absurd (nI_le (by omega) (by omega)) w⟩
      unfold layA
      rw [zpos_none (fun q hq9 => hq q (by omega))]
    | succ r ih =>
      intro i hi hq
      have hil : i < (A.2.1 0).length := by omega
      unfold l_M_lay_7
      rw [nI_clamp (show i < 2 ^ 31 by omega), ht.at hil]
      refine ⟨fun w => ?_, fun _ => ⟨vp_in_nI (by omega) (by decide), fun c => ?_, fun c => ?_⟩⟩
      · rw [nI_leI (by omega) (by omega)] at w
        omega
      · have hz : zpos (A.2.1 0) = some i := zpos_some (by rw [List.getElem?_eq_getElem hil, c]) hq
        have eA : layA A = if 1 ≤ i ∧ i ≤ 24 ∧ (A.2.1 0).length - i - 1 ≤ 2000 then layB A i else (tape0 A, 1, 0) := by
          unfold layA
          rw [hz]
          rfl
        have no : ¬ (1 ≤ i ∧ i ≤ 24 ∧ (A.2.1 0).length - i - 1 ≤ 2000) → layA A = (tape0 A, 1, 0) := fun w => by rw [eA, if_neg w]
        have l24 : (24 : Int32) < nI i ↔ 24 < i := nI_ltI (by decide) (by omega)
        have eL : nI (A.2.1 0).length - nI i - 1 = nI ((A.2.1 0).length - i - 1) := by
          rw [pk_sub (by omega), show (1 : Int32) = nI 1 from rfl, pk_sub (by omega)]
        have l2000 : nI ((A.2.1 0).length - i - 1) ≤ (2000 : Int32) ↔ (A.2.1 0).length - i - 1 ≤ 2000 := nI_leI (by omega) (by decide)
        have q0 : nI i = (0 : Int32) ↔ i = 0 := nI_eq (b := 0) (by omega) (by decide)
        unfold j_M_lay_27
        rw [nI_eq (by omega) (by omega), q0, l24, eL, l2000]
        refine ⟨fun w => absurd w (by omega), fun _ => ⟨fun d => bad _ (no (by omega)), fun d => ⟨fun d2 => bad _ (no (by omega)), fun d2 => ⟨fun d3 => ?_, fun d3 => bad _ (no (by omega))⟩⟩⟩⟩
        rw [eA, if_pos (by omega)]
        exact m_lay59 hU ht hI hil (by omega) (by omega) d3
      · rw [nI_1]
        exact ih (i + 1) (by omega) (fun q hq9 => by
          by_cases e : q = i
          · subst e
            rw [List.getElem?_eq_getElem hil]
            exact fun w => c (Option.some.inj w)
          · exact hq q (by omega))
  exact ⟨_, loop (A.2.1 0).length 0 (by omega) (fun q hq => absurd hq (by omega))⟩
