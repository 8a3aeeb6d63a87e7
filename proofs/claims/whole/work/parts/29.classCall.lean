/-! the other operations; one CALL -/
theorem mset_app (mm : Nat → Int32) (p : Nat) (l m : List Int32) : mset (mset mm p l) (p + l.length) m = mset mm p (l ++ m) := by
  funext i
  unfold mset
  rw [List.length_append]
  by_cases c : p + l.length ≤ i ∧ i < p + l.length + m.length
  · rw [if_pos c, if_pos (by omega), List.getElem?_append_right (by omega)]
    congr 2
    omega
  · rw [if_neg c]
    by_cases c2 : p ≤ i ∧ i < p + l.length
    · rw [if_pos c2, if_pos (by omega), List.getElem?_append_left (by omega)]
    · rw [if_neg c2, if_neg (by omega)]
theorem s_sb {S : zS} {mm : Nat → Int32} {p : Nat} {l : List Int32} (hm : memIs S (mset mm p l)) (hp : p + l.length < 16384) {v x : Int32} (hv : v &&& 255 = v) (hx : x = nI (p + l.length)) {P : zS → Prop} (h : ∀ S', offMem S S' → memIs S' (mset mm p (l ++ [v])) → P S') : w_Memory_storeByte x v S P := by
  refine s_storeByte hm _ _ (fun S' o m => h S' o ?_)
  rw [hx, un_nI (by omega), if_pos hp, hv, mset_snoc] at m
  exact m
theorem s_sw {S : zS} {mm : Nat → Int32} {p : Nat} {l : List Int32} (hm : memIs S (mset mm p l)) (hp : p + l.length + 4 ≤ 16384) {v x : Int32} (hx : x = nI (p + l.length)) {P : zS → Prop} (h : ∀ S', offMem S S' → memIs S' (mset mm p (l ++ bl v 4)) → P S') : w_Memory_storeWord x v S P := by
  rw [hx]
  refine s_storeWord hm hp v (fun S' o m => h S' o ?_)
  rw [mset_app] at m
  exact m
theorem byteN {m : Nat} (h : m < 256) : nI m &&& 255 = nI m := by
  rw [pk_andN (by omega) 8 rfl, Nat.mod_eq_of_lt (by omega)]
def tmpL (v : Nat) : List Int32 := [116, 109, 112, nI (48 + v / 100), nI (48 + v / 10 % 10), nI (48 + v % 10), 0]
def tempA (A : zA) (p v n : Int32) : zA × Int32 := if ¬ (un v ≤ 255 ∧ 7 ≤ un n) then failA A 22 else if ¬ un p + 7 ≤ 16384 then failA A 14 else (aMem A (mset (gM A.1 3) (un p) (tmpL (un v))), 0)
theorem s_temp {A : zA} {S : zS} (h : RC A S) (p v n : Int32) {P : zS → Int32 → Prop} (hP : hEnd (tempA A p v n) P) : w_Host_temporaryName p v n S P := by
  have hm : memIs S (gM A.1 3) := h.1.2.2.1
  unfold tempA at hP
  have bad : ¬ (un v ≤ 255 ∧ 7 ≤ un n) → j_Host_temporaryName_21 p v n P S := by
    intro z
    rw [if_pos z] at hP
    unfold j_Host_temporaryName_21
    exact s_fail h _ hP
  have good : (un v ≤ 255 ∧ 7 ≤ un n) → j_Host_temporaryName_28 p v n P S := by
    intro z
    rw [if_neg (fun w => w z)] at hP
    unfold j_Host_temporaryName_28
    refine s_hasArea _ _ ?_
    rw [show un 7 = 7 from rfl]
    by_cases c : un p + 7 ≤ 16384
    · rw [if_neg (fun w => w c)] at hP
      rw [if_pos c]
      refine ⟨fun w => absurd w (by decide), fun _ => ?_⟩
      have ep : p = nI (un p) := (nI_un p).symm
      have ev : v = nI (un v) := (nI_un v).symm
      have hv := z.1
      generalize un p = a at *
      generalize un v = d at *
      subst ep
      subst ev
      have d1 : (48 : Int32) + nI d / (100 : Int32) = nI (48 + d / 100) := by
        rw [show (100 : Int32) = nI 100 from rfl, pk_div (by omega) (by decide) (by decide), show (48 : Int32) = nI 48 from rfl, nI_add]
      have d2 : (48 : Int32) + (nI d / (10 : Int32) - nI d / (10 : Int32) / (10 : Int32) * (10 : Int32)) = nI (48 + d / 10 % 10) := by
        rw [show (10 : Int32) = nI 10 from rfl, pk_div (by omega) (by decide) (by decide), pk_rem (by omega) (by decide) (by decide), show (48 : Int32) = nI 48 from rfl, nI_add]
      have d3 : (48 : Int32) + (nI d - nI d / (10 : Int32) * (10 : Int32)) = nI (48 + d % 10) := by
        rw [show (10 : Int32) = nI 10 from rfl, pk_rem (by omega) (by decide) (by decide), show (48 : Int32) = nI 48 from rfl, nI_add]
      rw [d1, d2, d3]
      refine s_sb (p := a) (l := []) (by rw [mset_nil]; exact hm) (by simp; omega) (by decide) rfl (fun S1 o1 m1 => ?_)
      refine s_sb m1 (by simp; omega) (by decide) (by rw [show (1 : Int32) = nI 1 from rfl, nI_add]; rfl) (fun S2 o2 m2 => ?_)
      refine s_sb m2 (by simp; omega) (by decide) (by rw [show (2 : Int32) = nI 2 from rfl, nI_add]; rfl) (fun S3 o3 m3 => ?_)
      refine s_sb m3 (by simp; omega) (byteN (by omega)) (by rw [show (3 : Int32) = nI 3 from rfl, nI_add]; rfl) (fun S4 o4 m4 => ?_)
      refine s_sb m4 (by simp; omega) (byteN (by omega)) (by rw [show (4 : Int32) = nI 4 from rfl, nI_add]; rfl) (fun S5 o5 m5 => ?_)
      refine s_sb m5 (by simp; omega) (byteN (by omega)) (by rw [show (5 : Int32) = nI 5 from rfl, nI_add]; rfl) (fun S6 o6 m6 => ?_)
      refine s_sb m6 (by simp; omega) (by decide) (by rw [show (6 : Int32) = nI 6 from rfl, nI_add]; rfl) (fun S7 o7 m7 => ?_)
      exact hP _ (h.mem ((((((o1.tr o2).tr o3).tr o4).tr o5).tr o6).tr o7) m7)
    · rw [if_pos c] at hP
      rw [if_neg c]
      exact ⟨fun _ => s_fail h _ hP, fun w => absurd rfl w⟩
  unfold w_Host_temporaryName
  refine ⟨fun c => bad (by rw [neg_iff] at c; omega), fun c => ?_⟩
  have l255 : (255 : Int32) < v ↔ 255 < un v := by
    obtain ⟨e, hl⟩ := un_pos c
    rw [e, un_nI (by omega)]
    exact nI_ltI (by decide) hl
  rw [l255]
  refine ⟨fun c2 => bad (by omega), fun c2 => ⟨fun c3 => good (by rw [neg_iff] at c3; omega), fun c3 => ?_⟩⟩
  have l7 : (7 : Int32) ≤ n ↔ 7 ≤ un n := ge_iff (by decide) c3
  rw [l7]
  exact ⟨fun c4 => good (by omega), fun c4 => bad (by omega)⟩
def removeA (A : zA) (p n : Int32) : zA × Int32 := if ¬ faultA (gM A.1 3) p n = 0 then failA A (nI (faultA (gM A.1 3) p n)) else match findA A (bytesOf (gM A.1 3) (un p) (un n)) with
  | none => failA A 2
  | some k => if openA A k 10 = 0 then (aRemove A k, 0) else failA A 16
theorem s_rem {A : zA} {S : zS} (h : RC A S) (hI : AI A) (p n : Int32) {P : zS → Int32 → Prop} (hP : hEnd (removeA A p n) P) : w_Host_remove p n S P := by
  have hl := h.le12
  unfold w_Host_remove
  unfold removeA at hP
  refine s_bringName h (Or.inl rfl) p n (fun S1 h1 _ r1 _ => ?_)
  have q0 : nI (faultA (gM A.1 3) p n) = (0 : Int32) ↔ faultA (gM A.1 3) p n = 0 := nk (faultA_lt _ _ _) 0 (by decide)
  rw [q0]
  refine ⟨fun cf => ?_, fun cf => ?_⟩
  · rw [if_neg (fun z => z cf)] at hP
    refine s_find h1 (by decide) (r1 cf) ?_
    cases hf : findA A (bytesOf (gM A.1 3) (un p) (un n)) with
    | none =>
      rw [hf] at hP
      exact ⟨fun _ => s_fail h1 _ hP, fun q e => by cases e⟩
    | some k =>
      rw [hf] at hP
      simp only at hP
      have hk := findA_lt hf
      refine ⟨fun e => (by cases e), fun q e => ?_⟩
      have e := Option.some.inj e
      subst e
      refine s_openOn h1 hI (by omega) ?_
      have l0 : nI (openA A k 10) ≤ (0 : Int32) ↔ openA A k 10 = 0 := by
        have := openA_le A k 10
        rw [← nI_0, nI_leI (by omega) (by decide)]; omega
      rw [l0]
      refine ⟨fun c => ?_, fun c => ?_⟩
      · rw [if_pos c] at hP
        exact s_remove h1 hI hk c hP
      · rw [if_neg c] at hP
        exact s_fail h1 _ hP
  · rw [if_pos cf] at hP
    exact s_fail h1 _ hP
def renameA (A : zA) (p n to m : Int32) : zA × Int32 := if ¬ faultA (gM A.1 3) p n = 0 then failA A (nI (faultA (gM A.1 3) p n)) else if ¬ faultA (gM A.1 3) to m = 0 then failA A (nI (faultA (gM A.1 3) to m)) else match findA A (bytesOf (gM A.1 3) (un p) (un n)) with
  | none => failA A 2
  | some k => if ¬ openA A k 10 = 0 then failA A 16 else if findA A (bytesOf (gM A.1 3) (un to) (un m)) = none ∨ findA A (bytesOf (gM A.1 3) (un to) (un m)) = some k then (match A.2.2[k]? with | some f => (aFiles A (A.2.2.set k (bytesOf (gM A.1 3) (un to) (un m), f.2)), 0) | none => (A, 0)) else failA A 17
theorem s_rn120 {A : zA} {S : zS} (h : RC A S) {k : Nat} {f : List Int32 × List Int32} (hf : A.2.2[k]? = some f) {nm : List Int32} (hr : rowIs S 31 nm) {P : zS → Int32 → Prop} (hP : ∀ S', RC (aFiles A (A.2.2.set k (nm, f.2))) S' → P S' 0) : j_Host_rename_120 P S (some (gF S k)) := by
  have hk12 : k < 12 := Nat.lt_of_lt_of_le (List.getElem?_eq_some_iff.mp hf).1 h.le12
  have hg := h.fid hk12
  have hn := (h.frow hf).1
  have hl := hr.2.1
  rw [show capB 31 = 24 from rfl] at hl
  unfold j_Host_rename_120
  refine ⟨gF S k, rfl, hg, by omega, s_cut0 hn (by omega) (fun S1 o1 r1 => ⟨by decide, ?_⟩)⟩
  have hr1 := o1.row (show 31 ≠ 2 + 2 * gF S k by omega) hr
  refine s_size hr1 (by decide) ?_
  refine s_append (f := 0) r1 hr1 (by omega) (by decide) (by omega) (Nat.zero_le _) (by omega) (fun S2 o2 r2 => ?_)
  rw [capB_name hg, List.drop_zero, List.nil_append, List.length_nil, Nat.sub_zero, Nat.min_eq_left hl, List.take_length] at r2
  exact hP S2 (h.fchange hf true (o1.tr o2) r2)
theorem s_rename {A : zA} {S : zS} (h : RC A S) (hI : AI A) {a : Int32} (hb : gM S 0 5 = a) (ha : un a + 16 ≤ 16384) {P : zS → Int32 → Prop} (hP : hEnd (renameA A (fieldA A a 0) (fieldA A a 1) (fieldA A a 2) (fieldA A a 3)) P) : w_Host_rename S P := by
  have hl := h.le12
  unfold w_Host_rename
  refine s_field h hb (k := 0) (by omega) rfl (s_field h hb (k := 1) (by omega) rfl ?_)
  generalize fieldA A a 0 = p at hP ⊢
  generalize fieldA A a 1 = n at hP ⊢
  unfold renameA at hP
  refine s_bringName h (Or.inl rfl) p n (fun S1 h1 b1 r1 _ => ?_)
  have q0 : nI (faultA (gM A.1 3) p n) = (0 : Int32) ↔ faultA (gM A.1 3) p n = 0 := nk (faultA_lt _ _ _) 0 (by decide)
  have j42 : ∀ (S' : zS) (x : Int32), RC A S' → ¬ x = 0 → hEnd (failA A x) P → j_Host_rename_42 P S' x := by
    intro S' x h' hx hE
    unfold j_Host_rename_42
    exact ⟨fun z => absurd z hx, fun _ => s_fail h' _ hE⟩
  rw [q0]
  refine ⟨fun cf => ?_, fun cf => ?_⟩
  · rw [if_neg (fun z => z cf)] at hP
    refine s_field h1 (b1.trans hb) (k := 2) (by omega) rfl (s_field h1 (b1.trans hb) (k := 3) (by omega) rfl ?_)
    generalize fieldA A a 2 = to at hP ⊢
    generalize fieldA A a 3 = m at hP ⊢
    refine s_bringName h1 (Or.inr rfl) to m (fun S2 h2 b2 r2 k2 => ?_)
    have q2 : nI (faultA (gM A.1 3) to m) = (0 : Int32) ↔ faultA (gM A.1 3) to m = 0 := nk (faultA_lt _ _ _) 0 (by decide)
    by_cases cg : faultA (gM A.1 3) to m = 0
    · rw [if_neg (fun z => z cg)] at hP
      have e1 := k2 30 _ (by decide) (r1 cf)
      have e2 := r2 cg
      unfold j_Host_rename_42
      rw [q2]
      refine ⟨fun _ => ?_, fun z => absurd cg z⟩
      refine s_find h2 (by decide) e1 ?_
      cases hf : findA A (bytesOf (gM A.1 3) (un p) (un n)) with
      | none =>
        rw [hf] at hP
        exact ⟨fun _ => s_fail h2 _ hP, fun q e => by cases e⟩
      | some k =>
        rw [hf] at hP
        simp only at hP
        have hk := findA_lt hf
        obtain ⟨f, hfk, hfn⟩ := findA_name hf
        refine ⟨fun e => (by cases e), fun q e => ?_⟩
        have e := Option.some.inj e
        subst e
        refine s_openOn h2 hI (by omega) ?_
        have l0 : nI (openA A k 10) ≤ (0 : Int32) ↔ openA A k 10 = 0 := by
          have := openA_le A k 10
          rw [← nI_0, nI_leI (by omega) (by decide)]; omega
        rw [l0]
        refine ⟨fun c => ?_, fun c => ?_⟩
        · rw [if_neg (fun z => z c)] at hP
          refine s_find h2 (by decide) e2 ?_
          cases hg : findA A (bytesOf (gM A.1 3) (un to) (un m)) with
          | none =>
            rw [hg, if_pos (Or.inl rfl)] at hP
            simp only [hfk] at hP
            exact ⟨fun _ => s_rn120 h2 hfk e2 hP, fun q e => by cases e⟩
          | some j =>
            have hj := findA_lt hg
            rw [hg] at hP
            refine ⟨fun e => (by cases e), fun q e => ?_⟩
            have e := Option.some.inj e
            subst e
            refine ⟨fun z => ?_, fun z => ?_⟩
            · have ejk : j = k := h2.finj (by omega) (by omega) (Option.some.inj z)
              rw [ejk, if_pos (Or.inr rfl)] at hP
              simp only [hfk] at hP
              exact s_rn120 h2 hfk e2 hP
            · rw [if_neg (fun w => by
                rcases w with w | w
                · cases w
                · exact z (by rw [Option.some.inj w]))] at hP
              exact s_fail h2 _ hP
        · rw [if_pos c] at hP
          exact s_fail h2 _ hP
    · rw [if_pos cg] at hP
      exact j42 S2 _ h2 (fun z => cg (q2.mp z)) hP
  · rw [if_pos cf] at hP
    exact j42 S1 _ h1 (fun z => cf (q0.mp z)) hP
def tellA (A : zA) (a p n : Int32) : zA × Int32 := if ¬ (A.2.1 4).length + 1 ≤ un n then failA A 22 else if ¬ un p + ((A.2.1 4).length + 1) ≤ 16384 then failA A 14 else (aMem A (mset (mset (gM A.1 3) (un p) (A.2.1 4 ++ [0])) (un a + 4) (bl (nI (A.2.1 4).length) 4)), 0)
theorem s_tell {A : zA} {S : zS} (h : RC A S) {a : Int32} (hb : gM S 0 5 = a) (ha : un a + 8 ≤ 16384) (p n : Int32) {P : zS → Int32 → Prop} (hP : hEnd (tellA A a p n) P) : w_Host_tellCommand p n S P := by
  have hm : memIs S (gM A.1 3) := h.1.2.2.1
  have hr : rowIs S 29 (A.2.1 4) := h.2.1.1 4 (by decide)
  have hl := hr.2.1
  rw [show capB 29 = 80 from rfl] at hl
  unfold w_Host_tellCommand
  unfold tellA at hP
  refine ⟨by decide, s_size hr (by decide) ?_⟩
  have good : (A.2.1 4).length + 1 ≤ un n → j_Host_tellCommand_26 p n P S (nI (A.2.1 4).length) := by
    intro z
    rw [if_neg (fun w => w z)] at hP
    unfold j_Host_tellCommand_26
    refine s_hasArea _ _ ?_
    rw [nI_1, un_nI (by omega)]
    by_cases c : un p + ((A.2.1 4).length + 1) ≤ 16384
    · rw [if_neg (fun w => w c)] at hP
      rw [if_pos c]
      refine ⟨fun w => absurd w (by decide), fun _ => ?_⟩
      have ep : p = nI (un p) := (nI_un p).symm
      generalize un p = d at *
      subst ep
      have := s_bringBytes (f := 0) (p := d) (n := (A.2.1 4).length) hm hr (by decide) (by decide) (by omega) (P := fun S3 r4 => w_Memory_storeByte (nI d + nI (A.2.1 4).length) 0 S3 (fun S5 => w_Memory_storeWord (gM S5 0 5 + 4) (nI (A.2.1 4).length) S5 (fun S6 => P S6 0))) (fun S1 o1 m1 => ?_)
      · exact this
      · rw [List.drop_zero, List.take_length] at m1
        refine s_sb m1 (by omega) (by decide) (by rw [nI_add]) (fun S2 o2 m2 => ?_)
        rw [(o1.tr o2).1 0 5 (by decide), hb, ← nI_un a, show (4 : Int32) = nI 4 from rfl, nI_add]
        refine s_storeWord m2 (by omega) _ (fun S3 o3 m3 => ?_)
        exact hP _ (h.mem ((o1.tr o2).tr o3) m3)
    · rw [if_pos c] at hP
      rw [if_neg c]
      exact ⟨fun _ => s_fail h _ hP, fun w => absurd rfl w⟩
  refine ⟨fun c => good (by rw [neg_iff] at c; omega), fun c => ?_⟩
  rw [nI_1, ge_iff (by omega) c]
  refine ⟨good, fun c2 => ?_⟩
  rw [if_pos c2] at hP
  exact s_fail h _ hP
def heapL : List Int32 := bl 8192 4 ++ bl 12288 4 ++ bl 16384 4 ++ bl 12288 4
def heapA (A : zA) (p : Int32) : zA × Int32 := if un p % 4 = 0 ∧ un p + 16 ≤ 16384 then (aMem A (mset (gM A.1 3) (un p) heapL), 0) else failA A 14
theorem s_heap {A : zA} {S : zS} (h : RC A S) (p : Int32) {P : zS → Int32 → Prop} (hP : hEnd (heapA A p) P) : w_Host_tellHeap p S P := by
  have hm : memIs S (gM A.1 3) := h.1.2.2.1
  unfold w_Host_tellHeap
  unfold heapA at hP
  have bad : ¬ (un p % 4 = 0 ∧ un p + 16 ≤ 16384) → j_Host_tellHeap_23 p P S := by
    intro z
    rw [if_neg z] at hP
    unfold j_Host_tellHeap_23
    exact s_fail h _ hP
  rw [and3]
  refine ⟨fun c => s_hasArea _ _ ?_, fun c => bad (by omega)⟩
  rw [show un ((4 : Int32) * 4) = 16 from rfl]
  by_cases c2 : un p + 16 ≤ 16384
  · rw [if_pos c2]
    rw [if_pos ⟨c, c2⟩] at hP
    refine ⟨fun w => absurd w (by decide), fun _ => ?_⟩
    have ep : p = nI (un p) := (nI_un p).symm
    generalize un p = d at *
    subst ep
    have step : ∀ (n i : Nat) (T : zS) (l : List Int32), i < 4 → l.length = 4 * i → memIs T (mset (gM A.1 3) d l) → (∀ T', offMem T T' → memIs T' (mset (gM A.1 3) d (l ++ bl (zHp i) 4)) → l_Host_tellHeap_32 (nI d) P n T' (nI (i + 1))) → l_Host_tellHeap_32 (nI d) P (n + 1) T (nI i) := by
      intro n i T l hi hll hmT hk
      unfold l_Host_tellHeap_32
      refine ⟨fun z => ?_, fun _ => ⟨vp_in_nI hi (by decide), ?_⟩⟩
      · rw [show (4 : Int32) = nI 4 from rfl, nI_leI (by decide) (by omega)] at z
        omega
      · rw [nI_clamp (by omega)]
        refine s_sw hmT (by omega) (by rw [show (4 : Int32) = nI 4 from rfl, pk_mul, nI_add, hll]) (fun T' o m => ?_)
        rw [nI_1]
        exact hk T' o m
    refine ⟨5, step 4 0 S [] (by decide) rfl (by rw [mset_nil]; exact hm) (fun S1 o1 m1 => ?_)⟩
    refine step 3 1 S1 _ (by decide) rfl m1 (fun S2 o2 m2 => ?_)
    refine step 2 2 S2 _ (by decide) rfl m2 (fun S3 o3 m3 => ?_)
    refine step 1 3 S3 _ (by decide) rfl m3 (fun S4 o4 m4 => ?_)
    unfold l_Host_tellHeap_32
    refine ⟨fun _ => ?_, fun z => absurd (show (4 : Int32) ≤ nI 4 by decide) z⟩
    exact hP _ (h.mem (((o1.tr o2).tr o3).tr o4) m4)
  · rw [if_neg c2]
    exact ⟨fun _ => bad (by omega), fun w => absurd rfl w⟩
def exitA (A : zA) (r c : Int32) : zA × Int32 := (aM (aM A 0 2 1) 0 4 (if r = 131110 then c else 1), 0)
theorem s_exit {A : zA} {S : zS} (h : RC A S) (r c : Int32) {P : zS → Int32 → Prop} (hP : hEnd (exitA A r c) P) : w_Host_exit r c S P := by
  unfold w_Host_exit j_Host_exit_16 w_Guest_exit
  unfold exitA at hP
  refine ⟨fun z => ?_, fun z => ?_⟩
  · rw [if_pos z] at hP
    rintro S1 rfl S2 rfl
    exact hP _ ((h.sc (by decide) 1).sc (by decide) c)
  · rw [if_neg z] at hP
    rintro S1 rfl S2 rfl
    exact hP _ ((h.sc (by decide) 1).sc (by decide) 1)
def hiA (j : Int64) : Int32 := ((j.toUInt64 >>> ((32 : Int32).toInt64.toUInt64 &&& Int64.toUInt64 63)).toInt64).toInt32
def elapsedA (A : zA) (a : Int32) : zA × Int32 := if un a % 4 = 0 ∧ un a + 8 ≤ 16384 then (aMem A (mset (gM A.1 3) (un a) (bl (gJ A.1).toInt32 4 ++ bl (hiA (gJ A.1)) 4)), 0) else failA A 14
theorem s_elapsed {A : zA} {S : zS} (h : RC A S) {a : Int32} (hb : gM S 0 5 = a) {P : zS → Int32 → Prop} (hP : hEnd (elapsedA A a) P) : w_Host_tellSteps S P := by
  have hm : memIs S (gM A.1 3) := h.1.2.2.1
  have hJ : gJ S = gJ A.1 := h.1.2.2.2.2
  unfold w_Host_tellSteps
  unfold elapsedA at hP
  rw [hb]
  have bad : ¬ (un a % 4 = 0 ∧ un a + 8 ≤ 16384) → j_Host_tellSteps_25 P S := by
    intro z
    rw [if_neg z] at hP
    unfold j_Host_tellSteps_25
    exact s_fail h _ hP
  rw [and3]
  refine ⟨fun c => s_hasArea _ _ ?_, fun c => bad (by omega)⟩
  rw [show un 8 = 8 from rfl]
  by_cases c2 : un a + 8 ≤ 16384
  · rw [if_pos c2]
    rw [if_pos ⟨c, c2⟩] at hP
    refine ⟨fun w => absurd w (by decide), fun _ => ?_⟩
    rw [hb, hJ]
    refine s_sw (p := un a) (l := []) (by rw [mset_nil]; exact hm) (by simp; omega) (nI_un a).symm (fun S1 o1 m1 => ?_)
    rw [o1.1 0 5 (by decide), hb, gJ_of (off2 o1.2), hJ]
    refine s_sw m1 (by simp [bl_len]; omega) (by rw [List.nil_append, bl_len, ← nI_add, nI_un]; rfl) (fun S2 o2 m2 => ?_)
    exact hP _ (h.mem (o1.tr o2) m2)
  · rw [if_neg c2]
    exact ⟨fun _ => bad (by omega), fun w => absurd rfl w⟩
def centA (j : Int64) : Int32 := ((j &&& (4294967295 : Int64)) / (100 : Int64)).toInt32
def otherA (A : zA) (o a : Int32) : zA × Int32 :=
  if o = 16 then (A, centA (gJ A.1))
  else if o = 17 then (A, gM A.1 0 7)
  else if o = 19 then (A, gM A.1 0 6)
  else if o = 21 then tellA A a (fieldA A a 0) (fieldA A a 1)
  else if o = 22 then heapA A (fieldA A a 0)
  else if o = 24 then exitA A a 0
  else if o = 32 then exitA A (fieldA A a 0) (fieldA A a 1)
  else if o = 48 then elapsedA A a
  else if o = 49 then (A, 1000)
  else failA A 38
theorem s_other {A : zA} {S : zS} (h : RC A S) {a o : Int32} (hb : gM S 0 5 = a) (ok : okA a (fieldsA o) = true) {P : zS → Int32 → Prop} (hP : hEnd (otherA A o a) P) : w_Host_performOther o S P := by
  have hJ : gJ S = gJ A.1 := h.1.2.2.2.2
  rw [okA_iff] at ok
  unfold w_Host_performOther
  unfold otherA at hP
  refine ⟨fun c => ?_, fun c => ?_⟩
  · rw [if_pos c] at hP
    rw [hJ]
    exact hP S h
  rw [if_neg c] at hP
  refine ⟨fun c => ?_, fun c => ?_⟩
  · rw [if_pos c] at hP
    rw [h.1.1 7 (by unfold scOk; omega)]
    exact hP S h
  rw [if_neg c] at hP
  refine ⟨fun c => ?_, fun c => ?_⟩
  · rw [if_pos c] at hP
    rw [h.1.1 6 (by unfold scOk; omega)]
    exact hP S h
  rw [if_neg c] at hP
  refine ⟨fun c => ?_, fun c => ?_⟩
  · rw [if_pos c] at hP
    subst c
    have : fieldsA 21 = 2 := rfl
    exact s_field h hb (k := 0) (by omega) rfl (s_field h hb (k := 1) (by omega) rfl (s_tell h hb (by omega) _ _ hP))
  rw [if_neg c] at hP
  refine ⟨fun c => ?_, fun c => ?_⟩
  · rw [if_pos c] at hP
    subst c
    have : fieldsA 22 = 1 := rfl
    exact s_field h hb (k := 0) (by omega) rfl (s_heap h _ hP)
  rw [if_neg c] at hP
  refine ⟨fun c => ?_, fun c => ?_⟩
  · rw [if_pos c] at hP
    rw [hb]
    exact s_exit h _ _ hP
  rw [if_neg c] at hP
  refine ⟨fun c => ?_, fun c => ?_⟩
  · rw [if_pos c] at hP
    subst c
    have : fieldsA 32 = 2 := rfl
    exact s_field h hb (k := 0) (by omega) rfl (s_field h hb (k := 1) (by omega) rfl (s_exit h _ _ hP))
  rw [if_neg c] at hP
  refine ⟨fun c => ?_, fun c => ?_⟩
  · rw [if_pos c] at hP
    exact s_elapsed h hb hP
  rw [if_neg c] at hP
  refine ⟨fun c => ?_, fun c => ?_⟩
  · rw [if_pos c] at hP
    exact hP S h
  rw [if_neg c] at hP
  exact s_fail h _ hP
def performA (A : zA) (o a : Int32) : zA × Int32 :=
  if o = 1 then openC A (fieldA A a 0) (fieldA A a 1) (fieldA A a 2)
  else if o = 2 then closeA A (fieldA A a 0)
  else if o = 3 then textA A a (if un a + 1 ≤ 16384 then some 1 else none)
  else if o = 4 then textA A a (zlen (gM A.1 3) (un a))
  else if o = 5 then writeA A (fieldA A a 0) (fieldA A a 1) (fieldA A a 2)
  else if o = 6 then readA A (fieldA A a 0) (fieldA A a 1) (fieldA A a 2)
  else if o = 7 then readByteA A
  else if o = 8 then (A, nI (un (fieldA A a 0) / 2147483648))
  else if o = 9 then isConA A (fieldA A a 0)
  else if o = 10 then seekA A (fieldA A a 0) (fieldA A a 1)
  else if o = 12 then lengthA A (fieldA A a 0)
  else if o = 13 then tempA A (fieldA A a 0) (fieldA A a 1) (fieldA A a 2)
  else if o = 14 then removeA A (fieldA A a 0) (fieldA A a 1)
  else if o = 15 then renameA A (fieldA A a 0) (fieldA A a 1) (fieldA A a 2) (fieldA A a 3)
  else otherA A o a
theorem zlen_lt {mm : Nat → Int32} {p k : Nat} (h : zlen mm p = some k) : p + k < 16384 := by
  unfold zlen at h
  have := List.mem_of_find?_eq_some h
  rw [List.mem_range] at this
  omega
theorem s_perform {A : zA} {S : zS} (h : RC A S) (hI : AI A) {a o : Int32} (hb : gM S 0 5 = a) (ok : okA a (fieldsA o) = true) {P : zS → Int32 → Prop} (hP : hEnd (performA A o a) P) : w_Host_perform o S P := by
  have ok' := ok
  rw [okA_iff] at ok
  unfold w_Host_perform
  unfold performA at hP
  refine ⟨fun c => ?_, fun c => ?_⟩
  · rw [if_pos c] at hP
    subst c
    have : fieldsA 1 = 3 := rfl
    exact s_field h hb (k := 0) (by omega) rfl (s_field h hb (k := 1) (by omega) rfl (s_field h hb (k := 2) (by omega) rfl (s_open h _ _ _ hP)))
  rw [if_neg c] at hP
  refine ⟨fun c => ?_, fun c => ?_⟩
  · rw [if_pos c] at hP
    subst c
    have : fieldsA 2 = 1 := rfl
    exact s_field h hb (k := 0) (by omega) rfl (s_close h _ hP)
  rw [if_neg c] at hP
  refine ⟨fun c => ?_, fun c => ?_⟩
  · rw [if_pos c] at hP
    rw [hb]
    refine s_hasArea _ _ ?_
    rw [show un 1 = 1 from rfl]
    unfold j_Host_perform_127
    by_cases c2 : un a + 1 ≤ 16384
    · rw [if_pos c2] at hP ⊢
      exact ⟨fun z => absurd z (by decide), fun _ => s_text1 (q := 1) h hb c2 hP⟩
    · rw [if_neg c2] at hP ⊢
      exact ⟨fun _ => s_text0 h hP, fun z => absurd rfl z⟩
  rw [if_neg c] at hP
  refine ⟨fun c => ?_, fun c => ?_⟩
  · rw [if_pos c] at hP
    rw [hb]
    refine s_lengthUpToZero h.1.2.2.1 a ?_
    cases hz : zlen (gM A.1 3) (un a) with
    | none =>
      rw [hz] at hP
      exact s_text0 h hP
    | some k =>
      rw [hz] at hP
      have := zlen_lt hz
      exact s_text1 h hb (by omega) hP
  rw [if_neg c] at hP
  refine ⟨fun c => ?_, fun c => ?_⟩
  · rw [if_pos c] at hP
    subst c
    have : fieldsA 5 = 3 := rfl
    exact s_field h hb (k := 0) (by omega) rfl (s_field h hb (k := 1) (by omega) rfl (s_field h hb (k := 2) (by omega) rfl (s_write h hI _ _ _ hP)))
  rw [if_neg c] at hP
  refine ⟨fun c => ?_, fun c => ?_⟩
  · rw [if_pos c] at hP
    subst c
    have : fieldsA 6 = 3 := rfl
    exact s_field h hb (k := 0) (by omega) rfl (s_field h hb (k := 1) (by omega) rfl (s_field h hb (k := 2) (by omega) rfl (s_read h hI _ _ _ hP)))
  rw [if_neg c] at hP
  refine ⟨fun c => ?_, fun c => ?_⟩
  · rw [if_pos c] at hP
    exact s_readByte h hP
  rw [if_neg c] at hP
  refine ⟨fun c => ?_, fun c => ?_⟩
  · rw [if_pos c] at hP
    subst c
    have : fieldsA 8 = 1 := rfl
    refine s_field h hb (k := 0) (by omega) rfl ?_
    have e : ∀ x : Int32, (x.toUInt32 >>> ((31 : Int32).toUInt32 &&& Int32.toUInt32 31)).toInt32 = nI (un x / 2147483648) := fun x => by
      rw [← nI_un ((x.toUInt32 >>> ((31 : Int32).toUInt32 &&& Int32.toUInt32 31)).toInt32)]
      congr 1
      exact pk_ushr x 31 31 (by decide)
    rw [e]
    exact hP S h
  rw [if_neg c] at hP
  refine ⟨fun c => ?_, fun c => ?_⟩
  · rw [if_pos c] at hP
    subst c
    have : fieldsA 9 = 1 := rfl
    exact s_field h hb (k := 0) (by omega) rfl (s_isConsole h hI _ hP)
  rw [if_neg c] at hP
  refine ⟨fun c => ?_, fun c => ?_⟩
  · rw [if_pos c] at hP
    subst c
    have : fieldsA 10 = 2 := rfl
    exact s_field h hb (k := 0) (by omega) rfl (s_field h hb (k := 1) (by omega) rfl (s_seek h hI _ _ hP))
  rw [if_neg c] at hP
  refine ⟨fun c => ?_, fun c => ?_⟩
  · rw [if_pos c] at hP
    subst c
    have : fieldsA 12 = 1 := rfl
    exact s_field h hb (k := 0) (by omega) rfl (s_length h hI _ hP)
  rw [if_neg c] at hP
  refine ⟨fun c => ?_, fun c => ?_⟩
  · rw [if_pos c] at hP
    subst c
    have : fieldsA 13 = 3 := rfl
    exact s_field h hb (k := 0) (by omega) rfl (s_field h hb (k := 1) (by omega) rfl (s_field h hb (k := 2) (by omega) rfl (s_temp h _ _ _ hP)))
  rw [if_neg c] at hP
  refine ⟨fun c => ?_, fun c => ?_⟩
  · rw [if_pos c] at hP
    subst c
    have : fieldsA 14 = 2 := rfl
    exact s_field h hb (k := 0) (by omega) rfl (s_field h hb (k := 1) (by omega) rfl (s_rem h hI _ _ hP))
  rw [if_neg c] at hP
  refine ⟨fun c => ?_, fun c => ?_⟩
  · rw [if_pos c] at hP
    subst c
    have : fieldsA 15 = 4 := rfl
    exact s_rename h hI hb (by omega) hP
  rw [if_neg c] at hP
  exact s_other h hb ok' hP
def callA0 (A : zA) : zA := aM (aM A 0 8 (gM A.1 0 8 + 1)) 0 9 (gM A.1 2 10)
def callA1 (A : zA) : zA × Int32 := if okA (gM A.1 2 11) (fieldsA (gM A.1 2 10)) = true then performA (callA0 A) (gM A.1 2 10) (gM A.1 2 11) else failA (callA0 A) 14
def callA (A : zA) : zA := if gM (callA1 A).1.1 0 2 = 0 then aM (aM (callA1 A).1 2 10 (callA1 A).2) 0 0 (gM (callA1 A).1.1 0 0 + 8) else (callA1 A).1
theorem AI_call0 {A : zA} (hI : AI A) : AI (callA0 A) := hI
theorem s_ac63 {A : zA} {S : zS} (h : RC A S) (r : Int32) {P : zS → Prop} (hP : ∀ S', RC (if gM A.1 0 2 = 0 then aM (aM A 2 10 r) 0 0 (gM A.1 0 0 + 8) else A) S' → P S') : j_Host_answerCall_63 P S r := by
  unfold j_Host_answerCall_63
  rw [h.1.1 2 (by unfold scOk; omega)]
  refine ⟨fun c => ?_, fun c => ?_⟩
  · rw [if_pos c] at hP
    unfold w_Guest_goOnBehindCall
    refine ⟨vp_in_nI (n := 10) (by decide) (by decide), ?_⟩
    rintro S2 rfl S3 rfl
    have h2 := h.reg 10 r
    have e : gM (sM S 2 (10 : Int32).toNatClampNeg r) 0 0 = gM A.1 0 0 := h.pc
    rw [e]
    exact hP _ (h2.sc (by decide) _)
  · rw [if_neg c] at hP
    exact hP S h
theorem s_answerCall {A : zA} {S : zS} (h : RC A S) (hI : AI A) {P : zS → Prop} (hP : ∀ S', RC (callA A) S' → P S') : w_Host_answerCall S P := by
  unfold w_Host_answerCall
  refine s_value h 10 (s_value h 11 ?_)
  rw [show un 10 % 32 = 10 from rfl, show un 11 % 32 = 11 from rfl]
  rintro S5 rfl S6 rfl S7 rfl
  have e8 : gM (sM S 0 5 (gM A.1 2 11)) 0 8 = gM A.1 0 8 := by
    rw [gM_sM, if_pos rfl, if_neg (by decide)]
    exact h.1.1 8 (by unfold scOk; omega)
  rw [e8]
  have h7 : RC (callA0 A) (sM (sM (sM S 0 5 (gM A.1 2 11)) 0 8 (gM A.1 0 8 + 1)) 0 9 (gM A.1 2 10)) := ((h.sc0 (Or.inr rfl) _).sc (by decide) _).sc (by decide) _
  have b7 : gM (sM (sM (sM S 0 5 (gM A.1 2 11)) 0 8 (gM A.1 0 8 + 1)) 0 9 (gM A.1 2 10)) 0 5 = gM A.1 2 11 := rfl
  generalize sM (sM (sM S 0 5 (gM A.1 2 11)) 0 8 (gM A.1 0 8 + 1)) 0 9 (gM A.1 2 10) = T at h7 b7
  refine s_fieldsOf _ (s_hasFields b7 (fieldsA_le _) ?_)
  unfold callA callA1 at hP
  by_cases c : okA (gM A.1 2 11) (fieldsA (gM A.1 2 10)) = true
  · rw [if_pos c] at hP ⊢
    refine ⟨fun z => absurd z (by decide), fun _ => ?_⟩
    exact s_perform h7 (AI_call0 hI) b7 c (fun S' h' => s_ac63 h' _ hP)
  · rw [if_neg c] at hP ⊢
    refine ⟨fun _ => ?_, fun z => absurd rfl z⟩
    exact s_fail h7 _ (fun S' h' => s_ac63 h' _ hP)
