/-! pure: handles that are opened and shut; files that are found, made, gone -/
def aOpen (A : zA) (h : Nat) (kd : Int32) (its : Option Nat) (pl rt : Int32) : zA := aH (aM (aM (aM A 4 h kd) 5 h pl) 6 h rt) h its
theorem gM_aOpen (A : zA) (h : Nat) (kd : Int32) (its : Option Nat) (pl rt : Int32) (c q : Nat) : gM (aOpen A h kd its pl rt).1 c q = if q = h then (if c = 4 then kd else if c = 5 then pl else if c = 6 then rt else gM A.1 c q) else gM A.1 c q := by
  show gM (sM (sM (sM A.1 4 h kd) 5 h pl) 6 h rt) c q = _
  rw [gM_sM, gM_sM, gM_sM]
  by_cases h1 : q = h
  · subst h1
    by_cases h6 : c = 6
    · subst h6; simp
    · by_cases h5 : c = 5
      · subst h5; simp
      · by_cases h4 : c = 4
        · subst h4; simp
        · simp [h4, h5, h6]
  · simp [h1]
theorem gH_aOpen (A : zA) (h : Nat) (kd : Int32) (its : Option Nat) (pl rt : Int32) (q : Nat) : gH (aOpen A h kd its pl rt).1 q = if q = h then its else gH A.1 q := rfl
theorem RC.hset {A : zA} {S S' : zS} (h : RC A S) {i : Nat} {kd pl rt : Int32} {its : Option Nat} (hi : i < 10) (h1 : ∀ c q, ¬ (q = i ∧ (c = 4 ∨ c = 5 ∨ c = 6)) → gM S' c q = gM S c q) (h4 : gM S' 4 i = kd) (h5 : kd ≠ 0 → gM S' 5 i = pl ∧ gM S' 6 i = rt)
    (hR : S'.2.1 = S.2.1) (hF : S'.2.2.1 = S.2.2.1) (hJ : S'.2.2.2.2 = S.2.2.2.2) (hH : ∀ q, gH S' q = if q = i then (if kd = 1 then its.map (gF S) else none) else gH S q) : RC (aOpen A i kd its pl rt) S' := by
  obtain ⟨⟨n1, n2, n3, n4, n5⟩, ⟨r1, ⟨l1, r2⟩, ⟨l2, r3⟩, l3, r4⟩, ⟨f1, f2, f3, f4, f5, f6⟩, g1, g2, g3⟩ := h
  have w : ∀ c q, c ≠ 4 → c ≠ 5 → c ≠ 6 → gM S' c q = gM S c q := fun c q a b d => h1 c q (fun z => by rcases z.2 with z | z | z <;> contradiction)
  have wA : ∀ c q, c ≠ 4 → c ≠ 5 → c ≠ 6 → gM (aOpen A i kd its pl rt).1 c q = gM A.1 c q := fun c q a b d => by rw [gM_aOpen]; simp [a, b, d]
  have eF : ∀ k, gF S' k = gF S k := fun k => by unfold gF; rw [hF]
  have eF' : gF S' = gF S := funext eF
  have eR : ∀ b k, gR S' b k = gR S b k := fun b k => by unfold gR; rw [hR]
  have row : ∀ b l, rowIs S b l → rowIs S' b l := fun b l hr => ⟨(w 8 b (by decide) (by decide) (by decide)).trans hr.1, hr.2.1, fun k hk => by rw [eR]; exact hr.2.2 k hk⟩
  refine ⟨⟨fun j hj => ?_, fun r hr => ?_, fun q hq => ?_, fun j hj => ?_, ?_⟩, ⟨fun t ht => row _ _ (r1 t ht), ⟨l1, row _ _ r2⟩, ⟨l2, row _ _ r3⟩, l3, row _ _ r4⟩, ⟨?_, f2, fun k hk => ?_, fun k q hk hq e => ?_, fun k f hf => ?_, fun k hk => ?_⟩, fun q hq => ?_, fun q hq hne => ?_, fun q hq => ?_⟩
  · rw [w 0 j (by decide) (by decide) (by decide), wA 0 j (by decide) (by decide) (by decide)]; exact n1 j hj
  · rw [w 2 r (by decide) (by decide) (by decide), wA 2 r (by decide) (by decide) (by decide)]; exact n2 r hr
  · rw [w 3 q (by decide) (by decide) (by decide), wA 3 q (by decide) (by decide) (by decide)]; exact n3 q hq
  · rw [w 7 j (by decide) (by decide) (by decide), wA 7 j (by decide) (by decide) (by decide)]; exact n4 j hj
  · show S'.2.2.2.2 = A.1.2.2.2.2
    rw [hJ]; exact n5
  · rw [w 0 10 (by decide) (by decide) (by decide)]; exact f1
  · rw [eF]; exact f3 k hk
  · rw [eF, eF] at e; exact f4 k q hk hq e
  · rw [eF]; exact ⟨row _ _ (f5 k f hf).1, row _ _ (f5 k f hf).2⟩
  · obtain ⟨⟨l, hl⟩, l', hl'⟩ := f6 k hk
    exact ⟨⟨l, row _ _ hl⟩, l', row _ _ hl'⟩
  · rw [gM_aOpen]
    by_cases e : q = i
    · subst e; simp [h4]
    · rw [if_neg e, h1 4 q (fun z => e z.1)]; exact g1 q hq
  · rw [gM_aOpen] at hne
    rw [gM_aOpen, gM_aOpen]
    by_cases e : q = i
    · subst e
      simp at hne
      simp [h5 hne]
    · rw [if_neg e] at hne
      rw [if_neg e, if_neg e, h1 5 q (fun z => e z.1), h1 6 q (fun z => e z.1)]; exact g2 q hq hne
  · rw [hH, gM_aOpen, gH_aOpen, eF']
    by_cases e : q = i
    · subst e; simp
    · rw [if_neg e, if_neg e, if_neg e]; exact g3 q hq
/-- what a mode makes of a console's handle, of a file's -/
def conKind (m : Nat) : Int32 := if m < 4 then 2 else if m < 8 then 3 else 4
def conMay (m : Nat) : Int32 := if m < 4 then 1 else 2
def fileMay (m : Nat) : Int32 := if m < 4 then (if m % 4 < 2 then 1 else 3) else if m < 8 then (if m % 4 < 2 then 2 else 3) else (if m % 4 < 2 then 6 else 7)
theorem gM_sH (S : zS) (h : Nat) (v : Option Nat) (c q : Nat) : gM (sH S h v) c q = gM S c q := rfl
theorem gH_sH (S : zS) (h : Nat) (v : Option Nat) (q : Nat) : gH (sH S h v) q = if q = h then v else gH S q := rfl
theorem gH_sM (S : zS) (c i : Nat) (v : Int32) (q : Nat) : gH (sM S c i v) q = gH S q := rfl
theorem hset3 (S : zS) (i : Nat) (kd pl rt : Int32) (f : Option Nat) : ∀ c q, ¬ (q = i ∧ (c = 4 ∨ c = 5 ∨ c = 6)) → gM (sM (sM (sH (sM S 4 i kd) i f) 5 i pl) 6 i rt) c q = gM S c q := by
  intro c q hne
  rw [gM_sM, gM_sM, gM_sH, gM_sM]
  by_cases e : q = i
  · have h4 : c ≠ 4 := fun z => hne ⟨e, Or.inl z⟩
    have h5 : c ≠ 5 := fun z => hne ⟨e, Or.inr (Or.inl z)⟩
    have h6 : c ≠ 6 := fun z => hne ⟨e, Or.inr (Or.inr z)⟩
    simp [h4, h5, h6]
  · simp [e]
theorem s_openConsole {A : zA} {S : zS} (h : RC A S) {i m : Nat} (hi : i < 10) (hm : m ≤ 11) {P : zS → Prop} (hP : ∀ S', RC (aOpen A i (conKind m) none 0 (conMay m)) S' → P S') : w_Handle_openConsole i (nI m) S P := by
  have fin : ∀ kd rt : Int32, kd ≠ 1 → kd = conKind m → rt = conMay m → P (sM (sM (sH (sM S 4 i kd) i none) 5 i 0) 6 i rt) := by
    intro kd rt hk e1 e2
    subst e1; subst e2
    refine hP _ (h.hset hi (hset3 S i _ _ _ _) (by simp [gM_sM, gM_sH]) (fun _ => ⟨by simp [gM_sM], by simp [gM_sM]⟩) rfl rfl rfl (fun q => ?_))
    rw [gH_sM, gH_sM, gH_sH, gH_sM, if_neg hk]
  have c4 : (4 : Int32) ≤ nI m ↔ 4 ≤ m := nI_leI (by decide) (by omega)
  have c8 : (8 : Int32) ≤ nI m ↔ 8 ≤ m := nI_leI (by decide) (by omega)
  unfold w_Handle_openConsole
  rw [c4, c8]
  refine ⟨fun q4 => ⟨fun q8 => ?_, fun q8 => ?_⟩, fun q4 => ?_⟩
  · unfold j_Handle_openConsole_21
    refine ⟨hi, ?_⟩
    rintro S2 rfl
    refine ⟨hi, ?_⟩
    rintro S4 rfl S5 rfl
    rw [c4]
    refine ⟨fun _ => ⟨hi, ?_⟩, fun z => absurd q4 z⟩
    rintro S6 rfl
    exact fin 4 2 (by decide) (by unfold conKind; rw [if_neg (by omega), if_neg (by omega)]) (by unfold conMay; rw [if_neg (by omega)])
  · unfold j_Handle_openConsole_21
    refine ⟨hi, ?_⟩
    rintro S2 rfl
    refine ⟨hi, ?_⟩
    rintro S4 rfl S5 rfl
    rw [c4]
    refine ⟨fun _ => ⟨hi, ?_⟩, fun z => absurd q4 z⟩
    rintro S6 rfl
    exact fin 3 2 (by decide) (by unfold conKind; rw [if_neg (by omega), if_pos (by omega)]) (by unfold conMay; rw [if_neg (by omega)])
  · unfold j_Handle_openConsole_21
    refine ⟨hi, ?_⟩
    rintro S2 rfl
    refine ⟨hi, ?_⟩
    rintro S4 rfl S5 rfl
    rw [c4]
    refine ⟨fun z => absurd z q4, fun _ => ⟨hi, ?_⟩⟩
    rintro S6 rfl
    exact fin 2 1 (by decide) (by unfold conKind; rw [if_pos (by omega)]) (by unfold conMay; rw [if_pos (by omega)])
theorem s_openFileH {A : zA} {S : zS} (h : RC A S) {i m k : Nat} (hi : i < 10) (hm : m ≤ 11) {P : zS → Prop} (hP : ∀ S', RC (aOpen A i 1 (some k) 0 (fileMay m)) S' → P S') : w_Handle_openFile i (gF S k) (nI m) S P := by
  have fin : ∀ rt : Int32, rt = fileMay m → ∀ T : zS, T = sM (sM (sH (sM S 4 i 1) i (some (gF S k))) 5 i 0) 6 i rt → P T := by
    rintro rt e2 T rfl
    subst e2
    refine hP _ (h.hset hi (hset3 S i _ _ _ _) (by simp [gM_sM, gM_sH]) (fun _ => ⟨by simp [gM_sM], by simp [gM_sM]⟩) rfl rfl rfl (fun q => ?_))
    rw [gH_sM, gH_sM, gH_sH, gH_sM, if_pos rfl]
    rfl
  have c4 : (4 : Int32) ≤ nI m ↔ 4 ≤ m := nI_leI (by decide) (by omega)
  have c8 : (8 : Int32) ≤ nI m ↔ 8 ≤ m := nI_leI (by decide) (by omega)
  have c2 : nI m &&& 2 = 0 ↔ m % 4 < 2 := by
    have : ∀ z, z ≤ 11 → (nI z &&& 2 = 0 ↔ z % 4 < 2) := by decide
    exact this m hm
  have up : ∀ (rt v : Int32) (T : zS), sM (sM T 6 i rt) 6 i v = sM T 6 i v := by
    intro rt v T
    unfold sM
    congr 1
    funext b j
    by_cases e : b = 6
    · by_cases e2 : j = i
      · simp [e, e2]
      · simp [e, e2]
    · simp [e]
  have tail : ∀ rt : Int32, (m % 4 < 2 → rt = fileMay m) → (¬ m % 4 < 2 → rt ||| 3 = fileMay m) → j_Handle_openFile_37 i (gF S k) (nI m) P (sM (sH (sM S 4 i 1) i (some (gF S k))) 5 i 0) i rt := by
    intro rt t1 t2
    unfold j_Handle_openFile_37
    refine ⟨hi, ?_⟩
    rintro S2 rfl
    rw [c2]
    refine ⟨fun q => fin rt (t1 q) _ rfl, fun q => ⟨hi, ?_⟩⟩
    rintro S4 rfl
    refine fin (rt ||| 3) (t2 q) _ ?_
    rw [up]
    congr 1
    simp [gM_sM]
  unfold w_Handle_openFile
  refine ⟨hi, ?_⟩
  rintro S2 rfl S3 rfl S4 rfl
  rw [c4, c8]
  refine ⟨fun q4 => ⟨fun q8 => tail 6 (fun z => ?_) (fun z => ?_), fun q8 => tail 2 (fun z => ?_) (fun z => ?_)⟩, fun q4 => tail 1 (fun z => ?_) (fun z => ?_)⟩
  all_goals unfold fileMay
  · rw [if_neg (by omega), if_neg (by omega), if_pos z]
  · rw [if_neg (by omega), if_neg (by omega), if_neg z]; decide
  · rw [if_neg (by omega), if_pos (by omega), if_pos z]
  · rw [if_neg (by omega), if_pos (by omega), if_neg z]; decide
  · rw [if_pos (by omega), if_pos z]
  · rw [if_pos (by omega), if_neg z]; decide
theorem s_shut {A : zA} {S : zS} (h : RC A S) {i : Nat} (hi : i < 10) {P : zS → Prop} (hP : ∀ S', RC (aOpen A i 0 none 0 0) S' → P S') : w_Handle_shut i S P := by
  unfold w_Handle_shut
  refine ⟨hi, ?_⟩
  rintro S2 rfl S3 rfl
  refine hP _ (h.hset hi (fun c q z => ?_) (by simp [gM_sM, gM_sH]) (fun z => absurd rfl z) rfl rfl rfl (fun q => ?_))
  · rw [gM_sH, gM_sM]
    by_cases e : c = 4
    · by_cases e2 : q = i
      · exact absurd ⟨e2, Or.inl e⟩ z
      · simp [e, e2]
    · simp [e]
  · rw [gH_sH, gH_sM, if_neg (show ¬ (0 : Int32) = 1 by decide)]
theorem s_may {S : zS} {i : Nat} (hi : i < 10) (r : Int32) {P : zS → Int32 → Prop} (hP : P S (if gM S 6 i &&& r = 0 then 0 else 1)) : w_Handle_may i r S P := by
  unfold w_Handle_may
  refine ⟨hi, fun c => ?_, fun c => ?_⟩
  · rw [if_pos c] at hP; exact hP
  · rw [if_neg c] at hP; exact hP
theorem s_Folder_get {A : zA} {S : zS} (h : RC A S) (k : Int32) {P : zS → Option Nat → Prop} (hP : P S (if un k < A.2.2.length then some (gF S (un k)) else none)) : w_Folder_get k S P := by
  have hl := h.le12
  unfold w_Folder_get
  rw [h.cnt]
  refine ⟨fun c => ?_, fun c => ⟨fun c2 => ?_, fun c2 => ?_⟩⟩
  · rw [neg_iff] at c
    rw [if_neg (by omega)] at hP; exact hP
  · rw [ge_iff (by omega) c] at c2
    rw [if_neg (by omega)] at hP; exact hP
  · rw [ge_iff (by omega) c] at c2
    obtain ⟨e, hk⟩ := un_pos c
    rw [if_pos (by omega)] at hP
    have e2 : k.toNatClampNeg = un k := by rw [e, nI_clamp hk, un_nI (by omega)]
    rw [e2]
    exact ⟨by rw [e]; exact vp_in_nI (by omega) (by decide), hP⟩
/-- which file has that name -/
def findA (A : zA) (m : List Int32) : Option Nat := A.2.2.findIdx? (fun f => f.1 == m)
theorem findA_lt {A : zA} {m : List Int32} {k : Nat} (e : findA A m = some k) : k < A.2.2.length := by
  unfold findA at e
  rw [List.findIdx?_eq_some_iff_getElem] at e
  exact e.1
theorem findA_name {A : zA} {m : List Int32} {k : Nat} (e : findA A m = some k) : ∃ f, A.2.2[k]? = some f ∧ f.1 = m := by
  unfold findA at e
  rw [List.findIdx?_eq_some_iff_getElem] at e
  obtain ⟨h1, h2, -⟩ := e
  exact ⟨_, List.getElem?_eq_getElem h1, by simpa using h2⟩
theorem s_find_loop {A : zA} {S : zS} (h : RC A S) {b : Nat} {m : List Int32} (hb : b < 32) (hm : rowIs S b m) {P : zS → Option Nat → Prop} (hP : P S ((findA A m).map (gF S))) :
    ∀ (n i : Nat), n + i = A.2.2.length → (∀ q f, q < i → A.2.2[q]? = some f → ¬ f.1 = m) → l_Folder_find_2 b P (n + 1) S (nI i) := by
  have hl := h.le12
  intro n
  induction n with
  | zero =>
    intro i hi hq
    unfold l_Folder_find_2
    rw [h.cnt]
    refine ⟨fun _ => ?_, fun c => ?_⟩
    · have : findA A m = none := by
        unfold findA
        rw [List.findIdx?_eq_none_iff]
        intro f hf
        obtain ⟨q, hq1⟩ := List.getElem?_of_mem hf
        have := hq q f (by have := (List.getElem?_eq_some_iff.mp hq1).1; omega) hq1
        simpa using this
      rw [this] at hP; exact hP
    · rw [nI_leI (by omega) (by omega)] at c
      omega
  | succ n ih =>
    intro i hi hq
    have hi1 : i < A.2.2.length := by omega
    have hf : A.2.2[i]? = some A.2.2[i] := List.getElem?_eq_getElem hi1
    have hg := h.fid (show i < 12 by omega)
    unfold l_Folder_find_2
    rw [h.cnt, nI_clamp (by omega)]
    refine ⟨fun c => ?_, fun _ => ⟨vp_in_nI (by omega) (by decide), hg, by omega, ?_⟩⟩
    · rw [nI_leI (by omega) (by omega)] at c
      omega
    · refine s_same (h.frow hf).1 hm (by omega) hb ?_
      by_cases e : A.2.2[i].1 = m
      · rw [if_pos e]
        refine ⟨fun z => absurd z (by decide), fun _ => ?_⟩
        have : findA A m = some i := by
          unfold findA
          rw [List.findIdx?_eq_some_iff_getElem]
          refine ⟨hi1, by simp [e], fun j hj => ?_⟩
          have := hq j A.2.2[j] hj (List.getElem?_eq_getElem (by omega))
          simpa using this
        rw [this] at hP
        exact hP
      · rw [if_neg e]
        refine ⟨fun _ => ?_, fun z => absurd rfl z⟩
        rw [nI_1]
        exact ih (i + 1) (by omega) (fun q f hq9 hf9 => by
          by_cases e2 : q = i
          · subst e2
            rw [hf] at hf9
            rw [← Option.some.inj hf9]; exact e
          · exact hq q f (by omega) hf9)
theorem s_find {A : zA} {S : zS} (h : RC A S) {b : Nat} {m : List Int32} (hb : b < 32) (hm : rowIs S b m) {P : zS → Option Nat → Prop} (hP : P S ((findA A m).map (gF S))) : w_Folder_find b S P := by
  unfold w_Folder_find
  exact ⟨_, s_find_loop h hb hm hP A.2.2.length 0 (by omega) (fun q f hq => by omega)⟩
theorem s_number_loop {A : zA} {S : zS} (h : RC A S) {k : Nat} (hk : k < A.2.2.length) {P : zS → Int32 → Prop} (hP : P S (nI k)) :
    ∀ (n i : Nat), n + i = k → l_Folder_numberOf_2 (some (gF S k)) P (n + 1) S (nI i) := by
  have hl := h.le12
  intro n
  induction n with
  | zero =>
    intro i hi
    have hi : i = k := by omega
    subst hi
    unfold l_Folder_numberOf_2
    rw [h.cnt, nI_clamp (by omega)]
    refine ⟨fun c => ?_, fun _ => ⟨vp_in_nI (by omega) (by decide), fun _ => hP, fun z => absurd rfl z⟩⟩
    rw [nI_leI (by omega) (by omega)] at c
    omega
  | succ n ih =>
    intro i hi
    unfold l_Folder_numberOf_2
    rw [h.cnt, nI_clamp (by omega)]
    refine ⟨fun c => ?_, fun _ => ⟨vp_in_nI (by omega) (by decide), fun z => ?_, fun _ => ?_⟩⟩
    · rw [nI_leI (by omega) (by omega)] at c
      omega
    · have := h.finj (by omega) (by omega) (Option.some.inj z)
      omega
    · rw [nI_1]
      exact ih (i + 1) (by omega)
theorem s_numberOf {A : zA} {S : zS} (h : RC A S) {k : Nat} (hk : k < A.2.2.length) {P : zS → Int32 → Prop} (hP : P S (nI k)) : w_Folder_numberOf (some (gF S k)) S P := by
  unfold w_Folder_numberOf
  exact ⟨_, s_number_loop h hk hP k 0 (by omega)⟩
theorem s_number0_loop {A : zA} {S : zS} (h : RC A S) {P : zS → Int32 → Prop} (hP : P S (-1)) :
    ∀ (n i : Nat), n + i = A.2.2.length → l_Folder_numberOf_2 none P (n + 1) S (nI i) := by
  have hl := h.le12
  intro n
  induction n with
  | zero =>
    intro i hi
    unfold l_Folder_numberOf_2
    rw [h.cnt]
    refine ⟨fun _ => hP, fun c => ?_⟩
    rw [nI_leI (by omega) (by omega)] at c
    omega
  | succ n ih =>
    intro i hi
    unfold l_Folder_numberOf_2
    rw [h.cnt]
    refine ⟨fun c => ?_, fun _ => ⟨vp_in_nI (by omega) (by decide), fun z => (by cases z), fun _ => ?_⟩⟩
    · rw [nI_leI (by omega) (by omega)] at c
      omega
    · rw [nI_1]
      exact ih (i + 1) (by omega)
theorem s_numberOf0 {A : zA} {S : zS} (h : RC A S) {P : zS → Int32 → Prop} (hP : P S (-1)) : w_Folder_numberOf none S P := by
  unfold w_Folder_numberOf
  exact ⟨_, s_number0_loop h hP A.2.2.length 0 (by omega)⟩
/-- a row of a file changes; how the files stand behind it is told -/
theorem RC.offf {A A' : zA} {S S' : zS} {b : Nat} (h : RC A S) (hb : 2 ≤ b ∧ b < 26) (o : offRow b S S') (hA : A'.1 = A.1 ∧ A'.2.1 = A.2.1) (hf : RCf A' S') : RC A' S' := by
  obtain ⟨⟨n1, n2, n3, n4, n5⟩, ⟨r1, ⟨l1, r2⟩, ⟨l2, r3⟩, l3, r4⟩, -, g1, g2, g3⟩ := h
  obtain ⟨o1, o2, o3⟩ := o
  have w : ∀ c i, c ≠ 8 → gM S' c i = gM S c i := fun c i hc => o1 c i (fun q => hc q.1)
  have row : ∀ b' l, b' ≠ b → rowIs S b' l → rowIs S' b' l := fun b' l hb' hr => offRow.row ⟨o1, o2, o3⟩ hb' hr
  refine ⟨⟨fun i hi => ?_, fun r hr => ?_, fun q hq => ?_, fun j hj => ?_, ?_⟩, ⟨fun t ht => ?_, ⟨l1, row _ _ (by omega) r2⟩, ⟨l2, row _ _ (by omega) r3⟩, l3, row _ _ (by omega) r4⟩, hf, fun i hi => ?_, fun i hi hne => ?_, fun i hi => ?_⟩
  · rw [w 0 i (by decide), hA.1]; exact n1 i hi
  · rw [w 2 r (by decide), hA.1]; exact n2 r hr
  · rw [w 3 q (by decide), hA.1]; exact n3 q hq
  · rw [w 7 j (by decide), hA.1]; exact n4 j hj
  · rw [gJ_of o3, hA.1]; exact n5
  · rw [hA.2]; exact row _ _ (by unfold rowNo; split <;> omega) (r1 t ht)
  · rw [w 4 i (by decide), hA.1]; exact g1 i hi
  · rw [hA.1] at hne
    rw [w 5 i (by decide), w 6 i (by decide), hA.1]; exact g2 i hi hne
  · rw [gH_of o3, g3 i hi, hA.1]
    have : gF S' = gF S := by funext q; exact gF_of o3 q
    rw [this]
/-- the bytes of file k change (nm false), or its name (nm true) -/
def fset (f : List Int32 × List Int32) (nm : Bool) (l : List Int32) : List Int32 × List Int32 := if nm then (l, f.2) else (f.1, l)
theorem RC.fchange {A : zA} {S S' : zS} (h : RC A S) {k : Nat} {f : List Int32 × List Int32} (hk : A.2.2[k]? = some f) (nm : Bool) {l : List Int32} (o : offRow ((if nm then 2 else 3) + 2 * gF S k) S S') (hr : rowIs S' ((if nm then 2 else 3) + 2 * gF S k) l) : RC (aFiles A (A.2.2.set k (fset f nm l))) S' := by
  have hl := h.le12
  have hk1 : k < A.2.2.length := (List.getElem?_eq_some_iff.mp hk).1
  have hk12 : k < 12 := by omega
  have hg := h.fid hk12
  refine h.offf (by cases nm <;> simp <;> omega) o ⟨rfl, rfl⟩ ?_
  obtain ⟨-, -, ⟨f1, f2, f3, f4, f5, f6⟩, -⟩ := h
  have row : ∀ b' m, b' ≠ ((if nm then 2 else 3) + 2 * gF S k) → rowIs S b' m → rowIs S' b' m := fun b' m hb hr => o.row hb hr
  refine ⟨?_, by show (A.2.2.set k _).length ≤ 12; rw [List.length_set]; exact f2, fun q hq => by rw [gF_of o.2.2]; exact f3 q hq, fun q r hq hr9 e => by rw [gF_of o.2.2, gF_of o.2.2] at e; exact f4 q r hq hr9 e, fun q g hg9 => ?_, fun q hq => ?_⟩
  · show gM S' 0 10 = nI (A.2.2.set k _).length
    rw [List.length_set, o.1 0 10 (by simp)]; exact f1
  · rw [gF_of o.2.2]
    have hg9 : (A.2.2.set k (fset f nm l))[q]? = some g := hg9
    have hq12 : q < 12 := by
      have := (List.getElem?_eq_some_iff.mp hg9).1
      rw [List.length_set] at this; omega
    by_cases e : q = k
    · subst e
      rw [List.getElem?_set_self hk1] at hg9
      have hg9 := Option.some.inj hg9
      subst hg9
      cases nm with
      | true => exact ⟨hr, row _ _ (by simp only [if_true]; omega) (f5 q f hk).2⟩
      | false => exact ⟨row _ _ (by simp only [Bool.false_eq_true, if_false]; omega) (f5 q f hk).1, hr⟩
    · rw [List.getElem?_set_ne (Ne.symm e)] at hg9
      have hne : gF S q ≠ gF S k := fun z => e (f4 q k hq12 hk12 z)
      exact ⟨row _ _ (by cases nm <;> simp <;> omega) (f5 q g hg9).1, row _ _ (by cases nm <;> simp <;> omega) (f5 q g hg9).2⟩
  · obtain ⟨⟨m, hm⟩, m', hm'⟩ := f6 q hq
    constructor
    · by_cases e : 2 + 2 * q = (if nm then 2 else 3) + 2 * gF S k
      · rw [e]; exact ⟨l, hr⟩
      · exact ⟨m, row _ _ e hm⟩
    · by_cases e : 3 + 2 * q = (if nm then 2 else 3) + 2 * gF S k
      · rw [e]; exact ⟨l, hr⟩
      · exact ⟨m', row _ _ e hm'⟩
theorem capB_name {g : Nat} (h : g < 12) : capB (2 + 2 * g) = 24 := by
  have : ∀ g, g < 12 → capB (2 + 2 * g) = 24 := by decide
  exact this g h
theorem capB_cont {g : Nat} (h : g < 12) : capB (3 + 2 * g) = 2000 := by
  have : ∀ g, g < 12 → capB (3 + 2 * g) = 2000 := by decide
  exact this g h
theorem RC.grow {A : zA} {S : zS} (h : RC A S) (hl : A.2.2.length < 12) : ∃ f, RC (aFiles A (A.2.2 ++ [f])) (sM S 0 10 (nI (A.2.2.length + 1))) := by
  obtain ⟨⟨n1, n2, n3, n4, n5⟩, ⟨r1, ⟨l1, r2⟩, ⟨l2, r3⟩, l3, r4⟩, ⟨f1, f2, f3, f4, f5, f6⟩, g⟩ := h
  obtain ⟨⟨l, hl1⟩, l', hl2⟩ := f6 (gF S A.2.2.length) (f3 _ hl)
  refine ⟨(l, l'), ⟨fun j hj => ?_, n2, n3, n4, n5⟩, ⟨r1, ⟨l1, r2⟩, ⟨l2, r3⟩, l3, r4⟩, ⟨?_, ?_, f3, f4, fun k f hf => ?_, f6⟩, g⟩
  · have : j ≠ 10 := by unfold scOk at hj; omega
    rw [gM_sM, if_pos rfl, if_neg this]; exact n1 j hj
  · show gM (sM S 0 10 (nI (A.2.2.length + 1))) 0 10 = nI (A.2.2 ++ [(l, l')]).length
    rw [gM_sM]; simp
  · show (A.2.2 ++ [(l, l')]).length ≤ 12
    simp; omega
  · have hf : (A.2.2 ++ [(l, l')])[k]? = some f := hf
    by_cases e : k < A.2.2.length
    · rw [List.getElem?_append_left e] at hf
      exact f5 k f hf
    · have hk := (List.getElem?_eq_some_iff.mp hf).1
      simp at hk
      have e2 : k = A.2.2.length := by omega
      subst e2
      simp at hf
      subst hf
      exact ⟨hl1, hl2⟩
theorem s_make {A : zA} {S : zS} (h : RC A S) {b : Nat} {m : List Int32} (hb : b = 1 ∨ b = 30 ∨ b = 31) (hm : rowIs S b m) (hm24 : m.length ≤ 24) {P : zS → Option Nat → Prop}
    (h1 : A.2.2.length < 12 → ∀ S', RC (aFiles A (A.2.2 ++ [(m, [])])) S' → gF S' = gF S → P S' (some (gF S A.2.2.length))) (h2 : ¬ A.2.2.length < 12 → P S none) : w_Folder_make b S P := by
  have hl := h.le12
  unfold w_Folder_make
  rw [h.cnt, show (12 : Int32) = nI 12 from rfl, nI_ltI (by omega) (by decide), nI_clamp (by omega)]
  refine ⟨fun c => ⟨vp_in_nI c (by decide), ?_⟩, fun c => h2 c⟩
  rintro S2 rfl
  have hg := h.fid c
  obtain ⟨f, hA1⟩ := h.grow c
  rw [nI_1]
  generalize hS1 : sM S 0 10 (nI (A.2.2.length + 1)) = S1 at hA1
  have hF1 : gF S1 = gF S := by rw [← hS1]; rfl
  have hm1 : rowIs S1 b m := by rw [← hS1]; exact hm
  refine ⟨hg, by omega, ?_⟩
  have k1 : (aFiles A (A.2.2 ++ [f])).2.2[A.2.2.length]? = some f := by show (A.2.2 ++ [f])[A.2.2.length]? = some f; simp
  have fr1 := hA1.frow k1
  rw [hF1] at fr1
  refine s_cut0 fr1.1 (by omega) (fun T1 o1 t1 => ⟨by omega, ?_⟩)
  have hA2 := hA1.fchange k1 true (l := []) (S' := T1) (by rw [hF1]; exact o1) (by rw [hF1]; exact t1)
  have hm2 : rowIs T1 b m := o1.row (by omega) hm1
  refine s_size hm2 (by omega) ?_
  have hF2 : gF T1 = gF S := by rw [show gF T1 = gF S1 from funext (gF_of o1.2.2), hF1]
  refine s_append (f := 0) (n := m.length) t1 hm2 (by omega) (by omega) (by omega) (Nat.zero_le _) (by omega) (fun T2 o2 t2 => ⟨by omega, ?_⟩)
  rw [capB_name hg, List.drop_zero, List.nil_append, List.length_nil, Nat.sub_zero, Nat.min_eq_left hm24, List.take_length] at t2
  have e2 : (aFiles A (A.2.2 ++ [f])).2.2.set A.2.2.length (fset f true []) = A.2.2 ++ [([], f.2)] := by
    show (A.2.2 ++ [f]).set A.2.2.length _ = _
    rw [List.set_append_right _ _ (Nat.le_refl _)]; simp [fset]
  rw [e2] at hA2
  have hA2 : RC (aFiles A (A.2.2 ++ [([], f.2)])) T1 := hA2
  have k2 : (aFiles A (A.2.2 ++ [([], f.2)])).2.2[A.2.2.length]? = some ([], f.2) := by show (A.2.2 ++ [([], f.2)])[A.2.2.length]? = _; simp
  have hA3 := hA2.fchange k2 true (l := m) (S' := T2) (by rw [hF2]; exact o2) (by rw [hF2]; exact t2)
  have e3 : (aFiles A (A.2.2 ++ [([], f.2)])).2.2.set A.2.2.length (fset ([], f.2) true m) = A.2.2 ++ [(m, f.2)] := by
    show (A.2.2 ++ [([], f.2)]).set A.2.2.length _ = _
    rw [List.set_append_right _ _ (Nat.le_refl _)]; simp [fset]
  rw [e3] at hA3
  have hA3 : RC (aFiles A (A.2.2 ++ [(m, f.2)])) T2 := hA3
  have hF3 : gF T2 = gF S := by rw [show gF T2 = gF T1 from funext (gF_of o2.2.2), hF2]
  have k3 : (aFiles A (A.2.2 ++ [(m, f.2)])).2.2[A.2.2.length]? = some (m, f.2) := by show (A.2.2 ++ [(m, f.2)])[A.2.2.length]? = _; simp
  have fr3 := hA3.frow k3
  rw [hF3] at fr3
  refine s_cut0 fr3.2 (by omega) (fun T3 o3 t3 => ?_)
  have hA4 := hA3.fchange k3 false (l := []) (S' := T3) (by rw [hF3]; exact o3) (by rw [hF3]; exact t3)
  have e4 : (aFiles A (A.2.2 ++ [(m, f.2)])).2.2.set A.2.2.length (fset (m, f.2) false []) = A.2.2 ++ [(m, [])] := by
    show (A.2.2 ++ [(m, f.2)]).set A.2.2.length _ = _
    rw [List.set_append_right _ _ (Nat.le_refl _)]; simp [fset]
  rw [e4] at hA4
  exact h1 c T3 hA4 (by rw [show gF T3 = gF T2 from funext (gF_of o3.2.2), hF3])
