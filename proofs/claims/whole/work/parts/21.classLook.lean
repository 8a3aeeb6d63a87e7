/-! the class's looks, and lay -/
def lookA (A : zA) (w : Int32) : Nat × Int32 := if w = 0 then (0, gM A.1 0 3) else if w = 1 then (0, gM A.1 0 4) else if w = 2 then (0, gM A.1 0 6) else if w = 3 then (0, (gJ A.1).toInt32) else if w = 4 then (0, gM A.1 0 8) else if w = 5 then (0, gM A.1 0 9) else if w = 6 then (0, nI (A.2.1 1).length) else if w = 7 then (0, gM A.1 0 7) else if w = 8 then (0, nI (A.2.1 4).length) else (1, 0)
theorem k_look {A : zA} {S : zS} (h : RC A S) (w : Int32) : w_HB_look w S (fun S' r => RC A S' ∧ lookA A w = (0, r)) (fun E S' => RC A S' ∧ (lookA A w).1 = 1 ∧ E = "java/util/NoSuchElementException") := by
  obtain ⟨n1, n2, n3, n4, n5⟩ := h.1
  unfold w_HB_look lookA
  refine ⟨fun c0 => ⟨h, ?_⟩, fun c0 => ⟨fun c1 => ⟨h, ?_⟩, fun c1 => ⟨fun c2 => ⟨h, ?_⟩, fun c2 => ⟨fun c3 => ⟨h, ?_⟩, fun c3 => ⟨fun c4 => ⟨h, ?_⟩, fun c4 => ⟨fun c5 => ⟨h, ?_⟩, fun c5 => ⟨fun c6 => ⟨by decide, s_size (h.2.1.1 1 (by decide)) (by decide) ⟨h, ?_⟩⟩, fun c6 => ⟨fun c7 => ⟨h, ?_⟩, fun c7 => ⟨fun c8 => ⟨by decide, s_size (h.2.1.1 4 (by decide)) (by decide) ⟨h, ?_⟩⟩, fun c8 => ⟨h, ?_, rfl⟩⟩⟩⟩⟩⟩⟩⟩⟩⟩
  · rw [if_pos c0, n1 3 (by unfold scOk; omega)]
  · rw [if_neg c0, if_pos c1, n1 4 (by unfold scOk; omega)]
  · rw [if_neg c0, if_neg c1, if_pos c2, n1 6 (by unfold scOk; omega)]
  · rw [if_neg c0, if_neg c1, if_neg c2, if_pos c3, n5]
  · rw [if_neg c0, if_neg c1, if_neg c2, if_neg c3, if_pos c4, n1 8 (by unfold scOk; omega)]
  · rw [if_neg c0, if_neg c1, if_neg c2, if_neg c3, if_neg c4, if_pos c5, n1 9 (by unfold scOk; omega)]
  · rw [if_neg c0, if_neg c1, if_neg c2, if_neg c3, if_neg c4, if_neg c5, if_pos c6]
  · rw [if_neg c0, if_neg c1, if_neg c2, if_neg c3, if_neg c4, if_neg c5, if_neg c6, if_pos c7, n1 7 (by unfold scOk; omega)]
  · rw [if_neg c0, if_neg c1, if_neg c2, if_neg c3, if_neg c4, if_neg c5, if_neg c6, if_neg c7, if_pos c8]
  · rw [if_neg c0, if_neg c1, if_neg c2, if_neg c3, if_neg c4, if_neg c5, if_neg c6, if_neg c7, if_neg c8]
def registerA (A : zA) (r : Int32) : Nat × Int32 := if un r ≤ 32 then (0, if un r = 32 then gM A.1 0 0 else gM A.1 2 (un r)) else (1, 0)
theorem k_register {A : zA} {S : zS} (h : RC A S) (r : Int32) : w_HB_register r S (fun S' q => RC A S' ∧ registerA A r = (0, q)) (fun E S' => RC A S' ∧ (registerA A r).1 = 1 ∧ E = "java/util/NoSuchElementException") := by
  unfold w_HB_register j_HB_register_10
  refine ⟨fun c => ⟨h, ?_, rfl⟩, fun c => ⟨fun c2 => ⟨fun c3 => ⟨h, ?_⟩, fun c3 => s_value h r ⟨h, ?_⟩⟩, fun c2 => ⟨h, ?_, rfl⟩⟩⟩
  · rw [neg_iff] at c
    unfold registerA; rw [if_neg (by omega)]
  · unfold registerA
    subst c3
    rw [show un 32 = 32 from rfl, if_pos (by omega), if_pos rfl, h.1.1 0 (Or.inl rfl)]
  · rw [show (32 : Int32) = nI 32 from rfl, le_of_un (by decide) c] at c2
    obtain ⟨e, hl⟩ := un_pos c
    have : un r ≠ 32 := fun z => c3 (by rw [e, z]; rfl)
    unfold registerA
    rw [if_pos c2, if_neg this, Nat.mod_eq_of_lt (by omega)]
  · rw [show (32 : Int32) = nI 32 from rfl, le_of_un (by decide) c] at c2
    unfold registerA; rw [if_neg c2]
def fileA (A : zA) (k w : Int32) : Nat × Int32 := match A.2.2[un k]? with
  | some f => if un w ≤ 2 then (0, if un w = 0 then nI f.2.length else if un w = 1 then nI f.1.length else nI (openA A (un k) 10)) else (1, 0)
  | none => (1, 0)
theorem eq0_of_un {w : Int32} : w = 0 ↔ un w = 0 := ⟨fun h => by rw [h]; rfl, fun h => by rw [← nI_un w, h]; rfl⟩
theorem eq_of_un {w : Int32} {n : Nat} (hn : n < 2 ^ 32) : w = nI n ↔ un w = n := ⟨fun h => by rw [h, un_nI hn], fun h => by rw [← nI_un w, h]⟩
theorem k_file {A : zA} {S : zS} (h : RC A S) (hI : AI A) (k w : Int32) : w_HB_file k w S (fun S' q => RC A S' ∧ fileA A k w = (0, q)) (fun E S' => RC A S' ∧ (fileA A k w).1 = 1 ∧ E = "java/util/NoSuchElementException") := by
  have hl := h.le12
  unfold w_HB_file j_HB_file_22
  refine s_Folder_get h k ?_
  by_cases c : un k < A.2.2.length
  · have hf : A.2.2[un k]? = some A.2.2[un k] := List.getElem?_eq_getElem c
    have hg := h.fid (show un k < 12 by omega)
    have hr := h.frow hf
    rw [if_pos c]
    refine ⟨fun z => (by cases z), fun q e => ?_⟩
    have e := Option.some.inj e
    subst e
    have eA : fileA A k w = if un w ≤ 2 then (0, if un w = 0 then nI A.2.2[un k].2.length else if un w = 1 then nI A.2.2[un k].1.length else nI (openA A (un k) 10)) else (1, 0) := by unfold fileA; rw [hf]
    rw [eA]
    refine ⟨fun c1 => ⟨h, ?_, rfl⟩, fun c1 => ⟨fun c2 => ⟨fun c3 => ⟨hg, by omega, s_size hr.2 (by omega) ⟨h, ?_⟩⟩, fun c3 => ⟨fun c4 => ⟨hg, by omega, s_size hr.1 (by omega) ⟨h, ?_⟩⟩, fun c4 => s_openOn h hI (by omega) ⟨h, ?_⟩⟩⟩, fun c2 => ⟨h, ?_, rfl⟩⟩⟩
    · rw [neg_iff] at c1; rw [if_neg (by omega)]
    · rw [eq0_of_un] at c3; rw [if_pos (by omega), if_pos c3]
    · rw [show (1 : Int32) = nI 1 from rfl, eq_of_un (by decide)] at c4; rw [eq0_of_un] at c3
      rw [if_pos (by omega), if_neg c3, if_pos c4]
    · rw [show (2 : Int32) = nI 2 from rfl, le_of_un (by decide) c1] at c2
      rw [show (1 : Int32) = nI 1 from rfl, eq_of_un (by decide)] at c4; rw [eq0_of_un] at c3
      rw [if_pos c2, if_neg c3, if_neg c4]
    · rw [show (2 : Int32) = nI 2 from rfl, le_of_un (by decide) c1] at c2
      rw [if_neg c2]
  · rw [if_neg c]
    refine ⟨fun _ => ⟨h, ?_, rfl⟩, fun q e => (by cases e)⟩
    unfold fileA
    rw [List.getElem?_eq_none (by omega)]
def handleA (A : zA) (h w : Int32) : Nat × Int32 := match hnd h with
  | some k => if un w ≤ 3 then (0, if un w = 0 then gM A.1 4 k else if gM A.1 4 k = 0 then -1 else if un w = 1 then gM A.1 5 k else if un w = 2 then (if gM A.1 4 k = 1 then (match gH A.1 k with | some q => nI q | none => -1) else -1) else gM A.1 6 k) else (1, 0)
  | none => (1, 0)
theorem k_handle {A : zA} {S : zS} (h : RC A S) (hI : AI A) (i w : Int32) : w_HB_handle i w S (fun S' q => RC A S' ∧ handleA A i w = (0, q)) (fun E S' => RC A S' ∧ (handleA A i w).1 = 1 ∧ E = "java/util/NoSuchElementException") := by
  unfold w_HB_handle j_HB_handle_22
  refine s_Desk_get i ?_
  cases hh : hnd i with
  | none =>
    refine ⟨fun _ => ⟨h, ?_, rfl⟩, fun q e => (by cases e)⟩
    unfold handleA; rw [hh]
  | some k =>
    have hk := hnd_lt hh
    refine ⟨fun z => (by cases z), fun q e => ?_⟩
    have e := Option.some.inj e
    subst e
    have eA : handleA A i w = if un w ≤ 3 then (0, if un w = 0 then gM A.1 4 k else if gM A.1 4 k = 0 then -1 else if un w = 1 then gM A.1 5 k else if un w = 2 then (if gM A.1 4 k = 1 then (match gH A.1 k with | some q => nI q | none => -1) else -1) else gM A.1 6 k) else (1, 0) := by unfold handleA; rw [hh]
    rw [eA]
    refine ⟨fun c1 => ⟨h, ?_, rfl⟩, fun c1 => ⟨fun c2 => ⟨fun c3 => ⟨hk, h, ?_⟩, fun c3 => ⟨hk, fun c4 => ⟨h, ?_⟩, fun c4 => ⟨fun c5 => ⟨h, ?_⟩, fun c5 => ⟨fun c6 => ?_, fun c6 => ⟨h, ?_⟩⟩⟩⟩⟩, fun c2 => ⟨h, ?_, rfl⟩⟩⟩
    · rw [neg_iff] at c1; rw [if_neg (by omega)]
    · rw [eq0_of_un] at c3; rw [if_pos (by omega), if_pos c3, h.kind hk]
    · rw [show (3 : Int32) = nI 3 from rfl, le_of_un (by decide) c1] at c2
      rw [eq0_of_un] at c3; rw [h.kind hk] at c4; rw [if_pos c2, if_neg c3, if_pos c4]
    · rw [show (1 : Int32) = nI 1 from rfl, eq_of_un (by decide)] at c5; rw [eq0_of_un] at c3; rw [h.kind hk] at c4
      rw [if_pos (by omega), if_neg c3, if_neg c4, if_pos c5, (h.2.2.2.2.1 k hk c4).1]
    · rw [show (1 : Int32) = nI 1 from rfl, eq_of_un (by decide)] at c5; rw [show (2 : Int32) = nI 2 from rfl, eq_of_un (by decide)] at c6; rw [eq0_of_un] at c3; rw [h.kind hk] at c4
      rw [if_pos (by omega), if_neg c3, if_neg c4, if_neg c5, if_pos c6]
      rintro o5 rfl
      rw [h.hfile hk]
      by_cases c7 : gM A.1 4 k = 1
      · obtain ⟨q, hq1, hq2⟩ := hI.1 k hk c7
        rw [if_pos c7, if_pos c7, hq1]
        exact s_numberOf h hq2 ⟨h, rfl⟩
      · rw [if_neg c7, if_neg c7]
        exact s_numberOf0 h ⟨h, rfl⟩
    · rw [show (3 : Int32) = nI 3 from rfl, le_of_un (by decide) c1] at c2
      rw [show (1 : Int32) = nI 1 from rfl, eq_of_un (by decide)] at c5; rw [show (2 : Int32) = nI 2 from rfl, eq_of_un (by decide)] at c6; rw [eq0_of_un] at c3; rw [h.kind hk] at c4
      rw [if_pos c2, if_neg c3, if_neg c4, if_neg c5, if_neg c6, (h.2.2.2.2.1 k hk c4).2]
    · rw [show (3 : Int32) = nI 3 from rfl, le_of_un (by decide) c1] at c2
      rw [if_neg c2]
