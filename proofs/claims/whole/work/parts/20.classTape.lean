/-! the class's calls that use the tape up, and those that may throw -/
theorem s_four {S : zS} {a b c d e : Int32} {l : List Int32} (hr : rowIs S 0 l) (hl : l.length + 4 ≤ 2100) {i : Nat} (hi : i < 5) {P : zS → Int32 → Prop} {K : zS → Int32 → Prop}
    (h : ∀ S', offRow 0 S S' → rowIs S' 0 (l ++ fourL (gM S 1 i)) → K S' (nI (i + 1))) : l_HB_feed_64 a b c d e P K 5 S (nI i) 24 := by
  have hc : capB 0 = 2100 := rfl
  have step : ∀ (n : Nat) (T : zS) (m : List Int32) (x : Int32) (k : Nat), ¬ x < 0 → x = (8 : Int32) * nI k → rowIs T 0 m → m.length < 2100 → offRow 0 S T → (∀ T', offRow 0 S T' → rowIs T' 0 (m ++ [byteOf (gM S 1 i) k]) → l_HB_feed_64 a b c d e P K n T' (nI i) (x + (-8))) → l_HB_feed_64 a b c d e P K (n + 1) T (nI i) x := by
    intro n T m x k hx hk hm hlen ho hn
    unfold l_HB_feed_64
    refine ⟨fun z => absurd z hx, fun _ => ⟨vp_in_nI hi (by decide), by decide, ?_⟩⟩
    rw [nI_clamp (by omega), ho.1 1 i (by simp)]
    refine s_add hm (by decide) _ (fun T' o r => ?_)
    rw [hc, if_pos hlen, hk] at r
    exact hn T' (ho.tr o) r
  have fin : ∀ (n : Nat) (T : zS) (x : Int32), x < 0 → K T (nI (i + 1)) → l_HB_feed_64 a b c d e P K (n + 1) T (nI i) x := by
    intro n T x hx hK
    unfold l_HB_feed_64
    exact ⟨fun _ => by rw [nI_1]; exact hK, fun z => absurd hx z⟩
  refine step 4 S l 24 3 (by decide) (by decide) hr (by omega) (offRow.rf 0 S) (fun T1 o1 r1 => ?_)
  refine step 3 T1 _ _ 2 (by decide) (by decide) r1 (by simp; omega) o1 (fun T2 o2 r2 => ?_)
  refine step 2 T2 _ _ 1 (by decide) (by decide) r2 (by simp; omega) o2 (fun T3 o3 r3 => ?_)
  refine step 1 T3 _ _ 0 (by decide) (by decide) r3 (by simp; omega) o3 (fun T4 o4 r4 => ?_)
  refine fin 0 T4 _ (by decide) (h T4 o4 ?_)
  have e : l ++ fourL (gM S 1 i) = l ++ [byteOf (gM S 1 i) 3] ++ [byteOf (gM S 1 i) 2] ++ [byteOf (gM S 1 i) 1] ++ [byteOf (gM S 1 i) 0] := by unfold fourL; simp
  rw [e]; exact r4
theorem k_feed {A : zA} {S : zS} (h : RC A S) (a b c d e : Int32) : w_HB_feed a b c d e S (fun S' r => RC (feedA A a b c d e).1 S' ∧ r = (feedA A a b c d e).2) := by
  have ht := h.tapeIs
  have hc : capB 0 = 2100 := rfl
  have hl := ht.2.1
  rw [hc] at hl
  unfold w_HB_feed
  refine ⟨by decide, s_spare ht (by decide) ?_⟩
  rw [hc, show (20 : Int32) = nI 20 from rfl, nI_leI (by decide) (by omega)]
  refine ⟨fun c20 => ⟨vp_in_nI (n := 0) (by decide) (by decide), ?_⟩, fun c20 => ?_⟩
  · rintro S5 rfl
    refine ⟨vp_in_nI (n := 1) (by decide) (by decide), ?_⟩
    rintro S7 rfl
    refine ⟨vp_in_nI (n := 2) (by decide) (by decide), ?_⟩
    rintro S9 rfl
    refine ⟨vp_in_nI (n := 3) (by decide) (by decide), ?_⟩
    rintro S11 rfl
    refine ⟨vp_in_nI (n := 4) (by decide) (by decide), ?_⟩
    rintro S13 rfl
    generalize hT : sM (sM (sM (sM (sM S 1 (0 : Int32).toNatClampNeg a) 1 (1 : Int32).toNatClampNeg b) 1 (2 : Int32).toNatClampNeg c) 1 (3 : Int32).toNatClampNeg d) 1 (4 : Int32).toNatClampNeg e = T
    have hT5 : RC A T := by rw [← hT]; exact ((((h.fed _ a).fed _ b).fed _ c).fed _ d).fed _ e
    have v0 : gM T 1 0 = a := by rw [← hT]; rfl
    have v1 : gM T 1 1 = b := by rw [← hT]; rfl
    have v2 : gM T 1 2 = c := by rw [← hT]; rfl
    have v3 : gM T 1 3 = d := by rw [← hT]; rfl
    have v4 : gM T 1 4 = e := by rw [← hT]; rfl
    have fl : ∀ v : Int32, (fourL v).length = 4 := fun v => rfl
    have step : ∀ (n : Nat) (U : zS) (m : List Int32) (i : Nat), i < 5 → rowIs U 0 m → m.length + 4 ≤ 2100 → offRow 0 T U → (∀ U', offRow 0 T U' → rowIs U' 0 (m ++ fourL (gM T 1 i)) → l_HB_feed_54 a b c d e (fun S' r => RC (feedA A a b c d e).1 S' ∧ r = (feedA A a b c d e).2) n U' (nI (i + 1))) → l_HB_feed_54 a b c d e (fun S' r => RC (feedA A a b c d e).1 S' ∧ r = (feedA A a b c d e).2) (n + 1) U (nI i) := by
      intro n U m i hi hm hlen ho hn
      unfold l_HB_feed_54
      refine ⟨fun z => ?_, fun _ => ⟨5, s_four hm hlen hi (fun U' o r => ?_)⟩⟩
      · rw [show (5 : Int32) = nI 5 from rfl, nI_leI (by decide) (by omega)] at z
        omega
      · rw [ho.1 1 i (by simp)] at r
        exact hn U' (ho.tr o) r
    have r0 := hT5.tapeIs
    refine ⟨6, step 5 T _ 0 (by decide) r0 (by omega) (offRow.rf 0 T) (fun U1 o1 r1 => ?_)⟩
    refine step 4 U1 _ 1 (by decide) r1 (by simp [fl]; omega) o1 (fun U2 o2 r2 => ?_)
    refine step 3 U2 _ 2 (by decide) r2 (by simp [fl]; omega) o2 (fun U3 o3 r3 => ?_)
    refine step 2 U3 _ 3 (by decide) r3 (by simp [fl]; omega) o3 (fun U4 o4 r4 => ?_)
    refine step 1 U4 _ 4 (by decide) r4 (by simp [fl]; omega) o4 (fun U5 o5 r5 => ?_)
    unfold l_HB_feed_54
    refine ⟨fun _ => ⟨by decide, s_size r5 (by decide) ?_⟩, fun z => absurd (show (5 : Int32) ≤ nI 5 by decide) z⟩
    have e5 : A.2.1 0 ++ fourL (gM T 1 0) ++ fourL (gM T 1 1) ++ fourL (gM T 1 2) ++ fourL (gM T 1 3) ++ fourL (gM T 1 4) = A.2.1 0 ++ feedL a b c d e := by
      rw [v0, v1, v2, v3, v4]; unfold feedL; simp
    rw [e5] at r5 ⊢
    have e6 : (A.2.1 0 ++ feedL a b c d e).length = (A.2.1 0).length + 20 := by unfold feedL; simp [fl]
    rw [e6]
    unfold feedA
    rw [if_pos (by omega)]
    exact ⟨hT5.row (t := 0) (by decide) o5 r5, rfl⟩
  · unfold feedA
    rw [if_neg (by omega)]
    exact ⟨h, rfl⟩
def tape0 (A : zA) : zA := aRow A 0 []
theorem RC.tape0 {A : zA} {S S' : zS} (h : RC A S) (o : offRow 0 S S') (r : rowIs S' 0 []) : RC (tape0 A) S' := h.row (t := 0) (by decide) o r
def putA (A : zA) (p : Int32) : zA × Nat × Int32 := if un p + (A.2.1 0).length ≤ 16384 then (tape0 (aMem A (mset (gM A.1 3) (un p) (A.2.1 0))), 0, nI (A.2.1 0).length) else (tape0 A, 1, 0)
/-- bytes of a told row lie as they are -/
theorem rowIs.and {S : zS} {b : Nat} {l : List Int32} (h : rowIs S b l) {i : Nat} (hi : i < l.length) : l[i] &&& 255 = l[i] := by
  have := (h.2.2 i hi).2
  rw [List.getElem?_eq_getElem hi] at this
  rw [Option.some.inj this, Int32.and_assoc]
  rfl
theorem s_put_loop {A : zA} {S : zS} (h : RC A S) {p : Nat} {q : Int32} (hp : p + (A.2.1 0).length ≤ 16384) {P : zS → Int32 → Prop} {X : String → zS → Prop} (hP : ∀ S', RC (tape0 (aMem A (mset (gM A.1 3) p (A.2.1 0)))) S' → P S' (nI (A.2.1 0).length)) :
    ∀ (k i : Nat) (T : zS), k + i = (A.2.1 0).length → offMem S T → memIs T (mset (gM A.1 3) p ((A.2.1 0).take i)) → l_HB_put_44 (nI p) P X (k + 1) T (nI (A.2.1 0).length) (nI i) := by
  have ht := h.tapeIs
  intro k
  induction k with
  | zero =>
    intro i T hi o m
    have hi : i = (A.2.1 0).length := by omega
    subst hi
    rw [List.take_length] at m
    unfold l_HB_put_44
    refine ⟨fun _ => ⟨by decide, s_cut0 (o.row ht) (by decide) (fun T' o' r' => hP T' ((h.mem o m).tape0 o' r'))⟩, fun c => ?_⟩
    exact absurd (nI_le (Nat.le_refl _) (by omega)) c
  | succ k ih =>
    intro i T hi o m
    have hil : i < (A.2.1 0).length := by omega
    unfold l_HB_put_44
    refine ⟨fun c => ?_, fun _ => ⟨by decide, s_at (o.row ht) (by decide) _ ?_⟩⟩
    · rw [nI_leI (by omega) (by omega)] at c
      omega
    · rw [atL_nI (by omega), List.getElem?_eq_getElem hil]
      show w_Memory_storeByte _ ((A.2.1 0)[i]) T _
      refine s_storeByte m _ _ (fun T' o' m' => ?_)
      rw [nI_add, un_nI (by omega), if_pos (by omega), ht.and hil] at m'
      have e : mset (mset (gM A.1 3) p ((A.2.1 0).take i)) (p + i) [(A.2.1 0)[i]] = mset (gM A.1 3) p ((A.2.1 0).take (i + 1)) := by
        have := mset_snoc (gM A.1 3) p ((A.2.1 0).take i) (A.2.1 0)[i]
        rw [List.length_take, Nat.min_eq_left (by omega)] at this
        rw [this, List.take_append_getElem hil]
      rw [e] at m'
      rw [nI_1]
      exact ih (i + 1) T' (by omega) (o.tr o') m'
theorem k_put {A : zA} {S : zS} (h : RC A S) (p : Int32) : w_HB_put p S (fun S' r => RC (putA A p).1 S' ∧ (putA A p).2 = (0, r)) (fun E S' => RC (putA A p).1 S' ∧ (putA A p).2.1 = 1 ∧ E = "java/lang/IndexOutOfBoundsException") := by
  have ht := h.tapeIs
  have hl := ht.2.1
  rw [show capB 0 = 2100 from rfl] at hl
  have bad : ¬ un p + (A.2.1 0).length ≤ 16384 → j_HB_put_24 p (fun S' r => RC (putA A p).1 S' ∧ (putA A p).2 = (0, r)) (fun E S' => RC (putA A p).1 S' ∧ (putA A p).2.1 = 1 ∧ E = "java/lang/IndexOutOfBoundsException") S := by
    intro c
    unfold j_HB_put_24
    refine ⟨by decide, s_cut0 ht (by decide) (fun S' o r => ?_)⟩
    unfold putA
    rw [if_neg c]
    exact ⟨h.tape0 o r, rfl, rfl⟩
  unfold w_HB_put
  refine ⟨by decide, s_size ht (by decide) ⟨fun c => ?_, fun c => s_hasArea _ _ ?_⟩⟩
  · rw [neg_iff] at c
    exact bad (by omega)
  · rw [un_nI (by omega)]
    by_cases c2 : un p + (A.2.1 0).length ≤ 16384
    · rw [if_pos c2]
      refine ⟨fun z => absurd z (by decide), fun _ => ?_⟩
      obtain ⟨e, hp⟩ := un_pos c
      have := s_put_loop (q := p) h c2 (P := fun S' r => RC (putA A p).1 S' ∧ (putA A p).2 = (0, r)) (X := fun E S' => RC (putA A p).1 S' ∧ (putA A p).2.1 = 1 ∧ E = "java/lang/IndexOutOfBoundsException") (fun S' h' => by unfold putA; rw [if_pos c2]; exact ⟨h', rfl⟩) (A.2.1 0).length 0 S (by omega) (offMem.rf S) (by rw [List.take_zero, mset_nil]; exact h.1.2.2.1)
      rw [← e] at this
      exact ⟨_, this⟩
    · rw [if_neg c2]
      exact ⟨fun _ => bad c2, fun z => absurd rfl z⟩
def typeA (A : zA) : zA × Nat × Int32 := if (A.2.1 1).length + (A.2.1 0).length ≤ 400 then (tape0 (aRow A 1 (A.2.1 1 ++ A.2.1 0)), 0, nI ((A.2.1 1).length + (A.2.1 0).length)) else (tape0 A, 1, 0)
theorem k_type {A : zA} {S : zS} (h : RC A S) : w_HB_type S (fun S' r => RC (typeA A).1 S' ∧ (typeA A).2 = (0, r)) (fun E S' => RC (typeA A).1 S' ∧ (typeA A).2.1 = 1 ∧ E = "java/lang/IllegalStateException") := by
  have ht := h.tapeIs
  have hl := ht.2.1
  have hi : rowIs S 26 (A.2.1 1) := h.2.1.1 1 (by decide)
  have hil := hi.2.1
  rw [show capB 0 = 2100 from rfl] at hl
  rw [show capB 26 = 400 from rfl] at hil
  unfold w_HB_type
  refine ⟨by decide, s_size ht (by decide) ⟨by decide, s_spare hi (by decide) ?_⟩⟩
  rw [show capB 26 = 400 from rfl, nI_leI (by omega) (by omega)]
  refine ⟨fun c => ?_, fun c => ?_⟩
  · refine s_append (f := 0) hi ht (by decide) (by decide) (by decide) (Nat.zero_le _) (by omega) (fun S1 o1 r1 => ?_)
    rw [show capB 26 = 400 from rfl, List.drop_zero, Nat.min_eq_left c, List.take_length] at r1
    have h1 := h.row (t := 1) (by decide) o1 r1
    refine s_cut0 (o1.row (by decide) ht) (by decide) (fun S2 o2 r2 => ?_)
    have h2 : RC (tape0 (aRow A 1 (A.2.1 1 ++ A.2.1 0))) S2 := h1.tape0 o2 r2
    refine s_size (o2.row (by decide) r1) (by decide) ?_
    unfold typeA
    rw [if_pos (by omega), List.length_append]
    exact ⟨h2, rfl⟩
  · refine s_cut0 ht (by decide) (fun S' o r => ?_)
    unfold typeA
    rw [if_neg (by omega)]
    exact ⟨h.tape0 o r, rfl, rfl⟩
def commandA (A : zA) : zA × Nat × Int32 := if (A.2.1 0).length ≤ 80 ∧ fzL (A.2.1 0) = -1 then (tape0 (aRow A 4 (A.2.1 0)), 0, nI (A.2.1 0).length) else (tape0 A, 1, 0)
theorem k_command {A : zA} {S : zS} (h : RC A S) : w_HB_command S (fun S' r => RC (commandA A).1 S' ∧ (commandA A).2 = (0, r)) (fun E S' => RC (commandA A).1 S' ∧ (commandA A).2.1 = 1 ∧ E = "java/lang/IllegalArgumentException") := by
  have ht := h.tapeIs
  have hl := ht.2.1
  have hi : rowIs S 29 (A.2.1 4) := h.2.1.1 4 (by decide)
  rw [show capB 0 = 2100 from rfl] at hl
  have bad : ¬ ((A.2.1 0).length ≤ 80 ∧ fzL (A.2.1 0) = -1) → j_HB_command_25 (fun S' r => RC (commandA A).1 S' ∧ (commandA A).2 = (0, r)) (fun E S' => RC (commandA A).1 S' ∧ (commandA A).2.1 = 1 ∧ E = "java/lang/IllegalArgumentException") S := by
    intro c
    unfold j_HB_command_25
    refine ⟨by decide, s_cut0 ht (by decide) (fun S' o r => ?_)⟩
    unfold commandA
    rw [if_neg c]
    exact ⟨h.tape0 o r, rfl, rfl⟩
  unfold w_HB_command
  refine ⟨by decide, s_size ht (by decide) ?_⟩
  rw [show (80 : Int32) = nI 80 from rfl, nI_ltI (by decide) (by omega)]
  refine ⟨fun c => bad (fun z => by omega), fun c => s_firstZero ht (by decide) ⟨fun c2 => ⟨by decide, s_cut0 hi (by decide) (fun S1 o1 r1 => ?_)⟩, fun c2 => bad (fun z => c2 z.2)⟩⟩
  refine s_append (f := 0) r1 (o1.row (by decide) ht) (by decide) (by decide) (by decide) (Nat.zero_le _) (by omega) (fun S2 o2 r2 => ?_)
  rw [show capB 29 = 80 from rfl, List.drop_zero, List.nil_append, List.length_nil, Nat.sub_zero, Nat.min_eq_left (by omega), List.take_length] at r2
  have h2 := h.row (t := 4) (by decide) (o1.tr o2) r2
  refine s_cut0 ((o1.tr o2).row (by decide) ht) (by decide) (fun S3 o3 r3 => ?_)
  unfold commandA
  rw [if_pos ⟨by omega, c2⟩]
  exact ⟨h2.tape0 o3 r3, rfl⟩
