def w_Desk_get (a1 : Int32) (S : zS) (P : zS → Option Nat → Prop) : Prop :=
  (a1 < (1 : Int32) → (P S none)) ∧ (¬ a1 < (1 : Int32) → (((10 : Int32) < a1 → (P S none)) ∧ (¬ (10 : Int32) < a1 → (vp_in (a1 - (1 : Int32)) 10 ∧ P S (some ((a1 - (1 : Int32)).toNatClampNeg))))))
set_option maxRecDepth 20000 in
set_option maxHeartbeats 4000000 in
theorem v_Desk_get {E : zE} {B : zK} (C : zC E (wC B) prog_3_method_2_code "HostBench$Desk" 0 0) (a1 : Int32) (P : zS → Option Nat → Prop) (G : zGoal E (zQ (wC B) (zPq (fun k => ad B (25 + k)) P)) (wC B)) (hr : zRt E ((some (.object "HostBench$Handle")))) (hnl : E.2.2.2.2.2.2.2.2.2.2.1 = 2) (S : zS) (h : w_Desk_get a1 S P) : zV E (wC B) S 0 [(0, .ref (ad B 9)), (1, .int a1)] [] := by
  unfold w_Desk_get at h
  refine z_iload_n C 1 rfl rfl d_Desk_get_0 ?_
  refine z_iconst (v := (1 : Int32)) C rfl d_Desk_get_1 ?_
  refine z_icmp_lt (tgt := 22) C d_Desk_get_2 rfl (fun c => ?_) (fun c => ?_)
  · have h := h.1 c
    refine z_null C d_Desk_get_22 ?_
    exact z_areturn (v := none) (f := fun k => ad B (25 + k)) C G hr h d_Desk_get_23
  · have h := h.2 c
    refine z_iload_n C 1 rfl rfl d_Desk_get_5 ?_
    refine z_bipush (v := (10 : Int32)) C rfl d_Desk_get_6 ?_
    refine z_icmp_gt (tgt := 22) C d_Desk_get_8 rfl (fun c => ?_) (fun c => ?_)
    · have h := h.1 c
      refine z_null C d_Desk_get_22 ?_
      exact z_areturn (v := none) (f := fun k => ad B (25 + k)) C G hr h d_Desk_get_23
    · have h := h.2 c
      refine z_aload_n C 0 rfl rfl d_Desk_get_11 ?_
      refine gf_Desk_handles C (Or.inl tw_249) d_Desk_get_12 ?_
      refine z_iload_n C 1 rfl rfl d_Desk_get_15 ?_
      refine z_iconst (v := (1 : Int32)) C rfl d_Desk_get_16 ?_
      refine z_isub C d_Desk_get_17 ?_
      obtain ⟨f1, h⟩ := h
      refine al_handles C f1 d_Desk_get_18 ?_
      refine z_goto (tgt := 23) C d_Desk_get_19 rfl ?_
      exact z_areturn (v := (some ((a1 - (1 : Int32)).toNatClampNeg))) (f := fun k => ad B (25 + k)) C G hr h d_Desk_get_23
theorem c_Desk_get (l : Launch) (B : zK) (a1 : Int32) (S : zS) (P : zS → Option Nat → Prop) (h : w_Desk_get a1 S P) : Met l y_Desk_get (Cond.code y_Desk_get prog_3_method_2_code 2 (some (FieldType.object "HostBench$Handle")) :: tT) (zRm 0 0) (zPc (wC B) [.ref (ad B 9), .int a1] S) (zQ (wC B) (zPq (fun k => ad B (25 + k)) P)) 0 0 (wC B).2.2.2 :=
  z_met (by decide) (Nat.le_of_ble_eq_true rfl) (fun E C G hr _ hnl => v_Desk_get C a1 P G hr hnl S h)
theorem q_Desk_get : zQw y_Desk_get prog_3_method_2_code 2 (some (FieldType.object "HostBench$Handle")) 1 := ⟨tw_769, tw_770, tw_84, tw_771, by decide +kernel⟩
def w_Desk_getOpen (a1 : Int32) (S : zS) (P : zS → Option Nat → Prop) : Prop :=
  w_Desk_get a1 S (fun S1 o2 => (o2 = none → (P S1 none)) ∧ (∀ k3 : Nat, o2 = some k3 → (k3 < 10 ∧ ((gM S1 4 k3) = 0 → (P S1 none)) ∧ (¬ (gM S1 4 k3) = 0 → (P S1 (some k3))))))
set_option maxRecDepth 20000 in
set_option maxHeartbeats 4000000 in
theorem v_Desk_getOpen {E : zE} {B : zK} (C : zC E (wC B) prog_3_method_3_code "HostBench$Desk" 1 21) (a1 : Int32) (P : zS → Option Nat → Prop) (G : zGoal E (zQ (wC B) (zPq (fun k => ad B (25 + k)) P)) (wC B)) (hr : zRt E ((some (.object "HostBench$Handle")))) (hnl : E.2.2.2.2.2.2.2.2.2.2.1 = 3) (S : zS) (h : w_Desk_getOpen a1 S P) : zV E (wC B) S 0 [(0, .ref (ad B 9)), (1, .int a1)] [] := by
  unfold w_Desk_getOpen at h
  refine z_aload_n C 0 rfl rfl d_Desk_getOpen_0 ?_
  refine z_iload_n C 1 rfl rfl d_Desk_getOpen_1 ?_
  refine z_callVq (rest := []) C q_Desk_get tw_799 (c_Desk_get _ B a1 S _ h) rc_Desk ⟨Nat.le_of_ble_eq_true rfl, Nat.le_of_ble_eq_true rfl⟩ rfl rfl (Nat.le_of_ble_eq_true rfl) d_Desk_getOpen_2 (fun S1 o2 h => ?_)
  refine z_astore_nq (x := (o2).map (fun k => ad B (25 + k))) (L' := [(2, va_rf ((o2).map (fun k => ad B (25 + k)))), (0, .ref (ad B 9)), (1, .int a1)]) C hnl rfl (by decide) rfl d_Desk_getOpen_5 ?_
  refine z_aload_nq (x := (o2).map (fun k => ad B (25 + k))) C 0 rfl rfl d_Desk_getOpen_6 ?_
  cases o2 with
  | none =>
    have h := h.1 rfl
    show zV E (wC B) S1 7 [(2, .null), (0, .ref (ad B 9)), (1, .int a1)] [.null]
    refine z_ifnullN (tgt := 21) C d_Desk_getOpen_7 rfl ?_
    refine z_null C d_Desk_getOpen_21 ?_
    exact z_areturn (v := none) (f := fun k => ad B (25 + k)) C G hr h d_Desk_getOpen_22
  | some k3 =>
    have h := h.2 k3 rfl
    show zV E (wC B) S1 7 [(2, .ref (ad B (25 + k3))), (0, .ref (ad B 9)), (1, .int a1)] [.ref (ad B (25 + k3))]
    refine z_ifnull (tgt := 21) C d_Desk_getOpen_7 rfl ?_
    refine z_aload_n C 0 rfl rfl d_Desk_getOpen_10 ?_
    obtain ⟨f4, h⟩ := h
    refine gf_Handle_kind C f4 (Or.inr (List.mem_of_getElem? (i := 16) rfl)) d_Desk_getOpen_11 ?_
    refine z_if_eq (tgt := 21) C d_Desk_getOpen_14 rfl (fun c => ?_) (fun c => ?_)
    · have h := h.1 c
      refine z_null C d_Desk_getOpen_21 ?_
      exact z_areturn (v := none) (f := fun k => ad B (25 + k)) C G hr h d_Desk_getOpen_22
    · have h := h.2 c
      refine z_aload_n C 0 rfl rfl d_Desk_getOpen_17 ?_
      refine z_goto (tgt := 22) C d_Desk_getOpen_18 rfl ?_
      exact z_areturn (v := (some k3)) (f := fun k => ad B (25 + k)) C G hr h d_Desk_getOpen_22
theorem c_Desk_getOpen (l : Launch) (B : zK) (a1 : Int32) (S : zS) (P : zS → Option Nat → Prop) (h : w_Desk_getOpen a1 S P) : Met l y_Desk_getOpen (Cond.code y_Desk_getOpen prog_3_method_3_code 3 (some (FieldType.object "HostBench$Handle")) :: tT) (zRm 1 21) (zPc (wC B) [.ref (ad B 9), .int a1] S) (zQ (wC B) (zPq (fun k => ad B (25 + k)) P)) 0 0 (wC B).2.2.2 :=
  z_met (by decide) (Nat.le_of_ble_eq_true rfl) (fun E C G hr _ hnl => v_Desk_getOpen C a1 P G hr hnl S h)
theorem q_Desk_getOpen : zQw y_Desk_getOpen prog_3_method_3_code 3 (some (FieldType.object "HostBench$Handle")) 1 := ⟨tw_796, tw_797, tw_84, tw_798, by decide +kernel⟩
def l_Desk_leastShut_2 (P : zS → Int32 → Prop) : Nat → zS → Int32 → Prop
  | 0, _, _ => False
  | n + 1, S, x1 =>
  ((10 : Int32) ≤ x1 → (P S (-1 : Int32))) ∧ (¬ (10 : Int32) ≤ x1 → (vp_in x1 10 ∧ x1.toNatClampNeg < 10 ∧ ((gM S 4 x1.toNatClampNeg) = 0 → (P S (x1 + (1 : Int32)))) ∧ (¬ (gM S 4 x1.toNatClampNeg) = 0 → (l_Desk_leastShut_2 P n S (x1 + (1 : Int32))))))
set_option maxRecDepth 20000 in
set_option maxHeartbeats 4000000 in
theorem vl_Desk_leastShut_2 {E : zE} {B : zK} (C : zC E (wC B) prog_3_method_4_code "HostBench$Desk" 0 0) (P : zS → Int32 → Prop) (G : zGoal E (zQ (wC B) (zPi P)) (wC B)) (hr : zRt E (some .int)) (hnl : E.2.2.2.2.2.2.2.2.2.2.1 = 2) : ∀ (n : Nat) (S : zS) (x1 : Int32) , l_Desk_leastShut_2 P n S x1 → zV E (wC B) S 2 [(0, .ref (ad B 9)), (1, .int x1)] [] := by
  intro n
  induction n with
  | zero => intro S x1 h; exact h.elim
  | succ n ih =>
    intro S x1 h
    unfold l_Desk_leastShut_2 at h
    refine z_iload_n C 1 rfl rfl d_Desk_leastShut_2 ?_
    refine z_bipush (v := (10 : Int32)) C rfl d_Desk_leastShut_3 ?_
    refine z_icmp_ge (tgt := 30) C d_Desk_leastShut_5 rfl (fun c => ?_) (fun c => ?_)
    · have h := h.1 c
      refine z_iconst (v := (-1 : Int32)) C rfl d_Desk_leastShut_30 ?_
      exact z_ireturn C G hr h d_Desk_leastShut_31
    · have h := h.2 c
      refine z_aload_n C 0 rfl rfl d_Desk_leastShut_8 ?_
      refine gf_Desk_handles C (Or.inl tw_249) d_Desk_leastShut_9 ?_
      refine z_iload_n C 1 rfl rfl d_Desk_leastShut_12 ?_
      obtain ⟨f1, h⟩ := h
      refine al_handles C f1 d_Desk_leastShut_13 ?_
      obtain ⟨f2, h⟩ := h
      refine gf_Handle_kind C f2 (Or.inr (List.mem_of_getElem? (i := 16) rfl)) d_Desk_leastShut_14 ?_
      refine z_if_ne (tgt := 24) C d_Desk_leastShut_17 rfl (fun c => ?_) (fun c => ?_)
      · have h := h.2 c
        refine z_iinc (v := x1 + (1 : Int32)) (L' := [(1, .int (x1 + (1 : Int32))), (0, .ref (ad B 9))]) C hnl 1 rfl rfl (by decide) rfl d_Desk_leastShut_24 ?_
        refine z_goto (tgt := 2) C d_Desk_leastShut_27 rfl ?_
        exact z_sub [1, 0] rfl (ih S (x1 + (1 : Int32)) h)
      · have h := h.1 c
        refine z_iload_n C 1 rfl rfl d_Desk_leastShut_20 ?_
        refine z_iconst (v := (1 : Int32)) C rfl d_Desk_leastShut_21 ?_
        refine z_iadd C d_Desk_leastShut_22 ?_
        exact z_ireturn C G hr h d_Desk_leastShut_23
def w_Desk_leastShut (S : zS) (P : zS → Int32 → Prop) : Prop :=
  ∃ n1 : Nat, l_Desk_leastShut_2 P n1 S (0 : Int32)
set_option maxRecDepth 20000 in
set_option maxHeartbeats 4000000 in
theorem v_Desk_leastShut {E : zE} {B : zK} (C : zC E (wC B) prog_3_method_4_code "HostBench$Desk" 0 0) (P : zS → Int32 → Prop) (G : zGoal E (zQ (wC B) (zPi P)) (wC B)) (hr : zRt E (some .int)) (hnl : E.2.2.2.2.2.2.2.2.2.2.1 = 2) (S : zS) (h : w_Desk_leastShut S P) : zV E (wC B) S 0 [(0, .ref (ad B 9))] [] := by
  unfold w_Desk_leastShut at h
  refine z_iconst (v := (0 : Int32)) C rfl d_Desk_leastShut_0 ?_
  refine z_istore_n (L' := [(1, .int (0 : Int32)), (0, .ref (ad B 9))]) C hnl rfl (by decide) rfl d_Desk_leastShut_1 ?_
  obtain ⟨n1, h⟩ := h
  exact z_sub [1, 0] rfl (vl_Desk_leastShut_2 C P G hr hnl n1 S (0 : Int32) h)
theorem c_Desk_leastShut (l : Launch) (B : zK) (S : zS) (P : zS → Int32 → Prop) (h : w_Desk_leastShut S P) : Met l y_Desk_leastShut (Cond.code y_Desk_leastShut prog_3_method_4_code 2 (some FieldType.int) :: tT) (zRm 0 0) (zPc (wC B) [.ref (ad B 9)] S) (zQ (wC B) (zPi P)) 0 0 (wC B).2.2.2 :=
  z_met (by decide) (Nat.le_of_ble_eq_true rfl) (fun E C G hr _ hnl => v_Desk_leastShut C P G hr hnl S h)
theorem q_Desk_leastShut : zQw y_Desk_leastShut prog_3_method_4_code 2 (some FieldType.int) 0 := ⟨tw_765, tw_766, tw_84, tw_767, by decide +kernel⟩
def j_Desk_openOn_39 (a1 : Nat) (P : zS → Int32 → Prop) (K4 : zS → Int32 → Int32 → Prop) (S : zS) (x2 : Int32) (x3 : Int32) : Prop :=
  K4 S x2 (x3 + (1 : Int32))
set_option maxRecDepth 20000 in
set_option maxHeartbeats 4000000 in
theorem vj_Desk_openOn_39 {E : zE} {B : zK} (C : zC E (wC B) prog_3_method_5_code "HostBench$Desk" 0 0) (a1 : Nat) (P : zS → Int32 → Prop) (G : zGoal E (zQ (wC B) (zPi P)) (wC B)) (hr : zRt E (some .int)) (hnl : E.2.2.2.2.2.2.2.2.2.2.1 = 4) (K4 : zS → Int32 → Int32 → Prop) (hK4 : ∀ (S : zS) (x2 : Int32) (x3 : Int32), K4 S x2 x3 → zV E (wC B) S 4 [(0, .ref (ad B 9)), (1, .ref (ad B (13 + a1))), (2, .int x2), (3, .int x3)] []) (S : zS) (x2 : Int32) (x3 : Int32) (h : j_Desk_openOn_39 a1 P K4 S x2 x3) : zV E (wC B) S 39 [(0, .ref (ad B 9)), (1, .ref (ad B (13 + a1))), (2, .int x2), (3, .int x3)] [] := by
  unfold j_Desk_openOn_39 at h
  refine z_iinc (v := x3 + (1 : Int32)) (L' := [(3, .int (x3 + (1 : Int32))), (0, .ref (ad B 9)), (1, .ref (ad B (13 + a1))), (2, .int x2)]) C hnl 3 rfl rfl (by decide) rfl d_Desk_openOn_39 ?_
  refine z_goto (tgt := 4) C d_Desk_openOn_42 rfl ?_
  exact z_sub [1, 2, 3, 0] rfl (hK4 S x2 (x3 + (1 : Int32)) h)
def l_Desk_openOn_4 (a1 : Nat) (P : zS → Int32 → Prop) : Nat → zS → Int32 → Int32 → Prop
  | 0, _, _, _ => False
  | n + 1, S, x2, x3 =>
  ((10 : Int32) ≤ x3 → (P S x2)) ∧ (¬ (10 : Int32) ≤ x3 → (vp_in x3 10 ∧ x3.toNatClampNeg < 10 ∧ ((gM S 4 x3.toNatClampNeg) = (1 : Int32) → (∀ o3 : Option Nat, o3 = gH S x3.toNatClampNeg → (o3 = (some a1) → (j_Desk_openOn_39 a1 P (fun S x2 x3 => l_Desk_openOn_4 a1 P n S x2 x3) S (x2 + (1 : Int32)) x3)) ∧ (¬ o3 = (some a1) → (j_Desk_openOn_39 a1 P (fun S x2 x3 => l_Desk_openOn_4 a1 P n S x2 x3) S x2 x3)))) ∧ (¬ (gM S 4 x3.toNatClampNeg) = (1 : Int32) → (j_Desk_openOn_39 a1 P (fun S x2 x3 => l_Desk_openOn_4 a1 P n S x2 x3) S x2 x3))))
set_option maxRecDepth 20000 in
set_option maxHeartbeats 4000000 in
theorem vl_Desk_openOn_4 {E : zE} {B : zK} (C : zC E (wC B) prog_3_method_5_code "HostBench$Desk" 0 0) (a1 : Nat) (P : zS → Int32 → Prop) (G : zGoal E (zQ (wC B) (zPi P)) (wC B)) (hr : zRt E (some .int)) (hnl : E.2.2.2.2.2.2.2.2.2.2.1 = 4) : ∀ (n : Nat) (S : zS) (x2 : Int32) (x3 : Int32) , l_Desk_openOn_4 a1 P n S x2 x3 → zV E (wC B) S 4 [(0, .ref (ad B 9)), (1, .ref (ad B (13 + a1))), (2, .int x2), (3, .int x3)] [] := by
  intro n
  induction n with
  | zero => intro S x2 x3 h; exact h.elim
  | succ n ih =>
    intro S x2 x3 h
    unfold l_Desk_openOn_4 at h
    refine z_iload_n C 3 rfl rfl d_Desk_openOn_4 ?_
    refine z_bipush (v := (10 : Int32)) C rfl d_Desk_openOn_5 ?_
    refine z_icmp_ge (tgt := 45) C d_Desk_openOn_7 rfl (fun c => ?_) (fun c => ?_)
    · have h := h.1 c
      refine z_iload_n C 2 rfl rfl d_Desk_openOn_45 ?_
      exact z_ireturn C G hr h d_Desk_openOn_46
    · have h := h.2 c
      refine z_aload_n C 0 rfl rfl d_Desk_openOn_10 ?_
      refine gf_Desk_handles C (Or.inl tw_249) d_Desk_openOn_11 ?_
      refine z_iload_n C 3 rfl rfl d_Desk_openOn_14 ?_
      obtain ⟨f1, h⟩ := h
      refine al_handles C f1 d_Desk_openOn_15 ?_
      obtain ⟨f2, h⟩ := h
      refine gf_Handle_kind C f2 (Or.inr (List.mem_of_getElem? (i := 16) rfl)) d_Desk_openOn_16 ?_
      refine z_iconst (v := (1 : Int32)) C rfl d_Desk_openOn_19 ?_
      refine z_icmp_ne (tgt := 39) C d_Desk_openOn_20 rfl (fun c => ?_) (fun c => ?_)
      · have h := h.2 c
        exact z_sub [0, 1, 2, 3] rfl (vj_Desk_openOn_39 C a1 P G hr hnl (fun S x2 x3 => l_Desk_openOn_4 a1 P n S x2 x3) ih S x2 x3 h)
      · have h := h.1 c
        refine z_aload_n C 0 rfl rfl d_Desk_openOn_23 ?_
        refine gf_Desk_handles C (Or.inl tw_249) d_Desk_openOn_24 ?_
        refine z_iload_n C 3 rfl rfl d_Desk_openOn_27 ?_
        refine al_handles C f1 d_Desk_openOn_28 ?_
        refine gf_Handle_file C f2 (Or.inr (List.mem_of_getElem? (i := 19) rfl)) d_Desk_openOn_29 ?_
        refine z_topq (f := fun k => ad B (13 + k)) (fun o3 eo3 => ?_)
        have h := h o3 eo3
        refine z_aload_n C 1 rfl rfl d_Desk_openOn_32 ?_
        refine z_acmpF_ne (x := o3) (y := (some a1)) (tgt := 39) C d_Desk_openOn_33 rfl (fun c => ?_) (fun c => ?_)
        · have h := h.2 c
          exact z_sub [0, 1, 2, 3] rfl (vj_Desk_openOn_39 C a1 P G hr hnl (fun S x2 x3 => l_Desk_openOn_4 a1 P n S x2 x3) ih S x2 x3 h)
        · have h := h.1 c
          refine z_iinc (v := x2 + (1 : Int32)) (L' := [(2, .int (x2 + (1 : Int32))), (0, .ref (ad B 9)), (1, .ref (ad B (13 + a1))), (3, .int x3)]) C hnl 2 rfl rfl (by decide) rfl d_Desk_openOn_36 ?_
          exact z_sub [1, 2, 0, 3] rfl (vj_Desk_openOn_39 C a1 P G hr hnl (fun S x2 x3 => l_Desk_openOn_4 a1 P n S x2 x3) ih S (x2 + (1 : Int32)) x3 h)
def w_Desk_openOn (a1 : Nat) (S : zS) (P : zS → Int32 → Prop) : Prop :=
  ∃ n1 : Nat, l_Desk_openOn_4 a1 P n1 S (0 : Int32) (0 : Int32)
set_option maxRecDepth 20000 in
set_option maxHeartbeats 4000000 in
theorem v_Desk_openOn {E : zE} {B : zK} (C : zC E (wC B) prog_3_method_5_code "HostBench$Desk" 0 0) (a1 : Nat) (P : zS → Int32 → Prop) (G : zGoal E (zQ (wC B) (zPi P)) (wC B)) (hr : zRt E (some .int)) (hnl : E.2.2.2.2.2.2.2.2.2.2.1 = 4) (S : zS) (h : w_Desk_openOn a1 S P) : zV E (wC B) S 0 [(0, .ref (ad B 9)), (1, .ref (ad B (13 + a1)))] [] := by
  unfold w_Desk_openOn at h
  refine z_iconst (v := (0 : Int32)) C rfl d_Desk_openOn_0 ?_
  refine z_istore_n (L' := [(2, .int (0 : Int32)), (0, .ref (ad B 9)), (1, .ref (ad B (13 + a1)))]) C hnl rfl (by decide) rfl d_Desk_openOn_1 ?_
  refine z_iconst (v := (0 : Int32)) C rfl d_Desk_openOn_2 ?_
  refine z_istore_n (L' := [(3, .int (0 : Int32)), (2, .int (0 : Int32)), (0, .ref (ad B 9)), (1, .ref (ad B (13 + a1)))]) C hnl rfl (by decide) rfl d_Desk_openOn_3 ?_
  obtain ⟨n1, h⟩ := h
  exact z_sub [2, 3, 1, 0] rfl (vl_Desk_openOn_4 C a1 P G hr hnl n1 S (0 : Int32) (0 : Int32) h)
theorem c_Desk_openOn (l : Launch) (B : zK) (a1 : Nat) (S : zS) (P : zS → Int32 → Prop) (h : w_Desk_openOn a1 S P) : Met l y_Desk_openOn (Cond.code y_Desk_openOn prog_3_method_5_code 4 (some FieldType.int) :: tT) (zRm 0 0) (zPc (wC B) [.ref (ad B 9), .ref (ad B (13 + a1))] S) (zQ (wC B) (zPi P)) 0 0 (wC B).2.2.2 :=
  z_met (by decide) (Nat.le_of_ble_eq_true rfl) (fun E C G hr _ hnl => v_Desk_openOn C a1 P G hr hnl S h)
theorem q_Desk_openOn : zQw y_Desk_openOn prog_3_method_5_code 4 (some FieldType.int) 1 := ⟨tw_567, tw_568, tw_84, tw_569, by decide +kernel⟩
def w_Folder_get (a1 : Int32) (S : zS) (P : zS → Option Nat → Prop) : Prop :=
  (a1 < 0 → (P S none)) ∧ (¬ a1 < 0 → (((gM S 0 10) ≤ a1 → (P S none)) ∧ (¬ (gM S 0 10) ≤ a1 → (vp_in a1 12 ∧ P S (some (gF S a1.toNatClampNeg))))))
set_option maxRecDepth 20000 in
set_option maxHeartbeats 4000000 in
theorem v_Folder_get {E : zE} {B : zK} (C : zC E (wC B) prog_4_method_2_code "HostBench$Folder" 0 0) (a1 : Int32) (P : zS → Option Nat → Prop) (G : zGoal E (zQ (wC B) (zPq (fun k => ad B (13 + k)) P)) (wC B)) (hr : zRt E ((some (.object "HostBench$HostFile")))) (hnl : E.2.2.2.2.2.2.2.2.2.2.1 = 2) (S : zS) (h : w_Folder_get a1 S P) : zV E (wC B) S 0 [(0, .ref (ad B 7)), (1, .int a1)] [] := by
  unfold w_Folder_get at h
  refine z_iload_n C 1 rfl rfl d_Folder_get_0 ?_
  refine z_if_lt (tgt := 21) C d_Folder_get_1 rfl (fun c => ?_) (fun c => ?_)
  · have h := h.1 c
    refine z_null C d_Folder_get_21 ?_
    exact z_areturn (v := none) (f := fun k => ad B (13 + k)) C G hr h d_Folder_get_22
  · have h := h.2 c
    refine z_iload_n C 1 rfl rfl d_Folder_get_4 ?_
    refine z_aload_n C 0 rfl rfl d_Folder_get_5 ?_
    refine gf_Folder_count C (Or.inl tw_207) d_Folder_get_6 ?_
    refine z_icmp_ge (tgt := 21) C d_Folder_get_9 rfl (fun c => ?_) (fun c => ?_)
    · have h := h.1 c
      refine z_null C d_Folder_get_21 ?_
      exact z_areturn (v := none) (f := fun k => ad B (13 + k)) C G hr h d_Folder_get_22
    · have h := h.2 c
      refine z_aload_n C 0 rfl rfl d_Folder_get_12 ?_
      refine gf_Folder_files C (Or.inl tw_206) d_Folder_get_13 ?_
      refine z_iload_n C 1 rfl rfl d_Folder_get_16 ?_
      obtain ⟨f1, h⟩ := h
      refine al_files C f1 d_Folder_get_17 ?_
      refine z_goto (tgt := 22) C d_Folder_get_18 rfl ?_
      exact z_areturn (v := (some (gF S a1.toNatClampNeg))) (f := fun k => ad B (13 + k)) C G hr h d_Folder_get_22
theorem c_Folder_get (l : Launch) (B : zK) (a1 : Int32) (S : zS) (P : zS → Option Nat → Prop) (h : w_Folder_get a1 S P) : Met l y_Folder_get (Cond.code y_Folder_get prog_4_method_2_code 2 (some (FieldType.object "HostBench$HostFile")) :: tT) (zRm 0 0) (zPc (wC B) [.ref (ad B 7), .int a1] S) (zQ (wC B) (zPq (fun k => ad B (13 + k)) P)) 0 0 (wC B).2.2.2 :=
  z_met (by decide) (Nat.le_of_ble_eq_true rfl) (fun E C G hr _ hnl => v_Folder_get C a1 P G hr hnl S h)
theorem q_Folder_get : zQw y_Folder_get prog_4_method_2_code 2 (some (FieldType.object "HostBench$HostFile")) 1 := ⟨tw_419, tw_420, tw_82, tw_421, by decide +kernel⟩
def l_Folder_find_2 (a1 : Nat) (P : zS → Option Nat → Prop) : Nat → zS → Int32 → Prop
  | 0, _, _ => False
  | n + 1, S, x2 =>
  ((gM S 0 10) ≤ x2 → (P S none)) ∧ (¬ (gM S 0 10) ≤ x2 → (vp_in x2 12 ∧ (gF S x2.toNatClampNeg) < 12 ∧ (2 + 2 * (gF S x2.toNatClampNeg)) < 32 ∧ w_Bytes_same (2 + 2 * (gF S x2.toNatClampNeg)) a1 S (fun S4 r5 => (r5 = 0 → (l_Folder_find_2 a1 P n S4 (x2 + (1 : Int32)))) ∧ (¬ r5 = 0 → (P S4 (some (gF S4 x2.toNatClampNeg)))))))
set_option maxRecDepth 20000 in
set_option maxHeartbeats 4000000 in
theorem vl_Folder_find_2 {E : zE} {B : zK} (C : zC E (wC B) prog_4_method_3_code "HostBench$Folder" 1 22) (a1 : Nat) (P : zS → Option Nat → Prop) (G : zGoal E (zQ (wC B) (zPq (fun k => ad B (13 + k)) P)) (wC B)) (hr : zRt E ((some (.object "HostBench$HostFile")))) (hnl : E.2.2.2.2.2.2.2.2.2.2.1 = 3) : ∀ (n : Nat) (S : zS) (x2 : Int32) , l_Folder_find_2 a1 P n S x2 → zV E (wC B) S 2 [(0, .ref (ad B 7)), (1, .ref (ad B (35 + a1))), (2, .int x2)] [] := by
  intro n
  induction n with
  | zero => intro S x2 h; exact h.elim
  | succ n ih =>
    intro S x2 h
    unfold l_Folder_find_2 at h
    refine z_iload_n C 2 rfl rfl d_Folder_find_2 ?_
    refine z_aload_n C 0 rfl rfl d_Folder_find_3 ?_
    refine gf_Folder_count C (Or.inl tw_207) d_Folder_find_4 ?_
    refine z_icmp_ge (tgt := 39) C d_Folder_find_7 rfl (fun c => ?_) (fun c => ?_)
    · have h := h.1 c
      refine z_null C d_Folder_find_39 ?_
      exact z_areturn (v := none) (f := fun k => ad B (13 + k)) C G hr h d_Folder_find_40
    · have h := h.2 c
      refine z_aload_n C 0 rfl rfl d_Folder_find_10 ?_
      refine gf_Folder_files C (Or.inl tw_206) d_Folder_find_11 ?_
      refine z_iload_n C 2 rfl rfl d_Folder_find_14 ?_
      obtain ⟨f1, h⟩ := h
      refine al_files C f1 d_Folder_find_15 ?_
      obtain ⟨f2, h⟩ := h
      refine gf_HostFile_name C f2 (Or.inr (List.mem_of_getElem? (i := 9) rfl)) d_Folder_find_16 ?_
      refine z_aload_n C 1 rfl rfl d_Folder_find_19 ?_
      obtain ⟨f3, h⟩ := h
      refine z_callVi (rest := []) C q_Bytes_same tw_562 (c_Bytes_same _ B (2 + 2 * (gF S x2.toNatClampNeg)) a1 S _ h) (rc_Bytes f3) ⟨Nat.le_of_ble_eq_true rfl, Nat.le_of_ble_eq_true rfl⟩ rfl rfl (Nat.le_of_ble_eq_true rfl) d_Folder_find_20 (fun S4 r5 h => ?_)
      refine z_if_eq (tgt := 33) C d_Folder_find_23 rfl (fun c => ?_) (fun c => ?_)
      · have h := h.1 c
        refine z_iinc (v := x2 + (1 : Int32)) (L' := [(2, .int (x2 + (1 : Int32))), (0, .ref (ad B 7)), (1, .ref (ad B (35 + a1)))]) C hnl 2 rfl rfl (by decide) rfl d_Folder_find_33 ?_
        refine z_goto (tgt := 2) C d_Folder_find_36 rfl ?_
        exact z_sub [1, 2, 0] rfl (ih S4 (x2 + (1 : Int32)) h)
      · have h := h.2 c
        refine z_aload_n C 0 rfl rfl d_Folder_find_26 ?_
        refine gf_Folder_files C (Or.inl tw_206) d_Folder_find_27 ?_
        refine z_iload_n C 2 rfl rfl d_Folder_find_30 ?_
        refine al_files C f1 d_Folder_find_31 ?_
        exact z_areturn (v := (some (gF S4 x2.toNatClampNeg))) (f := fun k => ad B (13 + k)) C G hr h d_Folder_find_32
def w_Folder_find (a1 : Nat) (S : zS) (P : zS → Option Nat → Prop) : Prop :=
  ∃ n1 : Nat, l_Folder_find_2 a1 P n1 S (0 : Int32)
set_option maxRecDepth 20000 in
set_option maxHeartbeats 4000000 in
theorem v_Folder_find {E : zE} {B : zK} (C : zC E (wC B) prog_4_method_3_code "HostBench$Folder" 1 22) (a1 : Nat) (P : zS → Option Nat → Prop) (G : zGoal E (zQ (wC B) (zPq (fun k => ad B (13 + k)) P)) (wC B)) (hr : zRt E ((some (.object "HostBench$HostFile")))) (hnl : E.2.2.2.2.2.2.2.2.2.2.1 = 3) (S : zS) (h : w_Folder_find a1 S P) : zV E (wC B) S 0 [(0, .ref (ad B 7)), (1, .ref (ad B (35 + a1)))] [] := by
  unfold w_Folder_find at h
  refine z_iconst (v := (0 : Int32)) C rfl d_Folder_find_0 ?_
  refine z_istore_n (L' := [(2, .int (0 : Int32)), (0, .ref (ad B 7)), (1, .ref (ad B (35 + a1)))]) C hnl rfl (by decide) rfl d_Folder_find_1 ?_
  obtain ⟨n1, h⟩ := h
  exact z_sub [1, 2, 0] rfl (vl_Folder_find_2 C a1 P G hr hnl n1 S (0 : Int32) h)
theorem c_Folder_find (l : Launch) (B : zK) (a1 : Nat) (S : zS) (P : zS → Option Nat → Prop) (h : w_Folder_find a1 S P) : Met l y_Folder_find (Cond.code y_Folder_find prog_4_method_3_code 3 (some (FieldType.object "HostBench$HostFile")) :: tT) (zRm 1 22) (zPc (wC B) [.ref (ad B 7), .ref (ad B (35 + a1))] S) (zQ (wC B) (zPq (fun k => ad B (13 + k)) P)) 0 0 (wC B).2.2.2 :=
  z_met (by decide) (Nat.le_of_ble_eq_true rfl) (fun E C G hr _ hnl => v_Folder_find C a1 P G hr hnl S h)
theorem q_Folder_find : zQw y_Folder_find prog_4_method_3_code 3 (some (FieldType.object "HostBench$HostFile")) 1 := ⟨tw_559, tw_560, tw_82, tw_561, by decide +kernel⟩
def l_Folder_numberOf_2 (a1 : Option Nat) (P : zS → Int32 → Prop) : Nat → zS → Int32 → Prop
  | 0, _, _ => False
  | n + 1, S, x2 =>
  ((gM S 0 10) ≤ x2 → (P S (-1 : Int32))) ∧ (¬ (gM S 0 10) ≤ x2 → (vp_in x2 12 ∧ ((some (gF S x2.toNatClampNeg)) = a1 → (P S x2)) ∧ (¬ (some (gF S x2.toNatClampNeg)) = a1 → (l_Folder_numberOf_2 a1 P n S (x2 + (1 : Int32))))))
set_option maxRecDepth 20000 in
set_option maxHeartbeats 4000000 in
theorem vl_Folder_numberOf_2 {E : zE} {B : zK} (C : zC E (wC B) prog_4_method_4_code "HostBench$Folder" 0 0) (a1 : Option Nat) (P : zS → Int32 → Prop) (G : zGoal E (zQ (wC B) (zPi P)) (wC B)) (hr : zRt E (some .int)) (hnl : E.2.2.2.2.2.2.2.2.2.2.1 = 3) : ∀ (n : Nat) (S : zS) (x2 : Int32) , l_Folder_numberOf_2 a1 P n S x2 → zV E (wC B) S 2 [(0, .ref (ad B 7)), (1, va_rf ((a1).map (fun k => ad B (13 + k)))), (2, .int x2)] [] := by
  intro n
  induction n with
  | zero => intro S x2 h; exact h.elim
  | succ n ih =>
    intro S x2 h
    unfold l_Folder_numberOf_2 at h
    refine z_iload_n C 2 rfl rfl d_Folder_numberOf_2 ?_
    refine z_aload_n C 0 rfl rfl d_Folder_numberOf_3 ?_
    refine gf_Folder_count C (Or.inl tw_207) d_Folder_numberOf_4 ?_
    refine z_icmp_ge (tgt := 28) C d_Folder_numberOf_7 rfl (fun c => ?_) (fun c => ?_)
    · have h := h.1 c
      refine z_iconst (v := (-1 : Int32)) C rfl d_Folder_numberOf_28 ?_
      exact z_ireturn C G hr h d_Folder_numberOf_29
    · have h := h.2 c
      refine z_aload_n C 0 rfl rfl d_Folder_numberOf_10 ?_
      refine gf_Folder_files C (Or.inl tw_206) d_Folder_numberOf_11 ?_
      refine z_iload_n C 2 rfl rfl d_Folder_numberOf_14 ?_
      obtain ⟨f1, h⟩ := h
      refine al_files C f1 d_Folder_numberOf_15 ?_
      refine z_aload_nq (x := (a1).map (fun k => ad B (13 + k))) C 1 rfl rfl d_Folder_numberOf_16 ?_
      refine z_acmpF_ne (x := (some (gF S x2.toNatClampNeg))) (y := a1) (tgt := 22) C d_Folder_numberOf_17 rfl (fun c => ?_) (fun c => ?_)
      · have h := h.2 c
        refine z_iinc (v := x2 + (1 : Int32)) (L' := [(2, .int (x2 + (1 : Int32))), (0, .ref (ad B 7)), (1, va_rf ((a1).map (fun k => ad B (13 + k))))]) C hnl 2 rfl rfl (by decide) (by cases a1 <;> rfl) d_Folder_numberOf_22 ?_
        refine z_goto (tgt := 2) C d_Folder_numberOf_25 rfl ?_
        exact z_sub [1, 2, 0] rfl (ih S (x2 + (1 : Int32)) h)
      · have h := h.1 c
        refine z_iload_n C 2 rfl rfl d_Folder_numberOf_20 ?_
        exact z_ireturn C G hr h d_Folder_numberOf_21
def w_Folder_numberOf (a1 : Option Nat) (S : zS) (P : zS → Int32 → Prop) : Prop :=
  ∃ n1 : Nat, l_Folder_numberOf_2 a1 P n1 S (0 : Int32)
set_option maxRecDepth 20000 in
set_option maxHeartbeats 4000000 in
theorem v_Folder_numberOf {E : zE} {B : zK} (C : zC E (wC B) prog_4_method_4_code "HostBench$Folder" 0 0) (a1 : Option Nat) (P : zS → Int32 → Prop) (G : zGoal E (zQ (wC B) (zPi P)) (wC B)) (hr : zRt E (some .int)) (hnl : E.2.2.2.2.2.2.2.2.2.2.1 = 3) (S : zS) (h : w_Folder_numberOf a1 S P) : zV E (wC B) S 0 [(0, .ref (ad B 7)), (1, va_rf ((a1).map (fun k => ad B (13 + k))))] [] := by
  unfold w_Folder_numberOf at h
  refine z_iconst (v := (0 : Int32)) C rfl d_Folder_numberOf_0 ?_
  refine z_istore_n (L' := [(2, .int (0 : Int32)), (0, .ref (ad B 7)), (1, va_rf ((a1).map (fun k => ad B (13 + k))))]) C hnl rfl (by decide) (by cases a1 <;> rfl) d_Folder_numberOf_1 ?_
  obtain ⟨n1, h⟩ := h
  exact z_sub [1, 2, 0] rfl (vl_Folder_numberOf_2 C a1 P G hr hnl n1 S (0 : Int32) h)
theorem c_Folder_numberOf (l : Launch) (B : zK) (a1 : Option Nat) (S : zS) (P : zS → Int32 → Prop) (h : w_Folder_numberOf a1 S P) : Met l y_Folder_numberOf (Cond.code y_Folder_numberOf prog_4_method_4_code 3 (some FieldType.int) :: tT) (zRm 0 0) (zPc (wC B) [.ref (ad B 7), va_rf ((a1).map (fun k => ad B (13 + k)))] S) (zQ (wC B) (zPi P)) 0 0 (wC B).2.2.2 := by
  cases a1 <;> exact z_met (by decide) (Nat.le_of_ble_eq_true rfl) (fun E C G hr _ hnl => v_Folder_numberOf C _ P G hr hnl S h)
theorem q_Folder_numberOf : zQw y_Folder_numberOf prog_4_method_4_code 3 (some FieldType.int) 1 := ⟨tw_881, tw_882, tw_82, tw_883, by decide +kernel⟩
def w_Folder_make (a1 : Nat) (S : zS) (P : zS → Option Nat → Prop) : Prop :=
  ((gM S 0 10) < (12 : Int32) → (vp_in (gM S 0 10) 12 ∧ ∀ S2 : zS, S2 = sM S 0 10 ((gM S 0 10) + (1 : Int32)) → (gF S (gM S 0 10).toNatClampNeg) < 12 ∧ (2 + 2 * (gF S (gM S 0 10).toNatClampNeg)) < 32 ∧ w_Bytes_cut (2 + 2 * (gF S (gM S 0 10).toNatClampNeg)) (0 : Int32) S2 (fun S5 => a1 < 32 ∧ w_Bytes_size a1 S5 (fun S7 r8 => w_Bytes_append (2 + 2 * (gF S (gM S 0 10).toNatClampNeg)) a1 (0 : Int32) r8 S7 (fun S9 => (3 + 2 * (gF S (gM S 0 10).toNatClampNeg)) < 32 ∧ w_Bytes_cut (3 + 2 * (gF S (gM S 0 10).toNatClampNeg)) (0 : Int32) S9 (fun S11 => P S11 (some (gF S (gM S 0 10).toNatClampNeg)))))))) ∧ (¬ (gM S 0 10) < (12 : Int32) → (P S none))
set_option maxRecDepth 20000 in
set_option maxHeartbeats 4000000 in
theorem v_Folder_make {E : zE} {B : zK} (C : zC E (wC B) prog_4_method_5_code "HostBench$Folder" 2 41) (a1 : Nat) (P : zS → Option Nat → Prop) (G : zGoal E (zQ (wC B) (zPq (fun k => ad B (13 + k)) P)) (wC B)) (hr : zRt E ((some (.object "HostBench$HostFile")))) (hnl : E.2.2.2.2.2.2.2.2.2.2.1 = 3) (S : zS) (h : w_Folder_make a1 S P) : zV E (wC B) S 0 [(0, .ref (ad B 7)), (1, .ref (ad B (35 + a1)))] [] := by
  unfold w_Folder_make at h
  refine z_aload_n C 0 rfl rfl d_Folder_make_0 ?_
  refine gf_Folder_count C (Or.inl tw_207) d_Folder_make_1 ?_
  refine z_bipush (v := (12 : Int32)) C rfl d_Folder_make_4 ?_
  refine z_icmp_lt (tgt := 11) C d_Folder_make_6 rfl (fun c => ?_) (fun c => ?_)
  · have h := h.1 c
    refine z_aload_n C 0 rfl rfl d_Folder_make_11 ?_
    refine gf_Folder_files C (Or.inl tw_206) d_Folder_make_12 ?_
    refine z_aload_n C 0 rfl rfl d_Folder_make_15 ?_
    refine gf_Folder_count C (Or.inl tw_207) d_Folder_make_16 ?_
    obtain ⟨f1, h⟩ := h
    refine al_files C f1 d_Folder_make_19 ?_
    refine z_astore_n (L' := [(2, .ref (ad B (13 + (gF S (gM S 0 10).toNatClampNeg)))), (0, .ref (ad B 7)), (1, .ref (ad B (35 + a1)))]) C hnl rfl (by decide) rfl d_Folder_make_20 ?_
    refine z_aload_n C 1 rfl rfl d_Folder_make_21 ?_
    refine z_dup C rfl d_Folder_make_22 ?_
    refine gf_Folder_count C (Or.inl tw_207) d_Folder_make_23 ?_
    refine z_iconst (v := (1 : Int32)) C rfl d_Folder_make_26 ?_
    refine z_iadd C d_Folder_make_27 ?_
    refine pf_Folder_count C (Or.inl tw_207) d_Folder_make_28 ?_
    refine z_nS (fun S2 eS2 => ?_)
    have h := h S2 eS2
    refine z_aload_n C 0 rfl rfl d_Folder_make_31 ?_
    obtain ⟨f3, h⟩ := h
    refine gf_HostFile_name C f3 (Or.inr (List.mem_of_getElem? (i := 9) rfl)) d_Folder_make_32 ?_
    refine z_iconst (v := (0 : Int32)) C rfl d_Folder_make_35 ?_
    obtain ⟨f4, h⟩ := h
    refine z_callVv (rest := []) C q_Bytes_cut tw_590 (c_Bytes_cut _ B (2 + 2 * (gF S (gM S 0 10).toNatClampNeg)) (0 : Int32) S2 _ h) (rc_Bytes f4) ⟨Nat.le_of_ble_eq_true rfl, Nat.le_of_ble_eq_true rfl⟩ rfl rfl (Nat.le_of_ble_eq_true rfl) d_Folder_make_36 (fun S5 h => ?_)
    refine z_aload_n C 0 rfl rfl d_Folder_make_39 ?_
    refine gf_HostFile_name C f3 (Or.inr (List.mem_of_getElem? (i := 9) rfl)) d_Folder_make_40 ?_
    refine z_aload_n C 2 rfl rfl d_Folder_make_43 ?_
    refine z_iconst (v := (0 : Int32)) C rfl d_Folder_make_44 ?_
    refine z_aload_n C 2 rfl rfl d_Folder_make_45 ?_
    obtain ⟨f6, h⟩ := h
    refine z_callVi (rest := [.int (0 : Int32), .ref (ad B (35 + a1)), .ref (ad B (35 + (2 + 2 * (gF S (gM S 0 10).toNatClampNeg))))]) C q_Bytes_size tw_591 (c_Bytes_size _ B a1 S5 _ h) (rc_Bytes f6) ⟨Nat.le_of_ble_eq_true rfl, Nat.le_of_ble_eq_true rfl⟩ rfl rfl (Nat.le_of_ble_eq_true rfl) d_Folder_make_46 (fun S7 r8 h => ?_)
    refine z_callVv (rest := []) C q_Bytes_append tw_592 (c_Bytes_append _ B (2 + 2 * (gF S (gM S 0 10).toNatClampNeg)) a1 (0 : Int32) r8 S7 _ h) (rc_Bytes f4) ⟨Nat.le_of_ble_eq_true rfl, Nat.le_of_ble_eq_true rfl⟩ rfl rfl (Nat.le_of_ble_eq_true rfl) d_Folder_make_49 (fun S9 h => ?_)
    refine z_aload_n C 0 rfl rfl d_Folder_make_52 ?_
    refine gf_HostFile_content C f3 (Or.inr (List.mem_of_getElem? (i := 12) rfl)) d_Folder_make_53 ?_
    refine z_iconst (v := (0 : Int32)) C rfl d_Folder_make_56 ?_
    obtain ⟨f10, h⟩ := h
    refine z_callVv (rest := []) C q_Bytes_cut tw_590 (c_Bytes_cut _ B (3 + 2 * (gF S (gM S 0 10).toNatClampNeg)) (0 : Int32) S9 _ h) (rc_Bytes f10) ⟨Nat.le_of_ble_eq_true rfl, Nat.le_of_ble_eq_true rfl⟩ rfl rfl (Nat.le_of_ble_eq_true rfl) d_Folder_make_57 (fun S11 h => ?_)
    refine z_aload_n C 0 rfl rfl d_Folder_make_60 ?_
    exact z_areturn (v := (some (gF S (gM S 0 10).toNatClampNeg))) (f := fun k => ad B (13 + k)) C G hr h d_Folder_make_61
  · have h := h.2 c
    refine z_null C d_Folder_make_9 ?_
    exact z_areturn (v := none) (f := fun k => ad B (13 + k)) C G hr h d_Folder_make_10
theorem c_Folder_make (l : Launch) (B : zK) (a1 : Nat) (S : zS) (P : zS → Option Nat → Prop) (h : w_Folder_make a1 S P) : Met l y_Folder_make (Cond.code y_Folder_make prog_4_method_5_code 3 (some (FieldType.object "HostBench$HostFile")) :: tT) (zRm 2 41) (zPc (wC B) [.ref (ad B 7), .ref (ad B (35 + a1))] S) (zQ (wC B) (zPq (fun k => ad B (13 + k)) P)) 0 0 (wC B).2.2.2 :=
  z_met (by decide) (Nat.le_of_ble_eq_true rfl) (fun E C G hr _ hnl => v_Folder_make C a1 P G hr hnl S h)
theorem q_Folder_make : zQw y_Folder_make prog_4_method_5_code 3 (some (FieldType.object "HostBench$HostFile")) 1 := ⟨tw_587, tw_588, tw_82, tw_589, by decide +kernel⟩
def l_Folder_remove_24 (a1 : Nat) (P : zS → Prop) : Nat → zS → Int32 → Prop
  | 0, _, _ => False
  | n + 1, S, x3 =>
  ((gM S 0 10) ≤ x3 → (a1 < 12 ∧ vp_in (gM S 0 10) 12 ∧ ∀ S3 : zS, S3 = sF S (gM S 0 10).toNatClampNeg a1 → P S3)) ∧ (¬ (gM S 0 10) ≤ x3 → (vp_in (x3 + (1 : Int32)) 12 ∧ (gF S (x3 + (1 : Int32)).toNatClampNeg) < 12 ∧ vp_in x3 12 ∧ ∀ S7 : zS, S7 = sF S x3.toNatClampNeg (gF S (x3 + (1 : Int32)).toNatClampNeg) → l_Folder_remove_24 a1 P n S7 (x3 + (1 : Int32))))
set_option maxRecDepth 20000 in
set_option maxHeartbeats 4000000 in
theorem vl_Folder_remove_24 {E : zE} {B : zK} (C : zC E (wC B) prog_4_method_6_code "HostBench$Folder" 1 22) (a1 : Nat) (P : zS → Prop) (G : zGoal E (zQ (wC B) (zPv P)) (wC B)) (hr : zRt E (none)) (hnl : E.2.2.2.2.2.2.2.2.2.2.1 = 4) : ∀ (n : Nat) (S : zS) (x3 : Int32) , l_Folder_remove_24 a1 P n S x3 → zV E (wC B) S 24 [(0, .ref (ad B 7)), (1, .ref (ad B (13 + a1))), (3, .int x3)] [] := by
  intro n
  induction n with
  | zero => intro S x3 h; exact h.elim
  | succ n ih =>
    intro S x3 h
    unfold l_Folder_remove_24 at h
    refine z_iload_n C 2 rfl rfl d_Folder_remove_24 ?_
    refine z_aload_n C 0 rfl rfl d_Folder_remove_25 ?_
    refine gf_Folder_count C (Or.inl tw_207) d_Folder_remove_26 ?_
    refine z_icmp_ge (tgt := 52) C d_Folder_remove_29 rfl (fun c => ?_) (fun c => ?_)
    · have h := h.1 c
      refine z_aload_n C 0 rfl rfl d_Folder_remove_52 ?_
      refine gf_Folder_files C (Or.inl tw_206) d_Folder_remove_53 ?_
      refine z_aload_n C 0 rfl rfl d_Folder_remove_56 ?_
      refine gf_Folder_count C (Or.inl tw_207) d_Folder_remove_57 ?_
      refine z_aload_n C 1 rfl rfl d_Folder_remove_60 ?_
      obtain ⟨f1, h⟩ := h
      obtain ⟨f2, h⟩ := h
      refine as_files C f1 f2 d_Folder_remove_61 ?_
      refine z_nS (fun S3 eS3 => ?_)
      have h := h S3 eS3
      exact z_vreturn C G hr h d_Folder_remove_62
    · have h := h.2 c
      refine z_aload_n C 0 rfl rfl d_Folder_remove_32 ?_
      refine gf_Folder_files C (Or.inl tw_206) d_Folder_remove_33 ?_
      refine z_iload_n C 2 rfl rfl d_Folder_remove_36 ?_
      refine z_aload_n C 0 rfl rfl d_Folder_remove_37 ?_
      refine gf_Folder_files C (Or.inl tw_206) d_Folder_remove_38 ?_
      refine z_iload_n C 2 rfl rfl d_Folder_remove_41 ?_
      refine z_iconst (v := (1 : Int32)) C rfl d_Folder_remove_42 ?_
      refine z_iadd C d_Folder_remove_43 ?_
      obtain ⟨f4, h⟩ := h
      refine al_files C f4 d_Folder_remove_44 ?_
      obtain ⟨f5, h⟩ := h
      obtain ⟨f6, h⟩ := h
      refine as_files C f5 f6 d_Folder_remove_45 ?_
      refine z_nS (fun S7 eS7 => ?_)
      have h := h S7 eS7
      refine z_iinc (v := x3 + (1 : Int32)) (L' := [(3, .int (x3 + (1 : Int32))), (0, .ref (ad B 7)), (1, .ref (ad B (13 + a1)))]) C hnl 2 rfl rfl (by decide) rfl d_Folder_remove_46 ?_
      refine z_goto (tgt := 24) C d_Folder_remove_49 rfl ?_
      exact z_sub [1, 2, 0] rfl (ih S7 (x3 + (1 : Int32)) h)
def w_Folder_remove (a1 : Nat) (S : zS) (P : zS → Prop) : Prop :=
  w_Folder_numberOf (some a1) S (fun S1 r2 => (r2 = (-1 : Int32) → (P S1)) ∧ (¬ r2 = (-1 : Int32) → (∀ S3 : zS, S3 = sM S1 0 10 ((gM S1 0 10) - (1 : Int32)) → ∃ n4 : Nat, l_Folder_remove_24 a1 P n4 S3 r2)))
set_option maxRecDepth 20000 in
set_option maxHeartbeats 4000000 in
theorem v_Folder_remove {E : zE} {B : zK} (C : zC E (wC B) prog_4_method_6_code "HostBench$Folder" 1 22) (a1 : Nat) (P : zS → Prop) (G : zGoal E (zQ (wC B) (zPv P)) (wC B)) (hr : zRt E (none)) (hnl : E.2.2.2.2.2.2.2.2.2.2.1 = 4) (S : zS) (h : w_Folder_remove a1 S P) : zV E (wC B) S 0 [(0, .ref (ad B 7)), (1, .ref (ad B (13 + a1)))] [] := by
  unfold w_Folder_remove at h
  refine z_aload_n C 0 rfl rfl d_Folder_remove_0 ?_
  refine z_aload_n C 1 rfl rfl d_Folder_remove_1 ?_
  refine z_callVi (rest := []) C q_Folder_numberOf tw_880 (c_Folder_numberOf _ B (some a1) S _ h) rc_Folder ⟨Nat.le_of_ble_eq_true rfl, Nat.le_of_ble_eq_true rfl⟩ rfl rfl (Nat.le_of_ble_eq_true rfl) d_Folder_remove_2 (fun S1 r2 h => ?_)
  refine z_istore_n (L' := [(2, .int r2), (0, .ref (ad B 7)), (1, .ref (ad B (13 + a1)))]) C hnl rfl (by decide) rfl d_Folder_remove_5 ?_
  refine z_iload_n C 0 rfl rfl d_Folder_remove_6 ?_
  refine z_iconst (v := (-1 : Int32)) C rfl d_Folder_remove_7 ?_
  refine z_icmp_ne (tgt := 12) C d_Folder_remove_8 rfl (fun c => ?_) (fun c => ?_)
  · have h := h.2 c
    refine z_aload_n C 1 rfl rfl d_Folder_remove_12 ?_
    refine z_dup C rfl d_Folder_remove_13 ?_
    refine gf_Folder_count C (Or.inl tw_207) d_Folder_remove_14 ?_
    refine z_iconst (v := (1 : Int32)) C rfl d_Folder_remove_17 ?_
    refine z_isub C d_Folder_remove_18 ?_
    refine pf_Folder_count C (Or.inl tw_207) d_Folder_remove_19 ?_
    refine z_nS (fun S3 eS3 => ?_)
    have h := h S3 eS3
    refine z_iload_n C 0 rfl rfl d_Folder_remove_22 ?_
    refine z_istore_n (L' := [(3, .int r2), (2, .int r2), (0, .ref (ad B 7)), (1, .ref (ad B (13 + a1)))]) C hnl rfl (by decide) rfl d_Folder_remove_23 ?_
    obtain ⟨n4, h⟩ := h
    exact z_sub [2, 3, 0] rfl (vl_Folder_remove_24 C a1 P G hr hnl n4 S3 r2 h)
  · have h := h.1 c
    exact z_vreturn C G hr h d_Folder_remove_11
theorem c_Folder_remove (l : Launch) (B : zK) (a1 : Nat) (S : zS) (P : zS → Prop) (h : w_Folder_remove a1 S P) : Met l y_Folder_remove (Cond.code y_Folder_remove prog_4_method_6_code 4 none :: tT) (zRm 1 22) (zPc (wC B) [.ref (ad B 7), .ref (ad B (13 + a1))] S) (zQ (wC B) (zPv P)) 0 0 (wC B).2.2.2 :=
  z_met (by decide) (Nat.le_of_ble_eq_true rfl) (fun E C G hr _ hnl => v_Folder_remove C a1 P G hr hnl S h)
theorem q_Folder_remove : zQw y_Folder_remove prog_4_method_6_code 4 none 1 := ⟨tw_877, tw_878, tw_82, tw_879, by decide +kernel⟩
def w_Memory_hasArea (a1 : Int32) (a2 : Int32) (S : zS) (P : zS → Int32 → Prop) : Prop :=
  (0 < (lg_cmp ((a1.toInt64 &&& (4294967295 : Int64)) + (a2.toInt64 &&& (4294967295 : Int64))) (16384 : Int64)) → (P S (0 : Int32))) ∧ (¬ 0 < (lg_cmp ((a1.toInt64 &&& (4294967295 : Int64)) + (a2.toInt64 &&& (4294967295 : Int64))) (16384 : Int64)) → (P S (1 : Int32)))
set_option maxRecDepth 20000 in
set_option maxHeartbeats 4000000 in
theorem v_Memory_hasArea {E : zE} {B : zK} (C : zC E (wC B) prog_9_method_2_code "HostBench$Memory" 0 0) (a1 : Int32) (a2 : Int32) (P : zS → Int32 → Prop) (G : zGoal E (zQ (wC B) (zPi P)) (wC B)) (hr : zRt E (some .boolean)) (hnl : E.2.2.2.2.2.2.2.2.2.2.1 = 3) (S : zS) (h : w_Memory_hasArea a1 a2 S P) : zV E (wC B) S 0 [(0, .ref (ad B 5)), (1, .int a1), (2, .int a2)] [] := by
  unfold w_Memory_hasArea at h
  refine z_iload_n C 1 rfl rfl d_Memory_hasArea_0 ?_
  refine z_i2l C d_Memory_hasArea_1 ?_
  refine z_ldc2 (v := (4294967295 : Int64)) C tw_446 d_Memory_hasArea_2 ?_
  refine z_land C d_Memory_hasArea_5 ?_
  refine z_iload_n C 2 rfl rfl d_Memory_hasArea_6 ?_
  refine z_i2l C d_Memory_hasArea_7 ?_
  refine z_ldc2 (v := (4294967295 : Int64)) C tw_446 d_Memory_hasArea_8 ?_
  refine z_land C d_Memory_hasArea_11 ?_
  refine z_ladd C d_Memory_hasArea_12 ?_
  refine z_ldc2 (v := (16384 : Int64)) C tw_447 d_Memory_hasArea_13 ?_
  refine z_lcmp C d_Memory_hasArea_16 ?_
  refine z_if_gt (tgt := 24) C d_Memory_hasArea_17 rfl (fun c => ?_) (fun c => ?_)
  · have h := h.1 c
    refine z_iconst (v := (0 : Int32)) C rfl d_Memory_hasArea_24 ?_
    exact z_zreturn C G hr rfl h d_Memory_hasArea_25
  · have h := h.2 c
    refine z_iconst (v := (1 : Int32)) C rfl d_Memory_hasArea_20 ?_
    refine z_goto (tgt := 25) C d_Memory_hasArea_21 rfl ?_
    exact z_zreturn C G hr rfl h d_Memory_hasArea_25
theorem c_Memory_hasArea (l : Launch) (B : zK) (a1 : Int32) (a2 : Int32) (S : zS) (P : zS → Int32 → Prop) (h : w_Memory_hasArea a1 a2 S P) : Met l y_Memory_hasArea (Cond.code y_Memory_hasArea prog_9_method_2_code 3 (some FieldType.boolean) :: tT) (zRm 0 0) (zPc (wC B) [.ref (ad B 5), .int a1, .int a2] S) (zQ (wC B) (zPi P)) 0 0 (wC B).2.2.2 :=
  z_met (by decide) (Nat.le_of_ble_eq_true rfl) (fun E C G hr _ hnl => v_Memory_hasArea C a1 a2 P G hr hnl S h)
theorem q_Memory_hasArea : zQw y_Memory_hasArea prog_9_method_2_code 3 (some FieldType.boolean) 2 := ⟨tw_443, tw_444, tw_81, tw_445, by decide +kernel⟩
def w_Memory_wordAt (a1 : Int32) (S : zS) (P : zS → Int32 → Prop) : Prop :=
  w_Memory_hasArea a1 (4 : Int32) S (fun S1 r2 => (r2 = 0 → (P S1 (0 : Int32))) ∧ (¬ r2 = 0 → (vp_in a1 16384 ∧ vp_in (a1 + (1 : Int32)) 16384 ∧ vp_in (a1 + (2 : Int32)) 16384 ∧ vp_in (a1 + (3 : Int32)) 16384 ∧ P S1 (((((gM S1 3 a1.toNatClampNeg) &&& (255 : Int32)) ||| (((gM S1 3 (a1 + (1 : Int32)).toNatClampNeg) &&& (255 : Int32)) <<< ((8 : Int32) &&& 31))) ||| (((gM S1 3 (a1 + (2 : Int32)).toNatClampNeg) &&& (255 : Int32)) <<< ((16 : Int32) &&& 31))) ||| ((gM S1 3 (a1 + (3 : Int32)).toNatClampNeg) <<< ((24 : Int32) &&& 31))))))
set_option maxRecDepth 20000 in
set_option maxHeartbeats 4000000 in
theorem v_Memory_wordAt {E : zE} {B : zK} (C : zC E (wC B) prog_9_method_6_code "HostBench$Memory" 1 22) (a1 : Int32) (P : zS → Int32 → Prop) (G : zGoal E (zQ (wC B) (zPi P)) (wC B)) (hr : zRt E (some .int)) (hnl : E.2.2.2.2.2.2.2.2.2.2.1 = 2) (S : zS) (h : w_Memory_wordAt a1 S P) : zV E (wC B) S 0 [(0, .ref (ad B 5)), (1, .int a1)] [] := by
  unfold w_Memory_wordAt at h
  refine z_aload_n C 0 rfl rfl d_Memory_wordAt_0 ?_
  refine z_iload_n C 1 rfl rfl d_Memory_wordAt_1 ?_
  refine z_iconst (v := (4 : Int32)) C rfl d_Memory_wordAt_2 ?_
  refine z_callVi (rest := []) C q_Memory_hasArea tw_646 (c_Memory_hasArea _ B a1 (4 : Int32) S _ h) rc_Memory ⟨Nat.le_of_ble_eq_true rfl, Nat.le_of_ble_eq_true rfl⟩ rfl rfl (Nat.le_of_ble_eq_true rfl) d_Memory_wordAt_3 (fun S1 r2 h => ?_)
  refine z_if_ne (tgt := 11) C d_Memory_wordAt_6 rfl (fun c => ?_) (fun c => ?_)
  · have h := h.2 c
    refine z_aload_n C 0 rfl rfl d_Memory_wordAt_11 ?_
    refine gf_Memory_bytes C (Or.inl tw_139) d_Memory_wordAt_12 ?_
    refine z_iload_n C 1 rfl rfl d_Memory_wordAt_15 ?_
    obtain ⟨f3, h⟩ := h
    refine al_bytes C f3 d_Memory_wordAt_16 ?_
    refine z_sipush (v := (255 : Int32)) C rfl d_Memory_wordAt_17 ?_
    refine z_iand C d_Memory_wordAt_20 ?_
    refine z_aload_n C 0 rfl rfl d_Memory_wordAt_21 ?_
    refine gf_Memory_bytes C (Or.inl tw_139) d_Memory_wordAt_22 ?_
    refine z_iload_n C 1 rfl rfl d_Memory_wordAt_25 ?_
    refine z_iconst (v := (1 : Int32)) C rfl d_Memory_wordAt_26 ?_
    refine z_iadd C d_Memory_wordAt_27 ?_
    obtain ⟨f4, h⟩ := h
    refine al_bytes C f4 d_Memory_wordAt_28 ?_
    refine z_sipush (v := (255 : Int32)) C rfl d_Memory_wordAt_29 ?_
    refine z_iand C d_Memory_wordAt_32 ?_
    refine z_bipush (v := (8 : Int32)) C rfl d_Memory_wordAt_33 ?_
    refine z_ishl C d_Memory_wordAt_35 ?_
    refine z_ior C d_Memory_wordAt_36 ?_
    refine z_aload_n C 0 rfl rfl d_Memory_wordAt_37 ?_
    refine gf_Memory_bytes C (Or.inl tw_139) d_Memory_wordAt_38 ?_
    refine z_iload_n C 1 rfl rfl d_Memory_wordAt_41 ?_
    refine z_iconst (v := (2 : Int32)) C rfl d_Memory_wordAt_42 ?_
    refine z_iadd C d_Memory_wordAt_43 ?_
    obtain ⟨f5, h⟩ := h
    refine al_bytes C f5 d_Memory_wordAt_44 ?_
    refine z_sipush (v := (255 : Int32)) C rfl d_Memory_wordAt_45 ?_
    refine z_iand C d_Memory_wordAt_48 ?_
    refine z_bipush (v := (16 : Int32)) C rfl d_Memory_wordAt_49 ?_
    refine z_ishl C d_Memory_wordAt_51 ?_
    refine z_ior C d_Memory_wordAt_52 ?_
    refine z_aload_n C 0 rfl rfl d_Memory_wordAt_53 ?_
    refine gf_Memory_bytes C (Or.inl tw_139) d_Memory_wordAt_54 ?_
    refine z_iload_n C 1 rfl rfl d_Memory_wordAt_57 ?_
    refine z_iconst (v := (3 : Int32)) C rfl d_Memory_wordAt_58 ?_
    refine z_iadd C d_Memory_wordAt_59 ?_
    obtain ⟨f6, h⟩ := h
    refine al_bytes C f6 d_Memory_wordAt_60 ?_
    refine z_bipush (v := (24 : Int32)) C rfl d_Memory_wordAt_61 ?_
    refine z_ishl C d_Memory_wordAt_63 ?_
    refine z_ior C d_Memory_wordAt_64 ?_
    exact z_ireturn C G hr h d_Memory_wordAt_65
  · have h := h.1 c
    refine z_iconst (v := (0 : Int32)) C rfl d_Memory_wordAt_9 ?_
    exact z_ireturn C G hr h d_Memory_wordAt_10
theorem c_Memory_wordAt (l : Launch) (B : zK) (a1 : Int32) (S : zS) (P : zS → Int32 → Prop) (h : w_Memory_wordAt a1 S P) : Met l y_Memory_wordAt (Cond.code y_Memory_wordAt prog_9_method_6_code 2 (some FieldType.int) :: tT) (zRm 1 22) (zPc (wC B) [.ref (ad B 5), .int a1] S) (zQ (wC B) (zPi P)) 0 0 (wC B).2.2.2 :=
  z_met (by decide) (Nat.le_of_ble_eq_true rfl) (fun E C G hr _ hnl => v_Memory_wordAt C a1 P G hr hnl S h)
theorem q_Memory_wordAt : zQw y_Memory_wordAt prog_9_method_6_code 2 (some FieldType.int) 1 := ⟨tw_643, tw_644, tw_81, tw_645, by decide +kernel⟩
def w_Memory_byteAt (a1 : Int32) (S : zS) (P : zS → Int32 → Prop) : Prop :=
  (a1 < 0 → (P S (-1 : Int32))) ∧ (¬ a1 < 0 → (((16384 : Int32) ≤ a1 → (P S (-1 : Int32))) ∧ (¬ (16384 : Int32) ≤ a1 → (vp_in a1 16384 ∧ P S ((gM S 3 a1.toNatClampNeg) &&& (255 : Int32))))))
set_option maxRecDepth 20000 in
set_option maxHeartbeats 4000000 in
theorem v_Memory_byteAt {E : zE} {B : zK} (C : zC E (wC B) prog_9_method_3_code "HostBench$Memory" 0 0) (a1 : Int32) (P : zS → Int32 → Prop) (G : zGoal E (zQ (wC B) (zPi P)) (wC B)) (hr : zRt E (some .int)) (hnl : E.2.2.2.2.2.2.2.2.2.2.1 = 2) (S : zS) (h : w_Memory_byteAt a1 S P) : zV E (wC B) S 0 [(0, .ref (ad B 5)), (1, .int a1)] [] := by
  unfold w_Memory_byteAt at h
  refine z_iload_n C 1 rfl rfl d_Memory_byteAt_0 ?_
  refine z_if_lt (tgt := 24) C d_Memory_byteAt_1 rfl (fun c => ?_) (fun c => ?_)
  · have h := h.1 c
    refine z_iconst (v := (-1 : Int32)) C rfl d_Memory_byteAt_24 ?_
    exact z_ireturn C G hr h d_Memory_byteAt_25
  · have h := h.2 c
    refine z_iload_n C 1 rfl rfl d_Memory_byteAt_4 ?_
    refine z_sipush (v := (16384 : Int32)) C rfl d_Memory_byteAt_5 ?_
    refine z_icmp_ge (tgt := 24) C d_Memory_byteAt_8 rfl (fun c => ?_) (fun c => ?_)
    · have h := h.1 c
      refine z_iconst (v := (-1 : Int32)) C rfl d_Memory_byteAt_24 ?_
      exact z_ireturn C G hr h d_Memory_byteAt_25
    · have h := h.2 c
      refine z_aload_n C 0 rfl rfl d_Memory_byteAt_11 ?_
      refine gf_Memory_bytes C (Or.inl tw_139) d_Memory_byteAt_12 ?_
      refine z_iload_n C 1 rfl rfl d_Memory_byteAt_15 ?_
      obtain ⟨f1, h⟩ := h
      refine al_bytes C f1 d_Memory_byteAt_16 ?_
      refine z_sipush (v := (255 : Int32)) C rfl d_Memory_byteAt_17 ?_
      refine z_iand C d_Memory_byteAt_20 ?_
      refine z_goto (tgt := 25) C d_Memory_byteAt_21 rfl ?_
      exact z_ireturn C G hr h d_Memory_byteAt_25
theorem c_Memory_byteAt (l : Launch) (B : zK) (a1 : Int32) (S : zS) (P : zS → Int32 → Prop) (h : w_Memory_byteAt a1 S P) : Met l y_Memory_byteAt (Cond.code y_Memory_byteAt prog_9_method_3_code 2 (some FieldType.int) :: tT) (zRm 0 0) (zPc (wC B) [.ref (ad B 5), .int a1] S) (zQ (wC B) (zPi P)) 0 0 (wC B).2.2.2 :=
  z_met (by decide) (Nat.le_of_ble_eq_true rfl) (fun E C G hr _ hnl => v_Memory_byteAt C a1 P G hr hnl S h)
theorem q_Memory_byteAt : zQw y_Memory_byteAt prog_9_method_3_code 2 (some FieldType.int) 1 := ⟨tw_407, tw_408, tw_81, tw_409, by decide +kernel⟩
def w_Memory_halfAt (a1 : Int32) (S : zS) (P : zS → Int32 → Prop) : Prop :=
  w_Memory_hasArea a1 (2 : Int32) S (fun S1 r2 => (r2 = 0 → (P S1 (0 : Int32))) ∧ (¬ r2 = 0 → (vp_in a1 16384 ∧ vp_in (a1 + (1 : Int32)) 16384 ∧ P S1 (((gM S1 3 a1.toNatClampNeg) &&& (255 : Int32)) ||| (((gM S1 3 (a1 + (1 : Int32)).toNatClampNeg) &&& (255 : Int32)) <<< ((8 : Int32) &&& 31))))))
set_option maxRecDepth 20000 in
set_option maxHeartbeats 4000000 in
theorem v_Memory_halfAt {E : zE} {B : zK} (C : zC E (wC B) prog_9_method_5_code "HostBench$Memory" 1 22) (a1 : Int32) (P : zS → Int32 → Prop) (G : zGoal E (zQ (wC B) (zPi P)) (wC B)) (hr : zRt E (some .int)) (hnl : E.2.2.2.2.2.2.2.2.2.2.1 = 2) (S : zS) (h : w_Memory_halfAt a1 S P) : zV E (wC B) S 0 [(0, .ref (ad B 5)), (1, .int a1)] [] := by
  unfold w_Memory_halfAt at h
  refine z_aload_n C 0 rfl rfl d_Memory_halfAt_0 ?_
  refine z_iload_n C 1 rfl rfl d_Memory_halfAt_1 ?_
  refine z_iconst (v := (2 : Int32)) C rfl d_Memory_halfAt_2 ?_
  refine z_callVi (rest := []) C q_Memory_hasArea tw_646 (c_Memory_hasArea _ B a1 (2 : Int32) S _ h) rc_Memory ⟨Nat.le_of_ble_eq_true rfl, Nat.le_of_ble_eq_true rfl⟩ rfl rfl (Nat.le_of_ble_eq_true rfl) d_Memory_halfAt_3 (fun S1 r2 h => ?_)
  refine z_if_ne (tgt := 11) C d_Memory_halfAt_6 rfl (fun c => ?_) (fun c => ?_)
  · have h := h.2 c
    refine z_aload_n C 0 rfl rfl d_Memory_halfAt_11 ?_
    refine gf_Memory_bytes C (Or.inl tw_139) d_Memory_halfAt_12 ?_
    refine z_iload_n C 1 rfl rfl d_Memory_halfAt_15 ?_
    obtain ⟨f3, h⟩ := h
    refine al_bytes C f3 d_Memory_halfAt_16 ?_
    refine z_sipush (v := (255 : Int32)) C rfl d_Memory_halfAt_17 ?_
    refine z_iand C d_Memory_halfAt_20 ?_
    refine z_aload_n C 0 rfl rfl d_Memory_halfAt_21 ?_
    refine gf_Memory_bytes C (Or.inl tw_139) d_Memory_halfAt_22 ?_
    refine z_iload_n C 1 rfl rfl d_Memory_halfAt_25 ?_
    refine z_iconst (v := (1 : Int32)) C rfl d_Memory_halfAt_26 ?_
    refine z_iadd C d_Memory_halfAt_27 ?_
    obtain ⟨f4, h⟩ := h
    refine al_bytes C f4 d_Memory_halfAt_28 ?_
    refine z_sipush (v := (255 : Int32)) C rfl d_Memory_halfAt_29 ?_
    refine z_iand C d_Memory_halfAt_32 ?_
    refine z_bipush (v := (8 : Int32)) C rfl d_Memory_halfAt_33 ?_
    refine z_ishl C d_Memory_halfAt_35 ?_
    refine z_ior C d_Memory_halfAt_36 ?_
    exact z_ireturn C G hr h d_Memory_halfAt_37
  · have h := h.1 c
    refine z_iconst (v := (0 : Int32)) C rfl d_Memory_halfAt_9 ?_
    exact z_ireturn C G hr h d_Memory_halfAt_10
theorem c_Memory_halfAt (l : Launch) (B : zK) (a1 : Int32) (S : zS) (P : zS → Int32 → Prop) (h : w_Memory_halfAt a1 S P) : Met l y_Memory_halfAt (Cond.code y_Memory_halfAt prog_9_method_5_code 2 (some FieldType.int) :: tT) (zRm 1 22) (zPc (wC B) [.ref (ad B 5), .int a1] S) (zQ (wC B) (zPi P)) 0 0 (wC B).2.2.2 :=
  z_met (by decide) (Nat.le_of_ble_eq_true rfl) (fun E C G hr _ hnl => v_Memory_halfAt C a1 P G hr hnl S h)
theorem q_Memory_halfAt : zQw y_Memory_halfAt prog_9_method_5_code 2 (some FieldType.int) 1 := ⟨tw_675, tw_676, tw_81, tw_677, by decide +kernel⟩
def w_Memory_storeByte (a1 : Int32) (a2 : Int32) (S : zS) (P : zS → Prop) : Prop :=
  (a1 < 0 → (P S)) ∧ (¬ a1 < 0 → (((16384 : Int32) ≤ a1 → (P S)) ∧ (¬ (16384 : Int32) ≤ a1 → (vp_in a1 16384 ∧ ∀ S2 : zS, S2 = sM S 3 a1.toNatClampNeg (vp_nar .byte a2.toInt8.toInt32) → P S2))))
set_option maxRecDepth 20000 in
set_option maxHeartbeats 4000000 in
theorem v_Memory_storeByte {E : zE} {B : zK} (C : zC E (wC B) prog_9_method_4_code "HostBench$Memory" 0 0) (a1 : Int32) (a2 : Int32) (P : zS → Prop) (G : zGoal E (zQ (wC B) (zPv P)) (wC B)) (hr : zRt E (none)) (hnl : E.2.2.2.2.2.2.2.2.2.2.1 = 3) (S : zS) (h : w_Memory_storeByte a1 a2 S P) : zV E (wC B) S 0 [(0, .ref (ad B 5)), (1, .int a1), (2, .int a2)] [] := by
  unfold w_Memory_storeByte at h
  refine z_iload_n C 1 rfl rfl d_Memory_storeByte_0 ?_
  refine z_if_lt (tgt := 19) C d_Memory_storeByte_1 rfl (fun c => ?_) (fun c => ?_)
  · have h := h.1 c
    exact z_vreturn C G hr h d_Memory_storeByte_19
  · have h := h.2 c
    refine z_iload_n C 1 rfl rfl d_Memory_storeByte_4 ?_
    refine z_sipush (v := (16384 : Int32)) C rfl d_Memory_storeByte_5 ?_
    refine z_icmp_ge (tgt := 19) C d_Memory_storeByte_8 rfl (fun c => ?_) (fun c => ?_)
    · have h := h.1 c
      exact z_vreturn C G hr h d_Memory_storeByte_19
    · have h := h.2 c
      refine z_aload_n C 0 rfl rfl d_Memory_storeByte_11 ?_
      refine gf_Memory_bytes C (Or.inl tw_139) d_Memory_storeByte_12 ?_
      refine z_iload_n C 1 rfl rfl d_Memory_storeByte_15 ?_
      refine z_iload_n C 2 rfl rfl d_Memory_storeByte_16 ?_
      refine z_i2b C d_Memory_storeByte_17 ?_
      obtain ⟨f1, h⟩ := h
      refine as_bytes C f1 d_Memory_storeByte_18 ?_
      refine z_nS (fun S2 eS2 => ?_)
      have h := h S2 eS2
      exact z_vreturn C G hr h d_Memory_storeByte_19
theorem c_Memory_storeByte (l : Launch) (B : zK) (a1 : Int32) (a2 : Int32) (S : zS) (P : zS → Prop) (h : w_Memory_storeByte a1 a2 S P) : Met l y_Memory_storeByte (Cond.code y_Memory_storeByte prog_9_method_4_code 3 none :: tT) (zRm 0 0) (zPc (wC B) [.ref (ad B 5), .int a1, .int a2] S) (zQ (wC B) (zPv P)) 0 0 (wC B).2.2.2 :=
  z_met (by decide) (Nat.le_of_ble_eq_true rfl) (fun E C G hr _ hnl => v_Memory_storeByte C a1 a2 P G hr hnl S h)
theorem q_Memory_storeByte : zQw y_Memory_storeByte prog_9_method_4_code 3 none 2 := ⟨tw_518, tw_519, tw_81, tw_520, by decide +kernel⟩
def j_Handle_openConsole_45 (j : Nat) (a1 : Int32) (P : zS → Prop) (S : zS) (s0 : Nat) (s1 : Int32) : Prop :=
  s0 < 10 ∧ ∀ S2 : zS, S2 = sM S 6 s0 s1 → P S2
set_option maxRecDepth 20000 in
set_option maxHeartbeats 4000000 in
theorem vj_Handle_openConsole_45 {E : zE} {B : zK} (C : zC E (wC B) prog_6_method_2_code "HostBench$Handle" 0 0) (j : Nat) (a1 : Int32) (P : zS → Prop) (G : zGoal E (zQ (wC B) (zPv P)) (wC B)) (hr : zRt E (none)) (hnl : E.2.2.2.2.2.2.2.2.2.2.1 = 2) (S : zS) (s0 : Nat) (s1 : Int32) (h : j_Handle_openConsole_45 j a1 P S s0 s1) : zV E (wC B) S 45 [] [.int s1, .ref (ad B (25 + s0))] := by
  unfold j_Handle_openConsole_45 at h
  obtain ⟨f1, h⟩ := h
  refine pf_Handle_rights C f1 (Or.inl tw_238) d_Handle_openConsole_45 ?_
  refine z_nS (fun S2 eS2 => ?_)
  have h := h S2 eS2
  exact z_vreturn C G hr h d_Handle_openConsole_48
def j_Handle_openConsole_21 (j : Nat) (a1 : Int32) (P : zS → Prop) (S : zS) (s0 : Nat) (s1 : Int32) : Prop :=
  s0 < 10 ∧ ∀ S2 : zS, S2 = sM S 4 s0 s1 → j < 10 ∧ ∀ S4 : zS, S4 = sH S2 j none → ∀ S5 : zS, S5 = sM S4 5 j (0 : Int32) → ((4 : Int32) ≤ a1 → (j_Handle_openConsole_45 j a1 P S5 j (2 : Int32))) ∧ (¬ (4 : Int32) ≤ a1 → (j_Handle_openConsole_45 j a1 P S5 j (1 : Int32)))
set_option maxRecDepth 20000 in
set_option maxHeartbeats 4000000 in
theorem vj_Handle_openConsole_21 {E : zE} {B : zK} (C : zC E (wC B) prog_6_method_2_code "HostBench$Handle" 0 0) (j : Nat) (a1 : Int32) (P : zS → Prop) (G : zGoal E (zQ (wC B) (zPv P)) (wC B)) (hr : zRt E (none)) (hnl : E.2.2.2.2.2.2.2.2.2.2.1 = 2) (S : zS) (s0 : Nat) (s1 : Int32) (h : j_Handle_openConsole_21 j a1 P S s0 s1) : zV E (wC B) S 21 [(0, .ref (ad B (25 + j))), (1, .int a1)] [.int s1, .ref (ad B (25 + s0))] := by
  unfold j_Handle_openConsole_21 at h
  obtain ⟨f1, h⟩ := h
  refine pf_Handle_kind C f1 (Or.inl tw_227) d_Handle_openConsole_21 ?_
  refine z_nS (fun S2 eS2 => ?_)
  have h := h S2 eS2
  refine z_aload_n C 0 rfl rfl d_Handle_openConsole_24 ?_
  refine z_null C d_Handle_openConsole_25 ?_
  obtain ⟨f3, h⟩ := h
  refine pf_Handle_file (v := none) C f3 (Or.inl tw_231) d_Handle_openConsole_26 ?_
  refine z_nS (fun S4 eS4 => ?_)
  have h := h S4 eS4
  refine z_aload_n C 0 rfl rfl d_Handle_openConsole_29 ?_
  refine z_iconst (v := (0 : Int32)) C rfl d_Handle_openConsole_30 ?_
  refine pf_Handle_place C f3 (Or.inl tw_235) d_Handle_openConsole_31 ?_
  refine z_nS (fun S5 eS5 => ?_)
  have h := h S5 eS5
  refine z_aload_n C 0 rfl rfl d_Handle_openConsole_34 ?_
  refine z_iload_n C 1 rfl rfl d_Handle_openConsole_35 ?_
  refine z_iconst (v := (4 : Int32)) C rfl d_Handle_openConsole_36 ?_
  refine z_icmp_ge (tgt := 44) C d_Handle_openConsole_37 rfl (fun c => ?_) (fun c => ?_)
  · have h := h.1 c
    refine z_iconst (v := (2 : Int32)) C rfl d_Handle_openConsole_44 ?_
    exact z_sub [] rfl (vj_Handle_openConsole_45 C j a1 P G hr hnl S5 j (2 : Int32) h)
  · have h := h.2 c
    refine z_iconst (v := (1 : Int32)) C rfl d_Handle_openConsole_40 ?_
    refine z_goto (tgt := 45) C d_Handle_openConsole_41 rfl ?_
    exact z_sub [] rfl (vj_Handle_openConsole_45 C j a1 P G hr hnl S5 j (1 : Int32) h)
def w_Handle_openConsole (j : Nat) (a1 : Int32) (S : zS) (P : zS → Prop) : Prop :=
  ((4 : Int32) ≤ a1 → (((8 : Int32) ≤ a1 → (j_Handle_openConsole_21 j a1 P S j (4 : Int32))) ∧ (¬ (8 : Int32) ≤ a1 → (j_Handle_openConsole_21 j a1 P S j (3 : Int32))))) ∧ (¬ (4 : Int32) ≤ a1 → (j_Handle_openConsole_21 j a1 P S j (2 : Int32)))
set_option maxRecDepth 20000 in
set_option maxHeartbeats 4000000 in
theorem v_Handle_openConsole {E : zE} {B : zK} (C : zC E (wC B) prog_6_method_2_code "HostBench$Handle" 0 0) (j : Nat) (a1 : Int32) (P : zS → Prop) (G : zGoal E (zQ (wC B) (zPv P)) (wC B)) (hr : zRt E (none)) (hnl : E.2.2.2.2.2.2.2.2.2.2.1 = 2) (S : zS) (h : w_Handle_openConsole j a1 S P) : zV E (wC B) S 0 [(0, .ref (ad B (25 + j))), (1, .int a1)] [] := by
  unfold w_Handle_openConsole at h
  refine z_aload_n C 0 rfl rfl d_Handle_openConsole_0 ?_
  refine z_iload_n C 1 rfl rfl d_Handle_openConsole_1 ?_
  refine z_iconst (v := (4 : Int32)) C rfl d_Handle_openConsole_2 ?_
  refine z_icmp_ge (tgt := 10) C d_Handle_openConsole_3 rfl (fun c => ?_) (fun c => ?_)
  · have h := h.1 c
    refine z_iload_n C 1 rfl rfl d_Handle_openConsole_10 ?_
    refine z_bipush (v := (8 : Int32)) C rfl d_Handle_openConsole_11 ?_
    refine z_icmp_ge (tgt := 20) C d_Handle_openConsole_13 rfl (fun c => ?_) (fun c => ?_)
    · have h := h.1 c
      refine z_iconst (v := (4 : Int32)) C rfl d_Handle_openConsole_20 ?_
      exact z_sub [0, 1] rfl (vj_Handle_openConsole_21 C j a1 P G hr hnl S j (4 : Int32) h)
    · have h := h.2 c
      refine z_iconst (v := (3 : Int32)) C rfl d_Handle_openConsole_16 ?_
      refine z_goto (tgt := 21) C d_Handle_openConsole_17 rfl ?_
      exact z_sub [0, 1] rfl (vj_Handle_openConsole_21 C j a1 P G hr hnl S j (3 : Int32) h)
  · have h := h.2 c
    refine z_iconst (v := (2 : Int32)) C rfl d_Handle_openConsole_6 ?_
    refine z_goto (tgt := 21) C d_Handle_openConsole_7 rfl ?_
    exact z_sub [0, 1] rfl (vj_Handle_openConsole_21 C j a1 P G hr hnl S j (2 : Int32) h)
theorem c_Handle_openConsole (l : Launch) (B : zK) (j : Nat) (a1 : Int32) (S : zS) (P : zS → Prop) (h : w_Handle_openConsole j a1 S P) : Met l y_Handle_openConsole (Cond.code y_Handle_openConsole prog_6_method_2_code 2 none :: tT) (zRm 0 0) (zPc (wC B) [.ref (ad B (25 + j)), .int a1] S) (zQ (wC B) (zPv P)) 0 0 (wC B).2.2.2 :=
  z_met (by decide) (Nat.le_of_ble_eq_true rfl) (fun E C G hr _ hnl => v_Handle_openConsole C j a1 P G hr hnl S h)
theorem q_Handle_openConsole : zQw y_Handle_openConsole prog_6_method_2_code 2 none 1 := ⟨tw_778, tw_779, tw_85, tw_780, by decide +kernel⟩
def j_Handle_openFile_37 (j : Nat) (a1 : Nat) (a2 : Int32) (P : zS → Prop) (S : zS) (s0 : Nat) (s1 : Int32) : Prop :=
  s0 < 10 ∧ ∀ S2 : zS, S2 = sM S 6 s0 s1 → ((a2 &&& (2 : Int32)) = 0 → (P S2)) ∧ (¬ (a2 &&& (2 : Int32)) = 0 → (j < 10 ∧ ∀ S4 : zS, S4 = sM S2 6 j ((gM S2 6 j) ||| (3 : Int32)) → P S4))
set_option maxRecDepth 20000 in
set_option maxHeartbeats 4000000 in
theorem vj_Handle_openFile_37 {E : zE} {B : zK} (C : zC E (wC B) prog_6_method_3_code "HostBench$Handle" 0 0) (j : Nat) (a1 : Nat) (a2 : Int32) (P : zS → Prop) (G : zGoal E (zQ (wC B) (zPv P)) (wC B)) (hr : zRt E (none)) (hnl : E.2.2.2.2.2.2.2.2.2.2.1 = 3) (S : zS) (s0 : Nat) (s1 : Int32) (h : j_Handle_openFile_37 j a1 a2 P S s0 s1) : zV E (wC B) S 37 [(0, .ref (ad B (25 + j))), (2, .int a2)] [.int s1, .ref (ad B (25 + s0))] := by
  unfold j_Handle_openFile_37 at h
  obtain ⟨f1, h⟩ := h
  refine pf_Handle_rights C f1 (Or.inl tw_238) d_Handle_openFile_37 ?_
  refine z_nS (fun S2 eS2 => ?_)
  have h := h S2 eS2
  refine z_iload_n C 1 rfl rfl d_Handle_openFile_40 ?_
  refine z_iconst (v := (2 : Int32)) C rfl d_Handle_openFile_41 ?_
  refine z_iand C d_Handle_openFile_42 ?_
  refine z_if_eq (tgt := 56) C d_Handle_openFile_43 rfl (fun c => ?_) (fun c => ?_)
  · have h := h.1 c
    exact z_vreturn C G hr h d_Handle_openFile_56
  · have h := h.2 c
    refine z_aload_n C 0 rfl rfl d_Handle_openFile_46 ?_
    refine z_dup C rfl d_Handle_openFile_47 ?_
    obtain ⟨f3, h⟩ := h
    refine gf_Handle_rights C f3 (Or.inl tw_238) d_Handle_openFile_48 ?_
    refine z_iconst (v := (3 : Int32)) C rfl d_Handle_openFile_51 ?_
    refine z_ior C d_Handle_openFile_52 ?_
    refine pf_Handle_rights C f3 (Or.inl tw_238) d_Handle_openFile_53 ?_
    refine z_nS (fun S4 eS4 => ?_)
    have h := h S4 eS4
    exact z_vreturn C G hr h d_Handle_openFile_56
def w_Handle_openFile (j : Nat) (a1 : Nat) (a2 : Int32) (S : zS) (P : zS → Prop) : Prop :=
  j < 10 ∧ ∀ S2 : zS, S2 = sM S 4 j (1 : Int32) → ∀ S3 : zS, S3 = sH S2 j (some a1) → ∀ S4 : zS, S4 = sM S3 5 j (0 : Int32) → ((4 : Int32) ≤ a2 → (((8 : Int32) ≤ a2 → (j_Handle_openFile_37 j a1 a2 P S4 j (6 : Int32))) ∧ (¬ (8 : Int32) ≤ a2 → (j_Handle_openFile_37 j a1 a2 P S4 j (2 : Int32))))) ∧ (¬ (4 : Int32) ≤ a2 → (j_Handle_openFile_37 j a1 a2 P S4 j (1 : Int32)))
set_option maxRecDepth 20000 in
set_option maxHeartbeats 4000000 in
theorem v_Handle_openFile {E : zE} {B : zK} (C : zC E (wC B) prog_6_method_3_code "HostBench$Handle" 0 0) (j : Nat) (a1 : Nat) (a2 : Int32) (P : zS → Prop) (G : zGoal E (zQ (wC B) (zPv P)) (wC B)) (hr : zRt E (none)) (hnl : E.2.2.2.2.2.2.2.2.2.2.1 = 3) (S : zS) (h : w_Handle_openFile j a1 a2 S P) : zV E (wC B) S 0 [(0, .ref (ad B (25 + j))), (1, .ref (ad B (13 + a1))), (2, .int a2)] [] := by
  unfold w_Handle_openFile at h
  refine z_aload_n C 0 rfl rfl d_Handle_openFile_0 ?_
  refine z_iconst (v := (1 : Int32)) C rfl d_Handle_openFile_1 ?_
  obtain ⟨f1, h⟩ := h
  refine pf_Handle_kind C f1 (Or.inl tw_227) d_Handle_openFile_2 ?_
  refine z_nS (fun S2 eS2 => ?_)
  have h := h S2 eS2
  refine z_aload_n C 0 rfl rfl d_Handle_openFile_5 ?_
  refine z_aload_n C 1 rfl rfl d_Handle_openFile_6 ?_
  refine pf_Handle_file (v := (some a1)) C f1 (Or.inl tw_231) d_Handle_openFile_7 ?_
  refine z_nS (fun S3 eS3 => ?_)
  have h := h S3 eS3
  refine z_aload_n C 0 rfl rfl d_Handle_openFile_10 ?_
  refine z_iconst (v := (0 : Int32)) C rfl d_Handle_openFile_11 ?_
  refine pf_Handle_place C f1 (Or.inl tw_235) d_Handle_openFile_12 ?_
  refine z_nS (fun S4 eS4 => ?_)
  have h := h S4 eS4
  refine z_aload_n C 0 rfl rfl d_Handle_openFile_15 ?_
  refine z_iload_n C 2 rfl rfl d_Handle_openFile_16 ?_
  refine z_iconst (v := (4 : Int32)) C rfl d_Handle_openFile_17 ?_
  refine z_icmp_ge (tgt := 25) C d_Handle_openFile_18 rfl (fun c => ?_) (fun c => ?_)
  · have h := h.1 c
    refine z_iload_n C 2 rfl rfl d_Handle_openFile_25 ?_
    refine z_bipush (v := (8 : Int32)) C rfl d_Handle_openFile_26 ?_
    refine z_icmp_ge (tgt := 35) C d_Handle_openFile_28 rfl (fun c => ?_) (fun c => ?_)
    · have h := h.1 c
      refine z_bipush (v := (6 : Int32)) C rfl d_Handle_openFile_35 ?_
      exact z_sub [0, 2] rfl (vj_Handle_openFile_37 C j a1 a2 P G hr hnl S4 j (6 : Int32) h)
    · have h := h.2 c
      refine z_iconst (v := (2 : Int32)) C rfl d_Handle_openFile_31 ?_
      refine z_goto (tgt := 37) C d_Handle_openFile_32 rfl ?_
      exact z_sub [0, 2] rfl (vj_Handle_openFile_37 C j a1 a2 P G hr hnl S4 j (2 : Int32) h)
  · have h := h.2 c
    refine z_iconst (v := (1 : Int32)) C rfl d_Handle_openFile_21 ?_
    refine z_goto (tgt := 37) C d_Handle_openFile_22 rfl ?_
    exact z_sub [0, 2] rfl (vj_Handle_openFile_37 C j a1 a2 P G hr hnl S4 j (1 : Int32) h)
theorem c_Handle_openFile (l : Launch) (B : zK) (j : Nat) (a1 : Nat) (a2 : Int32) (S : zS) (P : zS → Prop) (h : w_Handle_openFile j a1 a2 S P) : Met l y_Handle_openFile (Cond.code y_Handle_openFile prog_6_method_3_code 3 none :: tT) (zRm 0 0) (zPc (wC B) [.ref (ad B (25 + j)), .ref (ad B (13 + a1)), .int a2] S) (zQ (wC B) (zPv P)) 0 0 (wC B).2.2.2 :=
  z_met (by decide) (Nat.le_of_ble_eq_true rfl) (fun E C G hr _ hnl => v_Handle_openFile C j a1 a2 P G hr hnl S h)
theorem q_Handle_openFile : zQw y_Handle_openFile prog_6_method_3_code 3 none 2 := ⟨tw_788, tw_789, tw_85, tw_790, by decide +kernel⟩
def w_Handle_shut (j : Nat) (S : zS) (P : zS → Prop) : Prop :=
  j < 10 ∧ ∀ S2 : zS, S2 = sM S 4 j (0 : Int32) → ∀ S3 : zS, S3 = sH S2 j none → P S3
set_option maxRecDepth 20000 in
set_option maxHeartbeats 4000000 in
theorem v_Handle_shut {E : zE} {B : zK} (C : zC E (wC B) prog_6_method_4_code "HostBench$Handle" 0 0) (j : Nat) (P : zS → Prop) (G : zGoal E (zQ (wC B) (zPv P)) (wC B)) (hr : zRt E (none)) (hnl : E.2.2.2.2.2.2.2.2.2.2.1 = 1) (S : zS) (h : w_Handle_shut j S P) : zV E (wC B) S 0 [(0, .ref (ad B (25 + j)))] [] := by
  unfold w_Handle_shut at h
  refine z_aload_n C 0 rfl rfl d_Handle_shut_0 ?_
  refine z_iconst (v := (0 : Int32)) C rfl d_Handle_shut_1 ?_
  obtain ⟨f1, h⟩ := h
  refine pf_Handle_kind C f1 (Or.inl tw_227) d_Handle_shut_2 ?_
  refine z_nS (fun S2 eS2 => ?_)
  have h := h S2 eS2
  refine z_aload_n C 0 rfl rfl d_Handle_shut_5 ?_
  refine z_null C d_Handle_shut_6 ?_
  refine pf_Handle_file (v := none) C f1 (Or.inl tw_231) d_Handle_shut_7 ?_
  refine z_nS (fun S3 eS3 => ?_)
  have h := h S3 eS3
  exact z_vreturn C G hr h d_Handle_shut_10
theorem c_Handle_shut (l : Launch) (B : zK) (j : Nat) (S : zS) (P : zS → Prop) (h : w_Handle_shut j S P) : Met l y_Handle_shut (Cond.code y_Handle_shut prog_6_method_4_code 1 none :: tT) (zRm 0 0) (zPc (wC B) [.ref (ad B (25 + j))] S) (zQ (wC B) (zPv P)) 0 0 (wC B).2.2.2 :=
  z_met (by decide) (Nat.le_of_ble_eq_true rfl) (fun E C G hr _ hnl => v_Handle_shut C j P G hr hnl S h)
theorem q_Handle_shut : zQw y_Handle_shut prog_6_method_4_code 1 none 0 := ⟨tw_801, tw_802, tw_85, tw_803, by decide +kernel⟩
def w_Handle_may (j : Nat) (a1 : Int32) (S : zS) (P : zS → Int32 → Prop) : Prop :=
  j < 10 ∧ (((gM S 6 j) &&& a1) = 0 → (P S (0 : Int32))) ∧ (¬ ((gM S 6 j) &&& a1) = 0 → (P S (1 : Int32)))
set_option maxRecDepth 20000 in
set_option maxHeartbeats 4000000 in
theorem v_Handle_may {E : zE} {B : zK} (C : zC E (wC B) prog_6_method_5_code "HostBench$Handle" 0 0) (j : Nat) (a1 : Int32) (P : zS → Int32 → Prop) (G : zGoal E (zQ (wC B) (zPi P)) (wC B)) (hr : zRt E (some .boolean)) (hnl : E.2.2.2.2.2.2.2.2.2.2.1 = 2) (S : zS) (h : w_Handle_may j a1 S P) : zV E (wC B) S 0 [(0, .ref (ad B (25 + j))), (1, .int a1)] [] := by
  unfold w_Handle_may at h
  refine z_aload_n C 0 rfl rfl d_Handle_may_0 ?_
  obtain ⟨f1, h⟩ := h
  refine gf_Handle_rights C f1 (Or.inl tw_238) d_Handle_may_1 ?_
  refine z_iload_n C 1 rfl rfl d_Handle_may_4 ?_
  refine z_iand C d_Handle_may_5 ?_
  refine z_if_eq (tgt := 13) C d_Handle_may_6 rfl (fun c => ?_) (fun c => ?_)
  · have h := h.1 c
    refine z_iconst (v := (0 : Int32)) C rfl d_Handle_may_13 ?_
    exact z_zreturn C G hr rfl h d_Handle_may_14
  · have h := h.2 c
    refine z_iconst (v := (1 : Int32)) C rfl d_Handle_may_9 ?_
    refine z_goto (tgt := 14) C d_Handle_may_10 rfl ?_
    exact z_zreturn C G hr rfl h d_Handle_may_14
theorem c_Handle_may (l : Launch) (B : zK) (j : Nat) (a1 : Int32) (S : zS) (P : zS → Int32 → Prop) (h : w_Handle_may j a1 S P) : Met l y_Handle_may (Cond.code y_Handle_may prog_6_method_5_code 2 (some FieldType.boolean) :: tT) (zRm 0 0) (zPc (wC B) [.ref (ad B (25 + j)), .int a1] S) (zQ (wC B) (zPi P)) 0 0 (wC B).2.2.2 :=
  z_met (by decide) (Nat.le_of_ble_eq_true rfl) (fun E C G hr _ hnl => v_Handle_may C j a1 P G hr hnl S h)
theorem q_Handle_may : zQw y_Handle_may prog_6_method_5_code 2 (some FieldType.boolean) 1 := ⟨tw_825, tw_826, tw_85, tw_827, by decide +kernel⟩
def l_Output_receive_16 (j : Nat) (a2 : Int32) (a3 : Int32) (P : zS → Prop) : Nat → zS → Int32 → Int32 → Prop
  | 0, _, _, _ => False
  | n + 1, S, x4, x5 =>
  (x4 ≤ x5 → (j < 2 ∧ ∀ S2 : zS, S2 = sM S 7 j ((gM S 7 j) + a3) → P S2)) ∧ (¬ x4 ≤ x5 → (j < 2 ∧ w_Memory_byteAt (a2 + x5) S (fun S4 r5 => (27 + j) < 32 ∧ w_Bytes_add (27 + j) r5 S4 (fun S7 => l_Output_receive_16 j a2 a3 P n S7 x4 (x5 + (1 : Int32))))))
set_option maxRecDepth 20000 in
set_option maxHeartbeats 4000000 in
theorem vl_Output_receive_16 {E : zE} {B : zK} (C : zC E (wC B) prog_10_method_2_code "HostBench$Output" 1 21) (j : Nat) (a2 : Int32) (a3 : Int32) (P : zS → Prop) (G : zGoal E (zQ (wC B) (zPv P)) (wC B)) (hr : zRt E (none)) (hnl : E.2.2.2.2.2.2.2.2.2.2.1 = 6) : ∀ (n : Nat) (S : zS) (x4 : Int32) (x5 : Int32) , l_Output_receive_16 j a2 a3 P n S x4 x5 → zV E (wC B) S 16 [(0, .ref (ad B (11 + j))), (1, .ref (ad B 5)), (2, .int a2), (3, .int a3), (4, .int x4), (5, .int x5)] [] := by
  intro n
  induction n with
  | zero => intro S x4 x5 h; exact h.elim
  | succ n ih =>
    intro S x4 x5 h
    unfold l_Output_receive_16 at h
    refine z_iload C 5 rfl d_Output_receive_16 ?_
    refine z_iload C 4 rfl d_Output_receive_18 ?_
    refine z_icmp_ge (tgt := 44) C d_Output_receive_20 rfl (fun c => ?_) (fun c => ?_)
    · have h := h.1 c
      refine z_aload_n C 0 rfl rfl d_Output_receive_44 ?_
      refine z_dup C rfl d_Output_receive_45 ?_
      obtain ⟨f1, h⟩ := h
      refine gf_Output_total C f1 (Or.inl tw_265) d_Output_receive_46 ?_
      refine z_iload_n C 3 rfl rfl d_Output_receive_49 ?_
      refine z_iadd C d_Output_receive_50 ?_
      refine pf_Output_total C f1 (Or.inl tw_265) d_Output_receive_51 ?_
      refine z_nS (fun S2 eS2 => ?_)
      have h := h S2 eS2
      exact z_vreturn C G hr h d_Output_receive_54
    · have h := h.2 c
      refine z_aload_n C 0 rfl rfl d_Output_receive_23 ?_
      obtain ⟨f3, h⟩ := h
      refine gf_Output_kept C f3 (Or.inl tw_263) d_Output_receive_24 ?_
      refine z_aload_n C 1 rfl rfl d_Output_receive_27 ?_
      refine z_iload_n C 2 rfl rfl d_Output_receive_28 ?_
      refine z_iload C 5 rfl d_Output_receive_29 ?_
      refine z_iadd C d_Output_receive_31 ?_
      refine z_callVi (rest := [.ref (ad B (35 + (27 + j)))]) C q_Memory_byteAt tw_814 (c_Memory_byteAt _ B (a2 + x5) S _ h) rc_Memory ⟨Nat.le_of_ble_eq_true rfl, Nat.le_of_ble_eq_true rfl⟩ rfl rfl (Nat.le_of_ble_eq_true rfl) d_Output_receive_32 (fun S4 r5 h => ?_)
      obtain ⟨f6, h⟩ := h
      refine z_callVv (rest := []) C q_Bytes_add tw_815 (c_Bytes_add _ B (27 + j) r5 S4 _ h) (rc_Bytes f6) ⟨Nat.le_of_ble_eq_true rfl, Nat.le_of_ble_eq_true rfl⟩ rfl rfl (Nat.le_of_ble_eq_true rfl) d_Output_receive_35 (fun S7 h => ?_)
      refine z_iinc (v := x5 + (1 : Int32)) (L' := [(5, .int (x5 + (1 : Int32))), (0, .ref (ad B (11 + j))), (1, .ref (ad B 5)), (2, .int a2), (3, .int a3), (4, .int x4)]) C hnl 5 rfl rfl (by decide) rfl d_Output_receive_38 ?_
      refine z_goto (tgt := 16) C d_Output_receive_41 rfl ?_
      exact z_sub [1, 2, 3, 4, 5, 0] rfl (ih S7 x4 (x5 + (1 : Int32)) h)
def w_Output_receive (j : Nat) (a2 : Int32) (a3 : Int32) (S : zS) (P : zS → Prop) : Prop :=
  j < 2 ∧ (27 + j) < 32 ∧ w_Bytes_spare (27 + j) S (fun S3 r4 => ∀ v5 : Int32, v5 = (mnI a3 r4) → ∃ n6 : Nat, l_Output_receive_16 j a2 a3 P n6 S3 v5 (0 : Int32))
set_option maxRecDepth 20000 in
set_option maxHeartbeats 4000000 in
theorem v_Output_receive {E : zE} {B : zK} (C : zC E (wC B) prog_10_method_2_code "HostBench$Output" 1 21) (j : Nat) (a2 : Int32) (a3 : Int32) (P : zS → Prop) (G : zGoal E (zQ (wC B) (zPv P)) (wC B)) (hr : zRt E (none)) (hnl : E.2.2.2.2.2.2.2.2.2.2.1 = 6) (S : zS) (h : w_Output_receive j a2 a3 S P) : zV E (wC B) S 0 [(0, .ref (ad B (11 + j))), (1, .ref (ad B 5)), (2, .int a2), (3, .int a3)] [] := by
  unfold w_Output_receive at h
  refine z_iload_n C 3 rfl rfl d_Output_receive_0 ?_
  refine z_aload_n C 0 rfl rfl d_Output_receive_1 ?_
  obtain ⟨f1, h⟩ := h
  refine gf_Output_kept C f1 (Or.inl tw_263) d_Output_receive_2 ?_
  obtain ⟨f2, h⟩ := h
  refine z_callVi (rest := [.int a3]) C q_Bytes_spare tw_812 (c_Bytes_spare _ B (27 + j) S _ h) (rc_Bytes f2) ⟨Nat.le_of_ble_eq_true rfl, Nat.le_of_ble_eq_true rfl⟩ rfl rfl (Nat.le_of_ble_eq_true rfl) d_Output_receive_5 (fun S3 r4 h => ?_)
  refine z_mmin C tw_813 tw_556 tw_78 tw_557 (Nat.le_of_ble_eq_true rfl) (Nat.le_of_ble_eq_true rfl) d_Output_receive_8 ?_
  refine z_topi (fun v5 ev5 => ?_)
  have h := h v5 ev5
  refine z_istore (L' := [(4, .int v5), (0, .ref (ad B (11 + j))), (1, .ref (ad B 5)), (2, .int a2), (3, .int a3)]) C hnl (by decide) rfl d_Output_receive_11 ?_
  refine z_iconst (v := (0 : Int32)) C rfl d_Output_receive_13 ?_
  refine z_istore (L' := [(5, .int (0 : Int32)), (4, .int v5), (0, .ref (ad B (11 + j))), (1, .ref (ad B 5)), (2, .int a2), (3, .int a3)]) C hnl (by decide) rfl d_Output_receive_14 ?_
  obtain ⟨n6, h⟩ := h
  exact z_sub [2, 3, 4, 5, 1, 0] rfl (vl_Output_receive_16 C j a2 a3 P G hr hnl n6 S3 v5 (0 : Int32) h)
theorem c_Output_receive (l : Launch) (B : zK) (j : Nat) (a2 : Int32) (a3 : Int32) (S : zS) (P : zS → Prop) (h : w_Output_receive j a2 a3 S P) : Met l y_Output_receive (Cond.code y_Output_receive prog_10_method_2_code 6 none :: tT) (zRm 1 21) (zPc (wC B) [.ref (ad B (11 + j)), .ref (ad B 5), .int a2, .int a3] S) (zQ (wC B) (zPv P)) 0 0 (wC B).2.2.2 :=
  z_met (by decide) (Nat.le_of_ble_eq_true rfl) (fun E C G hr _ hnl => v_Output_receive C j a2 a3 P G hr hnl S h)
theorem q_Output_receive : zQw y_Output_receive prog_10_method_2_code 6 none 3 := ⟨tw_809, tw_810, tw_86, tw_811, by decide +kernel⟩
def l_Memory_lengthUpToZero_8 (a1 : Int32) (P : zS → Int32 → Prop) : Nat → zS → Int32 → Prop
  | 0, _, _ => False
  | n + 1, S, x2 =>
  ((16384 : Int32) ≤ x2 → (P S (-1 : Int32))) ∧ (¬ (16384 : Int32) ≤ x2 → (vp_in x2 16384 ∧ ((gM S 3 x2.toNatClampNeg) = 0 → (P S (x2 - a1))) ∧ (¬ (gM S 3 x2.toNatClampNeg) = 0 → (l_Memory_lengthUpToZero_8 a1 P n S (x2 + (1 : Int32))))))
set_option maxRecDepth 20000 in
set_option maxHeartbeats 4000000 in
theorem vl_Memory_lengthUpToZero_8 {E : zE} {B : zK} (C : zC E (wC B) prog_9_method_8_code "HostBench$Memory" 0 0) (a1 : Int32) (P : zS → Int32 → Prop) (G : zGoal E (zQ (wC B) (zPi P)) (wC B)) (hr : zRt E (some .int)) (hnl : E.2.2.2.2.2.2.2.2.2.2.1 = 3) : ∀ (n : Nat) (S : zS) (x2 : Int32) , l_Memory_lengthUpToZero_8 a1 P n S x2 → zV E (wC B) S 8 [(0, .ref (ad B 5)), (1, .int a1), (2, .int x2)] [] := by
  intro n
  induction n with
  | zero => intro S x2 h; exact h.elim
  | succ n ih =>
    intro S x2 h
    unfold l_Memory_lengthUpToZero_8 at h
    refine z_iload_n C 2 rfl rfl d_Memory_lengthUpToZero_8 ?_
    refine z_sipush (v := (16384 : Int32)) C rfl d_Memory_lengthUpToZero_9 ?_
    refine z_icmp_ge (tgt := 34) C d_Memory_lengthUpToZero_12 rfl (fun c => ?_) (fun c => ?_)
    · have h := h.1 c
      refine z_iconst (v := (-1 : Int32)) C rfl d_Memory_lengthUpToZero_34 ?_
      exact z_ireturn C G hr h d_Memory_lengthUpToZero_35
    · have h := h.2 c
      refine z_aload_n C 0 rfl rfl d_Memory_lengthUpToZero_15 ?_
      refine gf_Memory_bytes C (Or.inl tw_139) d_Memory_lengthUpToZero_16 ?_
      refine z_iload_n C 2 rfl rfl d_Memory_lengthUpToZero_19 ?_
      obtain ⟨f1, h⟩ := h
      refine al_bytes C f1 d_Memory_lengthUpToZero_20 ?_
      refine z_if_ne (tgt := 28) C d_Memory_lengthUpToZero_21 rfl (fun c => ?_) (fun c => ?_)
      · have h := h.2 c
        refine z_iinc (v := x2 + (1 : Int32)) (L' := [(2, .int (x2 + (1 : Int32))), (0, .ref (ad B 5)), (1, .int a1)]) C hnl 2 rfl rfl (by decide) rfl d_Memory_lengthUpToZero_28 ?_
        refine z_goto (tgt := 8) C d_Memory_lengthUpToZero_31 rfl ?_
        exact z_sub [1, 2, 0] rfl (ih S (x2 + (1 : Int32)) h)
      · have h := h.1 c
        refine z_iload_n C 2 rfl rfl d_Memory_lengthUpToZero_24 ?_
        refine z_iload_n C 1 rfl rfl d_Memory_lengthUpToZero_25 ?_
        refine z_isub C d_Memory_lengthUpToZero_26 ?_
        exact z_ireturn C G hr h d_Memory_lengthUpToZero_27
def w_Memory_lengthUpToZero (a1 : Int32) (S : zS) (P : zS → Int32 → Prop) : Prop :=
  (0 ≤ a1 → (∃ n1 : Nat, l_Memory_lengthUpToZero_8 a1 P n1 S a1)) ∧ (¬ 0 ≤ a1 → (P S (-1 : Int32)))
set_option maxRecDepth 20000 in
set_option maxHeartbeats 4000000 in
theorem v_Memory_lengthUpToZero {E : zE} {B : zK} (C : zC E (wC B) prog_9_method_8_code "HostBench$Memory" 0 0) (a1 : Int32) (P : zS → Int32 → Prop) (G : zGoal E (zQ (wC B) (zPi P)) (wC B)) (hr : zRt E (some .int)) (hnl : E.2.2.2.2.2.2.2.2.2.2.1 = 3) (S : zS) (h : w_Memory_lengthUpToZero a1 S P) : zV E (wC B) S 0 [(0, .ref (ad B 5)), (1, .int a1)] [] := by
  unfold w_Memory_lengthUpToZero at h
  refine z_iload_n C 1 rfl rfl d_Memory_lengthUpToZero_0 ?_
  refine z_if_ge (tgt := 6) C d_Memory_lengthUpToZero_1 rfl (fun c => ?_) (fun c => ?_)
  · have h := h.1 c
    refine z_iload_n C 1 rfl rfl d_Memory_lengthUpToZero_6 ?_
    refine z_istore_n (L' := [(2, .int a1), (0, .ref (ad B 5)), (1, .int a1)]) C hnl rfl (by decide) rfl d_Memory_lengthUpToZero_7 ?_
    obtain ⟨n1, h⟩ := h
    exact z_sub [1, 2, 0] rfl (vl_Memory_lengthUpToZero_8 C a1 P G hr hnl n1 S a1 h)
  · have h := h.2 c
    refine z_iconst (v := (-1 : Int32)) C rfl d_Memory_lengthUpToZero_4 ?_
    exact z_ireturn C G hr h d_Memory_lengthUpToZero_5
theorem c_Memory_lengthUpToZero (l : Launch) (B : zK) (a1 : Int32) (S : zS) (P : zS → Int32 → Prop) (h : w_Memory_lengthUpToZero a1 S P) : Met l y_Memory_lengthUpToZero (Cond.code y_Memory_lengthUpToZero prog_9_method_8_code 3 (some FieldType.int) :: tT) (zRm 0 0) (zPc (wC B) [.ref (ad B 5), .int a1] S) (zQ (wC B) (zPi P)) 0 0 (wC B).2.2.2 :=
  z_met (by decide) (Nat.le_of_ble_eq_true rfl) (fun E C G hr _ hnl => v_Memory_lengthUpToZero C a1 P G hr hnl S h)
theorem q_Memory_lengthUpToZero : zQw y_Memory_lengthUpToZero prog_9_method_8_code 3 (some FieldType.int) 1 := ⟨tw_817, tw_818, tw_81, tw_819, by decide +kernel⟩
def l_Memory_storeWord_2 (a1 : Int32) (a2 : Int32) (P : zS → Prop) : Nat → zS → Int32 → Prop
  | 0, _, _ => False
  | n + 1, S, x3 =>
  ((4 : Int32) ≤ x3 → (P S)) ∧ (¬ (4 : Int32) ≤ x3 → (w_Memory_storeByte (a1 + x3) ((a2.toUInt32 >>> (((8 : Int32) * x3).toUInt32 &&& Int32.toUInt32 31)).toInt32) S (fun S1 => l_Memory_storeWord_2 a1 a2 P n S1 (x3 + (1 : Int32)))))
set_option maxRecDepth 20000 in
set_option maxHeartbeats 4000000 in
theorem vl_Memory_storeWord_2 {E : zE} {B : zK} (C : zC E (wC B) prog_9_method_7_code "HostBench$Memory" 1 22) (a1 : Int32) (a2 : Int32) (P : zS → Prop) (G : zGoal E (zQ (wC B) (zPv P)) (wC B)) (hr : zRt E (none)) (hnl : E.2.2.2.2.2.2.2.2.2.2.1 = 4) : ∀ (n : Nat) (S : zS) (x3 : Int32) , l_Memory_storeWord_2 a1 a2 P n S x3 → zV E (wC B) S 2 [(0, .ref (ad B 5)), (1, .int a1), (2, .int a2), (3, .int x3)] [] := by
  intro n
  induction n with
  | zero => intro S x3 h; exact h.elim
  | succ n ih =>
    intro S x3 h
    unfold l_Memory_storeWord_2 at h
    refine z_iload_n C 3 rfl rfl d_Memory_storeWord_2 ?_
    refine z_iconst (v := (4 : Int32)) C rfl d_Memory_storeWord_3 ?_
    refine z_icmp_ge (tgt := 26) C d_Memory_storeWord_4 rfl (fun c => ?_) (fun c => ?_)
    · have h := h.1 c
      exact z_vreturn C G hr h d_Memory_storeWord_26
    · have h := h.2 c
      refine z_aload_n C 0 rfl rfl d_Memory_storeWord_7 ?_
      refine z_iload_n C 1 rfl rfl d_Memory_storeWord_8 ?_
      refine z_iload_n C 3 rfl rfl d_Memory_storeWord_9 ?_
      refine z_iadd C d_Memory_storeWord_10 ?_
      refine z_iload_n C 2 rfl rfl d_Memory_storeWord_11 ?_
      refine z_bipush (v := (8 : Int32)) C rfl d_Memory_storeWord_12 ?_
      refine z_iload_n C 3 rfl rfl d_Memory_storeWord_14 ?_
      refine z_imul C d_Memory_storeWord_15 ?_
      refine z_iushr C d_Memory_storeWord_16 ?_
      refine z_callVv (rest := []) C q_Memory_storeByte tw_903 (c_Memory_storeByte _ B (a1 + x3) ((a2.toUInt32 >>> (((8 : Int32) * x3).toUInt32 &&& Int32.toUInt32 31)).toInt32) S _ h) rc_Memory ⟨Nat.le_of_ble_eq_true rfl, Nat.le_of_ble_eq_true rfl⟩ rfl rfl (Nat.le_of_ble_eq_true rfl) d_Memory_storeWord_17 (fun S1 h => ?_)
      refine z_iinc (v := x3 + (1 : Int32)) (L' := [(3, .int (x3 + (1 : Int32))), (0, .ref (ad B 5)), (1, .int a1), (2, .int a2)]) C hnl 3 rfl rfl (by decide) rfl d_Memory_storeWord_20 ?_
      refine z_goto (tgt := 2) C d_Memory_storeWord_23 rfl ?_
      exact z_sub [1, 2, 3, 0] rfl (ih S1 (x3 + (1 : Int32)) h)
def w_Memory_storeWord (a1 : Int32) (a2 : Int32) (S : zS) (P : zS → Prop) : Prop :=
  ∃ n1 : Nat, l_Memory_storeWord_2 a1 a2 P n1 S (0 : Int32)
set_option maxRecDepth 20000 in
set_option maxHeartbeats 4000000 in
theorem v_Memory_storeWord {E : zE} {B : zK} (C : zC E (wC B) prog_9_method_7_code "HostBench$Memory" 1 22) (a1 : Int32) (a2 : Int32) (P : zS → Prop) (G : zGoal E (zQ (wC B) (zPv P)) (wC B)) (hr : zRt E (none)) (hnl : E.2.2.2.2.2.2.2.2.2.2.1 = 4) (S : zS) (h : w_Memory_storeWord a1 a2 S P) : zV E (wC B) S 0 [(0, .ref (ad B 5)), (1, .int a1), (2, .int a2)] [] := by
  unfold w_Memory_storeWord at h
  refine z_iconst (v := (0 : Int32)) C rfl d_Memory_storeWord_0 ?_
  refine z_istore_n (L' := [(3, .int (0 : Int32)), (0, .ref (ad B 5)), (1, .int a1), (2, .int a2)]) C hnl rfl (by decide) rfl d_Memory_storeWord_1 ?_
  obtain ⟨n1, h⟩ := h
  exact z_sub [1, 2, 3, 0] rfl (vl_Memory_storeWord_2 C a1 a2 P G hr hnl n1 S (0 : Int32) h)
theorem c_Memory_storeWord (l : Launch) (B : zK) (a1 : Int32) (a2 : Int32) (S : zS) (P : zS → Prop) (h : w_Memory_storeWord a1 a2 S P) : Met l y_Memory_storeWord (Cond.code y_Memory_storeWord prog_9_method_7_code 4 none :: tT) (zRm 1 22) (zPc (wC B) [.ref (ad B 5), .int a1, .int a2] S) (zQ (wC B) (zPv P)) 0 0 (wC B).2.2.2 :=
  z_met (by decide) (Nat.le_of_ble_eq_true rfl) (fun E C G hr _ hnl => v_Memory_storeWord C a1 a2 P G hr hnl S h)
theorem q_Memory_storeWord : zQw y_Memory_storeWord prog_9_method_7_code 4 none 2 := ⟨tw_900, tw_901, tw_81, tw_902, by decide +kernel⟩
