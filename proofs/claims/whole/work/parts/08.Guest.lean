def l_Guest_restart_2 (P : zS → Prop) : Nat → zS → Int32 → Prop
  | 0, _, _ => False
  | n + 1, S, x1 =>
  ((32 : Int32) ≤ x1 → (∀ S1 : zS, S1 = sM S 0 0 (0 : Int32) → ∀ S2 : zS, S2 = sM S1 0 2 (0 : Int32) → ∀ S3 : zS, S3 = sM S2 0 3 (0 : Int32) → ∀ S4 : zS, S4 = sM S3 0 4 (0 : Int32) → P S4)) ∧ (¬ (32 : Int32) ≤ x1 → (vp_in x1 32 ∧ ∀ S6 : zS, S6 = sM S 2 x1.toNatClampNeg (0 : Int32) → l_Guest_restart_2 P n S6 (x1 + (1 : Int32))))
set_option maxRecDepth 20000 in
set_option maxHeartbeats 4000000 in
theorem vl_Guest_restart_2 {E : zE} {B : zK} (C : zC E (wC B) prog_5_method_2_code "HostBench$Guest" 0 0) (P : zS → Prop) (G : zGoal E (zQ (wC B) (zPv P)) (wC B)) (hr : zRt E (none)) (hnl : E.2.2.2.2.2.2.2.2.2.2.1 = 2) : ∀ (n : Nat) (S : zS) (x1 : Int32) , l_Guest_restart_2 P n S x1 → zV E (wC B) S 2 [(0, .ref (ad B 3)), (1, .int x1)] [] := by
  intro n
  induction n with
  | zero => intro S x1 h; exact h.elim
  | succ n ih =>
    intro S x1 h
    unfold l_Guest_restart_2 at h
    refine z_iload_n C 1 rfl rfl d_Guest_restart_2 ?_
    refine z_bipush (v := (32 : Int32)) C rfl d_Guest_restart_3 ?_
    refine z_icmp_ge (tgt := 21) C d_Guest_restart_5 rfl (fun c => ?_) (fun c => ?_)
    · have h := h.1 c
      refine z_aload_n C 0 rfl rfl d_Guest_restart_21 ?_
      refine z_iconst (v := (0 : Int32)) C rfl d_Guest_restart_22 ?_
      refine pf_Guest_pc C (Or.inl tw_148) d_Guest_restart_23 ?_
      refine z_nS (fun S1 eS1 => ?_)
      have h := h S1 eS1
      refine z_aload_n C 0 rfl rfl d_Guest_restart_26 ?_
      refine z_iconst (v := (0 : Int32)) C rfl d_Guest_restart_27 ?_
      refine pf_Guest_state C (Or.inl tw_151) d_Guest_restart_28 ?_
      refine z_nS (fun S2 eS2 => ?_)
      have h := h S2 eS2
      refine z_aload_n C 0 rfl rfl d_Guest_restart_31 ?_
      refine z_iconst (v := (0 : Int32)) C rfl d_Guest_restart_32 ?_
      refine pf_Guest_trap C (Or.inl tw_154) d_Guest_restart_33 ?_
      refine z_nS (fun S3 eS3 => ?_)
      have h := h S3 eS3
      refine z_aload_n C 0 rfl rfl d_Guest_restart_36 ?_
      refine z_iconst (v := (0 : Int32)) C rfl d_Guest_restart_37 ?_
      refine pf_Guest_code C (Or.inl tw_156) d_Guest_restart_38 ?_
      refine z_nS (fun S4 eS4 => ?_)
      have h := h S4 eS4
      exact z_vreturn C G hr h d_Guest_restart_41
    · have h := h.2 c
      refine z_aload_n C 0 rfl rfl d_Guest_restart_8 ?_
      refine gf_Guest_registers C (Or.inl tw_147) d_Guest_restart_9 ?_
      refine z_iload_n C 1 rfl rfl d_Guest_restart_12 ?_
      refine z_iconst (v := (0 : Int32)) C rfl d_Guest_restart_13 ?_
      obtain ⟨f5, h⟩ := h
      refine as_registers C f5 d_Guest_restart_14 ?_
      refine z_nS (fun S6 eS6 => ?_)
      have h := h S6 eS6
      refine z_iinc (v := x1 + (1 : Int32)) (L' := [(1, .int (x1 + (1 : Int32))), (0, .ref (ad B 3))]) C hnl 1 rfl rfl (by decide) rfl d_Guest_restart_15 ?_
      refine z_goto (tgt := 2) C d_Guest_restart_18 rfl ?_
      exact z_sub [1, 0] rfl (ih S6 (x1 + (1 : Int32)) h)
def w_Guest_restart (S : zS) (P : zS → Prop) : Prop :=
  ∃ n1 : Nat, l_Guest_restart_2 P n1 S (0 : Int32)
set_option maxRecDepth 20000 in
set_option maxHeartbeats 4000000 in
theorem v_Guest_restart {E : zE} {B : zK} (C : zC E (wC B) prog_5_method_2_code "HostBench$Guest" 0 0) (P : zS → Prop) (G : zGoal E (zQ (wC B) (zPv P)) (wC B)) (hr : zRt E (none)) (hnl : E.2.2.2.2.2.2.2.2.2.2.1 = 2) (S : zS) (h : w_Guest_restart S P) : zV E (wC B) S 0 [(0, .ref (ad B 3))] [] := by
  unfold w_Guest_restart at h
  refine z_iconst (v := (0 : Int32)) C rfl d_Guest_restart_0 ?_
  refine z_istore_n (L' := [(1, .int (0 : Int32)), (0, .ref (ad B 3))]) C hnl rfl (by decide) rfl d_Guest_restart_1 ?_
  obtain ⟨n1, h⟩ := h
  exact z_sub [1, 0] rfl (vl_Guest_restart_2 C P G hr hnl n1 S (0 : Int32) h)
theorem c_Guest_restart (l : Launch) (B : zK) (S : zS) (P : zS → Prop) (h : w_Guest_restart S P) : Met l y_Guest_restart (Cond.code y_Guest_restart prog_5_method_2_code 2 none :: tT) (zRm 0 0) (zPc (wC B) [.ref (ad B 3)] S) (zQ (wC B) (zPv P)) 0 0 (wC B).2.2.2 :=
  z_met (by decide) (Nat.le_of_ble_eq_true rfl) (fun E C G hr _ hnl => v_Guest_restart C P G hr hnl S h)
theorem q_Guest_restart : zQw y_Guest_restart prog_5_method_2_code 2 none 0 := ⟨tw_387, tw_388, tw_80, tw_389, by decide +kernel⟩
def w_Guest_value (a1 : Int32) (S : zS) (P : zS → Int32 → Prop) : Prop :=
  vp_in (a1 &&& (31 : Int32)) 32 ∧ P S (gM S 2 (a1 &&& (31 : Int32)).toNatClampNeg)
set_option maxRecDepth 20000 in
set_option maxHeartbeats 4000000 in
theorem v_Guest_value {E : zE} {B : zK} (C : zC E (wC B) prog_5_method_3_code "HostBench$Guest" 0 0) (a1 : Int32) (P : zS → Int32 → Prop) (G : zGoal E (zQ (wC B) (zPi P)) (wC B)) (hr : zRt E (some .int)) (hnl : E.2.2.2.2.2.2.2.2.2.2.1 = 2) (S : zS) (h : w_Guest_value a1 S P) : zV E (wC B) S 0 [(0, .ref (ad B 3)), (1, .int a1)] [] := by
  unfold w_Guest_value at h
  refine z_aload_n C 0 rfl rfl d_Guest_value_0 ?_
  refine gf_Guest_registers C (Or.inl tw_147) d_Guest_value_1 ?_
  refine z_iload_n C 1 rfl rfl d_Guest_value_4 ?_
  refine z_bipush (v := (31 : Int32)) C rfl d_Guest_value_5 ?_
  refine z_iand C d_Guest_value_7 ?_
  obtain ⟨f1, h⟩ := h
  refine al_registers C f1 d_Guest_value_8 ?_
  exact z_ireturn C G hr h d_Guest_value_9
theorem c_Guest_value (l : Launch) (B : zK) (a1 : Int32) (S : zS) (P : zS → Int32 → Prop) (h : w_Guest_value a1 S P) : Met l y_Guest_value (Cond.code y_Guest_value prog_5_method_3_code 2 (some FieldType.int) :: tT) (zRm 0 0) (zPc (wC B) [.ref (ad B 3), .int a1] S) (zQ (wC B) (zPi P)) 0 0 (wC B).2.2.2 :=
  z_met (by decide) (Nat.le_of_ble_eq_true rfl) (fun E C G hr _ hnl => v_Guest_value C a1 P G hr hnl S h)
theorem q_Guest_value : zQw y_Guest_value prog_5_method_3_code 2 (some FieldType.int) 1 := ⟨tw_666, tw_667, tw_80, tw_668, by decide +kernel⟩
def w_Guest_assign (a1 : Int32) (a2 : Int32) (S : zS) (P : zS → Prop) : Prop :=
  ((a1 &&& (31 : Int32)) = 0 → (P S)) ∧ (¬ (a1 &&& (31 : Int32)) = 0 → (vp_in (a1 &&& (31 : Int32)) 32 ∧ ∀ S2 : zS, S2 = sM S 2 (a1 &&& (31 : Int32)).toNatClampNeg a2 → P S2))
set_option maxRecDepth 20000 in
set_option maxHeartbeats 4000000 in
theorem v_Guest_assign {E : zE} {B : zK} (C : zC E (wC B) prog_5_method_4_code "HostBench$Guest" 0 0) (a1 : Int32) (a2 : Int32) (P : zS → Prop) (G : zGoal E (zQ (wC B) (zPv P)) (wC B)) (hr : zRt E (none)) (hnl : E.2.2.2.2.2.2.2.2.2.2.1 = 3) (S : zS) (h : w_Guest_assign a1 a2 S P) : zV E (wC B) S 0 [(0, .ref (ad B 3)), (1, .int a1), (2, .int a2)] [] := by
  unfold w_Guest_assign at h
  refine z_iload_n C 1 rfl rfl d_Guest_assign_0 ?_
  refine z_bipush (v := (31 : Int32)) C rfl d_Guest_assign_1 ?_
  refine z_iand C d_Guest_assign_3 ?_
  refine z_if_eq (tgt := 17) C d_Guest_assign_4 rfl (fun c => ?_) (fun c => ?_)
  · have h := h.1 c
    exact z_vreturn C G hr h d_Guest_assign_17
  · have h := h.2 c
    refine z_aload_n C 0 rfl rfl d_Guest_assign_7 ?_
    refine gf_Guest_registers C (Or.inl tw_147) d_Guest_assign_8 ?_
    refine z_iload_n C 1 rfl rfl d_Guest_assign_11 ?_
    refine z_bipush (v := (31 : Int32)) C rfl d_Guest_assign_12 ?_
    refine z_iand C d_Guest_assign_14 ?_
    refine z_iload_n C 2 rfl rfl d_Guest_assign_15 ?_
    obtain ⟨f1, h⟩ := h
    refine as_registers C f1 d_Guest_assign_16 ?_
    refine z_nS (fun S2 eS2 => ?_)
    have h := h S2 eS2
    exact z_vreturn C G hr h d_Guest_assign_17
theorem c_Guest_assign (l : Launch) (B : zK) (a1 : Int32) (a2 : Int32) (S : zS) (P : zS → Prop) (h : w_Guest_assign a1 a2 S P) : Met l y_Guest_assign (Cond.code y_Guest_assign prog_5_method_4_code 3 none :: tT) (zRm 0 0) (zPc (wC B) [.ref (ad B 3), .int a1, .int a2] S) (zQ (wC B) (zPv P)) 0 0 (wC B).2.2.2 :=
  z_met (by decide) (Nat.le_of_ble_eq_true rfl) (fun E C G hr _ hnl => v_Guest_assign C a1 a2 P G hr hnl S h)
theorem q_Guest_assign : zQw y_Guest_assign prog_5_method_4_code 3 none 2 := ⟨tw_399, tw_400, tw_80, tw_401, by decide +kernel⟩
def w_Guest_exit (a1 : Int32) (S : zS) (P : zS → Prop) : Prop :=
  ∀ S1 : zS, S1 = sM S 0 2 (1 : Int32) → ∀ S2 : zS, S2 = sM S1 0 4 a1 → P S2
set_option maxRecDepth 20000 in
set_option maxHeartbeats 4000000 in
theorem v_Guest_exit {E : zE} {B : zK} (C : zC E (wC B) prog_5_method_5_code "HostBench$Guest" 0 0) (a1 : Int32) (P : zS → Prop) (G : zGoal E (zQ (wC B) (zPv P)) (wC B)) (hr : zRt E (none)) (hnl : E.2.2.2.2.2.2.2.2.2.2.1 = 2) (S : zS) (h : w_Guest_exit a1 S P) : zV E (wC B) S 0 [(0, .ref (ad B 3)), (1, .int a1)] [] := by
  unfold w_Guest_exit at h
  refine z_aload_n C 0 rfl rfl d_Guest_exit_0 ?_
  refine z_iconst (v := (1 : Int32)) C rfl d_Guest_exit_1 ?_
  refine pf_Guest_state C (Or.inl tw_151) d_Guest_exit_2 ?_
  refine z_nS (fun S1 eS1 => ?_)
  have h := h S1 eS1
  refine z_aload_n C 0 rfl rfl d_Guest_exit_5 ?_
  refine z_iload_n C 1 rfl rfl d_Guest_exit_6 ?_
  refine pf_Guest_code C (Or.inl tw_156) d_Guest_exit_7 ?_
  refine z_nS (fun S2 eS2 => ?_)
  have h := h S2 eS2
  exact z_vreturn C G hr h d_Guest_exit_10
theorem c_Guest_exit (l : Launch) (B : zK) (a1 : Int32) (S : zS) (P : zS → Prop) (h : w_Guest_exit a1 S P) : Met l y_Guest_exit (Cond.code y_Guest_exit prog_5_method_5_code 2 none :: tT) (zRm 0 0) (zPc (wC B) [.ref (ad B 3), .int a1] S) (zQ (wC B) (zPv P)) 0 0 (wC B).2.2.2 :=
  z_met (by decide) (Nat.le_of_ble_eq_true rfl) (fun E C G hr _ hnl => v_Guest_exit C a1 P G hr hnl S h)
theorem q_Guest_exit : zQw y_Guest_exit prog_5_method_5_code 2 none 1 := ⟨tw_916, tw_917, tw_80, tw_918, by decide +kernel⟩
def w_Guest_goOnBehindCall (a1 : Int32) (S : zS) (P : zS → Prop) : Prop :=
  vp_in (10 : Int32) 32 ∧ ∀ S2 : zS, S2 = sM S 2 (10 : Int32).toNatClampNeg a1 → ∀ S3 : zS, S3 = sM S2 0 0 ((gM S2 0 0) + (8 : Int32)) → P S3
set_option maxRecDepth 20000 in
set_option maxHeartbeats 4000000 in
theorem v_Guest_goOnBehindCall {E : zE} {B : zK} (C : zC E (wC B) prog_5_method_6_code "HostBench$Guest" 0 0) (a1 : Int32) (P : zS → Prop) (G : zGoal E (zQ (wC B) (zPv P)) (wC B)) (hr : zRt E (none)) (hnl : E.2.2.2.2.2.2.2.2.2.2.1 = 2) (S : zS) (h : w_Guest_goOnBehindCall a1 S P) : zV E (wC B) S 0 [(0, .ref (ad B 3)), (1, .int a1)] [] := by
  unfold w_Guest_goOnBehindCall at h
  refine z_aload_n C 0 rfl rfl d_Guest_goOnBehindCall_0 ?_
  refine gf_Guest_registers C (Or.inl tw_147) d_Guest_goOnBehindCall_1 ?_
  refine z_bipush (v := (10 : Int32)) C rfl d_Guest_goOnBehindCall_4 ?_
  refine z_iload_n C 1 rfl rfl d_Guest_goOnBehindCall_6 ?_
  obtain ⟨f1, h⟩ := h
  refine as_registers C f1 d_Guest_goOnBehindCall_7 ?_
  refine z_nS (fun S2 eS2 => ?_)
  have h := h S2 eS2
  refine z_aload_n C 0 rfl rfl d_Guest_goOnBehindCall_8 ?_
  refine z_dup C rfl d_Guest_goOnBehindCall_9 ?_
  refine gf_Guest_pc C (Or.inl tw_148) d_Guest_goOnBehindCall_10 ?_
  refine z_bipush (v := (8 : Int32)) C rfl d_Guest_goOnBehindCall_13 ?_
  refine z_iadd C d_Guest_goOnBehindCall_15 ?_
  refine pf_Guest_pc C (Or.inl tw_148) d_Guest_goOnBehindCall_16 ?_
  refine z_nS (fun S3 eS3 => ?_)
  have h := h S3 eS3
  exact z_vreturn C G hr h d_Guest_goOnBehindCall_19
theorem c_Guest_goOnBehindCall (l : Launch) (B : zK) (a1 : Int32) (S : zS) (P : zS → Prop) (h : w_Guest_goOnBehindCall a1 S P) : Met l y_Guest_goOnBehindCall (Cond.code y_Guest_goOnBehindCall prog_5_method_6_code 2 none :: tT) (zRm 0 0) (zPc (wC B) [.ref (ad B 3), .int a1] S) (zQ (wC B) (zPv P)) 0 0 (wC B).2.2.2 :=
  z_met (by decide) (Nat.le_of_ble_eq_true rfl) (fun E C G hr _ hnl => v_Guest_goOnBehindCall C a1 P G hr hnl S h)
theorem q_Guest_goOnBehindCall : zQw y_Guest_goOnBehindCall prog_5_method_6_code 2 none 1 := ⟨tw_924, tw_925, tw_80, tw_926, by decide +kernel⟩
def w_Guest_stop (a1 : Int32) (S : zS) (P : zS → Prop) : Prop :=
  ∀ S1 : zS, S1 = sM S 0 2 (2 : Int32) → ∀ S2 : zS, S2 = sM S1 0 3 a1 → P S2
set_option maxRecDepth 20000 in
set_option maxHeartbeats 4000000 in
theorem v_Guest_stop {E : zE} {B : zK} (C : zC E (wC B) prog_5_method_8_code "HostBench$Guest" 0 0) (a1 : Int32) (P : zS → Prop) (G : zGoal E (zQ (wC B) (zPv P)) (wC B)) (hr : zRt E (none)) (hnl : E.2.2.2.2.2.2.2.2.2.2.1 = 2) (S : zS) (h : w_Guest_stop a1 S P) : zV E (wC B) S 0 [(0, .ref (ad B 3)), (1, .int a1)] [] := by
  unfold w_Guest_stop at h
  refine z_aload_n C 0 rfl rfl d_Guest_stop_0 ?_
  refine z_iconst (v := (2 : Int32)) C rfl d_Guest_stop_1 ?_
  refine pf_Guest_state C (Or.inl tw_151) d_Guest_stop_2 ?_
  refine z_nS (fun S1 eS1 => ?_)
  have h := h S1 eS1
  refine z_aload_n C 0 rfl rfl d_Guest_stop_5 ?_
  refine z_iload_n C 1 rfl rfl d_Guest_stop_6 ?_
  refine pf_Guest_trap C (Or.inl tw_154) d_Guest_stop_7 ?_
  refine z_nS (fun S2 eS2 => ?_)
  have h := h S2 eS2
  exact z_vreturn C G hr h d_Guest_stop_10
theorem c_Guest_stop (l : Launch) (B : zK) (a1 : Int32) (S : zS) (P : zS → Prop) (h : w_Guest_stop a1 S P) : Met l y_Guest_stop (Cond.code y_Guest_stop prog_5_method_8_code 2 none :: tT) (zRm 0 0) (zPc (wC B) [.ref (ad B 3), .int a1] S) (zQ (wC B) (zPv P)) 0 0 (wC B).2.2.2 :=
  z_met (by decide) (Nat.le_of_ble_eq_true rfl) (fun E C G hr _ hnl => v_Guest_stop C a1 P G hr hnl S h)
theorem q_Guest_stop : zQw y_Guest_stop prog_5_method_8_code 2 none 1 := ⟨tw_639, tw_1, tw_80, tw_640, by decide +kernel⟩
def w_Guest_isMarked (S : zS) (P : zS → Int32 → Prop) : Prop :=
  ((gM S 0 0) < (4 : Int32) → (P S (0 : Int32))) ∧ (¬ (gM S 0 0) < (4 : Int32) → (w_Memory_wordAt ((gM S 0 0) - (4 : Int32)) S (fun S1 r2 => (r2 = (32509971 : Int32) → (w_Memory_hasArea ((gM S1 0 0) + (4 : Int32)) (4 : Int32) S1 (fun S3 r4 => (r4 = 0 → (P S3 (0 : Int32))) ∧ (¬ r4 = 0 → (w_Memory_wordAt ((gM S3 0 0) + (4 : Int32)) S3 (fun S5 r6 => (r6 = (1081102355 : Int32) → (P S5 (1 : Int32))) ∧ (¬ r6 = (1081102355 : Int32) → (P S5 (0 : Int32))))))))) ∧ (¬ r2 = (32509971 : Int32) → (P S1 (0 : Int32))))))
set_option maxRecDepth 20000 in
set_option maxHeartbeats 4000000 in
theorem v_Guest_isMarked {E : zE} {B : zK} (C : zC E (wC B) prog_5_method_9_code "HostBench$Guest" 2 43) (P : zS → Int32 → Prop) (G : zGoal E (zQ (wC B) (zPi P)) (wC B)) (hr : zRt E (some .boolean)) (hnl : E.2.2.2.2.2.2.2.2.2.2.1 = 1) (S : zS) (h : w_Guest_isMarked S P) : zV E (wC B) S 0 [(0, .ref (ad B 3))] [] := by
  unfold w_Guest_isMarked at h
  refine z_aload_n C 0 rfl rfl d_Guest_isMarked_0 ?_
  refine gf_Guest_pc C (Or.inl tw_148) d_Guest_isMarked_1 ?_
  refine z_iconst (v := (4 : Int32)) C rfl d_Guest_isMarked_4 ?_
  refine z_icmp_lt (tgt := 65) C d_Guest_isMarked_5 rfl (fun c => ?_) (fun c => ?_)
  · have h := h.1 c
    refine z_iconst (v := (0 : Int32)) C rfl d_Guest_isMarked_65 ?_
    exact z_zreturn C G hr rfl h d_Guest_isMarked_66
  · have h := h.2 c
    refine z_aload_n C 0 rfl rfl d_Guest_isMarked_8 ?_
    refine gf_Guest_memory C (Or.inl tw_144) d_Guest_isMarked_9 ?_
    refine z_aload_n C 0 rfl rfl d_Guest_isMarked_12 ?_
    refine gf_Guest_pc C (Or.inl tw_148) d_Guest_isMarked_13 ?_
    refine z_iconst (v := (4 : Int32)) C rfl d_Guest_isMarked_16 ?_
    refine z_isub C d_Guest_isMarked_17 ?_
    refine z_callVi (rest := []) C q_Memory_wordAt tw_642 (c_Memory_wordAt _ B ((gM S 0 0) - (4 : Int32)) S _ h) rc_Memory ⟨Nat.le_of_ble_eq_true rfl, Nat.le_of_ble_eq_true rfl⟩ rfl rfl (Nat.le_of_ble_eq_true rfl) d_Guest_isMarked_18 (fun S1 r2 h => ?_)
    refine z_ldc (v := (32509971 : Int32)) C tw_652 d_Guest_isMarked_21 ?_
    refine z_icmp_ne (tgt := 65) C d_Guest_isMarked_23 rfl (fun c => ?_) (fun c => ?_)
    · have h := h.2 c
      refine z_iconst (v := (0 : Int32)) C rfl d_Guest_isMarked_65 ?_
      exact z_zreturn C G hr rfl h d_Guest_isMarked_66
    · have h := h.1 c
      refine z_aload_n C 0 rfl rfl d_Guest_isMarked_26 ?_
      refine gf_Guest_memory C (Or.inl tw_144) d_Guest_isMarked_27 ?_
      refine z_aload_n C 0 rfl rfl d_Guest_isMarked_30 ?_
      refine gf_Guest_pc C (Or.inl tw_148) d_Guest_isMarked_31 ?_
      refine z_iconst (v := (4 : Int32)) C rfl d_Guest_isMarked_34 ?_
      refine z_iadd C d_Guest_isMarked_35 ?_
      refine z_iconst (v := (4 : Int32)) C rfl d_Guest_isMarked_36 ?_
      refine z_callVi (rest := []) C q_Memory_hasArea tw_641 (c_Memory_hasArea _ B ((gM S1 0 0) + (4 : Int32)) (4 : Int32) S1 _ h) rc_Memory ⟨Nat.le_of_ble_eq_true rfl, Nat.le_of_ble_eq_true rfl⟩ rfl rfl (Nat.le_of_ble_eq_true rfl) d_Guest_isMarked_37 (fun S3 r4 h => ?_)
      refine z_if_eq (tgt := 65) C d_Guest_isMarked_40 rfl (fun c => ?_) (fun c => ?_)
      · have h := h.1 c
        refine z_iconst (v := (0 : Int32)) C rfl d_Guest_isMarked_65 ?_
        exact z_zreturn C G hr rfl h d_Guest_isMarked_66
      · have h := h.2 c
        refine z_aload_n C 0 rfl rfl d_Guest_isMarked_43 ?_
        refine gf_Guest_memory C (Or.inl tw_144) d_Guest_isMarked_44 ?_
        refine z_aload_n C 0 rfl rfl d_Guest_isMarked_47 ?_
        refine gf_Guest_pc C (Or.inl tw_148) d_Guest_isMarked_48 ?_
        refine z_iconst (v := (4 : Int32)) C rfl d_Guest_isMarked_51 ?_
        refine z_iadd C d_Guest_isMarked_52 ?_
        refine z_callVi (rest := []) C q_Memory_wordAt tw_642 (c_Memory_wordAt _ B ((gM S3 0 0) + (4 : Int32)) S3 _ h) rc_Memory ⟨Nat.le_of_ble_eq_true rfl, Nat.le_of_ble_eq_true rfl⟩ rfl rfl (Nat.le_of_ble_eq_true rfl) d_Guest_isMarked_53 (fun S5 r6 h => ?_)
        refine z_ldc (v := (1081102355 : Int32)) C tw_653 d_Guest_isMarked_56 ?_
        refine z_icmp_ne (tgt := 65) C d_Guest_isMarked_58 rfl (fun c => ?_) (fun c => ?_)
        · have h := h.2 c
          refine z_iconst (v := (0 : Int32)) C rfl d_Guest_isMarked_65 ?_
          exact z_zreturn C G hr rfl h d_Guest_isMarked_66
        · have h := h.1 c
          refine z_iconst (v := (1 : Int32)) C rfl d_Guest_isMarked_61 ?_
          refine z_goto (tgt := 66) C d_Guest_isMarked_62 rfl ?_
          exact z_zreturn C G hr rfl h d_Guest_isMarked_66
theorem c_Guest_isMarked (l : Launch) (B : zK) (S : zS) (P : zS → Int32 → Prop) (h : w_Guest_isMarked S P) : Met l y_Guest_isMarked (Cond.code y_Guest_isMarked prog_5_method_9_code 1 (some FieldType.boolean) :: tT) (zRm 2 43) (zPc (wC B) [.ref (ad B 3)] S) (zQ (wC B) (zPi P)) 0 0 (wC B).2.2.2 :=
  z_met (by decide) (Nat.le_of_ble_eq_true rfl) (fun E C G hr _ hnl => v_Guest_isMarked C P G hr hnl S h)
theorem q_Guest_isMarked : zQw y_Guest_isMarked prog_5_method_9_code 1 (some FieldType.boolean) 0 := ⟨tw_650, tw_2, tw_80, tw_651, by decide +kernel⟩
def w_Guest_funct3 (a1 : Int32) (S : zS) (P : zS → Int32 → Prop) : Prop :=
  P S (((a1.toUInt32 >>> ((12 : Int32).toUInt32 &&& Int32.toUInt32 31)).toInt32) &&& (7 : Int32))
set_option maxRecDepth 20000 in
set_option maxHeartbeats 4000000 in
theorem v_Guest_funct3 {E : zE} {B : zK} (C : zC E (wC B) prog_5_method_11_code "HostBench$Guest" 0 0) (a1 : Int32) (P : zS → Int32 → Prop) (G : zGoal E (zQ (wC B) (zPi P)) (wC B)) (hr : zRt E (some .int)) (hnl : E.2.2.2.2.2.2.2.2.2.2.1 = 1) (S : zS) (h : w_Guest_funct3 a1 S P) : zV E (wC B) S 0 [(0, .int a1)] [] := by
  unfold w_Guest_funct3 at h
  refine z_iload_n C 0 rfl rfl d_Guest_funct3_0 ?_
  refine z_bipush (v := (12 : Int32)) C rfl d_Guest_funct3_1 ?_
  refine z_iushr C d_Guest_funct3_3 ?_
  refine z_bipush (v := (7 : Int32)) C rfl d_Guest_funct3_4 ?_
  refine z_iand C d_Guest_funct3_6 ?_
  exact z_ireturn C G hr h d_Guest_funct3_7
theorem c_Guest_funct3 (l : Launch) (B : zK) (a1 : Int32) (S : zS) (P : zS → Int32 → Prop) (h : w_Guest_funct3 a1 S P) : Met l y_Guest_funct3 (Cond.code y_Guest_funct3 prog_5_method_11_code 1 (some FieldType.int) :: tT) (zRm 0 0) (zPc (wC B) [.int a1] S) (zQ (wC B) (zPi P)) 0 0 (wC B).2.2.2 :=
  z_met (by decide) (Nat.le_of_ble_eq_true rfl) (fun E C G hr _ hnl => v_Guest_funct3 C a1 P G hr hnl S h)
theorem q_Guest_funct3 : zQs y_Guest_funct3 prog_5_method_11_code 1 (some FieldType.int) 1 := ⟨tw_663, tw_80, tw_664, by decide +kernel⟩
def w_Guest_loaded (a1 : Int32) (a2 : Int32) (S : zS) (P : zS → Int32 → Prop) : Prop :=
  (a1 = (0 : Int32) → (w_Memory_byteAt a2 S (fun S3 r4 => P S3 r4.toInt8.toInt32))) ∧ (¬ a1 = (0 : Int32) → ((a1 = (1 : Int32) → (w_Memory_halfAt a2 S (fun S5 r6 => P S5 r6.toInt16.toInt32))) ∧ (¬ a1 = (1 : Int32) → ((a1 = (2 : Int32) → (w_Memory_wordAt a2 S (fun S7 r8 => P S7 r8))) ∧ (¬ a1 = (2 : Int32) → ((a1 = (4 : Int32) → (w_Memory_byteAt a2 S (fun S9 r10 => P S9 r10))) ∧ (¬ a1 = (4 : Int32) → (w_Memory_halfAt a2 S (fun S1 r2 => P S1 r2)))))))))
set_option maxRecDepth 20000 in
set_option maxHeartbeats 4000000 in
theorem v_Guest_loaded {E : zE} {B : zK} (C : zC E (wC B) prog_5_method_20_code "HostBench$Guest" 2 43) (a1 : Int32) (a2 : Int32) (P : zS → Int32 → Prop) (G : zGoal E (zQ (wC B) (zPi P)) (wC B)) (hr : zRt E (some .int)) (hnl : E.2.2.2.2.2.2.2.2.2.2.1 = 3) (S : zS) (h : w_Guest_loaded a1 a2 S P) : zV E (wC B) S 0 [(0, .ref (ad B 3)), (1, .int a1), (2, .int a2)] [] := by
  unfold w_Guest_loaded at h
  refine z_iload_n C 1 rfl rfl d_Guest_loaded_0 ?_
  by_cases c0 : a1 = (0 : Int32)
  · have h := h.1 c0
    refine z_tableIn (off := 35) (tgt := 36) C d_Guest_loaded_1 c0 (by decide) rfl rfl ?_
    refine z_aload_n C 0 rfl rfl d_Guest_loaded_36 ?_
    refine gf_Guest_memory C (Or.inl tw_144) d_Guest_loaded_37 ?_
    refine z_iload_n C 2 rfl rfl d_Guest_loaded_40 ?_
    refine z_callVi (rest := []) C q_Memory_byteAt tw_673 (c_Memory_byteAt _ B a2 S _ h) rc_Memory ⟨Nat.le_of_ble_eq_true rfl, Nat.le_of_ble_eq_true rfl⟩ rfl rfl (Nat.le_of_ble_eq_true rfl) d_Guest_loaded_41 (fun S3 r4 h => ?_)
    refine z_i2b C d_Guest_loaded_44 ?_
    exact z_ireturn C G hr h d_Guest_loaded_45
  · have h := h.2 c0
    by_cases c1 : a1 = (1 : Int32)
    · have h := h.1 c1
      refine z_tableIn (off := 45) (tgt := 46) C d_Guest_loaded_1 c1 (by decide) rfl rfl ?_
      refine z_aload_n C 0 rfl rfl d_Guest_loaded_46 ?_
      refine gf_Guest_memory C (Or.inl tw_144) d_Guest_loaded_47 ?_
      refine z_iload_n C 2 rfl rfl d_Guest_loaded_50 ?_
      refine z_callVi (rest := []) C q_Memory_halfAt tw_674 (c_Memory_halfAt _ B a2 S _ h) rc_Memory ⟨Nat.le_of_ble_eq_true rfl, Nat.le_of_ble_eq_true rfl⟩ rfl rfl (Nat.le_of_ble_eq_true rfl) d_Guest_loaded_51 (fun S5 r6 h => ?_)
      refine z_i2s C d_Guest_loaded_54 ?_
      exact z_ireturn C G hr h d_Guest_loaded_55
    · have h := h.2 c1
      by_cases c2 : a1 = (2 : Int32)
      · have h := h.1 c2
        refine z_tableIn (off := 55) (tgt := 56) C d_Guest_loaded_1 c2 (by decide) rfl rfl ?_
        refine z_aload_n C 0 rfl rfl d_Guest_loaded_56 ?_
        refine gf_Guest_memory C (Or.inl tw_144) d_Guest_loaded_57 ?_
        refine z_iload_n C 2 rfl rfl d_Guest_loaded_60 ?_
        refine z_callVi (rest := []) C q_Memory_wordAt tw_642 (c_Memory_wordAt _ B a2 S _ h) rc_Memory ⟨Nat.le_of_ble_eq_true rfl, Nat.le_of_ble_eq_true rfl⟩ rfl rfl (Nat.le_of_ble_eq_true rfl) d_Guest_loaded_61 (fun S7 r8 h => ?_)
        exact z_ireturn C G hr h d_Guest_loaded_64
      · have h := h.2 c2
        by_cases c3 : a1 = (4 : Int32)
        · have h := h.1 c3
          refine z_tableIn (off := 64) (tgt := 65) C d_Guest_loaded_1 c3 (by decide) rfl rfl ?_
          refine z_aload_n C 0 rfl rfl d_Guest_loaded_65 ?_
          refine gf_Guest_memory C (Or.inl tw_144) d_Guest_loaded_66 ?_
          refine z_iload_n C 2 rfl rfl d_Guest_loaded_69 ?_
          refine z_callVi (rest := []) C q_Memory_byteAt tw_673 (c_Memory_byteAt _ B a2 S _ h) rc_Memory ⟨Nat.le_of_ble_eq_true rfl, Nat.le_of_ble_eq_true rfl⟩ rfl rfl (Nat.le_of_ble_eq_true rfl) d_Guest_loaded_70 (fun S9 r10 h => ?_)
          exact z_ireturn C G hr h d_Guest_loaded_73
        · have h := h.2 c3
          by_cases m3 : a1 = (3 : Int32)
          · refine z_tableIn (off := 73) (tgt := 74) C d_Guest_loaded_1 m3 (by decide) rfl rfl ?_
            refine z_aload_n C 0 rfl rfl d_Guest_loaded_74 ?_
            refine gf_Guest_memory C (Or.inl tw_144) d_Guest_loaded_75 ?_
            refine z_iload_n C 2 rfl rfl d_Guest_loaded_78 ?_
            refine z_callVi (rest := []) C q_Memory_halfAt tw_674 (c_Memory_halfAt _ B a2 S _ h) rc_Memory ⟨Nat.le_of_ble_eq_true rfl, Nat.le_of_ble_eq_true rfl⟩ rfl rfl (Nat.le_of_ble_eq_true rfl) d_Guest_loaded_79 (fun S1 r2 h => ?_)
            exact z_ireturn C G hr h d_Guest_loaded_82
          refine z_tableOut (tgt := 74) C d_Guest_loaded_1 (by have n0 := lv_neT (a := 0) c0 rfl; have n1 := lv_neT (a := 1) c1 rfl; have n2 := lv_neT (a := 2) c2 rfl; have n3 := lv_neT (a := 4) c3 rfl; have o3 := lv_neT (a := 3) m3 rfl; omega) rfl ?_
          refine z_aload_n C 0 rfl rfl d_Guest_loaded_74 ?_
          refine gf_Guest_memory C (Or.inl tw_144) d_Guest_loaded_75 ?_
          refine z_iload_n C 2 rfl rfl d_Guest_loaded_78 ?_
          refine z_callVi (rest := []) C q_Memory_halfAt tw_674 (c_Memory_halfAt _ B a2 S _ h) rc_Memory ⟨Nat.le_of_ble_eq_true rfl, Nat.le_of_ble_eq_true rfl⟩ rfl rfl (Nat.le_of_ble_eq_true rfl) d_Guest_loaded_79 (fun S1 r2 h => ?_)
          exact z_ireturn C G hr h d_Guest_loaded_82
theorem c_Guest_loaded (l : Launch) (B : zK) (a1 : Int32) (a2 : Int32) (S : zS) (P : zS → Int32 → Prop) (h : w_Guest_loaded a1 a2 S P) : Met l y_Guest_loaded (Cond.code y_Guest_loaded prog_5_method_20_code 3 (some FieldType.int) :: tT) (zRm 2 43) (zPc (wC B) [.ref (ad B 3), .int a1, .int a2] S) (zQ (wC B) (zPi P)) 0 0 (wC B).2.2.2 :=
  z_met (by decide) (Nat.le_of_ble_eq_true rfl) (fun E C G hr _ hnl => v_Guest_loaded C a1 a2 P G hr hnl S h)
theorem q_Guest_loaded : zQw y_Guest_loaded prog_5_method_20_code 3 (some FieldType.int) 2 := ⟨tw_671, tw_5, tw_80, tw_672, by decide +kernel⟩
def w_Guest_load (a1 : Int32) (S : zS) (P : zS → Int32 → Prop) : Prop :=
  w_Guest_funct3 a1 S (fun S1 r2 => (r2 = (3 : Int32) → (P S1 (3 : Int32))) ∧ (¬ r2 = (3 : Int32) → ((r2 ≤ (5 : Int32) → (w_Guest_value ((a1.toUInt32 >>> ((15 : Int32).toUInt32 &&& Int32.toUInt32 31)).toInt32) S1 (fun S3 r4 => ∀ v5 : Int32, v5 = (r4 + (a1 >>> ((20 : Int32) &&& 31))) → ∀ v6 : Int32, v6 = ((1 : Int32) <<< ((r2 &&& (3 : Int32)) &&& 31)) → ((v5 &&& (v6 - (1 : Int32))) = 0 → (w_Memory_hasArea v5 v6 S3 (fun S7 r8 => (r8 = 0 → (P S7 (7 : Int32))) ∧ (¬ r8 = 0 → (w_Guest_loaded r2 v5 S7 (fun S9 r10 => w_Guest_assign ((a1.toUInt32 >>> ((7 : Int32).toUInt32 &&& Int32.toUInt32 31)).toInt32) r10 S9 (fun S11 => P S11 (0 : Int32)))))))) ∧ (¬ (v5 &&& (v6 - (1 : Int32))) = 0 → (P S3 (6 : Int32)))))) ∧ (¬ r2 ≤ (5 : Int32) → (P S1 (3 : Int32))))))
set_option maxRecDepth 20000 in
set_option maxHeartbeats 4000000 in
theorem v_Guest_load {E : zE} {B : zK} (C : zC E (wC B) prog_5_method_19_code "HostBench$Guest" 3 65) (a1 : Int32) (P : zS → Int32 → Prop) (G : zGoal E (zQ (wC B) (zPi P)) (wC B)) (hr : zRt E (some .int)) (hnl : E.2.2.2.2.2.2.2.2.2.2.1 = 5) (S : zS) (h : w_Guest_load a1 S P) : zV E (wC B) S 0 [(0, .ref (ad B 3)), (1, .int a1)] [] := by
  unfold w_Guest_load at h
  refine z_iload_n C 1 rfl rfl d_Guest_load_0 ?_
  refine z_callSi (rest := []) C q_Guest_funct3 rfl tw_662 (c_Guest_funct3 _ B a1 S _ h) ⟨Nat.le_of_ble_eq_true rfl, Nat.le_of_ble_eq_true rfl⟩ rfl rfl (Nat.le_of_ble_eq_true rfl) d_Guest_load_1 (fun S1 r2 h => ?_)
  refine z_istore_n (L' := [(2, .int r2), (0, .ref (ad B 3)), (1, .int a1)]) C hnl rfl (by decide) rfl d_Guest_load_4 ?_
  refine z_iload_n C 0 rfl rfl d_Guest_load_5 ?_
  refine z_iconst (v := (3 : Int32)) C rfl d_Guest_load_6 ?_
  refine z_icmp_eq (tgt := 15) C d_Guest_load_7 rfl (fun c => ?_) (fun c => ?_)
  · have h := h.1 c
    refine z_iconst (v := (3 : Int32)) C rfl d_Guest_load_15 ?_
    exact z_ireturn C G hr h d_Guest_load_16
  · have h := h.2 c
    refine z_iload_n C 0 rfl rfl d_Guest_load_10 ?_
    refine z_iconst (v := (5 : Int32)) C rfl d_Guest_load_11 ?_
    refine z_icmp_le (tgt := 17) C d_Guest_load_12 rfl (fun c => ?_) (fun c => ?_)
    · have h := h.1 c
      refine z_aload_n C 1 rfl rfl d_Guest_load_17 ?_
      refine z_iload_n C 2 rfl rfl d_Guest_load_18 ?_
      refine z_bipush (v := (15 : Int32)) C rfl d_Guest_load_19 ?_
      refine z_iushr C d_Guest_load_21 ?_
      refine z_callVi (rest := []) C q_Guest_value tw_665 (c_Guest_value _ B ((a1.toUInt32 >>> ((15 : Int32).toUInt32 &&& Int32.toUInt32 31)).toInt32) S1 _ h) rc_Guest ⟨Nat.le_of_ble_eq_true rfl, Nat.le_of_ble_eq_true rfl⟩ rfl rfl (Nat.le_of_ble_eq_true rfl) d_Guest_load_22 (fun S3 r4 h => ?_)
      refine z_iload_n C 2 rfl rfl d_Guest_load_25 ?_
      refine z_bipush (v := (20 : Int32)) C rfl d_Guest_load_26 ?_
      refine z_ishr C d_Guest_load_28 ?_
      refine z_iadd C d_Guest_load_29 ?_
      refine z_topi (fun v5 ev5 => ?_)
      have h := h v5 ev5
      refine z_istore_n (L' := [(3, .int v5), (2, .int r2), (0, .ref (ad B 3)), (1, .int a1)]) C hnl rfl (by decide) rfl d_Guest_load_30 ?_
      refine z_iconst (v := (1 : Int32)) C rfl d_Guest_load_31 ?_
      refine z_iload_n C 1 rfl rfl d_Guest_load_32 ?_
      refine z_iconst (v := (3 : Int32)) C rfl d_Guest_load_33 ?_
      refine z_iand C d_Guest_load_34 ?_
      refine z_ishl C d_Guest_load_35 ?_
      refine z_topi (fun v6 ev6 => ?_)
      have h := h v6 ev6
      refine z_istore (L' := [(4, .int v6), (3, .int v5), (2, .int r2), (0, .ref (ad B 3)), (1, .int a1)]) C hnl (by decide) rfl d_Guest_load_36 ?_
      refine z_iload_n C 1 rfl rfl d_Guest_load_38 ?_
      refine z_iload C 0 rfl d_Guest_load_39 ?_
      refine z_iconst (v := (1 : Int32)) C rfl d_Guest_load_41 ?_
      refine z_isub C d_Guest_load_42 ?_
      refine z_iand C d_Guest_load_43 ?_
      refine z_if_eq (tgt := 50) C d_Guest_load_44 rfl (fun c => ?_) (fun c => ?_)
      · have h := h.1 c
        refine z_aload_n C 3 rfl rfl d_Guest_load_50 ?_
        refine gf_Guest_memory C (Or.inl tw_144) d_Guest_load_51 ?_
        refine z_iload_n C 1 rfl rfl d_Guest_load_54 ?_
        refine z_iload C 0 rfl d_Guest_load_55 ?_
        refine z_callVi (rest := []) C q_Memory_hasArea tw_641 (c_Memory_hasArea _ B v5 v6 S3 _ h) rc_Memory ⟨Nat.le_of_ble_eq_true rfl, Nat.le_of_ble_eq_true rfl⟩ rfl rfl (Nat.le_of_ble_eq_true rfl) d_Guest_load_57 (fun S7 r8 h => ?_)
        refine z_if_ne (tgt := 66) C d_Guest_load_60 rfl (fun c => ?_) (fun c => ?_)
        · have h := h.2 c
          refine z_aload_n C 3 rfl rfl d_Guest_load_66 ?_
          refine z_iload_n C 4 rfl rfl d_Guest_load_67 ?_
          refine z_bipush (v := (7 : Int32)) C rfl d_Guest_load_68 ?_
          refine z_iushr C d_Guest_load_70 ?_
          refine z_aload_n C 3 rfl rfl d_Guest_load_71 ?_
          refine z_iload_n C 2 rfl rfl d_Guest_load_72 ?_
          refine z_iload_n C 1 rfl rfl d_Guest_load_73 ?_
          refine z_callVi (rest := [.int ((a1.toUInt32 >>> ((7 : Int32).toUInt32 &&& Int32.toUInt32 31)).toInt32), .ref (ad B 3)]) C q_Guest_loaded tw_669 (c_Guest_loaded _ B r2 v5 S7 _ h) rc_Guest ⟨Nat.le_of_ble_eq_true rfl, Nat.le_of_ble_eq_true rfl⟩ rfl rfl (Nat.le_of_ble_eq_true rfl) d_Guest_load_74 (fun S9 r10 h => ?_)
          refine z_callVv (rest := []) C q_Guest_assign tw_678 (c_Guest_assign _ B ((a1.toUInt32 >>> ((7 : Int32).toUInt32 &&& Int32.toUInt32 31)).toInt32) r10 S9 _ h) rc_Guest ⟨Nat.le_of_ble_eq_true rfl, Nat.le_of_ble_eq_true rfl⟩ rfl rfl (Nat.le_of_ble_eq_true rfl) d_Guest_load_77 (fun S11 h => ?_)
          refine z_iconst (v := (0 : Int32)) C rfl d_Guest_load_80 ?_
          exact z_ireturn C G hr h d_Guest_load_81
        · have h := h.1 c
          refine z_bipush (v := (7 : Int32)) C rfl d_Guest_load_63 ?_
          exact z_ireturn C G hr h d_Guest_load_65
      · have h := h.2 c
        refine z_bipush (v := (6 : Int32)) C rfl d_Guest_load_47 ?_
        exact z_ireturn C G hr h d_Guest_load_49
    · have h := h.2 c
      refine z_iconst (v := (3 : Int32)) C rfl d_Guest_load_15 ?_
      exact z_ireturn C G hr h d_Guest_load_16
theorem c_Guest_load (l : Launch) (B : zK) (a1 : Int32) (S : zS) (P : zS → Int32 → Prop) (h : w_Guest_load a1 S P) : Met l y_Guest_load (Cond.code y_Guest_load prog_5_method_19_code 5 (some FieldType.int) :: tT) (zRm 3 65) (zPc (wC B) [.ref (ad B 3), .int a1] S) (zQ (wC B) (zPi P)) 0 0 (wC B).2.2.2 :=
  z_met (by decide) (Nat.le_of_ble_eq_true rfl) (fun E C G hr _ hnl => v_Guest_load C a1 P G hr hnl S h)
theorem q_Guest_load : zQw y_Guest_load prog_5_method_19_code 5 (some FieldType.int) 1 := ⟨tw_660, tw_4, tw_80, tw_661, by decide +kernel⟩
def w_Guest_isLessWithoutSign (a1 : Int32) (a2 : Int32) (S : zS) (P : zS → Int32 → Prop) : Prop :=
  (0 ≤ (lg_cmp (a1.toInt64 &&& (4294967295 : Int64)) (a2.toInt64 &&& (4294967295 : Int64))) → (P S (0 : Int32))) ∧ (¬ 0 ≤ (lg_cmp (a1.toInt64 &&& (4294967295 : Int64)) (a2.toInt64 &&& (4294967295 : Int64))) → (P S (1 : Int32)))
set_option maxRecDepth 20000 in
set_option maxHeartbeats 4000000 in
theorem v_Guest_isLessWithoutSign {E : zE} {B : zK} (C : zC E (wC B) prog_5_method_18_code "HostBench$Guest" 0 0) (a1 : Int32) (a2 : Int32) (P : zS → Int32 → Prop) (G : zGoal E (zQ (wC B) (zPi P)) (wC B)) (hr : zRt E (some .boolean)) (hnl : E.2.2.2.2.2.2.2.2.2.2.1 = 2) (S : zS) (h : w_Guest_isLessWithoutSign a1 a2 S P) : zV E (wC B) S 0 [(0, .int a1), (1, .int a2)] [] := by
  unfold w_Guest_isLessWithoutSign at h
  refine z_iload_n C 0 rfl rfl d_Guest_isLessWithoutSign_0 ?_
  refine z_i2l C d_Guest_isLessWithoutSign_1 ?_
  refine z_ldc2 (v := (4294967295 : Int64)) C tw_689 d_Guest_isLessWithoutSign_2 ?_
  refine z_land C d_Guest_isLessWithoutSign_5 ?_
  refine z_iload_n C 1 rfl rfl d_Guest_isLessWithoutSign_6 ?_
  refine z_i2l C d_Guest_isLessWithoutSign_7 ?_
  refine z_ldc2 (v := (4294967295 : Int64)) C tw_689 d_Guest_isLessWithoutSign_8 ?_
  refine z_land C d_Guest_isLessWithoutSign_11 ?_
  refine z_lcmp C d_Guest_isLessWithoutSign_12 ?_
  refine z_if_ge (tgt := 20) C d_Guest_isLessWithoutSign_13 rfl (fun c => ?_) (fun c => ?_)
  · have h := h.1 c
    refine z_iconst (v := (0 : Int32)) C rfl d_Guest_isLessWithoutSign_20 ?_
    exact z_zreturn C G hr rfl h d_Guest_isLessWithoutSign_21
  · have h := h.2 c
    refine z_iconst (v := (1 : Int32)) C rfl d_Guest_isLessWithoutSign_16 ?_
    refine z_goto (tgt := 21) C d_Guest_isLessWithoutSign_17 rfl ?_
    exact z_zreturn C G hr rfl h d_Guest_isLessWithoutSign_21
theorem c_Guest_isLessWithoutSign (l : Launch) (B : zK) (a1 : Int32) (a2 : Int32) (S : zS) (P : zS → Int32 → Prop) (h : w_Guest_isLessWithoutSign a1 a2 S P) : Met l y_Guest_isLessWithoutSign (Cond.code y_Guest_isLessWithoutSign prog_5_method_18_code 2 (some FieldType.boolean) :: tT) (zRm 0 0) (zPc (wC B) [.int a1, .int a2] S) (zQ (wC B) (zPi P)) 0 0 (wC B).2.2.2 :=
  z_met (by decide) (Nat.le_of_ble_eq_true rfl) (fun E C G hr _ hnl => v_Guest_isLessWithoutSign C a1 a2 P G hr hnl S h)
theorem q_Guest_isLessWithoutSign : zQs y_Guest_isLessWithoutSign prog_5_method_18_code 2 (some FieldType.boolean) 2 := ⟨tw_687, tw_80, tw_688, by decide +kernel⟩
def w_Guest_computed (a1 : Int32) (a2 : Int32) (a3 : Int32) (a4 : Int32) (S : zS) (P : zS → Int32 → Prop) : Prop :=
  (a1 = (0 : Int32) → ((a4 = 0 → (P S (a2 + a3))) ∧ (¬ a4 = 0 → (P S (a2 - a3))))) ∧ (¬ a1 = (0 : Int32) → ((a1 = (1 : Int32) → (P S (a2 <<< ((a3 &&& (31 : Int32)) &&& 31)))) ∧ (¬ a1 = (1 : Int32) → ((a1 = (2 : Int32) → ((a3 ≤ a2 → (P S (0 : Int32))) ∧ (¬ a3 ≤ a2 → (P S (1 : Int32))))) ∧ (¬ a1 = (2 : Int32) → ((a1 = (3 : Int32) → (w_Guest_isLessWithoutSign a2 a3 S (fun S1 r2 => (r2 = 0 → (P S1 (0 : Int32))) ∧ (¬ r2 = 0 → (P S1 (1 : Int32)))))) ∧ (¬ a1 = (3 : Int32) → ((a1 = (4 : Int32) → (P S (a2 ^^^ a3))) ∧ (¬ a1 = (4 : Int32) → ((a1 = (5 : Int32) → ((a4 = 0 → (P S ((a2.toUInt32 >>> ((a3 &&& (31 : Int32)).toUInt32 &&& Int32.toUInt32 31)).toInt32))) ∧ (¬ a4 = 0 → (P S (a2 >>> ((a3 &&& (31 : Int32)) &&& 31)))))) ∧ (¬ a1 = (5 : Int32) → ((a1 = (6 : Int32) → (P S (a2 ||| a3))) ∧ (¬ a1 = (6 : Int32) → (P S (a2 &&& a3)))))))))))))))
set_option maxRecDepth 20000 in
set_option maxHeartbeats 4000000 in
theorem v_Guest_computed {E : zE} {B : zK} (C : zC E (wC B) prog_5_method_24_code "HostBench$Guest" 1 21) (a1 : Int32) (a2 : Int32) (a3 : Int32) (a4 : Int32) (P : zS → Int32 → Prop) (G : zGoal E (zQ (wC B) (zPi P)) (wC B)) (hr : zRt E (some .int)) (hnl : E.2.2.2.2.2.2.2.2.2.2.1 = 4) (S : zS) (h : w_Guest_computed a1 a2 a3 a4 S P) : zV E (wC B) S 0 [(0, .int a1), (1, .int a2), (2, .int a3), (3, .int a4)] [] := by
  unfold w_Guest_computed at h
  refine z_iload_n C 0 rfl rfl d_Guest_computed_0 ?_
  by_cases c0 : a1 = (0 : Int32)
  · have h := h.1 c0
    refine z_tableIn (off := 43) (tgt := 44) C d_Guest_computed_1 c0 (by decide) rfl rfl ?_
    refine z_iload_n C 3 rfl rfl d_Guest_computed_44 ?_
    refine z_if_eq (tgt := 54) C d_Guest_computed_45 rfl (fun c => ?_) (fun c => ?_)
    · have h := h.1 c
      refine z_iload_n C 1 rfl rfl d_Guest_computed_54 ?_
      refine z_iload_n C 2 rfl rfl d_Guest_computed_55 ?_
      refine z_iadd C d_Guest_computed_56 ?_
      exact z_ireturn C G hr h d_Guest_computed_57
    · have h := h.2 c
      refine z_iload_n C 1 rfl rfl d_Guest_computed_48 ?_
      refine z_iload_n C 2 rfl rfl d_Guest_computed_49 ?_
      refine z_isub C d_Guest_computed_50 ?_
      refine z_goto (tgt := 57) C d_Guest_computed_51 rfl ?_
      exact z_ireturn C G hr h d_Guest_computed_57
  · have h := h.2 c0
    by_cases c1 : a1 = (1 : Int32)
    · have h := h.1 c1
      refine z_tableIn (off := 57) (tgt := 58) C d_Guest_computed_1 c1 (by decide) rfl rfl ?_
      refine z_iload_n C 1 rfl rfl d_Guest_computed_58 ?_
      refine z_iload_n C 2 rfl rfl d_Guest_computed_59 ?_
      refine z_bipush (v := (31 : Int32)) C rfl d_Guest_computed_60 ?_
      refine z_iand C d_Guest_computed_62 ?_
      refine z_ishl C d_Guest_computed_63 ?_
      exact z_ireturn C G hr h d_Guest_computed_64
    · have h := h.2 c1
      by_cases c2 : a1 = (2 : Int32)
      · have h := h.1 c2
        refine z_tableIn (off := 64) (tgt := 65) C d_Guest_computed_1 c2 (by decide) rfl rfl ?_
        refine z_iload_n C 1 rfl rfl d_Guest_computed_65 ?_
        refine z_iload_n C 2 rfl rfl d_Guest_computed_66 ?_
        refine z_icmp_ge (tgt := 74) C d_Guest_computed_67 rfl (fun c => ?_) (fun c => ?_)
        · have h := h.1 c
          refine z_iconst (v := (0 : Int32)) C rfl d_Guest_computed_74 ?_
          exact z_ireturn C G hr h d_Guest_computed_75
        · have h := h.2 c
          refine z_iconst (v := (1 : Int32)) C rfl d_Guest_computed_70 ?_
          refine z_goto (tgt := 75) C d_Guest_computed_71 rfl ?_
          exact z_ireturn C G hr h d_Guest_computed_75
      · have h := h.2 c2
        by_cases c3 : a1 = (3 : Int32)
        · have h := h.1 c3
          refine z_tableIn (off := 75) (tgt := 76) C d_Guest_computed_1 c3 (by decide) rfl rfl ?_
          refine z_iload_n C 1 rfl rfl d_Guest_computed_76 ?_
          refine z_iload_n C 2 rfl rfl d_Guest_computed_77 ?_
          refine z_callSi (rest := []) C q_Guest_isLessWithoutSign rfl tw_686 (c_Guest_isLessWithoutSign _ B a2 a3 S _ h) ⟨Nat.le_of_ble_eq_true rfl, Nat.le_of_ble_eq_true rfl⟩ rfl rfl (Nat.le_of_ble_eq_true rfl) d_Guest_computed_78 (fun S1 r2 h => ?_)
          refine z_if_eq (tgt := 88) C d_Guest_computed_81 rfl (fun c => ?_) (fun c => ?_)
          · have h := h.1 c
            refine z_iconst (v := (0 : Int32)) C rfl d_Guest_computed_88 ?_
            exact z_ireturn C G hr h d_Guest_computed_89
          · have h := h.2 c
            refine z_iconst (v := (1 : Int32)) C rfl d_Guest_computed_84 ?_
            refine z_goto (tgt := 89) C d_Guest_computed_85 rfl ?_
            exact z_ireturn C G hr h d_Guest_computed_89
        · have h := h.2 c3
          by_cases c4 : a1 = (4 : Int32)
          · have h := h.1 c4
            refine z_tableIn (off := 89) (tgt := 90) C d_Guest_computed_1 c4 (by decide) rfl rfl ?_
            refine z_iload_n C 1 rfl rfl d_Guest_computed_90 ?_
            refine z_iload_n C 2 rfl rfl d_Guest_computed_91 ?_
            refine z_ixor C d_Guest_computed_92 ?_
            exact z_ireturn C G hr h d_Guest_computed_93
          · have h := h.2 c4
            by_cases c5 : a1 = (5 : Int32)
            · have h := h.1 c5
              refine z_tableIn (off := 93) (tgt := 94) C d_Guest_computed_1 c5 (by decide) rfl rfl ?_
              refine z_iload_n C 3 rfl rfl d_Guest_computed_94 ?_
              refine z_if_eq (tgt := 107) C d_Guest_computed_95 rfl (fun c => ?_) (fun c => ?_)
              · have h := h.1 c
                refine z_iload_n C 1 rfl rfl d_Guest_computed_107 ?_
                refine z_iload_n C 2 rfl rfl d_Guest_computed_108 ?_
                refine z_bipush (v := (31 : Int32)) C rfl d_Guest_computed_109 ?_
                refine z_iand C d_Guest_computed_111 ?_
                refine z_iushr C d_Guest_computed_112 ?_
                exact z_ireturn C G hr h d_Guest_computed_113
              · have h := h.2 c
                refine z_iload_n C 1 rfl rfl d_Guest_computed_98 ?_
                refine z_iload_n C 2 rfl rfl d_Guest_computed_99 ?_
                refine z_bipush (v := (31 : Int32)) C rfl d_Guest_computed_100 ?_
                refine z_iand C d_Guest_computed_102 ?_
                refine z_ishr C d_Guest_computed_103 ?_
                refine z_goto (tgt := 113) C d_Guest_computed_104 rfl ?_
                exact z_ireturn C G hr h d_Guest_computed_113
            · have h := h.2 c5
              by_cases c6 : a1 = (6 : Int32)
              · have h := h.1 c6
                refine z_tableIn (off := 113) (tgt := 114) C d_Guest_computed_1 c6 (by decide) rfl rfl ?_
                refine z_iload_n C 1 rfl rfl d_Guest_computed_114 ?_
                refine z_iload_n C 2 rfl rfl d_Guest_computed_115 ?_
                refine z_ior C d_Guest_computed_116 ?_
                exact z_ireturn C G hr h d_Guest_computed_117
              · have h := h.2 c6
                refine z_tableOut (tgt := 118) C d_Guest_computed_1 (by have n0 := lv_neT (a := 0) c0 rfl; have n1 := lv_neT (a := 1) c1 rfl; have n2 := lv_neT (a := 2) c2 rfl; have n3 := lv_neT (a := 3) c3 rfl; have n4 := lv_neT (a := 4) c4 rfl; have n5 := lv_neT (a := 5) c5 rfl; have n6 := lv_neT (a := 6) c6 rfl; omega) rfl ?_
                refine z_iload_n C 1 rfl rfl d_Guest_computed_118 ?_
                refine z_iload_n C 2 rfl rfl d_Guest_computed_119 ?_
                refine z_iand C d_Guest_computed_120 ?_
                exact z_ireturn C G hr h d_Guest_computed_121
theorem c_Guest_computed (l : Launch) (B : zK) (a1 : Int32) (a2 : Int32) (a3 : Int32) (a4 : Int32) (S : zS) (P : zS → Int32 → Prop) (h : w_Guest_computed a1 a2 a3 a4 S P) : Met l y_Guest_computed (Cond.code y_Guest_computed prog_5_method_24_code 4 (some FieldType.int) :: tT) (zRm 1 21) (zPc (wC B) [.int a1, .int a2, .int a3, .int a4] S) (zQ (wC B) (zPi P)) 0 0 (wC B).2.2.2 :=
  z_met (by decide) (Nat.le_of_ble_eq_true rfl) (fun E C G hr _ hnl => v_Guest_computed C a1 a2 a3 a4 P G hr hnl S h)
theorem q_Guest_computed : zQs y_Guest_computed prog_5_method_24_code 4 (some FieldType.int) 4 := ⟨tw_684, tw_80, tw_685, by decide +kernel⟩
def j_Guest_operateOnNumber_49 (a1 : Int32) (P : zS → Int32 → Prop) (S : zS) (x2 : Int32) (x4 : Int32) : Prop :=
  w_Guest_value ((a1.toUInt32 >>> ((15 : Int32).toUInt32 &&& Int32.toUInt32 31)).toInt32) S (fun S1 r2 => w_Guest_computed x2 r2 (a1 >>> ((20 : Int32) &&& 31)) x4 S1 (fun S3 r4 => w_Guest_assign ((a1.toUInt32 >>> ((7 : Int32).toUInt32 &&& Int32.toUInt32 31)).toInt32) r4 S3 (fun S5 => P S5 (0 : Int32))))
set_option maxRecDepth 20000 in
set_option maxHeartbeats 4000000 in
theorem vj_Guest_operateOnNumber_49 {E : zE} {B : zK} (C : zC E (wC B) prog_5_method_22_code "HostBench$Guest" 2 44) (a1 : Int32) (P : zS → Int32 → Prop) (G : zGoal E (zQ (wC B) (zPi P)) (wC B)) (hr : zRt E (some .int)) (hnl : E.2.2.2.2.2.2.2.2.2.2.1 = 5) (S : zS) (x2 : Int32) (x4 : Int32) (h : j_Guest_operateOnNumber_49 a1 P S x2 x4) : zV E (wC B) S 49 [(0, .ref (ad B 3)), (1, .int a1), (2, .int x2), (4, .int x4)] [] := by
  unfold j_Guest_operateOnNumber_49 at h
  refine z_aload_n C 0 rfl rfl d_Guest_operateOnNumber_49 ?_
  refine z_iload_n C 1 rfl rfl d_Guest_operateOnNumber_50 ?_
  refine z_bipush (v := (7 : Int32)) C rfl d_Guest_operateOnNumber_51 ?_
  refine z_iushr C d_Guest_operateOnNumber_53 ?_
  refine z_iload_n C 2 rfl rfl d_Guest_operateOnNumber_54 ?_
  refine z_aload_n C 0 rfl rfl d_Guest_operateOnNumber_55 ?_
  refine z_iload_n C 1 rfl rfl d_Guest_operateOnNumber_56 ?_
  refine z_bipush (v := (15 : Int32)) C rfl d_Guest_operateOnNumber_57 ?_
  refine z_iushr C d_Guest_operateOnNumber_59 ?_
  refine z_callVi (rest := [.int x2, .int ((a1.toUInt32 >>> ((7 : Int32).toUInt32 &&& Int32.toUInt32 31)).toInt32), .ref (ad B 3)]) C q_Guest_value tw_665 (c_Guest_value _ B ((a1.toUInt32 >>> ((15 : Int32).toUInt32 &&& Int32.toUInt32 31)).toInt32) S _ h) rc_Guest ⟨Nat.le_of_ble_eq_true rfl, Nat.le_of_ble_eq_true rfl⟩ rfl rfl (Nat.le_of_ble_eq_true rfl) d_Guest_operateOnNumber_60 (fun S1 r2 h => ?_)
  refine z_iload_n C 1 rfl rfl d_Guest_operateOnNumber_63 ?_
  refine z_bipush (v := (20 : Int32)) C rfl d_Guest_operateOnNumber_64 ?_
  refine z_ishr C d_Guest_operateOnNumber_66 ?_
  refine z_iload C 3 rfl d_Guest_operateOnNumber_67 ?_
  refine z_callSi (rest := [.int ((a1.toUInt32 >>> ((7 : Int32).toUInt32 &&& Int32.toUInt32 31)).toInt32), .ref (ad B 3)]) C q_Guest_computed rfl tw_683 (c_Guest_computed _ B x2 r2 (a1 >>> ((20 : Int32) &&& 31)) x4 S1 _ h) ⟨Nat.le_of_ble_eq_true rfl, Nat.le_of_ble_eq_true rfl⟩ rfl rfl (Nat.le_of_ble_eq_true rfl) d_Guest_operateOnNumber_69 (fun S3 r4 h => ?_)
  refine z_callVv (rest := []) C q_Guest_assign tw_678 (c_Guest_assign _ B ((a1.toUInt32 >>> ((7 : Int32).toUInt32 &&& Int32.toUInt32 31)).toInt32) r4 S3 _ h) rc_Guest ⟨Nat.le_of_ble_eq_true rfl, Nat.le_of_ble_eq_true rfl⟩ rfl rfl (Nat.le_of_ble_eq_true rfl) d_Guest_operateOnNumber_72 (fun S5 h => ?_)
  refine z_iconst (v := (0 : Int32)) C rfl d_Guest_operateOnNumber_75 ?_
  exact z_ireturn C G hr h d_Guest_operateOnNumber_76
def j_Guest_operateOnNumber_38 (a1 : Int32) (P : zS → Int32 → Prop) (S : zS) (x2 : Int32) (x3 : Int32) (x4 : Int32) : Prop :=
  (x3 = 0 → (j_Guest_operateOnNumber_49 a1 P S x2 x4)) ∧ (¬ x3 = 0 → ((x4 = 0 → (P S (3 : Int32))) ∧ (¬ x4 = 0 → (j_Guest_operateOnNumber_49 a1 P S x2 x4))))
set_option maxRecDepth 20000 in
set_option maxHeartbeats 4000000 in
theorem vj_Guest_operateOnNumber_38 {E : zE} {B : zK} (C : zC E (wC B) prog_5_method_22_code "HostBench$Guest" 2 44) (a1 : Int32) (P : zS → Int32 → Prop) (G : zGoal E (zQ (wC B) (zPi P)) (wC B)) (hr : zRt E (some .int)) (hnl : E.2.2.2.2.2.2.2.2.2.2.1 = 5) (S : zS) (x2 : Int32) (x3 : Int32) (x4 : Int32) (h : j_Guest_operateOnNumber_38 a1 P S x2 x3 x4) : zV E (wC B) S 38 [(0, .ref (ad B 3)), (1, .int a1), (2, .int x2), (3, .int x3), (4, .int x4)] [] := by
  unfold j_Guest_operateOnNumber_38 at h
  refine z_iload_n C 3 rfl rfl d_Guest_operateOnNumber_38 ?_
  refine z_if_eq (tgt := 49) C d_Guest_operateOnNumber_39 rfl (fun c => ?_) (fun c => ?_)
  · have h := h.1 c
    exact z_sub [0, 1, 2, 4] rfl (vj_Guest_operateOnNumber_49 C a1 P G hr hnl S x2 x4 h)
  · have h := h.2 c
    refine z_iload C 4 rfl d_Guest_operateOnNumber_42 ?_
    refine z_if_ne (tgt := 49) C d_Guest_operateOnNumber_44 rfl (fun c => ?_) (fun c => ?_)
    · have h := h.2 c
      exact z_sub [0, 1, 2, 4] rfl (vj_Guest_operateOnNumber_49 C a1 P G hr hnl S x2 x4 h)
    · have h := h.1 c
      refine z_iconst (v := (3 : Int32)) C rfl d_Guest_operateOnNumber_47 ?_
      exact z_ireturn C G hr h d_Guest_operateOnNumber_48
def j_Guest_operateOnNumber_26 (a1 : Int32) (P : zS → Int32 → Prop) (S : zS) (x2 : Int32) (x3 : Int32) (s0 : Int32) : Prop :=
  (x2 = (1 : Int32) → (j_Guest_operateOnNumber_38 a1 P S x2 x3 s0)) ∧ (¬ x2 = (1 : Int32) → ((x2 = (5 : Int32) → (j_Guest_operateOnNumber_38 a1 P S x2 x3 s0)) ∧ (¬ x2 = (5 : Int32) → (j_Guest_operateOnNumber_49 a1 P S x2 s0))))
set_option maxRecDepth 20000 in
set_option maxHeartbeats 4000000 in
theorem vj_Guest_operateOnNumber_26 {E : zE} {B : zK} (C : zC E (wC B) prog_5_method_22_code "HostBench$Guest" 2 44) (a1 : Int32) (P : zS → Int32 → Prop) (G : zGoal E (zQ (wC B) (zPi P)) (wC B)) (hr : zRt E (some .int)) (hnl : E.2.2.2.2.2.2.2.2.2.2.1 = 5) (S : zS) (x2 : Int32) (x3 : Int32) (s0 : Int32) (h : j_Guest_operateOnNumber_26 a1 P S x2 x3 s0) : zV E (wC B) S 26 [(0, .ref (ad B 3)), (1, .int a1), (2, .int x2), (3, .int x3)] [.int s0] := by
  unfold j_Guest_operateOnNumber_26 at h
  refine z_istore (L' := [(4, .int s0), (0, .ref (ad B 3)), (1, .int a1), (2, .int x2), (3, .int x3)]) C hnl (by decide) rfl d_Guest_operateOnNumber_26 ?_
  refine z_iload_n C 3 rfl rfl d_Guest_operateOnNumber_28 ?_
  refine z_iconst (v := (1 : Int32)) C rfl d_Guest_operateOnNumber_29 ?_
  refine z_icmp_eq (tgt := 38) C d_Guest_operateOnNumber_30 rfl (fun c => ?_) (fun c => ?_)
  · have h := h.1 c
    exact z_sub [1, 2, 3, 4, 0] rfl (vj_Guest_operateOnNumber_38 C a1 P G hr hnl S x2 x3 s0 h)
  · have h := h.2 c
    refine z_iload_n C 3 rfl rfl d_Guest_operateOnNumber_33 ?_
    refine z_iconst (v := (5 : Int32)) C rfl d_Guest_operateOnNumber_34 ?_
    refine z_icmp_ne (tgt := 49) C d_Guest_operateOnNumber_35 rfl (fun c => ?_) (fun c => ?_)
    · have h := h.2 c
      exact z_sub [1, 2, 3, 0] rfl (vj_Guest_operateOnNumber_49 C a1 P G hr hnl S x2 s0 h)
    · have h := h.1 c
      exact z_sub [1, 2, 3, 4, 0] rfl (vj_Guest_operateOnNumber_38 C a1 P G hr hnl S x2 x3 s0 h)
def j_Guest_operateOnNumber_25 (a1 : Int32) (P : zS → Int32 → Prop) (S : zS) (x2 : Int32) (x3 : Int32) : Prop :=
  j_Guest_operateOnNumber_26 a1 P S x2 x3 (0 : Int32)
set_option maxRecDepth 20000 in
set_option maxHeartbeats 4000000 in
theorem vj_Guest_operateOnNumber_25 {E : zE} {B : zK} (C : zC E (wC B) prog_5_method_22_code "HostBench$Guest" 2 44) (a1 : Int32) (P : zS → Int32 → Prop) (G : zGoal E (zQ (wC B) (zPi P)) (wC B)) (hr : zRt E (some .int)) (hnl : E.2.2.2.2.2.2.2.2.2.2.1 = 5) (S : zS) (x2 : Int32) (x3 : Int32) (h : j_Guest_operateOnNumber_25 a1 P S x2 x3) : zV E (wC B) S 25 [(0, .ref (ad B 3)), (1, .int a1), (2, .int x2), (3, .int x3)] [] := by
  unfold j_Guest_operateOnNumber_25 at h
  refine z_iconst (v := (0 : Int32)) C rfl d_Guest_operateOnNumber_25 ?_
  exact z_sub [0, 1, 2, 3] rfl (vj_Guest_operateOnNumber_26 C a1 P G hr hnl S x2 x3 (0 : Int32) h)
def w_Guest_operateOnNumber (a1 : Int32) (S : zS) (P : zS → Int32 → Prop) : Prop :=
  w_Guest_funct3 a1 S (fun S1 r2 => ∀ v3 : Int32, v3 = ((a1.toUInt32 >>> ((25 : Int32).toUInt32 &&& Int32.toUInt32 31)).toInt32) → (r2 = (5 : Int32) → ((v3 = (32 : Int32) → (j_Guest_operateOnNumber_26 a1 P S1 r2 v3 (1 : Int32))) ∧ (¬ v3 = (32 : Int32) → (j_Guest_operateOnNumber_25 a1 P S1 r2 v3)))) ∧ (¬ r2 = (5 : Int32) → (j_Guest_operateOnNumber_25 a1 P S1 r2 v3)))
set_option maxRecDepth 20000 in
set_option maxHeartbeats 4000000 in
theorem v_Guest_operateOnNumber {E : zE} {B : zK} (C : zC E (wC B) prog_5_method_22_code "HostBench$Guest" 2 44) (a1 : Int32) (P : zS → Int32 → Prop) (G : zGoal E (zQ (wC B) (zPi P)) (wC B)) (hr : zRt E (some .int)) (hnl : E.2.2.2.2.2.2.2.2.2.2.1 = 5) (S : zS) (h : w_Guest_operateOnNumber a1 S P) : zV E (wC B) S 0 [(0, .ref (ad B 3)), (1, .int a1)] [] := by
  unfold w_Guest_operateOnNumber at h
  refine z_iload_n C 1 rfl rfl d_Guest_operateOnNumber_0 ?_
  refine z_callSi (rest := []) C q_Guest_funct3 rfl tw_662 (c_Guest_funct3 _ B a1 S _ h) ⟨Nat.le_of_ble_eq_true rfl, Nat.le_of_ble_eq_true rfl⟩ rfl rfl (Nat.le_of_ble_eq_true rfl) d_Guest_operateOnNumber_1 (fun S1 r2 h => ?_)
  refine z_istore_n (L' := [(2, .int r2), (0, .ref (ad B 3)), (1, .int a1)]) C hnl rfl (by decide) rfl d_Guest_operateOnNumber_4 ?_
  refine z_iload_n C 2 rfl rfl d_Guest_operateOnNumber_5 ?_
  refine z_bipush (v := (25 : Int32)) C rfl d_Guest_operateOnNumber_6 ?_
  refine z_iushr C d_Guest_operateOnNumber_8 ?_
  refine z_topi (fun v3 ev3 => ?_)
  have h := h v3 ev3
  refine z_istore_n (L' := [(3, .int v3), (2, .int r2), (0, .ref (ad B 3)), (1, .int a1)]) C hnl rfl (by decide) rfl d_Guest_operateOnNumber_9 ?_
  refine z_iload_n C 1 rfl rfl d_Guest_operateOnNumber_10 ?_
  refine z_iconst (v := (5 : Int32)) C rfl d_Guest_operateOnNumber_11 ?_
  refine z_icmp_ne (tgt := 25) C d_Guest_operateOnNumber_12 rfl (fun c => ?_) (fun c => ?_)
  · have h := h.2 c
    exact z_sub [2, 3, 1, 0] rfl (vj_Guest_operateOnNumber_25 C a1 P G hr hnl S1 r2 v3 h)
  · have h := h.1 c
    refine z_iload_n C 0 rfl rfl d_Guest_operateOnNumber_15 ?_
    refine z_bipush (v := (32 : Int32)) C rfl d_Guest_operateOnNumber_16 ?_
    refine z_icmp_ne (tgt := 25) C d_Guest_operateOnNumber_18 rfl (fun c => ?_) (fun c => ?_)
    · have h := h.2 c
      exact z_sub [2, 3, 1, 0] rfl (vj_Guest_operateOnNumber_25 C a1 P G hr hnl S1 r2 v3 h)
    · have h := h.1 c
      refine z_iconst (v := (1 : Int32)) C rfl d_Guest_operateOnNumber_21 ?_
      refine z_goto (tgt := 26) C d_Guest_operateOnNumber_22 rfl ?_
      exact z_sub [2, 3, 1, 0] rfl (vj_Guest_operateOnNumber_26 C a1 P G hr hnl S1 r2 v3 (1 : Int32) h)
theorem c_Guest_operateOnNumber (l : Launch) (B : zK) (a1 : Int32) (S : zS) (P : zS → Int32 → Prop) (h : w_Guest_operateOnNumber a1 S P) : Met l y_Guest_operateOnNumber (Cond.code y_Guest_operateOnNumber prog_5_method_22_code 5 (some FieldType.int) :: tT) (zRm 2 44) (zPc (wC B) [.ref (ad B 3), .int a1] S) (zQ (wC B) (zPi P)) 0 0 (wC B).2.2.2 :=
  z_met (by decide) (Nat.le_of_ble_eq_true rfl) (fun E C G hr _ hnl => v_Guest_operateOnNumber C a1 P G hr hnl S h)
theorem q_Guest_operateOnNumber : zQw y_Guest_operateOnNumber prog_5_method_22_code 5 (some FieldType.int) 1 := ⟨tw_681, tw_6, tw_80, tw_682, by decide +kernel⟩
def l_Guest_store_82 (a1 : Int32) (P : zS → Int32 → Prop) : Nat → zS → Int32 → Int32 → Int32 → Int32 → Prop
  | 0, _, _, _, _, _ => False
  | n + 1, S, x3, x4, x5, x6 =>
  (x4 ≤ x6 → (P S (0 : Int32))) ∧ (¬ x4 ≤ x6 → (w_Memory_storeByte (x3 + x6) ((x5.toUInt32 >>> (((8 : Int32) * x6).toUInt32 &&& Int32.toUInt32 31)).toInt32) S (fun S1 => l_Guest_store_82 a1 P n S1 x3 x4 x5 (x6 + (1 : Int32)))))
set_option maxRecDepth 20000 in
set_option maxHeartbeats 4000000 in
theorem vl_Guest_store_82 {E : zE} {B : zK} (C : zC E (wC B) prog_5_method_21_code "HostBench$Guest" 1 22) (a1 : Int32) (P : zS → Int32 → Prop) (G : zGoal E (zQ (wC B) (zPi P)) (wC B)) (hr : zRt E (some .int)) (hnl : E.2.2.2.2.2.2.2.2.2.2.1 = 7) : ∀ (n : Nat) (S : zS) (x3 : Int32) (x4 : Int32) (x5 : Int32) (x6 : Int32) , l_Guest_store_82 a1 P n S x3 x4 x5 x6 → zV E (wC B) S 82 [(0, .ref (ad B 3)), (3, .int x3), (4, .int x4), (5, .int x5), (6, .int x6)] [] := by
  intro n
  induction n with
  | zero => intro S x3 x4 x5 x6 h; exact h.elim
  | succ n ih =>
    intro S x3 x4 x5 x6 h
    unfold l_Guest_store_82 at h
    refine z_iload C 4 rfl d_Guest_store_82 ?_
    refine z_iload C 2 rfl d_Guest_store_84 ?_
    refine z_icmp_ge (tgt := 114) C d_Guest_store_86 rfl (fun c => ?_) (fun c => ?_)
    · have h := h.1 c
      refine z_iconst (v := (0 : Int32)) C rfl d_Guest_store_114 ?_
      exact z_ireturn C G hr h d_Guest_store_115
    · have h := h.2 c
      refine z_aload_n C 0 rfl rfl d_Guest_store_89 ?_
      refine gf_Guest_memory C (Or.inl tw_144) d_Guest_store_90 ?_
      refine z_iload_n C 1 rfl rfl d_Guest_store_93 ?_
      refine z_iload C 4 rfl d_Guest_store_94 ?_
      refine z_iadd C d_Guest_store_96 ?_
      refine z_iload C 3 rfl d_Guest_store_97 ?_
      refine z_bipush (v := (8 : Int32)) C rfl d_Guest_store_99 ?_
      refine z_iload C 4 rfl d_Guest_store_101 ?_
      refine z_imul C d_Guest_store_103 ?_
      refine z_iushr C d_Guest_store_104 ?_
      refine z_callVv (rest := []) C q_Memory_storeByte tw_694 (c_Memory_storeByte _ B (x3 + x6) ((x5.toUInt32 >>> (((8 : Int32) * x6).toUInt32 &&& Int32.toUInt32 31)).toInt32) S _ h) rc_Memory ⟨Nat.le_of_ble_eq_true rfl, Nat.le_of_ble_eq_true rfl⟩ rfl rfl (Nat.le_of_ble_eq_true rfl) d_Guest_store_105 (fun S1 h => ?_)
      refine z_iinc (v := x6 + (1 : Int32)) (L' := [(6, .int (x6 + (1 : Int32))), (0, .ref (ad B 3)), (3, .int x3), (4, .int x4), (5, .int x5)]) C hnl 4 rfl rfl (by decide) rfl d_Guest_store_108 ?_
      refine z_goto (tgt := 82) C d_Guest_store_111 rfl ?_
      exact z_sub [1, 2, 3, 4, 0] rfl (ih S1 x3 x4 x5 (x6 + (1 : Int32)) h)
def w_Guest_store (a1 : Int32) (S : zS) (P : zS → Int32 → Prop) : Prop :=
  w_Guest_funct3 a1 S (fun S1 r2 => (r2 ≤ (2 : Int32) → (w_Guest_value ((a1.toUInt32 >>> ((15 : Int32).toUInt32 &&& Int32.toUInt32 31)).toInt32) S1 (fun S3 r4 => ∀ v5 : Int32, v5 = (r4 + (((a1 >>> ((25 : Int32) &&& 31)) <<< ((5 : Int32) &&& 31)) ||| (((a1.toUInt32 >>> ((7 : Int32).toUInt32 &&& Int32.toUInt32 31)).toInt32) &&& (31 : Int32)))) → ∀ v6 : Int32, v6 = ((1 : Int32) <<< (r2 &&& 31)) → ((v5 &&& (v6 - (1 : Int32))) = 0 → (w_Memory_hasArea v5 v6 S3 (fun S7 r8 => (r8 = 0 → (P S7 (9 : Int32))) ∧ (¬ r8 = 0 → (w_Guest_value ((a1.toUInt32 >>> ((20 : Int32).toUInt32 &&& Int32.toUInt32 31)).toInt32) S7 (fun S9 r10 => ∃ n11 : Nat, l_Guest_store_82 a1 P n11 S9 v5 v6 r10 (0 : Int32))))))) ∧ (¬ (v5 &&& (v6 - (1 : Int32))) = 0 → (P S3 (8 : Int32)))))) ∧ (¬ r2 ≤ (2 : Int32) → (P S1 (3 : Int32))))
set_option maxRecDepth 20000 in
set_option maxHeartbeats 4000000 in
theorem v_Guest_store {E : zE} {B : zK} (C : zC E (wC B) prog_5_method_21_code "HostBench$Guest" 1 22) (a1 : Int32) (P : zS → Int32 → Prop) (G : zGoal E (zQ (wC B) (zPi P)) (wC B)) (hr : zRt E (some .int)) (hnl : E.2.2.2.2.2.2.2.2.2.2.1 = 7) (S : zS) (h : w_Guest_store a1 S P) : zV E (wC B) S 0 [(0, .ref (ad B 3)), (1, .int a1)] [] := by
  unfold w_Guest_store at h
  refine z_iload_n C 1 rfl rfl d_Guest_store_0 ?_
  refine z_callSi (rest := []) C q_Guest_funct3 rfl tw_662 (c_Guest_funct3 _ B a1 S _ h) ⟨Nat.le_of_ble_eq_true rfl, Nat.le_of_ble_eq_true rfl⟩ rfl rfl (Nat.le_of_ble_eq_true rfl) d_Guest_store_1 (fun S1 r2 h => ?_)
  refine z_istore_n (L' := [(2, .int r2), (0, .ref (ad B 3)), (1, .int a1)]) C hnl rfl (by decide) rfl d_Guest_store_4 ?_
  refine z_iload_n C 0 rfl rfl d_Guest_store_5 ?_
  refine z_iconst (v := (2 : Int32)) C rfl d_Guest_store_6 ?_
  refine z_icmp_le (tgt := 12) C d_Guest_store_7 rfl (fun c => ?_) (fun c => ?_)
  · have h := h.1 c
    refine z_aload_n C 1 rfl rfl d_Guest_store_12 ?_
    refine z_iload_n C 2 rfl rfl d_Guest_store_13 ?_
    refine z_bipush (v := (15 : Int32)) C rfl d_Guest_store_14 ?_
    refine z_iushr C d_Guest_store_16 ?_
    refine z_callVi (rest := []) C q_Guest_value tw_665 (c_Guest_value _ B ((a1.toUInt32 >>> ((15 : Int32).toUInt32 &&& Int32.toUInt32 31)).toInt32) S1 _ h) rc_Guest ⟨Nat.le_of_ble_eq_true rfl, Nat.le_of_ble_eq_true rfl⟩ rfl rfl (Nat.le_of_ble_eq_true rfl) d_Guest_store_17 (fun S3 r4 h => ?_)
    refine z_iload_n C 2 rfl rfl d_Guest_store_20 ?_
    refine z_bipush (v := (25 : Int32)) C rfl d_Guest_store_21 ?_
    refine z_ishr C d_Guest_store_23 ?_
    refine z_iconst (v := (5 : Int32)) C rfl d_Guest_store_24 ?_
    refine z_ishl C d_Guest_store_25 ?_
    refine z_iload_n C 2 rfl rfl d_Guest_store_26 ?_
    refine z_bipush (v := (7 : Int32)) C rfl d_Guest_store_27 ?_
    refine z_iushr C d_Guest_store_29 ?_
    refine z_bipush (v := (31 : Int32)) C rfl d_Guest_store_30 ?_
    refine z_iand C d_Guest_store_32 ?_
    refine z_ior C d_Guest_store_33 ?_
    refine z_iadd C d_Guest_store_34 ?_
    refine z_topi (fun v5 ev5 => ?_)
    have h := h v5 ev5
    refine z_istore_n (L' := [(3, .int v5), (2, .int r2), (0, .ref (ad B 3)), (1, .int a1)]) C hnl rfl (by decide) rfl d_Guest_store_35 ?_
    refine z_iconst (v := (1 : Int32)) C rfl d_Guest_store_36 ?_
    refine z_iload_n C 1 rfl rfl d_Guest_store_37 ?_
    refine z_ishl C d_Guest_store_38 ?_
    refine z_topi (fun v6 ev6 => ?_)
    have h := h v6 ev6
    refine z_istore (L' := [(4, .int v6), (3, .int v5), (2, .int r2), (0, .ref (ad B 3)), (1, .int a1)]) C hnl (by decide) rfl d_Guest_store_39 ?_
    refine z_iload_n C 1 rfl rfl d_Guest_store_41 ?_
    refine z_iload C 0 rfl d_Guest_store_42 ?_
    refine z_iconst (v := (1 : Int32)) C rfl d_Guest_store_44 ?_
    refine z_isub C d_Guest_store_45 ?_
    refine z_iand C d_Guest_store_46 ?_
    refine z_if_eq (tgt := 53) C d_Guest_store_47 rfl (fun c => ?_) (fun c => ?_)
    · have h := h.1 c
      refine z_aload_n C 3 rfl rfl d_Guest_store_53 ?_
      refine gf_Guest_memory C (Or.inl tw_144) d_Guest_store_54 ?_
      refine z_iload_n C 1 rfl rfl d_Guest_store_57 ?_
      refine z_iload C 0 rfl d_Guest_store_58 ?_
      refine z_callVi (rest := []) C q_Memory_hasArea tw_641 (c_Memory_hasArea _ B v5 v6 S3 _ h) rc_Memory ⟨Nat.le_of_ble_eq_true rfl, Nat.le_of_ble_eq_true rfl⟩ rfl rfl (Nat.le_of_ble_eq_true rfl) d_Guest_store_60 (fun S7 r8 h => ?_)
      refine z_if_ne (tgt := 69) C d_Guest_store_63 rfl (fun c => ?_) (fun c => ?_)
      · have h := h.2 c
        refine z_aload_n C 3 rfl rfl d_Guest_store_69 ?_
        refine z_iload_n C 4 rfl rfl d_Guest_store_70 ?_
        refine z_bipush (v := (20 : Int32)) C rfl d_Guest_store_71 ?_
        refine z_iushr C d_Guest_store_73 ?_
        refine z_callVi (rest := []) C q_Guest_value tw_665 (c_Guest_value _ B ((a1.toUInt32 >>> ((20 : Int32).toUInt32 &&& Int32.toUInt32 31)).toInt32) S7 _ h) rc_Guest ⟨Nat.le_of_ble_eq_true rfl, Nat.le_of_ble_eq_true rfl⟩ rfl rfl (Nat.le_of_ble_eq_true rfl) d_Guest_store_74 (fun S9 r10 h => ?_)
        refine z_istore (L' := [(5, .int r10), (4, .int v6), (3, .int v5), (2, .int r2), (0, .ref (ad B 3)), (1, .int a1)]) C hnl (by decide) rfl d_Guest_store_77 ?_
        refine z_iconst (v := (0 : Int32)) C rfl d_Guest_store_79 ?_
        refine z_istore (L' := [(6, .int (0 : Int32)), (5, .int r10), (4, .int v6), (3, .int v5), (2, .int r2), (0, .ref (ad B 3)), (1, .int a1)]) C hnl (by decide) rfl d_Guest_store_80 ?_
        obtain ⟨n11, h⟩ := h
        exact z_sub [5, 3, 2, 1, 0] rfl (vl_Guest_store_82 C a1 P G hr hnl n11 S9 v5 v6 r10 (0 : Int32) h)
      · have h := h.1 c
        refine z_bipush (v := (9 : Int32)) C rfl d_Guest_store_66 ?_
        exact z_ireturn C G hr h d_Guest_store_68
    · have h := h.2 c
      refine z_bipush (v := (8 : Int32)) C rfl d_Guest_store_50 ?_
      exact z_ireturn C G hr h d_Guest_store_52
  · have h := h.2 c
    refine z_iconst (v := (3 : Int32)) C rfl d_Guest_store_10 ?_
    exact z_ireturn C G hr h d_Guest_store_11
theorem c_Guest_store (l : Launch) (B : zK) (a1 : Int32) (S : zS) (P : zS → Int32 → Prop) (h : w_Guest_store a1 S P) : Met l y_Guest_store (Cond.code y_Guest_store prog_5_method_21_code 7 (some FieldType.int) :: tT) (zRm 1 22) (zPc (wC B) [.ref (ad B 3), .int a1] S) (zQ (wC B) (zPi P)) 0 0 (wC B).2.2.2 :=
  z_met (by decide) (Nat.le_of_ble_eq_true rfl) (fun E C G hr _ hnl => v_Guest_store C a1 P G hr hnl S h)
theorem q_Guest_store : zQw y_Guest_store prog_5_method_21_code 7 (some FieldType.int) 1 := ⟨tw_692, tw_7, tw_80, tw_693, by decide +kernel⟩
def w_Guest_multiplied (a1 : Int32) (a2 : Int32) (a3 : Int32) (S : zS) (P : zS → Int32 → Prop) : Prop :=
  (a1 = (0 : Int32) → (P S (a2 * a3))) ∧ (¬ a1 = (0 : Int32) → ((a1 = (1 : Int32) → (P S (((a2.toInt64 * a3.toInt64) >>> ((32 : Int32).toInt64 &&& 63)).toInt32))) ∧ (¬ a1 = (1 : Int32) → ((a1 = (2 : Int32) → (P S (((a2.toInt64 * (a3.toInt64 &&& (4294967295 : Int64))) >>> ((32 : Int32).toInt64 &&& 63)).toInt32))) ∧ (¬ a1 = (2 : Int32) → (P S (((((a2.toInt64 &&& (4294967295 : Int64)) * (a3.toInt64 &&& (4294967295 : Int64))).toUInt64 >>> ((32 : Int32).toInt64.toUInt64 &&& Int64.toUInt64 63)).toInt64).toInt32)))))))
set_option maxRecDepth 20000 in
set_option maxHeartbeats 4000000 in
theorem v_Guest_multiplied {E : zE} {B : zK} (C : zC E (wC B) prog_5_method_25_code "HostBench$Guest" 0 0) (a1 : Int32) (a2 : Int32) (a3 : Int32) (P : zS → Int32 → Prop) (G : zGoal E (zQ (wC B) (zPi P)) (wC B)) (hr : zRt E (some .int)) (hnl : E.2.2.2.2.2.2.2.2.2.2.1 = 3) (S : zS) (h : w_Guest_multiplied a1 a2 a3 S P) : zV E (wC B) S 0 [(0, .int a1), (1, .int a2), (2, .int a3)] [] := by
  unfold w_Guest_multiplied at h
  refine z_iload_n C 0 rfl rfl d_Guest_multiplied_0 ?_
  by_cases c0 : a1 = (0 : Int32)
  · have h := h.1 c0
    refine z_tableIn (off := 27) (tgt := 28) C d_Guest_multiplied_1 c0 (by decide) rfl rfl ?_
    refine z_iload_n C 1 rfl rfl d_Guest_multiplied_28 ?_
    refine z_iload_n C 2 rfl rfl d_Guest_multiplied_29 ?_
    refine z_imul C d_Guest_multiplied_30 ?_
    exact z_ireturn C G hr h d_Guest_multiplied_31
  · have h := h.2 c0
    by_cases c1 : a1 = (1 : Int32)
    · have h := h.1 c1
      refine z_tableIn (off := 31) (tgt := 32) C d_Guest_multiplied_1 c1 (by decide) rfl rfl ?_
      refine z_iload_n C 1 rfl rfl d_Guest_multiplied_32 ?_
      refine z_i2l C d_Guest_multiplied_33 ?_
      refine z_iload_n C 2 rfl rfl d_Guest_multiplied_34 ?_
      refine z_i2l C d_Guest_multiplied_35 ?_
      refine z_lmul C d_Guest_multiplied_36 ?_
      refine z_bipush (v := (32 : Int32)) C rfl d_Guest_multiplied_37 ?_
      refine z_lshr C d_Guest_multiplied_39 ?_
      refine z_l2i C d_Guest_multiplied_40 ?_
      exact z_ireturn C G hr h d_Guest_multiplied_41
    · have h := h.2 c1
      by_cases c2 : a1 = (2 : Int32)
      · have h := h.1 c2
        refine z_tableIn (off := 41) (tgt := 42) C d_Guest_multiplied_1 c2 (by decide) rfl rfl ?_
        refine z_iload_n C 1 rfl rfl d_Guest_multiplied_42 ?_
        refine z_i2l C d_Guest_multiplied_43 ?_
        refine z_iload_n C 2 rfl rfl d_Guest_multiplied_44 ?_
        refine z_i2l C d_Guest_multiplied_45 ?_
        refine z_ldc2 (v := (4294967295 : Int64)) C tw_689 d_Guest_multiplied_46 ?_
        refine z_land C d_Guest_multiplied_49 ?_
        refine z_lmul C d_Guest_multiplied_50 ?_
        refine z_bipush (v := (32 : Int32)) C rfl d_Guest_multiplied_51 ?_
        refine z_lshr C d_Guest_multiplied_53 ?_
        refine z_l2i C d_Guest_multiplied_54 ?_
        exact z_ireturn C G hr h d_Guest_multiplied_55
      · have h := h.2 c2
        refine z_tableOut (tgt := 56) C d_Guest_multiplied_1 (by have n0 := lv_neT (a := 0) c0 rfl; have n1 := lv_neT (a := 1) c1 rfl; have n2 := lv_neT (a := 2) c2 rfl; omega) rfl ?_
        refine z_iload_n C 1 rfl rfl d_Guest_multiplied_56 ?_
        refine z_i2l C d_Guest_multiplied_57 ?_
        refine z_ldc2 (v := (4294967295 : Int64)) C tw_689 d_Guest_multiplied_58 ?_
        refine z_land C d_Guest_multiplied_61 ?_
        refine z_iload_n C 2 rfl rfl d_Guest_multiplied_62 ?_
        refine z_i2l C d_Guest_multiplied_63 ?_
        refine z_ldc2 (v := (4294967295 : Int64)) C tw_689 d_Guest_multiplied_64 ?_
        refine z_land C d_Guest_multiplied_67 ?_
        refine z_lmul C d_Guest_multiplied_68 ?_
        refine z_bipush (v := (32 : Int32)) C rfl d_Guest_multiplied_69 ?_
        refine z_lushr C d_Guest_multiplied_71 ?_
        refine z_l2i C d_Guest_multiplied_72 ?_
        exact z_ireturn C G hr h d_Guest_multiplied_73
theorem c_Guest_multiplied (l : Launch) (B : zK) (a1 : Int32) (a2 : Int32) (a3 : Int32) (S : zS) (P : zS → Int32 → Prop) (h : w_Guest_multiplied a1 a2 a3 S P) : Met l y_Guest_multiplied (Cond.code y_Guest_multiplied prog_5_method_25_code 3 (some FieldType.int) :: tT) (zRm 0 0) (zPc (wC B) [.int a1, .int a2, .int a3] S) (zQ (wC B) (zPi P)) 0 0 (wC B).2.2.2 :=
  z_met (by decide) (Nat.le_of_ble_eq_true rfl) (fun E C G hr _ hnl => v_Guest_multiplied C a1 a2 a3 P G hr hnl S h)
theorem q_Guest_multiplied : zQs y_Guest_multiplied prog_5_method_25_code 3 (some FieldType.int) 3 := ⟨tw_700, tw_80, tw_701, by decide +kernel⟩
def j_Guest_divided_92 (a1 : Int32) (a2 : Int32) (a3 : Int32) (P : zS → Int32 → Prop) (S : zS) (s0 : Int64) : Prop :=
  P S s0.toInt32
set_option maxRecDepth 20000 in
set_option maxHeartbeats 4000000 in
theorem vj_Guest_divided_92 {E : zE} {B : zK} (C : zC E (wC B) prog_5_method_26_code "HostBench$Guest" 0 0) (a1 : Int32) (a2 : Int32) (a3 : Int32) (P : zS → Int32 → Prop) (G : zGoal E (zQ (wC B) (zPi P)) (wC B)) (hr : zRt E (some .int)) (hnl : E.2.2.2.2.2.2.2.2.2.2.1 = 9) (S : zS) (s0 : Int64) (h : j_Guest_divided_92 a1 a2 a3 P S s0) : zV E (wC B) S 92 [] [.long s0] := by
  unfold j_Guest_divided_92 at h
  refine z_l2i C d_Guest_divided_92 ?_
  exact z_ireturn C G hr h d_Guest_divided_93
def j_Guest_divided_73 (a1 : Int32) (a2 : Int32) (a3 : Int32) (P : zS → Int32 → Prop) (S : zS) (x3 : Int32) (x5 : Int64) (s0 : Int64) : Prop :=
  (x3 = 0 → (¬ s0 = 0 ∧ j_Guest_divided_92 a1 a2 a3 P S (x5 / s0))) ∧ (¬ x3 = 0 → (¬ s0 = 0 ∧ j_Guest_divided_92 a1 a2 a3 P S (x5 - x5 / s0 * s0)))
set_option maxRecDepth 20000 in
set_option maxHeartbeats 4000000 in
theorem vj_Guest_divided_73 {E : zE} {B : zK} (C : zC E (wC B) prog_5_method_26_code "HostBench$Guest" 0 0) (a1 : Int32) (a2 : Int32) (a3 : Int32) (P : zS → Int32 → Prop) (G : zGoal E (zQ (wC B) (zPi P)) (wC B)) (hr : zRt E (some .int)) (hnl : E.2.2.2.2.2.2.2.2.2.2.1 = 9) (S : zS) (x3 : Int32) (x5 : Int64) (s0 : Int64) (h : j_Guest_divided_73 a1 a2 a3 P S x3 x5 s0) : zV E (wC B) S 73 [(3, .int x3), (5, .long x5)] [.long s0] := by
  unfold j_Guest_divided_73 at h
  refine z_lstore (L' := [(7, .long s0), (3, .int x3), (5, .long x5)]) C hnl (by decide) rfl d_Guest_divided_73 ?_
  refine z_iload_n C 1 rfl rfl d_Guest_divided_75 ?_
  refine z_if_eq (tgt := 87) C d_Guest_divided_76 rfl (fun c => ?_) (fun c => ?_)
  · have h := h.1 c
    refine z_lload C 2 rfl d_Guest_divided_87 ?_
    refine z_lload C 0 rfl d_Guest_divided_89 ?_
    obtain ⟨hc, h⟩ := h
    refine z_ldiv C hc d_Guest_divided_91 ?_
    exact z_sub [] rfl (vj_Guest_divided_92 C a1 a2 a3 P G hr hnl S (x5 / s0) h)
  · have h := h.2 c
    refine z_lload C 2 rfl d_Guest_divided_79 ?_
    refine z_lload C 0 rfl d_Guest_divided_81 ?_
    obtain ⟨hc, h⟩ := h
    refine z_lrem C hc d_Guest_divided_83 ?_
    refine z_goto (tgt := 92) C d_Guest_divided_84 rfl ?_
    exact z_sub [] rfl (vj_Guest_divided_92 C a1 a2 a3 P G hr hnl S (x5 - x5 / s0 * s0) h)
def j_Guest_divided_55 (a1 : Int32) (a2 : Int32) (a3 : Int32) (P : zS → Int32 → Prop) (S : zS) (x3 : Int32) (x4 : Int32) (s0 : Int64) : Prop :=
  (x4 = 0 → (j_Guest_divided_73 a1 a2 a3 P S x3 s0 (a3.toInt64 &&& (4294967295 : Int64)))) ∧ (¬ x4 = 0 → (j_Guest_divided_73 a1 a2 a3 P S x3 s0 a3.toInt64))
set_option maxRecDepth 20000 in
set_option maxHeartbeats 4000000 in
theorem vj_Guest_divided_55 {E : zE} {B : zK} (C : zC E (wC B) prog_5_method_26_code "HostBench$Guest" 0 0) (a1 : Int32) (a2 : Int32) (a3 : Int32) (P : zS → Int32 → Prop) (G : zGoal E (zQ (wC B) (zPi P)) (wC B)) (hr : zRt E (some .int)) (hnl : E.2.2.2.2.2.2.2.2.2.2.1 = 9) (S : zS) (x3 : Int32) (x4 : Int32) (s0 : Int64) (h : j_Guest_divided_55 a1 a2 a3 P S x3 x4 s0) : zV E (wC B) S 55 [(2, .int a3), (3, .int x3), (4, .int x4)] [.long s0] := by
  unfold j_Guest_divided_55 at h
  refine z_lstore (L' := [(5, .long s0), (2, .int a3), (3, .int x3), (4, .int x4)]) C hnl (by decide) rfl d_Guest_divided_55 ?_
  refine z_iload C 3 rfl d_Guest_divided_57 ?_
  refine z_if_eq (tgt := 67) C d_Guest_divided_59 rfl (fun c => ?_) (fun c => ?_)
  · have h := h.1 c
    refine z_iload_n C 1 rfl rfl d_Guest_divided_67 ?_
    refine z_i2l C d_Guest_divided_68 ?_
    refine z_ldc2 (v := (4294967295 : Int64)) C tw_689 d_Guest_divided_69 ?_
    refine z_land C d_Guest_divided_72 ?_
    exact z_sub [2, 0] rfl (vj_Guest_divided_73 C a1 a2 a3 P G hr hnl S x3 s0 (a3.toInt64 &&& (4294967295 : Int64)) h)
  · have h := h.2 c
    refine z_iload_n C 1 rfl rfl d_Guest_divided_62 ?_
    refine z_i2l C d_Guest_divided_63 ?_
    refine z_goto (tgt := 73) C d_Guest_divided_64 rfl ?_
    exact z_sub [2, 0] rfl (vj_Guest_divided_73 C a1 a2 a3 P G hr hnl S x3 s0 a3.toInt64 h)
def j_Guest_divided_37 (a1 : Int32) (a2 : Int32) (a3 : Int32) (P : zS → Int32 → Prop) (S : zS) (x3 : Int32) (s0 : Int32) : Prop :=
  (s0 = 0 → (j_Guest_divided_55 a1 a2 a3 P S x3 s0 (a2.toInt64 &&& (4294967295 : Int64)))) ∧ (¬ s0 = 0 → (j_Guest_divided_55 a1 a2 a3 P S x3 s0 a2.toInt64))
set_option maxRecDepth 20000 in
set_option maxHeartbeats 4000000 in
theorem vj_Guest_divided_37 {E : zE} {B : zK} (C : zC E (wC B) prog_5_method_26_code "HostBench$Guest" 0 0) (a1 : Int32) (a2 : Int32) (a3 : Int32) (P : zS → Int32 → Prop) (G : zGoal E (zQ (wC B) (zPi P)) (wC B)) (hr : zRt E (some .int)) (hnl : E.2.2.2.2.2.2.2.2.2.2.1 = 9) (S : zS) (x3 : Int32) (s0 : Int32) (h : j_Guest_divided_37 a1 a2 a3 P S x3 s0) : zV E (wC B) S 37 [(1, .int a2), (2, .int a3), (3, .int x3)] [.int s0] := by
  unfold j_Guest_divided_37 at h
  refine z_istore (L' := [(4, .int s0), (1, .int a2), (2, .int a3), (3, .int x3)]) C hnl (by decide) rfl d_Guest_divided_37 ?_
  refine z_iload C 0 rfl d_Guest_divided_39 ?_
  refine z_if_eq (tgt := 49) C d_Guest_divided_41 rfl (fun c => ?_) (fun c => ?_)
  · have h := h.1 c
    refine z_iload_n C 1 rfl rfl d_Guest_divided_49 ?_
    refine z_i2l C d_Guest_divided_50 ?_
    refine z_ldc2 (v := (4294967295 : Int64)) C tw_689 d_Guest_divided_51 ?_
    refine z_land C d_Guest_divided_54 ?_
    exact z_sub [2, 3, 0] rfl (vj_Guest_divided_55 C a1 a2 a3 P G hr hnl S x3 s0 (a2.toInt64 &&& (4294967295 : Int64)) h)
  · have h := h.2 c
    refine z_iload_n C 1 rfl rfl d_Guest_divided_44 ?_
    refine z_i2l C d_Guest_divided_45 ?_
    refine z_goto (tgt := 55) C d_Guest_divided_46 rfl ?_
    exact z_sub [2, 3, 0] rfl (vj_Guest_divided_55 C a1 a2 a3 P G hr hnl S x3 s0 a2.toInt64 h)
def j_Guest_divided_11 (a1 : Int32) (a2 : Int32) (a3 : Int32) (P : zS → Int32 → Prop) (S : zS) (s0 : Int32) : Prop :=
  (a3 = 0 → ((s0 = 0 → (P S (-1 : Int32))) ∧ (¬ s0 = 0 → (P S a2)))) ∧ (¬ a3 = 0 → (((a1 &&& (1 : Int32)) = 0 → (j_Guest_divided_37 a1 a2 a3 P S s0 (1 : Int32))) ∧ (¬ (a1 &&& (1 : Int32)) = 0 → (j_Guest_divided_37 a1 a2 a3 P S s0 (0 : Int32)))))
set_option maxRecDepth 20000 in
set_option maxHeartbeats 4000000 in
theorem vj_Guest_divided_11 {E : zE} {B : zK} (C : zC E (wC B) prog_5_method_26_code "HostBench$Guest" 0 0) (a1 : Int32) (a2 : Int32) (a3 : Int32) (P : zS → Int32 → Prop) (G : zGoal E (zQ (wC B) (zPi P)) (wC B)) (hr : zRt E (some .int)) (hnl : E.2.2.2.2.2.2.2.2.2.2.1 = 9) (S : zS) (s0 : Int32) (h : j_Guest_divided_11 a1 a2 a3 P S s0) : zV E (wC B) S 11 [(0, .int a1), (1, .int a2), (2, .int a3)] [.int s0] := by
  unfold j_Guest_divided_11 at h
  refine z_istore_n (L' := [(3, .int s0), (0, .int a1), (1, .int a2), (2, .int a3)]) C hnl rfl (by decide) rfl d_Guest_divided_11 ?_
  refine z_iload_n C 3 rfl rfl d_Guest_divided_12 ?_
  refine z_if_ne (tgt := 26) C d_Guest_divided_13 rfl (fun c => ?_) (fun c => ?_)
  · have h := h.2 c
    refine z_iload_n C 1 rfl rfl d_Guest_divided_26 ?_
    refine z_iconst (v := (1 : Int32)) C rfl d_Guest_divided_27 ?_
    refine z_iand C d_Guest_divided_28 ?_
    refine z_if_ne (tgt := 36) C d_Guest_divided_29 rfl (fun c => ?_) (fun c => ?_)
    · have h := h.2 c
      refine z_iconst (v := (0 : Int32)) C rfl d_Guest_divided_36 ?_
      exact z_sub [2, 3, 0] rfl (vj_Guest_divided_37 C a1 a2 a3 P G hr hnl S s0 (0 : Int32) h)
    · have h := h.1 c
      refine z_iconst (v := (1 : Int32)) C rfl d_Guest_divided_32 ?_
      refine z_goto (tgt := 37) C d_Guest_divided_33 rfl ?_
      exact z_sub [2, 3, 0] rfl (vj_Guest_divided_37 C a1 a2 a3 P G hr hnl S s0 (1 : Int32) h)
  · have h := h.1 c
    refine z_iload_n C 0 rfl rfl d_Guest_divided_16 ?_
    refine z_if_eq (tgt := 24) C d_Guest_divided_17 rfl (fun c => ?_) (fun c => ?_)
    · have h := h.1 c
      refine z_iconst (v := (-1 : Int32)) C rfl d_Guest_divided_24 ?_
      exact z_ireturn C G hr h d_Guest_divided_25
    · have h := h.2 c
      refine z_iload_n C 2 rfl rfl d_Guest_divided_20 ?_
      refine z_goto (tgt := 25) C d_Guest_divided_21 rfl ?_
      exact z_ireturn C G hr h d_Guest_divided_25
def w_Guest_divided (a1 : Int32) (a2 : Int32) (a3 : Int32) (S : zS) (P : zS → Int32 → Prop) : Prop :=
  (a1 < (6 : Int32) → (j_Guest_divided_11 a1 a2 a3 P S (0 : Int32))) ∧ (¬ a1 < (6 : Int32) → (j_Guest_divided_11 a1 a2 a3 P S (1 : Int32)))
set_option maxRecDepth 20000 in
set_option maxHeartbeats 4000000 in
theorem v_Guest_divided {E : zE} {B : zK} (C : zC E (wC B) prog_5_method_26_code "HostBench$Guest" 0 0) (a1 : Int32) (a2 : Int32) (a3 : Int32) (P : zS → Int32 → Prop) (G : zGoal E (zQ (wC B) (zPi P)) (wC B)) (hr : zRt E (some .int)) (hnl : E.2.2.2.2.2.2.2.2.2.2.1 = 9) (S : zS) (h : w_Guest_divided a1 a2 a3 S P) : zV E (wC B) S 0 [(0, .int a1), (1, .int a2), (2, .int a3)] [] := by
  unfold w_Guest_divided at h
  refine z_iload_n C 0 rfl rfl d_Guest_divided_0 ?_
  refine z_bipush (v := (6 : Int32)) C rfl d_Guest_divided_1 ?_
  refine z_icmp_lt (tgt := 10) C d_Guest_divided_3 rfl (fun c => ?_) (fun c => ?_)
  · have h := h.1 c
    refine z_iconst (v := (0 : Int32)) C rfl d_Guest_divided_10 ?_
    exact z_sub [0, 1, 2] rfl (vj_Guest_divided_11 C a1 a2 a3 P G hr hnl S (0 : Int32) h)
  · have h := h.2 c
    refine z_iconst (v := (1 : Int32)) C rfl d_Guest_divided_6 ?_
    refine z_goto (tgt := 11) C d_Guest_divided_7 rfl ?_
    exact z_sub [0, 1, 2] rfl (vj_Guest_divided_11 C a1 a2 a3 P G hr hnl S (1 : Int32) h)
theorem c_Guest_divided (l : Launch) (B : zK) (a1 : Int32) (a2 : Int32) (a3 : Int32) (S : zS) (P : zS → Int32 → Prop) (h : w_Guest_divided a1 a2 a3 S P) : Met l y_Guest_divided (Cond.code y_Guest_divided prog_5_method_26_code 9 (some FieldType.int) :: tT) (zRm 0 0) (zPc (wC B) [.int a1, .int a2, .int a3] S) (zQ (wC B) (zPi P)) 0 0 (wC B).2.2.2 :=
  z_met (by decide) (Nat.le_of_ble_eq_true rfl) (fun E C G hr _ hnl => v_Guest_divided C a1 a2 a3 P G hr hnl S h)
theorem q_Guest_divided : zQs y_Guest_divided prog_5_method_26_code 9 (some FieldType.int) 3 := ⟨tw_703, tw_80, tw_704, by decide +kernel⟩
def j_Guest_operate_64 (a1 : Int32) (P : zS → Int32 → Prop) (S : zS) (s1 : Int32) (s2 : Int32) : Prop :=
  w_Guest_assign s1 s2 S (fun S1 => P S1 (0 : Int32))
set_option maxRecDepth 20000 in
set_option maxHeartbeats 4000000 in
theorem vj_Guest_operate_64 {E : zE} {B : zK} (C : zC E (wC B) prog_5_method_23_code "HostBench$Guest" 2 44) (a1 : Int32) (P : zS → Int32 → Prop) (G : zGoal E (zQ (wC B) (zPi P)) (wC B)) (hr : zRt E (some .int)) (hnl : E.2.2.2.2.2.2.2.2.2.2.1 = 7) (S : zS) (s1 : Int32) (s2 : Int32) (h : j_Guest_operate_64 a1 P S s1 s2) : zV E (wC B) S 64 [] [.int s2, .int s1, .ref (ad B 3)] := by
  unfold j_Guest_operate_64 at h
  refine z_callVv (rest := []) C q_Guest_assign tw_678 (c_Guest_assign _ B s1 s2 S _ h) rc_Guest ⟨Nat.le_of_ble_eq_true rfl, Nat.le_of_ble_eq_true rfl⟩ rfl rfl (Nat.le_of_ble_eq_true rfl) d_Guest_operate_64 (fun S1 h => ?_)
  refine z_iconst (v := (0 : Int32)) C rfl d_Guest_operate_67 ?_
  exact z_ireturn C G hr h d_Guest_operate_68
def j_Guest_operate_102 (a1 : Int32) (P : zS → Int32 → Prop) (S : zS) (x2 : Int32) (x4 : Int32) (x5 : Int32) (x6 : Int32) : Prop :=
  w_Guest_computed x2 x4 x5 x6 S (fun S1 r2 => w_Guest_assign ((a1.toUInt32 >>> ((7 : Int32).toUInt32 &&& Int32.toUInt32 31)).toInt32) r2 S1 (fun S3 => P S3 (0 : Int32)))
set_option maxRecDepth 20000 in
set_option maxHeartbeats 4000000 in
theorem vj_Guest_operate_102 {E : zE} {B : zK} (C : zC E (wC B) prog_5_method_23_code "HostBench$Guest" 2 44) (a1 : Int32) (P : zS → Int32 → Prop) (G : zGoal E (zQ (wC B) (zPi P)) (wC B)) (hr : zRt E (some .int)) (hnl : E.2.2.2.2.2.2.2.2.2.2.1 = 7) (S : zS) (x2 : Int32) (x4 : Int32) (x5 : Int32) (x6 : Int32) (h : j_Guest_operate_102 a1 P S x2 x4 x5 x6) : zV E (wC B) S 102 [(0, .ref (ad B 3)), (1, .int a1), (2, .int x2), (4, .int x4), (5, .int x5), (6, .int x6)] [] := by
  unfold j_Guest_operate_102 at h
  refine z_aload_n C 0 rfl rfl d_Guest_operate_102 ?_
  refine z_iload_n C 1 rfl rfl d_Guest_operate_103 ?_
  refine z_bipush (v := (7 : Int32)) C rfl d_Guest_operate_104 ?_
  refine z_iushr C d_Guest_operate_106 ?_
  refine z_iload_n C 2 rfl rfl d_Guest_operate_107 ?_
  refine z_iload C 3 rfl d_Guest_operate_108 ?_
  refine z_iload C 4 rfl d_Guest_operate_110 ?_
  refine z_iload C 5 rfl d_Guest_operate_112 ?_
  refine z_callSi (rest := [.int ((a1.toUInt32 >>> ((7 : Int32).toUInt32 &&& Int32.toUInt32 31)).toInt32), .ref (ad B 3)]) C q_Guest_computed rfl tw_683 (c_Guest_computed _ B x2 x4 x5 x6 S _ h) ⟨Nat.le_of_ble_eq_true rfl, Nat.le_of_ble_eq_true rfl⟩ rfl rfl (Nat.le_of_ble_eq_true rfl) d_Guest_operate_114 (fun S1 r2 h => ?_)
  refine z_callVv (rest := []) C q_Guest_assign tw_678 (c_Guest_assign _ B ((a1.toUInt32 >>> ((7 : Int32).toUInt32 &&& Int32.toUInt32 31)).toInt32) r2 S1 _ h) rc_Guest ⟨Nat.le_of_ble_eq_true rfl, Nat.le_of_ble_eq_true rfl⟩ rfl rfl (Nat.le_of_ble_eq_true rfl) d_Guest_operate_117 (fun S3 h => ?_)
  refine z_iconst (v := (0 : Int32)) C rfl d_Guest_operate_120 ?_
  exact z_ireturn C G hr h d_Guest_operate_121
def j_Guest_operate_89 (a1 : Int32) (P : zS → Int32 → Prop) (S : zS) (x2 : Int32) (x3 : Int32) (x4 : Int32) (x5 : Int32) (s0 : Int32) : Prop :=
  (x3 = 0 → (j_Guest_operate_102 a1 P S x2 x4 x5 s0)) ∧ (¬ x3 = 0 → ((s0 = 0 → (P S (3 : Int32))) ∧ (¬ s0 = 0 → (j_Guest_operate_102 a1 P S x2 x4 x5 s0))))
set_option maxRecDepth 20000 in
set_option maxHeartbeats 4000000 in
theorem vj_Guest_operate_89 {E : zE} {B : zK} (C : zC E (wC B) prog_5_method_23_code "HostBench$Guest" 2 44) (a1 : Int32) (P : zS → Int32 → Prop) (G : zGoal E (zQ (wC B) (zPi P)) (wC B)) (hr : zRt E (some .int)) (hnl : E.2.2.2.2.2.2.2.2.2.2.1 = 7) (S : zS) (x2 : Int32) (x3 : Int32) (x4 : Int32) (x5 : Int32) (s0 : Int32) (h : j_Guest_operate_89 a1 P S x2 x3 x4 x5 s0) : zV E (wC B) S 89 [(0, .ref (ad B 3)), (1, .int a1), (2, .int x2), (3, .int x3), (4, .int x4), (5, .int x5)] [.int s0] := by
  unfold j_Guest_operate_89 at h
  refine z_istore (L' := [(6, .int s0), (0, .ref (ad B 3)), (1, .int a1), (2, .int x2), (3, .int x3), (4, .int x4), (5, .int x5)]) C hnl (by decide) rfl d_Guest_operate_89 ?_
  refine z_iload_n C 4 rfl rfl d_Guest_operate_91 ?_
  refine z_if_eq (tgt := 102) C d_Guest_operate_92 rfl (fun c => ?_) (fun c => ?_)
  · have h := h.1 c
    exact z_sub [1, 2, 3, 5, 6, 0] rfl (vj_Guest_operate_102 C a1 P G hr hnl S x2 x4 x5 s0 h)
  · have h := h.2 c
    refine z_iload C 0 rfl d_Guest_operate_95 ?_
    refine z_if_ne (tgt := 102) C d_Guest_operate_97 rfl (fun c => ?_) (fun c => ?_)
    · have h := h.2 c
      exact z_sub [1, 2, 3, 5, 6, 0] rfl (vj_Guest_operate_102 C a1 P G hr hnl S x2 x4 x5 s0 h)
    · have h := h.1 c
      refine z_iconst (v := (3 : Int32)) C rfl d_Guest_operate_100 ?_
      exact z_ireturn C G hr h d_Guest_operate_101
def j_Guest_operate_84 (a1 : Int32) (P : zS → Int32 → Prop) (S : zS) (x2 : Int32) (x3 : Int32) (x4 : Int32) (x5 : Int32) : Prop :=
  j_Guest_operate_89 a1 P S x2 x3 x4 x5 (1 : Int32)
set_option maxRecDepth 20000 in
set_option maxHeartbeats 4000000 in
theorem vj_Guest_operate_84 {E : zE} {B : zK} (C : zC E (wC B) prog_5_method_23_code "HostBench$Guest" 2 44) (a1 : Int32) (P : zS → Int32 → Prop) (G : zGoal E (zQ (wC B) (zPi P)) (wC B)) (hr : zRt E (some .int)) (hnl : E.2.2.2.2.2.2.2.2.2.2.1 = 7) (S : zS) (x2 : Int32) (x3 : Int32) (x4 : Int32) (x5 : Int32) (h : j_Guest_operate_84 a1 P S x2 x3 x4 x5) : zV E (wC B) S 84 [(0, .ref (ad B 3)), (1, .int a1), (2, .int x2), (3, .int x3), (4, .int x4), (5, .int x5)] [] := by
  unfold j_Guest_operate_84 at h
  refine z_iconst (v := (1 : Int32)) C rfl d_Guest_operate_84 ?_
  refine z_goto (tgt := 89) C d_Guest_operate_85 rfl ?_
  exact z_sub [0, 1, 2, 3, 4, 5] rfl (vj_Guest_operate_89 C a1 P G hr hnl S x2 x3 x4 x5 (1 : Int32) h)
def j_Guest_operate_88 (a1 : Int32) (P : zS → Int32 → Prop) (S : zS) (x2 : Int32) (x3 : Int32) (x4 : Int32) (x5 : Int32) : Prop :=
  j_Guest_operate_89 a1 P S x2 x3 x4 x5 (0 : Int32)
set_option maxRecDepth 20000 in
set_option maxHeartbeats 4000000 in
theorem vj_Guest_operate_88 {E : zE} {B : zK} (C : zC E (wC B) prog_5_method_23_code "HostBench$Guest" 2 44) (a1 : Int32) (P : zS → Int32 → Prop) (G : zGoal E (zQ (wC B) (zPi P)) (wC B)) (hr : zRt E (some .int)) (hnl : E.2.2.2.2.2.2.2.2.2.2.1 = 7) (S : zS) (x2 : Int32) (x3 : Int32) (x4 : Int32) (x5 : Int32) (h : j_Guest_operate_88 a1 P S x2 x3 x4 x5) : zV E (wC B) S 88 [(0, .ref (ad B 3)), (1, .int a1), (2, .int x2), (3, .int x3), (4, .int x4), (5, .int x5)] [] := by
  unfold j_Guest_operate_88 at h
  refine z_iconst (v := (0 : Int32)) C rfl d_Guest_operate_88 ?_
  exact z_sub [0, 1, 2, 3, 4, 5] rfl (vj_Guest_operate_89 C a1 P G hr hnl S x2 x3 x4 x5 (0 : Int32) h)
def w_Guest_operate (a1 : Int32) (S : zS) (P : zS → Int32 → Prop) : Prop :=
  w_Guest_funct3 a1 S (fun S1 r2 => ∀ v3 : Int32, v3 = ((a1.toUInt32 >>> ((25 : Int32).toUInt32 &&& Int32.toUInt32 31)).toInt32) → w_Guest_value ((a1.toUInt32 >>> ((15 : Int32).toUInt32 &&& Int32.toUInt32 31)).toInt32) S1 (fun S4 r5 => w_Guest_value ((a1.toUInt32 >>> ((20 : Int32).toUInt32 &&& Int32.toUInt32 31)).toInt32) S4 (fun S6 r7 => (v3 = (1 : Int32) → (((4 : Int32) ≤ r2 → (w_Guest_divided r2 r5 r7 S6 (fun S8 r9 => j_Guest_operate_64 a1 P S8 ((a1.toUInt32 >>> ((7 : Int32).toUInt32 &&& Int32.toUInt32 31)).toInt32) r9))) ∧ (¬ (4 : Int32) ≤ r2 → (w_Guest_multiplied r2 r5 r7 S6 (fun S10 r11 => j_Guest_operate_64 a1 P S10 ((a1.toUInt32 >>> ((7 : Int32).toUInt32 &&& Int32.toUInt32 31)).toInt32) r11))))) ∧ (¬ v3 = (1 : Int32) → ((v3 = (32 : Int32) → ((r2 = 0 → (j_Guest_operate_84 a1 P S6 r2 v3 r5 r7)) ∧ (¬ r2 = 0 → ((r2 = (5 : Int32) → (j_Guest_operate_84 a1 P S6 r2 v3 r5 r7)) ∧ (¬ r2 = (5 : Int32) → (j_Guest_operate_88 a1 P S6 r2 v3 r5 r7)))))) ∧ (¬ v3 = (32 : Int32) → (j_Guest_operate_88 a1 P S6 r2 v3 r5 r7)))))))
set_option maxRecDepth 20000 in
set_option maxHeartbeats 4000000 in
theorem v_Guest_operate {E : zE} {B : zK} (C : zC E (wC B) prog_5_method_23_code "HostBench$Guest" 2 44) (a1 : Int32) (P : zS → Int32 → Prop) (G : zGoal E (zQ (wC B) (zPi P)) (wC B)) (hr : zRt E (some .int)) (hnl : E.2.2.2.2.2.2.2.2.2.2.1 = 7) (S : zS) (h : w_Guest_operate a1 S P) : zV E (wC B) S 0 [(0, .ref (ad B 3)), (1, .int a1)] [] := by
  unfold w_Guest_operate at h
  refine z_iload_n C 1 rfl rfl d_Guest_operate_0 ?_
  refine z_callSi (rest := []) C q_Guest_funct3 rfl tw_662 (c_Guest_funct3 _ B a1 S _ h) ⟨Nat.le_of_ble_eq_true rfl, Nat.le_of_ble_eq_true rfl⟩ rfl rfl (Nat.le_of_ble_eq_true rfl) d_Guest_operate_1 (fun S1 r2 h => ?_)
  refine z_istore_n (L' := [(2, .int r2), (0, .ref (ad B 3)), (1, .int a1)]) C hnl rfl (by decide) rfl d_Guest_operate_4 ?_
  refine z_iload_n C 2 rfl rfl d_Guest_operate_5 ?_
  refine z_bipush (v := (25 : Int32)) C rfl d_Guest_operate_6 ?_
  refine z_iushr C d_Guest_operate_8 ?_
  refine z_topi (fun v3 ev3 => ?_)
  have h := h v3 ev3
  refine z_istore_n (L' := [(3, .int v3), (2, .int r2), (0, .ref (ad B 3)), (1, .int a1)]) C hnl rfl (by decide) rfl d_Guest_operate_9 ?_
  refine z_aload_n C 2 rfl rfl d_Guest_operate_10 ?_
  refine z_iload_n C 3 rfl rfl d_Guest_operate_11 ?_
  refine z_bipush (v := (15 : Int32)) C rfl d_Guest_operate_12 ?_
  refine z_iushr C d_Guest_operate_14 ?_
  refine z_callVi (rest := []) C q_Guest_value tw_665 (c_Guest_value _ B ((a1.toUInt32 >>> ((15 : Int32).toUInt32 &&& Int32.toUInt32 31)).toInt32) S1 _ h) rc_Guest ⟨Nat.le_of_ble_eq_true rfl, Nat.le_of_ble_eq_true rfl⟩ rfl rfl (Nat.le_of_ble_eq_true rfl) d_Guest_operate_15 (fun S4 r5 h => ?_)
  refine z_istore (L' := [(4, .int r5), (3, .int v3), (2, .int r2), (0, .ref (ad B 3)), (1, .int a1)]) C hnl (by decide) rfl d_Guest_operate_18 ?_
  refine z_aload_n C 3 rfl rfl d_Guest_operate_20 ?_
  refine z_iload_n C 4 rfl rfl d_Guest_operate_21 ?_
  refine z_bipush (v := (20 : Int32)) C rfl d_Guest_operate_22 ?_
  refine z_iushr C d_Guest_operate_24 ?_
  refine z_callVi (rest := []) C q_Guest_value tw_665 (c_Guest_value _ B ((a1.toUInt32 >>> ((20 : Int32).toUInt32 &&& Int32.toUInt32 31)).toInt32) S4 _ h) rc_Guest ⟨Nat.le_of_ble_eq_true rfl, Nat.le_of_ble_eq_true rfl⟩ rfl rfl (Nat.le_of_ble_eq_true rfl) d_Guest_operate_25 (fun S6 r7 h => ?_)
  refine z_istore (L' := [(5, .int r7), (4, .int r5), (3, .int v3), (2, .int r2), (0, .ref (ad B 3)), (1, .int a1)]) C hnl (by decide) rfl d_Guest_operate_28 ?_
  refine z_iload_n C 2 rfl rfl d_Guest_operate_30 ?_
  refine z_iconst (v := (1 : Int32)) C rfl d_Guest_operate_31 ?_
  refine z_icmp_ne (tgt := 69) C d_Guest_operate_32 rfl (fun c => ?_) (fun c => ?_)
  · have h := h.2 c
    refine z_iload_n C 2 rfl rfl d_Guest_operate_69 ?_
    refine z_bipush (v := (32 : Int32)) C rfl d_Guest_operate_70 ?_
    refine z_icmp_ne (tgt := 88) C d_Guest_operate_72 rfl (fun c => ?_) (fun c => ?_)
    · have h := h.2 c
      exact z_sub [4, 5, 3, 2, 1, 0] rfl (vj_Guest_operate_88 C a1 P G hr hnl S6 r2 v3 r5 r7 h)
    · have h := h.1 c
      refine z_iload_n C 3 rfl rfl d_Guest_operate_75 ?_
      refine z_if_eq (tgt := 84) C d_Guest_operate_76 rfl (fun c => ?_) (fun c => ?_)
      · have h := h.1 c
        exact z_sub [4, 5, 3, 2, 1, 0] rfl (vj_Guest_operate_84 C a1 P G hr hnl S6 r2 v3 r5 r7 h)
      · have h := h.2 c
        refine z_iload_n C 3 rfl rfl d_Guest_operate_79 ?_
        refine z_iconst (v := (5 : Int32)) C rfl d_Guest_operate_80 ?_
        refine z_icmp_ne (tgt := 88) C d_Guest_operate_81 rfl (fun c => ?_) (fun c => ?_)
        · have h := h.2 c
          exact z_sub [4, 5, 3, 2, 1, 0] rfl (vj_Guest_operate_88 C a1 P G hr hnl S6 r2 v3 r5 r7 h)
        · have h := h.1 c
          exact z_sub [4, 5, 3, 2, 1, 0] rfl (vj_Guest_operate_84 C a1 P G hr hnl S6 r2 v3 r5 r7 h)
  · have h := h.1 c
    refine z_aload_n C 4 rfl rfl d_Guest_operate_35 ?_
    refine z_iload_n C 5 rfl rfl d_Guest_operate_36 ?_
    refine z_bipush (v := (7 : Int32)) C rfl d_Guest_operate_37 ?_
    refine z_iushr C d_Guest_operate_39 ?_
    refine z_iload_n C 3 rfl rfl d_Guest_operate_40 ?_
    refine z_iconst (v := (4 : Int32)) C rfl d_Guest_operate_41 ?_
    refine z_icmp_ge (tgt := 56) C d_Guest_operate_42 rfl (fun c => ?_) (fun c => ?_)
    · have h := h.1 c
      refine z_iload_n C 3 rfl rfl d_Guest_operate_56 ?_
      refine z_iload C 1 rfl d_Guest_operate_57 ?_
      refine z_iload C 0 rfl d_Guest_operate_59 ?_
      refine z_callSi (rest := [.int ((a1.toUInt32 >>> ((7 : Int32).toUInt32 &&& Int32.toUInt32 31)).toInt32), .ref (ad B 3)]) C q_Guest_divided rfl tw_702 (c_Guest_divided _ B r2 r5 r7 S6 _ h) ⟨Nat.le_of_ble_eq_true rfl, Nat.le_of_ble_eq_true rfl⟩ rfl rfl (Nat.le_of_ble_eq_true rfl) d_Guest_operate_61 (fun S8 r9 h => ?_)
      exact z_sub [] rfl (vj_Guest_operate_64 C a1 P G hr hnl S8 ((a1.toUInt32 >>> ((7 : Int32).toUInt32 &&& Int32.toUInt32 31)).toInt32) r9 h)
    · have h := h.2 c
      refine z_iload_n C 3 rfl rfl d_Guest_operate_45 ?_
      refine z_iload C 1 rfl d_Guest_operate_46 ?_
      refine z_iload C 0 rfl d_Guest_operate_48 ?_
      refine z_callSi (rest := [.int ((a1.toUInt32 >>> ((7 : Int32).toUInt32 &&& Int32.toUInt32 31)).toInt32), .ref (ad B 3)]) C q_Guest_multiplied rfl tw_699 (c_Guest_multiplied _ B r2 r5 r7 S6 _ h) ⟨Nat.le_of_ble_eq_true rfl, Nat.le_of_ble_eq_true rfl⟩ rfl rfl (Nat.le_of_ble_eq_true rfl) d_Guest_operate_50 (fun S10 r11 h => ?_)
      refine z_goto (tgt := 64) C d_Guest_operate_53 rfl ?_
      exact z_sub [] rfl (vj_Guest_operate_64 C a1 P G hr hnl S10 ((a1.toUInt32 >>> ((7 : Int32).toUInt32 &&& Int32.toUInt32 31)).toInt32) r11 h)
theorem c_Guest_operate (l : Launch) (B : zK) (a1 : Int32) (S : zS) (P : zS → Int32 → Prop) (h : w_Guest_operate a1 S P) : Met l y_Guest_operate (Cond.code y_Guest_operate prog_5_method_23_code 7 (some FieldType.int) :: tT) (zRm 2 44) (zPc (wC B) [.ref (ad B 3), .int a1] S) (zQ (wC B) (zPi P)) 0 0 (wC B).2.2.2 :=
  z_met (by decide) (Nat.le_of_ble_eq_true rfl) (fun E C G hr _ hnl => v_Guest_operate C a1 P G hr hnl S h)
theorem q_Guest_operate : zQw y_Guest_operate prog_5_method_23_code 7 (some FieldType.int) 1 := ⟨tw_697, tw_8, tw_80, tw_698, by decide +kernel⟩
def w_Guest_isTaken (a1 : Int32) (a2 : Int32) (a3 : Int32) (S : zS) (P : zS → Int32 → Prop) : Prop :=
  (a1 = (0 : Int32) → ((a2 = a3 → (P S (1 : Int32))) ∧ (¬ a2 = a3 → (P S (0 : Int32))))) ∧ (¬ a1 = (0 : Int32) → ((a1 = (1 : Int32) → ((a2 = a3 → (P S (0 : Int32))) ∧ (¬ a2 = a3 → (P S (1 : Int32))))) ∧ (¬ a1 = (1 : Int32) → ((a1 = (4 : Int32) → ((a3 ≤ a2 → (P S (0 : Int32))) ∧ (¬ a3 ≤ a2 → (P S (1 : Int32))))) ∧ (¬ a1 = (4 : Int32) → ((a1 = (5 : Int32) → ((a2 < a3 → (P S (0 : Int32))) ∧ (¬ a2 < a3 → (P S (1 : Int32))))) ∧ (¬ a1 = (5 : Int32) → ((a1 = (6 : Int32) → (w_Guest_isLessWithoutSign a2 a3 S (fun S3 r4 => narrow .boolean (.int r4) = .int r4 ∧ P S3 r4))) ∧ (¬ a1 = (6 : Int32) → (w_Guest_isLessWithoutSign a2 a3 S (fun S1 r2 => (r2 = 0 → (P S1 (1 : Int32))) ∧ (¬ r2 = 0 → (P S1 (0 : Int32))))))))))))))
set_option maxRecDepth 20000 in
set_option maxHeartbeats 4000000 in
theorem v_Guest_isTaken {E : zE} {B : zK} (C : zC E (wC B) prog_5_method_17_code "HostBench$Guest" 1 21) (a1 : Int32) (a2 : Int32) (a3 : Int32) (P : zS → Int32 → Prop) (G : zGoal E (zQ (wC B) (zPi P)) (wC B)) (hr : zRt E (some .boolean)) (hnl : E.2.2.2.2.2.2.2.2.2.2.1 = 3) (S : zS) (h : w_Guest_isTaken a1 a2 a3 S P) : zV E (wC B) S 0 [(0, .int a1), (1, .int a2), (2, .int a3)] [] := by
  unfold w_Guest_isTaken at h
  refine z_iload_n C 0 rfl rfl d_Guest_isTaken_0 ?_
  by_cases c0 : a1 = (0 : Int32)
  · have h := h.1 c0
    refine z_tableIn (off := 43) (tgt := 44) C d_Guest_isTaken_1 c0 (by decide) rfl rfl ?_
    refine z_iload_n C 1 rfl rfl d_Guest_isTaken_44 ?_
    refine z_iload_n C 2 rfl rfl d_Guest_isTaken_45 ?_
    refine z_icmp_ne (tgt := 53) C d_Guest_isTaken_46 rfl (fun c => ?_) (fun c => ?_)
    · have h := h.2 c
      refine z_iconst (v := (0 : Int32)) C rfl d_Guest_isTaken_53 ?_
      exact z_zreturn C G hr rfl h d_Guest_isTaken_54
    · have h := h.1 c
      refine z_iconst (v := (1 : Int32)) C rfl d_Guest_isTaken_49 ?_
      refine z_goto (tgt := 54) C d_Guest_isTaken_50 rfl ?_
      exact z_zreturn C G hr rfl h d_Guest_isTaken_54
  · have h := h.2 c0
    by_cases c1 : a1 = (1 : Int32)
    · have h := h.1 c1
      refine z_tableIn (off := 54) (tgt := 55) C d_Guest_isTaken_1 c1 (by decide) rfl rfl ?_
      refine z_iload_n C 1 rfl rfl d_Guest_isTaken_55 ?_
      refine z_iload_n C 2 rfl rfl d_Guest_isTaken_56 ?_
      refine z_icmp_eq (tgt := 64) C d_Guest_isTaken_57 rfl (fun c => ?_) (fun c => ?_)
      · have h := h.1 c
        refine z_iconst (v := (0 : Int32)) C rfl d_Guest_isTaken_64 ?_
        exact z_zreturn C G hr rfl h d_Guest_isTaken_65
      · have h := h.2 c
        refine z_iconst (v := (1 : Int32)) C rfl d_Guest_isTaken_60 ?_
        refine z_goto (tgt := 65) C d_Guest_isTaken_61 rfl ?_
        exact z_zreturn C G hr rfl h d_Guest_isTaken_65
    · have h := h.2 c1
      by_cases c2 : a1 = (4 : Int32)
      · have h := h.1 c2
        refine z_tableIn (off := 65) (tgt := 66) C d_Guest_isTaken_1 c2 (by decide) rfl rfl ?_
        refine z_iload_n C 1 rfl rfl d_Guest_isTaken_66 ?_
        refine z_iload_n C 2 rfl rfl d_Guest_isTaken_67 ?_
        refine z_icmp_ge (tgt := 75) C d_Guest_isTaken_68 rfl (fun c => ?_) (fun c => ?_)
        · have h := h.1 c
          refine z_iconst (v := (0 : Int32)) C rfl d_Guest_isTaken_75 ?_
          exact z_zreturn C G hr rfl h d_Guest_isTaken_76
        · have h := h.2 c
          refine z_iconst (v := (1 : Int32)) C rfl d_Guest_isTaken_71 ?_
          refine z_goto (tgt := 76) C d_Guest_isTaken_72 rfl ?_
          exact z_zreturn C G hr rfl h d_Guest_isTaken_76
      · have h := h.2 c2
        by_cases c3 : a1 = (5 : Int32)
        · have h := h.1 c3
          refine z_tableIn (off := 76) (tgt := 77) C d_Guest_isTaken_1 c3 (by decide) rfl rfl ?_
          refine z_iload_n C 1 rfl rfl d_Guest_isTaken_77 ?_
          refine z_iload_n C 2 rfl rfl d_Guest_isTaken_78 ?_
          refine z_icmp_lt (tgt := 86) C d_Guest_isTaken_79 rfl (fun c => ?_) (fun c => ?_)
          · have h := h.1 c
            refine z_iconst (v := (0 : Int32)) C rfl d_Guest_isTaken_86 ?_
            exact z_zreturn C G hr rfl h d_Guest_isTaken_87
          · have h := h.2 c
            refine z_iconst (v := (1 : Int32)) C rfl d_Guest_isTaken_82 ?_
            refine z_goto (tgt := 87) C d_Guest_isTaken_83 rfl ?_
            exact z_zreturn C G hr rfl h d_Guest_isTaken_87
        · have h := h.2 c3
          by_cases c4 : a1 = (6 : Int32)
          · have h := h.1 c4
            refine z_tableIn (off := 87) (tgt := 88) C d_Guest_isTaken_1 c4 (by decide) rfl rfl ?_
            refine z_iload_n C 1 rfl rfl d_Guest_isTaken_88 ?_
            refine z_iload_n C 2 rfl rfl d_Guest_isTaken_89 ?_
            refine z_callSi (rest := []) C q_Guest_isLessWithoutSign rfl tw_686 (c_Guest_isLessWithoutSign _ B a2 a3 S _ h) ⟨Nat.le_of_ble_eq_true rfl, Nat.le_of_ble_eq_true rfl⟩ rfl rfl (Nat.le_of_ble_eq_true rfl) d_Guest_isTaken_90 (fun S3 r4 h => ?_)
            exact z_zreturn C G hr h.1 h.2 d_Guest_isTaken_93
          · have h := h.2 c4
            by_cases m2 : a1 = (2 : Int32)
            · refine z_tableIn (off := 93) (tgt := 94) C d_Guest_isTaken_1 m2 (by decide) rfl rfl ?_
              refine z_iload_n C 1 rfl rfl d_Guest_isTaken_94 ?_
              refine z_iload_n C 2 rfl rfl d_Guest_isTaken_95 ?_
              refine z_callSi (rest := []) C q_Guest_isLessWithoutSign rfl tw_686 (c_Guest_isLessWithoutSign _ B a2 a3 S _ h) ⟨Nat.le_of_ble_eq_true rfl, Nat.le_of_ble_eq_true rfl⟩ rfl rfl (Nat.le_of_ble_eq_true rfl) d_Guest_isTaken_96 (fun S1 r2 h => ?_)
              refine z_if_ne (tgt := 106) C d_Guest_isTaken_99 rfl (fun c => ?_) (fun c => ?_)
              · have h := h.2 c
                refine z_iconst (v := (0 : Int32)) C rfl d_Guest_isTaken_106 ?_
                exact z_zreturn C G hr rfl h d_Guest_isTaken_107
              · have h := h.1 c
                refine z_iconst (v := (1 : Int32)) C rfl d_Guest_isTaken_102 ?_
                refine z_goto (tgt := 107) C d_Guest_isTaken_103 rfl ?_
                exact z_zreturn C G hr rfl h d_Guest_isTaken_107
            by_cases m3 : a1 = (3 : Int32)
            · refine z_tableIn (off := 93) (tgt := 94) C d_Guest_isTaken_1 m3 (by decide) rfl rfl ?_
              refine z_iload_n C 1 rfl rfl d_Guest_isTaken_94 ?_
              refine z_iload_n C 2 rfl rfl d_Guest_isTaken_95 ?_
              refine z_callSi (rest := []) C q_Guest_isLessWithoutSign rfl tw_686 (c_Guest_isLessWithoutSign _ B a2 a3 S _ h) ⟨Nat.le_of_ble_eq_true rfl, Nat.le_of_ble_eq_true rfl⟩ rfl rfl (Nat.le_of_ble_eq_true rfl) d_Guest_isTaken_96 (fun S1 r2 h => ?_)
              refine z_if_ne (tgt := 106) C d_Guest_isTaken_99 rfl (fun c => ?_) (fun c => ?_)
              · have h := h.2 c
                refine z_iconst (v := (0 : Int32)) C rfl d_Guest_isTaken_106 ?_
                exact z_zreturn C G hr rfl h d_Guest_isTaken_107
              · have h := h.1 c
                refine z_iconst (v := (1 : Int32)) C rfl d_Guest_isTaken_102 ?_
                refine z_goto (tgt := 107) C d_Guest_isTaken_103 rfl ?_
                exact z_zreturn C G hr rfl h d_Guest_isTaken_107
            refine z_tableOut (tgt := 94) C d_Guest_isTaken_1 (by have n0 := lv_neT (a := 0) c0 rfl; have n1 := lv_neT (a := 1) c1 rfl; have n2 := lv_neT (a := 4) c2 rfl; have n3 := lv_neT (a := 5) c3 rfl; have n4 := lv_neT (a := 6) c4 rfl; have o2 := lv_neT (a := 2) m2 rfl; have o3 := lv_neT (a := 3) m3 rfl; omega) rfl ?_
            refine z_iload_n C 1 rfl rfl d_Guest_isTaken_94 ?_
            refine z_iload_n C 2 rfl rfl d_Guest_isTaken_95 ?_
            refine z_callSi (rest := []) C q_Guest_isLessWithoutSign rfl tw_686 (c_Guest_isLessWithoutSign _ B a2 a3 S _ h) ⟨Nat.le_of_ble_eq_true rfl, Nat.le_of_ble_eq_true rfl⟩ rfl rfl (Nat.le_of_ble_eq_true rfl) d_Guest_isTaken_96 (fun S1 r2 h => ?_)
            refine z_if_ne (tgt := 106) C d_Guest_isTaken_99 rfl (fun c => ?_) (fun c => ?_)
            · have h := h.2 c
              refine z_iconst (v := (0 : Int32)) C rfl d_Guest_isTaken_106 ?_
              exact z_zreturn C G hr rfl h d_Guest_isTaken_107
            · have h := h.1 c
              refine z_iconst (v := (1 : Int32)) C rfl d_Guest_isTaken_102 ?_
              refine z_goto (tgt := 107) C d_Guest_isTaken_103 rfl ?_
              exact z_zreturn C G hr rfl h d_Guest_isTaken_107
theorem c_Guest_isTaken (l : Launch) (B : zK) (a1 : Int32) (a2 : Int32) (a3 : Int32) (S : zS) (P : zS → Int32 → Prop) (h : w_Guest_isTaken a1 a2 a3 S P) : Met l y_Guest_isTaken (Cond.code y_Guest_isTaken prog_5_method_17_code 3 (some FieldType.boolean) :: tT) (zRm 1 21) (zPc (wC B) [.int a1, .int a2, .int a3] S) (zQ (wC B) (zPi P)) 0 0 (wC B).2.2.2 :=
  z_met (by decide) (Nat.le_of_ble_eq_true rfl) (fun E C G hr _ hnl => v_Guest_isTaken C a1 a2 a3 P G hr hnl S h)
theorem q_Guest_isTaken : zQs y_Guest_isTaken prog_5_method_17_code 3 (some FieldType.boolean) 3 := ⟨tw_710, tw_80, tw_711, by decide +kernel⟩
def w_Guest_branchOffset (a1 : Int32) (S : zS) (P : zS → Int32 → Prop) : Prop :=
  P S (((((a1 >>> ((31 : Int32) &&& 31)) <<< ((12 : Int32) &&& 31)) ||| ((a1 &&& (128 : Int32)) <<< ((4 : Int32) &&& 31))) ||| (((a1.toUInt32 >>> ((20 : Int32).toUInt32 &&& Int32.toUInt32 31)).toInt32) &&& (2016 : Int32))) ||| (((a1.toUInt32 >>> ((7 : Int32).toUInt32 &&& Int32.toUInt32 31)).toInt32) &&& (30 : Int32)))
set_option maxRecDepth 20000 in
set_option maxHeartbeats 4000000 in
theorem v_Guest_branchOffset {E : zE} {B : zK} (C : zC E (wC B) prog_5_method_13_code "HostBench$Guest" 0 0) (a1 : Int32) (P : zS → Int32 → Prop) (G : zGoal E (zQ (wC B) (zPi P)) (wC B)) (hr : zRt E (some .int)) (hnl : E.2.2.2.2.2.2.2.2.2.2.1 = 1) (S : zS) (h : w_Guest_branchOffset a1 S P) : zV E (wC B) S 0 [(0, .int a1)] [] := by
  unfold w_Guest_branchOffset at h
  refine z_iload_n C 0 rfl rfl d_Guest_branchOffset_0 ?_
  refine z_bipush (v := (31 : Int32)) C rfl d_Guest_branchOffset_1 ?_
  refine z_ishr C d_Guest_branchOffset_3 ?_
  refine z_bipush (v := (12 : Int32)) C rfl d_Guest_branchOffset_4 ?_
  refine z_ishl C d_Guest_branchOffset_6 ?_
  refine z_iload_n C 0 rfl rfl d_Guest_branchOffset_7 ?_
  refine z_sipush (v := (128 : Int32)) C rfl d_Guest_branchOffset_8 ?_
  refine z_iand C d_Guest_branchOffset_11 ?_
  refine z_iconst (v := (4 : Int32)) C rfl d_Guest_branchOffset_12 ?_
  refine z_ishl C d_Guest_branchOffset_13 ?_
  refine z_ior C d_Guest_branchOffset_14 ?_
  refine z_iload_n C 0 rfl rfl d_Guest_branchOffset_15 ?_
  refine z_bipush (v := (20 : Int32)) C rfl d_Guest_branchOffset_16 ?_
  refine z_iushr C d_Guest_branchOffset_18 ?_
  refine z_sipush (v := (2016 : Int32)) C rfl d_Guest_branchOffset_19 ?_
  refine z_iand C d_Guest_branchOffset_22 ?_
  refine z_ior C d_Guest_branchOffset_23 ?_
  refine z_iload_n C 0 rfl rfl d_Guest_branchOffset_24 ?_
  refine z_bipush (v := (7 : Int32)) C rfl d_Guest_branchOffset_25 ?_
  refine z_iushr C d_Guest_branchOffset_27 ?_
  refine z_bipush (v := (30 : Int32)) C rfl d_Guest_branchOffset_28 ?_
  refine z_iand C d_Guest_branchOffset_30 ?_
  refine z_ior C d_Guest_branchOffset_31 ?_
  exact z_ireturn C G hr h d_Guest_branchOffset_32
theorem c_Guest_branchOffset (l : Launch) (B : zK) (a1 : Int32) (S : zS) (P : zS → Int32 → Prop) (h : w_Guest_branchOffset a1 S P) : Met l y_Guest_branchOffset (Cond.code y_Guest_branchOffset prog_5_method_13_code 1 (some FieldType.int) :: tT) (zRm 0 0) (zPc (wC B) [.int a1] S) (zQ (wC B) (zPi P)) 0 0 (wC B).2.2.2 :=
  z_met (by decide) (Nat.le_of_ble_eq_true rfl) (fun E C G hr _ hnl => v_Guest_branchOffset C a1 P G hr hnl S h)
theorem q_Guest_branchOffset : zQs y_Guest_branchOffset prog_5_method_13_code 1 (some FieldType.int) 1 := ⟨tw_713, tw_80, tw_714, by decide +kernel⟩
def w_Guest_branch (a1 : Int32) (S : zS) (P : zS → Int32 → Prop) : Prop :=
  w_Guest_funct3 a1 S (fun S1 r2 => (r2 = (2 : Int32) → (P S1 (3 : Int32))) ∧ (¬ r2 = (2 : Int32) → ((r2 = (3 : Int32) → (P S1 (3 : Int32))) ∧ (¬ r2 = (3 : Int32) → (w_Guest_value ((a1.toUInt32 >>> ((15 : Int32).toUInt32 &&& Int32.toUInt32 31)).toInt32) S1 (fun S3 r4 => w_Guest_value ((a1.toUInt32 >>> ((20 : Int32).toUInt32 &&& Int32.toUInt32 31)).toInt32) S3 (fun S5 r6 => w_Guest_isTaken r2 r4 r6 S5 (fun S7 r8 => (r8 = 0 → (P S7 (0 : Int32))) ∧ (¬ r8 = 0 → (w_Guest_branchOffset a1 S7 (fun S9 r10 => ∀ v11 : Int32, v11 = ((gM S7 0 0) + r10) → ((v11 &&& (3 : Int32)) = 0 → (∀ S12 : zS, S12 = sM S9 0 1 v11 → P S12 (0 : Int32))) ∧ (¬ (v11 &&& (3 : Int32)) = 0 → (P S9 (1 : Int32))))))))))))))
set_option maxRecDepth 20000 in
set_option maxHeartbeats 4000000 in
theorem v_Guest_branch {E : zE} {B : zK} (C : zC E (wC B) prog_5_method_16_code "HostBench$Guest" 2 43) (a1 : Int32) (P : zS → Int32 → Prop) (G : zGoal E (zQ (wC B) (zPi P)) (wC B)) (hr : zRt E (some .int)) (hnl : E.2.2.2.2.2.2.2.2.2.2.1 = 4) (S : zS) (h : w_Guest_branch a1 S P) : zV E (wC B) S 0 [(0, .ref (ad B 3)), (1, .int a1)] [] := by
  unfold w_Guest_branch at h
  refine z_iload_n C 1 rfl rfl d_Guest_branch_0 ?_
  refine z_callSi (rest := []) C q_Guest_funct3 rfl tw_662 (c_Guest_funct3 _ B a1 S _ h) ⟨Nat.le_of_ble_eq_true rfl, Nat.le_of_ble_eq_true rfl⟩ rfl rfl (Nat.le_of_ble_eq_true rfl) d_Guest_branch_1 (fun S1 r2 h => ?_)
  refine z_istore_n (L' := [(2, .int r2), (0, .ref (ad B 3)), (1, .int a1)]) C hnl rfl (by decide) rfl d_Guest_branch_4 ?_
  refine z_iload_n C 0 rfl rfl d_Guest_branch_5 ?_
  refine z_iconst (v := (2 : Int32)) C rfl d_Guest_branch_6 ?_
  refine z_icmp_eq (tgt := 15) C d_Guest_branch_7 rfl (fun c => ?_) (fun c => ?_)
  · have h := h.1 c
    refine z_iconst (v := (3 : Int32)) C rfl d_Guest_branch_15 ?_
    exact z_ireturn C G hr h d_Guest_branch_16
  · have h := h.2 c
    refine z_iload_n C 0 rfl rfl d_Guest_branch_10 ?_
    refine z_iconst (v := (3 : Int32)) C rfl d_Guest_branch_11 ?_
    refine z_icmp_ne (tgt := 17) C d_Guest_branch_12 rfl (fun c => ?_) (fun c => ?_)
    · have h := h.2 c
      refine z_iload_n C 0 rfl rfl d_Guest_branch_17 ?_
      refine z_aload_n C 1 rfl rfl d_Guest_branch_18 ?_
      refine z_iload_n C 2 rfl rfl d_Guest_branch_19 ?_
      refine z_bipush (v := (15 : Int32)) C rfl d_Guest_branch_20 ?_
      refine z_iushr C d_Guest_branch_22 ?_
      refine z_callVi (rest := [.int r2]) C q_Guest_value tw_665 (c_Guest_value _ B ((a1.toUInt32 >>> ((15 : Int32).toUInt32 &&& Int32.toUInt32 31)).toInt32) S1 _ h) rc_Guest ⟨Nat.le_of_ble_eq_true rfl, Nat.le_of_ble_eq_true rfl⟩ rfl rfl (Nat.le_of_ble_eq_true rfl) d_Guest_branch_23 (fun S3 r4 h => ?_)
      refine z_aload_n C 1 rfl rfl d_Guest_branch_26 ?_
      refine z_iload_n C 2 rfl rfl d_Guest_branch_27 ?_
      refine z_bipush (v := (20 : Int32)) C rfl d_Guest_branch_28 ?_
      refine z_iushr C d_Guest_branch_30 ?_
      refine z_callVi (rest := [.int r4, .int r2]) C q_Guest_value tw_665 (c_Guest_value _ B ((a1.toUInt32 >>> ((20 : Int32).toUInt32 &&& Int32.toUInt32 31)).toInt32) S3 _ h) rc_Guest ⟨Nat.le_of_ble_eq_true rfl, Nat.le_of_ble_eq_true rfl⟩ rfl rfl (Nat.le_of_ble_eq_true rfl) d_Guest_branch_31 (fun S5 r6 h => ?_)
      refine z_callSi (rest := []) C q_Guest_isTaken rfl tw_709 (c_Guest_isTaken _ B r2 r4 r6 S5 _ h) ⟨Nat.le_of_ble_eq_true rfl, Nat.le_of_ble_eq_true rfl⟩ rfl rfl (Nat.le_of_ble_eq_true rfl) d_Guest_branch_34 (fun S7 r8 h => ?_)
      refine z_if_ne (tgt := 42) C d_Guest_branch_37 rfl (fun c => ?_) (fun c => ?_)
      · have h := h.2 c
        refine z_aload_n C 1 rfl rfl d_Guest_branch_42 ?_
        refine gf_Guest_pc C (Or.inl tw_148) d_Guest_branch_43 ?_
        refine z_iload_n C 2 rfl rfl d_Guest_branch_46 ?_
        refine z_callSi (rest := [.int (gM S7 0 0)]) C q_Guest_branchOffset rfl tw_712 (c_Guest_branchOffset _ B a1 S7 _ h) ⟨Nat.le_of_ble_eq_true rfl, Nat.le_of_ble_eq_true rfl⟩ rfl rfl (Nat.le_of_ble_eq_true rfl) d_Guest_branch_47 (fun S9 r10 h => ?_)
        refine z_iadd C d_Guest_branch_50 ?_
        refine z_topi (fun v11 ev11 => ?_)
        have h := h v11 ev11
        refine z_istore_n (L' := [(3, .int v11), (2, .int r2), (0, .ref (ad B 3)), (1, .int a1)]) C hnl rfl (by decide) rfl d_Guest_branch_51 ?_
        refine z_iload_n C 0 rfl rfl d_Guest_branch_52 ?_
        refine z_iconst (v := (3 : Int32)) C rfl d_Guest_branch_53 ?_
        refine z_iand C d_Guest_branch_54 ?_
        refine z_if_eq (tgt := 60) C d_Guest_branch_55 rfl (fun c => ?_) (fun c => ?_)
        · have h := h.1 c
          refine z_aload_n C 2 rfl rfl d_Guest_branch_60 ?_
          refine z_iload_n C 0 rfl rfl d_Guest_branch_61 ?_
          refine pf_Guest_next C (Or.inl tw_150) d_Guest_branch_62 ?_
          refine z_nS (fun S12 eS12 => ?_)
          have h := h S12 eS12
          refine z_iconst (v := (0 : Int32)) C rfl d_Guest_branch_65 ?_
          exact z_ireturn C G hr h d_Guest_branch_66
        · have h := h.2 c
          refine z_iconst (v := (1 : Int32)) C rfl d_Guest_branch_58 ?_
          exact z_ireturn C G hr h d_Guest_branch_59
      · have h := h.1 c
        refine z_iconst (v := (0 : Int32)) C rfl d_Guest_branch_40 ?_
        exact z_ireturn C G hr h d_Guest_branch_41
    · have h := h.1 c
      refine z_iconst (v := (3 : Int32)) C rfl d_Guest_branch_15 ?_
      exact z_ireturn C G hr h d_Guest_branch_16
theorem c_Guest_branch (l : Launch) (B : zK) (a1 : Int32) (S : zS) (P : zS → Int32 → Prop) (h : w_Guest_branch a1 S P) : Met l y_Guest_branch (Cond.code y_Guest_branch prog_5_method_16_code 4 (some FieldType.int) :: tT) (zRm 2 43) (zPc (wC B) [.ref (ad B 3), .int a1] S) (zQ (wC B) (zPi P)) 0 0 (wC B).2.2.2 :=
  z_met (by decide) (Nat.le_of_ble_eq_true rfl) (fun E C G hr _ hnl => v_Guest_branch C a1 P G hr hnl S h)
theorem q_Guest_branch : zQw y_Guest_branch prog_5_method_16_code 4 (some FieldType.int) 1 := ⟨tw_707, tw_9, tw_80, tw_708, by decide +kernel⟩
def w_Guest_jump (a1 : Int32) (a2 : Int32) (S : zS) (P : zS → Int32 → Prop) : Prop :=
  ((a2 &&& (3 : Int32)) = 0 → (w_Guest_assign ((a1.toUInt32 >>> ((7 : Int32).toUInt32 &&& Int32.toUInt32 31)).toInt32) ((gM S 0 0) + (4 : Int32)) S (fun S1 => ∀ S2 : zS, S2 = sM S1 0 1 a2 → P S2 (0 : Int32)))) ∧ (¬ (a2 &&& (3 : Int32)) = 0 → (P S (1 : Int32)))
set_option maxRecDepth 20000 in
set_option maxHeartbeats 4000000 in
theorem v_Guest_jump {E : zE} {B : zK} (C : zC E (wC B) prog_5_method_15_code "HostBench$Guest" 1 22) (a1 : Int32) (a2 : Int32) (P : zS → Int32 → Prop) (G : zGoal E (zQ (wC B) (zPi P)) (wC B)) (hr : zRt E (some .int)) (hnl : E.2.2.2.2.2.2.2.2.2.2.1 = 3) (S : zS) (h : w_Guest_jump a1 a2 S P) : zV E (wC B) S 0 [(0, .ref (ad B 3)), (1, .int a1), (2, .int a2)] [] := by
  unfold w_Guest_jump at h
  refine z_iload_n C 2 rfl rfl d_Guest_jump_0 ?_
  refine z_iconst (v := (3 : Int32)) C rfl d_Guest_jump_1 ?_
  refine z_iand C d_Guest_jump_2 ?_
  refine z_if_eq (tgt := 8) C d_Guest_jump_3 rfl (fun c => ?_) (fun c => ?_)
  · have h := h.1 c
    refine z_aload_n C 0 rfl rfl d_Guest_jump_8 ?_
    refine z_iload_n C 1 rfl rfl d_Guest_jump_9 ?_
    refine z_bipush (v := (7 : Int32)) C rfl d_Guest_jump_10 ?_
    refine z_iushr C d_Guest_jump_12 ?_
    refine z_aload_n C 0 rfl rfl d_Guest_jump_13 ?_
    refine gf_Guest_pc C (Or.inl tw_148) d_Guest_jump_14 ?_
    refine z_iconst (v := (4 : Int32)) C rfl d_Guest_jump_17 ?_
    refine z_iadd C d_Guest_jump_18 ?_
    refine z_callVv (rest := []) C q_Guest_assign tw_678 (c_Guest_assign _ B ((a1.toUInt32 >>> ((7 : Int32).toUInt32 &&& Int32.toUInt32 31)).toInt32) ((gM S 0 0) + (4 : Int32)) S _ h) rc_Guest ⟨Nat.le_of_ble_eq_true rfl, Nat.le_of_ble_eq_true rfl⟩ rfl rfl (Nat.le_of_ble_eq_true rfl) d_Guest_jump_19 (fun S1 h => ?_)
    refine z_aload_n C 0 rfl rfl d_Guest_jump_22 ?_
    refine z_iload_n C 2 rfl rfl d_Guest_jump_23 ?_
    refine pf_Guest_next C (Or.inl tw_150) d_Guest_jump_24 ?_
    refine z_nS (fun S2 eS2 => ?_)
    have h := h S2 eS2
    refine z_iconst (v := (0 : Int32)) C rfl d_Guest_jump_27 ?_
    exact z_ireturn C G hr h d_Guest_jump_28
  · have h := h.2 c
    refine z_iconst (v := (1 : Int32)) C rfl d_Guest_jump_6 ?_
    exact z_ireturn C G hr h d_Guest_jump_7
theorem c_Guest_jump (l : Launch) (B : zK) (a1 : Int32) (a2 : Int32) (S : zS) (P : zS → Int32 → Prop) (h : w_Guest_jump a1 a2 S P) : Met l y_Guest_jump (Cond.code y_Guest_jump prog_5_method_15_code 3 (some FieldType.int) :: tT) (zRm 1 22) (zPc (wC B) [.ref (ad B 3), .int a1, .int a2] S) (zQ (wC B) (zPi P)) 0 0 (wC B).2.2.2 :=
  z_met (by decide) (Nat.le_of_ble_eq_true rfl) (fun E C G hr _ hnl => v_Guest_jump C a1 a2 P G hr hnl S h)
theorem q_Guest_jump : zQw y_Guest_jump prog_5_method_15_code 3 (some FieldType.int) 2 := ⟨tw_717, tw_10, tw_80, tw_718, by decide +kernel⟩
def w_Guest_jumpOffset (a1 : Int32) (S : zS) (P : zS → Int32 → Prop) : Prop :=
  P S (((((a1 >>> ((31 : Int32) &&& 31)) <<< ((20 : Int32) &&& 31)) ||| (a1 &&& (1044480 : Int32))) ||| (((a1.toUInt32 >>> ((9 : Int32).toUInt32 &&& Int32.toUInt32 31)).toInt32) &&& (2048 : Int32))) ||| (((a1.toUInt32 >>> ((20 : Int32).toUInt32 &&& Int32.toUInt32 31)).toInt32) &&& (2046 : Int32)))
set_option maxRecDepth 20000 in
set_option maxHeartbeats 4000000 in
theorem v_Guest_jumpOffset {E : zE} {B : zK} (C : zC E (wC B) prog_5_method_12_code "HostBench$Guest" 0 0) (a1 : Int32) (P : zS → Int32 → Prop) (G : zGoal E (zQ (wC B) (zPi P)) (wC B)) (hr : zRt E (some .int)) (hnl : E.2.2.2.2.2.2.2.2.2.2.1 = 1) (S : zS) (h : w_Guest_jumpOffset a1 S P) : zV E (wC B) S 0 [(0, .int a1)] [] := by
  unfold w_Guest_jumpOffset at h
  refine z_iload_n C 0 rfl rfl d_Guest_jumpOffset_0 ?_
  refine z_bipush (v := (31 : Int32)) C rfl d_Guest_jumpOffset_1 ?_
  refine z_ishr C d_Guest_jumpOffset_3 ?_
  refine z_bipush (v := (20 : Int32)) C rfl d_Guest_jumpOffset_4 ?_
  refine z_ishl C d_Guest_jumpOffset_6 ?_
  refine z_iload_n C 0 rfl rfl d_Guest_jumpOffset_7 ?_
  refine z_ldc (v := (1044480 : Int32)) C tw_722 d_Guest_jumpOffset_8 ?_
  refine z_iand C d_Guest_jumpOffset_10 ?_
  refine z_ior C d_Guest_jumpOffset_11 ?_
  refine z_iload_n C 0 rfl rfl d_Guest_jumpOffset_12 ?_
  refine z_bipush (v := (9 : Int32)) C rfl d_Guest_jumpOffset_13 ?_
  refine z_iushr C d_Guest_jumpOffset_15 ?_
  refine z_sipush (v := (2048 : Int32)) C rfl d_Guest_jumpOffset_16 ?_
  refine z_iand C d_Guest_jumpOffset_19 ?_
  refine z_ior C d_Guest_jumpOffset_20 ?_
  refine z_iload_n C 0 rfl rfl d_Guest_jumpOffset_21 ?_
  refine z_bipush (v := (20 : Int32)) C rfl d_Guest_jumpOffset_22 ?_
  refine z_iushr C d_Guest_jumpOffset_24 ?_
  refine z_sipush (v := (2046 : Int32)) C rfl d_Guest_jumpOffset_25 ?_
  refine z_iand C d_Guest_jumpOffset_28 ?_
  refine z_ior C d_Guest_jumpOffset_29 ?_
  exact z_ireturn C G hr h d_Guest_jumpOffset_30
theorem c_Guest_jumpOffset (l : Launch) (B : zK) (a1 : Int32) (S : zS) (P : zS → Int32 → Prop) (h : w_Guest_jumpOffset a1 S P) : Met l y_Guest_jumpOffset (Cond.code y_Guest_jumpOffset prog_5_method_12_code 1 (some FieldType.int) :: tT) (zRm 0 0) (zPc (wC B) [.int a1] S) (zQ (wC B) (zPi P)) 0 0 (wC B).2.2.2 :=
  z_met (by decide) (Nat.le_of_ble_eq_true rfl) (fun E C G hr _ hnl => v_Guest_jumpOffset C a1 P G hr hnl S h)
theorem q_Guest_jumpOffset : zQs y_Guest_jumpOffset prog_5_method_12_code 1 (some FieldType.int) 1 := ⟨tw_720, tw_80, tw_721, by decide +kernel⟩
def w_Guest_system (a1 : Int32) (S : zS) (P : zS → Int32 → Prop) : Prop :=
  (a1 = (115 : Int32) → (P S (4 : Int32))) ∧ (¬ a1 = (115 : Int32) → ((a1 = (1048691 : Int32) → (P S (5 : Int32))) ∧ (¬ a1 = (1048691 : Int32) → (P S (3 : Int32)))))
set_option maxRecDepth 20000 in
set_option maxHeartbeats 4000000 in
theorem v_Guest_system {E : zE} {B : zK} (C : zC E (wC B) prog_5_method_14_code "HostBench$Guest" 0 0) (a1 : Int32) (P : zS → Int32 → Prop) (G : zGoal E (zQ (wC B) (zPi P)) (wC B)) (hr : zRt E (some .int)) (hnl : E.2.2.2.2.2.2.2.2.2.2.1 = 1) (S : zS) (h : w_Guest_system a1 S P) : zV E (wC B) S 0 [(0, .int a1)] [] := by
  unfold w_Guest_system at h
  refine z_iload_n C 0 rfl rfl d_Guest_system_0 ?_
  refine z_bipush (v := (115 : Int32)) C rfl d_Guest_system_1 ?_
  refine z_icmp_ne (tgt := 8) C d_Guest_system_3 rfl (fun c => ?_) (fun c => ?_)
  · have h := h.2 c
    refine z_iload_n C 0 rfl rfl d_Guest_system_8 ?_
    refine z_ldc (v := (1048691 : Int32)) C tw_647 d_Guest_system_9 ?_
    refine z_icmp_ne (tgt := 18) C d_Guest_system_11 rfl (fun c => ?_) (fun c => ?_)
    · have h := h.2 c
      refine z_iconst (v := (3 : Int32)) C rfl d_Guest_system_18 ?_
      exact z_ireturn C G hr h d_Guest_system_19
    · have h := h.1 c
      refine z_iconst (v := (5 : Int32)) C rfl d_Guest_system_14 ?_
      refine z_goto (tgt := 19) C d_Guest_system_15 rfl ?_
      exact z_ireturn C G hr h d_Guest_system_19
  · have h := h.1 c
    refine z_iconst (v := (4 : Int32)) C rfl d_Guest_system_6 ?_
    exact z_ireturn C G hr h d_Guest_system_7
theorem c_Guest_system (l : Launch) (B : zK) (a1 : Int32) (S : zS) (P : zS → Int32 → Prop) (h : w_Guest_system a1 S P) : Met l y_Guest_system (Cond.code y_Guest_system prog_5_method_14_code 1 (some FieldType.int) :: tT) (zRm 0 0) (zPc (wC B) [.int a1] S) (zQ (wC B) (zPi P)) 0 0 (wC B).2.2.2 :=
  z_met (by decide) (Nat.le_of_ble_eq_true rfl) (fun E C G hr _ hnl => v_Guest_system C a1 P G hr hnl S h)
theorem q_Guest_system : zQs y_Guest_system prog_5_method_14_code 1 (some FieldType.int) 1 := ⟨tw_724, tw_80, tw_725, by decide +kernel⟩
def w_Guest_execute (a1 : Int32) (S : zS) (P : zS → Int32 → Prop) : Prop :=
  ((a1 &&& (127 : Int32)) = (3 : Int32) → (w_Guest_load a1 S (fun S1 r2 => P S1 r2))) ∧ (¬ (a1 &&& (127 : Int32)) = (3 : Int32) → (((a1 &&& (127 : Int32)) = (15 : Int32) → (w_Guest_funct3 a1 S (fun S3 r4 => ((1 : Int32) < r4 → (P S3 (3 : Int32))) ∧ (¬ (1 : Int32) < r4 → (P S3 (0 : Int32)))))) ∧ (¬ (a1 &&& (127 : Int32)) = (15 : Int32) → (((a1 &&& (127 : Int32)) = (19 : Int32) → (w_Guest_operateOnNumber a1 S (fun S5 r6 => P S5 r6))) ∧ (¬ (a1 &&& (127 : Int32)) = (19 : Int32) → (((a1 &&& (127 : Int32)) = (23 : Int32) → (w_Guest_assign ((a1.toUInt32 >>> ((7 : Int32).toUInt32 &&& Int32.toUInt32 31)).toInt32) ((gM S 0 0) + (a1 &&& (-4096 : Int32))) S (fun S7 => P S7 (0 : Int32)))) ∧ (¬ (a1 &&& (127 : Int32)) = (23 : Int32) → (((a1 &&& (127 : Int32)) = (35 : Int32) → (w_Guest_store a1 S (fun S8 r9 => P S8 r9))) ∧ (¬ (a1 &&& (127 : Int32)) = (35 : Int32) → (((a1 &&& (127 : Int32)) = (51 : Int32) → (w_Guest_operate a1 S (fun S10 r11 => P S10 r11))) ∧ (¬ (a1 &&& (127 : Int32)) = (51 : Int32) → (((a1 &&& (127 : Int32)) = (55 : Int32) → (w_Guest_assign ((a1.toUInt32 >>> ((7 : Int32).toUInt32 &&& Int32.toUInt32 31)).toInt32) (a1 &&& (-4096 : Int32)) S (fun S12 => P S12 (0 : Int32)))) ∧ (¬ (a1 &&& (127 : Int32)) = (55 : Int32) → (((a1 &&& (127 : Int32)) = (99 : Int32) → (w_Guest_branch a1 S (fun S13 r14 => P S13 r14))) ∧ (¬ (a1 &&& (127 : Int32)) = (99 : Int32) → (((a1 &&& (127 : Int32)) = (103 : Int32) → (w_Guest_funct3 a1 S (fun S15 r16 => (r16 = 0 → (w_Guest_value ((a1.toUInt32 >>> ((15 : Int32).toUInt32 &&& Int32.toUInt32 31)).toInt32) S15 (fun S17 r18 => w_Guest_jump a1 ((r18 + (a1 >>> ((20 : Int32) &&& 31))) &&& (-2 : Int32)) S17 (fun S19 r20 => P S19 r20)))) ∧ (¬ r16 = 0 → (P S15 (3 : Int32)))))) ∧ (¬ (a1 &&& (127 : Int32)) = (103 : Int32) → (((a1 &&& (127 : Int32)) = (111 : Int32) → (w_Guest_jumpOffset a1 S (fun S21 r22 => w_Guest_jump a1 ((gM S 0 0) + r22) S21 (fun S23 r24 => P S23 r24)))) ∧ (¬ (a1 &&& (127 : Int32)) = (111 : Int32) → (((a1 &&& (127 : Int32)) = (115 : Int32) → (w_Guest_system a1 S (fun S25 r26 => P S25 r26))) ∧ (¬ (a1 &&& (127 : Int32)) = (115 : Int32) → (P S (3 : Int32)))))))))))))))))))))))
set_option maxRecDepth 20000 in
set_option maxHeartbeats 4000000 in
theorem v_Guest_execute {E : zE} {B : zK} (C : zC E (wC B) prog_5_method_10_code "HostBench$Guest" 4 89) (a1 : Int32) (P : zS → Int32 → Prop) (G : zGoal E (zQ (wC B) (zPi P)) (wC B)) (hr : zRt E (some .int)) (hnl : E.2.2.2.2.2.2.2.2.2.2.1 = 2) (S : zS) (h : w_Guest_execute a1 S P) : zV E (wC B) S 0 [(0, .ref (ad B 3)), (1, .int a1)] [] := by
  unfold w_Guest_execute at h
  refine z_iload_n C 1 rfl rfl d_Guest_execute_0 ?_
  refine z_bipush (v := (127 : Int32)) C rfl d_Guest_execute_1 ?_
  refine z_iand C d_Guest_execute_3 ?_
  by_cases c0 : (a1 &&& (127 : Int32)) = (3 : Int32)
  · have h := h.1 c0
    refine z_lookup (off := 100) (tgt := 104) C d_Guest_execute_4 rfl (by rw [c0]; rfl) rfl ?_
    refine z_aload_n C 0 rfl rfl d_Guest_execute_104 ?_
    refine z_iload_n C 1 rfl rfl d_Guest_execute_105 ?_
    refine z_callVi (rest := []) C q_Guest_load tw_658 (c_Guest_load _ B a1 S _ h) rc_Guest ⟨Nat.le_of_ble_eq_true rfl, Nat.le_of_ble_eq_true rfl⟩ rfl rfl (Nat.le_of_ble_eq_true rfl) d_Guest_execute_106 (fun S1 r2 h => ?_)
    exact z_ireturn C G hr h d_Guest_execute_109
  · have h := h.2 c0
    by_cases c1 : (a1 &&& (127 : Int32)) = (15 : Int32)
    · have h := h.1 c1
      refine z_lookup (off := 106) (tgt := 110) C d_Guest_execute_4 rfl (by rw [c1]; rfl) rfl ?_
      refine z_iload_n C 1 rfl rfl d_Guest_execute_110 ?_
      refine z_callSi (rest := []) C q_Guest_funct3 rfl tw_662 (c_Guest_funct3 _ B a1 S _ h) ⟨Nat.le_of_ble_eq_true rfl, Nat.le_of_ble_eq_true rfl⟩ rfl rfl (Nat.le_of_ble_eq_true rfl) d_Guest_execute_111 (fun S3 r4 h => ?_)
      refine z_iconst (v := (1 : Int32)) C rfl d_Guest_execute_114 ?_
      refine z_icmp_gt (tgt := 122) C d_Guest_execute_115 rfl (fun c => ?_) (fun c => ?_)
      · have h := h.1 c
        refine z_iconst (v := (3 : Int32)) C rfl d_Guest_execute_122 ?_
        exact z_ireturn C G hr h d_Guest_execute_123
      · have h := h.2 c
        refine z_iconst (v := (0 : Int32)) C rfl d_Guest_execute_118 ?_
        refine z_goto (tgt := 123) C d_Guest_execute_119 rfl ?_
        exact z_ireturn C G hr h d_Guest_execute_123
    · have h := h.2 c1
      by_cases c2 : (a1 &&& (127 : Int32)) = (19 : Int32)
      · have h := h.1 c2
        refine z_lookup (off := 120) (tgt := 124) C d_Guest_execute_4 rfl (by rw [c2]; rfl) rfl ?_
        refine z_aload_n C 0 rfl rfl d_Guest_execute_124 ?_
        refine z_iload_n C 1 rfl rfl d_Guest_execute_125 ?_
        refine z_callVi (rest := []) C q_Guest_operateOnNumber tw_679 (c_Guest_operateOnNumber _ B a1 S _ h) rc_Guest ⟨Nat.le_of_ble_eq_true rfl, Nat.le_of_ble_eq_true rfl⟩ rfl rfl (Nat.le_of_ble_eq_true rfl) d_Guest_execute_126 (fun S5 r6 h => ?_)
        exact z_ireturn C G hr h d_Guest_execute_129
      · have h := h.2 c2
        by_cases c3 : (a1 &&& (127 : Int32)) = (23 : Int32)
        · have h := h.1 c3
          refine z_lookup (off := 126) (tgt := 130) C d_Guest_execute_4 rfl (by rw [c3]; rfl) rfl ?_
          refine z_aload_n C 0 rfl rfl d_Guest_execute_130 ?_
          refine z_iload_n C 1 rfl rfl d_Guest_execute_131 ?_
          refine z_bipush (v := (7 : Int32)) C rfl d_Guest_execute_132 ?_
          refine z_iushr C d_Guest_execute_134 ?_
          refine z_aload_n C 0 rfl rfl d_Guest_execute_135 ?_
          refine gf_Guest_pc C (Or.inl tw_148) d_Guest_execute_136 ?_
          refine z_iload_n C 1 rfl rfl d_Guest_execute_139 ?_
          refine z_sipush (v := (-4096 : Int32)) C rfl d_Guest_execute_140 ?_
          refine z_iand C d_Guest_execute_143 ?_
          refine z_iadd C d_Guest_execute_144 ?_
          refine z_callVv (rest := []) C q_Guest_assign tw_678 (c_Guest_assign _ B ((a1.toUInt32 >>> ((7 : Int32).toUInt32 &&& Int32.toUInt32 31)).toInt32) ((gM S 0 0) + (a1 &&& (-4096 : Int32))) S _ h) rc_Guest ⟨Nat.le_of_ble_eq_true rfl, Nat.le_of_ble_eq_true rfl⟩ rfl rfl (Nat.le_of_ble_eq_true rfl) d_Guest_execute_145 (fun S7 h => ?_)
          refine z_iconst (v := (0 : Int32)) C rfl d_Guest_execute_148 ?_
          exact z_ireturn C G hr h d_Guest_execute_149
        · have h := h.2 c3
          by_cases c4 : (a1 &&& (127 : Int32)) = (35 : Int32)
          · have h := h.1 c4
            refine z_lookup (off := 146) (tgt := 150) C d_Guest_execute_4 rfl (by rw [c4]; rfl) rfl ?_
            refine z_aload_n C 0 rfl rfl d_Guest_execute_150 ?_
            refine z_iload_n C 1 rfl rfl d_Guest_execute_151 ?_
            refine z_callVi (rest := []) C q_Guest_store tw_690 (c_Guest_store _ B a1 S _ h) rc_Guest ⟨Nat.le_of_ble_eq_true rfl, Nat.le_of_ble_eq_true rfl⟩ rfl rfl (Nat.le_of_ble_eq_true rfl) d_Guest_execute_152 (fun S8 r9 h => ?_)
            exact z_ireturn C G hr h d_Guest_execute_155
          · have h := h.2 c4
            by_cases c5 : (a1 &&& (127 : Int32)) = (51 : Int32)
            · have h := h.1 c5
              refine z_lookup (off := 152) (tgt := 156) C d_Guest_execute_4 rfl (by rw [c5]; rfl) rfl ?_
              refine z_aload_n C 0 rfl rfl d_Guest_execute_156 ?_
              refine z_iload_n C 1 rfl rfl d_Guest_execute_157 ?_
              refine z_callVi (rest := []) C q_Guest_operate tw_695 (c_Guest_operate _ B a1 S _ h) rc_Guest ⟨Nat.le_of_ble_eq_true rfl, Nat.le_of_ble_eq_true rfl⟩ rfl rfl (Nat.le_of_ble_eq_true rfl) d_Guest_execute_158 (fun S10 r11 h => ?_)
              exact z_ireturn C G hr h d_Guest_execute_161
            · have h := h.2 c5
              by_cases c6 : (a1 &&& (127 : Int32)) = (55 : Int32)
              · have h := h.1 c6
                refine z_lookup (off := 158) (tgt := 162) C d_Guest_execute_4 rfl (by rw [c6]; rfl) rfl ?_
                refine z_aload_n C 0 rfl rfl d_Guest_execute_162 ?_
                refine z_iload_n C 1 rfl rfl d_Guest_execute_163 ?_
                refine z_bipush (v := (7 : Int32)) C rfl d_Guest_execute_164 ?_
                refine z_iushr C d_Guest_execute_166 ?_
                refine z_iload_n C 1 rfl rfl d_Guest_execute_167 ?_
                refine z_sipush (v := (-4096 : Int32)) C rfl d_Guest_execute_168 ?_
                refine z_iand C d_Guest_execute_171 ?_
                refine z_callVv (rest := []) C q_Guest_assign tw_678 (c_Guest_assign _ B ((a1.toUInt32 >>> ((7 : Int32).toUInt32 &&& Int32.toUInt32 31)).toInt32) (a1 &&& (-4096 : Int32)) S _ h) rc_Guest ⟨Nat.le_of_ble_eq_true rfl, Nat.le_of_ble_eq_true rfl⟩ rfl rfl (Nat.le_of_ble_eq_true rfl) d_Guest_execute_172 (fun S12 h => ?_)
                refine z_iconst (v := (0 : Int32)) C rfl d_Guest_execute_175 ?_
                exact z_ireturn C G hr h d_Guest_execute_176
              · have h := h.2 c6
                by_cases c7 : (a1 &&& (127 : Int32)) = (99 : Int32)
                · have h := h.1 c7
                  refine z_lookup (off := 173) (tgt := 177) C d_Guest_execute_4 rfl (by rw [c7]; rfl) rfl ?_
                  refine z_aload_n C 0 rfl rfl d_Guest_execute_177 ?_
                  refine z_iload_n C 1 rfl rfl d_Guest_execute_178 ?_
                  refine z_callVi (rest := []) C q_Guest_branch tw_705 (c_Guest_branch _ B a1 S _ h) rc_Guest ⟨Nat.le_of_ble_eq_true rfl, Nat.le_of_ble_eq_true rfl⟩ rfl rfl (Nat.le_of_ble_eq_true rfl) d_Guest_execute_179 (fun S13 r14 h => ?_)
                  exact z_ireturn C G hr h d_Guest_execute_182
                · have h := h.2 c7
                  by_cases c8 : (a1 &&& (127 : Int32)) = (103 : Int32)
                  · have h := h.1 c8
                    refine z_lookup (off := 179) (tgt := 183) C d_Guest_execute_4 rfl (by rw [c8]; rfl) rfl ?_
                    refine z_iload_n C 1 rfl rfl d_Guest_execute_183 ?_
                    refine z_callSi (rest := []) C q_Guest_funct3 rfl tw_662 (c_Guest_funct3 _ B a1 S _ h) ⟨Nat.le_of_ble_eq_true rfl, Nat.le_of_ble_eq_true rfl⟩ rfl rfl (Nat.le_of_ble_eq_true rfl) d_Guest_execute_184 (fun S15 r16 h => ?_)
                    refine z_if_ne (tgt := 214) C d_Guest_execute_187 rfl (fun c => ?_) (fun c => ?_)
                    · have h := h.2 c
                      refine z_iconst (v := (3 : Int32)) C rfl d_Guest_execute_214 ?_
                      exact z_ireturn C G hr h d_Guest_execute_215
                    · have h := h.1 c
                      refine z_aload_n C 0 rfl rfl d_Guest_execute_190 ?_
                      refine z_iload_n C 1 rfl rfl d_Guest_execute_191 ?_
                      refine z_aload_n C 0 rfl rfl d_Guest_execute_192 ?_
                      refine z_iload_n C 1 rfl rfl d_Guest_execute_193 ?_
                      refine z_bipush (v := (15 : Int32)) C rfl d_Guest_execute_194 ?_
                      refine z_iushr C d_Guest_execute_196 ?_
                      refine z_callVi (rest := [.int a1, .ref (ad B 3)]) C q_Guest_value tw_665 (c_Guest_value _ B ((a1.toUInt32 >>> ((15 : Int32).toUInt32 &&& Int32.toUInt32 31)).toInt32) S15 _ h) rc_Guest ⟨Nat.le_of_ble_eq_true rfl, Nat.le_of_ble_eq_true rfl⟩ rfl rfl (Nat.le_of_ble_eq_true rfl) d_Guest_execute_197 (fun S17 r18 h => ?_)
                      refine z_iload_n C 1 rfl rfl d_Guest_execute_200 ?_
                      refine z_bipush (v := (20 : Int32)) C rfl d_Guest_execute_201 ?_
                      refine z_ishr C d_Guest_execute_203 ?_
                      refine z_iadd C d_Guest_execute_204 ?_
                      refine z_bipush (v := (-2 : Int32)) C rfl d_Guest_execute_205 ?_
                      refine z_iand C d_Guest_execute_207 ?_
                      refine z_callVi (rest := []) C q_Guest_jump tw_715 (c_Guest_jump _ B a1 ((r18 + (a1 >>> ((20 : Int32) &&& 31))) &&& (-2 : Int32)) S17 _ h) rc_Guest ⟨Nat.le_of_ble_eq_true rfl, Nat.le_of_ble_eq_true rfl⟩ rfl rfl (Nat.le_of_ble_eq_true rfl) d_Guest_execute_208 (fun S19 r20 h => ?_)
                      refine z_goto (tgt := 215) C d_Guest_execute_211 rfl ?_
                      exact z_ireturn C G hr h d_Guest_execute_215
                  · have h := h.2 c8
                    by_cases c9 : (a1 &&& (127 : Int32)) = (111 : Int32)
                    · have h := h.1 c9
                      refine z_lookup (off := 212) (tgt := 216) C d_Guest_execute_4 rfl (by rw [c9]; rfl) rfl ?_
                      refine z_aload_n C 0 rfl rfl d_Guest_execute_216 ?_
                      refine z_iload_n C 1 rfl rfl d_Guest_execute_217 ?_
                      refine z_aload_n C 0 rfl rfl d_Guest_execute_218 ?_
                      refine gf_Guest_pc C (Or.inl tw_148) d_Guest_execute_219 ?_
                      refine z_iload_n C 1 rfl rfl d_Guest_execute_222 ?_
                      refine z_callSi (rest := [.int (gM S 0 0), .int a1, .ref (ad B 3)]) C q_Guest_jumpOffset rfl tw_719 (c_Guest_jumpOffset _ B a1 S _ h) ⟨Nat.le_of_ble_eq_true rfl, Nat.le_of_ble_eq_true rfl⟩ rfl rfl (Nat.le_of_ble_eq_true rfl) d_Guest_execute_223 (fun S21 r22 h => ?_)
                      refine z_iadd C d_Guest_execute_226 ?_
                      refine z_callVi (rest := []) C q_Guest_jump tw_715 (c_Guest_jump _ B a1 ((gM S 0 0) + r22) S21 _ h) rc_Guest ⟨Nat.le_of_ble_eq_true rfl, Nat.le_of_ble_eq_true rfl⟩ rfl rfl (Nat.le_of_ble_eq_true rfl) d_Guest_execute_227 (fun S23 r24 h => ?_)
                      exact z_ireturn C G hr h d_Guest_execute_230
                    · have h := h.2 c9
                      by_cases c10 : (a1 &&& (127 : Int32)) = (115 : Int32)
                      · have h := h.1 c10
                        refine z_lookup (off := 227) (tgt := 231) C d_Guest_execute_4 rfl (by rw [c10]; rfl) rfl ?_
                        refine z_iload_n C 1 rfl rfl d_Guest_execute_231 ?_
                        refine z_callSi (rest := []) C q_Guest_system rfl tw_723 (c_Guest_system _ B a1 S _ h) ⟨Nat.le_of_ble_eq_true rfl, Nat.le_of_ble_eq_true rfl⟩ rfl rfl (Nat.le_of_ble_eq_true rfl) d_Guest_execute_232 (fun S25 r26 h => ?_)
                        exact z_ireturn C G hr h d_Guest_execute_235
                      · have h := h.2 c10
                        refine z_lookup (off := 232) (tgt := 236) C d_Guest_execute_4 rfl (by show Op.lookupswitch.offset [(3, 100), (15, 106), (19, 120), (23, 126), (35, 146), (51, 152), (55, 158), (99, 173), (103, 179), (111, 212), (115, 227)] 232 _ = _; rw [lv_osw (a := 3) c0 rfl, lv_osw (a := 15) c1 rfl, lv_osw (a := 19) c2 rfl, lv_osw (a := 23) c3 rfl, lv_osw (a := 35) c4 rfl, lv_osw (a := 51) c5 rfl, lv_osw (a := 55) c6 rfl, lv_osw (a := 99) c7 rfl, lv_osw (a := 103) c8 rfl, lv_osw (a := 111) c9 rfl, lv_osw (a := 115) c10 rfl]; rfl) rfl ?_
                        refine z_iconst (v := (3 : Int32)) C rfl d_Guest_execute_236 ?_
                        exact z_ireturn C G hr h d_Guest_execute_237
theorem c_Guest_execute (l : Launch) (B : zK) (a1 : Int32) (S : zS) (P : zS → Int32 → Prop) (h : w_Guest_execute a1 S P) : Met l y_Guest_execute (Cond.code y_Guest_execute prog_5_method_10_code 2 (some FieldType.int) :: tT) (zRm 4 89) (zPc (wC B) [.ref (ad B 3), .int a1] S) (zQ (wC B) (zPi P)) 0 0 (wC B).2.2.2 :=
  z_met (by decide) (Nat.le_of_ble_eq_true rfl) (fun E C G hr _ hnl => v_Guest_execute C a1 P G hr hnl S h)
theorem q_Guest_execute : zQw y_Guest_execute prog_5_method_10_code 2 (some FieldType.int) 1 := ⟨tw_656, tw_3, tw_80, tw_657, by decide +kernel⟩
def j_Guest_step_75 (P : zS → Int32 → Prop) (S : zS) (x1 : Int32) : Prop :=
  ∀ S1 : zS, S1 = sM S 0 1 ((gM S 0 0) + (4 : Int32)) → w_Guest_execute x1 S1 (fun S2 r3 => (r3 = 0 → (∀ S5 : zS, S5 = sM S2 0 0 (gM S2 0 1) → P S5 (0 : Int32))) ∧ (¬ r3 = 0 → (w_Guest_stop r3 S2 (fun S4 => P S4 (0 : Int32)))))
set_option maxRecDepth 20000 in
set_option maxHeartbeats 4000000 in
theorem vj_Guest_step_75 {E : zE} {B : zK} (C : zC E (wC B) prog_5_method_7_code "HostBench$Guest" 5 110) (P : zS → Int32 → Prop) (G : zGoal E (zQ (wC B) (zPi P)) (wC B)) (hr : zRt E (some .boolean)) (hnl : E.2.2.2.2.2.2.2.2.2.2.1 = 3) (S : zS) (x1 : Int32) (h : j_Guest_step_75 P S x1) : zV E (wC B) S 75 [(0, .ref (ad B 3)), (1, .int x1)] [] := by
  unfold j_Guest_step_75 at h
  refine z_aload_n C 0 rfl rfl d_Guest_step_75 ?_
  refine z_aload_n C 0 rfl rfl d_Guest_step_76 ?_
  refine gf_Guest_pc C (Or.inl tw_148) d_Guest_step_77 ?_
  refine z_iconst (v := (4 : Int32)) C rfl d_Guest_step_80 ?_
  refine z_iadd C d_Guest_step_81 ?_
  refine pf_Guest_next C (Or.inl tw_150) d_Guest_step_82 ?_
  refine z_nS (fun S1 eS1 => ?_)
  have h := h S1 eS1
  refine z_aload_n C 0 rfl rfl d_Guest_step_85 ?_
  refine z_iload_n C 1 rfl rfl d_Guest_step_86 ?_
  refine z_callVi (rest := []) C q_Guest_execute tw_654 (c_Guest_execute _ B x1 S1 _ h) rc_Guest ⟨Nat.le_of_ble_eq_true rfl, Nat.le_of_ble_eq_true rfl⟩ rfl rfl (Nat.le_of_ble_eq_true rfl) d_Guest_step_87 (fun S2 r3 h => ?_)
  refine z_istore_n (L' := [(2, .int r3), (0, .ref (ad B 3)), (1, .int x1)]) C hnl rfl (by decide) rfl d_Guest_step_90 ?_
  refine z_iload_n C 0 rfl rfl d_Guest_step_91 ?_
  refine z_if_ne (tgt := 106) C d_Guest_step_92 rfl (fun c => ?_) (fun c => ?_)
  · have h := h.2 c
    refine z_aload_n C 1 rfl rfl d_Guest_step_106 ?_
    refine z_iload_n C 0 rfl rfl d_Guest_step_107 ?_
    refine z_callVv (rest := []) C q_Guest_stop tw_637 (c_Guest_stop _ B r3 S2 _ h) rc_Guest ⟨Nat.le_of_ble_eq_true rfl, Nat.le_of_ble_eq_true rfl⟩ rfl rfl (Nat.le_of_ble_eq_true rfl) d_Guest_step_108 (fun S4 h => ?_)
    refine z_iconst (v := (0 : Int32)) C rfl d_Guest_step_111 ?_
    exact z_zreturn C G hr rfl h d_Guest_step_112
  · have h := h.1 c
    refine z_aload_n C 1 rfl rfl d_Guest_step_95 ?_
    refine z_aload_n C 1 rfl rfl d_Guest_step_96 ?_
    refine gf_Guest_next C (Or.inl tw_150) d_Guest_step_97 ?_
    refine pf_Guest_pc C (Or.inl tw_148) d_Guest_step_100 ?_
    refine z_nS (fun S5 eS5 => ?_)
    have h := h S5 eS5
    refine z_goto (tgt := 111) C d_Guest_step_103 rfl ?_
    refine z_iconst (v := (0 : Int32)) C rfl d_Guest_step_111 ?_
    exact z_zreturn C G hr rfl h d_Guest_step_112
def w_Guest_step (S : zS) (P : zS → Int32 → Prop) : Prop :=
  ∀ S1 : zS, S1 = sJ S ((gJ S) + (1 : Int64)) → (((gM S1 0 0) &&& (3 : Int32)) = 0 → (w_Memory_hasArea (gM S1 0 0) (4 : Int32) S1 (fun S2 r3 => (r3 = 0 → (w_Guest_stop (2 : Int32) S2 (fun S8 => P S8 (0 : Int32)))) ∧ (¬ r3 = 0 → (w_Memory_wordAt (gM S2 0 0) S2 (fun S4 r5 => (r5 = (1048691 : Int32) → (w_Guest_isMarked S4 (fun S6 r7 => (r7 = 0 → (j_Guest_step_75 P S6 r5)) ∧ (¬ r7 = 0 → (P S6 (1 : Int32)))))) ∧ (¬ r5 = (1048691 : Int32) → (j_Guest_step_75 P S4 r5)))))))) ∧ (¬ ((gM S1 0 0) &&& (3 : Int32)) = 0 → (w_Guest_stop (1 : Int32) S1 (fun S9 => P S9 (0 : Int32))))
set_option maxRecDepth 20000 in
set_option maxHeartbeats 4000000 in
theorem v_Guest_step {E : zE} {B : zK} (C : zC E (wC B) prog_5_method_7_code "HostBench$Guest" 5 110) (P : zS → Int32 → Prop) (G : zGoal E (zQ (wC B) (zPi P)) (wC B)) (hr : zRt E (some .boolean)) (hnl : E.2.2.2.2.2.2.2.2.2.2.1 = 3) (S : zS) (h : w_Guest_step S P) : zV E (wC B) S 0 [(0, .ref (ad B 3))] [] := by
  unfold w_Guest_step at h
  refine z_aload_n C 0 rfl rfl d_Guest_step_0 ?_
  refine z_dup C rfl d_Guest_step_1 ?_
  refine gf_Guest_steps C (Or.inl tw_158) d_Guest_step_2 ?_
  refine z_lconst (v := (1 : Int64)) C rfl d_Guest_step_5 ?_
  refine z_ladd C d_Guest_step_6 ?_
  refine pf_Guest_steps C (Or.inl tw_158) d_Guest_step_7 ?_
  refine z_nS (fun S1 eS1 => ?_)
  have h := h S1 eS1
  refine z_aload_n C 0 rfl rfl d_Guest_step_10 ?_
  refine gf_Guest_pc C (Or.inl tw_148) d_Guest_step_11 ?_
  refine z_iconst (v := (3 : Int32)) C rfl d_Guest_step_14 ?_
  refine z_iand C d_Guest_step_15 ?_
  refine z_if_eq (tgt := 26) C d_Guest_step_16 rfl (fun c => ?_) (fun c => ?_)
  · have h := h.1 c
    refine z_aload_n C 0 rfl rfl d_Guest_step_26 ?_
    refine gf_Guest_memory C (Or.inl tw_144) d_Guest_step_27 ?_
    refine z_aload_n C 0 rfl rfl d_Guest_step_30 ?_
    refine gf_Guest_pc C (Or.inl tw_148) d_Guest_step_31 ?_
    refine z_iconst (v := (4 : Int32)) C rfl d_Guest_step_34 ?_
    refine z_callVi (rest := []) C q_Memory_hasArea tw_641 (c_Memory_hasArea _ B (gM S1 0 0) (4 : Int32) S1 _ h) rc_Memory ⟨Nat.le_of_ble_eq_true rfl, Nat.le_of_ble_eq_true rfl⟩ rfl rfl (Nat.le_of_ble_eq_true rfl) d_Guest_step_35 (fun S2 r3 h => ?_)
    refine z_if_ne (tgt := 48) C d_Guest_step_38 rfl (fun c => ?_) (fun c => ?_)
    · have h := h.2 c
      refine z_aload_n C 0 rfl rfl d_Guest_step_48 ?_
      refine gf_Guest_memory C (Or.inl tw_144) d_Guest_step_49 ?_
      refine z_aload_n C 0 rfl rfl d_Guest_step_52 ?_
      refine gf_Guest_pc C (Or.inl tw_148) d_Guest_step_53 ?_
      refine z_callVi (rest := []) C q_Memory_wordAt tw_642 (c_Memory_wordAt _ B (gM S2 0 0) S2 _ h) rc_Memory ⟨Nat.le_of_ble_eq_true rfl, Nat.le_of_ble_eq_true rfl⟩ rfl rfl (Nat.le_of_ble_eq_true rfl) d_Guest_step_56 (fun S4 r5 h => ?_)
      refine z_istore_n (L' := [(1, .int r5), (0, .ref (ad B 3))]) C hnl rfl (by decide) rfl d_Guest_step_59 ?_
      refine z_iload_n C 0 rfl rfl d_Guest_step_60 ?_
      refine z_ldc (v := (1048691 : Int32)) C tw_647 d_Guest_step_61 ?_
      refine z_icmp_ne (tgt := 75) C d_Guest_step_63 rfl (fun c => ?_) (fun c => ?_)
      · have h := h.2 c
        exact z_sub [1, 0] rfl (vj_Guest_step_75 C P G hr hnl S4 r5 h)
      · have h := h.1 c
        refine z_aload_n C 1 rfl rfl d_Guest_step_66 ?_
        refine z_callVi (rest := []) C q_Guest_isMarked tw_648 (c_Guest_isMarked _ B S4 _ h) rc_Guest ⟨Nat.le_of_ble_eq_true rfl, Nat.le_of_ble_eq_true rfl⟩ rfl rfl (Nat.le_of_ble_eq_true rfl) d_Guest_step_67 (fun S6 r7 h => ?_)
        refine z_if_eq (tgt := 75) C d_Guest_step_70 rfl (fun c => ?_) (fun c => ?_)
        · have h := h.1 c
          exact z_sub [1, 0] rfl (vj_Guest_step_75 C P G hr hnl S6 r5 h)
        · have h := h.2 c
          refine z_iconst (v := (1 : Int32)) C rfl d_Guest_step_73 ?_
          exact z_zreturn C G hr rfl h d_Guest_step_74
    · have h := h.1 c
      refine z_aload_n C 0 rfl rfl d_Guest_step_41 ?_
      refine z_iconst (v := (2 : Int32)) C rfl d_Guest_step_42 ?_
      refine z_callVv (rest := []) C q_Guest_stop tw_637 (c_Guest_stop _ B (2 : Int32) S2 _ h) rc_Guest ⟨Nat.le_of_ble_eq_true rfl, Nat.le_of_ble_eq_true rfl⟩ rfl rfl (Nat.le_of_ble_eq_true rfl) d_Guest_step_43 (fun S8 h => ?_)
      refine z_iconst (v := (0 : Int32)) C rfl d_Guest_step_46 ?_
      exact z_zreturn C G hr rfl h d_Guest_step_47
  · have h := h.2 c
    refine z_aload_n C 0 rfl rfl d_Guest_step_19 ?_
    refine z_iconst (v := (1 : Int32)) C rfl d_Guest_step_20 ?_
    refine z_callVv (rest := []) C q_Guest_stop tw_637 (c_Guest_stop _ B (1 : Int32) S1 _ h) rc_Guest ⟨Nat.le_of_ble_eq_true rfl, Nat.le_of_ble_eq_true rfl⟩ rfl rfl (Nat.le_of_ble_eq_true rfl) d_Guest_step_21 (fun S9 h => ?_)
    refine z_iconst (v := (0 : Int32)) C rfl d_Guest_step_24 ?_
    exact z_zreturn C G hr rfl h d_Guest_step_25
theorem c_Guest_step (l : Launch) (B : zK) (S : zS) (P : zS → Int32 → Prop) (h : w_Guest_step S P) : Met l y_Guest_step (Cond.code y_Guest_step prog_5_method_7_code 3 (some FieldType.boolean) :: tT) (zRm 5 110) (zPc (wC B) [.ref (ad B 3)] S) (zQ (wC B) (zPi P)) 0 0 (wC B).2.2.2 :=
  z_met (by decide) (Nat.le_of_ble_eq_true rfl) (fun E C G hr _ hnl => v_Guest_step C P G hr hnl S h)
theorem q_Guest_step : zQw y_Guest_step prog_5_method_7_code 3 (some FieldType.boolean) 0 := ⟨tw_634, tw_635, tw_80, tw_636, by decide +kernel⟩
