def w_M_thrown (S : zS) (P : zS → Int32 → Prop) : Prop :=
  P S (gM S 0 0)
set_option maxRecDepth 20000 in
set_option maxHeartbeats 4000000 in
theorem v_M_thrown {E : zE} {B : zK} (C : zC E (wR B) prog_12_method_2_code "HostBenchModel" 0 0) (P : zS → Int32 → Prop) (G : zGoal E (zQ (wR B) (zPi P)) (wR B)) (hr : zRt E (some .int)) (hnl : E.2.2.2.2.2.2.2.2.2.2.1 = 1) (S : zS) (h : w_M_thrown S P) : zV E (wR B) S 0 [(0, .ref (ad B 0))] [] := by
  unfold w_M_thrown at h
  refine z_aload_n C 0 rfl rfl d_M_thrown_0 ?_
  refine gf_M_thrown C (Or.inl tw_984) d_M_thrown_1 ?_
  exact z_ireturn C G hr h d_M_thrown_4
theorem c_M_thrown (l : Launch) (B : zK) (S : zS) (P : zS → Int32 → Prop) (h : w_M_thrown S P) : Met l y_M_thrown (Cond.code y_M_thrown prog_12_method_2_code 1 (some FieldType.int) :: tT) (zRm 0 0) (zPc (wR B) [.ref (ad B 0)] S) (zQ (wR B) (zPi P)) 0 0 (wR B).2.2.2 :=
  z_met (by decide) (Nat.le_of_ble_eq_true rfl) (fun E C G hr _ hnl => v_M_thrown C P G hr hnl S h)
theorem q_M_thrown : zQw y_M_thrown prog_12_method_2_code 1 (some FieldType.int) 0 := ⟨tw_1076, tw_1077, tw_87, tw_1078, by decide +kernel⟩
def l_M_four_2 (a1 : Int32) (P : zS → Prop) : Nat → zS → Int32 → Prop
  | 0, _, _ => False
  | n + 1, S, x2 =>
  ((4 : Int32) ≤ x2 → (∀ S1 : zS, S1 = sM S 0 29 ((gM S 0 29) + (4 : Int32)) → P S1)) ∧ (¬ (4 : Int32) ≤ x2 → (vp_in ((gM S 0 29) + x2) 2120 ∧ ∀ S3 : zS, S3 = sM S 16 ((gM S 0 29) + x2).toNatClampNeg ((a1 >>> (((24 : Int32) - ((8 : Int32) * x2)) &&& 31)) &&& (255 : Int32)) → l_M_four_2 a1 P n S3 (x2 + (1 : Int32))))
set_option maxRecDepth 20000 in
set_option maxHeartbeats 4000000 in
theorem vl_M_four_2 {E : zE} {B : zK} (C : zC E (wR B) prog_12_method_3_code "HostBenchModel" 0 0) (a1 : Int32) (P : zS → Prop) (G : zGoal E (zQ (wR B) (zPv P)) (wR B)) (hr : zRt E (none)) (hnl : E.2.2.2.2.2.2.2.2.2.2.1 = 3) : ∀ (n : Nat) (S : zS) (x2 : Int32) , l_M_four_2 a1 P n S x2 → zV E (wR B) S 2 [(0, .ref (ad B 0)), (1, .int a1), (2, .int x2)] [] := by
  intro n
  induction n with
  | zero => intro S x2 h; exact h.elim
  | succ n ih =>
    intro S x2 h
    unfold l_M_four_2 at h
    refine z_iload_n C 2 rfl rfl d_M_four_2 ?_
    refine z_iconst (v := (4 : Int32)) C rfl d_M_four_3 ?_
    refine z_icmp_ge (tgt := 37) C d_M_four_4 rfl (fun c => ?_) (fun c => ?_)
    · have h := h.1 c
      refine z_aload_n C 0 rfl rfl d_M_four_37 ?_
      refine z_dup C rfl d_M_four_38 ?_
      refine gf_M_taped C (Or.inl tw_1013) d_M_four_39 ?_
      refine z_iconst (v := (4 : Int32)) C rfl d_M_four_42 ?_
      refine z_iadd C d_M_four_43 ?_
      refine pf_M_taped C (Or.inl tw_1013) d_M_four_44 ?_
      refine z_nS (fun S1 eS1 => ?_)
      have h := h S1 eS1
      exact z_vreturn C G hr h d_M_four_47
    · have h := h.2 c
      refine z_aload_n C 0 rfl rfl d_M_four_7 ?_
      refine gf_M_tape C (Or.inl tw_1012) d_M_four_8 ?_
      refine z_aload_n C 0 rfl rfl d_M_four_11 ?_
      refine gf_M_taped C (Or.inl tw_1013) d_M_four_12 ?_
      refine z_iload_n C 2 rfl rfl d_M_four_15 ?_
      refine z_iadd C d_M_four_16 ?_
      refine z_iload_n C 1 rfl rfl d_M_four_17 ?_
      refine z_bipush (v := (24 : Int32)) C rfl d_M_four_18 ?_
      refine z_bipush (v := (8 : Int32)) C rfl d_M_four_20 ?_
      refine z_iload_n C 2 rfl rfl d_M_four_22 ?_
      refine z_imul C d_M_four_23 ?_
      refine z_isub C d_M_four_24 ?_
      refine z_ishr C d_M_four_25 ?_
      refine z_sipush (v := (255 : Int32)) C rfl d_M_four_26 ?_
      refine z_iand C d_M_four_29 ?_
      obtain ⟨f2, h⟩ := h
      refine as_m_tape C f2 d_M_four_30 ?_
      refine z_nS (fun S3 eS3 => ?_)
      have h := h S3 eS3
      refine z_iinc (v := x2 + (1 : Int32)) (L' := [(2, .int (x2 + (1 : Int32))), (0, .ref (ad B 0)), (1, .int a1)]) C hnl 2 rfl rfl (by decide) rfl d_M_four_31 ?_
      refine z_goto (tgt := 2) C d_M_four_34 rfl ?_
      exact z_sub [1, 2, 0] rfl (ih S3 (x2 + (1 : Int32)) h)
def w_M_four (a1 : Int32) (S : zS) (P : zS → Prop) : Prop :=
  ∃ n1 : Nat, l_M_four_2 a1 P n1 S (0 : Int32)
set_option maxRecDepth 20000 in
set_option maxHeartbeats 4000000 in
theorem v_M_four {E : zE} {B : zK} (C : zC E (wR B) prog_12_method_3_code "HostBenchModel" 0 0) (a1 : Int32) (P : zS → Prop) (G : zGoal E (zQ (wR B) (zPv P)) (wR B)) (hr : zRt E (none)) (hnl : E.2.2.2.2.2.2.2.2.2.2.1 = 3) (S : zS) (h : w_M_four a1 S P) : zV E (wR B) S 0 [(0, .ref (ad B 0)), (1, .int a1)] [] := by
  unfold w_M_four at h
  refine z_iconst (v := (0 : Int32)) C rfl d_M_four_0 ?_
  refine z_istore_n (L' := [(2, .int (0 : Int32)), (0, .ref (ad B 0)), (1, .int a1)]) C hnl rfl (by decide) rfl d_M_four_1 ?_
  obtain ⟨n1, h⟩ := h
  exact z_sub [1, 2, 0] rfl (vl_M_four_2 C a1 P G hr hnl n1 S (0 : Int32) h)
theorem c_M_four (l : Launch) (B : zK) (a1 : Int32) (S : zS) (P : zS → Prop) (h : w_M_four a1 S P) : Met l y_M_four (Cond.code y_M_four prog_12_method_3_code 3 none :: tT) (zRm 0 0) (zPc (wR B) [.ref (ad B 0), .int a1] S) (zQ (wR B) (zPv P)) 0 0 (wR B).2.2.2 :=
  z_met (by decide) (Nat.le_of_ble_eq_true rfl) (fun E C G hr _ hnl => v_M_four C a1 P G hr hnl S h)
theorem q_M_four : zQw y_M_four prog_12_method_3_code 3 none 1 := ⟨tw_1085, tw_36, tw_87, tw_1086, by decide +kernel⟩
def w_M_feed (a1 : Int32) (a2 : Int32) (a3 : Int32) (a4 : Int32) (a5 : Int32) (S : zS) (P : zS → Int32 → Prop) : Prop :=
  ∀ S1 : zS, S1 = sM S 0 0 (0 : Int32) → (((gM S1 0 29) + (20 : Int32)) ≤ (2100 : Int32) → (w_M_four a1 S1 (fun S2 => w_M_four a2 S2 (fun S3 => w_M_four a3 S3 (fun S4 => w_M_four a4 S4 (fun S5 => w_M_four a5 S5 (fun S6 => P S6 (gM S6 0 29)))))))) ∧ (¬ ((gM S1 0 29) + (20 : Int32)) ≤ (2100 : Int32) → (P S1 (-1 : Int32)))
set_option maxRecDepth 20000 in
set_option maxHeartbeats 4000000 in
theorem v_M_feed {E : zE} {B : zK} (C : zC E (wR B) prog_12_method_4_code "HostBenchModel" 1 22) (a1 : Int32) (a2 : Int32) (a3 : Int32) (a4 : Int32) (a5 : Int32) (P : zS → Int32 → Prop) (G : zGoal E (zQ (wR B) (zPi P)) (wR B)) (hr : zRt E (some .int)) (hnl : E.2.2.2.2.2.2.2.2.2.2.1 = 6) (S : zS) (h : w_M_feed a1 a2 a3 a4 a5 S P) : zV E (wR B) S 0 [(0, .ref (ad B 0)), (1, .int a1), (2, .int a2), (3, .int a3), (4, .int a4), (5, .int a5)] [] := by
  unfold w_M_feed at h
  refine z_aload_n C 0 rfl rfl d_M_feed_0 ?_
  refine z_iconst (v := (0 : Int32)) C rfl d_M_feed_1 ?_
  refine pf_M_thrown C (Or.inl tw_984) d_M_feed_2 ?_
  refine z_nS (fun S1 eS1 => ?_)
  have h := h S1 eS1
  refine z_aload_n C 0 rfl rfl d_M_feed_5 ?_
  refine gf_M_taped C (Or.inl tw_1013) d_M_feed_6 ?_
  refine z_bipush (v := (20 : Int32)) C rfl d_M_feed_9 ?_
  refine z_iadd C d_M_feed_11 ?_
  refine z_sipush (v := (2100 : Int32)) C rfl d_M_feed_12 ?_
  refine z_icmp_le (tgt := 20) C d_M_feed_15 rfl (fun c => ?_) (fun c => ?_)
  · have h := h.1 c
    refine z_aload_n C 0 rfl rfl d_M_feed_20 ?_
    refine z_iload_n C 1 rfl rfl d_M_feed_21 ?_
    refine z_callVv (rest := []) C q_M_four tw_1083 (c_M_four _ B a1 S1 _ h) rc_M ⟨Nat.le_of_ble_eq_true rfl, Nat.le_of_ble_eq_true rfl⟩ rfl rfl (Nat.le_of_ble_eq_true rfl) d_M_feed_22 (fun S2 h => ?_)
    refine z_aload_n C 0 rfl rfl d_M_feed_25 ?_
    refine z_iload_n C 2 rfl rfl d_M_feed_26 ?_
    refine z_callVv (rest := []) C q_M_four tw_1083 (c_M_four _ B a2 S2 _ h) rc_M ⟨Nat.le_of_ble_eq_true rfl, Nat.le_of_ble_eq_true rfl⟩ rfl rfl (Nat.le_of_ble_eq_true rfl) d_M_feed_27 (fun S3 h => ?_)
    refine z_aload_n C 0 rfl rfl d_M_feed_30 ?_
    refine z_iload_n C 3 rfl rfl d_M_feed_31 ?_
    refine z_callVv (rest := []) C q_M_four tw_1083 (c_M_four _ B a3 S3 _ h) rc_M ⟨Nat.le_of_ble_eq_true rfl, Nat.le_of_ble_eq_true rfl⟩ rfl rfl (Nat.le_of_ble_eq_true rfl) d_M_feed_32 (fun S4 h => ?_)
    refine z_aload_n C 0 rfl rfl d_M_feed_35 ?_
    refine z_iload C 4 rfl d_M_feed_36 ?_
    refine z_callVv (rest := []) C q_M_four tw_1083 (c_M_four _ B a4 S4 _ h) rc_M ⟨Nat.le_of_ble_eq_true rfl, Nat.le_of_ble_eq_true rfl⟩ rfl rfl (Nat.le_of_ble_eq_true rfl) d_M_feed_38 (fun S5 h => ?_)
    refine z_aload_n C 0 rfl rfl d_M_feed_41 ?_
    refine z_iload C 5 rfl d_M_feed_42 ?_
    refine z_callVv (rest := []) C q_M_four tw_1083 (c_M_four _ B a5 S5 _ h) rc_M ⟨Nat.le_of_ble_eq_true rfl, Nat.le_of_ble_eq_true rfl⟩ rfl rfl (Nat.le_of_ble_eq_true rfl) d_M_feed_44 (fun S6 h => ?_)
    refine z_aload_n C 0 rfl rfl d_M_feed_47 ?_
    refine gf_M_taped C (Or.inl tw_1013) d_M_feed_48 ?_
    exact z_ireturn C G hr h d_M_feed_51
  · have h := h.2 c
    refine z_iconst (v := (-1 : Int32)) C rfl d_M_feed_18 ?_
    exact z_ireturn C G hr h d_M_feed_19
theorem c_M_feed (l : Launch) (B : zK) (a1 : Int32) (a2 : Int32) (a3 : Int32) (a4 : Int32) (a5 : Int32) (S : zS) (P : zS → Int32 → Prop) (h : w_M_feed a1 a2 a3 a4 a5 S P) : Met l y_M_feed (Cond.code y_M_feed prog_12_method_4_code 6 (some FieldType.int) :: tT) (zRm 1 22) (zPc (wR B) [.ref (ad B 0), .int a1, .int a2, .int a3, .int a4, .int a5] S) (zQ (wR B) (zPi P)) 0 0 (wR B).2.2.2 :=
  z_met (by decide) (Nat.le_of_ble_eq_true rfl) (fun E C G hr _ hnl => v_M_feed C a1 a2 a3 a4 a5 P G hr hnl S h)
theorem q_M_feed : zQw y_M_feed prog_12_method_4_code 6 (some FieldType.int) 5 := ⟨tw_1080, tw_1081, tw_87, tw_1082, by decide +kernel⟩
def w_M_end (a1 : Int32) (S : zS) (P : zS → Int32 → Prop) : Prop :=
  ∀ S1 : zS, S1 = sM S 0 0 (0 : Int32) → (a1 < 0 → (P S1 (0 : Int32))) ∧ (¬ a1 < 0 → ((a1 ≤ (gM S1 0 29) → (∀ S2 : zS, S2 = sM S1 0 29 a1 → P S2 (1 : Int32))) ∧ (¬ a1 ≤ (gM S1 0 29) → (P S1 (0 : Int32)))))
set_option maxRecDepth 20000 in
set_option maxHeartbeats 4000000 in
theorem v_M_end {E : zE} {B : zK} (C : zC E (wR B) prog_12_method_5_code "HostBenchModel" 0 0) (a1 : Int32) (P : zS → Int32 → Prop) (G : zGoal E (zQ (wR B) (zPi P)) (wR B)) (hr : zRt E (some .boolean)) (hnl : E.2.2.2.2.2.2.2.2.2.2.1 = 2) (S : zS) (h : w_M_end a1 S P) : zV E (wR B) S 0 [(0, .ref (ad B 0)), (1, .int a1)] [] := by
  unfold w_M_end at h
  refine z_aload_n C 0 rfl rfl d_M_end_0 ?_
  refine z_iconst (v := (0 : Int32)) C rfl d_M_end_1 ?_
  refine pf_M_thrown C (Or.inl tw_984) d_M_end_2 ?_
  refine z_nS (fun S1 eS1 => ?_)
  have h := h S1 eS1
  refine z_iload_n C 1 rfl rfl d_M_end_5 ?_
  refine z_if_lt (tgt := 17) C d_M_end_6 rfl (fun c => ?_) (fun c => ?_)
  · have h := h.1 c
    refine z_iconst (v := (0 : Int32)) C rfl d_M_end_17 ?_
    exact z_zreturn C G hr rfl h d_M_end_18
  · have h := h.2 c
    refine z_iload_n C 1 rfl rfl d_M_end_9 ?_
    refine z_aload_n C 0 rfl rfl d_M_end_10 ?_
    refine gf_M_taped C (Or.inl tw_1013) d_M_end_11 ?_
    refine z_icmp_le (tgt := 19) C d_M_end_14 rfl (fun c => ?_) (fun c => ?_)
    · have h := h.1 c
      refine z_aload_n C 0 rfl rfl d_M_end_19 ?_
      refine z_iload_n C 1 rfl rfl d_M_end_20 ?_
      refine pf_M_taped C (Or.inl tw_1013) d_M_end_21 ?_
      refine z_nS (fun S2 eS2 => ?_)
      have h := h S2 eS2
      refine z_iconst (v := (1 : Int32)) C rfl d_M_end_24 ?_
      exact z_zreturn C G hr rfl h d_M_end_25
    · have h := h.2 c
      refine z_iconst (v := (0 : Int32)) C rfl d_M_end_17 ?_
      exact z_zreturn C G hr rfl h d_M_end_18
theorem c_M_end (l : Launch) (B : zK) (a1 : Int32) (S : zS) (P : zS → Int32 → Prop) (h : w_M_end a1 S P) : Met l y_M_end (Cond.code y_M_end prog_12_method_5_code 2 (some FieldType.boolean) :: tT) (zRm 0 0) (zPc (wR B) [.ref (ad B 0), .int a1] S) (zQ (wR B) (zPi P)) 0 0 (wR B).2.2.2 :=
  z_met (by decide) (Nat.le_of_ble_eq_true rfl) (fun E C G hr _ hnl => v_M_end C a1 P G hr hnl S h)
theorem q_M_end : zQw y_M_end prog_12_method_5_code 2 (some FieldType.boolean) 1 := ⟨tw_1088, tw_1089, tw_87, tw_1090, by decide +kernel⟩
def w_M_use (S : zS) (P : zS → Int32 → Prop) : Prop :=
  ∀ v1 : Int32, v1 = (gM S 0 29) → ∀ S2 : zS, S2 = sM S 0 29 (0 : Int32) → P S2 v1
set_option maxRecDepth 20000 in
set_option maxHeartbeats 4000000 in
theorem v_M_use {E : zE} {B : zK} (C : zC E (wR B) prog_12_method_6_code "HostBenchModel" 0 0) (P : zS → Int32 → Prop) (G : zGoal E (zQ (wR B) (zPi P)) (wR B)) (hr : zRt E (some .int)) (hnl : E.2.2.2.2.2.2.2.2.2.2.1 = 2) (S : zS) (h : w_M_use S P) : zV E (wR B) S 0 [(0, .ref (ad B 0))] [] := by
  unfold w_M_use at h
  refine z_aload_n C 0 rfl rfl d_M_use_0 ?_
  refine gf_M_taped C (Or.inl tw_1013) d_M_use_1 ?_
  refine z_topi (fun v1 ev1 => ?_)
  have h := h v1 ev1
  refine z_istore_n (L' := [(1, .int v1), (0, .ref (ad B 0))]) C hnl rfl (by decide) rfl d_M_use_4 ?_
  refine z_aload_n C 1 rfl rfl d_M_use_5 ?_
  refine z_iconst (v := (0 : Int32)) C rfl d_M_use_6 ?_
  refine pf_M_taped C (Or.inl tw_1013) d_M_use_7 ?_
  refine z_nS (fun S2 eS2 => ?_)
  have h := h S2 eS2
  refine z_iload_n C 0 rfl rfl d_M_use_10 ?_
  exact z_ireturn C G hr h d_M_use_11
theorem c_M_use (l : Launch) (B : zK) (S : zS) (P : zS → Int32 → Prop) (h : w_M_use S P) : Met l y_M_use (Cond.code y_M_use prog_12_method_6_code 2 (some FieldType.int) :: tT) (zRm 0 0) (zPc (wR B) [.ref (ad B 0)] S) (zQ (wR B) (zPi P)) 0 0 (wR B).2.2.2 :=
  z_met (by decide) (Nat.le_of_ble_eq_true rfl) (fun E C G hr _ hnl => v_M_use C P G hr hnl S h)
theorem q_M_use : zQw y_M_use prog_12_method_6_code 2 (some FieldType.int) 0 := ⟨tw_1097, tw_37, tw_87, tw_1098, by decide +kernel⟩
def l_M_put_38 (a1 : Int32) (P : zS → Int32 → Prop) : Nat → zS → Int32 → Int32 → Prop
  | 0, _, _, _ => False
  | n + 1, S, x2, x3 =>
  (x2 ≤ x3 → (P S x2)) ∧ (¬ x2 ≤ x3 → (vp_in x3 2120 ∧ vp_in (a1 + x3) 16384 ∧ ∀ S3 : zS, S3 = sM S 1 (a1 + x3).toNatClampNeg (gM S 16 x3.toNatClampNeg) → l_M_put_38 a1 P n S3 x2 (x3 + (1 : Int32))))
set_option maxRecDepth 20000 in
set_option maxHeartbeats 4000000 in
theorem vl_M_put_38 {E : zE} {B : zK} (C : zC E (wR B) prog_12_method_7_code "HostBenchModel" 1 21) (a1 : Int32) (P : zS → Int32 → Prop) (G : zGoal E (zQ (wR B) (zPi P)) (wR B)) (hr : zRt E (some .int)) (hnl : E.2.2.2.2.2.2.2.2.2.2.1 = 4) : ∀ (n : Nat) (S : zS) (x2 : Int32) (x3 : Int32) , l_M_put_38 a1 P n S x2 x3 → zV E (wR B) S 38 [(0, .ref (ad B 0)), (1, .int a1), (2, .int x2), (3, .int x3)] [] := by
  intro n
  induction n with
  | zero => intro S x2 x3 h; exact h.elim
  | succ n ih =>
    intro S x2 x3 h
    unfold l_M_put_38 at h
    refine z_iload_n C 3 rfl rfl d_M_put_38 ?_
    refine z_iload_n C 2 rfl rfl d_M_put_39 ?_
    refine z_icmp_ge (tgt := 63) C d_M_put_40 rfl (fun c => ?_) (fun c => ?_)
    · have h := h.1 c
      refine z_iload_n C 2 rfl rfl d_M_put_63 ?_
      exact z_ireturn C G hr h d_M_put_64
    · have h := h.2 c
      refine z_aload_n C 0 rfl rfl d_M_put_43 ?_
      refine gf_M_memory C (Or.inl tw_985) d_M_put_44 ?_
      refine z_iload_n C 1 rfl rfl d_M_put_47 ?_
      refine z_iload_n C 3 rfl rfl d_M_put_48 ?_
      refine z_iadd C d_M_put_49 ?_
      refine z_aload_n C 0 rfl rfl d_M_put_50 ?_
      refine gf_M_tape C (Or.inl tw_1012) d_M_put_51 ?_
      refine z_iload_n C 3 rfl rfl d_M_put_54 ?_
      obtain ⟨f1, h⟩ := h
      refine al_m_tape C f1 d_M_put_55 ?_
      obtain ⟨f2, h⟩ := h
      refine as_m_memory C f2 d_M_put_56 ?_
      refine z_nS (fun S3 eS3 => ?_)
      have h := h S3 eS3
      refine z_iinc (v := x3 + (1 : Int32)) (L' := [(3, .int (x3 + (1 : Int32))), (0, .ref (ad B 0)), (1, .int a1), (2, .int x2)]) C hnl 3 rfl rfl (by decide) rfl d_M_put_57 ?_
      refine z_goto (tgt := 38) C d_M_put_60 rfl ?_
      exact z_sub [1, 2, 3, 0] rfl (ih S3 x2 (x3 + (1 : Int32)) h)
def j_M_put_24 (a1 : Int32) (P : zS → Int32 → Prop) (S : zS) (x2 : Int32) (s1 : Int32) : Prop :=
  ∀ S1 : zS, S1 = sM S 0 0 s1 → ((gM S1 0 0) ≤ 0 → (∃ n2 : Nat, l_M_put_38 a1 P n2 S1 x2 (0 : Int32))) ∧ (¬ (gM S1 0 0) ≤ 0 → (P S1 (0 : Int32)))
set_option maxRecDepth 20000 in
set_option maxHeartbeats 4000000 in
theorem vj_M_put_24 {E : zE} {B : zK} (C : zC E (wR B) prog_12_method_7_code "HostBenchModel" 1 21) (a1 : Int32) (P : zS → Int32 → Prop) (G : zGoal E (zQ (wR B) (zPi P)) (wR B)) (hr : zRt E (some .int)) (hnl : E.2.2.2.2.2.2.2.2.2.2.1 = 4) (S : zS) (x2 : Int32) (s1 : Int32) (h : j_M_put_24 a1 P S x2 s1) : zV E (wR B) S 24 [(0, .ref (ad B 0)), (1, .int a1), (2, .int x2)] [.int s1, .ref (ad B 0)] := by
  unfold j_M_put_24 at h
  refine pf_M_thrown C (Or.inl tw_984) d_M_put_24 ?_
  refine z_nS (fun S1 eS1 => ?_)
  have h := h S1 eS1
  refine z_aload_n C 0 rfl rfl d_M_put_27 ?_
  refine gf_M_thrown C (Or.inl tw_984) d_M_put_28 ?_
  refine z_if_le (tgt := 36) C d_M_put_31 rfl (fun c => ?_) (fun c => ?_)
  · have h := h.1 c
    refine z_iconst (v := (0 : Int32)) C rfl d_M_put_36 ?_
    refine z_istore_n (L' := [(3, .int (0 : Int32)), (0, .ref (ad B 0)), (1, .int a1), (2, .int x2)]) C hnl rfl (by decide) rfl d_M_put_37 ?_
    obtain ⟨n2, h⟩ := h
    exact z_sub [1, 2, 3, 0] rfl (vl_M_put_38 C a1 P G hr hnl n2 S1 x2 (0 : Int32) h)
  · have h := h.2 c
    refine z_iconst (v := (0 : Int32)) C rfl d_M_put_34 ?_
    exact z_ireturn C G hr h d_M_put_35
def j_M_put_19 (a1 : Int32) (P : zS → Int32 → Prop) (S : zS) (x2 : Int32) : Prop :=
  j_M_put_24 a1 P S x2 (1 : Int32)
set_option maxRecDepth 20000 in
set_option maxHeartbeats 4000000 in
theorem vj_M_put_19 {E : zE} {B : zK} (C : zC E (wR B) prog_12_method_7_code "HostBenchModel" 1 21) (a1 : Int32) (P : zS → Int32 → Prop) (G : zGoal E (zQ (wR B) (zPi P)) (wR B)) (hr : zRt E (some .int)) (hnl : E.2.2.2.2.2.2.2.2.2.2.1 = 4) (S : zS) (x2 : Int32) (h : j_M_put_19 a1 P S x2) : zV E (wR B) S 19 [(0, .ref (ad B 0)), (1, .int a1), (2, .int x2)] [.ref (ad B 0)] := by
  unfold j_M_put_19 at h
  refine z_iconst (v := (1 : Int32)) C rfl d_M_put_19 ?_
  refine z_goto (tgt := 24) C d_M_put_20 rfl ?_
  exact z_sub [0, 1, 2] rfl (vj_M_put_24 C a1 P G hr hnl S x2 (1 : Int32) h)
def w_M_put (a1 : Int32) (S : zS) (P : zS → Int32 → Prop) : Prop :=
  w_M_use S (fun S1 r2 => (a1 < 0 → (j_M_put_19 a1 P S1 r2)) ∧ (¬ a1 < 0 → ((a1 ≤ ((16384 : Int32) - r2) → (j_M_put_24 a1 P S1 r2 (0 : Int32))) ∧ (¬ a1 ≤ ((16384 : Int32) - r2) → (j_M_put_19 a1 P S1 r2)))))
set_option maxRecDepth 20000 in
set_option maxHeartbeats 4000000 in
theorem v_M_put {E : zE} {B : zK} (C : zC E (wR B) prog_12_method_7_code "HostBenchModel" 1 21) (a1 : Int32) (P : zS → Int32 → Prop) (G : zGoal E (zQ (wR B) (zPi P)) (wR B)) (hr : zRt E (some .int)) (hnl : E.2.2.2.2.2.2.2.2.2.2.1 = 4) (S : zS) (h : w_M_put a1 S P) : zV E (wR B) S 0 [(0, .ref (ad B 0)), (1, .int a1)] [] := by
  unfold w_M_put at h
  refine z_aload_n C 0 rfl rfl d_M_put_0 ?_
  refine z_callVi (rest := []) C q_M_use tw_1095 (c_M_use _ B S _ h) rc_M ⟨Nat.le_of_ble_eq_true rfl, Nat.le_of_ble_eq_true rfl⟩ rfl rfl (Nat.le_of_ble_eq_true rfl) d_M_put_1 (fun S1 r2 h => ?_)
  refine z_istore_n (L' := [(2, .int r2), (0, .ref (ad B 0)), (1, .int a1)]) C hnl rfl (by decide) rfl d_M_put_4 ?_
  refine z_aload_n C 1 rfl rfl d_M_put_5 ?_
  refine z_iload_n C 2 rfl rfl d_M_put_6 ?_
  refine z_if_lt (tgt := 19) C d_M_put_7 rfl (fun c => ?_) (fun c => ?_)
  · have h := h.1 c
    exact z_sub [1, 2, 0] rfl (vj_M_put_19 C a1 P G hr hnl S1 r2 h)
  · have h := h.2 c
    refine z_iload_n C 2 rfl rfl d_M_put_10 ?_
    refine z_sipush (v := (16384 : Int32)) C rfl d_M_put_11 ?_
    refine z_iload_n C 0 rfl rfl d_M_put_14 ?_
    refine z_isub C d_M_put_15 ?_
    refine z_icmp_le (tgt := 23) C d_M_put_16 rfl (fun c => ?_) (fun c => ?_)
    · have h := h.1 c
      refine z_iconst (v := (0 : Int32)) C rfl d_M_put_23 ?_
      exact z_sub [1, 2, 0] rfl (vj_M_put_24 C a1 P G hr hnl S1 r2 (0 : Int32) h)
    · have h := h.2 c
      exact z_sub [1, 2, 0] rfl (vj_M_put_19 C a1 P G hr hnl S1 r2 h)
theorem c_M_put (l : Launch) (B : zK) (a1 : Int32) (S : zS) (P : zS → Int32 → Prop) (h : w_M_put a1 S P) : Met l y_M_put (Cond.code y_M_put prog_12_method_7_code 4 (some FieldType.int) :: tT) (zRm 1 21) (zPc (wR B) [.ref (ad B 0), .int a1] S) (zQ (wR B) (zPi P)) 0 0 (wR B).2.2.2 :=
  z_met (by decide) (Nat.le_of_ble_eq_true rfl) (fun E C G hr _ hnl => v_M_put C a1 P G hr hnl S h)
theorem q_M_put : zQw y_M_put prog_12_method_7_code 4 (some FieldType.int) 1 := ⟨tw_1092, tw_1093, tw_87, tw_1094, by decide +kernel⟩
def j_M_isNamed_56 (a1 : Int32) (a2 : Int32) (P : zS → Int32 → Prop) (K19 : zS → Int32 → Int32 → Prop) (S : zS) (x4 : Int32) (s0 : Int32) : Prop :=
  K19 S s0 (x4 + (1 : Int32))
set_option maxRecDepth 20000 in
set_option maxHeartbeats 4000000 in
theorem vj_M_isNamed_56 {E : zE} {B : zK} (C : zC E (wR B) prog_12_method_9_code "HostBenchModel" 0 0) (a1 : Int32) (a2 : Int32) (P : zS → Int32 → Prop) (G : zGoal E (zQ (wR B) (zPi P)) (wR B)) (hr : zRt E (some .boolean)) (hnl : E.2.2.2.2.2.2.2.2.2.2.1 = 5) (K19 : zS → Int32 → Int32 → Prop) (hK19 : ∀ (S : zS) (x3 : Int32) (x4 : Int32), K19 S x3 x4 → zV E (wR B) S 19 [(0, .ref (ad B 0)), (1, .int a1), (2, .int a2), (3, .int x3), (4, .int x4)] []) (S : zS) (x4 : Int32) (s0 : Int32) (h : j_M_isNamed_56 a1 a2 P K19 S x4 s0) : zV E (wR B) S 56 [(0, .ref (ad B 0)), (1, .int a1), (2, .int a2), (4, .int x4)] [.int s0] := by
  unfold j_M_isNamed_56 at h
  refine z_istore_n (L' := [(3, .int s0), (0, .ref (ad B 0)), (1, .int a1), (2, .int a2), (4, .int x4)]) C hnl rfl (by decide) rfl d_M_isNamed_56 ?_
  refine z_iinc (v := x4 + (1 : Int32)) (L' := [(4, .int (x4 + (1 : Int32))), (3, .int s0), (0, .ref (ad B 0)), (1, .int a1), (2, .int a2)]) C hnl 4 rfl rfl (by decide) rfl d_M_isNamed_57 ?_
  refine z_goto (tgt := 19) C d_M_isNamed_60 rfl ?_
  exact z_sub [2, 3, 4, 1, 0] rfl (hK19 S s0 (x4 + (1 : Int32)) h)
def l_M_isNamed_19 (a1 : Int32) (a2 : Int32) (P : zS → Int32 → Prop) : Nat → zS → Int32 → Int32 → Prop
  | 0, _, _, _ => False
  | n + 1, S, x3, x4 =>
  (a2 ≤ x4 → (narrow .boolean (.int x3) = .int x3 ∧ P S x3)) ∧ (¬ a2 ≤ x4 → ((x3 = 0 → (narrow .boolean (.int x3) = .int x3 ∧ P S x3)) ∧ (¬ x3 = 0 → (vp_in (((24 : Int32) * a1) + x4) 288 ∧ vp_in x4 2120 ∧ ((gM S 5 (((24 : Int32) * a1) + x4).toNatClampNeg) = (gM S 16 x4.toNatClampNeg) → (j_M_isNamed_56 a1 a2 P (fun S x3 x4 => l_M_isNamed_19 a1 a2 P n S x3 x4) S x4 (1 : Int32))) ∧ (¬ (gM S 5 (((24 : Int32) * a1) + x4).toNatClampNeg) = (gM S 16 x4.toNatClampNeg) → (j_M_isNamed_56 a1 a2 P (fun S x3 x4 => l_M_isNamed_19 a1 a2 P n S x3 x4) S x4 (0 : Int32)))))))
set_option maxRecDepth 20000 in
set_option maxHeartbeats 4000000 in
theorem vl_M_isNamed_19 {E : zE} {B : zK} (C : zC E (wR B) prog_12_method_9_code "HostBenchModel" 0 0) (a1 : Int32) (a2 : Int32) (P : zS → Int32 → Prop) (G : zGoal E (zQ (wR B) (zPi P)) (wR B)) (hr : zRt E (some .boolean)) (hnl : E.2.2.2.2.2.2.2.2.2.2.1 = 5) : ∀ (n : Nat) (S : zS) (x3 : Int32) (x4 : Int32) , l_M_isNamed_19 a1 a2 P n S x3 x4 → zV E (wR B) S 19 [(0, .ref (ad B 0)), (1, .int a1), (2, .int a2), (3, .int x3), (4, .int x4)] [] := by
  intro n
  induction n with
  | zero => intro S x3 x4 h; exact h.elim
  | succ n ih =>
    intro S x3 x4 h
    unfold l_M_isNamed_19 at h
    refine z_iload C 4 rfl d_M_isNamed_19 ?_
    refine z_iload_n C 2 rfl rfl d_M_isNamed_21 ?_
    refine z_icmp_ge (tgt := 63) C d_M_isNamed_22 rfl (fun c => ?_) (fun c => ?_)
    · have h := h.1 c
      refine z_iload_n C 3 rfl rfl d_M_isNamed_63 ?_
      exact z_zreturn C G hr h.1 h.2 d_M_isNamed_64
    · have h := h.2 c
      refine z_iload_n C 3 rfl rfl d_M_isNamed_25 ?_
      refine z_if_eq (tgt := 63) C d_M_isNamed_26 rfl (fun c => ?_) (fun c => ?_)
      · have h := h.1 c
        refine z_iload_n C 3 rfl rfl d_M_isNamed_63 ?_
        exact z_zreturn C G hr h.1 h.2 d_M_isNamed_64
      · have h := h.2 c
        refine z_aload_n C 0 rfl rfl d_M_isNamed_29 ?_
        refine gf_M_name C (Or.inl tw_996) d_M_isNamed_30 ?_
        refine z_bipush (v := (24 : Int32)) C rfl d_M_isNamed_33 ?_
        refine z_iload_n C 1 rfl rfl d_M_isNamed_35 ?_
        refine z_imul C d_M_isNamed_36 ?_
        refine z_iload C 4 rfl d_M_isNamed_37 ?_
        refine z_iadd C d_M_isNamed_39 ?_
        obtain ⟨f1, h⟩ := h
        refine al_m_name C f1 d_M_isNamed_40 ?_
        refine z_aload_n C 0 rfl rfl d_M_isNamed_41 ?_
        refine gf_M_tape C (Or.inl tw_1012) d_M_isNamed_42 ?_
        refine z_iload C 4 rfl d_M_isNamed_45 ?_
        obtain ⟨f2, h⟩ := h
        refine al_m_tape C f2 d_M_isNamed_47 ?_
        refine z_icmp_ne (tgt := 55) C d_M_isNamed_48 rfl (fun c => ?_) (fun c => ?_)
        · have h := h.2 c
          refine z_iconst (v := (0 : Int32)) C rfl d_M_isNamed_55 ?_
          exact z_sub [0, 1, 2, 4] rfl (vj_M_isNamed_56 C a1 a2 P G hr hnl (fun S x3 x4 => l_M_isNamed_19 a1 a2 P n S x3 x4) ih S x4 (0 : Int32) h)
        · have h := h.1 c
          refine z_iconst (v := (1 : Int32)) C rfl d_M_isNamed_51 ?_
          refine z_goto (tgt := 56) C d_M_isNamed_52 rfl ?_
          exact z_sub [0, 1, 2, 4] rfl (vj_M_isNamed_56 C a1 a2 P G hr hnl (fun S x3 x4 => l_M_isNamed_19 a1 a2 P n S x3 x4) ih S x4 (1 : Int32) h)
def j_M_isNamed_15 (a1 : Int32) (a2 : Int32) (P : zS → Int32 → Prop) (S : zS) (s0 : Int32) : Prop :=
  ∃ n1 : Nat, l_M_isNamed_19 a1 a2 P n1 S s0 (0 : Int32)
set_option maxRecDepth 20000 in
set_option maxHeartbeats 4000000 in
theorem vj_M_isNamed_15 {E : zE} {B : zK} (C : zC E (wR B) prog_12_method_9_code "HostBenchModel" 0 0) (a1 : Int32) (a2 : Int32) (P : zS → Int32 → Prop) (G : zGoal E (zQ (wR B) (zPi P)) (wR B)) (hr : zRt E (some .boolean)) (hnl : E.2.2.2.2.2.2.2.2.2.2.1 = 5) (S : zS) (s0 : Int32) (h : j_M_isNamed_15 a1 a2 P S s0) : zV E (wR B) S 15 [(0, .ref (ad B 0)), (1, .int a1), (2, .int a2)] [.int s0] := by
  unfold j_M_isNamed_15 at h
  refine z_istore_n (L' := [(3, .int s0), (0, .ref (ad B 0)), (1, .int a1), (2, .int a2)]) C hnl rfl (by decide) rfl d_M_isNamed_15 ?_
  refine z_iconst (v := (0 : Int32)) C rfl d_M_isNamed_16 ?_
  refine z_istore (L' := [(4, .int (0 : Int32)), (3, .int s0), (0, .ref (ad B 0)), (1, .int a1), (2, .int a2)]) C hnl (by decide) rfl d_M_isNamed_17 ?_
  obtain ⟨n1, h⟩ := h
  exact z_sub [2, 3, 4, 1, 0] rfl (vl_M_isNamed_19 C a1 a2 P G hr hnl n1 S s0 (0 : Int32) h)
def w_M_isNamed (a1 : Int32) (a2 : Int32) (S : zS) (P : zS → Int32 → Prop) : Prop :=
  vp_in a1 12 ∧ ((gM S 6 a1.toNatClampNeg) = a2 → (j_M_isNamed_15 a1 a2 P S (1 : Int32))) ∧ (¬ (gM S 6 a1.toNatClampNeg) = a2 → (j_M_isNamed_15 a1 a2 P S (0 : Int32)))
set_option maxRecDepth 20000 in
set_option maxHeartbeats 4000000 in
theorem v_M_isNamed {E : zE} {B : zK} (C : zC E (wR B) prog_12_method_9_code "HostBenchModel" 0 0) (a1 : Int32) (a2 : Int32) (P : zS → Int32 → Prop) (G : zGoal E (zQ (wR B) (zPi P)) (wR B)) (hr : zRt E (some .boolean)) (hnl : E.2.2.2.2.2.2.2.2.2.2.1 = 5) (S : zS) (h : w_M_isNamed a1 a2 S P) : zV E (wR B) S 0 [(0, .ref (ad B 0)), (1, .int a1), (2, .int a2)] [] := by
  unfold w_M_isNamed at h
  refine z_aload_n C 0 rfl rfl d_M_isNamed_0 ?_
  refine gf_M_nameSize C (Or.inl tw_997) d_M_isNamed_1 ?_
  refine z_iload_n C 1 rfl rfl d_M_isNamed_4 ?_
  obtain ⟨f1, h⟩ := h
  refine al_m_nameSize C f1 d_M_isNamed_5 ?_
  refine z_iload_n C 2 rfl rfl d_M_isNamed_6 ?_
  refine z_icmp_ne (tgt := 14) C d_M_isNamed_7 rfl (fun c => ?_) (fun c => ?_)
  · have h := h.2 c
    refine z_iconst (v := (0 : Int32)) C rfl d_M_isNamed_14 ?_
    exact z_sub [0, 1, 2] rfl (vj_M_isNamed_15 C a1 a2 P G hr hnl S (0 : Int32) h)
  · have h := h.1 c
    refine z_iconst (v := (1 : Int32)) C rfl d_M_isNamed_10 ?_
    refine z_goto (tgt := 15) C d_M_isNamed_11 rfl ?_
    exact z_sub [0, 1, 2] rfl (vj_M_isNamed_15 C a1 a2 P G hr hnl S (1 : Int32) h)
theorem c_M_isNamed (l : Launch) (B : zK) (a1 : Int32) (a2 : Int32) (S : zS) (P : zS → Int32 → Prop) (h : w_M_isNamed a1 a2 S P) : Met l y_M_isNamed (Cond.code y_M_isNamed prog_12_method_9_code 5 (some FieldType.boolean) :: tT) (zRm 0 0) (zPc (wR B) [.ref (ad B 0), .int a1, .int a2] S) (zQ (wR B) (zPi P)) 0 0 (wR B).2.2.2 :=
  z_met (by decide) (Nat.le_of_ble_eq_true rfl) (fun E C G hr _ hnl => v_M_isNamed C a1 a2 P G hr hnl S h)
theorem q_M_isNamed : zQw y_M_isNamed prog_12_method_9_code 5 (some FieldType.boolean) 2 := ⟨tw_1105, tw_38, tw_87, tw_1106, by decide +kernel⟩
def j_M_openOf_36 (a1 : Int32) (P : zS → Int32 → Prop) (K4 : zS → Int32 → Int32 → Prop) (S : zS) (x3 : Int32) (s0 : Int32) (s1 : Int32) : Prop :=
  ∀ v1 : Int32, v1 = (s0 + s1) → K4 S v1 (x3 + (1 : Int32))
set_option maxRecDepth 20000 in
set_option maxHeartbeats 4000000 in
theorem vj_M_openOf_36 {E : zE} {B : zK} (C : zC E (wR B) prog_12_method_10_code "HostBenchModel" 0 0) (a1 : Int32) (P : zS → Int32 → Prop) (G : zGoal E (zQ (wR B) (zPi P)) (wR B)) (hr : zRt E (some .int)) (hnl : E.2.2.2.2.2.2.2.2.2.2.1 = 4) (K4 : zS → Int32 → Int32 → Prop) (hK4 : ∀ (S : zS) (x2 : Int32) (x3 : Int32), K4 S x2 x3 → zV E (wR B) S 4 [(0, .ref (ad B 0)), (1, .int a1), (2, .int x2), (3, .int x3)] []) (S : zS) (x3 : Int32) (s0 : Int32) (s1 : Int32) (h : j_M_openOf_36 a1 P K4 S x3 s0 s1) : zV E (wR B) S 36 [(0, .ref (ad B 0)), (1, .int a1), (3, .int x3)] [.int s1, .int s0] := by
  unfold j_M_openOf_36 at h
  refine z_iadd C d_M_openOf_36 ?_
  refine z_topi (fun v1 ev1 => ?_)
  have h := h v1 ev1
  refine z_istore_n (L' := [(2, .int v1), (0, .ref (ad B 0)), (1, .int a1), (3, .int x3)]) C hnl rfl (by decide) rfl d_M_openOf_37 ?_
  refine z_iinc (v := x3 + (1 : Int32)) (L' := [(3, .int (x3 + (1 : Int32))), (2, .int v1), (0, .ref (ad B 0)), (1, .int a1)]) C hnl 3 rfl rfl (by decide) rfl d_M_openOf_38 ?_
  refine z_goto (tgt := 4) C d_M_openOf_41 rfl ?_
  exact z_sub [2, 3, 1, 0] rfl (hK4 S v1 (x3 + (1 : Int32)) h)
def j_M_openOf_35 (a1 : Int32) (P : zS → Int32 → Prop) (K4 : zS → Int32 → Int32 → Prop) (S : zS) (x3 : Int32) (s0 : Int32) : Prop :=
  j_M_openOf_36 a1 P K4 S x3 s0 (0 : Int32)
set_option maxRecDepth 20000 in
set_option maxHeartbeats 4000000 in
theorem vj_M_openOf_35 {E : zE} {B : zK} (C : zC E (wR B) prog_12_method_10_code "HostBenchModel" 0 0) (a1 : Int32) (P : zS → Int32 → Prop) (G : zGoal E (zQ (wR B) (zPi P)) (wR B)) (hr : zRt E (some .int)) (hnl : E.2.2.2.2.2.2.2.2.2.2.1 = 4) (K4 : zS → Int32 → Int32 → Prop) (hK4 : ∀ (S : zS) (x2 : Int32) (x3 : Int32), K4 S x2 x3 → zV E (wR B) S 4 [(0, .ref (ad B 0)), (1, .int a1), (2, .int x2), (3, .int x3)] []) (S : zS) (x3 : Int32) (s0 : Int32) (h : j_M_openOf_35 a1 P K4 S x3 s0) : zV E (wR B) S 35 [(0, .ref (ad B 0)), (1, .int a1), (3, .int x3)] [.int s0] := by
  unfold j_M_openOf_35 at h
  refine z_iconst (v := (0 : Int32)) C rfl d_M_openOf_35 ?_
  exact z_sub [0, 1, 2] rfl (vj_M_openOf_36 C a1 P G hr hnl K4 hK4 S x3 s0 (0 : Int32) h)
def l_M_openOf_4 (a1 : Int32) (P : zS → Int32 → Prop) : Nat → zS → Int32 → Int32 → Prop
  | 0, _, _, _ => False
  | n + 1, S, x2, x3 =>
  ((10 : Int32) < x3 → (P S x2)) ∧ (¬ (10 : Int32) < x3 → (vp_in x3 11 ∧ ((gM S 7 x3.toNatClampNeg) = (1 : Int32) → (((gM S 8 x3.toNatClampNeg) = a1 → (j_M_openOf_36 a1 P (fun S x2 x3 => l_M_openOf_4 a1 P n S x2 x3) S x3 x2 (1 : Int32))) ∧ (¬ (gM S 8 x3.toNatClampNeg) = a1 → (j_M_openOf_35 a1 P (fun S x2 x3 => l_M_openOf_4 a1 P n S x2 x3) S x3 x2)))) ∧ (¬ (gM S 7 x3.toNatClampNeg) = (1 : Int32) → (j_M_openOf_35 a1 P (fun S x2 x3 => l_M_openOf_4 a1 P n S x2 x3) S x3 x2))))
set_option maxRecDepth 20000 in
set_option maxHeartbeats 4000000 in
theorem vl_M_openOf_4 {E : zE} {B : zK} (C : zC E (wR B) prog_12_method_10_code "HostBenchModel" 0 0) (a1 : Int32) (P : zS → Int32 → Prop) (G : zGoal E (zQ (wR B) (zPi P)) (wR B)) (hr : zRt E (some .int)) (hnl : E.2.2.2.2.2.2.2.2.2.2.1 = 4) : ∀ (n : Nat) (S : zS) (x2 : Int32) (x3 : Int32) , l_M_openOf_4 a1 P n S x2 x3 → zV E (wR B) S 4 [(0, .ref (ad B 0)), (1, .int a1), (2, .int x2), (3, .int x3)] [] := by
  intro n
  induction n with
  | zero => intro S x2 x3 h; exact h.elim
  | succ n ih =>
    intro S x2 x3 h
    unfold l_M_openOf_4 at h
    refine z_iload_n C 3 rfl rfl d_M_openOf_4 ?_
    refine z_bipush (v := (10 : Int32)) C rfl d_M_openOf_5 ?_
    refine z_icmp_gt (tgt := 44) C d_M_openOf_7 rfl (fun c => ?_) (fun c => ?_)
    · have h := h.1 c
      refine z_iload_n C 2 rfl rfl d_M_openOf_44 ?_
      exact z_ireturn C G hr h d_M_openOf_45
    · have h := h.2 c
      refine z_iload_n C 2 rfl rfl d_M_openOf_10 ?_
      refine z_aload_n C 0 rfl rfl d_M_openOf_11 ?_
      refine gf_M_kind C (Or.inl tw_999) d_M_openOf_12 ?_
      refine z_iload_n C 3 rfl rfl d_M_openOf_15 ?_
      obtain ⟨f1, h⟩ := h
      refine al_m_kind C f1 d_M_openOf_16 ?_
      refine z_iconst (v := (1 : Int32)) C rfl d_M_openOf_17 ?_
      refine z_icmp_ne (tgt := 35) C d_M_openOf_18 rfl (fun c => ?_) (fun c => ?_)
      · have h := h.2 c
        exact z_sub [0, 1, 3] rfl (vj_M_openOf_35 C a1 P G hr hnl (fun S x2 x3 => l_M_openOf_4 a1 P n S x2 x3) ih S x3 x2 h)
      · have h := h.1 c
        refine z_aload_n C 0 rfl rfl d_M_openOf_21 ?_
        refine gf_M_its C (Or.inl tw_1000) d_M_openOf_22 ?_
        refine z_iload_n C 3 rfl rfl d_M_openOf_25 ?_
        refine al_m_its C f1 d_M_openOf_26 ?_
        refine z_iload_n C 1 rfl rfl d_M_openOf_27 ?_
        refine z_icmp_ne (tgt := 35) C d_M_openOf_28 rfl (fun c => ?_) (fun c => ?_)
        · have h := h.2 c
          exact z_sub [0, 1, 3] rfl (vj_M_openOf_35 C a1 P G hr hnl (fun S x2 x3 => l_M_openOf_4 a1 P n S x2 x3) ih S x3 x2 h)
        · have h := h.1 c
          refine z_iconst (v := (1 : Int32)) C rfl d_M_openOf_31 ?_
          refine z_goto (tgt := 36) C d_M_openOf_32 rfl ?_
          exact z_sub [0, 1, 3] rfl (vj_M_openOf_36 C a1 P G hr hnl (fun S x2 x3 => l_M_openOf_4 a1 P n S x2 x3) ih S x3 x2 (1 : Int32) h)
def w_M_openOf (a1 : Int32) (S : zS) (P : zS → Int32 → Prop) : Prop :=
  ∃ n1 : Nat, l_M_openOf_4 a1 P n1 S (0 : Int32) (1 : Int32)
set_option maxRecDepth 20000 in
set_option maxHeartbeats 4000000 in
theorem v_M_openOf {E : zE} {B : zK} (C : zC E (wR B) prog_12_method_10_code "HostBenchModel" 0 0) (a1 : Int32) (P : zS → Int32 → Prop) (G : zGoal E (zQ (wR B) (zPi P)) (wR B)) (hr : zRt E (some .int)) (hnl : E.2.2.2.2.2.2.2.2.2.2.1 = 4) (S : zS) (h : w_M_openOf a1 S P) : zV E (wR B) S 0 [(0, .ref (ad B 0)), (1, .int a1)] [] := by
  unfold w_M_openOf at h
  refine z_iconst (v := (0 : Int32)) C rfl d_M_openOf_0 ?_
  refine z_istore_n (L' := [(2, .int (0 : Int32)), (0, .ref (ad B 0)), (1, .int a1)]) C hnl rfl (by decide) rfl d_M_openOf_1 ?_
  refine z_iconst (v := (1 : Int32)) C rfl d_M_openOf_2 ?_
  refine z_istore_n (L' := [(3, .int (1 : Int32)), (2, .int (0 : Int32)), (0, .ref (ad B 0)), (1, .int a1)]) C hnl rfl (by decide) rfl d_M_openOf_3 ?_
  obtain ⟨n1, h⟩ := h
  exact z_sub [2, 3, 1, 0] rfl (vl_M_openOf_4 C a1 P G hr hnl n1 S (0 : Int32) (1 : Int32) h)
theorem c_M_openOf (l : Launch) (B : zK) (a1 : Int32) (S : zS) (P : zS → Int32 → Prop) (h : w_M_openOf a1 S P) : Met l y_M_openOf (Cond.code y_M_openOf prog_12_method_10_code 4 (some FieldType.int) :: tT) (zRm 0 0) (zPc (wR B) [.ref (ad B 0), .int a1] S) (zQ (wR B) (zPi P)) 0 0 (wR B).2.2.2 :=
  z_met (by decide) (Nat.le_of_ble_eq_true rfl) (fun E C G hr _ hnl => v_M_openOf C a1 P G hr hnl S h)
theorem q_M_openOf : zQw y_M_openOf prog_12_method_10_code 4 (some FieldType.int) 1 := ⟨tw_1109, tw_39, tw_87, tw_1110, by decide +kernel⟩
def j_M_lay_98 (P : zS → Int32 → Prop) (K76 : zS → Int32 → Int32 → Int32 → Int32 → Prop) (S : zS) (x1 : Int32) (x2 : Int32) (x3 : Int32) (x4 : Int32) : Prop :=
  K76 S x1 x2 x3 (x4 + (1 : Int32))
set_option maxRecDepth 20000 in
set_option maxHeartbeats 4000000 in
theorem vj_M_lay_98 {E : zE} {B : zK} (C : zC E (wR B) prog_12_method_8_code "HostBenchModel" 1 24) (P : zS → Int32 → Prop) (G : zGoal E (zQ (wR B) (zPi P)) (wR B)) (hr : zRt E (some .int)) (hnl : E.2.2.2.2.2.2.2.2.2.2.1 = 5) (K76 : zS → Int32 → Int32 → Int32 → Int32 → Prop) (hK76 : ∀ (S : zS) (x1 : Int32) (x2 : Int32) (x3 : Int32) (x4 : Int32), K76 S x1 x2 x3 x4 → zV E (wR B) S 76 [(0, .ref (ad B 0)), (1, .int x1), (2, .int x2), (3, .int x3), (4, .int x4)] []) (S : zS) (x1 : Int32) (x2 : Int32) (x3 : Int32) (x4 : Int32) (h : j_M_lay_98 P K76 S x1 x2 x3 x4) : zV E (wR B) S 98 [(0, .ref (ad B 0)), (1, .int x1), (2, .int x2), (3, .int x3), (4, .int x4)] [] := by
  unfold j_M_lay_98 at h
  refine z_iinc (v := x4 + (1 : Int32)) (L' := [(4, .int (x4 + (1 : Int32))), (0, .ref (ad B 0)), (1, .int x1), (2, .int x2), (3, .int x3)]) C hnl 4 rfl rfl (by decide) rfl d_M_lay_98 ?_
  refine z_goto (tgt := 76) C d_M_lay_101 rfl ?_
  exact z_sub [1, 2, 3, 4, 0] rfl (hK76 S x1 x2 x3 (x4 + (1 : Int32)) h)
def l_M_lay_220 (P : zS → Int32 → Prop) : Nat → zS → Int32 → Int32 → Int32 → Prop
  | 0, _, _, _, _ => False
  | n + 1, S, x2, x3, x4 =>
  vp_in x3 12 ∧ ((gM S 4 x3.toNatClampNeg) ≤ x4 → (P S (gM S 4 x3.toNatClampNeg))) ∧ (¬ (gM S 4 x3.toNatClampNeg) ≤ x4 → (vp_in ((x2 + (1 : Int32)) + x4) 2120 ∧ vp_in (((2000 : Int32) * x3) + x4) 24000 ∧ ∀ S4 : zS, S4 = sM S 3 (((2000 : Int32) * x3) + x4).toNatClampNeg (gM S 16 ((x2 + (1 : Int32)) + x4).toNatClampNeg) → l_M_lay_220 P n S4 x2 x3 (x4 + (1 : Int32))))
set_option maxRecDepth 20000 in
set_option maxHeartbeats 4000000 in
theorem vl_M_lay_220 {E : zE} {B : zK} (C : zC E (wR B) prog_12_method_8_code "HostBenchModel" 1 24) (P : zS → Int32 → Prop) (G : zGoal E (zQ (wR B) (zPi P)) (wR B)) (hr : zRt E (some .int)) (hnl : E.2.2.2.2.2.2.2.2.2.2.1 = 5) : ∀ (n : Nat) (S : zS) (x2 : Int32) (x3 : Int32) (x4 : Int32) , l_M_lay_220 P n S x2 x3 x4 → zV E (wR B) S 220 [(0, .ref (ad B 0)), (2, .int x2), (3, .int x3), (4, .int x4)] [] := by
  intro n
  induction n with
  | zero => intro S x2 x3 x4 h; exact h.elim
  | succ n ih =>
    intro S x2 x3 x4 h
    unfold l_M_lay_220 at h
    refine z_iload C 3 rfl d_M_lay_220 ?_
    refine z_aload_n C 0 rfl rfl d_M_lay_222 ?_
    refine gf_M_size C (Or.inl tw_995) d_M_lay_223 ?_
    refine z_iload_n C 2 rfl rfl d_M_lay_226 ?_
    obtain ⟨f1, h⟩ := h
    refine al_m_size C f1 d_M_lay_227 ?_
    refine z_icmp_ge (tgt := 261) C d_M_lay_228 rfl (fun c => ?_) (fun c => ?_)
    · have h := h.1 c
      refine z_aload_n C 0 rfl rfl d_M_lay_261 ?_
      refine gf_M_size C (Or.inl tw_995) d_M_lay_262 ?_
      refine z_iload_n C 2 rfl rfl d_M_lay_265 ?_
      refine al_m_size C f1 d_M_lay_266 ?_
      exact z_ireturn C G hr h d_M_lay_267
    · have h := h.2 c
      refine z_aload_n C 0 rfl rfl d_M_lay_231 ?_
      refine gf_M_data C (Or.inl tw_994) d_M_lay_232 ?_
      refine z_sipush (v := (2000 : Int32)) C rfl d_M_lay_235 ?_
      refine z_iload_n C 2 rfl rfl d_M_lay_238 ?_
      refine z_imul C d_M_lay_239 ?_
      refine z_iload C 3 rfl d_M_lay_240 ?_
      refine z_iadd C d_M_lay_242 ?_
      refine z_aload_n C 0 rfl rfl d_M_lay_243 ?_
      refine gf_M_tape C (Or.inl tw_1012) d_M_lay_244 ?_
      refine z_iload_n C 1 rfl rfl d_M_lay_247 ?_
      refine z_iconst (v := (1 : Int32)) C rfl d_M_lay_248 ?_
      refine z_iadd C d_M_lay_249 ?_
      refine z_iload C 3 rfl d_M_lay_250 ?_
      refine z_iadd C d_M_lay_252 ?_
      obtain ⟨f2, h⟩ := h
      refine al_m_tape C f2 d_M_lay_253 ?_
      obtain ⟨f3, h⟩ := h
      refine as_m_data C f3 d_M_lay_254 ?_
      refine z_nS (fun S4 eS4 => ?_)
      have h := h S4 eS4
      refine z_iinc (v := x4 + (1 : Int32)) (L' := [(4, .int (x4 + (1 : Int32))), (0, .ref (ad B 0)), (2, .int x2), (3, .int x3)]) C hnl 3 rfl rfl (by decide) rfl d_M_lay_255 ?_
      refine z_goto (tgt := 220) C d_M_lay_258 rfl ?_
      exact z_sub [1, 2, 3, 0] rfl (ih S4 x2 x3 (x4 + (1 : Int32)) h)
def j_M_lay_206 (P : zS → Int32 → Prop) (S : zS) (x1 : Int32) (x2 : Int32) (x3 : Int32) : Prop :=
  vp_in x3 12 ∧ ∀ S2 : zS, S2 = sM S 4 x3.toNatClampNeg ((x1 - x2) - (1 : Int32)) → ∃ n3 : Nat, l_M_lay_220 P n3 S2 x2 x3 (0 : Int32)
set_option maxRecDepth 20000 in
set_option maxHeartbeats 4000000 in
theorem vj_M_lay_206 {E : zE} {B : zK} (C : zC E (wR B) prog_12_method_8_code "HostBenchModel" 1 24) (P : zS → Int32 → Prop) (G : zGoal E (zQ (wR B) (zPi P)) (wR B)) (hr : zRt E (some .int)) (hnl : E.2.2.2.2.2.2.2.2.2.2.1 = 5) (S : zS) (x1 : Int32) (x2 : Int32) (x3 : Int32) (h : j_M_lay_206 P S x1 x2 x3) : zV E (wR B) S 206 [(0, .ref (ad B 0)), (1, .int x1), (2, .int x2), (3, .int x3)] [] := by
  unfold j_M_lay_206 at h
  refine z_aload_n C 0 rfl rfl d_M_lay_206 ?_
  refine gf_M_size C (Or.inl tw_995) d_M_lay_207 ?_
  refine z_iload_n C 3 rfl rfl d_M_lay_210 ?_
  refine z_iload_n C 1 rfl rfl d_M_lay_211 ?_
  refine z_iload_n C 2 rfl rfl d_M_lay_212 ?_
  refine z_isub C d_M_lay_213 ?_
  refine z_iconst (v := (1 : Int32)) C rfl d_M_lay_214 ?_
  refine z_isub C d_M_lay_215 ?_
  obtain ⟨f1, h⟩ := h
  refine as_m_size C f1 d_M_lay_216 ?_
  refine z_nS (fun S2 eS2 => ?_)
  have h := h S2 eS2
  refine z_iconst (v := (0 : Int32)) C rfl d_M_lay_217 ?_
  refine z_istore (L' := [(4, .int (0 : Int32)), (0, .ref (ad B 0)), (1, .int x1), (2, .int x2), (3, .int x3)]) C hnl (by decide) rfl d_M_lay_218 ?_
  obtain ⟨n3, h⟩ := h
  exact z_sub [1, 3, 4, 0] rfl (vl_M_lay_220 C P G hr hnl n3 S2 x2 x3 (0 : Int32) h)
def l_M_lay_175 (P : zS → Int32 → Prop) : Nat → zS → Int32 → Int32 → Int32 → Int32 → Prop
  | 0, _, _, _, _, _ => False
  | n + 1, S, x1, x2, x3, x4 =>
  (x2 ≤ x4 → (j_M_lay_206 P S x1 x2 x3)) ∧ (¬ x2 ≤ x4 → (vp_in x4 2120 ∧ vp_in (((24 : Int32) * x3) + x4) 288 ∧ ∀ S3 : zS, S3 = sM S 5 (((24 : Int32) * x3) + x4).toNatClampNeg (gM S 16 x4.toNatClampNeg) → l_M_lay_175 P n S3 x1 x2 x3 (x4 + (1 : Int32))))
set_option maxRecDepth 20000 in
set_option maxHeartbeats 4000000 in
theorem vl_M_lay_175 {E : zE} {B : zK} (C : zC E (wR B) prog_12_method_8_code "HostBenchModel" 1 24) (P : zS → Int32 → Prop) (G : zGoal E (zQ (wR B) (zPi P)) (wR B)) (hr : zRt E (some .int)) (hnl : E.2.2.2.2.2.2.2.2.2.2.1 = 5) : ∀ (n : Nat) (S : zS) (x1 : Int32) (x2 : Int32) (x3 : Int32) (x4 : Int32) , l_M_lay_175 P n S x1 x2 x3 x4 → zV E (wR B) S 175 [(0, .ref (ad B 0)), (1, .int x1), (2, .int x2), (3, .int x3), (4, .int x4)] [] := by
  intro n
  induction n with
  | zero => intro S x1 x2 x3 x4 h; exact h.elim
  | succ n ih =>
    intro S x1 x2 x3 x4 h
    unfold l_M_lay_175 at h
    refine z_iload C 4 rfl d_M_lay_175 ?_
    refine z_iload_n C 2 rfl rfl d_M_lay_177 ?_
    refine z_icmp_ge (tgt := 206) C d_M_lay_178 rfl (fun c => ?_) (fun c => ?_)
    · have h := h.1 c
      exact z_sub [0, 1, 2, 3] rfl (vj_M_lay_206 C P G hr hnl S x1 x2 x3 h)
    · have h := h.2 c
      refine z_aload_n C 0 rfl rfl d_M_lay_181 ?_
      refine gf_M_name C (Or.inl tw_996) d_M_lay_182 ?_
      refine z_bipush (v := (24 : Int32)) C rfl d_M_lay_185 ?_
      refine z_iload_n C 3 rfl rfl d_M_lay_187 ?_
      refine z_imul C d_M_lay_188 ?_
      refine z_iload C 4 rfl d_M_lay_189 ?_
      refine z_iadd C d_M_lay_191 ?_
      refine z_aload_n C 0 rfl rfl d_M_lay_192 ?_
      refine gf_M_tape C (Or.inl tw_1012) d_M_lay_193 ?_
      refine z_iload C 4 rfl d_M_lay_196 ?_
      obtain ⟨f1, h⟩ := h
      refine al_m_tape C f1 d_M_lay_198 ?_
      obtain ⟨f2, h⟩ := h
      refine as_m_name C f2 d_M_lay_199 ?_
      refine z_nS (fun S3 eS3 => ?_)
      have h := h S3 eS3
      refine z_iinc (v := x4 + (1 : Int32)) (L' := [(4, .int (x4 + (1 : Int32))), (0, .ref (ad B 0)), (1, .int x1), (2, .int x2), (3, .int x3)]) C hnl 4 rfl rfl (by decide) rfl d_M_lay_200 ?_
      refine z_goto (tgt := 175) C d_M_lay_203 rfl ?_
      exact z_sub [1, 2, 3, 4, 0] rfl (ih S3 x1 x2 x3 (x4 + (1 : Int32)) h)
def j_M_lay_145 (P : zS → Int32 → Prop) (S : zS) (x1 : Int32) (x2 : Int32) (x3 : Int32) : Prop :=
  (x3 = (-1 : Int32) → (∀ v1 : Int32, v1 = (gM S 0 14) → ∀ S2 : zS, S2 = sM S 0 14 ((gM S 0 14) + (1 : Int32)) → vp_in v1 12 ∧ ∀ S4 : zS, S4 = sM S2 6 v1.toNatClampNeg x2 → ∃ n5 : Nat, l_M_lay_175 P n5 S4 x1 x2 v1 (0 : Int32))) ∧ (¬ x3 = (-1 : Int32) → (j_M_lay_206 P S x1 x2 x3))
set_option maxRecDepth 20000 in
set_option maxHeartbeats 4000000 in
theorem vj_M_lay_145 {E : zE} {B : zK} (C : zC E (wR B) prog_12_method_8_code "HostBenchModel" 1 24) (P : zS → Int32 → Prop) (G : zGoal E (zQ (wR B) (zPi P)) (wR B)) (hr : zRt E (some .int)) (hnl : E.2.2.2.2.2.2.2.2.2.2.1 = 5) (S : zS) (x1 : Int32) (x2 : Int32) (x3 : Int32) (h : j_M_lay_145 P S x1 x2 x3) : zV E (wR B) S 145 [(0, .ref (ad B 0)), (1, .int x1), (2, .int x2), (3, .int x3)] [] := by
  unfold j_M_lay_145 at h
  refine z_iload_n C 3 rfl rfl d_M_lay_145 ?_
  refine z_iconst (v := (-1 : Int32)) C rfl d_M_lay_146 ?_
  refine z_icmp_ne (tgt := 206) C d_M_lay_147 rfl (fun c => ?_) (fun c => ?_)
  · have h := h.2 c
    exact z_sub [0, 1, 2, 3] rfl (vj_M_lay_206 C P G hr hnl S x1 x2 x3 h)
  · have h := h.1 c
    refine z_aload_n C 0 rfl rfl d_M_lay_150 ?_
    refine gf_M_files C (Or.inl tw_998) d_M_lay_151 ?_
    refine z_topi (fun v1 ev1 => ?_)
    have h := h v1 ev1
    refine z_istore_n (L' := [(3, .int v1), (0, .ref (ad B 0)), (1, .int x1), (2, .int x2)]) C hnl rfl (by decide) rfl d_M_lay_154 ?_
    refine z_aload_n C 1 rfl rfl d_M_lay_155 ?_
    refine z_dup C rfl d_M_lay_156 ?_
    refine gf_M_files C (Or.inl tw_998) d_M_lay_157 ?_
    refine z_iconst (v := (1 : Int32)) C rfl d_M_lay_160 ?_
    refine z_iadd C d_M_lay_161 ?_
    refine pf_M_files C (Or.inl tw_998) d_M_lay_162 ?_
    refine z_nS (fun S2 eS2 => ?_)
    have h := h S2 eS2
    refine z_aload_n C 1 rfl rfl d_M_lay_165 ?_
    refine gf_M_nameSize C (Or.inl tw_997) d_M_lay_166 ?_
    refine z_iload_n C 0 rfl rfl d_M_lay_169 ?_
    refine z_iload_n C 3 rfl rfl d_M_lay_170 ?_
    obtain ⟨f3, h⟩ := h
    refine as_m_nameSize C f3 d_M_lay_171 ?_
    refine z_nS (fun S4 eS4 => ?_)
    have h := h S4 eS4
    refine z_iconst (v := (0 : Int32)) C rfl d_M_lay_172 ?_
    refine z_istore (L' := [(4, .int (0 : Int32)), (3, .int v1), (0, .ref (ad B 0)), (1, .int x1), (2, .int x2)]) C hnl (by decide) rfl d_M_lay_173 ?_
    obtain ⟨n5, h⟩ := h
    exact z_sub [2, 3, 4, 1, 0] rfl (vl_M_lay_175 C P G hr hnl n5 S4 x1 x2 v1 (0 : Int32) h)
def j_M_lay_124 (P : zS → Int32 → Prop) (S : zS) (x1 : Int32) (x2 : Int32) (x3 : Int32) : Prop :=
  (x3 = (-1 : Int32) → (((gM S 0 14) = (12 : Int32) → (∀ S1 : zS, S1 = sM S 0 0 (3 : Int32) → P S1 (0 : Int32))) ∧ (¬ (gM S 0 14) = (12 : Int32) → (j_M_lay_145 P S x1 x2 x3)))) ∧ (¬ x3 = (-1 : Int32) → (j_M_lay_145 P S x1 x2 x3))
set_option maxRecDepth 20000 in
set_option maxHeartbeats 4000000 in
theorem vj_M_lay_124 {E : zE} {B : zK} (C : zC E (wR B) prog_12_method_8_code "HostBenchModel" 1 24) (P : zS → Int32 → Prop) (G : zGoal E (zQ (wR B) (zPi P)) (wR B)) (hr : zRt E (some .int)) (hnl : E.2.2.2.2.2.2.2.2.2.2.1 = 5) (S : zS) (x1 : Int32) (x2 : Int32) (x3 : Int32) (h : j_M_lay_124 P S x1 x2 x3) : zV E (wR B) S 124 [(0, .ref (ad B 0)), (1, .int x1), (2, .int x2), (3, .int x3)] [] := by
  unfold j_M_lay_124 at h
  refine z_iload_n C 3 rfl rfl d_M_lay_124 ?_
  refine z_iconst (v := (-1 : Int32)) C rfl d_M_lay_125 ?_
  refine z_icmp_ne (tgt := 145) C d_M_lay_126 rfl (fun c => ?_) (fun c => ?_)
  · have h := h.2 c
    exact z_sub [0, 1, 2, 3] rfl (vj_M_lay_145 C P G hr hnl S x1 x2 x3 h)
  · have h := h.1 c
    refine z_aload_n C 0 rfl rfl d_M_lay_129 ?_
    refine gf_M_files C (Or.inl tw_998) d_M_lay_130 ?_
    refine z_bipush (v := (12 : Int32)) C rfl d_M_lay_133 ?_
    refine z_icmp_ne (tgt := 145) C d_M_lay_135 rfl (fun c => ?_) (fun c => ?_)
    · have h := h.2 c
      exact z_sub [0, 1, 2, 3] rfl (vj_M_lay_145 C P G hr hnl S x1 x2 x3 h)
    · have h := h.1 c
      refine z_aload_n C 0 rfl rfl d_M_lay_138 ?_
      refine z_iconst (v := (3 : Int32)) C rfl d_M_lay_139 ?_
      refine pf_M_thrown C (Or.inl tw_984) d_M_lay_140 ?_
      refine z_nS (fun S1 eS1 => ?_)
      have h := h S1 eS1
      refine z_iconst (v := (0 : Int32)) C rfl d_M_lay_143 ?_
      exact z_ireturn C G hr h d_M_lay_144
def l_M_lay_76 (P : zS → Int32 → Prop) : Nat → zS → Int32 → Int32 → Int32 → Int32 → Prop
  | 0, _, _, _, _, _ => False
  | n + 1, S, x1, x2, x3, x4 =>
  ((gM S 0 14) ≤ x4 → ((x3 = (-1 : Int32) → (j_M_lay_124 P S x1 x2 x3)) ∧ (¬ x3 = (-1 : Int32) → (w_M_openOf x3 S (fun S1 r2 => (r2 ≤ 0 → (j_M_lay_124 P S1 x1 x2 x3)) ∧ (¬ r2 ≤ 0 → (∀ S3 : zS, S3 = sM S1 0 0 (2 : Int32) → P S3 (0 : Int32)))))))) ∧ (¬ (gM S 0 14) ≤ x4 → (w_M_isNamed x4 x2 S (fun S4 r5 => (r5 = 0 → (j_M_lay_98 P (fun S x1 x2 x3 x4 => l_M_lay_76 P n S x1 x2 x3 x4) S4 x1 x2 x3 x4)) ∧ (¬ r5 = 0 → (j_M_lay_98 P (fun S x1 x2 x3 x4 => l_M_lay_76 P n S x1 x2 x3 x4) S4 x1 x2 x4 x4)))))
set_option maxRecDepth 20000 in
set_option maxHeartbeats 4000000 in
theorem vl_M_lay_76 {E : zE} {B : zK} (C : zC E (wR B) prog_12_method_8_code "HostBenchModel" 1 24) (P : zS → Int32 → Prop) (G : zGoal E (zQ (wR B) (zPi P)) (wR B)) (hr : zRt E (some .int)) (hnl : E.2.2.2.2.2.2.2.2.2.2.1 = 5) : ∀ (n : Nat) (S : zS) (x1 : Int32) (x2 : Int32) (x3 : Int32) (x4 : Int32) , l_M_lay_76 P n S x1 x2 x3 x4 → zV E (wR B) S 76 [(0, .ref (ad B 0)), (1, .int x1), (2, .int x2), (3, .int x3), (4, .int x4)] [] := by
  intro n
  induction n with
  | zero => intro S x1 x2 x3 x4 h; exact h.elim
  | succ n ih =>
    intro S x1 x2 x3 x4 h
    unfold l_M_lay_76 at h
    refine z_iload C 4 rfl d_M_lay_76 ?_
    refine z_aload_n C 0 rfl rfl d_M_lay_78 ?_
    refine gf_M_files C (Or.inl tw_998) d_M_lay_79 ?_
    refine z_icmp_ge (tgt := 104) C d_M_lay_82 rfl (fun c => ?_) (fun c => ?_)
    · have h := h.1 c
      refine z_iload_n C 3 rfl rfl d_M_lay_104 ?_
      refine z_iconst (v := (-1 : Int32)) C rfl d_M_lay_105 ?_
      refine z_icmp_eq (tgt := 124) C d_M_lay_106 rfl (fun c => ?_) (fun c => ?_)
      · have h := h.1 c
        exact z_sub [0, 1, 2, 3] rfl (vj_M_lay_124 C P G hr hnl S x1 x2 x3 h)
      · have h := h.2 c
        refine z_aload_n C 0 rfl rfl d_M_lay_109 ?_
        refine z_iload_n C 3 rfl rfl d_M_lay_110 ?_
        refine z_callVi (rest := []) C q_M_openOf tw_1107 (c_M_openOf _ B x3 S _ h) rc_M ⟨Nat.le_of_ble_eq_true rfl, Nat.le_of_ble_eq_true rfl⟩ rfl rfl (Nat.le_of_ble_eq_true rfl) d_M_lay_111 (fun S1 r2 h => ?_)
        refine z_if_le (tgt := 124) C d_M_lay_114 rfl (fun c => ?_) (fun c => ?_)
        · have h := h.1 c
          exact z_sub [0, 1, 2, 3] rfl (vj_M_lay_124 C P G hr hnl S1 x1 x2 x3 h)
        · have h := h.2 c
          refine z_aload_n C 0 rfl rfl d_M_lay_117 ?_
          refine z_iconst (v := (2 : Int32)) C rfl d_M_lay_118 ?_
          refine pf_M_thrown C (Or.inl tw_984) d_M_lay_119 ?_
          refine z_nS (fun S3 eS3 => ?_)
          have h := h S3 eS3
          refine z_iconst (v := (0 : Int32)) C rfl d_M_lay_122 ?_
          exact z_ireturn C G hr h d_M_lay_123
    · have h := h.2 c
      refine z_aload_n C 0 rfl rfl d_M_lay_85 ?_
      refine z_iload C 4 rfl d_M_lay_86 ?_
      refine z_iload_n C 2 rfl rfl d_M_lay_88 ?_
      refine z_callVi (rest := []) C q_M_isNamed tw_1103 (c_M_isNamed _ B x4 x2 S _ h) rc_M ⟨Nat.le_of_ble_eq_true rfl, Nat.le_of_ble_eq_true rfl⟩ rfl rfl (Nat.le_of_ble_eq_true rfl) d_M_lay_89 (fun S4 r5 h => ?_)
      refine z_if_eq (tgt := 98) C d_M_lay_92 rfl (fun c => ?_) (fun c => ?_)
      · have h := h.1 c
        exact z_sub [0, 1, 2, 3, 4] rfl (vj_M_lay_98 C P G hr hnl (fun S x1 x2 x3 x4 => l_M_lay_76 P n S x1 x2 x3 x4) ih S4 x1 x2 x3 x4 h)
      · have h := h.2 c
        refine z_iload C 4 rfl d_M_lay_95 ?_
        refine z_istore_n (L' := [(3, .int x4), (0, .ref (ad B 0)), (1, .int x1), (2, .int x2), (4, .int x4)]) C hnl rfl (by decide) rfl d_M_lay_97 ?_
        exact z_sub [1, 2, 3, 0, 4] rfl (vj_M_lay_98 C P G hr hnl (fun S x1 x2 x3 x4 => l_M_lay_76 P n S x1 x2 x3 x4) ih S4 x1 x2 x4 x4 h)
def j_M_lay_59 (P : zS → Int32 → Prop) (S : zS) (x1 : Int32) (x2 : Int32) (s1 : Int32) : Prop :=
  ∀ S1 : zS, S1 = sM S 0 0 s1 → ((gM S1 0 0) ≤ 0 → (∃ n2 : Nat, l_M_lay_76 P n2 S1 x1 x2 (-1 : Int32) (0 : Int32))) ∧ (¬ (gM S1 0 0) ≤ 0 → (P S1 (0 : Int32)))
set_option maxRecDepth 20000 in
set_option maxHeartbeats 4000000 in
theorem vj_M_lay_59 {E : zE} {B : zK} (C : zC E (wR B) prog_12_method_8_code "HostBenchModel" 1 24) (P : zS → Int32 → Prop) (G : zGoal E (zQ (wR B) (zPi P)) (wR B)) (hr : zRt E (some .int)) (hnl : E.2.2.2.2.2.2.2.2.2.2.1 = 5) (S : zS) (x1 : Int32) (x2 : Int32) (s1 : Int32) (h : j_M_lay_59 P S x1 x2 s1) : zV E (wR B) S 59 [(0, .ref (ad B 0)), (1, .int x1), (2, .int x2)] [.int s1, .ref (ad B 0)] := by
  unfold j_M_lay_59 at h
  refine pf_M_thrown C (Or.inl tw_984) d_M_lay_59 ?_
  refine z_nS (fun S1 eS1 => ?_)
  have h := h S1 eS1
  refine z_aload_n C 0 rfl rfl d_M_lay_62 ?_
  refine gf_M_thrown C (Or.inl tw_984) d_M_lay_63 ?_
  refine z_if_le (tgt := 71) C d_M_lay_66 rfl (fun c => ?_) (fun c => ?_)
  · have h := h.1 c
    refine z_iconst (v := (-1 : Int32)) C rfl d_M_lay_71 ?_
    refine z_istore_n (L' := [(3, .int (-1 : Int32)), (0, .ref (ad B 0)), (1, .int x1), (2, .int x2)]) C hnl rfl (by decide) rfl d_M_lay_72 ?_
    refine z_iconst (v := (0 : Int32)) C rfl d_M_lay_73 ?_
    refine z_istore (L' := [(4, .int (0 : Int32)), (3, .int (-1 : Int32)), (0, .ref (ad B 0)), (1, .int x1), (2, .int x2)]) C hnl (by decide) rfl d_M_lay_74 ?_
    obtain ⟨n2, h⟩ := h
    exact z_sub [2, 3, 4, 1, 0] rfl (vl_M_lay_76 C P G hr hnl n2 S1 x1 x2 (-1 : Int32) (0 : Int32) h)
  · have h := h.2 c
    refine z_iconst (v := (0 : Int32)) C rfl d_M_lay_69 ?_
    exact z_ireturn C G hr h d_M_lay_70
def j_M_lay_54 (P : zS → Int32 → Prop) (S : zS) (x1 : Int32) (x2 : Int32) : Prop :=
  j_M_lay_59 P S x1 x2 (1 : Int32)
set_option maxRecDepth 20000 in
set_option maxHeartbeats 4000000 in
theorem vj_M_lay_54 {E : zE} {B : zK} (C : zC E (wR B) prog_12_method_8_code "HostBenchModel" 1 24) (P : zS → Int32 → Prop) (G : zGoal E (zQ (wR B) (zPi P)) (wR B)) (hr : zRt E (some .int)) (hnl : E.2.2.2.2.2.2.2.2.2.2.1 = 5) (S : zS) (x1 : Int32) (x2 : Int32) (h : j_M_lay_54 P S x1 x2) : zV E (wR B) S 54 [(0, .ref (ad B 0)), (1, .int x1), (2, .int x2)] [.ref (ad B 0)] := by
  unfold j_M_lay_54 at h
  refine z_iconst (v := (1 : Int32)) C rfl d_M_lay_54 ?_
  refine z_goto (tgt := 59) C d_M_lay_55 rfl ?_
  exact z_sub [0, 1, 2] rfl (vj_M_lay_59 C P G hr hnl S x1 x2 (1 : Int32) h)
def j_M_lay_27 (P : zS → Int32 → Prop) (S : zS) (x1 : Int32) (x2 : Int32) : Prop :=
  (x2 = x1 → (j_M_lay_54 P S x1 x2)) ∧ (¬ x2 = x1 → ((x2 = 0 → (j_M_lay_54 P S x1 x2)) ∧ (¬ x2 = 0 → (((24 : Int32) < x2 → (j_M_lay_54 P S x1 x2)) ∧ (¬ (24 : Int32) < x2 → ((((x1 - x2) - (1 : Int32)) ≤ (2000 : Int32) → (j_M_lay_59 P S x1 x2 (0 : Int32))) ∧ (¬ ((x1 - x2) - (1 : Int32)) ≤ (2000 : Int32) → (j_M_lay_54 P S x1 x2))))))))
set_option maxRecDepth 20000 in
set_option maxHeartbeats 4000000 in
theorem vj_M_lay_27 {E : zE} {B : zK} (C : zC E (wR B) prog_12_method_8_code "HostBenchModel" 1 24) (P : zS → Int32 → Prop) (G : zGoal E (zQ (wR B) (zPi P)) (wR B)) (hr : zRt E (some .int)) (hnl : E.2.2.2.2.2.2.2.2.2.2.1 = 5) (S : zS) (x1 : Int32) (x2 : Int32) (h : j_M_lay_27 P S x1 x2) : zV E (wR B) S 27 [(0, .ref (ad B 0)), (1, .int x1), (2, .int x2)] [] := by
  unfold j_M_lay_27 at h
  refine z_aload_n C 0 rfl rfl d_M_lay_27 ?_
  refine z_iload_n C 2 rfl rfl d_M_lay_28 ?_
  refine z_iload_n C 1 rfl rfl d_M_lay_29 ?_
  refine z_icmp_eq (tgt := 54) C d_M_lay_30 rfl (fun c => ?_) (fun c => ?_)
  · have h := h.1 c
    exact z_sub [0, 1, 2] rfl (vj_M_lay_54 C P G hr hnl S x1 x2 h)
  · have h := h.2 c
    refine z_iload_n C 2 rfl rfl d_M_lay_33 ?_
    refine z_if_eq (tgt := 54) C d_M_lay_34 rfl (fun c => ?_) (fun c => ?_)
    · have h := h.1 c
      exact z_sub [0, 1, 2] rfl (vj_M_lay_54 C P G hr hnl S x1 x2 h)
    · have h := h.2 c
      refine z_iload_n C 2 rfl rfl d_M_lay_37 ?_
      refine z_bipush (v := (24 : Int32)) C rfl d_M_lay_38 ?_
      refine z_icmp_gt (tgt := 54) C d_M_lay_40 rfl (fun c => ?_) (fun c => ?_)
      · have h := h.1 c
        exact z_sub [0, 1, 2] rfl (vj_M_lay_54 C P G hr hnl S x1 x2 h)
      · have h := h.2 c
        refine z_iload_n C 1 rfl rfl d_M_lay_43 ?_
        refine z_iload_n C 2 rfl rfl d_M_lay_44 ?_
        refine z_isub C d_M_lay_45 ?_
        refine z_iconst (v := (1 : Int32)) C rfl d_M_lay_46 ?_
        refine z_isub C d_M_lay_47 ?_
        refine z_sipush (v := (2000 : Int32)) C rfl d_M_lay_48 ?_
        refine z_icmp_le (tgt := 58) C d_M_lay_51 rfl (fun c => ?_) (fun c => ?_)
        · have h := h.1 c
          refine z_iconst (v := (0 : Int32)) C rfl d_M_lay_58 ?_
          exact z_sub [0, 1, 2] rfl (vj_M_lay_59 C P G hr hnl S x1 x2 (0 : Int32) h)
        · have h := h.2 c
          exact z_sub [0, 1, 2] rfl (vj_M_lay_54 C P G hr hnl S x1 x2 h)
def l_M_lay_7 (P : zS → Int32 → Prop) : Nat → zS → Int32 → Int32 → Prop
  | 0, _, _, _ => False
  | n + 1, S, x1, x2 =>
  (x1 ≤ x2 → (j_M_lay_27 P S x1 x2)) ∧ (¬ x1 ≤ x2 → (vp_in x2 2120 ∧ ((gM S 16 x2.toNatClampNeg) = 0 → (j_M_lay_27 P S x1 x2)) ∧ (¬ (gM S 16 x2.toNatClampNeg) = 0 → (l_M_lay_7 P n S x1 (x2 + (1 : Int32))))))
set_option maxRecDepth 20000 in
set_option maxHeartbeats 4000000 in
theorem vl_M_lay_7 {E : zE} {B : zK} (C : zC E (wR B) prog_12_method_8_code "HostBenchModel" 1 24) (P : zS → Int32 → Prop) (G : zGoal E (zQ (wR B) (zPi P)) (wR B)) (hr : zRt E (some .int)) (hnl : E.2.2.2.2.2.2.2.2.2.2.1 = 5) : ∀ (n : Nat) (S : zS) (x1 : Int32) (x2 : Int32) , l_M_lay_7 P n S x1 x2 → zV E (wR B) S 7 [(0, .ref (ad B 0)), (1, .int x1), (2, .int x2)] [] := by
  intro n
  induction n with
  | zero => intro S x1 x2 h; exact h.elim
  | succ n ih =>
    intro S x1 x2 h
    unfold l_M_lay_7 at h
    refine z_iload_n C 2 rfl rfl d_M_lay_7 ?_
    refine z_iload_n C 1 rfl rfl d_M_lay_8 ?_
    refine z_icmp_ge (tgt := 27) C d_M_lay_9 rfl (fun c => ?_) (fun c => ?_)
    · have h := h.1 c
      exact z_sub [0, 1, 2] rfl (vj_M_lay_27 C P G hr hnl S x1 x2 h)
    · have h := h.2 c
      refine z_aload_n C 0 rfl rfl d_M_lay_12 ?_
      refine gf_M_tape C (Or.inl tw_1012) d_M_lay_13 ?_
      refine z_iload_n C 2 rfl rfl d_M_lay_16 ?_
      obtain ⟨f1, h⟩ := h
      refine al_m_tape C f1 d_M_lay_17 ?_
      refine z_if_eq (tgt := 27) C d_M_lay_18 rfl (fun c => ?_) (fun c => ?_)
      · have h := h.1 c
        exact z_sub [0, 1, 2] rfl (vj_M_lay_27 C P G hr hnl S x1 x2 h)
      · have h := h.2 c
        refine z_iinc (v := x2 + (1 : Int32)) (L' := [(2, .int (x2 + (1 : Int32))), (0, .ref (ad B 0)), (1, .int x1)]) C hnl 2 rfl rfl (by decide) rfl d_M_lay_21 ?_
        refine z_goto (tgt := 7) C d_M_lay_24 rfl ?_
        exact z_sub [1, 2, 0] rfl (ih S x1 (x2 + (1 : Int32)) h)
def w_M_lay (S : zS) (P : zS → Int32 → Prop) : Prop :=
  w_M_use S (fun S1 r2 => ∃ n3 : Nat, l_M_lay_7 P n3 S1 r2 (0 : Int32))
set_option maxRecDepth 20000 in
set_option maxHeartbeats 4000000 in
theorem v_M_lay {E : zE} {B : zK} (C : zC E (wR B) prog_12_method_8_code "HostBenchModel" 1 24) (P : zS → Int32 → Prop) (G : zGoal E (zQ (wR B) (zPi P)) (wR B)) (hr : zRt E (some .int)) (hnl : E.2.2.2.2.2.2.2.2.2.2.1 = 5) (S : zS) (h : w_M_lay S P) : zV E (wR B) S 0 [(0, .ref (ad B 0))] [] := by
  unfold w_M_lay at h
  refine z_aload_n C 0 rfl rfl d_M_lay_0 ?_
  refine z_callVi (rest := []) C q_M_use tw_1095 (c_M_use _ B S _ h) rc_M ⟨Nat.le_of_ble_eq_true rfl, Nat.le_of_ble_eq_true rfl⟩ rfl rfl (Nat.le_of_ble_eq_true rfl) d_M_lay_1 (fun S1 r2 h => ?_)
  refine z_istore_n (L' := [(1, .int r2), (0, .ref (ad B 0))]) C hnl rfl (by decide) rfl d_M_lay_4 ?_
  refine z_iconst (v := (0 : Int32)) C rfl d_M_lay_5 ?_
  refine z_istore_n (L' := [(2, .int (0 : Int32)), (1, .int r2), (0, .ref (ad B 0))]) C hnl rfl (by decide) rfl d_M_lay_6 ?_
  obtain ⟨n3, h⟩ := h
  exact z_sub [2, 1, 0] rfl (vl_M_lay_7 C P G hr hnl n3 S1 r2 (0 : Int32) h)
theorem c_M_lay (l : Launch) (B : zK) (S : zS) (P : zS → Int32 → Prop) (h : w_M_lay S P) : Met l y_M_lay (Cond.code y_M_lay prog_12_method_8_code 5 (some FieldType.int) :: tT) (zRm 1 24) (zPc (wR B) [.ref (ad B 0)] S) (zQ (wR B) (zPi P)) 0 0 (wR B).2.2.2 :=
  z_met (by decide) (Nat.le_of_ble_eq_true rfl) (fun E C G hr _ hnl => v_M_lay C P G hr hnl S h)
theorem q_M_lay : zQw y_M_lay prog_12_method_8_code 5 (some FieldType.int) 0 := ⟨tw_1100, tw_1101, tw_87, tw_1102, by decide +kernel⟩
def l_M_type_37 (P : zS → Int32 → Prop) : Nat → zS → Int32 → Int32 → Prop
  | 0, _, _, _ => False
  | n + 1, S, x1, x2 =>
  (x1 ≤ x2 → (∀ S1 : zS, S1 = sM S 0 20 ((gM S 0 20) + x1) → P S1 (gM S1 0 20))) ∧ (¬ x1 ≤ x2 → (vp_in x2 2120 ∧ vp_in ((gM S 0 20) + x2) 400 ∧ ∀ S4 : zS, S4 = sM S 11 ((gM S 0 20) + x2).toNatClampNeg (gM S 16 x2.toNatClampNeg) → l_M_type_37 P n S4 x1 (x2 + (1 : Int32))))
set_option maxRecDepth 20000 in
set_option maxHeartbeats 4000000 in
theorem vl_M_type_37 {E : zE} {B : zK} (C : zC E (wR B) prog_12_method_11_code "HostBenchModel" 1 21) (P : zS → Int32 → Prop) (G : zGoal E (zQ (wR B) (zPi P)) (wR B)) (hr : zRt E (some .int)) (hnl : E.2.2.2.2.2.2.2.2.2.2.1 = 3) : ∀ (n : Nat) (S : zS) (x1 : Int32) (x2 : Int32) , l_M_type_37 P n S x1 x2 → zV E (wR B) S 37 [(0, .ref (ad B 0)), (1, .int x1), (2, .int x2)] [] := by
  intro n
  induction n with
  | zero => intro S x1 x2 h; exact h.elim
  | succ n ih =>
    intro S x1 x2 h
    unfold l_M_type_37 at h
    refine z_iload_n C 2 rfl rfl d_M_type_37 ?_
    refine z_iload_n C 1 rfl rfl d_M_type_38 ?_
    refine z_icmp_ge (tgt := 65) C d_M_type_39 rfl (fun c => ?_) (fun c => ?_)
    · have h := h.1 c
      refine z_aload_n C 0 rfl rfl d_M_type_65 ?_
      refine z_dup C rfl d_M_type_66 ?_
      refine gf_M_waiting C (Or.inl tw_1004) d_M_type_67 ?_
      refine z_iload_n C 1 rfl rfl d_M_type_70 ?_
      refine z_iadd C d_M_type_71 ?_
      refine pf_M_waiting C (Or.inl tw_1004) d_M_type_72 ?_
      refine z_nS (fun S1 eS1 => ?_)
      have h := h S1 eS1
      refine z_aload_n C 0 rfl rfl d_M_type_75 ?_
      refine gf_M_waiting C (Or.inl tw_1004) d_M_type_76 ?_
      exact z_ireturn C G hr h d_M_type_79
    · have h := h.2 c
      refine z_aload_n C 0 rfl rfl d_M_type_42 ?_
      refine gf_M_in C (Or.inl tw_1003) d_M_type_43 ?_
      refine z_aload_n C 0 rfl rfl d_M_type_46 ?_
      refine gf_M_waiting C (Or.inl tw_1004) d_M_type_47 ?_
      refine z_iload_n C 2 rfl rfl d_M_type_50 ?_
      refine z_iadd C d_M_type_51 ?_
      refine z_aload_n C 0 rfl rfl d_M_type_52 ?_
      refine gf_M_tape C (Or.inl tw_1012) d_M_type_53 ?_
      refine z_iload_n C 2 rfl rfl d_M_type_56 ?_
      obtain ⟨f2, h⟩ := h
      refine al_m_tape C f2 d_M_type_57 ?_
      obtain ⟨f3, h⟩ := h
      refine as_m_in C f3 d_M_type_58 ?_
      refine z_nS (fun S4 eS4 => ?_)
      have h := h S4 eS4
      refine z_iinc (v := x2 + (1 : Int32)) (L' := [(2, .int (x2 + (1 : Int32))), (0, .ref (ad B 0)), (1, .int x1)]) C hnl 2 rfl rfl (by decide) rfl d_M_type_59 ?_
      refine z_goto (tgt := 37) C d_M_type_62 rfl ?_
      exact z_sub [1, 2, 0] rfl (ih S4 x1 (x2 + (1 : Int32)) h)
def j_M_type_23 (P : zS → Int32 → Prop) (S : zS) (x1 : Int32) (s1 : Int32) : Prop :=
  ∀ S1 : zS, S1 = sM S 0 0 s1 → ((gM S1 0 0) ≤ 0 → (∃ n2 : Nat, l_M_type_37 P n2 S1 x1 (0 : Int32))) ∧ (¬ (gM S1 0 0) ≤ 0 → (P S1 (0 : Int32)))
set_option maxRecDepth 20000 in
set_option maxHeartbeats 4000000 in
theorem vj_M_type_23 {E : zE} {B : zK} (C : zC E (wR B) prog_12_method_11_code "HostBenchModel" 1 21) (P : zS → Int32 → Prop) (G : zGoal E (zQ (wR B) (zPi P)) (wR B)) (hr : zRt E (some .int)) (hnl : E.2.2.2.2.2.2.2.2.2.2.1 = 3) (S : zS) (x1 : Int32) (s1 : Int32) (h : j_M_type_23 P S x1 s1) : zV E (wR B) S 23 [(0, .ref (ad B 0)), (1, .int x1)] [.int s1, .ref (ad B 0)] := by
  unfold j_M_type_23 at h
  refine pf_M_thrown C (Or.inl tw_984) d_M_type_23 ?_
  refine z_nS (fun S1 eS1 => ?_)
  have h := h S1 eS1
  refine z_aload_n C 0 rfl rfl d_M_type_26 ?_
  refine gf_M_thrown C (Or.inl tw_984) d_M_type_27 ?_
  refine z_if_le (tgt := 35) C d_M_type_30 rfl (fun c => ?_) (fun c => ?_)
  · have h := h.1 c
    refine z_iconst (v := (0 : Int32)) C rfl d_M_type_35 ?_
    refine z_istore_n (L' := [(2, .int (0 : Int32)), (0, .ref (ad B 0)), (1, .int x1)]) C hnl rfl (by decide) rfl d_M_type_36 ?_
    obtain ⟨n2, h⟩ := h
    exact z_sub [1, 2, 0] rfl (vl_M_type_37 C P G hr hnl n2 S1 x1 (0 : Int32) h)
  · have h := h.2 c
    refine z_iconst (v := (0 : Int32)) C rfl d_M_type_33 ?_
    exact z_ireturn C G hr h d_M_type_34
def w_M_type (S : zS) (P : zS → Int32 → Prop) : Prop :=
  w_M_use S (fun S1 r2 => (((gM S1 0 20) + r2) ≤ (400 : Int32) → (j_M_type_23 P S1 r2 (0 : Int32))) ∧ (¬ ((gM S1 0 20) + r2) ≤ (400 : Int32) → (j_M_type_23 P S1 r2 (1 : Int32))))
set_option maxRecDepth 20000 in
set_option maxHeartbeats 4000000 in
theorem v_M_type {E : zE} {B : zK} (C : zC E (wR B) prog_12_method_11_code "HostBenchModel" 1 21) (P : zS → Int32 → Prop) (G : zGoal E (zQ (wR B) (zPi P)) (wR B)) (hr : zRt E (some .int)) (hnl : E.2.2.2.2.2.2.2.2.2.2.1 = 3) (S : zS) (h : w_M_type S P) : zV E (wR B) S 0 [(0, .ref (ad B 0))] [] := by
  unfold w_M_type at h
  refine z_aload_n C 0 rfl rfl d_M_type_0 ?_
  refine z_callVi (rest := []) C q_M_use tw_1095 (c_M_use _ B S _ h) rc_M ⟨Nat.le_of_ble_eq_true rfl, Nat.le_of_ble_eq_true rfl⟩ rfl rfl (Nat.le_of_ble_eq_true rfl) d_M_type_1 (fun S1 r2 h => ?_)
  refine z_istore_n (L' := [(1, .int r2), (0, .ref (ad B 0))]) C hnl rfl (by decide) rfl d_M_type_4 ?_
  refine z_aload_n C 1 rfl rfl d_M_type_5 ?_
  refine z_aload_n C 1 rfl rfl d_M_type_6 ?_
  refine gf_M_waiting C (Or.inl tw_1004) d_M_type_7 ?_
  refine z_iload_n C 0 rfl rfl d_M_type_10 ?_
  refine z_iadd C d_M_type_11 ?_
  refine z_sipush (v := (400 : Int32)) C rfl d_M_type_12 ?_
  refine z_icmp_le (tgt := 22) C d_M_type_15 rfl (fun c => ?_) (fun c => ?_)
  · have h := h.1 c
    refine z_iconst (v := (0 : Int32)) C rfl d_M_type_22 ?_
    exact z_sub [1, 0] rfl (vj_M_type_23 C P G hr hnl S1 r2 (0 : Int32) h)
  · have h := h.2 c
    refine z_iconst (v := (1 : Int32)) C rfl d_M_type_18 ?_
    refine z_goto (tgt := 23) C d_M_type_19 rfl ?_
    exact z_sub [1, 0] rfl (vj_M_type_23 C P G hr hnl S1 r2 (1 : Int32) h)
theorem c_M_type (l : Launch) (B : zK) (S : zS) (P : zS → Int32 → Prop) (h : w_M_type S P) : Met l y_M_type (Cond.code y_M_type prog_12_method_11_code 3 (some FieldType.int) :: tT) (zRm 1 21) (zPc (wR B) [.ref (ad B 0)] S) (zQ (wR B) (zPi P)) 0 0 (wR B).2.2.2 :=
  z_met (by decide) (Nat.le_of_ble_eq_true rfl) (fun E C G hr _ hnl => v_M_type C P G hr hnl S h)
theorem q_M_type : zQw y_M_type prog_12_method_11_code 3 (some FieldType.int) 0 := ⟨tw_1112, tw_1113, tw_87, tw_1114, by decide +kernel⟩
def j_M_command_32 (P : zS → Int32 → Prop) (K9 : zS → Int32 → Int32 → Int32 → Prop) (S : zS) (x1 : Int32) (x3 : Int32) (s0 : Int32) : Prop :=
  K9 S x1 s0 (x3 + (1 : Int32))
set_option maxRecDepth 20000 in
set_option maxHeartbeats 4000000 in
theorem vj_M_command_32 {E : zE} {B : zK} (C : zC E (wR B) prog_12_method_12_code "HostBenchModel" 1 21) (P : zS → Int32 → Prop) (G : zGoal E (zQ (wR B) (zPi P)) (wR B)) (hr : zRt E (some .int)) (hnl : E.2.2.2.2.2.2.2.2.2.2.1 = 4) (K9 : zS → Int32 → Int32 → Int32 → Prop) (hK9 : ∀ (S : zS) (x1 : Int32) (x2 : Int32) (x3 : Int32), K9 S x1 x2 x3 → zV E (wR B) S 9 [(0, .ref (ad B 0)), (1, .int x1), (2, .int x2), (3, .int x3)] []) (S : zS) (x1 : Int32) (x3 : Int32) (s0 : Int32) (h : j_M_command_32 P K9 S x1 x3 s0) : zV E (wR B) S 32 [(0, .ref (ad B 0)), (1, .int x1), (3, .int x3)] [.int s0] := by
  unfold j_M_command_32 at h
  refine z_istore_n (L' := [(2, .int s0), (0, .ref (ad B 0)), (1, .int x1), (3, .int x3)]) C hnl rfl (by decide) rfl d_M_command_32 ?_
  refine z_iinc (v := x3 + (1 : Int32)) (L' := [(3, .int (x3 + (1 : Int32))), (2, .int s0), (0, .ref (ad B 0)), (1, .int x1)]) C hnl 3 rfl rfl (by decide) rfl d_M_command_33 ?_
  refine z_goto (tgt := 9) C d_M_command_36 rfl ?_
  exact z_sub [2, 3, 1, 0] rfl (hK9 S x1 s0 (x3 + (1 : Int32)) h)
def j_M_command_27 (P : zS → Int32 → Prop) (K9 : zS → Int32 → Int32 → Int32 → Prop) (S : zS) (x1 : Int32) (x3 : Int32) : Prop :=
  j_M_command_32 P K9 S x1 x3 (1 : Int32)
set_option maxRecDepth 20000 in
set_option maxHeartbeats 4000000 in
theorem vj_M_command_27 {E : zE} {B : zK} (C : zC E (wR B) prog_12_method_12_code "HostBenchModel" 1 21) (P : zS → Int32 → Prop) (G : zGoal E (zQ (wR B) (zPi P)) (wR B)) (hr : zRt E (some .int)) (hnl : E.2.2.2.2.2.2.2.2.2.2.1 = 4) (K9 : zS → Int32 → Int32 → Int32 → Prop) (hK9 : ∀ (S : zS) (x1 : Int32) (x2 : Int32) (x3 : Int32), K9 S x1 x2 x3 → zV E (wR B) S 9 [(0, .ref (ad B 0)), (1, .int x1), (2, .int x2), (3, .int x3)] []) (S : zS) (x1 : Int32) (x3 : Int32) (h : j_M_command_27 P K9 S x1 x3) : zV E (wR B) S 27 [(0, .ref (ad B 0)), (1, .int x1), (3, .int x3)] [] := by
  unfold j_M_command_27 at h
  refine z_iconst (v := (1 : Int32)) C rfl d_M_command_27 ?_
  refine z_goto (tgt := 32) C d_M_command_28 rfl ?_
  exact z_sub [0, 1, 2] rfl (vj_M_command_32 C P G hr hnl K9 hK9 S x1 x3 (1 : Int32) h)
def l_M_command_69 (P : zS → Int32 → Prop) : Nat → zS → Int32 → Int32 → Prop
  | 0, _, _, _ => False
  | n + 1, S, x1, x3 =>
  (x1 ≤ x3 → (∀ S1 : zS, S1 = sM S 0 26 x1 → P S1 x1)) ∧ (¬ x1 ≤ x3 → (vp_in x3 2120 ∧ vp_in x3 80 ∧ ∀ S4 : zS, S4 = sM S 15 x3.toNatClampNeg (gM S 16 x3.toNatClampNeg) → l_M_command_69 P n S4 x1 (x3 + (1 : Int32))))
set_option maxRecDepth 20000 in
set_option maxHeartbeats 4000000 in
theorem vl_M_command_69 {E : zE} {B : zK} (C : zC E (wR B) prog_12_method_12_code "HostBenchModel" 1 21) (P : zS → Int32 → Prop) (G : zGoal E (zQ (wR B) (zPi P)) (wR B)) (hr : zRt E (some .int)) (hnl : E.2.2.2.2.2.2.2.2.2.2.1 = 4) : ∀ (n : Nat) (S : zS) (x1 : Int32) (x3 : Int32) , l_M_command_69 P n S x1 x3 → zV E (wR B) S 69 [(0, .ref (ad B 0)), (1, .int x1), (3, .int x3)] [] := by
  intro n
  induction n with
  | zero => intro S x1 x3 h; exact h.elim
  | succ n ih =>
    intro S x1 x3 h
    unfold l_M_command_69 at h
    refine z_iload_n C 2 rfl rfl d_M_command_69 ?_
    refine z_iload_n C 1 rfl rfl d_M_command_70 ?_
    refine z_icmp_ge (tgt := 92) C d_M_command_71 rfl (fun c => ?_) (fun c => ?_)
    · have h := h.1 c
      refine z_aload_n C 0 rfl rfl d_M_command_92 ?_
      refine z_iload_n C 1 rfl rfl d_M_command_93 ?_
      refine pf_M_commandSize C (Or.inl tw_1010) d_M_command_94 ?_
      refine z_nS (fun S1 eS1 => ?_)
      have h := h S1 eS1
      refine z_iload_n C 1 rfl rfl d_M_command_97 ?_
      exact z_ireturn C G hr h d_M_command_98
    · have h := h.2 c
      refine z_aload_n C 0 rfl rfl d_M_command_74 ?_
      refine gf_M_command C (Or.inl tw_1009) d_M_command_75 ?_
      refine z_iload_n C 2 rfl rfl d_M_command_78 ?_
      refine z_aload_n C 0 rfl rfl d_M_command_79 ?_
      refine gf_M_tape C (Or.inl tw_1012) d_M_command_80 ?_
      refine z_iload_n C 2 rfl rfl d_M_command_83 ?_
      obtain ⟨f2, h⟩ := h
      refine al_m_tape C f2 d_M_command_84 ?_
      obtain ⟨f3, h⟩ := h
      refine as_m_command C f3 d_M_command_85 ?_
      refine z_nS (fun S4 eS4 => ?_)
      have h := h S4 eS4
      refine z_iinc (v := x3 + (1 : Int32)) (L' := [(3, .int (x3 + (1 : Int32))), (0, .ref (ad B 0)), (1, .int x1)]) C hnl 2 rfl rfl (by decide) rfl d_M_command_86 ?_
      refine z_goto (tgt := 69) C d_M_command_89 rfl ?_
      exact z_sub [1, 2, 0] rfl (ih S4 x1 (x3 + (1 : Int32)) h)
def j_M_command_55 (P : zS → Int32 → Prop) (S : zS) (x1 : Int32) (s1 : Int32) : Prop :=
  ∀ S1 : zS, S1 = sM S 0 0 s1 → ((gM S1 0 0) ≤ 0 → (∃ n2 : Nat, l_M_command_69 P n2 S1 x1 (0 : Int32))) ∧ (¬ (gM S1 0 0) ≤ 0 → (P S1 (0 : Int32)))
set_option maxRecDepth 20000 in
set_option maxHeartbeats 4000000 in
theorem vj_M_command_55 {E : zE} {B : zK} (C : zC E (wR B) prog_12_method_12_code "HostBenchModel" 1 21) (P : zS → Int32 → Prop) (G : zGoal E (zQ (wR B) (zPi P)) (wR B)) (hr : zRt E (some .int)) (hnl : E.2.2.2.2.2.2.2.2.2.2.1 = 4) (S : zS) (x1 : Int32) (s1 : Int32) (h : j_M_command_55 P S x1 s1) : zV E (wR B) S 55 [(0, .ref (ad B 0)), (1, .int x1)] [.int s1, .ref (ad B 0)] := by
  unfold j_M_command_55 at h
  refine pf_M_thrown C (Or.inl tw_984) d_M_command_55 ?_
  refine z_nS (fun S1 eS1 => ?_)
  have h := h S1 eS1
  refine z_aload_n C 0 rfl rfl d_M_command_58 ?_
  refine gf_M_thrown C (Or.inl tw_984) d_M_command_59 ?_
  refine z_if_le (tgt := 67) C d_M_command_62 rfl (fun c => ?_) (fun c => ?_)
  · have h := h.1 c
    refine z_iconst (v := (0 : Int32)) C rfl d_M_command_67 ?_
    refine z_istore_n (L' := [(3, .int (0 : Int32)), (0, .ref (ad B 0)), (1, .int x1)]) C hnl rfl (by decide) rfl d_M_command_68 ?_
    obtain ⟨n2, h⟩ := h
    exact z_sub [1, 2, 0] rfl (vl_M_command_69 C P G hr hnl n2 S1 x1 (0 : Int32) h)
  · have h := h.2 c
    refine z_iconst (v := (0 : Int32)) C rfl d_M_command_65 ?_
    exact z_ireturn C G hr h d_M_command_66
def j_M_command_50 (P : zS → Int32 → Prop) (S : zS) (x1 : Int32) : Prop :=
  j_M_command_55 P S x1 (1 : Int32)
set_option maxRecDepth 20000 in
set_option maxHeartbeats 4000000 in
theorem vj_M_command_50 {E : zE} {B : zK} (C : zC E (wR B) prog_12_method_12_code "HostBenchModel" 1 21) (P : zS → Int32 → Prop) (G : zGoal E (zQ (wR B) (zPi P)) (wR B)) (hr : zRt E (some .int)) (hnl : E.2.2.2.2.2.2.2.2.2.2.1 = 4) (S : zS) (x1 : Int32) (h : j_M_command_50 P S x1) : zV E (wR B) S 50 [(0, .ref (ad B 0)), (1, .int x1)] [.ref (ad B 0)] := by
  unfold j_M_command_50 at h
  refine z_iconst (v := (1 : Int32)) C rfl d_M_command_50 ?_
  refine z_goto (tgt := 55) C d_M_command_51 rfl ?_
  exact z_sub [0, 1] rfl (vj_M_command_55 C P G hr hnl S x1 (1 : Int32) h)
def l_M_command_9 (P : zS → Int32 → Prop) : Nat → zS → Int32 → Int32 → Int32 → Prop
  | 0, _, _, _, _ => False
  | n + 1, S, x1, x2, x3 =>
  (x1 ≤ x3 → (((80 : Int32) < x1 → (j_M_command_50 P S x1)) ∧ (¬ (80 : Int32) < x1 → ((x2 = 0 → (j_M_command_55 P S x1 (0 : Int32))) ∧ (¬ x2 = 0 → (j_M_command_50 P S x1)))))) ∧ (¬ x1 ≤ x3 → ((x2 = 0 → (vp_in x3 2120 ∧ ((gM S 16 x3.toNatClampNeg) = 0 → (j_M_command_27 P (fun S x1 x2 x3 => l_M_command_9 P n S x1 x2 x3) S x1 x3)) ∧ (¬ (gM S 16 x3.toNatClampNeg) = 0 → (j_M_command_32 P (fun S x1 x2 x3 => l_M_command_9 P n S x1 x2 x3) S x1 x3 (0 : Int32))))) ∧ (¬ x2 = 0 → (j_M_command_27 P (fun S x1 x2 x3 => l_M_command_9 P n S x1 x2 x3) S x1 x3))))
set_option maxRecDepth 20000 in
set_option maxHeartbeats 4000000 in
theorem vl_M_command_9 {E : zE} {B : zK} (C : zC E (wR B) prog_12_method_12_code "HostBenchModel" 1 21) (P : zS → Int32 → Prop) (G : zGoal E (zQ (wR B) (zPi P)) (wR B)) (hr : zRt E (some .int)) (hnl : E.2.2.2.2.2.2.2.2.2.2.1 = 4) : ∀ (n : Nat) (S : zS) (x1 : Int32) (x2 : Int32) (x3 : Int32) , l_M_command_9 P n S x1 x2 x3 → zV E (wR B) S 9 [(0, .ref (ad B 0)), (1, .int x1), (2, .int x2), (3, .int x3)] [] := by
  intro n
  induction n with
  | zero => intro S x1 x2 x3 h; exact h.elim
  | succ n ih =>
    intro S x1 x2 x3 h
    unfold l_M_command_9 at h
    refine z_iload_n C 3 rfl rfl d_M_command_9 ?_
    refine z_iload_n C 1 rfl rfl d_M_command_10 ?_
    refine z_icmp_ge (tgt := 39) C d_M_command_11 rfl (fun c => ?_) (fun c => ?_)
    · have h := h.1 c
      refine z_aload_n C 0 rfl rfl d_M_command_39 ?_
      refine z_iload_n C 1 rfl rfl d_M_command_40 ?_
      refine z_bipush (v := (80 : Int32)) C rfl d_M_command_41 ?_
      refine z_icmp_gt (tgt := 50) C d_M_command_43 rfl (fun c => ?_) (fun c => ?_)
      · have h := h.1 c
        exact z_sub [0, 1] rfl (vj_M_command_50 C P G hr hnl S x1 h)
      · have h := h.2 c
        refine z_iload_n C 2 rfl rfl d_M_command_46 ?_
        refine z_if_eq (tgt := 54) C d_M_command_47 rfl (fun c => ?_) (fun c => ?_)
        · have h := h.1 c
          refine z_iconst (v := (0 : Int32)) C rfl d_M_command_54 ?_
          exact z_sub [0, 1] rfl (vj_M_command_55 C P G hr hnl S x1 (0 : Int32) h)
        · have h := h.2 c
          exact z_sub [0, 1] rfl (vj_M_command_50 C P G hr hnl S x1 h)
    · have h := h.2 c
      refine z_iload_n C 2 rfl rfl d_M_command_14 ?_
      refine z_if_ne (tgt := 27) C d_M_command_15 rfl (fun c => ?_) (fun c => ?_)
      · have h := h.2 c
        exact z_sub [0, 1, 3] rfl (vj_M_command_27 C P G hr hnl (fun S x1 x2 x3 => l_M_command_9 P n S x1 x2 x3) ih S x1 x3 h)
      · have h := h.1 c
        refine z_aload_n C 0 rfl rfl d_M_command_18 ?_
        refine gf_M_tape C (Or.inl tw_1012) d_M_command_19 ?_
        refine z_iload_n C 3 rfl rfl d_M_command_22 ?_
        obtain ⟨f1, h⟩ := h
        refine al_m_tape C f1 d_M_command_23 ?_
        refine z_if_ne (tgt := 31) C d_M_command_24 rfl (fun c => ?_) (fun c => ?_)
        · have h := h.2 c
          refine z_iconst (v := (0 : Int32)) C rfl d_M_command_31 ?_
          exact z_sub [0, 1, 3] rfl (vj_M_command_32 C P G hr hnl (fun S x1 x2 x3 => l_M_command_9 P n S x1 x2 x3) ih S x1 x3 (0 : Int32) h)
        · have h := h.1 c
          exact z_sub [0, 1, 3] rfl (vj_M_command_27 C P G hr hnl (fun S x1 x2 x3 => l_M_command_9 P n S x1 x2 x3) ih S x1 x3 h)
def w_M_command (S : zS) (P : zS → Int32 → Prop) : Prop :=
  w_M_use S (fun S1 r2 => ∃ n3 : Nat, l_M_command_9 P n3 S1 r2 (0 : Int32) (0 : Int32))
set_option maxRecDepth 20000 in
set_option maxHeartbeats 4000000 in
theorem v_M_command {E : zE} {B : zK} (C : zC E (wR B) prog_12_method_12_code "HostBenchModel" 1 21) (P : zS → Int32 → Prop) (G : zGoal E (zQ (wR B) (zPi P)) (wR B)) (hr : zRt E (some .int)) (hnl : E.2.2.2.2.2.2.2.2.2.2.1 = 4) (S : zS) (h : w_M_command S P) : zV E (wR B) S 0 [(0, .ref (ad B 0))] [] := by
  unfold w_M_command at h
  refine z_aload_n C 0 rfl rfl d_M_command_0 ?_
  refine z_callVi (rest := []) C q_M_use tw_1095 (c_M_use _ B S _ h) rc_M ⟨Nat.le_of_ble_eq_true rfl, Nat.le_of_ble_eq_true rfl⟩ rfl rfl (Nat.le_of_ble_eq_true rfl) d_M_command_1 (fun S1 r2 h => ?_)
  refine z_istore_n (L' := [(1, .int r2), (0, .ref (ad B 0))]) C hnl rfl (by decide) rfl d_M_command_4 ?_
  refine z_iconst (v := (0 : Int32)) C rfl d_M_command_5 ?_
  refine z_istore_n (L' := [(2, .int (0 : Int32)), (1, .int r2), (0, .ref (ad B 0))]) C hnl rfl (by decide) rfl d_M_command_6 ?_
  refine z_iconst (v := (0 : Int32)) C rfl d_M_command_7 ?_
  refine z_istore_n (L' := [(3, .int (0 : Int32)), (2, .int (0 : Int32)), (1, .int r2), (0, .ref (ad B 0))]) C hnl rfl (by decide) rfl d_M_command_8 ?_
  obtain ⟨n3, h⟩ := h
  exact z_sub [3, 2, 1, 0] rfl (vl_M_command_9 C P G hr hnl n3 S1 r2 (0 : Int32) (0 : Int32) h)
theorem c_M_command (l : Launch) (B : zK) (S : zS) (P : zS → Int32 → Prop) (h : w_M_command S P) : Met l y_M_command (Cond.code y_M_command prog_12_method_12_code 4 (some FieldType.int) :: tT) (zRm 1 21) (zPc (wR B) [.ref (ad B 0)] S) (zQ (wR B) (zPi P)) 0 0 (wR B).2.2.2 :=
  z_met (by decide) (Nat.le_of_ble_eq_true rfl) (fun E C G hr _ hnl => v_M_command C P G hr hnl S h)
theorem q_M_command : zQw y_M_command prog_12_method_12_code 4 (some FieldType.int) 0 := ⟨tw_1116, tw_1117, tw_87, tw_1118, by decide +kernel⟩
def w_M_clock (a1 : Int32) (S : zS) (P : zS → Prop) : Prop :=
  ∀ S1 : zS, S1 = sM S 0 0 (0 : Int32) → ∀ S2 : zS, S2 = sM S1 0 27 a1 → P S2
set_option maxRecDepth 20000 in
set_option maxHeartbeats 4000000 in
theorem v_M_clock {E : zE} {B : zK} (C : zC E (wR B) prog_12_method_13_code "HostBenchModel" 0 0) (a1 : Int32) (P : zS → Prop) (G : zGoal E (zQ (wR B) (zPv P)) (wR B)) (hr : zRt E (none)) (hnl : E.2.2.2.2.2.2.2.2.2.2.1 = 2) (S : zS) (h : w_M_clock a1 S P) : zV E (wR B) S 0 [(0, .ref (ad B 0)), (1, .int a1)] [] := by
  unfold w_M_clock at h
  refine z_aload_n C 0 rfl rfl d_M_clock_0 ?_
  refine z_iconst (v := (0 : Int32)) C rfl d_M_clock_1 ?_
  refine pf_M_thrown C (Or.inl tw_984) d_M_clock_2 ?_
  refine z_nS (fun S1 eS1 => ?_)
  have h := h S1 eS1
  refine z_aload_n C 0 rfl rfl d_M_clock_5 ?_
  refine z_iload_n C 1 rfl rfl d_M_clock_6 ?_
  refine pf_M_clock C (Or.inl tw_1011) d_M_clock_7 ?_
  refine z_nS (fun S2 eS2 => ?_)
  have h := h S2 eS2
  exact z_vreturn C G hr h d_M_clock_10
theorem c_M_clock (l : Launch) (B : zK) (a1 : Int32) (S : zS) (P : zS → Prop) (h : w_M_clock a1 S P) : Met l y_M_clock (Cond.code y_M_clock prog_12_method_13_code 2 none :: tT) (zRm 0 0) (zPc (wR B) [.ref (ad B 0), .int a1] S) (zQ (wR B) (zPv P)) 0 0 (wR B).2.2.2 :=
  z_met (by decide) (Nat.le_of_ble_eq_true rfl) (fun E C G hr _ hnl => v_M_clock C a1 P G hr hnl S h)
theorem q_M_clock : zQw y_M_clock prog_12_method_13_code 2 none 1 := ⟨tw_1120, tw_1121, tw_87, tw_1122, by decide +kernel⟩
def l_M_begin_7 (P : zS → Prop) : Nat → zS → Int32 → Prop
  | 0, _, _ => False
  | n + 1, S, x1 =>
  ((32 : Int32) ≤ x1 → (∀ S1 : zS, S1 = sM S 0 3 (0 : Int32) → ∀ S2 : zS, S2 = sM S1 0 4 (0 : Int32) → ∀ S3 : zS, S3 = sM S2 0 5 (0 : Int32) → ∀ S4 : zS, S4 = sM S3 0 6 (0 : Int32) → P S4)) ∧ (¬ (32 : Int32) ≤ x1 → (vp_in x1 32 ∧ ∀ S6 : zS, S6 = sM S 2 x1.toNatClampNeg (0 : Int32) → l_M_begin_7 P n S6 (x1 + (1 : Int32))))
set_option maxRecDepth 20000 in
set_option maxHeartbeats 4000000 in
theorem vl_M_begin_7 {E : zE} {B : zK} (C : zC E (wR B) prog_12_method_14_code "HostBenchModel" 0 0) (P : zS → Prop) (G : zGoal E (zQ (wR B) (zPv P)) (wR B)) (hr : zRt E (none)) (hnl : E.2.2.2.2.2.2.2.2.2.2.1 = 2) : ∀ (n : Nat) (S : zS) (x1 : Int32) , l_M_begin_7 P n S x1 → zV E (wR B) S 7 [(0, .ref (ad B 0)), (1, .int x1)] [] := by
  intro n
  induction n with
  | zero => intro S x1 h; exact h.elim
  | succ n ih =>
    intro S x1 h
    unfold l_M_begin_7 at h
    refine z_iload_n C 1 rfl rfl d_M_begin_7 ?_
    refine z_bipush (v := (32 : Int32)) C rfl d_M_begin_8 ?_
    refine z_icmp_ge (tgt := 26) C d_M_begin_10 rfl (fun c => ?_) (fun c => ?_)
    · have h := h.1 c
      refine z_aload_n C 0 rfl rfl d_M_begin_26 ?_
      refine z_iconst (v := (0 : Int32)) C rfl d_M_begin_27 ?_
      refine pf_M_pc C (Or.inl tw_987) d_M_begin_28 ?_
      refine z_nS (fun S1 eS1 => ?_)
      have h := h S1 eS1
      refine z_aload_n C 0 rfl rfl d_M_begin_31 ?_
      refine z_iconst (v := (0 : Int32)) C rfl d_M_begin_32 ?_
      refine pf_M_state C (Or.inl tw_988) d_M_begin_33 ?_
      refine z_nS (fun S2 eS2 => ?_)
      have h := h S2 eS2
      refine z_aload_n C 0 rfl rfl d_M_begin_36 ?_
      refine z_iconst (v := (0 : Int32)) C rfl d_M_begin_37 ?_
      refine pf_M_trap C (Or.inl tw_989) d_M_begin_38 ?_
      refine z_nS (fun S3 eS3 => ?_)
      have h := h S3 eS3
      refine z_aload_n C 0 rfl rfl d_M_begin_41 ?_
      refine z_iconst (v := (0 : Int32)) C rfl d_M_begin_42 ?_
      refine pf_M_code C (Or.inl tw_990) d_M_begin_43 ?_
      refine z_nS (fun S4 eS4 => ?_)
      have h := h S4 eS4
      exact z_vreturn C G hr h d_M_begin_46
    · have h := h.2 c
      refine z_aload_n C 0 rfl rfl d_M_begin_13 ?_
      refine gf_M_x C (Or.inl tw_986) d_M_begin_14 ?_
      refine z_iload_n C 1 rfl rfl d_M_begin_17 ?_
      refine z_iconst (v := (0 : Int32)) C rfl d_M_begin_18 ?_
      obtain ⟨f5, h⟩ := h
      refine as_m_x C f5 d_M_begin_19 ?_
      refine z_nS (fun S6 eS6 => ?_)
      have h := h S6 eS6
      refine z_iinc (v := x1 + (1 : Int32)) (L' := [(1, .int (x1 + (1 : Int32))), (0, .ref (ad B 0))]) C hnl 1 rfl rfl (by decide) rfl d_M_begin_20 ?_
      refine z_goto (tgt := 7) C d_M_begin_23 rfl ?_
      exact z_sub [1, 0] rfl (ih S6 (x1 + (1 : Int32)) h)
def w_M_begin (S : zS) (P : zS → Prop) : Prop :=
  ∀ S1 : zS, S1 = sM S 0 0 (0 : Int32) → ∃ n2 : Nat, l_M_begin_7 P n2 S1 (0 : Int32)
set_option maxRecDepth 20000 in
set_option maxHeartbeats 4000000 in
theorem v_M_begin {E : zE} {B : zK} (C : zC E (wR B) prog_12_method_14_code "HostBenchModel" 0 0) (P : zS → Prop) (G : zGoal E (zQ (wR B) (zPv P)) (wR B)) (hr : zRt E (none)) (hnl : E.2.2.2.2.2.2.2.2.2.2.1 = 2) (S : zS) (h : w_M_begin S P) : zV E (wR B) S 0 [(0, .ref (ad B 0))] [] := by
  unfold w_M_begin at h
  refine z_aload_n C 0 rfl rfl d_M_begin_0 ?_
  refine z_iconst (v := (0 : Int32)) C rfl d_M_begin_1 ?_
  refine pf_M_thrown C (Or.inl tw_984) d_M_begin_2 ?_
  refine z_nS (fun S1 eS1 => ?_)
  have h := h S1 eS1
  refine z_iconst (v := (0 : Int32)) C rfl d_M_begin_5 ?_
  refine z_istore_n (L' := [(1, .int (0 : Int32)), (0, .ref (ad B 0))]) C hnl rfl (by decide) rfl d_M_begin_6 ?_
  obtain ⟨n2, h⟩ := h
  exact z_sub [1, 0] rfl (vl_M_begin_7 C P G hr hnl n2 S1 (0 : Int32) h)
theorem c_M_begin (l : Launch) (B : zK) (S : zS) (P : zS → Prop) (h : w_M_begin S P) : Met l y_M_begin (Cond.code y_M_begin prog_12_method_14_code 2 none :: tT) (zRm 0 0) (zPc (wR B) [.ref (ad B 0)] S) (zQ (wR B) (zPv P)) 0 0 (wR B).2.2.2 :=
  z_met (by decide) (Nat.le_of_ble_eq_true rfl) (fun E C G hr _ hnl => v_M_begin C P G hr hnl S h)
theorem q_M_begin : zQw y_M_begin prog_12_method_14_code 2 none 0 := ⟨tw_1124, tw_1125, tw_87, tw_1126, by decide +kernel⟩
def w_M_whole (a1 : Int32) (S : zS) (P : zS → Int64 → Prop) : Prop :=
  P S (a1.toInt64 &&& (4294967295 : Int64))
set_option maxRecDepth 20000 in
set_option maxHeartbeats 4000000 in
theorem v_M_whole {E : zE} {B : zK} (C : zC E (wR B) prog_12_method_15_code "HostBenchModel" 0 0) (a1 : Int32) (P : zS → Int64 → Prop) (G : zGoal E (zQ (wR B) (zPl P)) (wR B)) (hr : zRt E (some .long)) (hnl : E.2.2.2.2.2.2.2.2.2.2.1 = 1) (S : zS) (h : w_M_whole a1 S P) : zV E (wR B) S 0 [(0, .int a1)] [] := by
  unfold w_M_whole at h
  refine z_iload_n C 0 rfl rfl d_M_whole_0 ?_
  refine z_i2l C d_M_whole_1 ?_
  refine z_ldc2 (v := (4294967295 : Int64)) C tw_1145 d_M_whole_2 ?_
  refine z_land C d_M_whole_5 ?_
  exact z_lreturn C G hr h d_M_whole_6
theorem c_M_whole (l : Launch) (B : zK) (a1 : Int32) (S : zS) (P : zS → Int64 → Prop) (h : w_M_whole a1 S P) : Met l y_M_whole (Cond.code y_M_whole prog_12_method_15_code 1 (some FieldType.long) :: tT) (zRm 0 0) (zPc (wR B) [.int a1] S) (zQ (wR B) (zPl P)) 0 0 (wR B).2.2.2 :=
  z_met (by decide) (Nat.le_of_ble_eq_true rfl) (fun E C G hr _ hnl => v_M_whole C a1 P G hr hnl S h)
theorem q_M_whole : zQs y_M_whole prog_12_method_15_code 1 (some FieldType.long) 1 := ⟨tw_1143, tw_87, tw_1144, by decide +kernel⟩
def w_M_isArea (a1 : Int32) (a2 : Int32) (S : zS) (P : zS → Int32 → Prop) : Prop :=
  w_M_whole a1 S (fun S1 r2 => w_M_whole a2 S1 (fun S3 r4 => (0 < (lg_cmp (r2 + r4) (16384 : Int64)) → (P S3 (0 : Int32))) ∧ (¬ 0 < (lg_cmp (r2 + r4) (16384 : Int64)) → (P S3 (1 : Int32)))))
set_option maxRecDepth 20000 in
set_option maxHeartbeats 4000000 in
theorem v_M_isArea {E : zE} {B : zK} (C : zC E (wR B) prog_12_method_16_code "HostBenchModel" 1 20) (a1 : Int32) (a2 : Int32) (P : zS → Int32 → Prop) (G : zGoal E (zQ (wR B) (zPi P)) (wR B)) (hr : zRt E (some .boolean)) (hnl : E.2.2.2.2.2.2.2.2.2.2.1 = 2) (S : zS) (h : w_M_isArea a1 a2 S P) : zV E (wR B) S 0 [(0, .int a1), (1, .int a2)] [] := by
  unfold w_M_isArea at h
  refine z_iload_n C 0 rfl rfl d_M_isArea_0 ?_
  refine z_callSl (rest := []) C q_M_whole rfl tw_1142 (c_M_whole _ B a1 S _ h) ⟨Nat.le_of_ble_eq_true rfl, Nat.le_of_ble_eq_true rfl⟩ rfl rfl (Nat.le_of_ble_eq_true rfl) d_M_isArea_1 (fun S1 r2 h => ?_)
  refine z_iload_n C 1 rfl rfl d_M_isArea_4 ?_
  refine z_callSl (rest := [.long r2]) C q_M_whole rfl tw_1142 (c_M_whole _ B a2 S1 _ h) ⟨Nat.le_of_ble_eq_true rfl, Nat.le_of_ble_eq_true rfl⟩ rfl rfl (Nat.le_of_ble_eq_true rfl) d_M_isArea_5 (fun S3 r4 h => ?_)
  refine z_ladd C d_M_isArea_8 ?_
  refine z_ldc2 (v := (16384 : Int64)) C tw_1146 d_M_isArea_9 ?_
  refine z_lcmp C d_M_isArea_12 ?_
  refine z_if_gt (tgt := 20) C d_M_isArea_13 rfl (fun c => ?_) (fun c => ?_)
  · have h := h.1 c
    refine z_iconst (v := (0 : Int32)) C rfl d_M_isArea_20 ?_
    exact z_zreturn C G hr rfl h d_M_isArea_21
  · have h := h.2 c
    refine z_iconst (v := (1 : Int32)) C rfl d_M_isArea_16 ?_
    refine z_goto (tgt := 21) C d_M_isArea_17 rfl ?_
    exact z_zreturn C G hr rfl h d_M_isArea_21
theorem c_M_isArea (l : Launch) (B : zK) (a1 : Int32) (a2 : Int32) (S : zS) (P : zS → Int32 → Prop) (h : w_M_isArea a1 a2 S P) : Met l y_M_isArea (Cond.code y_M_isArea prog_12_method_16_code 2 (some FieldType.boolean) :: tT) (zRm 1 20) (zPc (wR B) [.int a1, .int a2] S) (zQ (wR B) (zPi P)) 0 0 (wR B).2.2.2 :=
  z_met (by decide) (Nat.le_of_ble_eq_true rfl) (fun E C G hr _ hnl => v_M_isArea C a1 a2 P G hr hnl S h)
theorem q_M_isArea : zQs y_M_isArea prog_12_method_16_code 2 (some FieldType.boolean) 2 := ⟨tw_1140, tw_87, tw_1141, by decide +kernel⟩
def w_M_word (a1 : Int32) (S : zS) (P : zS → Int32 → Prop) : Prop :=
  vp_in a1 16384 ∧ vp_in (a1 + (1 : Int32)) 16384 ∧ vp_in (a1 + (2 : Int32)) 16384 ∧ vp_in (a1 + (3 : Int32)) 16384 ∧ P S ((((gM S 1 a1.toNatClampNeg) ||| ((gM S 1 (a1 + (1 : Int32)).toNatClampNeg) <<< ((8 : Int32) &&& 31))) ||| ((gM S 1 (a1 + (2 : Int32)).toNatClampNeg) <<< ((16 : Int32) &&& 31))) ||| ((gM S 1 (a1 + (3 : Int32)).toNatClampNeg) <<< ((24 : Int32) &&& 31)))
set_option maxRecDepth 20000 in
set_option maxHeartbeats 4000000 in
theorem v_M_word {E : zE} {B : zK} (C : zC E (wR B) prog_12_method_17_code "HostBenchModel" 0 0) (a1 : Int32) (P : zS → Int32 → Prop) (G : zGoal E (zQ (wR B) (zPi P)) (wR B)) (hr : zRt E (some .int)) (hnl : E.2.2.2.2.2.2.2.2.2.2.1 = 2) (S : zS) (h : w_M_word a1 S P) : zV E (wR B) S 0 [(0, .ref (ad B 0)), (1, .int a1)] [] := by
  unfold w_M_word at h
  refine z_aload_n C 0 rfl rfl d_M_word_0 ?_
  refine gf_M_memory C (Or.inl tw_985) d_M_word_1 ?_
  refine z_iload_n C 1 rfl rfl d_M_word_4 ?_
  obtain ⟨f1, h⟩ := h
  refine al_m_memory C f1 d_M_word_5 ?_
  refine z_aload_n C 0 rfl rfl d_M_word_6 ?_
  refine gf_M_memory C (Or.inl tw_985) d_M_word_7 ?_
  refine z_iload_n C 1 rfl rfl d_M_word_10 ?_
  refine z_iconst (v := (1 : Int32)) C rfl d_M_word_11 ?_
  refine z_iadd C d_M_word_12 ?_
  obtain ⟨f2, h⟩ := h
  refine al_m_memory C f2 d_M_word_13 ?_
  refine z_bipush (v := (8 : Int32)) C rfl d_M_word_14 ?_
  refine z_ishl C d_M_word_16 ?_
  refine z_ior C d_M_word_17 ?_
  refine z_aload_n C 0 rfl rfl d_M_word_18 ?_
  refine gf_M_memory C (Or.inl tw_985) d_M_word_19 ?_
  refine z_iload_n C 1 rfl rfl d_M_word_22 ?_
  refine z_iconst (v := (2 : Int32)) C rfl d_M_word_23 ?_
  refine z_iadd C d_M_word_24 ?_
  obtain ⟨f3, h⟩ := h
  refine al_m_memory C f3 d_M_word_25 ?_
  refine z_bipush (v := (16 : Int32)) C rfl d_M_word_26 ?_
  refine z_ishl C d_M_word_28 ?_
  refine z_ior C d_M_word_29 ?_
  refine z_aload_n C 0 rfl rfl d_M_word_30 ?_
  refine gf_M_memory C (Or.inl tw_985) d_M_word_31 ?_
  refine z_iload_n C 1 rfl rfl d_M_word_34 ?_
  refine z_iconst (v := (3 : Int32)) C rfl d_M_word_35 ?_
  refine z_iadd C d_M_word_36 ?_
  obtain ⟨f4, h⟩ := h
  refine al_m_memory C f4 d_M_word_37 ?_
  refine z_bipush (v := (24 : Int32)) C rfl d_M_word_38 ?_
  refine z_ishl C d_M_word_40 ?_
  refine z_ior C d_M_word_41 ?_
  exact z_ireturn C G hr h d_M_word_42
theorem c_M_word (l : Launch) (B : zK) (a1 : Int32) (S : zS) (P : zS → Int32 → Prop) (h : w_M_word a1 S P) : Met l y_M_word (Cond.code y_M_word prog_12_method_17_code 2 (some FieldType.int) :: tT) (zRm 0 0) (zPc (wR B) [.ref (ad B 0), .int a1] S) (zQ (wR B) (zPi P)) 0 0 (wR B).2.2.2 :=
  z_met (by decide) (Nat.le_of_ble_eq_true rfl) (fun E C G hr _ hnl => v_M_word C a1 P G hr hnl S h)
theorem q_M_word : zQw y_M_word prog_12_method_17_code 2 (some FieldType.int) 1 := ⟨tw_1149, tw_42, tw_87, tw_1150, by decide +kernel⟩
def l_M_lays_3 (a1 : Int32) (a2 : Int32) (a3 : Int32) (P : zS → Prop) : Nat → zS → Int32 → Prop
  | 0, _, _ => False
  | n + 1, S, x4 =>
  (a3 ≤ x4 → (P S)) ∧ (¬ a3 ≤ x4 → (vp_in (a1 + x4) 16384 ∧ ∀ S2 : zS, S2 = sM S 1 (a1 + x4).toNatClampNeg ((a2 >>> (((8 : Int32) * x4) &&& 31)) &&& (255 : Int32)) → l_M_lays_3 a1 a2 a3 P n S2 (x4 + (1 : Int32))))
set_option maxRecDepth 20000 in
set_option maxHeartbeats 4000000 in
theorem vl_M_lays_3 {E : zE} {B : zK} (C : zC E (wR B) prog_12_method_18_code "HostBenchModel" 0 0) (a1 : Int32) (a2 : Int32) (a3 : Int32) (P : zS → Prop) (G : zGoal E (zQ (wR B) (zPv P)) (wR B)) (hr : zRt E (none)) (hnl : E.2.2.2.2.2.2.2.2.2.2.1 = 5) : ∀ (n : Nat) (S : zS) (x4 : Int32) , l_M_lays_3 a1 a2 a3 P n S x4 → zV E (wR B) S 3 [(0, .ref (ad B 0)), (1, .int a1), (2, .int a2), (3, .int a3), (4, .int x4)] [] := by
  intro n
  induction n with
  | zero => intro S x4 h; exact h.elim
  | succ n ih =>
    intro S x4 h
    unfold l_M_lays_3 at h
    refine z_iload C 4 rfl d_M_lays_3 ?_
    refine z_iload_n C 3 rfl rfl d_M_lays_5 ?_
    refine z_icmp_ge (tgt := 35) C d_M_lays_6 rfl (fun c => ?_) (fun c => ?_)
    · have h := h.1 c
      exact z_vreturn C G hr h d_M_lays_35
    · have h := h.2 c
      refine z_aload_n C 0 rfl rfl d_M_lays_9 ?_
      refine gf_M_memory C (Or.inl tw_985) d_M_lays_10 ?_
      refine z_iload_n C 1 rfl rfl d_M_lays_13 ?_
      refine z_iload C 4 rfl d_M_lays_14 ?_
      refine z_iadd C d_M_lays_16 ?_
      refine z_iload_n C 2 rfl rfl d_M_lays_17 ?_
      refine z_bipush (v := (8 : Int32)) C rfl d_M_lays_18 ?_
      refine z_iload C 4 rfl d_M_lays_20 ?_
      refine z_imul C d_M_lays_22 ?_
      refine z_ishr C d_M_lays_23 ?_
      refine z_sipush (v := (255 : Int32)) C rfl d_M_lays_24 ?_
      refine z_iand C d_M_lays_27 ?_
      obtain ⟨f1, h⟩ := h
      refine as_m_memory C f1 d_M_lays_28 ?_
      refine z_nS (fun S2 eS2 => ?_)
      have h := h S2 eS2
      refine z_iinc (v := x4 + (1 : Int32)) (L' := [(4, .int (x4 + (1 : Int32))), (0, .ref (ad B 0)), (1, .int a1), (2, .int a2), (3, .int a3)]) C hnl 4 rfl rfl (by decide) rfl d_M_lays_29 ?_
      refine z_goto (tgt := 3) C d_M_lays_32 rfl ?_
      exact z_sub [1, 2, 3, 4, 0] rfl (ih S2 (x4 + (1 : Int32)) h)
def w_M_lays (a1 : Int32) (a2 : Int32) (a3 : Int32) (S : zS) (P : zS → Prop) : Prop :=
  ∃ n1 : Nat, l_M_lays_3 a1 a2 a3 P n1 S (0 : Int32)
set_option maxRecDepth 20000 in
set_option maxHeartbeats 4000000 in
theorem v_M_lays {E : zE} {B : zK} (C : zC E (wR B) prog_12_method_18_code "HostBenchModel" 0 0) (a1 : Int32) (a2 : Int32) (a3 : Int32) (P : zS → Prop) (G : zGoal E (zQ (wR B) (zPv P)) (wR B)) (hr : zRt E (none)) (hnl : E.2.2.2.2.2.2.2.2.2.2.1 = 5) (S : zS) (h : w_M_lays a1 a2 a3 S P) : zV E (wR B) S 0 [(0, .ref (ad B 0)), (1, .int a1), (2, .int a2), (3, .int a3)] [] := by
  unfold w_M_lays at h
  refine z_iconst (v := (0 : Int32)) C rfl d_M_lays_0 ?_
  refine z_istore (L' := [(4, .int (0 : Int32)), (0, .ref (ad B 0)), (1, .int a1), (2, .int a2), (3, .int a3)]) C hnl (by decide) rfl d_M_lays_1 ?_
  obtain ⟨n1, h⟩ := h
  exact z_sub [1, 2, 3, 4, 0] rfl (vl_M_lays_3 C a1 a2 a3 P G hr hnl n1 S (0 : Int32) h)
theorem c_M_lays (l : Launch) (B : zK) (a1 : Int32) (a2 : Int32) (a3 : Int32) (S : zS) (P : zS → Prop) (h : w_M_lays a1 a2 a3 S P) : Met l y_M_lays (Cond.code y_M_lays prog_12_method_18_code 5 none :: tT) (zRm 0 0) (zPc (wR B) [.ref (ad B 0), .int a1, .int a2, .int a3] S) (zQ (wR B) (zPv P)) 0 0 (wR B).2.2.2 :=
  z_met (by decide) (Nat.le_of_ble_eq_true rfl) (fun E C G hr _ hnl => v_M_lays C a1 a2 a3 P G hr hnl S h)
theorem q_M_lays : zQw y_M_lays prog_12_method_18_code 5 none 3 := ⟨tw_1174, tw_48, tw_87, tw_1175, by decide +kernel⟩
def w_M_stop (a1 : Int32) (S : zS) (P : zS → Prop) : Prop :=
  ∀ S1 : zS, S1 = sM S 0 4 (2 : Int32) → ∀ S2 : zS, S2 = sM S1 0 5 a1 → P S2
set_option maxRecDepth 20000 in
set_option maxHeartbeats 4000000 in
theorem v_M_stop {E : zE} {B : zK} (C : zC E (wR B) prog_12_method_19_code "HostBenchModel" 0 0) (a1 : Int32) (P : zS → Prop) (G : zGoal E (zQ (wR B) (zPv P)) (wR B)) (hr : zRt E (none)) (hnl : E.2.2.2.2.2.2.2.2.2.2.1 = 2) (S : zS) (h : w_M_stop a1 S P) : zV E (wR B) S 0 [(0, .ref (ad B 0)), (1, .int a1)] [] := by
  unfold w_M_stop at h
  refine z_aload_n C 0 rfl rfl d_M_stop_0 ?_
  refine z_iconst (v := (2 : Int32)) C rfl d_M_stop_1 ?_
  refine pf_M_state C (Or.inl tw_988) d_M_stop_2 ?_
  refine z_nS (fun S1 eS1 => ?_)
  have h := h S1 eS1
  refine z_aload_n C 0 rfl rfl d_M_stop_5 ?_
  refine z_iload_n C 1 rfl rfl d_M_stop_6 ?_
  refine pf_M_trap C (Or.inl tw_989) d_M_stop_7 ?_
  refine z_nS (fun S2 eS2 => ?_)
  have h := h S2 eS2
  exact z_vreturn C G hr h d_M_stop_10
theorem c_M_stop (l : Launch) (B : zK) (a1 : Int32) (S : zS) (P : zS → Prop) (h : w_M_stop a1 S P) : Met l y_M_stop (Cond.code y_M_stop prog_12_method_19_code 2 none :: tT) (zRm 0 0) (zPc (wR B) [.ref (ad B 0), .int a1] S) (zQ (wR B) (zPv P)) 0 0 (wR B).2.2.2 :=
  z_met (by decide) (Nat.le_of_ble_eq_true rfl) (fun E C G hr _ hnl => v_M_stop C a1 P G hr hnl S h)
theorem q_M_stop : zQw y_M_stop prog_12_method_19_code 2 none 1 := ⟨tw_1137, tw_41, tw_87, tw_1138, by decide +kernel⟩
def w_M_comes (a1 : Int32) (a2 : Int32) (S : zS) (P : zS → Prop) : Prop :=
  (a1 ≤ 0 → (P S)) ∧ (¬ a1 ≤ 0 → (vp_in a1 32 ∧ ∀ S2 : zS, S2 = sM S 2 a1.toNatClampNeg a2 → P S2))
set_option maxRecDepth 20000 in
set_option maxHeartbeats 4000000 in
theorem v_M_comes {E : zE} {B : zK} (C : zC E (wR B) prog_12_method_20_code "HostBenchModel" 0 0) (a1 : Int32) (a2 : Int32) (P : zS → Prop) (G : zGoal E (zQ (wR B) (zPv P)) (wR B)) (hr : zRt E (none)) (hnl : E.2.2.2.2.2.2.2.2.2.2.1 = 3) (S : zS) (h : w_M_comes a1 a2 S P) : zV E (wR B) S 0 [(0, .ref (ad B 0)), (1, .int a1), (2, .int a2)] [] := by
  unfold w_M_comes at h
  refine z_iload_n C 1 rfl rfl d_M_comes_0 ?_
  refine z_if_le (tgt := 11) C d_M_comes_1 rfl (fun c => ?_) (fun c => ?_)
  · have h := h.1 c
    exact z_vreturn C G hr h d_M_comes_11
  · have h := h.2 c
    refine z_aload_n C 0 rfl rfl d_M_comes_4 ?_
    refine gf_M_x C (Or.inl tw_986) d_M_comes_5 ?_
    refine z_iload_n C 1 rfl rfl d_M_comes_8 ?_
    refine z_iload_n C 2 rfl rfl d_M_comes_9 ?_
    obtain ⟨f1, h⟩ := h
    refine as_m_x C f1 d_M_comes_10 ?_
    refine z_nS (fun S2 eS2 => ?_)
    have h := h S2 eS2
    exact z_vreturn C G hr h d_M_comes_11
theorem c_M_comes (l : Launch) (B : zK) (a1 : Int32) (a2 : Int32) (S : zS) (P : zS → Prop) (h : w_M_comes a1 a2 S P) : Met l y_M_comes (Cond.code y_M_comes prog_12_method_20_code 3 none :: tT) (zRm 0 0) (zPc (wR B) [.ref (ad B 0), .int a1, .int a2] S) (zQ (wR B) (zPv P)) 0 0 (wR B).2.2.2 :=
  z_met (by decide) (Nat.le_of_ble_eq_true rfl) (fun E C G hr _ hnl => v_M_comes C a1 a2 P G hr hnl S h)
theorem q_M_comes : zQw y_M_comes prog_12_method_20_code 3 none 2 := ⟨tw_1153, tw_43, tw_87, tw_1154, by decide +kernel⟩
def w_M_jump (a1 : Int32) (a2 : Int32) (S : zS) (P : zS → Prop) : Prop :=
  ((a2 &&& (3 : Int32)) = 0 → (w_M_comes a1 ((gM S 0 3) + (4 : Int32)) S (fun S1 => ∀ S2 : zS, S2 = sM S1 0 3 a2 → P S2))) ∧ (¬ (a2 &&& (3 : Int32)) = 0 → (w_M_stop (1 : Int32) S (fun S3 => P S3)))
set_option maxRecDepth 20000 in
set_option maxHeartbeats 4000000 in
theorem v_M_jump {E : zE} {B : zK} (C : zC E (wR B) prog_12_method_22_code "HostBenchModel" 1 22) (a1 : Int32) (a2 : Int32) (P : zS → Prop) (G : zGoal E (zQ (wR B) (zPv P)) (wR B)) (hr : zRt E (none)) (hnl : E.2.2.2.2.2.2.2.2.2.2.1 = 3) (S : zS) (h : w_M_jump a1 a2 S P) : zV E (wR B) S 0 [(0, .ref (ad B 0)), (1, .int a1), (2, .int a2)] [] := by
  unfold w_M_jump at h
  refine z_iload_n C 2 rfl rfl d_M_jump_0 ?_
  refine z_iconst (v := (3 : Int32)) C rfl d_M_jump_1 ?_
  refine z_iand C d_M_jump_2 ?_
  refine z_if_eq (tgt := 12) C d_M_jump_3 rfl (fun c => ?_) (fun c => ?_)
  · have h := h.1 c
    refine z_aload_n C 0 rfl rfl d_M_jump_12 ?_
    refine z_iload_n C 1 rfl rfl d_M_jump_13 ?_
    refine z_aload_n C 0 rfl rfl d_M_jump_14 ?_
    refine gf_M_pc C (Or.inl tw_987) d_M_jump_15 ?_
    refine z_iconst (v := (4 : Int32)) C rfl d_M_jump_18 ?_
    refine z_iadd C d_M_jump_19 ?_
    refine z_callVv (rest := []) C q_M_comes tw_1151 (c_M_comes _ B a1 ((gM S 0 3) + (4 : Int32)) S _ h) rc_M ⟨Nat.le_of_ble_eq_true rfl, Nat.le_of_ble_eq_true rfl⟩ rfl rfl (Nat.le_of_ble_eq_true rfl) d_M_jump_20 (fun S1 h => ?_)
    refine z_aload_n C 0 rfl rfl d_M_jump_23 ?_
    refine z_iload_n C 2 rfl rfl d_M_jump_24 ?_
    refine pf_M_pc C (Or.inl tw_987) d_M_jump_25 ?_
    refine z_nS (fun S2 eS2 => ?_)
    have h := h S2 eS2
    exact z_vreturn C G hr h d_M_jump_28
  · have h := h.2 c
    refine z_aload_n C 0 rfl rfl d_M_jump_6 ?_
    refine z_iconst (v := (1 : Int32)) C rfl d_M_jump_7 ?_
    refine z_callVv (rest := []) C q_M_stop tw_1135 (c_M_stop _ B (1 : Int32) S _ h) rc_M ⟨Nat.le_of_ble_eq_true rfl, Nat.le_of_ble_eq_true rfl⟩ rfl rfl (Nat.le_of_ble_eq_true rfl) d_M_jump_8 (fun S3 h => ?_)
    exact z_vreturn C G hr h d_M_jump_11
theorem c_M_jump (l : Launch) (B : zK) (a1 : Int32) (a2 : Int32) (S : zS) (P : zS → Prop) (h : w_M_jump a1 a2 S P) : Met l y_M_jump (Cond.code y_M_jump prog_12_method_22_code 3 none :: tT) (zRm 1 22) (zPc (wR B) [.ref (ad B 0), .int a1, .int a2] S) (zQ (wR B) (zPv P)) 0 0 (wR B).2.2.2 :=
  z_met (by decide) (Nat.le_of_ble_eq_true rfl) (fun E C G hr _ hnl => v_M_jump C a1 a2 P G hr hnl S h)
theorem q_M_jump : zQw y_M_jump prog_12_method_22_code 3 none 2 := ⟨tw_1158, tw_44, tw_87, tw_1159, by decide +kernel⟩
def j_M_branch_10 (a1 : Int32) (a2 : Int32) (a3 : Int32) (a4 : Int32) (P : zS → Prop) (S : zS) : Prop :=
  w_M_stop (3 : Int32) S (fun S1 => P S1)
set_option maxRecDepth 20000 in
set_option maxHeartbeats 4000000 in
theorem vj_M_branch_10 {E : zE} {B : zK} (C : zC E (wR B) prog_12_method_23_code "HostBenchModel" 1 21) (a1 : Int32) (a2 : Int32) (a3 : Int32) (a4 : Int32) (P : zS → Prop) (G : zGoal E (zQ (wR B) (zPv P)) (wR B)) (hr : zRt E (none)) (hnl : E.2.2.2.2.2.2.2.2.2.2.1 = 7) (S : zS) (h : j_M_branch_10 a1 a2 a3 a4 P S) : zV E (wR B) S 10 [(0, .ref (ad B 0))] [] := by
  unfold j_M_branch_10 at h
  refine z_aload_n C 0 rfl rfl d_M_branch_10 ?_
  refine z_iconst (v := (3 : Int32)) C rfl d_M_branch_11 ?_
  refine z_callVv (rest := []) C q_M_stop tw_1135 (c_M_stop _ B (3 : Int32) S _ h) rc_M ⟨Nat.le_of_ble_eq_true rfl, Nat.le_of_ble_eq_true rfl⟩ rfl rfl (Nat.le_of_ble_eq_true rfl) d_M_branch_12 (fun S1 h => ?_)
  exact z_vreturn C G hr h d_M_branch_15
def j_M_branch_94 (a1 : Int32) (a2 : Int32) (a3 : Int32) (a4 : Int32) (P : zS → Prop) (S : zS) (x5 : Int32) : Prop :=
  ∀ v1 : Int32, v1 = ((gM S 0 3) + (((((a1 >>> ((31 : Int32) &&& 31)) <<< ((12 : Int32) &&& 31)) ||| (((a1 >>> ((7 : Int32) &&& 31)) &&& (1 : Int32)) <<< ((11 : Int32) &&& 31))) ||| (((a1 >>> ((25 : Int32) &&& 31)) &&& (63 : Int32)) <<< ((5 : Int32) &&& 31))) ||| (((a1 >>> ((8 : Int32) &&& 31)) &&& (15 : Int32)) <<< ((1 : Int32) &&& 31)))) → (x5 = 0 → (∀ S4 : zS, S4 = sM S 0 3 ((gM S 0 3) + (4 : Int32)) → P S4)) ∧ (¬ x5 = 0 → (((v1 &&& (3 : Int32)) = 0 → (∀ S2 : zS, S2 = sM S 0 3 v1 → P S2)) ∧ (¬ (v1 &&& (3 : Int32)) = 0 → (w_M_stop (1 : Int32) S (fun S3 => P S3)))))
set_option maxRecDepth 20000 in
set_option maxHeartbeats 4000000 in
theorem vj_M_branch_94 {E : zE} {B : zK} (C : zC E (wR B) prog_12_method_23_code "HostBenchModel" 1 21) (a1 : Int32) (a2 : Int32) (a3 : Int32) (a4 : Int32) (P : zS → Prop) (G : zGoal E (zQ (wR B) (zPv P)) (wR B)) (hr : zRt E (none)) (hnl : E.2.2.2.2.2.2.2.2.2.2.1 = 7) (S : zS) (x5 : Int32) (h : j_M_branch_94 a1 a2 a3 a4 P S x5) : zV E (wR B) S 94 [(0, .ref (ad B 0)), (1, .int a1), (5, .int x5)] [] := by
  unfold j_M_branch_94 at h
  refine z_aload_n C 0 rfl rfl d_M_branch_94 ?_
  refine gf_M_pc C (Or.inl tw_987) d_M_branch_95 ?_
  refine z_iload_n C 1 rfl rfl d_M_branch_98 ?_
  refine z_bipush (v := (31 : Int32)) C rfl d_M_branch_99 ?_
  refine z_ishr C d_M_branch_101 ?_
  refine z_bipush (v := (12 : Int32)) C rfl d_M_branch_102 ?_
  refine z_ishl C d_M_branch_104 ?_
  refine z_iload_n C 1 rfl rfl d_M_branch_105 ?_
  refine z_bipush (v := (7 : Int32)) C rfl d_M_branch_106 ?_
  refine z_ishr C d_M_branch_108 ?_
  refine z_iconst (v := (1 : Int32)) C rfl d_M_branch_109 ?_
  refine z_iand C d_M_branch_110 ?_
  refine z_bipush (v := (11 : Int32)) C rfl d_M_branch_111 ?_
  refine z_ishl C d_M_branch_113 ?_
  refine z_ior C d_M_branch_114 ?_
  refine z_iload_n C 1 rfl rfl d_M_branch_115 ?_
  refine z_bipush (v := (25 : Int32)) C rfl d_M_branch_116 ?_
  refine z_ishr C d_M_branch_118 ?_
  refine z_bipush (v := (63 : Int32)) C rfl d_M_branch_119 ?_
  refine z_iand C d_M_branch_121 ?_
  refine z_iconst (v := (5 : Int32)) C rfl d_M_branch_122 ?_
  refine z_ishl C d_M_branch_123 ?_
  refine z_ior C d_M_branch_124 ?_
  refine z_iload_n C 1 rfl rfl d_M_branch_125 ?_
  refine z_bipush (v := (8 : Int32)) C rfl d_M_branch_126 ?_
  refine z_ishr C d_M_branch_128 ?_
  refine z_bipush (v := (15 : Int32)) C rfl d_M_branch_129 ?_
  refine z_iand C d_M_branch_131 ?_
  refine z_iconst (v := (1 : Int32)) C rfl d_M_branch_132 ?_
  refine z_ishl C d_M_branch_133 ?_
  refine z_ior C d_M_branch_134 ?_
  refine z_iadd C d_M_branch_135 ?_
  refine z_topi (fun v1 ev1 => ?_)
  have h := h v1 ev1
  refine z_istore (L' := [(6, .int v1), (0, .ref (ad B 0)), (1, .int a1), (5, .int x5)]) C hnl (by decide) rfl d_M_branch_136 ?_
  refine z_iload C 3 rfl d_M_branch_138 ?_
  refine z_if_ne (tgt := 156) C d_M_branch_140 rfl (fun c => ?_) (fun c => ?_)
  · have h := h.2 c
    refine z_iload C 0 rfl d_M_branch_156 ?_
    refine z_iconst (v := (3 : Int32)) C rfl d_M_branch_158 ?_
    refine z_iand C d_M_branch_159 ?_
    refine z_if_eq (tgt := 171) C d_M_branch_160 rfl (fun c => ?_) (fun c => ?_)
    · have h := h.1 c
      refine z_aload_n C 1 rfl rfl d_M_branch_171 ?_
      refine z_iload C 0 rfl d_M_branch_172 ?_
      refine pf_M_pc C (Or.inl tw_987) d_M_branch_174 ?_
      refine z_nS (fun S2 eS2 => ?_)
      have h := h S2 eS2
      exact z_vreturn C G hr h d_M_branch_177
    · have h := h.2 c
      refine z_aload_n C 1 rfl rfl d_M_branch_163 ?_
      refine z_iconst (v := (1 : Int32)) C rfl d_M_branch_164 ?_
      refine z_callVv (rest := []) C q_M_stop tw_1135 (c_M_stop _ B (1 : Int32) S _ h) rc_M ⟨Nat.le_of_ble_eq_true rfl, Nat.le_of_ble_eq_true rfl⟩ rfl rfl (Nat.le_of_ble_eq_true rfl) d_M_branch_165 (fun S3 h => ?_)
      refine z_goto (tgt := 177) C d_M_branch_168 rfl ?_
      exact z_vreturn C G hr h d_M_branch_177
  · have h := h.1 c
    refine z_aload_n C 1 rfl rfl d_M_branch_143 ?_
    refine z_dup C rfl d_M_branch_144 ?_
    refine gf_M_pc C (Or.inl tw_987) d_M_branch_145 ?_
    refine z_iconst (v := (4 : Int32)) C rfl d_M_branch_148 ?_
    refine z_iadd C d_M_branch_149 ?_
    refine pf_M_pc C (Or.inl tw_987) d_M_branch_150 ?_
    refine z_nS (fun S4 eS4 => ?_)
    have h := h S4 eS4
    refine z_goto (tgt := 177) C d_M_branch_153 rfl ?_
    exact z_vreturn C G hr h d_M_branch_177
def j_M_branch_92 (a1 : Int32) (a2 : Int32) (a3 : Int32) (a4 : Int32) (P : zS → Prop) (S : zS) (s0 : Int32) : Prop :=
  j_M_branch_94 a1 a2 a3 a4 P S s0
set_option maxRecDepth 20000 in
set_option maxHeartbeats 4000000 in
theorem vj_M_branch_92 {E : zE} {B : zK} (C : zC E (wR B) prog_12_method_23_code "HostBenchModel" 1 21) (a1 : Int32) (a2 : Int32) (a3 : Int32) (a4 : Int32) (P : zS → Prop) (G : zGoal E (zQ (wR B) (zPv P)) (wR B)) (hr : zRt E (none)) (hnl : E.2.2.2.2.2.2.2.2.2.2.1 = 7) (S : zS) (s0 : Int32) (h : j_M_branch_92 a1 a2 a3 a4 P S s0) : zV E (wR B) S 92 [(0, .ref (ad B 0)), (1, .int a1)] [.int s0] := by
  unfold j_M_branch_92 at h
  refine z_istore (L' := [(5, .int s0), (0, .ref (ad B 0)), (1, .int a1)]) C hnl (by decide) rfl d_M_branch_92 ?_
  exact z_sub [1, 2, 0] rfl (vj_M_branch_94 C a1 a2 a3 a4 P G hr hnl S s0 h)
def j_M_branch_73 (a1 : Int32) (a2 : Int32) (a3 : Int32) (a4 : Int32) (P : zS → Prop) (S : zS) (s0 : Int32) : Prop :=
  ((a2 - a2 / (2 : Int32) * (2 : Int32)) = (1 : Int32) → ((s0 = 0 → (j_M_branch_92 a1 a2 a3 a4 P S (1 : Int32))) ∧ (¬ s0 = 0 → (j_M_branch_92 a1 a2 a3 a4 P S (0 : Int32))))) ∧ (¬ (a2 - a2 / (2 : Int32) * (2 : Int32)) = (1 : Int32) → (j_M_branch_94 a1 a2 a3 a4 P S s0))
set_option maxRecDepth 20000 in
set_option maxHeartbeats 4000000 in
theorem vj_M_branch_73 {E : zE} {B : zK} (C : zC E (wR B) prog_12_method_23_code "HostBenchModel" 1 21) (a1 : Int32) (a2 : Int32) (a3 : Int32) (a4 : Int32) (P : zS → Prop) (G : zGoal E (zQ (wR B) (zPv P)) (wR B)) (hr : zRt E (none)) (hnl : E.2.2.2.2.2.2.2.2.2.2.1 = 7) (S : zS) (s0 : Int32) (h : j_M_branch_73 a1 a2 a3 a4 P S s0) : zV E (wR B) S 73 [(0, .ref (ad B 0)), (1, .int a1), (2, .int a2)] [.int s0] := by
  unfold j_M_branch_73 at h
  refine z_istore (L' := [(5, .int s0), (0, .ref (ad B 0)), (1, .int a1), (2, .int a2)]) C hnl (by decide) rfl d_M_branch_73 ?_
  refine z_iload_n C 3 rfl rfl d_M_branch_75 ?_
  refine z_iconst (v := (2 : Int32)) C rfl d_M_branch_76 ?_
  refine z_irem C (by decide) d_M_branch_77 ?_
  refine z_iconst (v := (1 : Int32)) C rfl d_M_branch_78 ?_
  refine z_icmp_ne (tgt := 94) C d_M_branch_79 rfl (fun c => ?_) (fun c => ?_)
  · have h := h.2 c
    exact z_sub [1, 2, 0] rfl (vj_M_branch_94 C a1 a2 a3 a4 P G hr hnl S s0 h)
  · have h := h.1 c
    refine z_iload C 0 rfl d_M_branch_82 ?_
    refine z_if_ne (tgt := 91) C d_M_branch_84 rfl (fun c => ?_) (fun c => ?_)
    · have h := h.2 c
      refine z_iconst (v := (0 : Int32)) C rfl d_M_branch_91 ?_
      exact z_sub [1, 2] rfl (vj_M_branch_92 C a1 a2 a3 a4 P G hr hnl S (0 : Int32) h)
    · have h := h.1 c
      refine z_iconst (v := (1 : Int32)) C rfl d_M_branch_87 ?_
      refine z_goto (tgt := 92) C d_M_branch_88 rfl ?_
      exact z_sub [1, 2] rfl (vj_M_branch_92 C a1 a2 a3 a4 P G hr hnl S (1 : Int32) h)
def w_M_branch (a1 : Int32) (a2 : Int32) (a3 : Int32) (a4 : Int32) (S : zS) (P : zS → Prop) : Prop :=
  (a2 = (2 : Int32) → (j_M_branch_10 a1 a2 a3 a4 P S)) ∧ (¬ a2 = (2 : Int32) → ((a2 = (3 : Int32) → (j_M_branch_10 a1 a2 a3 a4 P S)) ∧ (¬ a2 = (3 : Int32) → (((2 : Int32) ≤ a2 → (((6 : Int32) ≤ a2 → (w_M_whole a3 S (fun S1 r2 => w_M_whole a4 S1 (fun S3 r4 => (0 ≤ (lg_cmp r2 r4) → (j_M_branch_73 a1 a2 a3 a4 P S3 (0 : Int32))) ∧ (¬ 0 ≤ (lg_cmp r2 r4) → (j_M_branch_73 a1 a2 a3 a4 P S3 (1 : Int32))))))) ∧ (¬ (6 : Int32) ≤ a2 → ((a4 ≤ a3 → (j_M_branch_73 a1 a2 a3 a4 P S (0 : Int32))) ∧ (¬ a4 ≤ a3 → (j_M_branch_73 a1 a2 a3 a4 P S (1 : Int32))))))) ∧ (¬ (2 : Int32) ≤ a2 → ((a3 = a4 → (j_M_branch_73 a1 a2 a3 a4 P S (1 : Int32))) ∧ (¬ a3 = a4 → (j_M_branch_73 a1 a2 a3 a4 P S (0 : Int32)))))))))
set_option maxRecDepth 20000 in
set_option maxHeartbeats 4000000 in
theorem v_M_branch {E : zE} {B : zK} (C : zC E (wR B) prog_12_method_23_code "HostBenchModel" 1 21) (a1 : Int32) (a2 : Int32) (a3 : Int32) (a4 : Int32) (P : zS → Prop) (G : zGoal E (zQ (wR B) (zPv P)) (wR B)) (hr : zRt E (none)) (hnl : E.2.2.2.2.2.2.2.2.2.2.1 = 7) (S : zS) (h : w_M_branch a1 a2 a3 a4 S P) : zV E (wR B) S 0 [(0, .ref (ad B 0)), (1, .int a1), (2, .int a2), (3, .int a3), (4, .int a4)] [] := by
  unfold w_M_branch at h
  refine z_iload_n C 2 rfl rfl d_M_branch_0 ?_
  refine z_iconst (v := (2 : Int32)) C rfl d_M_branch_1 ?_
  refine z_icmp_eq (tgt := 10) C d_M_branch_2 rfl (fun c => ?_) (fun c => ?_)
  · have h := h.1 c
    exact z_sub [0] rfl (vj_M_branch_10 C a1 a2 a3 a4 P G hr hnl S h)
  · have h := h.2 c
    refine z_iload_n C 2 rfl rfl d_M_branch_5 ?_
    refine z_iconst (v := (3 : Int32)) C rfl d_M_branch_6 ?_
    refine z_icmp_ne (tgt := 16) C d_M_branch_7 rfl (fun c => ?_) (fun c => ?_)
    · have h := h.2 c
      refine z_iload_n C 2 rfl rfl d_M_branch_16 ?_
      refine z_iconst (v := (2 : Int32)) C rfl d_M_branch_17 ?_
      refine z_icmp_ge (tgt := 35) C d_M_branch_18 rfl (fun c => ?_) (fun c => ?_)
      · have h := h.1 c
        refine z_iload_n C 2 rfl rfl d_M_branch_35 ?_
        refine z_bipush (v := (6 : Int32)) C rfl d_M_branch_36 ?_
        refine z_icmp_ge (tgt := 55) C d_M_branch_38 rfl (fun c => ?_) (fun c => ?_)
        · have h := h.1 c
          refine z_iload_n C 3 rfl rfl d_M_branch_55 ?_
          refine z_callSl (rest := []) C q_M_whole rfl tw_1142 (c_M_whole _ B a3 S _ h) ⟨Nat.le_of_ble_eq_true rfl, Nat.le_of_ble_eq_true rfl⟩ rfl rfl (Nat.le_of_ble_eq_true rfl) d_M_branch_56 (fun S1 r2 h => ?_)
          refine z_iload C 4 rfl d_M_branch_59 ?_
          refine z_callSl (rest := [.long r2]) C q_M_whole rfl tw_1142 (c_M_whole _ B a4 S1 _ h) ⟨Nat.le_of_ble_eq_true rfl, Nat.le_of_ble_eq_true rfl⟩ rfl rfl (Nat.le_of_ble_eq_true rfl) d_M_branch_61 (fun S3 r4 h => ?_)
          refine z_lcmp C d_M_branch_64 ?_
          refine z_if_ge (tgt := 72) C d_M_branch_65 rfl (fun c => ?_) (fun c => ?_)
          · have h := h.1 c
            refine z_iconst (v := (0 : Int32)) C rfl d_M_branch_72 ?_
            exact z_sub [0, 1, 2] rfl (vj_M_branch_73 C a1 a2 a3 a4 P G hr hnl S3 (0 : Int32) h)
          · have h := h.2 c
            refine z_iconst (v := (1 : Int32)) C rfl d_M_branch_68 ?_
            refine z_goto (tgt := 73) C d_M_branch_69 rfl ?_
            exact z_sub [0, 1, 2] rfl (vj_M_branch_73 C a1 a2 a3 a4 P G hr hnl S3 (1 : Int32) h)
        · have h := h.2 c
          refine z_iload_n C 3 rfl rfl d_M_branch_41 ?_
          refine z_iload C 4 rfl d_M_branch_42 ?_
          refine z_icmp_ge (tgt := 51) C d_M_branch_44 rfl (fun c => ?_) (fun c => ?_)
          · have h := h.1 c
            refine z_iconst (v := (0 : Int32)) C rfl d_M_branch_51 ?_
            refine z_goto (tgt := 73) C d_M_branch_52 rfl ?_
            exact z_sub [0, 1, 2] rfl (vj_M_branch_73 C a1 a2 a3 a4 P G hr hnl S (0 : Int32) h)
          · have h := h.2 c
            refine z_iconst (v := (1 : Int32)) C rfl d_M_branch_47 ?_
            refine z_goto (tgt := 73) C d_M_branch_48 rfl ?_
            exact z_sub [0, 1, 2] rfl (vj_M_branch_73 C a1 a2 a3 a4 P G hr hnl S (1 : Int32) h)
      · have h := h.2 c
        refine z_iload_n C 3 rfl rfl d_M_branch_21 ?_
        refine z_iload C 4 rfl d_M_branch_22 ?_
        refine z_icmp_ne (tgt := 31) C d_M_branch_24 rfl (fun c => ?_) (fun c => ?_)
        · have h := h.2 c
          refine z_iconst (v := (0 : Int32)) C rfl d_M_branch_31 ?_
          refine z_goto (tgt := 73) C d_M_branch_32 rfl ?_
          exact z_sub [0, 1, 2] rfl (vj_M_branch_73 C a1 a2 a3 a4 P G hr hnl S (0 : Int32) h)
        · have h := h.1 c
          refine z_iconst (v := (1 : Int32)) C rfl d_M_branch_27 ?_
          refine z_goto (tgt := 73) C d_M_branch_28 rfl ?_
          exact z_sub [0, 1, 2] rfl (vj_M_branch_73 C a1 a2 a3 a4 P G hr hnl S (1 : Int32) h)
    · have h := h.1 c
      exact z_sub [0] rfl (vj_M_branch_10 C a1 a2 a3 a4 P G hr hnl S h)
theorem c_M_branch (l : Launch) (B : zK) (a1 : Int32) (a2 : Int32) (a3 : Int32) (a4 : Int32) (S : zS) (P : zS → Prop) (h : w_M_branch a1 a2 a3 a4 S P) : Met l y_M_branch (Cond.code y_M_branch prog_12_method_23_code 7 none :: tT) (zRm 1 21) (zPc (wR B) [.ref (ad B 0), .int a1, .int a2, .int a3, .int a4] S) (zQ (wR B) (zPv P)) 0 0 (wR B).2.2.2 :=
  z_met (by decide) (Nat.le_of_ble_eq_true rfl) (fun E C G hr _ hnl => v_M_branch C a1 a2 a3 a4 P G hr hnl S h)
theorem q_M_branch : zQw y_M_branch prog_12_method_23_code 7 none 4 := ⟨tw_1162, tw_45, tw_87, tw_1163, by decide +kernel⟩
def j_M_load_40 (a1 : Int32) (a2 : Int32) (a3 : Int32) (P : zS → Prop) (S : zS) : Prop :=
  w_M_stop (3 : Int32) S (fun S1 => P S1)
set_option maxRecDepth 20000 in
set_option maxHeartbeats 4000000 in
theorem vj_M_load_40 {E : zE} {B : zK} (C : zC E (wR B) prog_12_method_24_code "HostBenchModel" 2 41) (a1 : Int32) (a2 : Int32) (a3 : Int32) (P : zS → Prop) (G : zGoal E (zQ (wR B) (zPv P)) (wR B)) (hr : zRt E (none)) (hnl : E.2.2.2.2.2.2.2.2.2.2.1 = 7) (S : zS) (h : j_M_load_40 a1 a2 a3 P S) : zV E (wR B) S 40 [(0, .ref (ad B 0))] [] := by
  unfold j_M_load_40 at h
  refine z_aload_n C 0 rfl rfl d_M_load_40 ?_
  refine z_iconst (v := (3 : Int32)) C rfl d_M_load_41 ?_
  refine z_callVv (rest := []) C q_M_stop tw_1135 (c_M_stop _ B (3 : Int32) S _ h) rc_M ⟨Nat.le_of_ble_eq_true rfl, Nat.le_of_ble_eq_true rfl⟩ rfl rfl (Nat.le_of_ble_eq_true rfl) d_M_load_42 (fun S1 h => ?_)
  refine z_goto (tgt := 157) C d_M_load_45 rfl ?_
  exact z_vreturn C G hr h d_M_load_157
def j_M_load_144 (a1 : Int32) (a2 : Int32) (a3 : Int32) (P : zS → Prop) (S : zS) (s1 : Int32) (s2 : Int32) : Prop :=
  w_M_comes s1 s2 S (fun S1 => ∀ S2 : zS, S2 = sM S1 0 3 ((gM S1 0 3) + (4 : Int32)) → P S2)
set_option maxRecDepth 20000 in
set_option maxHeartbeats 4000000 in
theorem vj_M_load_144 {E : zE} {B : zK} (C : zC E (wR B) prog_12_method_24_code "HostBenchModel" 2 41) (a1 : Int32) (a2 : Int32) (a3 : Int32) (P : zS → Prop) (G : zGoal E (zQ (wR B) (zPv P)) (wR B)) (hr : zRt E (none)) (hnl : E.2.2.2.2.2.2.2.2.2.2.1 = 7) (S : zS) (s1 : Int32) (s2 : Int32) (h : j_M_load_144 a1 a2 a3 P S s1 s2) : zV E (wR B) S 144 [(0, .ref (ad B 0))] [.int s2, .int s1, .ref (ad B 0)] := by
  unfold j_M_load_144 at h
  refine z_callVv (rest := []) C q_M_comes tw_1151 (c_M_comes _ B s1 s2 S _ h) rc_M ⟨Nat.le_of_ble_eq_true rfl, Nat.le_of_ble_eq_true rfl⟩ rfl rfl (Nat.le_of_ble_eq_true rfl) d_M_load_144 (fun S1 h => ?_)
  refine z_aload_n C 0 rfl rfl d_M_load_147 ?_
  refine z_dup C rfl d_M_load_148 ?_
  refine gf_M_pc C (Or.inl tw_987) d_M_load_149 ?_
  refine z_iconst (v := (4 : Int32)) C rfl d_M_load_152 ?_
  refine z_iadd C d_M_load_153 ?_
  refine pf_M_pc C (Or.inl tw_987) d_M_load_154 ?_
  refine z_nS (fun S2 eS2 => ?_)
  have h := h S2 eS2
  exact z_vreturn C G hr h d_M_load_157
def l_M_load_91 (a1 : Int32) (a2 : Int32) (a3 : Int32) (P : zS → Prop) : Nat → zS → Int32 → Int32 → Prop
  | 0, _, _, _ => False
  | n + 1, S, x5, x6 =>
  (x6 < 0 → ((a2 = 0 → (j_M_load_144 a1 a2 a3 P S a1 x5.toInt8.toInt32)) ∧ (¬ a2 = 0 → ((a2 = (1 : Int32) → (j_M_load_144 a1 a2 a3 P S a1 x5.toInt16.toInt32)) ∧ (¬ a2 = (1 : Int32) → (j_M_load_144 a1 a2 a3 P S a1 x5)))))) ∧ (¬ x6 < 0 → (vp_in (a3 + x6) 16384 ∧ ∀ v2 : Int32, v2 = ((x5 <<< ((8 : Int32) &&& 31)) ||| (gM S 1 (a3 + x6).toNatClampNeg)) → l_M_load_91 a1 a2 a3 P n S v2 (x6 + (-1 : Int32))))
set_option maxRecDepth 20000 in
set_option maxHeartbeats 4000000 in
theorem vl_M_load_91 {E : zE} {B : zK} (C : zC E (wR B) prog_12_method_24_code "HostBenchModel" 2 41) (a1 : Int32) (a2 : Int32) (a3 : Int32) (P : zS → Prop) (G : zGoal E (zQ (wR B) (zPv P)) (wR B)) (hr : zRt E (none)) (hnl : E.2.2.2.2.2.2.2.2.2.2.1 = 7) : ∀ (n : Nat) (S : zS) (x5 : Int32) (x6 : Int32) , l_M_load_91 a1 a2 a3 P n S x5 x6 → zV E (wR B) S 91 [(0, .ref (ad B 0)), (1, .int a1), (2, .int a2), (3, .int a3), (5, .int x5), (6, .int x6)] [] := by
  intro n
  induction n with
  | zero => intro S x5 x6 h; exact h.elim
  | succ n ih =>
    intro S x5 x6 h
    unfold l_M_load_91 at h
    refine z_iload C 5 rfl d_M_load_91 ?_
    refine z_if_lt (tgt := 119) C d_M_load_93 rfl (fun c => ?_) (fun c => ?_)
    · have h := h.1 c
      refine z_aload_n C 0 rfl rfl d_M_load_119 ?_
      refine z_iload_n C 1 rfl rfl d_M_load_120 ?_
      refine z_iload_n C 2 rfl rfl d_M_load_121 ?_
      refine z_if_ne (tgt := 131) C d_M_load_122 rfl (fun c => ?_) (fun c => ?_)
      · have h := h.2 c
        refine z_iload_n C 2 rfl rfl d_M_load_131 ?_
        refine z_iconst (v := (1 : Int32)) C rfl d_M_load_132 ?_
        refine z_icmp_ne (tgt := 142) C d_M_load_133 rfl (fun c => ?_) (fun c => ?_)
        · have h := h.2 c
          refine z_iload C 4 rfl d_M_load_142 ?_
          exact z_sub [0] rfl (vj_M_load_144 C a1 a2 a3 P G hr hnl S a1 x5 h)
        · have h := h.1 c
          refine z_iload C 4 rfl d_M_load_136 ?_
          refine z_i2s C d_M_load_138 ?_
          refine z_goto (tgt := 144) C d_M_load_139 rfl ?_
          exact z_sub [0] rfl (vj_M_load_144 C a1 a2 a3 P G hr hnl S a1 x5.toInt16.toInt32 h)
      · have h := h.1 c
        refine z_iload C 4 rfl d_M_load_125 ?_
        refine z_i2b C d_M_load_127 ?_
        refine z_goto (tgt := 144) C d_M_load_128 rfl ?_
        exact z_sub [0] rfl (vj_M_load_144 C a1 a2 a3 P G hr hnl S a1 x5.toInt8.toInt32 h)
    · have h := h.2 c
      refine z_iload C 4 rfl d_M_load_96 ?_
      refine z_bipush (v := (8 : Int32)) C rfl d_M_load_98 ?_
      refine z_ishl C d_M_load_100 ?_
      refine z_aload_n C 0 rfl rfl d_M_load_101 ?_
      refine gf_M_memory C (Or.inl tw_985) d_M_load_102 ?_
      refine z_iload_n C 3 rfl rfl d_M_load_105 ?_
      refine z_iload C 5 rfl d_M_load_106 ?_
      refine z_iadd C d_M_load_108 ?_
      obtain ⟨f1, h⟩ := h
      refine al_m_memory C f1 d_M_load_109 ?_
      refine z_ior C d_M_load_110 ?_
      refine z_topi (fun v2 ev2 => ?_)
      have h := h v2 ev2
      refine z_istore (L' := [(5, .int v2), (0, .ref (ad B 0)), (1, .int a1), (2, .int a2), (3, .int a3), (6, .int x6)]) C hnl (by decide) rfl d_M_load_111 ?_
      refine z_iinc (v := x6 + (-1 : Int32)) (L' := [(6, .int (x6 + (-1 : Int32))), (5, .int v2), (0, .ref (ad B 0)), (1, .int a1), (2, .int a2), (3, .int a3)]) C hnl 5 rfl (congrArg (fun z => x6 + z) (by decide : Int32.ofInt (-1) = (-1 : Int32))) (by decide) rfl d_M_load_113 ?_
      refine z_goto (tgt := 91) C d_M_load_116 rfl ?_
      exact z_sub [2, 3, 4, 5, 1, 0] rfl (ih S v2 (x6 + (-1 : Int32)) h)
def j_M_load_28 (a1 : Int32) (a2 : Int32) (a3 : Int32) (P : zS → Prop) (S : zS) (s0 : Int32) : Prop :=
  (a2 = (3 : Int32) → (j_M_load_40 a1 a2 a3 P S)) ∧ (¬ a2 = (3 : Int32) → ((a2 ≤ (5 : Int32) → (¬ s0 = 0 ∧ ((a3 - a3 / s0 * s0) = 0 → (w_M_isArea a3 s0 S (fun S1 r2 => (r2 = 0 → (w_M_stop (7 : Int32) S1 (fun S5 => P S5))) ∧ (¬ r2 = 0 → (∀ v3 : Int32, v3 = (s0 - (1 : Int32)) → ∃ n4 : Nat, l_M_load_91 a1 a2 a3 P n4 S1 (0 : Int32) v3))))) ∧ (¬ (a3 - a3 / s0 * s0) = 0 → (w_M_stop (6 : Int32) S (fun S6 => P S6))))) ∧ (¬ a2 ≤ (5 : Int32) → (j_M_load_40 a1 a2 a3 P S))))
set_option maxRecDepth 20000 in
set_option maxHeartbeats 4000000 in
theorem vj_M_load_28 {E : zE} {B : zK} (C : zC E (wR B) prog_12_method_24_code "HostBenchModel" 2 41) (a1 : Int32) (a2 : Int32) (a3 : Int32) (P : zS → Prop) (G : zGoal E (zQ (wR B) (zPv P)) (wR B)) (hr : zRt E (none)) (hnl : E.2.2.2.2.2.2.2.2.2.2.1 = 7) (S : zS) (s0 : Int32) (h : j_M_load_28 a1 a2 a3 P S s0) : zV E (wR B) S 28 [(0, .ref (ad B 0)), (1, .int a1), (2, .int a2), (3, .int a3)] [.int s0] := by
  unfold j_M_load_28 at h
  refine z_istore (L' := [(4, .int s0), (0, .ref (ad B 0)), (1, .int a1), (2, .int a2), (3, .int a3)]) C hnl (by decide) rfl d_M_load_28 ?_
  refine z_iload_n C 3 rfl rfl d_M_load_30 ?_
  refine z_iconst (v := (3 : Int32)) C rfl d_M_load_31 ?_
  refine z_icmp_eq (tgt := 40) C d_M_load_32 rfl (fun c => ?_) (fun c => ?_)
  · have h := h.1 c
    exact z_sub [1] rfl (vj_M_load_40 C a1 a2 a3 P G hr hnl S h)
  · have h := h.2 c
    refine z_iload_n C 3 rfl rfl d_M_load_35 ?_
    refine z_iconst (v := (5 : Int32)) C rfl d_M_load_36 ?_
    refine z_icmp_le (tgt := 48) C d_M_load_37 rfl (fun c => ?_) (fun c => ?_)
    · have h := h.1 c
      refine z_iload_n C 4 rfl rfl d_M_load_48 ?_
      refine z_iload C 0 rfl d_M_load_49 ?_
      obtain ⟨hc, h⟩ := h
      refine z_irem C hc d_M_load_51 ?_
      refine z_if_eq (tgt := 64) C d_M_load_52 rfl (fun c => ?_) (fun c => ?_)
      · have h := h.1 c
        refine z_iload_n C 4 rfl rfl d_M_load_64 ?_
        refine z_iload C 0 rfl d_M_load_65 ?_
        refine z_callSi (rest := []) C q_M_isArea rfl tw_1139 (c_M_isArea _ B a3 s0 S _ h) ⟨Nat.le_of_ble_eq_true rfl, Nat.le_of_ble_eq_true rfl⟩ rfl rfl (Nat.le_of_ble_eq_true rfl) d_M_load_67 (fun S1 r2 h => ?_)
        refine z_if_ne (tgt := 82) C d_M_load_70 rfl (fun c => ?_) (fun c => ?_)
        · have h := h.2 c
          refine z_iconst (v := (0 : Int32)) C rfl d_M_load_82 ?_
          refine z_istore (L' := [(5, .int (0 : Int32)), (4, .int s0), (0, .ref (ad B 0)), (1, .int a1), (2, .int a2), (3, .int a3)]) C hnl (by decide) rfl d_M_load_83 ?_
          refine z_iload C 1 rfl d_M_load_85 ?_
          refine z_iconst (v := (1 : Int32)) C rfl d_M_load_87 ?_
          refine z_isub C d_M_load_88 ?_
          refine z_topi (fun v3 ev3 => ?_)
          have h := h v3 ev3
          refine z_istore (L' := [(6, .int v3), (5, .int (0 : Int32)), (4, .int s0), (0, .ref (ad B 0)), (1, .int a1), (2, .int a2), (3, .int a3)]) C hnl (by decide) rfl d_M_load_89 ?_
          obtain ⟨n4, h⟩ := h
          exact z_sub [3, 4, 5, 6, 1, 0] rfl (vl_M_load_91 C a1 a2 a3 P G hr hnl n4 S1 (0 : Int32) v3 h)
        · have h := h.1 c
          refine z_aload_n C 1 rfl rfl d_M_load_73 ?_
          refine z_bipush (v := (7 : Int32)) C rfl d_M_load_74 ?_
          refine z_callVv (rest := []) C q_M_stop tw_1135 (c_M_stop _ B (7 : Int32) S1 _ h) rc_M ⟨Nat.le_of_ble_eq_true rfl, Nat.le_of_ble_eq_true rfl⟩ rfl rfl (Nat.le_of_ble_eq_true rfl) d_M_load_76 (fun S5 h => ?_)
          refine z_goto (tgt := 157) C d_M_load_79 rfl ?_
          exact z_vreturn C G hr h d_M_load_157
      · have h := h.2 c
        refine z_aload_n C 1 rfl rfl d_M_load_55 ?_
        refine z_bipush (v := (6 : Int32)) C rfl d_M_load_56 ?_
        refine z_callVv (rest := []) C q_M_stop tw_1135 (c_M_stop _ B (6 : Int32) S _ h) rc_M ⟨Nat.le_of_ble_eq_true rfl, Nat.le_of_ble_eq_true rfl⟩ rfl rfl (Nat.le_of_ble_eq_true rfl) d_M_load_58 (fun S6 h => ?_)
        refine z_goto (tgt := 157) C d_M_load_61 rfl ?_
        exact z_vreturn C G hr h d_M_load_157
    · have h := h.2 c
      exact z_sub [1] rfl (vj_M_load_40 C a1 a2 a3 P G hr hnl S h)
def j_M_load_9 (a1 : Int32) (a2 : Int32) (a3 : Int32) (P : zS → Prop) (S : zS) : Prop :=
  j_M_load_28 a1 a2 a3 P S (1 : Int32)
set_option maxRecDepth 20000 in
set_option maxHeartbeats 4000000 in
theorem vj_M_load_9 {E : zE} {B : zK} (C : zC E (wR B) prog_12_method_24_code "HostBenchModel" 2 41) (a1 : Int32) (a2 : Int32) (a3 : Int32) (P : zS → Prop) (G : zGoal E (zQ (wR B) (zPv P)) (wR B)) (hr : zRt E (none)) (hnl : E.2.2.2.2.2.2.2.2.2.2.1 = 7) (S : zS) (h : j_M_load_9 a1 a2 a3 P S) : zV E (wR B) S 9 [(0, .ref (ad B 0)), (1, .int a1), (2, .int a2), (3, .int a3)] [] := by
  unfold j_M_load_9 at h
  refine z_iconst (v := (1 : Int32)) C rfl d_M_load_9 ?_
  refine z_goto (tgt := 28) C d_M_load_10 rfl ?_
  exact z_sub [0, 1, 2, 3] rfl (vj_M_load_28 C a1 a2 a3 P G hr hnl S (1 : Int32) h)
def j_M_load_23 (a1 : Int32) (a2 : Int32) (a3 : Int32) (P : zS → Prop) (S : zS) : Prop :=
  j_M_load_28 a1 a2 a3 P S (2 : Int32)
set_option maxRecDepth 20000 in
set_option maxHeartbeats 4000000 in
theorem vj_M_load_23 {E : zE} {B : zK} (C : zC E (wR B) prog_12_method_24_code "HostBenchModel" 2 41) (a1 : Int32) (a2 : Int32) (a3 : Int32) (P : zS → Prop) (G : zGoal E (zQ (wR B) (zPv P)) (wR B)) (hr : zRt E (none)) (hnl : E.2.2.2.2.2.2.2.2.2.2.1 = 7) (S : zS) (h : j_M_load_23 a1 a2 a3 P S) : zV E (wR B) S 23 [(0, .ref (ad B 0)), (1, .int a1), (2, .int a2), (3, .int a3)] [] := by
  unfold j_M_load_23 at h
  refine z_iconst (v := (2 : Int32)) C rfl d_M_load_23 ?_
  refine z_goto (tgt := 28) C d_M_load_24 rfl ?_
  exact z_sub [0, 1, 2, 3] rfl (vj_M_load_28 C a1 a2 a3 P G hr hnl S (2 : Int32) h)
def w_M_load (a1 : Int32) (a2 : Int32) (a3 : Int32) (S : zS) (P : zS → Prop) : Prop :=
  (a2 = 0 → (j_M_load_9 a1 a2 a3 P S)) ∧ (¬ a2 = 0 → ((a2 = (4 : Int32) → (j_M_load_9 a1 a2 a3 P S)) ∧ (¬ a2 = (4 : Int32) → ((a2 = (1 : Int32) → (j_M_load_23 a1 a2 a3 P S)) ∧ (¬ a2 = (1 : Int32) → ((a2 = (5 : Int32) → (j_M_load_23 a1 a2 a3 P S)) ∧ (¬ a2 = (5 : Int32) → (j_M_load_28 a1 a2 a3 P S (4 : Int32)))))))))
set_option maxRecDepth 20000 in
set_option maxHeartbeats 4000000 in
theorem v_M_load {E : zE} {B : zK} (C : zC E (wR B) prog_12_method_24_code "HostBenchModel" 2 41) (a1 : Int32) (a2 : Int32) (a3 : Int32) (P : zS → Prop) (G : zGoal E (zQ (wR B) (zPv P)) (wR B)) (hr : zRt E (none)) (hnl : E.2.2.2.2.2.2.2.2.2.2.1 = 7) (S : zS) (h : w_M_load a1 a2 a3 S P) : zV E (wR B) S 0 [(0, .ref (ad B 0)), (1, .int a1), (2, .int a2), (3, .int a3)] [] := by
  unfold w_M_load at h
  refine z_iload_n C 2 rfl rfl d_M_load_0 ?_
  refine z_if_eq (tgt := 9) C d_M_load_1 rfl (fun c => ?_) (fun c => ?_)
  · have h := h.1 c
    exact z_sub [0, 1, 2, 3] rfl (vj_M_load_9 C a1 a2 a3 P G hr hnl S h)
  · have h := h.2 c
    refine z_iload_n C 2 rfl rfl d_M_load_4 ?_
    refine z_iconst (v := (4 : Int32)) C rfl d_M_load_5 ?_
    refine z_icmp_ne (tgt := 13) C d_M_load_6 rfl (fun c => ?_) (fun c => ?_)
    · have h := h.2 c
      refine z_iload_n C 2 rfl rfl d_M_load_13 ?_
      refine z_iconst (v := (1 : Int32)) C rfl d_M_load_14 ?_
      refine z_icmp_eq (tgt := 23) C d_M_load_15 rfl (fun c => ?_) (fun c => ?_)
      · have h := h.1 c
        exact z_sub [0, 1, 2, 3] rfl (vj_M_load_23 C a1 a2 a3 P G hr hnl S h)
      · have h := h.2 c
        refine z_iload_n C 2 rfl rfl d_M_load_18 ?_
        refine z_iconst (v := (5 : Int32)) C rfl d_M_load_19 ?_
        refine z_icmp_ne (tgt := 27) C d_M_load_20 rfl (fun c => ?_) (fun c => ?_)
        · have h := h.2 c
          refine z_iconst (v := (4 : Int32)) C rfl d_M_load_27 ?_
          exact z_sub [0, 1, 2, 3] rfl (vj_M_load_28 C a1 a2 a3 P G hr hnl S (4 : Int32) h)
        · have h := h.1 c
          exact z_sub [0, 1, 2, 3] rfl (vj_M_load_23 C a1 a2 a3 P G hr hnl S h)
    · have h := h.1 c
      exact z_sub [0, 1, 2, 3] rfl (vj_M_load_9 C a1 a2 a3 P G hr hnl S h)
theorem c_M_load (l : Launch) (B : zK) (a1 : Int32) (a2 : Int32) (a3 : Int32) (S : zS) (P : zS → Prop) (h : w_M_load a1 a2 a3 S P) : Met l y_M_load (Cond.code y_M_load prog_12_method_24_code 7 none :: tT) (zRm 2 41) (zPc (wR B) [.ref (ad B 0), .int a1, .int a2, .int a3] S) (zQ (wR B) (zPv P)) 0 0 (wR B).2.2.2 :=
  z_met (by decide) (Nat.le_of_ble_eq_true rfl) (fun E C G hr _ hnl => v_M_load C a1 a2 a3 P G hr hnl S h)
theorem q_M_load : zQw y_M_load prog_12_method_24_code 7 none 3 := ⟨tw_1166, tw_46, tw_87, tw_1167, by decide +kernel⟩
def w_M_store (a1 : Int32) (a2 : Int32) (a3 : Int32) (S : zS) (P : zS → Prop) : Prop :=
  ∀ v1 : Int32, v1 = ((1 : Int32) <<< (a1 &&& 31)) → (a1 ≤ (2 : Int32) → (¬ v1 = 0 ∧ ((a2 - a2 / v1 * v1) = 0 → (w_M_isArea a2 v1 S (fun S2 r3 => (r3 = 0 → (w_M_stop (9 : Int32) S2 (fun S6 => P S6))) ∧ (¬ r3 = 0 → (w_M_lays a2 a3 v1 S2 (fun S4 => ∀ S5 : zS, S5 = sM S4 0 3 ((gM S4 0 3) + (4 : Int32)) → P S5)))))) ∧ (¬ (a2 - a2 / v1 * v1) = 0 → (w_M_stop (8 : Int32) S (fun S7 => P S7))))) ∧ (¬ a1 ≤ (2 : Int32) → (w_M_stop (3 : Int32) S (fun S8 => P S8)))
set_option maxRecDepth 20000 in
set_option maxHeartbeats 4000000 in
theorem v_M_store {E : zE} {B : zK} (C : zC E (wR B) prog_12_method_25_code "HostBenchModel" 2 41) (a1 : Int32) (a2 : Int32) (a3 : Int32) (P : zS → Prop) (G : zGoal E (zQ (wR B) (zPv P)) (wR B)) (hr : zRt E (none)) (hnl : E.2.2.2.2.2.2.2.2.2.2.1 = 5) (S : zS) (h : w_M_store a1 a2 a3 S P) : zV E (wR B) S 0 [(0, .ref (ad B 0)), (1, .int a1), (2, .int a2), (3, .int a3)] [] := by
  unfold w_M_store at h
  refine z_iconst (v := (1 : Int32)) C rfl d_M_store_0 ?_
  refine z_iload_n C 1 rfl rfl d_M_store_1 ?_
  refine z_ishl C d_M_store_2 ?_
  refine z_topi (fun v1 ev1 => ?_)
  have h := h v1 ev1
  refine z_istore (L' := [(4, .int v1), (0, .ref (ad B 0)), (1, .int a1), (2, .int a2), (3, .int a3)]) C hnl (by decide) rfl d_M_store_3 ?_
  refine z_iload_n C 2 rfl rfl d_M_store_5 ?_
  refine z_iconst (v := (2 : Int32)) C rfl d_M_store_6 ?_
  refine z_icmp_le (tgt := 18) C d_M_store_7 rfl (fun c => ?_) (fun c => ?_)
  · have h := h.1 c
    refine z_iload_n C 3 rfl rfl d_M_store_18 ?_
    refine z_iload C 0 rfl d_M_store_19 ?_
    obtain ⟨hc, h⟩ := h
    refine z_irem C hc d_M_store_21 ?_
    refine z_if_eq (tgt := 34) C d_M_store_22 rfl (fun c => ?_) (fun c => ?_)
    · have h := h.1 c
      refine z_iload_n C 3 rfl rfl d_M_store_34 ?_
      refine z_iload C 0 rfl d_M_store_35 ?_
      refine z_callSi (rest := []) C q_M_isArea rfl tw_1139 (c_M_isArea _ B a2 v1 S _ h) ⟨Nat.le_of_ble_eq_true rfl, Nat.le_of_ble_eq_true rfl⟩ rfl rfl (Nat.le_of_ble_eq_true rfl) d_M_store_37 (fun S2 r3 h => ?_)
      refine z_if_ne (tgt := 52) C d_M_store_40 rfl (fun c => ?_) (fun c => ?_)
      · have h := h.2 c
        refine z_aload_n C 1 rfl rfl d_M_store_52 ?_
        refine z_iload_n C 3 rfl rfl d_M_store_53 ?_
        refine z_iload_n C 4 rfl rfl d_M_store_54 ?_
        refine z_iload C 0 rfl d_M_store_55 ?_
        refine z_callVv (rest := []) C q_M_lays tw_1172 (c_M_lays _ B a2 a3 v1 S2 _ h) rc_M ⟨Nat.le_of_ble_eq_true rfl, Nat.le_of_ble_eq_true rfl⟩ rfl rfl (Nat.le_of_ble_eq_true rfl) d_M_store_57 (fun S4 h => ?_)
        refine z_aload_n C 1 rfl rfl d_M_store_60 ?_
        refine z_dup C rfl d_M_store_61 ?_
        refine gf_M_pc C (Or.inl tw_987) d_M_store_62 ?_
        refine z_iconst (v := (4 : Int32)) C rfl d_M_store_65 ?_
        refine z_iadd C d_M_store_66 ?_
        refine pf_M_pc C (Or.inl tw_987) d_M_store_67 ?_
        refine z_nS (fun S5 eS5 => ?_)
        have h := h S5 eS5
        exact z_vreturn C G hr h d_M_store_70
      · have h := h.1 c
        refine z_aload_n C 1 rfl rfl d_M_store_43 ?_
        refine z_bipush (v := (9 : Int32)) C rfl d_M_store_44 ?_
        refine z_callVv (rest := []) C q_M_stop tw_1135 (c_M_stop _ B (9 : Int32) S2 _ h) rc_M ⟨Nat.le_of_ble_eq_true rfl, Nat.le_of_ble_eq_true rfl⟩ rfl rfl (Nat.le_of_ble_eq_true rfl) d_M_store_46 (fun S6 h => ?_)
        refine z_goto (tgt := 70) C d_M_store_49 rfl ?_
        exact z_vreturn C G hr h d_M_store_70
    · have h := h.2 c
      refine z_aload_n C 1 rfl rfl d_M_store_25 ?_
      refine z_bipush (v := (8 : Int32)) C rfl d_M_store_26 ?_
      refine z_callVv (rest := []) C q_M_stop tw_1135 (c_M_stop _ B (8 : Int32) S _ h) rc_M ⟨Nat.le_of_ble_eq_true rfl, Nat.le_of_ble_eq_true rfl⟩ rfl rfl (Nat.le_of_ble_eq_true rfl) d_M_store_28 (fun S7 h => ?_)
      refine z_goto (tgt := 70) C d_M_store_31 rfl ?_
      exact z_vreturn C G hr h d_M_store_70
  · have h := h.2 c
    refine z_aload_n C 1 rfl rfl d_M_store_10 ?_
    refine z_iconst (v := (3 : Int32)) C rfl d_M_store_11 ?_
    refine z_callVv (rest := []) C q_M_stop tw_1135 (c_M_stop _ B (3 : Int32) S _ h) rc_M ⟨Nat.le_of_ble_eq_true rfl, Nat.le_of_ble_eq_true rfl⟩ rfl rfl (Nat.le_of_ble_eq_true rfl) d_M_store_12 (fun S8 h => ?_)
    refine z_goto (tgt := 70) C d_M_store_15 rfl ?_
    exact z_vreturn C G hr h d_M_store_70
theorem c_M_store (l : Launch) (B : zK) (a1 : Int32) (a2 : Int32) (a3 : Int32) (S : zS) (P : zS → Prop) (h : w_M_store a1 a2 a3 S P) : Met l y_M_store (Cond.code y_M_store prog_12_method_25_code 5 none :: tT) (zRm 2 41) (zPc (wR B) [.ref (ad B 0), .int a1, .int a2, .int a3] S) (zQ (wR B) (zPv P)) 0 0 (wR B).2.2.2 :=
  z_met (by decide) (Nat.le_of_ble_eq_true rfl) (fun E C G hr _ hnl => v_M_store C a1 a2 a3 P G hr hnl S h)
theorem q_M_store : zQw y_M_store prog_12_method_25_code 5 none 3 := ⟨tw_1170, tw_47, tw_87, tw_1171, by decide +kernel⟩
def j_M_small_243 (a1 : Int32) (a2 : Int32) (a3 : Int32) (a4 : Int32) (P : zS → Prop) (S : zS) : Prop :=
  ∀ S1 : zS, S1 = sM S 0 3 ((gM S 0 3) + (4 : Int32)) → P S1
set_option maxRecDepth 20000 in
set_option maxHeartbeats 4000000 in
theorem vj_M_small_243 {E : zE} {B : zK} (C : zC E (wR B) prog_12_method_26_code "HostBenchModel" 1 22) (a1 : Int32) (a2 : Int32) (a3 : Int32) (a4 : Int32) (P : zS → Prop) (G : zGoal E (zQ (wR B) (zPv P)) (wR B)) (hr : zRt E (none)) (hnl : E.2.2.2.2.2.2.2.2.2.2.1 = 9) (S : zS) (h : j_M_small_243 a1 a2 a3 a4 P S) : zV E (wR B) S 243 [(0, .ref (ad B 0))] [] := by
  unfold j_M_small_243 at h
  refine z_aload_n C 0 rfl rfl d_M_small_243 ?_
  refine z_dup C rfl d_M_small_244 ?_
  refine gf_M_pc C (Or.inl tw_987) d_M_small_245 ?_
  refine z_iconst (v := (4 : Int32)) C rfl d_M_small_248 ?_
  refine z_iadd C d_M_small_249 ?_
  refine pf_M_pc C (Or.inl tw_987) d_M_small_250 ?_
  refine z_nS (fun S1 eS1 => ?_)
  have h := h S1 eS1
  exact z_vreturn C G hr h d_M_small_253
def j_M_small_148 (a1 : Int32) (a2 : Int32) (a3 : Int32) (a4 : Int32) (P : zS → Prop) (S : zS) (s1 : Int32) (s2 : Int32) : Prop :=
  w_M_comes s1 s2 S (fun S1 => j_M_small_243 a1 a2 a3 a4 P S1)
set_option maxRecDepth 20000 in
set_option maxHeartbeats 4000000 in
theorem vj_M_small_148 {E : zE} {B : zK} (C : zC E (wR B) prog_12_method_26_code "HostBenchModel" 1 22) (a1 : Int32) (a2 : Int32) (a3 : Int32) (a4 : Int32) (P : zS → Prop) (G : zGoal E (zQ (wR B) (zPv P)) (wR B)) (hr : zRt E (none)) (hnl : E.2.2.2.2.2.2.2.2.2.2.1 = 9) (S : zS) (s1 : Int32) (s2 : Int32) (h : j_M_small_148 a1 a2 a3 a4 P S s1 s2) : zV E (wR B) S 148 [(0, .ref (ad B 0))] [.int s2, .int s1, .ref (ad B 0)] := by
  unfold j_M_small_148 at h
  refine z_callVv (rest := []) C q_M_comes tw_1151 (c_M_comes _ B s1 s2 S _ h) rc_M ⟨Nat.le_of_ble_eq_true rfl, Nat.le_of_ble_eq_true rfl⟩ rfl rfl (Nat.le_of_ble_eq_true rfl) d_M_small_148 (fun S1 h => ?_)
  refine z_goto (tgt := 243) C d_M_small_151 rfl ?_
  exact z_sub [0] rfl (vj_M_small_243 C a1 a2 a3 a4 P G hr hnl S1 h)
def j_M_small_175 (a1 : Int32) (a2 : Int32) (a3 : Int32) (a4 : Int32) (P : zS → Prop) (S : zS) (s1 : Int32) (s2 : Int32) : Prop :=
  w_M_comes s1 s2 S (fun S1 => j_M_small_243 a1 a2 a3 a4 P S1)
set_option maxRecDepth 20000 in
set_option maxHeartbeats 4000000 in
theorem vj_M_small_175 {E : zE} {B : zK} (C : zC E (wR B) prog_12_method_26_code "HostBenchModel" 1 22) (a1 : Int32) (a2 : Int32) (a3 : Int32) (a4 : Int32) (P : zS → Prop) (G : zGoal E (zQ (wR B) (zPv P)) (wR B)) (hr : zRt E (none)) (hnl : E.2.2.2.2.2.2.2.2.2.2.1 = 9) (S : zS) (s1 : Int32) (s2 : Int32) (h : j_M_small_175 a1 a2 a3 a4 P S s1 s2) : zV E (wR B) S 175 [(0, .ref (ad B 0))] [.int s2, .int s1, .ref (ad B 0)] := by
  unfold j_M_small_175 at h
  refine z_callVv (rest := []) C q_M_comes tw_1151 (c_M_comes _ B s1 s2 S _ h) rc_M ⟨Nat.le_of_ble_eq_true rfl, Nat.le_of_ble_eq_true rfl⟩ rfl rfl (Nat.le_of_ble_eq_true rfl) d_M_small_175 (fun S1 h => ?_)
  refine z_goto (tgt := 243) C d_M_small_178 rfl ?_
  exact z_sub [0] rfl (vj_M_small_243 C a1 a2 a3 a4 P G hr hnl S1 h)
def j_M_small_214 (a1 : Int32) (a2 : Int32) (a3 : Int32) (a4 : Int32) (P : zS → Prop) (S : zS) (s1 : Int32) (s2 : Int32) : Prop :=
  w_M_comes s1 s2 S (fun S1 => j_M_small_243 a1 a2 a3 a4 P S1)
set_option maxRecDepth 20000 in
set_option maxHeartbeats 4000000 in
theorem vj_M_small_214 {E : zE} {B : zK} (C : zC E (wR B) prog_12_method_26_code "HostBenchModel" 1 22) (a1 : Int32) (a2 : Int32) (a3 : Int32) (a4 : Int32) (P : zS → Prop) (G : zGoal E (zQ (wR B) (zPv P)) (wR B)) (hr : zRt E (none)) (hnl : E.2.2.2.2.2.2.2.2.2.2.1 = 9) (S : zS) (s1 : Int32) (s2 : Int32) (h : j_M_small_214 a1 a2 a3 a4 P S s1 s2) : zV E (wR B) S 214 [(0, .ref (ad B 0))] [.int s2, .int s1, .ref (ad B 0)] := by
  unfold j_M_small_214 at h
  refine z_callVv (rest := []) C q_M_comes tw_1151 (c_M_comes _ B s1 s2 S _ h) rc_M ⟨Nat.le_of_ble_eq_true rfl, Nat.le_of_ble_eq_true rfl⟩ rfl rfl (Nat.le_of_ble_eq_true rfl) d_M_small_214 (fun S1 h => ?_)
  refine z_goto (tgt := 243) C d_M_small_217 rfl ?_
  exact z_sub [0] rfl (vj_M_small_243 C a1 a2 a3 a4 P G hr hnl S1 h)
def j_M_small_44 (a1 : Int32) (a2 : Int32) (a3 : Int32) (a4 : Int32) (P : zS → Prop) (S : zS) (x5 : Int32) (x6 : Int32) (s0 : Int32) : Prop :=
  (s0 = 0 → (∀ v1 : Int32, v1 = (x5 &&& (31 : Int32)) → (a3 = (0 : Int32) → (w_M_comes a2 (a4 + x5) S (fun S3 => j_M_small_243 a1 a2 a3 a4 P S3))) ∧ (¬ a3 = (0 : Int32) → ((a3 = (1 : Int32) → (w_M_comes a2 (a4 <<< (v1 &&& 31)) S (fun S4 => j_M_small_243 a1 a2 a3 a4 P S4))) ∧ (¬ a3 = (1 : Int32) → ((a3 = (2 : Int32) → ((x5 ≤ a4 → (j_M_small_148 a1 a2 a3 a4 P S a2 (0 : Int32))) ∧ (¬ x5 ≤ a4 → (j_M_small_148 a1 a2 a3 a4 P S a2 (1 : Int32))))) ∧ (¬ a3 = (2 : Int32) → ((a3 = (3 : Int32) → (w_M_whole a4 S (fun S5 r6 => w_M_whole x5 S5 (fun S7 r8 => (0 ≤ (lg_cmp r6 r8) → (j_M_small_175 a1 a2 a3 a4 P S7 a2 (0 : Int32))) ∧ (¬ 0 ≤ (lg_cmp r6 r8) → (j_M_small_175 a1 a2 a3 a4 P S7 a2 (1 : Int32))))))) ∧ (¬ a3 = (3 : Int32) → ((a3 = (4 : Int32) → (w_M_comes a2 (a4 ^^^ x5) S (fun S9 => j_M_small_243 a1 a2 a3 a4 P S9))) ∧ (¬ a3 = (4 : Int32) → ((a3 = (5 : Int32) → ((x6 = 0 → (j_M_small_214 a1 a2 a3 a4 P S a2 ((a4.toUInt32 >>> (v1.toUInt32 &&& Int32.toUInt32 31)).toInt32))) ∧ (¬ x6 = 0 → (j_M_small_214 a1 a2 a3 a4 P S a2 (a4 >>> (v1 &&& 31)))))) ∧ (¬ a3 = (5 : Int32) → ((a3 = (6 : Int32) → (w_M_comes a2 (a4 ||| x5) S (fun S10 => j_M_small_243 a1 a2 a3 a4 P S10))) ∧ (¬ a3 = (6 : Int32) → (w_M_comes a2 (a4 &&& x5) S (fun S2 => j_M_small_243 a1 a2 a3 a4 P S2))))))))))))))))) ∧ (¬ s0 = 0 → (w_M_stop (3 : Int32) S (fun S11 => P S11)))
set_option maxRecDepth 20000 in
set_option maxHeartbeats 4000000 in
theorem vj_M_small_44 {E : zE} {B : zK} (C : zC E (wR B) prog_12_method_26_code "HostBenchModel" 1 22) (a1 : Int32) (a2 : Int32) (a3 : Int32) (a4 : Int32) (P : zS → Prop) (G : zGoal E (zQ (wR B) (zPv P)) (wR B)) (hr : zRt E (none)) (hnl : E.2.2.2.2.2.2.2.2.2.2.1 = 9) (S : zS) (x5 : Int32) (x6 : Int32) (s0 : Int32) (h : j_M_small_44 a1 a2 a3 a4 P S x5 x6 s0) : zV E (wR B) S 44 [(0, .ref (ad B 0)), (2, .int a2), (3, .int a3), (4, .int a4), (5, .int x5), (6, .int x6)] [.int s0] := by
  unfold j_M_small_44 at h
  refine z_istore (L' := [(7, .int s0), (0, .ref (ad B 0)), (2, .int a2), (3, .int a3), (4, .int a4), (5, .int x5), (6, .int x6)]) C hnl (by decide) rfl d_M_small_44 ?_
  refine z_iload C 0 rfl d_M_small_46 ?_
  refine z_if_eq (tgt := 57) C d_M_small_48 rfl (fun c => ?_) (fun c => ?_)
  · have h := h.1 c
    refine z_iload C 5 rfl d_M_small_57 ?_
    refine z_bipush (v := (31 : Int32)) C rfl d_M_small_59 ?_
    refine z_iand C d_M_small_61 ?_
    refine z_topi (fun v1 ev1 => ?_)
    have h := h v1 ev1
    refine z_istore (L' := [(8, .int v1), (7, .int s0), (0, .ref (ad B 0)), (2, .int a2), (3, .int a3), (4, .int a4), (5, .int x5), (6, .int x6)]) C hnl (by decide) rfl d_M_small_62 ?_
    refine z_iload_n C 4 rfl rfl d_M_small_64 ?_
    by_cases c0 : a3 = (0 : Int32)
    · have h := h.1 c0
      refine z_tableIn (off := 43) (tgt := 108) C d_M_small_65 c0 (by decide) rfl rfl ?_
      refine z_aload_n C 2 rfl rfl d_M_small_108 ?_
      refine z_iload_n C 3 rfl rfl d_M_small_109 ?_
      refine z_iload C 5 rfl d_M_small_110 ?_
      refine z_iload C 6 rfl d_M_small_112 ?_
      refine z_iadd C d_M_small_114 ?_
      refine z_callVv (rest := []) C q_M_comes tw_1151 (c_M_comes _ B a2 (a4 + x5) S _ h) rc_M ⟨Nat.le_of_ble_eq_true rfl, Nat.le_of_ble_eq_true rfl⟩ rfl rfl (Nat.le_of_ble_eq_true rfl) d_M_small_115 (fun S3 h => ?_)
      refine z_goto (tgt := 243) C d_M_small_118 rfl ?_
      exact z_sub [2] rfl (vj_M_small_243 C a1 a2 a3 a4 P G hr hnl S3 h)
    · have h := h.2 c0
      by_cases c1 : a3 = (1 : Int32)
      · have h := h.1 c1
        refine z_tableIn (off := 56) (tgt := 121) C d_M_small_65 c1 (by decide) rfl rfl ?_
        refine z_aload_n C 2 rfl rfl d_M_small_121 ?_
        refine z_iload_n C 3 rfl rfl d_M_small_122 ?_
        refine z_iload C 5 rfl d_M_small_123 ?_
        refine z_iload C 0 rfl d_M_small_125 ?_
        refine z_ishl C d_M_small_127 ?_
        refine z_callVv (rest := []) C q_M_comes tw_1151 (c_M_comes _ B a2 (a4 <<< (v1 &&& 31)) S _ h) rc_M ⟨Nat.le_of_ble_eq_true rfl, Nat.le_of_ble_eq_true rfl⟩ rfl rfl (Nat.le_of_ble_eq_true rfl) d_M_small_128 (fun S4 h => ?_)
        refine z_goto (tgt := 243) C d_M_small_131 rfl ?_
        exact z_sub [2] rfl (vj_M_small_243 C a1 a2 a3 a4 P G hr hnl S4 h)
      · have h := h.2 c1
        by_cases c2 : a3 = (2 : Int32)
        · have h := h.1 c2
          refine z_tableIn (off := 69) (tgt := 134) C d_M_small_65 c2 (by decide) rfl rfl ?_
          refine z_aload_n C 2 rfl rfl d_M_small_134 ?_
          refine z_iload_n C 3 rfl rfl d_M_small_135 ?_
          refine z_iload C 5 rfl d_M_small_136 ?_
          refine z_iload C 6 rfl d_M_small_138 ?_
          refine z_icmp_ge (tgt := 147) C d_M_small_140 rfl (fun c => ?_) (fun c => ?_)
          · have h := h.1 c
            refine z_iconst (v := (0 : Int32)) C rfl d_M_small_147 ?_
            exact z_sub [2] rfl (vj_M_small_148 C a1 a2 a3 a4 P G hr hnl S a2 (0 : Int32) h)
          · have h := h.2 c
            refine z_iconst (v := (1 : Int32)) C rfl d_M_small_143 ?_
            refine z_goto (tgt := 148) C d_M_small_144 rfl ?_
            exact z_sub [2] rfl (vj_M_small_148 C a1 a2 a3 a4 P G hr hnl S a2 (1 : Int32) h)
        · have h := h.2 c2
          by_cases c3 : a3 = (3 : Int32)
          · have h := h.1 c3
            refine z_tableIn (off := 89) (tgt := 154) C d_M_small_65 c3 (by decide) rfl rfl ?_
            refine z_aload_n C 2 rfl rfl d_M_small_154 ?_
            refine z_iload_n C 3 rfl rfl d_M_small_155 ?_
            refine z_iload C 5 rfl d_M_small_156 ?_
            refine z_callSl (rest := [.int a2, .ref (ad B 0)]) C q_M_whole rfl tw_1142 (c_M_whole _ B a4 S _ h) ⟨Nat.le_of_ble_eq_true rfl, Nat.le_of_ble_eq_true rfl⟩ rfl rfl (Nat.le_of_ble_eq_true rfl) d_M_small_158 (fun S5 r6 h => ?_)
            refine z_iload C 6 rfl d_M_small_161 ?_
            refine z_callSl (rest := [.long r6, .int a2, .ref (ad B 0)]) C q_M_whole rfl tw_1142 (c_M_whole _ B x5 S5 _ h) ⟨Nat.le_of_ble_eq_true rfl, Nat.le_of_ble_eq_true rfl⟩ rfl rfl (Nat.le_of_ble_eq_true rfl) d_M_small_163 (fun S7 r8 h => ?_)
            refine z_lcmp C d_M_small_166 ?_
            refine z_if_ge (tgt := 174) C d_M_small_167 rfl (fun c => ?_) (fun c => ?_)
            · have h := h.1 c
              refine z_iconst (v := (0 : Int32)) C rfl d_M_small_174 ?_
              exact z_sub [2] rfl (vj_M_small_175 C a1 a2 a3 a4 P G hr hnl S7 a2 (0 : Int32) h)
            · have h := h.2 c
              refine z_iconst (v := (1 : Int32)) C rfl d_M_small_170 ?_
              refine z_goto (tgt := 175) C d_M_small_171 rfl ?_
              exact z_sub [2] rfl (vj_M_small_175 C a1 a2 a3 a4 P G hr hnl S7 a2 (1 : Int32) h)
          · have h := h.2 c3
            by_cases c4 : a3 = (4 : Int32)
            · have h := h.1 c4
              refine z_tableIn (off := 116) (tgt := 181) C d_M_small_65 c4 (by decide) rfl rfl ?_
              refine z_aload_n C 2 rfl rfl d_M_small_181 ?_
              refine z_iload_n C 3 rfl rfl d_M_small_182 ?_
              refine z_iload C 5 rfl d_M_small_183 ?_
              refine z_iload C 6 rfl d_M_small_185 ?_
              refine z_ixor C d_M_small_187 ?_
              refine z_callVv (rest := []) C q_M_comes tw_1151 (c_M_comes _ B a2 (a4 ^^^ x5) S _ h) rc_M ⟨Nat.le_of_ble_eq_true rfl, Nat.le_of_ble_eq_true rfl⟩ rfl rfl (Nat.le_of_ble_eq_true rfl) d_M_small_188 (fun S9 h => ?_)
              refine z_goto (tgt := 243) C d_M_small_191 rfl ?_
              exact z_sub [2] rfl (vj_M_small_243 C a1 a2 a3 a4 P G hr hnl S9 h)
            · have h := h.2 c4
              by_cases c5 : a3 = (5 : Int32)
              · have h := h.1 c5
                refine z_tableIn (off := 129) (tgt := 194) C d_M_small_65 c5 (by decide) rfl rfl ?_
                refine z_aload_n C 2 rfl rfl d_M_small_194 ?_
                refine z_iload_n C 3 rfl rfl d_M_small_195 ?_
                refine z_iload C 7 rfl d_M_small_196 ?_
                refine z_if_ne (tgt := 209) C d_M_small_198 rfl (fun c => ?_) (fun c => ?_)
                · have h := h.2 c
                  refine z_iload C 5 rfl d_M_small_209 ?_
                  refine z_iload C 0 rfl d_M_small_211 ?_
                  refine z_ishr C d_M_small_213 ?_
                  exact z_sub [2] rfl (vj_M_small_214 C a1 a2 a3 a4 P G hr hnl S a2 (a4 >>> (v1 &&& 31)) h)
                · have h := h.1 c
                  refine z_iload C 5 rfl d_M_small_201 ?_
                  refine z_iload C 0 rfl d_M_small_203 ?_
                  refine z_iushr C d_M_small_205 ?_
                  refine z_goto (tgt := 214) C d_M_small_206 rfl ?_
                  exact z_sub [2] rfl (vj_M_small_214 C a1 a2 a3 a4 P G hr hnl S a2 ((a4.toUInt32 >>> (v1.toUInt32 &&& Int32.toUInt32 31)).toInt32) h)
              · have h := h.2 c5
                by_cases c6 : a3 = (6 : Int32)
                · have h := h.1 c6
                  refine z_tableIn (off := 155) (tgt := 220) C d_M_small_65 c6 (by decide) rfl rfl ?_
                  refine z_aload_n C 2 rfl rfl d_M_small_220 ?_
                  refine z_iload_n C 3 rfl rfl d_M_small_221 ?_
                  refine z_iload C 5 rfl d_M_small_222 ?_
                  refine z_iload C 6 rfl d_M_small_224 ?_
                  refine z_ior C d_M_small_226 ?_
                  refine z_callVv (rest := []) C q_M_comes tw_1151 (c_M_comes _ B a2 (a4 ||| x5) S _ h) rc_M ⟨Nat.le_of_ble_eq_true rfl, Nat.le_of_ble_eq_true rfl⟩ rfl rfl (Nat.le_of_ble_eq_true rfl) d_M_small_227 (fun S10 h => ?_)
                  refine z_goto (tgt := 243) C d_M_small_230 rfl ?_
                  exact z_sub [2] rfl (vj_M_small_243 C a1 a2 a3 a4 P G hr hnl S10 h)
                · have h := h.2 c6
                  refine z_tableOut (tgt := 233) C d_M_small_65 (by have n0 := lv_neT (a := 0) c0 rfl; have n1 := lv_neT (a := 1) c1 rfl; have n2 := lv_neT (a := 2) c2 rfl; have n3 := lv_neT (a := 3) c3 rfl; have n4 := lv_neT (a := 4) c4 rfl; have n5 := lv_neT (a := 5) c5 rfl; have n6 := lv_neT (a := 6) c6 rfl; omega) rfl ?_
                  refine z_aload_n C 2 rfl rfl d_M_small_233 ?_
                  refine z_iload_n C 3 rfl rfl d_M_small_234 ?_
                  refine z_iload C 5 rfl d_M_small_235 ?_
                  refine z_iload C 6 rfl d_M_small_237 ?_
                  refine z_iand C d_M_small_239 ?_
                  refine z_callVv (rest := []) C q_M_comes tw_1151 (c_M_comes _ B a2 (a4 &&& x5) S _ h) rc_M ⟨Nat.le_of_ble_eq_true rfl, Nat.le_of_ble_eq_true rfl⟩ rfl rfl (Nat.le_of_ble_eq_true rfl) d_M_small_240 (fun S2 h => ?_)
                  exact z_sub [2] rfl (vj_M_small_243 C a1 a2 a3 a4 P G hr hnl S2 h)
  · have h := h.2 c
    refine z_aload_n C 1 rfl rfl d_M_small_51 ?_
    refine z_iconst (v := (3 : Int32)) C rfl d_M_small_52 ?_
    refine z_callVv (rest := []) C q_M_stop tw_1135 (c_M_stop _ B (3 : Int32) S _ h) rc_M ⟨Nat.le_of_ble_eq_true rfl, Nat.le_of_ble_eq_true rfl⟩ rfl rfl (Nat.le_of_ble_eq_true rfl) d_M_small_53 (fun S11 h => ?_)
    exact z_vreturn C G hr h d_M_small_56
def j_M_small_39 (a1 : Int32) (a2 : Int32) (a3 : Int32) (a4 : Int32) (P : zS → Prop) (S : zS) (x5 : Int32) (x6 : Int32) : Prop :=
  j_M_small_44 a1 a2 a3 a4 P S x5 x6 (1 : Int32)
set_option maxRecDepth 20000 in
set_option maxHeartbeats 4000000 in
theorem vj_M_small_39 {E : zE} {B : zK} (C : zC E (wR B) prog_12_method_26_code "HostBenchModel" 1 22) (a1 : Int32) (a2 : Int32) (a3 : Int32) (a4 : Int32) (P : zS → Prop) (G : zGoal E (zQ (wR B) (zPv P)) (wR B)) (hr : zRt E (none)) (hnl : E.2.2.2.2.2.2.2.2.2.2.1 = 9) (S : zS) (x5 : Int32) (x6 : Int32) (h : j_M_small_39 a1 a2 a3 a4 P S x5 x6) : zV E (wR B) S 39 [(0, .ref (ad B 0)), (2, .int a2), (3, .int a3), (4, .int a4), (5, .int x5), (6, .int x6)] [] := by
  unfold j_M_small_39 at h
  refine z_iconst (v := (1 : Int32)) C rfl d_M_small_39 ?_
  refine z_goto (tgt := 44) C d_M_small_40 rfl ?_
  exact z_sub [0, 1, 2, 3, 4, 5] rfl (vj_M_small_44 C a1 a2 a3 a4 P G hr hnl S x5 x6 (1 : Int32) h)
def j_M_small_43 (a1 : Int32) (a2 : Int32) (a3 : Int32) (a4 : Int32) (P : zS → Prop) (S : zS) (x5 : Int32) (x6 : Int32) : Prop :=
  j_M_small_44 a1 a2 a3 a4 P S x5 x6 (0 : Int32)
set_option maxRecDepth 20000 in
set_option maxHeartbeats 4000000 in
theorem vj_M_small_43 {E : zE} {B : zK} (C : zC E (wR B) prog_12_method_26_code "HostBenchModel" 1 22) (a1 : Int32) (a2 : Int32) (a3 : Int32) (a4 : Int32) (P : zS → Prop) (G : zGoal E (zQ (wR B) (zPv P)) (wR B)) (hr : zRt E (none)) (hnl : E.2.2.2.2.2.2.2.2.2.2.1 = 9) (S : zS) (x5 : Int32) (x6 : Int32) (h : j_M_small_43 a1 a2 a3 a4 P S x5 x6) : zV E (wR B) S 43 [(0, .ref (ad B 0)), (2, .int a2), (3, .int a3), (4, .int a4), (5, .int x5), (6, .int x6)] [] := by
  unfold j_M_small_43 at h
  refine z_iconst (v := (0 : Int32)) C rfl d_M_small_43 ?_
  exact z_sub [0, 1, 2, 3, 4, 5] rfl (vj_M_small_44 C a1 a2 a3 a4 P G hr hnl S x5 x6 (0 : Int32) h)
def j_M_small_22 (a1 : Int32) (a2 : Int32) (a3 : Int32) (a4 : Int32) (P : zS → Prop) (S : zS) (x5 : Int32) (x6 : Int32) : Prop :=
  (a3 = (5 : Int32) → ((x6 = 0 → (j_M_small_43 a1 a2 a3 a4 P S x5 x6)) ∧ (¬ x6 = 0 → ((x6 = (32 : Int32) → (j_M_small_43 a1 a2 a3 a4 P S x5 x6)) ∧ (¬ x6 = (32 : Int32) → (j_M_small_39 a1 a2 a3 a4 P S x5 x6)))))) ∧ (¬ a3 = (5 : Int32) → (j_M_small_43 a1 a2 a3 a4 P S x5 x6))
set_option maxRecDepth 20000 in
set_option maxHeartbeats 4000000 in
theorem vj_M_small_22 {E : zE} {B : zK} (C : zC E (wR B) prog_12_method_26_code "HostBenchModel" 1 22) (a1 : Int32) (a2 : Int32) (a3 : Int32) (a4 : Int32) (P : zS → Prop) (G : zGoal E (zQ (wR B) (zPv P)) (wR B)) (hr : zRt E (none)) (hnl : E.2.2.2.2.2.2.2.2.2.2.1 = 9) (S : zS) (x5 : Int32) (x6 : Int32) (h : j_M_small_22 a1 a2 a3 a4 P S x5 x6) : zV E (wR B) S 22 [(0, .ref (ad B 0)), (2, .int a2), (3, .int a3), (4, .int a4), (5, .int x5), (6, .int x6)] [] := by
  unfold j_M_small_22 at h
  refine z_iload_n C 2 rfl rfl d_M_small_22 ?_
  refine z_iconst (v := (5 : Int32)) C rfl d_M_small_23 ?_
  refine z_icmp_ne (tgt := 43) C d_M_small_24 rfl (fun c => ?_) (fun c => ?_)
  · have h := h.2 c
    exact z_sub [0, 1, 2, 3, 4, 5] rfl (vj_M_small_43 C a1 a2 a3 a4 P G hr hnl S x5 x6 h)
  · have h := h.1 c
    refine z_iload C 5 rfl d_M_small_27 ?_
    refine z_if_eq (tgt := 43) C d_M_small_29 rfl (fun c => ?_) (fun c => ?_)
    · have h := h.1 c
      exact z_sub [0, 1, 2, 3, 4, 5] rfl (vj_M_small_43 C a1 a2 a3 a4 P G hr hnl S x5 x6 h)
    · have h := h.2 c
      refine z_iload C 5 rfl d_M_small_32 ?_
      refine z_bipush (v := (32 : Int32)) C rfl d_M_small_34 ?_
      refine z_icmp_eq (tgt := 43) C d_M_small_36 rfl (fun c => ?_) (fun c => ?_)
      · have h := h.1 c
        exact z_sub [0, 1, 2, 3, 4, 5] rfl (vj_M_small_43 C a1 a2 a3 a4 P G hr hnl S x5 x6 h)
      · have h := h.2 c
        exact z_sub [0, 1, 2, 3, 4, 5] rfl (vj_M_small_39 C a1 a2 a3 a4 P G hr hnl S x5 x6 h)
def w_M_small (a1 : Int32) (a2 : Int32) (a3 : Int32) (a4 : Int32) (S : zS) (P : zS → Prop) : Prop :=
  ∀ v1 : Int32, v1 = (a1 >>> ((20 : Int32) &&& 31)) → ∀ v2 : Int32, v2 = ((a1.toUInt32 >>> ((25 : Int32).toUInt32 &&& Int32.toUInt32 31)).toInt32) → (a3 = (1 : Int32) → ((v2 = 0 → (j_M_small_22 a1 a2 a3 a4 P S v1 v2)) ∧ (¬ v2 = 0 → (j_M_small_39 a1 a2 a3 a4 P S v1 v2)))) ∧ (¬ a3 = (1 : Int32) → (j_M_small_22 a1 a2 a3 a4 P S v1 v2))
set_option maxRecDepth 20000 in
set_option maxHeartbeats 4000000 in
theorem v_M_small {E : zE} {B : zK} (C : zC E (wR B) prog_12_method_26_code "HostBenchModel" 1 22) (a1 : Int32) (a2 : Int32) (a3 : Int32) (a4 : Int32) (P : zS → Prop) (G : zGoal E (zQ (wR B) (zPv P)) (wR B)) (hr : zRt E (none)) (hnl : E.2.2.2.2.2.2.2.2.2.2.1 = 9) (S : zS) (h : w_M_small a1 a2 a3 a4 S P) : zV E (wR B) S 0 [(0, .ref (ad B 0)), (1, .int a1), (2, .int a2), (3, .int a3), (4, .int a4)] [] := by
  unfold w_M_small at h
  refine z_iload_n C 1 rfl rfl d_M_small_0 ?_
  refine z_bipush (v := (20 : Int32)) C rfl d_M_small_1 ?_
  refine z_ishr C d_M_small_3 ?_
  refine z_topi (fun v1 ev1 => ?_)
  have h := h v1 ev1
  refine z_istore (L' := [(5, .int v1), (0, .ref (ad B 0)), (1, .int a1), (2, .int a2), (3, .int a3), (4, .int a4)]) C hnl (by decide) rfl d_M_small_4 ?_
  refine z_iload_n C 2 rfl rfl d_M_small_6 ?_
  refine z_bipush (v := (25 : Int32)) C rfl d_M_small_7 ?_
  refine z_iushr C d_M_small_9 ?_
  refine z_topi (fun v2 ev2 => ?_)
  have h := h v2 ev2
  refine z_istore (L' := [(6, .int v2), (5, .int v1), (0, .ref (ad B 0)), (1, .int a1), (2, .int a2), (3, .int a3), (4, .int a4)]) C hnl (by decide) rfl d_M_small_10 ?_
  refine z_iload_n C 5 rfl rfl d_M_small_12 ?_
  refine z_iconst (v := (1 : Int32)) C rfl d_M_small_13 ?_
  refine z_icmp_ne (tgt := 22) C d_M_small_14 rfl (fun c => ?_) (fun c => ?_)
  · have h := h.2 c
    exact z_sub [2, 4, 5, 6, 1, 0] rfl (vj_M_small_22 C a1 a2 a3 a4 P G hr hnl S v1 v2 h)
  · have h := h.1 c
    refine z_iload C 0 rfl d_M_small_17 ?_
    refine z_if_ne (tgt := 39) C d_M_small_19 rfl (fun c => ?_) (fun c => ?_)
    · have h := h.2 c
      exact z_sub [2, 4, 5, 6, 1, 0] rfl (vj_M_small_39 C a1 a2 a3 a4 P G hr hnl S v1 v2 h)
    · have h := h.1 c
      exact z_sub [2, 4, 5, 6, 1, 0] rfl (vj_M_small_22 C a1 a2 a3 a4 P G hr hnl S v1 v2 h)
theorem c_M_small (l : Launch) (B : zK) (a1 : Int32) (a2 : Int32) (a3 : Int32) (a4 : Int32) (S : zS) (P : zS → Prop) (h : w_M_small a1 a2 a3 a4 S P) : Met l y_M_small (Cond.code y_M_small prog_12_method_26_code 9 none :: tT) (zRm 1 22) (zPc (wR B) [.ref (ad B 0), .int a1, .int a2, .int a3, .int a4] S) (zQ (wR B) (zPv P)) 0 0 (wR B).2.2.2 :=
  z_met (by decide) (Nat.le_of_ble_eq_true rfl) (fun E C G hr _ hnl => v_M_small C a1 a2 a3 a4 P G hr hnl S h)
theorem q_M_small : zQw y_M_small prog_12_method_26_code 9 none 4 := ⟨tw_1178, tw_49, tw_87, tw_1179, by decide +kernel⟩
def w_M_times (a1 : Int32) (a2 : Int32) (a3 : Int32) (S : zS) (P : zS → Int32 → Prop) : Prop :=
  (a1 = (0 : Int32) → (P S (a2 * a3))) ∧ (¬ a1 = (0 : Int32) → ((a1 = (1 : Int32) → (P S (((a2.toInt64 * a3.toInt64) >>> ((32 : Int32).toInt64 &&& 63)).toInt32))) ∧ (¬ a1 = (1 : Int32) → ((a1 = (2 : Int32) → (w_M_whole a3 S (fun S5 r6 => P S5 (((a2.toInt64 * r6) >>> ((32 : Int32).toInt64 &&& 63)).toInt32)))) ∧ (¬ a1 = (2 : Int32) → ((a1 = (3 : Int32) → (w_M_whole a2 S (fun S7 r8 => w_M_whole a3 S7 (fun S9 r10 => P S9 ((((r8 * r10).toUInt64 >>> ((32 : Int32).toInt64.toUInt64 &&& Int64.toUInt64 63)).toInt64).toInt32))))) ∧ (¬ a1 = (3 : Int32) → ((a1 = (4 : Int32) → ((a3 = 0 → (P S (-1 : Int32))) ∧ (¬ a3 = 0 → (¬ a3 = 0 ∧ P S (a2 / a3))))) ∧ (¬ a1 = (4 : Int32) → ((a1 = (5 : Int32) → ((a3 = 0 → (P S (-1 : Int32))) ∧ (¬ a3 = 0 → (w_M_whole a2 S (fun S11 r12 => w_M_whole a3 S11 (fun S13 r14 => ¬ r14 = 0 ∧ P S13 ((r12 / r14).toInt32))))))) ∧ (¬ a1 = (5 : Int32) → ((a1 = (6 : Int32) → ((a3 = 0 → (P S a2)) ∧ (¬ a3 = 0 → (¬ a3 = 0 ∧ P S (a2 - a2 / a3 * a3))))) ∧ (¬ a1 = (6 : Int32) → ((a3 = 0 → (P S a2)) ∧ (¬ a3 = 0 → (w_M_whole a2 S (fun S1 r2 => w_M_whole a3 S1 (fun S3 r4 => ¬ r4 = 0 ∧ P S3 ((r2 - r2 / r4 * r4).toInt32)))))))))))))))))))
set_option maxRecDepth 20000 in
set_option maxHeartbeats 4000000 in
theorem v_M_times {E : zE} {B : zK} (C : zC E (wR B) prog_12_method_29_code "HostBenchModel" 1 20) (a1 : Int32) (a2 : Int32) (a3 : Int32) (P : zS → Int32 → Prop) (G : zGoal E (zQ (wR B) (zPi P)) (wR B)) (hr : zRt E (some .int)) (hnl : E.2.2.2.2.2.2.2.2.2.2.1 = 3) (S : zS) (h : w_M_times a1 a2 a3 S P) : zV E (wR B) S 0 [(0, .int a1), (1, .int a2), (2, .int a3)] [] := by
  unfold w_M_times at h
  refine z_iload_n C 0 rfl rfl d_M_times_0 ?_
  by_cases c0 : a1 = (0 : Int32)
  · have h := h.1 c0
    refine z_tableIn (off := 43) (tgt := 44) C d_M_times_1 c0 (by decide) rfl rfl ?_
    refine z_iload_n C 1 rfl rfl d_M_times_44 ?_
    refine z_iload_n C 2 rfl rfl d_M_times_45 ?_
    refine z_imul C d_M_times_46 ?_
    exact z_ireturn C G hr h d_M_times_47
  · have h := h.2 c0
    by_cases c1 : a1 = (1 : Int32)
    · have h := h.1 c1
      refine z_tableIn (off := 47) (tgt := 48) C d_M_times_1 c1 (by decide) rfl rfl ?_
      refine z_iload_n C 1 rfl rfl d_M_times_48 ?_
      refine z_i2l C d_M_times_49 ?_
      refine z_iload_n C 2 rfl rfl d_M_times_50 ?_
      refine z_i2l C d_M_times_51 ?_
      refine z_lmul C d_M_times_52 ?_
      refine z_bipush (v := (32 : Int32)) C rfl d_M_times_53 ?_
      refine z_lshr C d_M_times_55 ?_
      refine z_l2i C d_M_times_56 ?_
      exact z_ireturn C G hr h d_M_times_57
    · have h := h.2 c1
      by_cases c2 : a1 = (2 : Int32)
      · have h := h.1 c2
        refine z_tableIn (off := 57) (tgt := 58) C d_M_times_1 c2 (by decide) rfl rfl ?_
        refine z_iload_n C 1 rfl rfl d_M_times_58 ?_
        refine z_i2l C d_M_times_59 ?_
        refine z_iload_n C 2 rfl rfl d_M_times_60 ?_
        refine z_callSl (rest := [.long a2.toInt64]) C q_M_whole rfl tw_1142 (c_M_whole _ B a3 S _ h) ⟨Nat.le_of_ble_eq_true rfl, Nat.le_of_ble_eq_true rfl⟩ rfl rfl (Nat.le_of_ble_eq_true rfl) d_M_times_61 (fun S5 r6 h => ?_)
        refine z_lmul C d_M_times_64 ?_
        refine z_bipush (v := (32 : Int32)) C rfl d_M_times_65 ?_
        refine z_lshr C d_M_times_67 ?_
        refine z_l2i C d_M_times_68 ?_
        exact z_ireturn C G hr h d_M_times_69
      · have h := h.2 c2
        by_cases c3 : a1 = (3 : Int32)
        · have h := h.1 c3
          refine z_tableIn (off := 69) (tgt := 70) C d_M_times_1 c3 (by decide) rfl rfl ?_
          refine z_iload_n C 1 rfl rfl d_M_times_70 ?_
          refine z_callSl (rest := []) C q_M_whole rfl tw_1142 (c_M_whole _ B a2 S _ h) ⟨Nat.le_of_ble_eq_true rfl, Nat.le_of_ble_eq_true rfl⟩ rfl rfl (Nat.le_of_ble_eq_true rfl) d_M_times_71 (fun S7 r8 h => ?_)
          refine z_iload_n C 2 rfl rfl d_M_times_74 ?_
          refine z_callSl (rest := [.long r8]) C q_M_whole rfl tw_1142 (c_M_whole _ B a3 S7 _ h) ⟨Nat.le_of_ble_eq_true rfl, Nat.le_of_ble_eq_true rfl⟩ rfl rfl (Nat.le_of_ble_eq_true rfl) d_M_times_75 (fun S9 r10 h => ?_)
          refine z_lmul C d_M_times_78 ?_
          refine z_bipush (v := (32 : Int32)) C rfl d_M_times_79 ?_
          refine z_lushr C d_M_times_81 ?_
          refine z_l2i C d_M_times_82 ?_
          exact z_ireturn C G hr h d_M_times_83
        · have h := h.2 c3
          by_cases c4 : a1 = (4 : Int32)
          · have h := h.1 c4
            refine z_tableIn (off := 83) (tgt := 84) C d_M_times_1 c4 (by decide) rfl rfl ?_
            refine z_iload_n C 2 rfl rfl d_M_times_84 ?_
            refine z_if_ne (tgt := 92) C d_M_times_85 rfl (fun c => ?_) (fun c => ?_)
            · have h := h.2 c
              refine z_iload_n C 1 rfl rfl d_M_times_92 ?_
              refine z_iload_n C 2 rfl rfl d_M_times_93 ?_
              obtain ⟨hc, h⟩ := h
              refine z_idiv C hc d_M_times_94 ?_
              exact z_ireturn C G hr h d_M_times_95
            · have h := h.1 c
              refine z_iconst (v := (-1 : Int32)) C rfl d_M_times_88 ?_
              refine z_goto (tgt := 95) C d_M_times_89 rfl ?_
              exact z_ireturn C G hr h d_M_times_95
          · have h := h.2 c4
            by_cases c5 : a1 = (5 : Int32)
            · have h := h.1 c5
              refine z_tableIn (off := 95) (tgt := 96) C d_M_times_1 c5 (by decide) rfl rfl ?_
              refine z_iload_n C 2 rfl rfl d_M_times_96 ?_
              refine z_if_ne (tgt := 104) C d_M_times_97 rfl (fun c => ?_) (fun c => ?_)
              · have h := h.2 c
                refine z_iload_n C 1 rfl rfl d_M_times_104 ?_
                refine z_callSl (rest := []) C q_M_whole rfl tw_1142 (c_M_whole _ B a2 S _ h) ⟨Nat.le_of_ble_eq_true rfl, Nat.le_of_ble_eq_true rfl⟩ rfl rfl (Nat.le_of_ble_eq_true rfl) d_M_times_105 (fun S11 r12 h => ?_)
                refine z_iload_n C 2 rfl rfl d_M_times_108 ?_
                refine z_callSl (rest := [.long r12]) C q_M_whole rfl tw_1142 (c_M_whole _ B a3 S11 _ h) ⟨Nat.le_of_ble_eq_true rfl, Nat.le_of_ble_eq_true rfl⟩ rfl rfl (Nat.le_of_ble_eq_true rfl) d_M_times_109 (fun S13 r14 h => ?_)
                obtain ⟨hc, h⟩ := h
                refine z_ldiv C hc d_M_times_112 ?_
                refine z_l2i C d_M_times_113 ?_
                exact z_ireturn C G hr h d_M_times_114
              · have h := h.1 c
                refine z_iconst (v := (-1 : Int32)) C rfl d_M_times_100 ?_
                refine z_goto (tgt := 114) C d_M_times_101 rfl ?_
                exact z_ireturn C G hr h d_M_times_114
            · have h := h.2 c5
              by_cases c6 : a1 = (6 : Int32)
              · have h := h.1 c6
                refine z_tableIn (off := 114) (tgt := 115) C d_M_times_1 c6 (by decide) rfl rfl ?_
                refine z_iload_n C 2 rfl rfl d_M_times_115 ?_
                refine z_if_ne (tgt := 123) C d_M_times_116 rfl (fun c => ?_) (fun c => ?_)
                · have h := h.2 c
                  refine z_iload_n C 1 rfl rfl d_M_times_123 ?_
                  refine z_iload_n C 2 rfl rfl d_M_times_124 ?_
                  obtain ⟨hc, h⟩ := h
                  refine z_irem C hc d_M_times_125 ?_
                  exact z_ireturn C G hr h d_M_times_126
                · have h := h.1 c
                  refine z_iload_n C 1 rfl rfl d_M_times_119 ?_
                  refine z_goto (tgt := 126) C d_M_times_120 rfl ?_
                  exact z_ireturn C G hr h d_M_times_126
              · have h := h.2 c6
                refine z_tableOut (tgt := 127) C d_M_times_1 (by have n0 := lv_neT (a := 0) c0 rfl; have n1 := lv_neT (a := 1) c1 rfl; have n2 := lv_neT (a := 2) c2 rfl; have n3 := lv_neT (a := 3) c3 rfl; have n4 := lv_neT (a := 4) c4 rfl; have n5 := lv_neT (a := 5) c5 rfl; have n6 := lv_neT (a := 6) c6 rfl; omega) rfl ?_
                refine z_iload_n C 2 rfl rfl d_M_times_127 ?_
                refine z_if_ne (tgt := 135) C d_M_times_128 rfl (fun c => ?_) (fun c => ?_)
                · have h := h.2 c
                  refine z_iload_n C 1 rfl rfl d_M_times_135 ?_
                  refine z_callSl (rest := []) C q_M_whole rfl tw_1142 (c_M_whole _ B a2 S _ h) ⟨Nat.le_of_ble_eq_true rfl, Nat.le_of_ble_eq_true rfl⟩ rfl rfl (Nat.le_of_ble_eq_true rfl) d_M_times_136 (fun S1 r2 h => ?_)
                  refine z_iload_n C 2 rfl rfl d_M_times_139 ?_
                  refine z_callSl (rest := [.long r2]) C q_M_whole rfl tw_1142 (c_M_whole _ B a3 S1 _ h) ⟨Nat.le_of_ble_eq_true rfl, Nat.le_of_ble_eq_true rfl⟩ rfl rfl (Nat.le_of_ble_eq_true rfl) d_M_times_140 (fun S3 r4 h => ?_)
                  obtain ⟨hc, h⟩ := h
                  refine z_lrem C hc d_M_times_143 ?_
                  refine z_l2i C d_M_times_144 ?_
                  exact z_ireturn C G hr h d_M_times_145
                · have h := h.1 c
                  refine z_iload_n C 1 rfl rfl d_M_times_131 ?_
                  refine z_goto (tgt := 145) C d_M_times_132 rfl ?_
                  exact z_ireturn C G hr h d_M_times_145
theorem c_M_times (l : Launch) (B : zK) (a1 : Int32) (a2 : Int32) (a3 : Int32) (S : zS) (P : zS → Int32 → Prop) (h : w_M_times a1 a2 a3 S P) : Met l y_M_times (Cond.code y_M_times prog_12_method_29_code 3 (some FieldType.int) :: tT) (zRm 1 20) (zPc (wR B) [.int a1, .int a2, .int a3] S) (zQ (wR B) (zPi P)) 0 0 (wR B).2.2.2 :=
  z_met (by decide) (Nat.le_of_ble_eq_true rfl) (fun E C G hr _ hnl => v_M_times C a1 a2 a3 P G hr hnl S h)
theorem q_M_times : zQs y_M_times prog_12_method_29_code 3 (some FieldType.int) 3 := ⟨tw_1185, tw_87, tw_1186, by decide +kernel⟩
def w_M_plain (a1 : Int32) (a2 : Int32) (a3 : Int32) (S : zS) (P : zS → Int32 → Prop) : Prop :=
  (a1 = (0 : Int32) → (P S (a2 + a3))) ∧ (¬ a1 = (0 : Int32) → ((a1 = (1 : Int32) → (P S (a2 <<< ((a3 &&& (31 : Int32)) &&& 31)))) ∧ (¬ a1 = (1 : Int32) → ((a1 = (2 : Int32) → ((a3 ≤ a2 → (P S (0 : Int32))) ∧ (¬ a3 ≤ a2 → (P S (1 : Int32))))) ∧ (¬ a1 = (2 : Int32) → ((a1 = (3 : Int32) → (w_M_whole a2 S (fun S1 r2 => w_M_whole a3 S1 (fun S3 r4 => (0 ≤ (lg_cmp r2 r4) → (P S3 (0 : Int32))) ∧ (¬ 0 ≤ (lg_cmp r2 r4) → (P S3 (1 : Int32))))))) ∧ (¬ a1 = (3 : Int32) → ((a1 = (4 : Int32) → (P S (a2 ^^^ a3))) ∧ (¬ a1 = (4 : Int32) → ((a1 = (5 : Int32) → (P S ((a2.toUInt32 >>> ((a3 &&& (31 : Int32)).toUInt32 &&& Int32.toUInt32 31)).toInt32))) ∧ (¬ a1 = (5 : Int32) → ((a1 = (6 : Int32) → (P S (a2 ||| a3))) ∧ (¬ a1 = (6 : Int32) → (P S (a2 &&& a3)))))))))))))))
set_option maxRecDepth 20000 in
set_option maxHeartbeats 4000000 in
theorem v_M_plain {E : zE} {B : zK} (C : zC E (wR B) prog_12_method_28_code "HostBenchModel" 1 20) (a1 : Int32) (a2 : Int32) (a3 : Int32) (P : zS → Int32 → Prop) (G : zGoal E (zQ (wR B) (zPi P)) (wR B)) (hr : zRt E (some .int)) (hnl : E.2.2.2.2.2.2.2.2.2.2.1 = 3) (S : zS) (h : w_M_plain a1 a2 a3 S P) : zV E (wR B) S 0 [(0, .int a1), (1, .int a2), (2, .int a3)] [] := by
  unfold w_M_plain at h
  refine z_iload_n C 0 rfl rfl d_M_plain_0 ?_
  by_cases c0 : a1 = (0 : Int32)
  · have h := h.1 c0
    refine z_tableIn (off := 43) (tgt := 44) C d_M_plain_1 c0 (by decide) rfl rfl ?_
    refine z_iload_n C 1 rfl rfl d_M_plain_44 ?_
    refine z_iload_n C 2 rfl rfl d_M_plain_45 ?_
    refine z_iadd C d_M_plain_46 ?_
    exact z_ireturn C G hr h d_M_plain_47
  · have h := h.2 c0
    by_cases c1 : a1 = (1 : Int32)
    · have h := h.1 c1
      refine z_tableIn (off := 47) (tgt := 48) C d_M_plain_1 c1 (by decide) rfl rfl ?_
      refine z_iload_n C 1 rfl rfl d_M_plain_48 ?_
      refine z_iload_n C 2 rfl rfl d_M_plain_49 ?_
      refine z_bipush (v := (31 : Int32)) C rfl d_M_plain_50 ?_
      refine z_iand C d_M_plain_52 ?_
      refine z_ishl C d_M_plain_53 ?_
      exact z_ireturn C G hr h d_M_plain_54
    · have h := h.2 c1
      by_cases c2 : a1 = (2 : Int32)
      · have h := h.1 c2
        refine z_tableIn (off := 54) (tgt := 55) C d_M_plain_1 c2 (by decide) rfl rfl ?_
        refine z_iload_n C 1 rfl rfl d_M_plain_55 ?_
        refine z_iload_n C 2 rfl rfl d_M_plain_56 ?_
        refine z_icmp_ge (tgt := 64) C d_M_plain_57 rfl (fun c => ?_) (fun c => ?_)
        · have h := h.1 c
          refine z_iconst (v := (0 : Int32)) C rfl d_M_plain_64 ?_
          exact z_ireturn C G hr h d_M_plain_65
        · have h := h.2 c
          refine z_iconst (v := (1 : Int32)) C rfl d_M_plain_60 ?_
          refine z_goto (tgt := 65) C d_M_plain_61 rfl ?_
          exact z_ireturn C G hr h d_M_plain_65
      · have h := h.2 c2
        by_cases c3 : a1 = (3 : Int32)
        · have h := h.1 c3
          refine z_tableIn (off := 65) (tgt := 66) C d_M_plain_1 c3 (by decide) rfl rfl ?_
          refine z_iload_n C 1 rfl rfl d_M_plain_66 ?_
          refine z_callSl (rest := []) C q_M_whole rfl tw_1142 (c_M_whole _ B a2 S _ h) ⟨Nat.le_of_ble_eq_true rfl, Nat.le_of_ble_eq_true rfl⟩ rfl rfl (Nat.le_of_ble_eq_true rfl) d_M_plain_67 (fun S1 r2 h => ?_)
          refine z_iload_n C 2 rfl rfl d_M_plain_70 ?_
          refine z_callSl (rest := [.long r2]) C q_M_whole rfl tw_1142 (c_M_whole _ B a3 S1 _ h) ⟨Nat.le_of_ble_eq_true rfl, Nat.le_of_ble_eq_true rfl⟩ rfl rfl (Nat.le_of_ble_eq_true rfl) d_M_plain_71 (fun S3 r4 h => ?_)
          refine z_lcmp C d_M_plain_74 ?_
          refine z_if_ge (tgt := 82) C d_M_plain_75 rfl (fun c => ?_) (fun c => ?_)
          · have h := h.1 c
            refine z_iconst (v := (0 : Int32)) C rfl d_M_plain_82 ?_
            exact z_ireturn C G hr h d_M_plain_83
          · have h := h.2 c
            refine z_iconst (v := (1 : Int32)) C rfl d_M_plain_78 ?_
            refine z_goto (tgt := 83) C d_M_plain_79 rfl ?_
            exact z_ireturn C G hr h d_M_plain_83
        · have h := h.2 c3
          by_cases c4 : a1 = (4 : Int32)
          · have h := h.1 c4
            refine z_tableIn (off := 83) (tgt := 84) C d_M_plain_1 c4 (by decide) rfl rfl ?_
            refine z_iload_n C 1 rfl rfl d_M_plain_84 ?_
            refine z_iload_n C 2 rfl rfl d_M_plain_85 ?_
            refine z_ixor C d_M_plain_86 ?_
            exact z_ireturn C G hr h d_M_plain_87
          · have h := h.2 c4
            by_cases c5 : a1 = (5 : Int32)
            · have h := h.1 c5
              refine z_tableIn (off := 87) (tgt := 88) C d_M_plain_1 c5 (by decide) rfl rfl ?_
              refine z_iload_n C 1 rfl rfl d_M_plain_88 ?_
              refine z_iload_n C 2 rfl rfl d_M_plain_89 ?_
              refine z_bipush (v := (31 : Int32)) C rfl d_M_plain_90 ?_
              refine z_iand C d_M_plain_92 ?_
              refine z_iushr C d_M_plain_93 ?_
              exact z_ireturn C G hr h d_M_plain_94
            · have h := h.2 c5
              by_cases c6 : a1 = (6 : Int32)
              · have h := h.1 c6
                refine z_tableIn (off := 94) (tgt := 95) C d_M_plain_1 c6 (by decide) rfl rfl ?_
                refine z_iload_n C 1 rfl rfl d_M_plain_95 ?_
                refine z_iload_n C 2 rfl rfl d_M_plain_96 ?_
                refine z_ior C d_M_plain_97 ?_
                exact z_ireturn C G hr h d_M_plain_98
              · have h := h.2 c6
                refine z_tableOut (tgt := 99) C d_M_plain_1 (by have n0 := lv_neT (a := 0) c0 rfl; have n1 := lv_neT (a := 1) c1 rfl; have n2 := lv_neT (a := 2) c2 rfl; have n3 := lv_neT (a := 3) c3 rfl; have n4 := lv_neT (a := 4) c4 rfl; have n5 := lv_neT (a := 5) c5 rfl; have n6 := lv_neT (a := 6) c6 rfl; omega) rfl ?_
                refine z_iload_n C 1 rfl rfl d_M_plain_99 ?_
                refine z_iload_n C 2 rfl rfl d_M_plain_100 ?_
                refine z_iand C d_M_plain_101 ?_
                exact z_ireturn C G hr h d_M_plain_102
theorem c_M_plain (l : Launch) (B : zK) (a1 : Int32) (a2 : Int32) (a3 : Int32) (S : zS) (P : zS → Int32 → Prop) (h : w_M_plain a1 a2 a3 S P) : Met l y_M_plain (Cond.code y_M_plain prog_12_method_28_code 3 (some FieldType.int) :: tT) (zRm 1 20) (zPc (wR B) [.int a1, .int a2, .int a3] S) (zQ (wR B) (zPi P)) 0 0 (wR B).2.2.2 :=
  z_met (by decide) (Nat.le_of_ble_eq_true rfl) (fun E C G hr _ hnl => v_M_plain C a1 a2 a3 P G hr hnl S h)
theorem q_M_plain : zQs y_M_plain prog_12_method_28_code 3 (some FieldType.int) 3 := ⟨tw_1188, tw_87, tw_1189, by decide +kernel⟩
def j_M_two_91 (a1 : Int32) (a2 : Int32) (a3 : Int32) (a4 : Int32) (a5 : Int32) (P : zS → Prop) (S : zS) : Prop :=
  w_M_stop (3 : Int32) S (fun S1 => P S1)
set_option maxRecDepth 20000 in
set_option maxHeartbeats 4000000 in
theorem vj_M_two_91 {E : zE} {B : zK} (C : zC E (wR B) prog_12_method_27_code "HostBenchModel" 2 42) (a1 : Int32) (a2 : Int32) (a3 : Int32) (a4 : Int32) (a5 : Int32) (P : zS → Prop) (G : zGoal E (zQ (wR B) (zPv P)) (wR B)) (hr : zRt E (none)) (hnl : E.2.2.2.2.2.2.2.2.2.2.1 = 6) (S : zS) (h : j_M_two_91 a1 a2 a3 a4 a5 P S) : zV E (wR B) S 91 [(0, .ref (ad B 0))] [] := by
  unfold j_M_two_91 at h
  refine z_aload_n C 0 rfl rfl d_M_two_91 ?_
  refine z_iconst (v := (3 : Int32)) C rfl d_M_two_92 ?_
  refine z_callVv (rest := []) C q_M_stop tw_1135 (c_M_stop _ B (3 : Int32) S _ h) rc_M ⟨Nat.le_of_ble_eq_true rfl, Nat.le_of_ble_eq_true rfl⟩ rfl rfl (Nat.le_of_ble_eq_true rfl) d_M_two_93 (fun S1 h => ?_)
  exact z_vreturn C G hr h d_M_two_96
def j_M_two_97 (a1 : Int32) (a2 : Int32) (a3 : Int32) (a4 : Int32) (a5 : Int32) (P : zS → Prop) (S : zS) : Prop :=
  ∀ S1 : zS, S1 = sM S 0 3 ((gM S 0 3) + (4 : Int32)) → P S1
set_option maxRecDepth 20000 in
set_option maxHeartbeats 4000000 in
theorem vj_M_two_97 {E : zE} {B : zK} (C : zC E (wR B) prog_12_method_27_code "HostBenchModel" 2 42) (a1 : Int32) (a2 : Int32) (a3 : Int32) (a4 : Int32) (a5 : Int32) (P : zS → Prop) (G : zGoal E (zQ (wR B) (zPv P)) (wR B)) (hr : zRt E (none)) (hnl : E.2.2.2.2.2.2.2.2.2.2.1 = 6) (S : zS) (h : j_M_two_97 a1 a2 a3 a4 a5 P S) : zV E (wR B) S 97 [(0, .ref (ad B 0))] [] := by
  unfold j_M_two_97 at h
  refine z_aload_n C 0 rfl rfl d_M_two_97 ?_
  refine z_dup C rfl d_M_two_98 ?_
  refine gf_M_pc C (Or.inl tw_987) d_M_two_99 ?_
  refine z_iconst (v := (4 : Int32)) C rfl d_M_two_102 ?_
  refine z_iadd C d_M_two_103 ?_
  refine pf_M_pc C (Or.inl tw_987) d_M_two_104 ?_
  refine z_nS (fun S1 eS1 => ?_)
  have h := h S1 eS1
  exact z_vreturn C G hr h d_M_two_107
def j_M_two_64 (a1 : Int32) (a2 : Int32) (a3 : Int32) (a4 : Int32) (a5 : Int32) (P : zS → Prop) (S : zS) : Prop :=
  (a1 = (32 : Int32) → ((a3 = (5 : Int32) → (w_M_comes a2 (a4 >>> ((a5 &&& (31 : Int32)) &&& 31)) S (fun S1 => j_M_two_97 a1 a2 a3 a4 a5 P S1))) ∧ (¬ a3 = (5 : Int32) → (j_M_two_91 a1 a2 a3 a4 a5 P S)))) ∧ (¬ a1 = (32 : Int32) → (j_M_two_91 a1 a2 a3 a4 a5 P S))
set_option maxRecDepth 20000 in
set_option maxHeartbeats 4000000 in
theorem vj_M_two_64 {E : zE} {B : zK} (C : zC E (wR B) prog_12_method_27_code "HostBenchModel" 2 42) (a1 : Int32) (a2 : Int32) (a3 : Int32) (a4 : Int32) (a5 : Int32) (P : zS → Prop) (G : zGoal E (zQ (wR B) (zPv P)) (wR B)) (hr : zRt E (none)) (hnl : E.2.2.2.2.2.2.2.2.2.2.1 = 6) (S : zS) (h : j_M_two_64 a1 a2 a3 a4 a5 P S) : zV E (wR B) S 64 [(0, .ref (ad B 0)), (1, .int a1), (2, .int a2), (3, .int a3), (4, .int a4), (5, .int a5)] [] := by
  unfold j_M_two_64 at h
  refine z_iload_n C 1 rfl rfl d_M_two_64 ?_
  refine z_bipush (v := (32 : Int32)) C rfl d_M_two_65 ?_
  refine z_icmp_ne (tgt := 91) C d_M_two_67 rfl (fun c => ?_) (fun c => ?_)
  · have h := h.2 c
    exact z_sub [0] rfl (vj_M_two_91 C a1 a2 a3 a4 a5 P G hr hnl S h)
  · have h := h.1 c
    refine z_iload_n C 3 rfl rfl d_M_two_70 ?_
    refine z_iconst (v := (5 : Int32)) C rfl d_M_two_71 ?_
    refine z_icmp_ne (tgt := 91) C d_M_two_72 rfl (fun c => ?_) (fun c => ?_)
    · have h := h.2 c
      exact z_sub [0] rfl (vj_M_two_91 C a1 a2 a3 a4 a5 P G hr hnl S h)
    · have h := h.1 c
      refine z_aload_n C 0 rfl rfl d_M_two_75 ?_
      refine z_iload_n C 2 rfl rfl d_M_two_76 ?_
      refine z_iload C 4 rfl d_M_two_77 ?_
      refine z_iload C 5 rfl d_M_two_79 ?_
      refine z_bipush (v := (31 : Int32)) C rfl d_M_two_81 ?_
      refine z_iand C d_M_two_83 ?_
      refine z_ishr C d_M_two_84 ?_
      refine z_callVv (rest := []) C q_M_comes tw_1151 (c_M_comes _ B a2 (a4 >>> ((a5 &&& (31 : Int32)) &&& 31)) S _ h) rc_M ⟨Nat.le_of_ble_eq_true rfl, Nat.le_of_ble_eq_true rfl⟩ rfl rfl (Nat.le_of_ble_eq_true rfl) d_M_two_85 (fun S1 h => ?_)
      refine z_goto (tgt := 97) C d_M_two_88 rfl ?_
      exact z_sub [0] rfl (vj_M_two_97 C a1 a2 a3 a4 a5 P G hr hnl S1 h)
def w_M_two (a1 : Int32) (a2 : Int32) (a3 : Int32) (a4 : Int32) (a5 : Int32) (S : zS) (P : zS → Prop) : Prop :=
  (a1 = (1 : Int32) → (w_M_times a3 a4 a5 S (fun S5 r6 => w_M_comes a2 r6 S5 (fun S7 => j_M_two_97 a1 a2 a3 a4 a5 P S7)))) ∧ (¬ a1 = (1 : Int32) → ((a1 = 0 → (w_M_plain a3 a4 a5 S (fun S2 r3 => w_M_comes a2 r3 S2 (fun S4 => j_M_two_97 a1 a2 a3 a4 a5 P S4)))) ∧ (¬ a1 = 0 → ((a1 = (32 : Int32) → ((a3 = 0 → (w_M_comes a2 (a4 - a5) S (fun S1 => j_M_two_97 a1 a2 a3 a4 a5 P S1))) ∧ (¬ a3 = 0 → (j_M_two_64 a1 a2 a3 a4 a5 P S)))) ∧ (¬ a1 = (32 : Int32) → (j_M_two_64 a1 a2 a3 a4 a5 P S))))))
set_option maxRecDepth 20000 in
set_option maxHeartbeats 4000000 in
theorem v_M_two {E : zE} {B : zK} (C : zC E (wR B) prog_12_method_27_code "HostBenchModel" 2 42) (a1 : Int32) (a2 : Int32) (a3 : Int32) (a4 : Int32) (a5 : Int32) (P : zS → Prop) (G : zGoal E (zQ (wR B) (zPv P)) (wR B)) (hr : zRt E (none)) (hnl : E.2.2.2.2.2.2.2.2.2.2.1 = 6) (S : zS) (h : w_M_two a1 a2 a3 a4 a5 S P) : zV E (wR B) S 0 [(0, .ref (ad B 0)), (1, .int a1), (2, .int a2), (3, .int a3), (4, .int a4), (5, .int a5)] [] := by
  unfold w_M_two at h
  refine z_iload_n C 1 rfl rfl d_M_two_0 ?_
  refine z_iconst (v := (1 : Int32)) C rfl d_M_two_1 ?_
  refine z_icmp_ne (tgt := 21) C d_M_two_2 rfl (fun c => ?_) (fun c => ?_)
  · have h := h.2 c
    refine z_iload_n C 1 rfl rfl d_M_two_21 ?_
    refine z_if_ne (tgt := 41) C d_M_two_22 rfl (fun c => ?_) (fun c => ?_)
    · have h := h.2 c
      refine z_iload_n C 1 rfl rfl d_M_two_41 ?_
      refine z_bipush (v := (32 : Int32)) C rfl d_M_two_42 ?_
      refine z_icmp_ne (tgt := 64) C d_M_two_44 rfl (fun c => ?_) (fun c => ?_)
      · have h := h.2 c
        exact z_sub [0, 1, 2, 3, 4, 5] rfl (vj_M_two_64 C a1 a2 a3 a4 a5 P G hr hnl S h)
      · have h := h.1 c
        refine z_iload_n C 3 rfl rfl d_M_two_47 ?_
        refine z_if_ne (tgt := 64) C d_M_two_48 rfl (fun c => ?_) (fun c => ?_)
        · have h := h.2 c
          exact z_sub [0, 1, 2, 3, 4, 5] rfl (vj_M_two_64 C a1 a2 a3 a4 a5 P G hr hnl S h)
        · have h := h.1 c
          refine z_aload_n C 0 rfl rfl d_M_two_51 ?_
          refine z_iload_n C 2 rfl rfl d_M_two_52 ?_
          refine z_iload C 4 rfl d_M_two_53 ?_
          refine z_iload C 5 rfl d_M_two_55 ?_
          refine z_isub C d_M_two_57 ?_
          refine z_callVv (rest := []) C q_M_comes tw_1151 (c_M_comes _ B a2 (a4 - a5) S _ h) rc_M ⟨Nat.le_of_ble_eq_true rfl, Nat.le_of_ble_eq_true rfl⟩ rfl rfl (Nat.le_of_ble_eq_true rfl) d_M_two_58 (fun S1 h => ?_)
          refine z_goto (tgt := 97) C d_M_two_61 rfl ?_
          exact z_sub [0] rfl (vj_M_two_97 C a1 a2 a3 a4 a5 P G hr hnl S1 h)
    · have h := h.1 c
      refine z_aload_n C 0 rfl rfl d_M_two_25 ?_
      refine z_iload_n C 2 rfl rfl d_M_two_26 ?_
      refine z_iload_n C 3 rfl rfl d_M_two_27 ?_
      refine z_iload C 4 rfl d_M_two_28 ?_
      refine z_iload C 5 rfl d_M_two_30 ?_
      refine z_callSi (rest := [.int a2, .ref (ad B 0)]) C q_M_plain rfl tw_1187 (c_M_plain _ B a3 a4 a5 S _ h) ⟨Nat.le_of_ble_eq_true rfl, Nat.le_of_ble_eq_true rfl⟩ rfl rfl (Nat.le_of_ble_eq_true rfl) d_M_two_32 (fun S2 r3 h => ?_)
      refine z_callVv (rest := []) C q_M_comes tw_1151 (c_M_comes _ B a2 r3 S2 _ h) rc_M ⟨Nat.le_of_ble_eq_true rfl, Nat.le_of_ble_eq_true rfl⟩ rfl rfl (Nat.le_of_ble_eq_true rfl) d_M_two_35 (fun S4 h => ?_)
      refine z_goto (tgt := 97) C d_M_two_38 rfl ?_
      exact z_sub [0] rfl (vj_M_two_97 C a1 a2 a3 a4 a5 P G hr hnl S4 h)
  · have h := h.1 c
    refine z_aload_n C 0 rfl rfl d_M_two_5 ?_
    refine z_iload_n C 2 rfl rfl d_M_two_6 ?_
    refine z_iload_n C 3 rfl rfl d_M_two_7 ?_
    refine z_iload C 4 rfl d_M_two_8 ?_
    refine z_iload C 5 rfl d_M_two_10 ?_
    refine z_callSi (rest := [.int a2, .ref (ad B 0)]) C q_M_times rfl tw_1184 (c_M_times _ B a3 a4 a5 S _ h) ⟨Nat.le_of_ble_eq_true rfl, Nat.le_of_ble_eq_true rfl⟩ rfl rfl (Nat.le_of_ble_eq_true rfl) d_M_two_12 (fun S5 r6 h => ?_)
    refine z_callVv (rest := []) C q_M_comes tw_1151 (c_M_comes _ B a2 r6 S5 _ h) rc_M ⟨Nat.le_of_ble_eq_true rfl, Nat.le_of_ble_eq_true rfl⟩ rfl rfl (Nat.le_of_ble_eq_true rfl) d_M_two_15 (fun S7 h => ?_)
    refine z_goto (tgt := 97) C d_M_two_18 rfl ?_
    exact z_sub [0] rfl (vj_M_two_97 C a1 a2 a3 a4 a5 P G hr hnl S7 h)
theorem c_M_two (l : Launch) (B : zK) (a1 : Int32) (a2 : Int32) (a3 : Int32) (a4 : Int32) (a5 : Int32) (S : zS) (P : zS → Prop) (h : w_M_two a1 a2 a3 a4 a5 S P) : Met l y_M_two (Cond.code y_M_two prog_12_method_27_code 6 none :: tT) (zRm 2 42) (zPc (wR B) [.ref (ad B 0), .int a1, .int a2, .int a3, .int a4, .int a5] S) (zQ (wR B) (zPv P)) 0 0 (wR B).2.2.2 :=
  z_met (by decide) (Nat.le_of_ble_eq_true rfl) (fun E C G hr _ hnl => v_M_two C a1 a2 a3 a4 a5 P G hr hnl S h)
theorem q_M_two : zQw y_M_two prog_12_method_27_code 6 none 5 := ⟨tw_1182, tw_50, tw_87, tw_1183, by decide +kernel⟩
def w_M_fieldsOf (a1 : Int32) (S : zS) (P : zS → Int32 → Prop) : Prop :=
  (a1 = (1 : Int32) → (P S (3 : Int32))) ∧ (¬ a1 = (1 : Int32) → ((a1 = (2 : Int32) → (P S (1 : Int32))) ∧ (¬ a1 = (2 : Int32) → ((a1 = (5 : Int32) → (P S (3 : Int32))) ∧ (¬ a1 = (5 : Int32) → ((a1 = (6 : Int32) → (P S (3 : Int32))) ∧ (¬ a1 = (6 : Int32) → ((a1 = (8 : Int32) → (P S (1 : Int32))) ∧ (¬ a1 = (8 : Int32) → ((a1 = (9 : Int32) → (P S (1 : Int32))) ∧ (¬ a1 = (9 : Int32) → ((a1 = (10 : Int32) → (P S (2 : Int32))) ∧ (¬ a1 = (10 : Int32) → ((a1 = (12 : Int32) → (P S (1 : Int32))) ∧ (¬ a1 = (12 : Int32) → ((a1 = (13 : Int32) → (P S (3 : Int32))) ∧ (¬ a1 = (13 : Int32) → ((a1 = (14 : Int32) → (P S (2 : Int32))) ∧ (¬ a1 = (14 : Int32) → ((a1 = (15 : Int32) → (P S (4 : Int32))) ∧ (¬ a1 = (15 : Int32) → ((a1 = (18 : Int32) → (P S (2 : Int32))) ∧ (¬ a1 = (18 : Int32) → ((a1 = (21 : Int32) → (P S (2 : Int32))) ∧ (¬ a1 = (21 : Int32) → ((a1 = (22 : Int32) → (P S (1 : Int32))) ∧ (¬ a1 = (22 : Int32) → ((a1 = (32 : Int32) → (P S (2 : Int32))) ∧ (¬ a1 = (32 : Int32) → (P S (0 : Int32)))))))))))))))))))))))))))))))
set_option maxRecDepth 20000 in
set_option maxHeartbeats 4000000 in
theorem v_M_fieldsOf {E : zE} {B : zK} (C : zC E (wR B) prog_12_method_33_code "HostBenchModel" 0 0) (a1 : Int32) (P : zS → Int32 → Prop) (G : zGoal E (zQ (wR B) (zPi P)) (wR B)) (hr : zRt E (some .int)) (hnl : E.2.2.2.2.2.2.2.2.2.2.1 = 1) (S : zS) (h : w_M_fieldsOf a1 S P) : zV E (wR B) S 0 [(0, .int a1)] [] := by
  unfold w_M_fieldsOf at h
  refine z_iload_n C 0 rfl rfl d_M_fieldsOf_0 ?_
  by_cases c0 : a1 = (1 : Int32)
  · have h := h.1 c0
    refine z_tableIn (off := 147) (tgt := 148) C d_M_fieldsOf_1 c0 (by decide) rfl rfl ?_
    refine z_iconst (v := (3 : Int32)) C rfl d_M_fieldsOf_148 ?_
    exact z_ireturn C G hr h d_M_fieldsOf_149
  · have h := h.2 c0
    by_cases c1 : a1 = (2 : Int32)
    · have h := h.1 c1
      refine z_tableIn (off := 143) (tgt := 144) C d_M_fieldsOf_1 c1 (by decide) rfl rfl ?_
      refine z_iconst (v := (1 : Int32)) C rfl d_M_fieldsOf_144 ?_
      exact z_ireturn C G hr h d_M_fieldsOf_145
    · have h := h.2 c1
      by_cases c2 : a1 = (5 : Int32)
      · have h := h.1 c2
        refine z_tableIn (off := 147) (tgt := 148) C d_M_fieldsOf_1 c2 (by decide) rfl rfl ?_
        refine z_iconst (v := (3 : Int32)) C rfl d_M_fieldsOf_148 ?_
        exact z_ireturn C G hr h d_M_fieldsOf_149
      · have h := h.2 c2
        by_cases c3 : a1 = (6 : Int32)
        · have h := h.1 c3
          refine z_tableIn (off := 147) (tgt := 148) C d_M_fieldsOf_1 c3 (by decide) rfl rfl ?_
          refine z_iconst (v := (3 : Int32)) C rfl d_M_fieldsOf_148 ?_
          exact z_ireturn C G hr h d_M_fieldsOf_149
        · have h := h.2 c3
          by_cases c4 : a1 = (8 : Int32)
          · have h := h.1 c4
            refine z_tableIn (off := 143) (tgt := 144) C d_M_fieldsOf_1 c4 (by decide) rfl rfl ?_
            refine z_iconst (v := (1 : Int32)) C rfl d_M_fieldsOf_144 ?_
            exact z_ireturn C G hr h d_M_fieldsOf_145
          · have h := h.2 c4
            by_cases c5 : a1 = (9 : Int32)
            · have h := h.1 c5
              refine z_tableIn (off := 143) (tgt := 144) C d_M_fieldsOf_1 c5 (by decide) rfl rfl ?_
              refine z_iconst (v := (1 : Int32)) C rfl d_M_fieldsOf_144 ?_
              exact z_ireturn C G hr h d_M_fieldsOf_145
            · have h := h.2 c5
              by_cases c6 : a1 = (10 : Int32)
              · have h := h.1 c6
                refine z_tableIn (off := 145) (tgt := 146) C d_M_fieldsOf_1 c6 (by decide) rfl rfl ?_
                refine z_iconst (v := (2 : Int32)) C rfl d_M_fieldsOf_146 ?_
                exact z_ireturn C G hr h d_M_fieldsOf_147
              · have h := h.2 c6
                by_cases c7 : a1 = (12 : Int32)
                · have h := h.1 c7
                  refine z_tableIn (off := 143) (tgt := 144) C d_M_fieldsOf_1 c7 (by decide) rfl rfl ?_
                  refine z_iconst (v := (1 : Int32)) C rfl d_M_fieldsOf_144 ?_
                  exact z_ireturn C G hr h d_M_fieldsOf_145
                · have h := h.2 c7
                  by_cases c8 : a1 = (13 : Int32)
                  · have h := h.1 c8
                    refine z_tableIn (off := 147) (tgt := 148) C d_M_fieldsOf_1 c8 (by decide) rfl rfl ?_
                    refine z_iconst (v := (3 : Int32)) C rfl d_M_fieldsOf_148 ?_
                    exact z_ireturn C G hr h d_M_fieldsOf_149
                  · have h := h.2 c8
                    by_cases c9 : a1 = (14 : Int32)
                    · have h := h.1 c9
                      refine z_tableIn (off := 145) (tgt := 146) C d_M_fieldsOf_1 c9 (by decide) rfl rfl ?_
                      refine z_iconst (v := (2 : Int32)) C rfl d_M_fieldsOf_146 ?_
                      exact z_ireturn C G hr h d_M_fieldsOf_147
                    · have h := h.2 c9
                      by_cases c10 : a1 = (15 : Int32)
                      · have h := h.1 c10
                        refine z_tableIn (off := 149) (tgt := 150) C d_M_fieldsOf_1 c10 (by decide) rfl rfl ?_
                        refine z_iconst (v := (4 : Int32)) C rfl d_M_fieldsOf_150 ?_
                        exact z_ireturn C G hr h d_M_fieldsOf_151
                      · have h := h.2 c10
                        by_cases c11 : a1 = (18 : Int32)
                        · have h := h.1 c11
                          refine z_tableIn (off := 145) (tgt := 146) C d_M_fieldsOf_1 c11 (by decide) rfl rfl ?_
                          refine z_iconst (v := (2 : Int32)) C rfl d_M_fieldsOf_146 ?_
                          exact z_ireturn C G hr h d_M_fieldsOf_147
                        · have h := h.2 c11
                          by_cases c12 : a1 = (21 : Int32)
                          · have h := h.1 c12
                            refine z_tableIn (off := 145) (tgt := 146) C d_M_fieldsOf_1 c12 (by decide) rfl rfl ?_
                            refine z_iconst (v := (2 : Int32)) C rfl d_M_fieldsOf_146 ?_
                            exact z_ireturn C G hr h d_M_fieldsOf_147
                          · have h := h.2 c12
                            by_cases c13 : a1 = (22 : Int32)
                            · have h := h.1 c13
                              refine z_tableIn (off := 143) (tgt := 144) C d_M_fieldsOf_1 c13 (by decide) rfl rfl ?_
                              refine z_iconst (v := (1 : Int32)) C rfl d_M_fieldsOf_144 ?_
                              exact z_ireturn C G hr h d_M_fieldsOf_145
                            · have h := h.2 c13
                              by_cases c14 : a1 = (32 : Int32)
                              · have h := h.1 c14
                                refine z_tableIn (off := 145) (tgt := 146) C d_M_fieldsOf_1 c14 (by decide) rfl rfl ?_
                                refine z_iconst (v := (2 : Int32)) C rfl d_M_fieldsOf_146 ?_
                                exact z_ireturn C G hr h d_M_fieldsOf_147
                              · have h := h.2 c14
                                by_cases m3 : a1 = (3 : Int32)
                                · refine z_tableIn (off := 151) (tgt := 152) C d_M_fieldsOf_1 m3 (by decide) rfl rfl ?_
                                  refine z_iconst (v := (0 : Int32)) C rfl d_M_fieldsOf_152 ?_
                                  exact z_ireturn C G hr h d_M_fieldsOf_153
                                by_cases m4 : a1 = (4 : Int32)
                                · refine z_tableIn (off := 151) (tgt := 152) C d_M_fieldsOf_1 m4 (by decide) rfl rfl ?_
                                  refine z_iconst (v := (0 : Int32)) C rfl d_M_fieldsOf_152 ?_
                                  exact z_ireturn C G hr h d_M_fieldsOf_153
                                by_cases m7 : a1 = (7 : Int32)
                                · refine z_tableIn (off := 151) (tgt := 152) C d_M_fieldsOf_1 m7 (by decide) rfl rfl ?_
                                  refine z_iconst (v := (0 : Int32)) C rfl d_M_fieldsOf_152 ?_
                                  exact z_ireturn C G hr h d_M_fieldsOf_153
                                by_cases m11 : a1 = (11 : Int32)
                                · refine z_tableIn (off := 151) (tgt := 152) C d_M_fieldsOf_1 m11 (by decide) rfl rfl ?_
                                  refine z_iconst (v := (0 : Int32)) C rfl d_M_fieldsOf_152 ?_
                                  exact z_ireturn C G hr h d_M_fieldsOf_153
                                by_cases m16 : a1 = (16 : Int32)
                                · refine z_tableIn (off := 151) (tgt := 152) C d_M_fieldsOf_1 m16 (by decide) rfl rfl ?_
                                  refine z_iconst (v := (0 : Int32)) C rfl d_M_fieldsOf_152 ?_
                                  exact z_ireturn C G hr h d_M_fieldsOf_153
                                by_cases m17 : a1 = (17 : Int32)
                                · refine z_tableIn (off := 151) (tgt := 152) C d_M_fieldsOf_1 m17 (by decide) rfl rfl ?_
                                  refine z_iconst (v := (0 : Int32)) C rfl d_M_fieldsOf_152 ?_
                                  exact z_ireturn C G hr h d_M_fieldsOf_153
                                by_cases m19 : a1 = (19 : Int32)
                                · refine z_tableIn (off := 151) (tgt := 152) C d_M_fieldsOf_1 m19 (by decide) rfl rfl ?_
                                  refine z_iconst (v := (0 : Int32)) C rfl d_M_fieldsOf_152 ?_
                                  exact z_ireturn C G hr h d_M_fieldsOf_153
                                by_cases m20 : a1 = (20 : Int32)
                                · refine z_tableIn (off := 151) (tgt := 152) C d_M_fieldsOf_1 m20 (by decide) rfl rfl ?_
                                  refine z_iconst (v := (0 : Int32)) C rfl d_M_fieldsOf_152 ?_
                                  exact z_ireturn C G hr h d_M_fieldsOf_153
                                by_cases m23 : a1 = (23 : Int32)
                                · refine z_tableIn (off := 151) (tgt := 152) C d_M_fieldsOf_1 m23 (by decide) rfl rfl ?_
                                  refine z_iconst (v := (0 : Int32)) C rfl d_M_fieldsOf_152 ?_
                                  exact z_ireturn C G hr h d_M_fieldsOf_153
                                by_cases m24 : a1 = (24 : Int32)
                                · refine z_tableIn (off := 151) (tgt := 152) C d_M_fieldsOf_1 m24 (by decide) rfl rfl ?_
                                  refine z_iconst (v := (0 : Int32)) C rfl d_M_fieldsOf_152 ?_
                                  exact z_ireturn C G hr h d_M_fieldsOf_153
                                by_cases m25 : a1 = (25 : Int32)
                                · refine z_tableIn (off := 151) (tgt := 152) C d_M_fieldsOf_1 m25 (by decide) rfl rfl ?_
                                  refine z_iconst (v := (0 : Int32)) C rfl d_M_fieldsOf_152 ?_
                                  exact z_ireturn C G hr h d_M_fieldsOf_153
                                by_cases m26 : a1 = (26 : Int32)
                                · refine z_tableIn (off := 151) (tgt := 152) C d_M_fieldsOf_1 m26 (by decide) rfl rfl ?_
                                  refine z_iconst (v := (0 : Int32)) C rfl d_M_fieldsOf_152 ?_
                                  exact z_ireturn C G hr h d_M_fieldsOf_153
                                by_cases m27 : a1 = (27 : Int32)
                                · refine z_tableIn (off := 151) (tgt := 152) C d_M_fieldsOf_1 m27 (by decide) rfl rfl ?_
                                  refine z_iconst (v := (0 : Int32)) C rfl d_M_fieldsOf_152 ?_
                                  exact z_ireturn C G hr h d_M_fieldsOf_153
                                by_cases m28 : a1 = (28 : Int32)
                                · refine z_tableIn (off := 151) (tgt := 152) C d_M_fieldsOf_1 m28 (by decide) rfl rfl ?_
                                  refine z_iconst (v := (0 : Int32)) C rfl d_M_fieldsOf_152 ?_
                                  exact z_ireturn C G hr h d_M_fieldsOf_153
                                by_cases m29 : a1 = (29 : Int32)
                                · refine z_tableIn (off := 151) (tgt := 152) C d_M_fieldsOf_1 m29 (by decide) rfl rfl ?_
                                  refine z_iconst (v := (0 : Int32)) C rfl d_M_fieldsOf_152 ?_
                                  exact z_ireturn C G hr h d_M_fieldsOf_153
                                by_cases m30 : a1 = (30 : Int32)
                                · refine z_tableIn (off := 151) (tgt := 152) C d_M_fieldsOf_1 m30 (by decide) rfl rfl ?_
                                  refine z_iconst (v := (0 : Int32)) C rfl d_M_fieldsOf_152 ?_
                                  exact z_ireturn C G hr h d_M_fieldsOf_153
                                by_cases m31 : a1 = (31 : Int32)
                                · refine z_tableIn (off := 151) (tgt := 152) C d_M_fieldsOf_1 m31 (by decide) rfl rfl ?_
                                  refine z_iconst (v := (0 : Int32)) C rfl d_M_fieldsOf_152 ?_
                                  exact z_ireturn C G hr h d_M_fieldsOf_153
                                refine z_tableOut (tgt := 152) C d_M_fieldsOf_1 (by have n0 := lv_neT (a := 1) c0 rfl; have n1 := lv_neT (a := 2) c1 rfl; have n2 := lv_neT (a := 5) c2 rfl; have n3 := lv_neT (a := 6) c3 rfl; have n4 := lv_neT (a := 8) c4 rfl; have n5 := lv_neT (a := 9) c5 rfl; have n6 := lv_neT (a := 10) c6 rfl; have n7 := lv_neT (a := 12) c7 rfl; have n8 := lv_neT (a := 13) c8 rfl; have n9 := lv_neT (a := 14) c9 rfl; have n10 := lv_neT (a := 15) c10 rfl; have n11 := lv_neT (a := 18) c11 rfl; have n12 := lv_neT (a := 21) c12 rfl; have n13 := lv_neT (a := 22) c13 rfl; have n14 := lv_neT (a := 32) c14 rfl; have o3 := lv_neT (a := 3) m3 rfl; have o4 := lv_neT (a := 4) m4 rfl; have o7 := lv_neT (a := 7) m7 rfl; have o11 := lv_neT (a := 11) m11 rfl; have o16 := lv_neT (a := 16) m16 rfl; have o17 := lv_neT (a := 17) m17 rfl; have o19 := lv_neT (a := 19) m19 rfl; have o20 := lv_neT (a := 20) m20 rfl; have o23 := lv_neT (a := 23) m23 rfl; have o24 := lv_neT (a := 24) m24 rfl; have o25 := lv_neT (a := 25) m25 rfl; have o26 := lv_neT (a := 26) m26 rfl; have o27 := lv_neT (a := 27) m27 rfl; have o28 := lv_neT (a := 28) m28 rfl; have o29 := lv_neT (a := 29) m29 rfl; have o30 := lv_neT (a := 30) m30 rfl; have o31 := lv_neT (a := 31) m31 rfl; omega) rfl ?_
                                refine z_iconst (v := (0 : Int32)) C rfl d_M_fieldsOf_152 ?_
                                exact z_ireturn C G hr h d_M_fieldsOf_153
theorem c_M_fieldsOf (l : Launch) (B : zK) (a1 : Int32) (S : zS) (P : zS → Int32 → Prop) (h : w_M_fieldsOf a1 S P) : Met l y_M_fieldsOf (Cond.code y_M_fieldsOf prog_12_method_33_code 1 (some FieldType.int) :: tT) (zRm 0 0) (zPc (wR B) [.int a1] S) (zQ (wR B) (zPi P)) 0 0 (wR B).2.2.2 :=
  z_met (by decide) (Nat.le_of_ble_eq_true rfl) (fun E C G hr _ hnl => v_M_fieldsOf C a1 P G hr hnl S h)
theorem q_M_fieldsOf : zQs y_M_fieldsOf prog_12_method_33_code 1 (some FieldType.int) 1 := ⟨tw_1202, tw_87, tw_1203, by decide +kernel⟩
def w_M_fails (a1 : Int32) (S : zS) (P : zS → Prop) : Prop :=
  ∀ S1 : zS, S1 = sM S 0 24 a1 → vp_in (10 : Int32) 32 ∧ ∀ S3 : zS, S3 = sM S1 2 (10 : Int32).toNatClampNeg (-1 : Int32) → P S3
set_option maxRecDepth 20000 in
set_option maxHeartbeats 4000000 in
theorem v_M_fails {E : zE} {B : zK} (C : zC E (wR B) prog_12_method_32_code "HostBenchModel" 0 0) (a1 : Int32) (P : zS → Prop) (G : zGoal E (zQ (wR B) (zPv P)) (wR B)) (hr : zRt E (none)) (hnl : E.2.2.2.2.2.2.2.2.2.2.1 = 2) (S : zS) (h : w_M_fails a1 S P) : zV E (wR B) S 0 [(0, .ref (ad B 0)), (1, .int a1)] [] := by
  unfold w_M_fails at h
  refine z_aload_n C 0 rfl rfl d_M_fails_0 ?_
  refine z_iload_n C 1 rfl rfl d_M_fails_1 ?_
  refine pf_M_errno C (Or.inl tw_1008) d_M_fails_2 ?_
  refine z_nS (fun S1 eS1 => ?_)
  have h := h S1 eS1
  refine z_aload_n C 0 rfl rfl d_M_fails_5 ?_
  refine gf_M_x C (Or.inl tw_986) d_M_fails_6 ?_
  refine z_bipush (v := (10 : Int32)) C rfl d_M_fails_9 ?_
  refine z_iconst (v := (-1 : Int32)) C rfl d_M_fails_11 ?_
  obtain ⟨f2, h⟩ := h
  refine as_m_x C f2 d_M_fails_12 ?_
  refine z_nS (fun S3 eS3 => ?_)
  have h := h S3 eS3
  exact z_vreturn C G hr h d_M_fails_13
theorem c_M_fails (l : Launch) (B : zK) (a1 : Int32) (S : zS) (P : zS → Prop) (h : w_M_fails a1 S P) : Met l y_M_fails (Cond.code y_M_fails prog_12_method_32_code 2 none :: tT) (zRm 0 0) (zPc (wR B) [.ref (ad B 0), .int a1] S) (zQ (wR B) (zPv P)) 0 0 (wR B).2.2.2 :=
  z_met (by decide) (Nat.le_of_ble_eq_true rfl) (fun E C G hr _ hnl => v_M_fails C a1 P G hr hnl S h)
theorem q_M_fails : zQw y_M_fails prog_12_method_32_code 2 none 1 := ⟨tw_1206, tw_53, tw_87, tw_1207, by decide +kernel⟩
def w_M_field (a1 : Int32) (S : zS) (P : zS → Int32 → Prop) : Prop :=
  vp_in (11 : Int32) 32 ∧ w_M_word ((gM S 2 (11 : Int32).toNatClampNeg) + ((4 : Int32) * a1)) S (fun S2 r3 => P S2 r3)
set_option maxRecDepth 20000 in
set_option maxHeartbeats 4000000 in
theorem v_M_field {E : zE} {B : zK} (C : zC E (wR B) prog_12_method_34_code "HostBenchModel" 1 21) (a1 : Int32) (P : zS → Int32 → Prop) (G : zGoal E (zQ (wR B) (zPi P)) (wR B)) (hr : zRt E (some .int)) (hnl : E.2.2.2.2.2.2.2.2.2.2.1 = 2) (S : zS) (h : w_M_field a1 S P) : zV E (wR B) S 0 [(0, .ref (ad B 0)), (1, .int a1)] [] := by
  unfold w_M_field at h
  refine z_aload_n C 0 rfl rfl d_M_field_0 ?_
  refine z_aload_n C 0 rfl rfl d_M_field_1 ?_
  refine gf_M_x C (Or.inl tw_986) d_M_field_2 ?_
  refine z_bipush (v := (11 : Int32)) C rfl d_M_field_5 ?_
  obtain ⟨f1, h⟩ := h
  refine al_m_x C f1 d_M_field_7 ?_
  refine z_iconst (v := (4 : Int32)) C rfl d_M_field_8 ?_
  refine z_iload_n C 1 rfl rfl d_M_field_9 ?_
  refine z_imul C d_M_field_10 ?_
  refine z_iadd C d_M_field_11 ?_
  refine z_callVi (rest := []) C q_M_word tw_1147 (c_M_word _ B ((gM S 2 (11 : Int32).toNatClampNeg) + ((4 : Int32) * a1)) S _ h) rc_M ⟨Nat.le_of_ble_eq_true rfl, Nat.le_of_ble_eq_true rfl⟩ rfl rfl (Nat.le_of_ble_eq_true rfl) d_M_field_12 (fun S2 r3 h => ?_)
  exact z_ireturn C G hr h d_M_field_15
theorem c_M_field (l : Launch) (B : zK) (a1 : Int32) (S : zS) (P : zS → Int32 → Prop) (h : w_M_field a1 S P) : Met l y_M_field (Cond.code y_M_field prog_12_method_34_code 2 (some FieldType.int) :: tT) (zRm 1 21) (zPc (wR B) [.ref (ad B 0), .int a1] S) (zQ (wR B) (zPi P)) 0 0 (wR B).2.2.2 :=
  z_met (by decide) (Nat.le_of_ble_eq_true rfl) (fun E C G hr _ hnl => v_M_field C a1 P G hr hnl S h)
theorem q_M_field : zQw y_M_field prog_12_method_34_code 2 (some FieldType.int) 1 := ⟨tw_1214, tw_55, tw_87, tw_1215, by decide +kernel⟩
def j_M_nameFault_56 (a1 : Int32) (a2 : Int32) (P : zS → Int32 → Prop) (K29 : zS → Int32 → Int32 → Prop) (S : zS) (x4 : Int32) (s0 : Int32) : Prop :=
  K29 S s0 (x4 + (1 : Int32))
set_option maxRecDepth 20000 in
set_option maxHeartbeats 4000000 in
theorem vj_M_nameFault_56 {E : zE} {B : zK} (C : zC E (wR B) prog_12_method_38_code "HostBenchModel" 2 41) (a1 : Int32) (a2 : Int32) (P : zS → Int32 → Prop) (G : zGoal E (zQ (wR B) (zPi P)) (wR B)) (hr : zRt E (some .int)) (hnl : E.2.2.2.2.2.2.2.2.2.2.1 = 5) (K29 : zS → Int32 → Int32 → Prop) (hK29 : ∀ (S : zS) (x3 : Int32) (x4 : Int32), K29 S x3 x4 → zV E (wR B) S 29 [(0, .ref (ad B 0)), (1, .int a1), (2, .int a2), (3, .int x3), (4, .int x4)] []) (S : zS) (x4 : Int32) (s0 : Int32) (h : j_M_nameFault_56 a1 a2 P K29 S x4 s0) : zV E (wR B) S 56 [(0, .ref (ad B 0)), (1, .int a1), (2, .int a2), (4, .int x4)] [.int s0] := by
  unfold j_M_nameFault_56 at h
  refine z_istore_n (L' := [(3, .int s0), (0, .ref (ad B 0)), (1, .int a1), (2, .int a2), (4, .int x4)]) C hnl rfl (by decide) rfl d_M_nameFault_56 ?_
  refine z_iinc (v := x4 + (1 : Int32)) (L' := [(4, .int (x4 + (1 : Int32))), (3, .int s0), (0, .ref (ad B 0)), (1, .int a1), (2, .int a2)]) C hnl 4 rfl rfl (by decide) rfl d_M_nameFault_57 ?_
  refine z_goto (tgt := 29) C d_M_nameFault_60 rfl ?_
  exact z_sub [2, 3, 4, 1, 0] rfl (hK29 S s0 (x4 + (1 : Int32)) h)
def j_M_nameFault_51 (a1 : Int32) (a2 : Int32) (P : zS → Int32 → Prop) (K29 : zS → Int32 → Int32 → Prop) (S : zS) (x4 : Int32) : Prop :=
  j_M_nameFault_56 a1 a2 P K29 S x4 (1 : Int32)
set_option maxRecDepth 20000 in
set_option maxHeartbeats 4000000 in
theorem vj_M_nameFault_51 {E : zE} {B : zK} (C : zC E (wR B) prog_12_method_38_code "HostBenchModel" 2 41) (a1 : Int32) (a2 : Int32) (P : zS → Int32 → Prop) (G : zGoal E (zQ (wR B) (zPi P)) (wR B)) (hr : zRt E (some .int)) (hnl : E.2.2.2.2.2.2.2.2.2.2.1 = 5) (K29 : zS → Int32 → Int32 → Prop) (hK29 : ∀ (S : zS) (x3 : Int32) (x4 : Int32), K29 S x3 x4 → zV E (wR B) S 29 [(0, .ref (ad B 0)), (1, .int a1), (2, .int a2), (3, .int x3), (4, .int x4)] []) (S : zS) (x4 : Int32) (h : j_M_nameFault_51 a1 a2 P K29 S x4) : zV E (wR B) S 51 [(0, .ref (ad B 0)), (1, .int a1), (2, .int a2), (4, .int x4)] [] := by
  unfold j_M_nameFault_51 at h
  refine z_iconst (v := (1 : Int32)) C rfl d_M_nameFault_51 ?_
  refine z_goto (tgt := 56) C d_M_nameFault_52 rfl ?_
  exact z_sub [0, 1, 2, 3] rfl (vj_M_nameFault_56 C a1 a2 P G hr hnl K29 hK29 S x4 (1 : Int32) h)
def l_M_nameFault_29 (a1 : Int32) (a2 : Int32) (P : zS → Int32 → Prop) : Nat → zS → Int32 → Int32 → Prop
  | 0, _, _, _ => False
  | n + 1, S, x3, x4 =>
  (a2 ≤ x4 → ((x3 = 0 → (P S (0 : Int32))) ∧ (¬ x3 = 0 → (P S (22 : Int32))))) ∧ (¬ a2 ≤ x4 → ((x3 = 0 → (vp_in (a1 + x4) 16384 ∧ ((gM S 1 (a1 + x4).toNatClampNeg) = 0 → (j_M_nameFault_51 a1 a2 P (fun S x3 x4 => l_M_nameFault_29 a1 a2 P n S x3 x4) S x4)) ∧ (¬ (gM S 1 (a1 + x4).toNatClampNeg) = 0 → (j_M_nameFault_56 a1 a2 P (fun S x3 x4 => l_M_nameFault_29 a1 a2 P n S x3 x4) S x4 (0 : Int32))))) ∧ (¬ x3 = 0 → (j_M_nameFault_51 a1 a2 P (fun S x3 x4 => l_M_nameFault_29 a1 a2 P n S x3 x4) S x4))))
set_option maxRecDepth 20000 in
set_option maxHeartbeats 4000000 in
theorem vl_M_nameFault_29 {E : zE} {B : zK} (C : zC E (wR B) prog_12_method_38_code "HostBenchModel" 2 41) (a1 : Int32) (a2 : Int32) (P : zS → Int32 → Prop) (G : zGoal E (zQ (wR B) (zPi P)) (wR B)) (hr : zRt E (some .int)) (hnl : E.2.2.2.2.2.2.2.2.2.2.1 = 5) : ∀ (n : Nat) (S : zS) (x3 : Int32) (x4 : Int32) , l_M_nameFault_29 a1 a2 P n S x3 x4 → zV E (wR B) S 29 [(0, .ref (ad B 0)), (1, .int a1), (2, .int a2), (3, .int x3), (4, .int x4)] [] := by
  intro n
  induction n with
  | zero => intro S x3 x4 h; exact h.elim
  | succ n ih =>
    intro S x3 x4 h
    unfold l_M_nameFault_29 at h
    refine z_iload C 4 rfl d_M_nameFault_29 ?_
    refine z_iload_n C 2 rfl rfl d_M_nameFault_31 ?_
    refine z_icmp_ge (tgt := 63) C d_M_nameFault_32 rfl (fun c => ?_) (fun c => ?_)
    · have h := h.1 c
      refine z_iload_n C 3 rfl rfl d_M_nameFault_63 ?_
      refine z_if_eq (tgt := 72) C d_M_nameFault_64 rfl (fun c => ?_) (fun c => ?_)
      · have h := h.1 c
        refine z_iconst (v := (0 : Int32)) C rfl d_M_nameFault_72 ?_
        exact z_ireturn C G hr h d_M_nameFault_73
      · have h := h.2 c
        refine z_bipush (v := (22 : Int32)) C rfl d_M_nameFault_67 ?_
        refine z_goto (tgt := 73) C d_M_nameFault_69 rfl ?_
        exact z_ireturn C G hr h d_M_nameFault_73
    · have h := h.2 c
      refine z_iload_n C 3 rfl rfl d_M_nameFault_35 ?_
      refine z_if_ne (tgt := 51) C d_M_nameFault_36 rfl (fun c => ?_) (fun c => ?_)
      · have h := h.2 c
        exact z_sub [0, 1, 2, 4] rfl (vj_M_nameFault_51 C a1 a2 P G hr hnl (fun S x3 x4 => l_M_nameFault_29 a1 a2 P n S x3 x4) ih S x4 h)
      · have h := h.1 c
        refine z_aload_n C 0 rfl rfl d_M_nameFault_39 ?_
        refine gf_M_memory C (Or.inl tw_985) d_M_nameFault_40 ?_
        refine z_iload_n C 1 rfl rfl d_M_nameFault_43 ?_
        refine z_iload C 4 rfl d_M_nameFault_44 ?_
        refine z_iadd C d_M_nameFault_46 ?_
        obtain ⟨f1, h⟩ := h
        refine al_m_memory C f1 d_M_nameFault_47 ?_
        refine z_if_ne (tgt := 55) C d_M_nameFault_48 rfl (fun c => ?_) (fun c => ?_)
        · have h := h.2 c
          refine z_iconst (v := (0 : Int32)) C rfl d_M_nameFault_55 ?_
          exact z_sub [0, 1, 2, 4] rfl (vj_M_nameFault_56 C a1 a2 P G hr hnl (fun S x3 x4 => l_M_nameFault_29 a1 a2 P n S x3 x4) ih S x4 (0 : Int32) h)
        · have h := h.1 c
          exact z_sub [0, 1, 2, 4] rfl (vj_M_nameFault_51 C a1 a2 P G hr hnl (fun S x3 x4 => l_M_nameFault_29 a1 a2 P n S x3 x4) ih S x4 h)
def w_M_nameFault (a1 : Int32) (a2 : Int32) (S : zS) (P : zS → Int32 → Prop) : Prop :=
  (a2 ≤ 0 → (P S (36 : Int32))) ∧ (¬ a2 ≤ 0 → ((a2 ≤ (24 : Int32) → (w_M_isArea a1 a2 S (fun S1 r2 => (r2 = 0 → (P S1 (14 : Int32))) ∧ (¬ r2 = 0 → (∃ n3 : Nat, l_M_nameFault_29 a1 a2 P n3 S1 (0 : Int32) (0 : Int32)))))) ∧ (¬ a2 ≤ (24 : Int32) → (P S (36 : Int32)))))
set_option maxRecDepth 20000 in
set_option maxHeartbeats 4000000 in
theorem v_M_nameFault {E : zE} {B : zK} (C : zC E (wR B) prog_12_method_38_code "HostBenchModel" 2 41) (a1 : Int32) (a2 : Int32) (P : zS → Int32 → Prop) (G : zGoal E (zQ (wR B) (zPi P)) (wR B)) (hr : zRt E (some .int)) (hnl : E.2.2.2.2.2.2.2.2.2.2.1 = 5) (S : zS) (h : w_M_nameFault a1 a2 S P) : zV E (wR B) S 0 [(0, .ref (ad B 0)), (1, .int a1), (2, .int a2)] [] := by
  unfold w_M_nameFault at h
  refine z_iload_n C 2 rfl rfl d_M_nameFault_0 ?_
  refine z_if_le (tgt := 10) C d_M_nameFault_1 rfl (fun c => ?_) (fun c => ?_)
  · have h := h.1 c
    refine z_bipush (v := (36 : Int32)) C rfl d_M_nameFault_10 ?_
    exact z_ireturn C G hr h d_M_nameFault_12
  · have h := h.2 c
    refine z_iload_n C 2 rfl rfl d_M_nameFault_4 ?_
    refine z_bipush (v := (24 : Int32)) C rfl d_M_nameFault_5 ?_
    refine z_icmp_le (tgt := 13) C d_M_nameFault_7 rfl (fun c => ?_) (fun c => ?_)
    · have h := h.1 c
      refine z_iload_n C 1 rfl rfl d_M_nameFault_13 ?_
      refine z_iload_n C 2 rfl rfl d_M_nameFault_14 ?_
      refine z_callSi (rest := []) C q_M_isArea rfl tw_1139 (c_M_isArea _ B a1 a2 S _ h) ⟨Nat.le_of_ble_eq_true rfl, Nat.le_of_ble_eq_true rfl⟩ rfl rfl (Nat.le_of_ble_eq_true rfl) d_M_nameFault_15 (fun S1 r2 h => ?_)
      refine z_if_ne (tgt := 24) C d_M_nameFault_18 rfl (fun c => ?_) (fun c => ?_)
      · have h := h.2 c
        refine z_iconst (v := (0 : Int32)) C rfl d_M_nameFault_24 ?_
        refine z_istore_n (L' := [(3, .int (0 : Int32)), (0, .ref (ad B 0)), (1, .int a1), (2, .int a2)]) C hnl rfl (by decide) rfl d_M_nameFault_25 ?_
        refine z_iconst (v := (0 : Int32)) C rfl d_M_nameFault_26 ?_
        refine z_istore (L' := [(4, .int (0 : Int32)), (3, .int (0 : Int32)), (0, .ref (ad B 0)), (1, .int a1), (2, .int a2)]) C hnl (by decide) rfl d_M_nameFault_27 ?_
        obtain ⟨n3, h⟩ := h
        exact z_sub [2, 3, 4, 1, 0] rfl (vl_M_nameFault_29 C a1 a2 P G hr hnl n3 S1 (0 : Int32) (0 : Int32) h)
      · have h := h.1 c
        refine z_bipush (v := (14 : Int32)) C rfl d_M_nameFault_21 ?_
        exact z_ireturn C G hr h d_M_nameFault_23
    · have h := h.2 c
      refine z_bipush (v := (36 : Int32)) C rfl d_M_nameFault_10 ?_
      exact z_ireturn C G hr h d_M_nameFault_12
theorem c_M_nameFault (l : Launch) (B : zK) (a1 : Int32) (a2 : Int32) (S : zS) (P : zS → Int32 → Prop) (h : w_M_nameFault a1 a2 S P) : Met l y_M_nameFault (Cond.code y_M_nameFault prog_12_method_38_code 5 (some FieldType.int) :: tT) (zRm 2 41) (zPc (wR B) [.ref (ad B 0), .int a1, .int a2] S) (zQ (wR B) (zPi P)) 0 0 (wR B).2.2.2 :=
  z_met (by decide) (Nat.le_of_ble_eq_true rfl) (fun E C G hr _ hnl => v_M_nameFault C a1 a2 P G hr hnl S h)
theorem q_M_nameFault : zQw y_M_nameFault prog_12_method_38_code 5 (some FieldType.int) 2 := ⟨tw_1218, tw_56, tw_87, tw_1219, by decide +kernel⟩
def w_M_answer (a1 : Int32) (S : zS) (P : zS → Prop) : Prop :=
  vp_in (10 : Int32) 32 ∧ ∀ S2 : zS, S2 = sM S 2 (10 : Int32).toNatClampNeg a1 → P S2
set_option maxRecDepth 20000 in
set_option maxHeartbeats 4000000 in
theorem v_M_answer {E : zE} {B : zK} (C : zC E (wR B) prog_12_method_31_code "HostBenchModel" 0 0) (a1 : Int32) (P : zS → Prop) (G : zGoal E (zQ (wR B) (zPv P)) (wR B)) (hr : zRt E (none)) (hnl : E.2.2.2.2.2.2.2.2.2.2.1 = 2) (S : zS) (h : w_M_answer a1 S P) : zV E (wR B) S 0 [(0, .ref (ad B 0)), (1, .int a1)] [] := by
  unfold w_M_answer at h
  refine z_aload_n C 0 rfl rfl d_M_answer_0 ?_
  refine gf_M_x C (Or.inl tw_986) d_M_answer_1 ?_
  refine z_bipush (v := (10 : Int32)) C rfl d_M_answer_4 ?_
  refine z_iload_n C 1 rfl rfl d_M_answer_6 ?_
  obtain ⟨f1, h⟩ := h
  refine as_m_x C f1 d_M_answer_7 ?_
  refine z_nS (fun S2 eS2 => ?_)
  have h := h S2 eS2
  exact z_vreturn C G hr h d_M_answer_8
theorem c_M_answer (l : Launch) (B : zK) (a1 : Int32) (S : zS) (P : zS → Prop) (h : w_M_answer a1 S P) : Met l y_M_answer (Cond.code y_M_answer prog_12_method_31_code 2 none :: tT) (zRm 0 0) (zPc (wR B) [.ref (ad B 0), .int a1] S) (zQ (wR B) (zPv P)) 0 0 (wR B).2.2.2 :=
  z_met (by decide) (Nat.le_of_ble_eq_true rfl) (fun E C G hr _ hnl => v_M_answer C a1 P G hr hnl S h)
theorem q_M_answer : zQw y_M_answer prog_12_method_31_code 2 none 1 := ⟨tw_1226, tw_58, tw_87, tw_1227, by decide +kernel⟩
def w_M_opened (a1 : Int32) (a2 : Int32) (a3 : Int32) (a4 : Int32) (S : zS) (P : zS → Prop) : Prop :=
  vp_in a1 11 ∧ ∀ S2 : zS, S2 = sM S 7 a1.toNatClampNeg a2 → ∀ S3 : zS, S3 = sM S2 8 a1.toNatClampNeg a3 → ∀ S4 : zS, S4 = sM S3 9 a1.toNatClampNeg (0 : Int32) → ∀ S5 : zS, S5 = sM S4 10 a1.toNatClampNeg a4 → w_M_answer a1 S5 (fun S6 => P S6)
set_option maxRecDepth 20000 in
set_option maxHeartbeats 4000000 in
theorem v_M_opened {E : zE} {B : zK} (C : zC E (wR B) prog_12_method_41_code "HostBenchModel" 1 21) (a1 : Int32) (a2 : Int32) (a3 : Int32) (a4 : Int32) (P : zS → Prop) (G : zGoal E (zQ (wR B) (zPv P)) (wR B)) (hr : zRt E (none)) (hnl : E.2.2.2.2.2.2.2.2.2.2.1 = 5) (S : zS) (h : w_M_opened a1 a2 a3 a4 S P) : zV E (wR B) S 0 [(0, .ref (ad B 0)), (1, .int a1), (2, .int a2), (3, .int a3), (4, .int a4)] [] := by
  unfold w_M_opened at h
  refine z_aload_n C 0 rfl rfl d_M_opened_0 ?_
  refine gf_M_kind C (Or.inl tw_999) d_M_opened_1 ?_
  refine z_iload_n C 1 rfl rfl d_M_opened_4 ?_
  refine z_iload_n C 2 rfl rfl d_M_opened_5 ?_
  obtain ⟨f1, h⟩ := h
  refine as_m_kind C f1 d_M_opened_6 ?_
  refine z_nS (fun S2 eS2 => ?_)
  have h := h S2 eS2
  refine z_aload_n C 0 rfl rfl d_M_opened_7 ?_
  refine gf_M_its C (Or.inl tw_1000) d_M_opened_8 ?_
  refine z_iload_n C 1 rfl rfl d_M_opened_11 ?_
  refine z_iload_n C 3 rfl rfl d_M_opened_12 ?_
  refine as_m_its C f1 d_M_opened_13 ?_
  refine z_nS (fun S3 eS3 => ?_)
  have h := h S3 eS3
  refine z_aload_n C 0 rfl rfl d_M_opened_14 ?_
  refine gf_M_place C (Or.inl tw_1001) d_M_opened_15 ?_
  refine z_iload_n C 1 rfl rfl d_M_opened_18 ?_
  refine z_iconst (v := (0 : Int32)) C rfl d_M_opened_19 ?_
  refine as_m_place C f1 d_M_opened_20 ?_
  refine z_nS (fun S4 eS4 => ?_)
  have h := h S4 eS4
  refine z_aload_n C 0 rfl rfl d_M_opened_21 ?_
  refine gf_M_may C (Or.inl tw_1002) d_M_opened_22 ?_
  refine z_iload_n C 1 rfl rfl d_M_opened_25 ?_
  refine z_iload C 4 rfl d_M_opened_26 ?_
  refine as_m_may C f1 d_M_opened_28 ?_
  refine z_nS (fun S5 eS5 => ?_)
  have h := h S5 eS5
  refine z_aload_n C 0 rfl rfl d_M_opened_29 ?_
  refine z_iload_n C 1 rfl rfl d_M_opened_30 ?_
  refine z_callVv (rest := []) C q_M_answer tw_1224 (c_M_answer _ B a1 S5 _ h) rc_M ⟨Nat.le_of_ble_eq_true rfl, Nat.le_of_ble_eq_true rfl⟩ rfl rfl (Nat.le_of_ble_eq_true rfl) d_M_opened_31 (fun S6 h => ?_)
  exact z_vreturn C G hr h d_M_opened_34
theorem c_M_opened (l : Launch) (B : zK) (a1 : Int32) (a2 : Int32) (a3 : Int32) (a4 : Int32) (S : zS) (P : zS → Prop) (h : w_M_opened a1 a2 a3 a4 S P) : Met l y_M_opened (Cond.code y_M_opened prog_12_method_41_code 5 none :: tT) (zRm 1 21) (zPc (wR B) [.ref (ad B 0), .int a1, .int a2, .int a3, .int a4] S) (zQ (wR B) (zPv P)) 0 0 (wR B).2.2.2 :=
  z_met (by decide) (Nat.le_of_ble_eq_true rfl) (fun E C G hr _ hnl => v_M_opened C a1 a2 a3 a4 P G hr hnl S h)
theorem q_M_opened : zQw y_M_opened prog_12_method_41_code 5 none 4 := ⟨tw_1222, tw_57, tw_87, tw_1223, by decide +kernel⟩
def j_M_find_70 (a1 : Int32) (a2 : Int32) (P : zS → Int32 → Prop) (K2 : zS → Int32 → Prop) (K30 : zS → Int32 → Int32 → Int32 → Prop) (S : zS) (x3 : Int32) (x5 : Int32) (s0 : Int32) : Prop :=
  K30 S x3 s0 (x5 + (1 : Int32))
set_option maxRecDepth 20000 in
set_option maxHeartbeats 4000000 in
theorem vj_M_find_70 {E : zE} {B : zK} (C : zC E (wR B) prog_12_method_39_code "HostBenchModel" 0 0) (a1 : Int32) (a2 : Int32) (P : zS → Int32 → Prop) (G : zGoal E (zQ (wR B) (zPi P)) (wR B)) (hr : zRt E (some .int)) (hnl : E.2.2.2.2.2.2.2.2.2.2.1 = 6) (K2 : zS → Int32 → Prop) (K30 : zS → Int32 → Int32 → Int32 → Prop) (hK2 : ∀ (S : zS) (x3 : Int32), K2 S x3 → zV E (wR B) S 2 [(0, .ref (ad B 0)), (1, .int a1), (2, .int a2), (3, .int x3)] []) (hK30 : ∀ (S : zS) (x3 : Int32) (x4 : Int32) (x5 : Int32), K30 S x3 x4 x5 → zV E (wR B) S 30 [(0, .ref (ad B 0)), (1, .int a1), (2, .int a2), (3, .int x3), (4, .int x4), (5, .int x5)] []) (S : zS) (x3 : Int32) (x5 : Int32) (s0 : Int32) (h : j_M_find_70 a1 a2 P K2 K30 S x3 x5 s0) : zV E (wR B) S 70 [(0, .ref (ad B 0)), (1, .int a1), (2, .int a2), (3, .int x3), (5, .int x5)] [.int s0] := by
  unfold j_M_find_70 at h
  refine z_istore (L' := [(4, .int s0), (0, .ref (ad B 0)), (1, .int a1), (2, .int a2), (3, .int x3), (5, .int x5)]) C hnl (by decide) rfl d_M_find_70 ?_
  refine z_iinc (v := x5 + (1 : Int32)) (L' := [(5, .int (x5 + (1 : Int32))), (4, .int s0), (0, .ref (ad B 0)), (1, .int a1), (2, .int a2), (3, .int x3)]) C hnl 5 rfl rfl (by decide) rfl d_M_find_72 ?_
  refine z_goto (tgt := 30) C d_M_find_75 rfl ?_
  exact z_sub [2, 3, 4, 5, 1, 0] rfl (hK30 S x3 s0 (x5 + (1 : Int32)) h)
def j_M_find_78 (a1 : Int32) (a2 : Int32) (P : zS → Int32 → Prop) (K2 : zS → Int32 → Prop) (S : zS) (x3 : Int32) (x4 : Int32) : Prop :=
  (x4 = 0 → (K2 S (x3 + (1 : Int32)))) ∧ (¬ x4 = 0 → (P S x3))
set_option maxRecDepth 20000 in
set_option maxHeartbeats 4000000 in
theorem vj_M_find_78 {E : zE} {B : zK} (C : zC E (wR B) prog_12_method_39_code "HostBenchModel" 0 0) (a1 : Int32) (a2 : Int32) (P : zS → Int32 → Prop) (G : zGoal E (zQ (wR B) (zPi P)) (wR B)) (hr : zRt E (some .int)) (hnl : E.2.2.2.2.2.2.2.2.2.2.1 = 6) (K2 : zS → Int32 → Prop) (hK2 : ∀ (S : zS) (x3 : Int32), K2 S x3 → zV E (wR B) S 2 [(0, .ref (ad B 0)), (1, .int a1), (2, .int a2), (3, .int x3)] []) (S : zS) (x3 : Int32) (x4 : Int32) (h : j_M_find_78 a1 a2 P K2 S x3 x4) : zV E (wR B) S 78 [(0, .ref (ad B 0)), (1, .int a1), (2, .int a2), (3, .int x3), (4, .int x4)] [] := by
  unfold j_M_find_78 at h
  refine z_iload C 4 rfl d_M_find_78 ?_
  refine z_if_eq (tgt := 85) C d_M_find_80 rfl (fun c => ?_) (fun c => ?_)
  · have h := h.1 c
    refine z_iinc (v := x3 + (1 : Int32)) (L' := [(3, .int (x3 + (1 : Int32))), (0, .ref (ad B 0)), (1, .int a1), (2, .int a2), (4, .int x4)]) C hnl 3 rfl rfl (by decide) rfl d_M_find_85 ?_
    refine z_goto (tgt := 2) C d_M_find_88 rfl ?_
    exact z_sub [1, 2, 3, 0] rfl (hK2 S (x3 + (1 : Int32)) h)
  · have h := h.2 c
    refine z_iload_n C 3 rfl rfl d_M_find_83 ?_
    exact z_ireturn C G hr h d_M_find_84
def l_M_find_30 (a1 : Int32) (a2 : Int32) (P : zS → Int32 → Prop) (K2 : zS → Int32 → Prop) : Nat → zS → Int32 → Int32 → Int32 → Prop
  | 0, _, _, _, _ => False
  | n + 1, S, x3, x4, x5 =>
  (a2 ≤ x5 → (j_M_find_78 a1 a2 P K2 S x3 x4)) ∧ (¬ a2 ≤ x5 → ((x4 = 0 → (j_M_find_78 a1 a2 P K2 S x3 x4)) ∧ (¬ x4 = 0 → (vp_in (((24 : Int32) * x3) + x5) 288 ∧ vp_in (a1 + x5) 16384 ∧ ((gM S 5 (((24 : Int32) * x3) + x5).toNatClampNeg) = (gM S 1 (a1 + x5).toNatClampNeg) → (j_M_find_70 a1 a2 P K2 (fun S x3 x4 x5 => l_M_find_30 a1 a2 P K2 n S x3 x4 x5) S x3 x5 (1 : Int32))) ∧ (¬ (gM S 5 (((24 : Int32) * x3) + x5).toNatClampNeg) = (gM S 1 (a1 + x5).toNatClampNeg) → (j_M_find_70 a1 a2 P K2 (fun S x3 x4 x5 => l_M_find_30 a1 a2 P K2 n S x3 x4 x5) S x3 x5 (0 : Int32)))))))
set_option maxRecDepth 20000 in
set_option maxHeartbeats 4000000 in
theorem vl_M_find_30 {E : zE} {B : zK} (C : zC E (wR B) prog_12_method_39_code "HostBenchModel" 0 0) (a1 : Int32) (a2 : Int32) (P : zS → Int32 → Prop) (G : zGoal E (zQ (wR B) (zPi P)) (wR B)) (hr : zRt E (some .int)) (hnl : E.2.2.2.2.2.2.2.2.2.2.1 = 6) (K2 : zS → Int32 → Prop) (hK2 : ∀ (S : zS) (x3 : Int32), K2 S x3 → zV E (wR B) S 2 [(0, .ref (ad B 0)), (1, .int a1), (2, .int a2), (3, .int x3)] []) : ∀ (n : Nat) (S : zS) (x3 : Int32) (x4 : Int32) (x5 : Int32) , l_M_find_30 a1 a2 P K2 n S x3 x4 x5 → zV E (wR B) S 30 [(0, .ref (ad B 0)), (1, .int a1), (2, .int a2), (3, .int x3), (4, .int x4), (5, .int x5)] [] := by
  intro n
  induction n with
  | zero => intro S x3 x4 x5 h; exact h.elim
  | succ n ih =>
    intro S x3 x4 x5 h
    unfold l_M_find_30 at h
    refine z_iload C 5 rfl d_M_find_30 ?_
    refine z_iload_n C 2 rfl rfl d_M_find_32 ?_
    refine z_icmp_ge (tgt := 78) C d_M_find_33 rfl (fun c => ?_) (fun c => ?_)
    · have h := h.1 c
      exact z_sub [0, 1, 2, 3, 4] rfl (vj_M_find_78 C a1 a2 P G hr hnl K2 hK2 S x3 x4 h)
    · have h := h.2 c
      refine z_iload C 4 rfl d_M_find_36 ?_
      refine z_if_eq (tgt := 78) C d_M_find_38 rfl (fun c => ?_) (fun c => ?_)
      · have h := h.1 c
        exact z_sub [0, 1, 2, 3, 4] rfl (vj_M_find_78 C a1 a2 P G hr hnl K2 hK2 S x3 x4 h)
      · have h := h.2 c
        refine z_aload_n C 0 rfl rfl d_M_find_41 ?_
        refine gf_M_name C (Or.inl tw_996) d_M_find_42 ?_
        refine z_bipush (v := (24 : Int32)) C rfl d_M_find_45 ?_
        refine z_iload_n C 3 rfl rfl d_M_find_47 ?_
        refine z_imul C d_M_find_48 ?_
        refine z_iload C 5 rfl d_M_find_49 ?_
        refine z_iadd C d_M_find_51 ?_
        obtain ⟨f1, h⟩ := h
        refine al_m_name C f1 d_M_find_52 ?_
        refine z_aload_n C 0 rfl rfl d_M_find_53 ?_
        refine gf_M_memory C (Or.inl tw_985) d_M_find_54 ?_
        refine z_iload_n C 1 rfl rfl d_M_find_57 ?_
        refine z_iload C 5 rfl d_M_find_58 ?_
        refine z_iadd C d_M_find_60 ?_
        obtain ⟨f2, h⟩ := h
        refine al_m_memory C f2 d_M_find_61 ?_
        refine z_icmp_ne (tgt := 69) C d_M_find_62 rfl (fun c => ?_) (fun c => ?_)
        · have h := h.2 c
          refine z_iconst (v := (0 : Int32)) C rfl d_M_find_69 ?_
          exact z_sub [0, 1, 2, 3, 5] rfl (vj_M_find_70 C a1 a2 P G hr hnl K2 (fun S x3 x4 x5 => l_M_find_30 a1 a2 P K2 n S x3 x4 x5) hK2 ih S x3 x5 (0 : Int32) h)
        · have h := h.1 c
          refine z_iconst (v := (1 : Int32)) C rfl d_M_find_65 ?_
          refine z_goto (tgt := 70) C d_M_find_66 rfl ?_
          exact z_sub [0, 1, 2, 3, 5] rfl (vj_M_find_70 C a1 a2 P G hr hnl K2 (fun S x3 x4 x5 => l_M_find_30 a1 a2 P K2 n S x3 x4 x5) hK2 ih S x3 x5 (1 : Int32) h)
def j_M_find_25 (a1 : Int32) (a2 : Int32) (P : zS → Int32 → Prop) (K2 : zS → Int32 → Prop) (S : zS) (x3 : Int32) (s0 : Int32) : Prop :=
  ∃ n1 : Nat, l_M_find_30 a1 a2 P K2 n1 S x3 s0 (0 : Int32)
set_option maxRecDepth 20000 in
set_option maxHeartbeats 4000000 in
theorem vj_M_find_25 {E : zE} {B : zK} (C : zC E (wR B) prog_12_method_39_code "HostBenchModel" 0 0) (a1 : Int32) (a2 : Int32) (P : zS → Int32 → Prop) (G : zGoal E (zQ (wR B) (zPi P)) (wR B)) (hr : zRt E (some .int)) (hnl : E.2.2.2.2.2.2.2.2.2.2.1 = 6) (K2 : zS → Int32 → Prop) (hK2 : ∀ (S : zS) (x3 : Int32), K2 S x3 → zV E (wR B) S 2 [(0, .ref (ad B 0)), (1, .int a1), (2, .int a2), (3, .int x3)] []) (S : zS) (x3 : Int32) (s0 : Int32) (h : j_M_find_25 a1 a2 P K2 S x3 s0) : zV E (wR B) S 25 [(0, .ref (ad B 0)), (1, .int a1), (2, .int a2), (3, .int x3)] [.int s0] := by
  unfold j_M_find_25 at h
  refine z_istore (L' := [(4, .int s0), (0, .ref (ad B 0)), (1, .int a1), (2, .int a2), (3, .int x3)]) C hnl (by decide) rfl d_M_find_25 ?_
  refine z_iconst (v := (0 : Int32)) C rfl d_M_find_27 ?_
  refine z_istore (L' := [(5, .int (0 : Int32)), (4, .int s0), (0, .ref (ad B 0)), (1, .int a1), (2, .int a2), (3, .int x3)]) C hnl (by decide) rfl d_M_find_28 ?_
  obtain ⟨n1, h⟩ := h
  exact z_sub [2, 3, 4, 5, 1, 0] rfl (vl_M_find_30 C a1 a2 P G hr hnl K2 hK2 n1 S x3 s0 (0 : Int32) h)
def l_M_find_2 (a1 : Int32) (a2 : Int32) (P : zS → Int32 → Prop) : Nat → zS → Int32 → Prop
  | 0, _, _ => False
  | n + 1, S, x3 =>
  ((gM S 0 14) ≤ x3 → (P S (-1 : Int32))) ∧ (¬ (gM S 0 14) ≤ x3 → (vp_in x3 12 ∧ ((gM S 6 x3.toNatClampNeg) = a2 → (j_M_find_25 a1 a2 P (fun S x3 => l_M_find_2 a1 a2 P n S x3) S x3 (1 : Int32))) ∧ (¬ (gM S 6 x3.toNatClampNeg) = a2 → (j_M_find_25 a1 a2 P (fun S x3 => l_M_find_2 a1 a2 P n S x3) S x3 (0 : Int32)))))
set_option maxRecDepth 20000 in
set_option maxHeartbeats 4000000 in
theorem vl_M_find_2 {E : zE} {B : zK} (C : zC E (wR B) prog_12_method_39_code "HostBenchModel" 0 0) (a1 : Int32) (a2 : Int32) (P : zS → Int32 → Prop) (G : zGoal E (zQ (wR B) (zPi P)) (wR B)) (hr : zRt E (some .int)) (hnl : E.2.2.2.2.2.2.2.2.2.2.1 = 6) : ∀ (n : Nat) (S : zS) (x3 : Int32) , l_M_find_2 a1 a2 P n S x3 → zV E (wR B) S 2 [(0, .ref (ad B 0)), (1, .int a1), (2, .int a2), (3, .int x3)] [] := by
  intro n
  induction n with
  | zero => intro S x3 h; exact h.elim
  | succ n ih =>
    intro S x3 h
    unfold l_M_find_2 at h
    refine z_iload_n C 3 rfl rfl d_M_find_2 ?_
    refine z_aload_n C 0 rfl rfl d_M_find_3 ?_
    refine gf_M_files C (Or.inl tw_998) d_M_find_4 ?_
    refine z_icmp_ge (tgt := 91) C d_M_find_7 rfl (fun c => ?_) (fun c => ?_)
    · have h := h.1 c
      refine z_iconst (v := (-1 : Int32)) C rfl d_M_find_91 ?_
      exact z_ireturn C G hr h d_M_find_92
    · have h := h.2 c
      refine z_aload_n C 0 rfl rfl d_M_find_10 ?_
      refine gf_M_nameSize C (Or.inl tw_997) d_M_find_11 ?_
      refine z_iload_n C 3 rfl rfl d_M_find_14 ?_
      obtain ⟨f1, h⟩ := h
      refine al_m_nameSize C f1 d_M_find_15 ?_
      refine z_iload_n C 2 rfl rfl d_M_find_16 ?_
      refine z_icmp_ne (tgt := 24) C d_M_find_17 rfl (fun c => ?_) (fun c => ?_)
      · have h := h.2 c
        refine z_iconst (v := (0 : Int32)) C rfl d_M_find_24 ?_
        exact z_sub [0, 1, 2, 3] rfl (vj_M_find_25 C a1 a2 P G hr hnl (fun S x3 => l_M_find_2 a1 a2 P n S x3) ih S x3 (0 : Int32) h)
      · have h := h.1 c
        refine z_iconst (v := (1 : Int32)) C rfl d_M_find_20 ?_
        refine z_goto (tgt := 25) C d_M_find_21 rfl ?_
        exact z_sub [0, 1, 2, 3] rfl (vj_M_find_25 C a1 a2 P G hr hnl (fun S x3 => l_M_find_2 a1 a2 P n S x3) ih S x3 (1 : Int32) h)
def w_M_find (a1 : Int32) (a2 : Int32) (S : zS) (P : zS → Int32 → Prop) : Prop :=
  ∃ n1 : Nat, l_M_find_2 a1 a2 P n1 S (0 : Int32)
set_option maxRecDepth 20000 in
set_option maxHeartbeats 4000000 in
theorem v_M_find {E : zE} {B : zK} (C : zC E (wR B) prog_12_method_39_code "HostBenchModel" 0 0) (a1 : Int32) (a2 : Int32) (P : zS → Int32 → Prop) (G : zGoal E (zQ (wR B) (zPi P)) (wR B)) (hr : zRt E (some .int)) (hnl : E.2.2.2.2.2.2.2.2.2.2.1 = 6) (S : zS) (h : w_M_find a1 a2 S P) : zV E (wR B) S 0 [(0, .ref (ad B 0)), (1, .int a1), (2, .int a2)] [] := by
  unfold w_M_find at h
  refine z_iconst (v := (0 : Int32)) C rfl d_M_find_0 ?_
  refine z_istore_n (L' := [(3, .int (0 : Int32)), (0, .ref (ad B 0)), (1, .int a1), (2, .int a2)]) C hnl rfl (by decide) rfl d_M_find_1 ?_
  obtain ⟨n1, h⟩ := h
  exact z_sub [1, 2, 3, 0] rfl (vl_M_find_2 C a1 a2 P G hr hnl n1 S (0 : Int32) h)
theorem c_M_find (l : Launch) (B : zK) (a1 : Int32) (a2 : Int32) (S : zS) (P : zS → Int32 → Prop) (h : w_M_find a1 a2 S P) : Met l y_M_find (Cond.code y_M_find prog_12_method_39_code 6 (some FieldType.int) :: tT) (zRm 0 0) (zPc (wR B) [.ref (ad B 0), .int a1, .int a2] S) (zQ (wR B) (zPi P)) 0 0 (wR B).2.2.2 :=
  z_met (by decide) (Nat.le_of_ble_eq_true rfl) (fun E C G hr _ hnl => v_M_find C a1 a2 P G hr hnl S h)
theorem q_M_find : zQw y_M_find prog_12_method_39_code 6 (some FieldType.int) 2 := ⟨tw_1230, tw_59, tw_87, tw_1231, by decide +kernel⟩
def j_M_open_171 (P : zS → Prop) (S : zS) (s1 : Int32) (s2 : Int32) (s3 : Int32) (s4 : Int32) : Prop :=
  w_M_opened s1 s2 s3 s4 S (fun S1 => P S1)
set_option maxRecDepth 20000 in
set_option maxHeartbeats 4000000 in
theorem vj_M_open_171 {E : zE} {B : zK} (C : zC E (wR B) prog_12_method_40_code "HostBenchModel" 3 65) (P : zS → Prop) (G : zGoal E (zQ (wR B) (zPv P)) (wR B)) (hr : zRt E (none)) (hnl : E.2.2.2.2.2.2.2.2.2.2.1 = 8) (S : zS) (s1 : Int32) (s2 : Int32) (s3 : Int32) (s4 : Int32) (h : j_M_open_171 P S s1 s2 s3 s4) : zV E (wR B) S 171 [] [.int s4, .int s3, .int s2, .int s1, .ref (ad B 0)] := by
  unfold j_M_open_171 at h
  refine z_callVv (rest := []) C q_M_opened tw_1220 (c_M_opened _ B s1 s2 s3 s4 S _ h) rc_M ⟨Nat.le_of_ble_eq_true rfl, Nat.le_of_ble_eq_true rfl⟩ rfl rfl (Nat.le_of_ble_eq_true rfl) d_M_open_171 (fun S1 h => ?_)
  exact z_vreturn C G hr h d_M_open_174
def j_M_open_160 (P : zS → Prop) (S : zS) (x2 : Int32) (s1 : Int32) (s2 : Int32) : Prop :=
  ((4 : Int32) ≤ x2 → (j_M_open_171 P S s1 s2 (-1 : Int32) (2 : Int32))) ∧ (¬ (4 : Int32) ≤ x2 → (j_M_open_171 P S s1 s2 (-1 : Int32) (1 : Int32)))
set_option maxRecDepth 20000 in
set_option maxHeartbeats 4000000 in
theorem vj_M_open_160 {E : zE} {B : zK} (C : zC E (wR B) prog_12_method_40_code "HostBenchModel" 3 65) (P : zS → Prop) (G : zGoal E (zQ (wR B) (zPv P)) (wR B)) (hr : zRt E (none)) (hnl : E.2.2.2.2.2.2.2.2.2.2.1 = 8) (S : zS) (x2 : Int32) (s1 : Int32) (s2 : Int32) (h : j_M_open_160 P S x2 s1 s2) : zV E (wR B) S 160 [(2, .int x2)] [.int s2, .int s1, .ref (ad B 0)] := by
  unfold j_M_open_160 at h
  refine z_iconst (v := (-1 : Int32)) C rfl d_M_open_160 ?_
  refine z_iload_n C 0 rfl rfl d_M_open_161 ?_
  refine z_iconst (v := (4 : Int32)) C rfl d_M_open_162 ?_
  refine z_icmp_ge (tgt := 170) C d_M_open_163 rfl (fun c => ?_) (fun c => ?_)
  · have h := h.1 c
    refine z_iconst (v := (2 : Int32)) C rfl d_M_open_170 ?_
    exact z_sub [] rfl (vj_M_open_171 C P G hr hnl S s1 s2 (-1 : Int32) (2 : Int32) h)
  · have h := h.2 c
    refine z_iconst (v := (1 : Int32)) C rfl d_M_open_166 ?_
    refine z_goto (tgt := 171) C d_M_open_167 rfl ?_
    exact z_sub [] rfl (vj_M_open_171 C P G hr hnl S s1 s2 (-1 : Int32) (1 : Int32) h)
def j_M_open_376 (P : zS → Prop) (S : zS) (s1 : Int32) (s2 : Int32) (s3 : Int32) (s4 : Int32) : Prop :=
  w_M_opened s1 s2 s3 s4 S (fun S1 => P S1)
set_option maxRecDepth 20000 in
set_option maxHeartbeats 4000000 in
theorem vj_M_open_376 {E : zE} {B : zK} (C : zC E (wR B) prog_12_method_40_code "HostBenchModel" 3 65) (P : zS → Prop) (G : zGoal E (zQ (wR B) (zPv P)) (wR B)) (hr : zRt E (none)) (hnl : E.2.2.2.2.2.2.2.2.2.2.1 = 8) (S : zS) (s1 : Int32) (s2 : Int32) (s3 : Int32) (s4 : Int32) (h : j_M_open_376 P S s1 s2 s3 s4) : zV E (wR B) S 376 [] [.int s4, .int s3, .int s2, .int s1, .ref (ad B 0)] := by
  unfold j_M_open_376 at h
  refine z_callVv (rest := []) C q_M_opened tw_1220 (c_M_opened _ B s1 s2 s3 s4 S _ h) rc_M ⟨Nat.le_of_ble_eq_true rfl, Nat.le_of_ble_eq_true rfl⟩ rfl rfl (Nat.le_of_ble_eq_true rfl) d_M_open_376 (fun S1 h => ?_)
  exact z_vreturn C G hr h d_M_open_379
def j_M_open_375 (P : zS → Prop) (S : zS) (s1 : Int32) (s2 : Int32) (s3 : Int32) (s4 : Int32) (s5 : Int32) : Prop :=
  j_M_open_376 P S s1 s2 s3 (s4 + s5)
set_option maxRecDepth 20000 in
set_option maxHeartbeats 4000000 in
theorem vj_M_open_375 {E : zE} {B : zK} (C : zC E (wR B) prog_12_method_40_code "HostBenchModel" 3 65) (P : zS → Prop) (G : zGoal E (zQ (wR B) (zPv P)) (wR B)) (hr : zRt E (none)) (hnl : E.2.2.2.2.2.2.2.2.2.2.1 = 8) (S : zS) (s1 : Int32) (s2 : Int32) (s3 : Int32) (s4 : Int32) (s5 : Int32) (h : j_M_open_375 P S s1 s2 s3 s4 s5) : zV E (wR B) S 375 [] [.int s5, .int s4, .int s3, .int s2, .int s1, .ref (ad B 0)] := by
  unfold j_M_open_375 at h
  refine z_iadd C d_M_open_375 ?_
  exact z_sub [] rfl (vj_M_open_376 C P G hr hnl S s1 s2 s3 (s4 + s5) h)
def j_M_open_364 (P : zS → Prop) (S : zS) (x2 : Int32) (s1 : Int32) (s2 : Int32) (s3 : Int32) (s4 : Int32) : Prop :=
  ((8 : Int32) ≤ x2 → (j_M_open_375 P S s1 s2 s3 s4 (4 : Int32))) ∧ (¬ (8 : Int32) ≤ x2 → (j_M_open_375 P S s1 s2 s3 s4 (0 : Int32)))
set_option maxRecDepth 20000 in
set_option maxHeartbeats 4000000 in
theorem vj_M_open_364 {E : zE} {B : zK} (C : zC E (wR B) prog_12_method_40_code "HostBenchModel" 3 65) (P : zS → Prop) (G : zGoal E (zQ (wR B) (zPv P)) (wR B)) (hr : zRt E (none)) (hnl : E.2.2.2.2.2.2.2.2.2.2.1 = 8) (S : zS) (x2 : Int32) (s1 : Int32) (s2 : Int32) (s3 : Int32) (s4 : Int32) (h : j_M_open_364 P S x2 s1 s2 s3 s4) : zV E (wR B) S 364 [(2, .int x2)] [.int s4, .int s3, .int s2, .int s1, .ref (ad B 0)] := by
  unfold j_M_open_364 at h
  refine z_iload_n C 0 rfl rfl d_M_open_364 ?_
  refine z_bipush (v := (8 : Int32)) C rfl d_M_open_365 ?_
  refine z_icmp_ge (tgt := 374) C d_M_open_367 rfl (fun c => ?_) (fun c => ?_)
  · have h := h.1 c
    refine z_iconst (v := (4 : Int32)) C rfl d_M_open_374 ?_
    exact z_sub [] rfl (vj_M_open_375 C P G hr hnl S s1 s2 s3 s4 (4 : Int32) h)
  · have h := h.2 c
    refine z_iconst (v := (0 : Int32)) C rfl d_M_open_370 ?_
    refine z_goto (tgt := 375) C d_M_open_371 rfl ?_
    exact z_sub [] rfl (vj_M_open_375 C P G hr hnl S s1 s2 s3 s4 (0 : Int32) h)
def j_M_open_328 (P : zS → Prop) (S : zS) (x2 : Int32) (x5 : Int32) (x6 : Int32) (s0 : Int32) : Prop :=
  ((4 : Int32) ≤ x2 → ((s0 = 0 → (j_M_open_364 P S x2 x5 (1 : Int32) x6 (2 : Int32))) ∧ (¬ s0 = 0 → (j_M_open_364 P S x2 x5 (1 : Int32) x6 (3 : Int32))))) ∧ (¬ (4 : Int32) ≤ x2 → ((s0 = 0 → (j_M_open_376 P S x5 (1 : Int32) x6 (1 : Int32))) ∧ (¬ s0 = 0 → (j_M_open_376 P S x5 (1 : Int32) x6 (3 : Int32)))))
set_option maxRecDepth 20000 in
set_option maxHeartbeats 4000000 in
theorem vj_M_open_328 {E : zE} {B : zK} (C : zC E (wR B) prog_12_method_40_code "HostBenchModel" 3 65) (P : zS → Prop) (G : zGoal E (zQ (wR B) (zPv P)) (wR B)) (hr : zRt E (none)) (hnl : E.2.2.2.2.2.2.2.2.2.2.1 = 8) (S : zS) (x2 : Int32) (x5 : Int32) (x6 : Int32) (s0 : Int32) (h : j_M_open_328 P S x2 x5 x6 s0) : zV E (wR B) S 328 [(0, .ref (ad B 0)), (2, .int x2), (5, .int x5), (6, .int x6)] [.int s0] := by
  unfold j_M_open_328 at h
  refine z_istore (L' := [(7, .int s0), (0, .ref (ad B 0)), (2, .int x2), (5, .int x5), (6, .int x6)]) C hnl (by decide) rfl d_M_open_328 ?_
  refine z_aload_n C 1 rfl rfl d_M_open_330 ?_
  refine z_iload C 3 rfl d_M_open_331 ?_
  refine z_iconst (v := (1 : Int32)) C rfl d_M_open_333 ?_
  refine z_iload C 4 rfl d_M_open_334 ?_
  refine z_iload_n C 2 rfl rfl d_M_open_336 ?_
  refine z_iconst (v := (4 : Int32)) C rfl d_M_open_337 ?_
  refine z_icmp_ge (tgt := 354) C d_M_open_338 rfl (fun c => ?_) (fun c => ?_)
  · have h := h.1 c
    refine z_iload C 0 rfl d_M_open_354 ?_
    refine z_if_eq (tgt := 363) C d_M_open_356 rfl (fun c => ?_) (fun c => ?_)
    · have h := h.1 c
      refine z_iconst (v := (2 : Int32)) C rfl d_M_open_363 ?_
      exact z_sub [2] rfl (vj_M_open_364 C P G hr hnl S x2 x5 (1 : Int32) x6 (2 : Int32) h)
    · have h := h.2 c
      refine z_iconst (v := (3 : Int32)) C rfl d_M_open_359 ?_
      refine z_goto (tgt := 364) C d_M_open_360 rfl ?_
      exact z_sub [2] rfl (vj_M_open_364 C P G hr hnl S x2 x5 (1 : Int32) x6 (3 : Int32) h)
  · have h := h.2 c
    refine z_iload C 0 rfl d_M_open_341 ?_
    refine z_if_eq (tgt := 350) C d_M_open_343 rfl (fun c => ?_) (fun c => ?_)
    · have h := h.1 c
      refine z_iconst (v := (1 : Int32)) C rfl d_M_open_350 ?_
      refine z_goto (tgt := 376) C d_M_open_351 rfl ?_
      exact z_sub [] rfl (vj_M_open_376 C P G hr hnl S x5 (1 : Int32) x6 (1 : Int32) h)
    · have h := h.2 c
      refine z_iconst (v := (3 : Int32)) C rfl d_M_open_346 ?_
      refine z_goto (tgt := 376) C d_M_open_347 rfl ?_
      exact z_sub [] rfl (vj_M_open_376 C P G hr hnl S x5 (1 : Int32) x6 (3 : Int32) h)
def j_M_open_316 (P : zS → Prop) (S : zS) (x2 : Int32) (x5 : Int32) (x6 : Int32) : Prop :=
  ((x2 - x2 / (4 : Int32) * (4 : Int32)) ≤ (1 : Int32) → (j_M_open_328 P S x2 x5 x6 (0 : Int32))) ∧ (¬ (x2 - x2 / (4 : Int32) * (4 : Int32)) ≤ (1 : Int32) → (j_M_open_328 P S x2 x5 x6 (1 : Int32)))
set_option maxRecDepth 20000 in
set_option maxHeartbeats 4000000 in
theorem vj_M_open_316 {E : zE} {B : zK} (C : zC E (wR B) prog_12_method_40_code "HostBenchModel" 3 65) (P : zS → Prop) (G : zGoal E (zQ (wR B) (zPv P)) (wR B)) (hr : zRt E (none)) (hnl : E.2.2.2.2.2.2.2.2.2.2.1 = 8) (S : zS) (x2 : Int32) (x5 : Int32) (x6 : Int32) (h : j_M_open_316 P S x2 x5 x6) : zV E (wR B) S 316 [(0, .ref (ad B 0)), (2, .int x2), (5, .int x5), (6, .int x6)] [] := by
  unfold j_M_open_316 at h
  refine z_iload_n C 1 rfl rfl d_M_open_316 ?_
  refine z_iconst (v := (4 : Int32)) C rfl d_M_open_317 ?_
  refine z_irem C (by decide) d_M_open_318 ?_
  refine z_iconst (v := (1 : Int32)) C rfl d_M_open_319 ?_
  refine z_icmp_le (tgt := 327) C d_M_open_320 rfl (fun c => ?_) (fun c => ?_)
  · have h := h.1 c
    refine z_iconst (v := (0 : Int32)) C rfl d_M_open_327 ?_
    exact z_sub [0, 1, 2, 3] rfl (vj_M_open_328 C P G hr hnl S x2 x5 x6 (0 : Int32) h)
  · have h := h.2 c
    refine z_iconst (v := (1 : Int32)) C rfl d_M_open_323 ?_
    refine z_goto (tgt := 328) C d_M_open_324 rfl ?_
    exact z_sub [0, 1, 2, 3] rfl (vj_M_open_328 C P G hr hnl S x2 x5 x6 (1 : Int32) h)
def j_M_open_297 (P : zS → Prop) (S : zS) (x2 : Int32) (x5 : Int32) (x6 : Int32) : Prop :=
  (x2 < (4 : Int32) → (j_M_open_316 P S x2 x5 x6)) ∧ (¬ x2 < (4 : Int32) → (((8 : Int32) ≤ x2 → (j_M_open_316 P S x2 x5 x6)) ∧ (¬ (8 : Int32) ≤ x2 → (vp_in x6 12 ∧ ∀ S2 : zS, S2 = sM S 4 x6.toNatClampNeg (0 : Int32) → j_M_open_316 P S2 x2 x5 x6))))
set_option maxRecDepth 20000 in
set_option maxHeartbeats 4000000 in
theorem vj_M_open_297 {E : zE} {B : zK} (C : zC E (wR B) prog_12_method_40_code "HostBenchModel" 3 65) (P : zS → Prop) (G : zGoal E (zQ (wR B) (zPv P)) (wR B)) (hr : zRt E (none)) (hnl : E.2.2.2.2.2.2.2.2.2.2.1 = 8) (S : zS) (x2 : Int32) (x5 : Int32) (x6 : Int32) (h : j_M_open_297 P S x2 x5 x6) : zV E (wR B) S 297 [(0, .ref (ad B 0)), (2, .int x2), (5, .int x5), (6, .int x6)] [] := by
  unfold j_M_open_297 at h
  refine z_iload_n C 1 rfl rfl d_M_open_297 ?_
  refine z_iconst (v := (4 : Int32)) C rfl d_M_open_298 ?_
  refine z_icmp_lt (tgt := 316) C d_M_open_299 rfl (fun c => ?_) (fun c => ?_)
  · have h := h.1 c
    exact z_sub [0, 1, 2, 3] rfl (vj_M_open_316 C P G hr hnl S x2 x5 x6 h)
  · have h := h.2 c
    refine z_iload_n C 1 rfl rfl d_M_open_302 ?_
    refine z_bipush (v := (8 : Int32)) C rfl d_M_open_303 ?_
    refine z_icmp_ge (tgt := 316) C d_M_open_305 rfl (fun c => ?_) (fun c => ?_)
    · have h := h.1 c
      exact z_sub [0, 1, 2, 3] rfl (vj_M_open_316 C P G hr hnl S x2 x5 x6 h)
    · have h := h.2 c
      refine z_aload_n C 0 rfl rfl d_M_open_308 ?_
      refine gf_M_size C (Or.inl tw_995) d_M_open_309 ?_
      refine z_iload C 3 rfl d_M_open_312 ?_
      refine z_iconst (v := (0 : Int32)) C rfl d_M_open_314 ?_
      obtain ⟨f1, h⟩ := h
      refine as_m_size C f1 d_M_open_315 ?_
      refine z_nS (fun S2 eS2 => ?_)
      have h := h S2 eS2
      exact z_sub [0, 1, 2, 3] rfl (vj_M_open_316 C P G hr hnl S2 x2 x5 x6 h)
def l_M_open_263 (P : zS → Prop) : Nat → zS → Int32 → Int32 → Int32 → Int32 → Int32 → Int32 → Prop
  | 0, _, _, _, _, _, _, _ => False
  | n + 1, S, x1, x2, x3, x5, x6, x7 =>
  (x3 ≤ x7 → (j_M_open_297 P S x2 x5 x6)) ∧ (¬ x3 ≤ x7 → (vp_in (x1 + x7) 16384 ∧ vp_in (((24 : Int32) * x6) + x7) 288 ∧ ∀ S3 : zS, S3 = sM S 5 (((24 : Int32) * x6) + x7).toNatClampNeg (gM S 1 (x1 + x7).toNatClampNeg) → l_M_open_263 P n S3 x1 x2 x3 x5 x6 (x7 + (1 : Int32))))
set_option maxRecDepth 20000 in
set_option maxHeartbeats 4000000 in
theorem vl_M_open_263 {E : zE} {B : zK} (C : zC E (wR B) prog_12_method_40_code "HostBenchModel" 3 65) (P : zS → Prop) (G : zGoal E (zQ (wR B) (zPv P)) (wR B)) (hr : zRt E (none)) (hnl : E.2.2.2.2.2.2.2.2.2.2.1 = 8) : ∀ (n : Nat) (S : zS) (x1 : Int32) (x2 : Int32) (x3 : Int32) (x5 : Int32) (x6 : Int32) (x7 : Int32) , l_M_open_263 P n S x1 x2 x3 x5 x6 x7 → zV E (wR B) S 263 [(0, .ref (ad B 0)), (1, .int x1), (2, .int x2), (3, .int x3), (5, .int x5), (6, .int x6), (7, .int x7)] [] := by
  intro n
  induction n with
  | zero => intro S x1 x2 x3 x5 x6 x7 h; exact h.elim
  | succ n ih =>
    intro S x1 x2 x3 x5 x6 x7 h
    unfold l_M_open_263 at h
    refine z_iload C 6 rfl d_M_open_263 ?_
    refine z_iload_n C 3 rfl rfl d_M_open_265 ?_
    refine z_icmp_ge (tgt := 297) C d_M_open_266 rfl (fun c => ?_) (fun c => ?_)
    · have h := h.1 c
      exact z_sub [0, 2, 4, 5] rfl (vj_M_open_297 C P G hr hnl S x2 x5 x6 h)
    · have h := h.2 c
      refine z_aload_n C 0 rfl rfl d_M_open_269 ?_
      refine gf_M_name C (Or.inl tw_996) d_M_open_270 ?_
      refine z_bipush (v := (24 : Int32)) C rfl d_M_open_273 ?_
      refine z_iload C 5 rfl d_M_open_275 ?_
      refine z_imul C d_M_open_277 ?_
      refine z_iload C 6 rfl d_M_open_278 ?_
      refine z_iadd C d_M_open_280 ?_
      refine z_aload_n C 0 rfl rfl d_M_open_281 ?_
      refine gf_M_memory C (Or.inl tw_985) d_M_open_282 ?_
      refine z_iload_n C 1 rfl rfl d_M_open_285 ?_
      refine z_iload C 6 rfl d_M_open_286 ?_
      refine z_iadd C d_M_open_288 ?_
      obtain ⟨f1, h⟩ := h
      refine al_m_memory C f1 d_M_open_289 ?_
      obtain ⟨f2, h⟩ := h
      refine as_m_name C f2 d_M_open_290 ?_
      refine z_nS (fun S3 eS3 => ?_)
      have h := h S3 eS3
      refine z_iinc (v := x7 + (1 : Int32)) (L' := [(7, .int (x7 + (1 : Int32))), (0, .ref (ad B 0)), (1, .int x1), (2, .int x2), (3, .int x3), (5, .int x5), (6, .int x6)]) C hnl 6 rfl rfl (by decide) rfl d_M_open_291 ?_
      refine z_goto (tgt := 263) C d_M_open_294 rfl ?_
      exact z_sub [1, 2, 3, 4, 5, 6, 0] rfl (ih S3 x1 x2 x3 x5 x6 (x7 + (1 : Int32)) h)
def j_M_open_222 (P : zS → Prop) (S : zS) (x1 : Int32) (x2 : Int32) (x3 : Int32) (x5 : Int32) (x6 : Int32) : Prop :=
  (x6 = (-1 : Int32) → (∀ v1 : Int32, v1 = (gM S 0 14) → ∀ S2 : zS, S2 = sM S 0 14 ((gM S 0 14) + (1 : Int32)) → vp_in v1 12 ∧ ∀ S4 : zS, S4 = sM S2 4 v1.toNatClampNeg (0 : Int32) → ∀ S5 : zS, S5 = sM S4 6 v1.toNatClampNeg x3 → ∃ n6 : Nat, l_M_open_263 P n6 S5 x1 x2 x3 x5 v1 (0 : Int32))) ∧ (¬ x6 = (-1 : Int32) → (j_M_open_297 P S x2 x5 x6))
set_option maxRecDepth 20000 in
set_option maxHeartbeats 4000000 in
theorem vj_M_open_222 {E : zE} {B : zK} (C : zC E (wR B) prog_12_method_40_code "HostBenchModel" 3 65) (P : zS → Prop) (G : zGoal E (zQ (wR B) (zPv P)) (wR B)) (hr : zRt E (none)) (hnl : E.2.2.2.2.2.2.2.2.2.2.1 = 8) (S : zS) (x1 : Int32) (x2 : Int32) (x3 : Int32) (x5 : Int32) (x6 : Int32) (h : j_M_open_222 P S x1 x2 x3 x5 x6) : zV E (wR B) S 222 [(0, .ref (ad B 0)), (1, .int x1), (2, .int x2), (3, .int x3), (5, .int x5), (6, .int x6)] [] := by
  unfold j_M_open_222 at h
  refine z_iload C 5 rfl d_M_open_222 ?_
  refine z_iconst (v := (-1 : Int32)) C rfl d_M_open_224 ?_
  refine z_icmp_ne (tgt := 297) C d_M_open_225 rfl (fun c => ?_) (fun c => ?_)
  · have h := h.2 c
    exact z_sub [0, 2, 4, 5] rfl (vj_M_open_297 C P G hr hnl S x2 x5 x6 h)
  · have h := h.1 c
    refine z_aload_n C 0 rfl rfl d_M_open_228 ?_
    refine gf_M_files C (Or.inl tw_998) d_M_open_229 ?_
    refine z_topi (fun v1 ev1 => ?_)
    have h := h v1 ev1
    refine z_istore (L' := [(6, .int v1), (0, .ref (ad B 0)), (1, .int x1), (2, .int x2), (3, .int x3), (5, .int x5)]) C hnl (by decide) rfl d_M_open_232 ?_
    refine z_aload_n C 1 rfl rfl d_M_open_234 ?_
    refine z_dup C rfl d_M_open_235 ?_
    refine gf_M_files C (Or.inl tw_998) d_M_open_236 ?_
    refine z_iconst (v := (1 : Int32)) C rfl d_M_open_239 ?_
    refine z_iadd C d_M_open_240 ?_
    refine pf_M_files C (Or.inl tw_998) d_M_open_241 ?_
    refine z_nS (fun S2 eS2 => ?_)
    have h := h S2 eS2
    refine z_aload_n C 1 rfl rfl d_M_open_244 ?_
    refine gf_M_size C (Or.inl tw_995) d_M_open_245 ?_
    refine z_iload C 0 rfl d_M_open_248 ?_
    refine z_iconst (v := (0 : Int32)) C rfl d_M_open_250 ?_
    obtain ⟨f3, h⟩ := h
    refine as_m_size C f3 d_M_open_251 ?_
    refine z_nS (fun S4 eS4 => ?_)
    have h := h S4 eS4
    refine z_aload_n C 1 rfl rfl d_M_open_252 ?_
    refine gf_M_nameSize C (Or.inl tw_997) d_M_open_253 ?_
    refine z_iload C 0 rfl d_M_open_256 ?_
    refine z_iload_n C 4 rfl rfl d_M_open_258 ?_
    refine as_m_nameSize C f3 d_M_open_259 ?_
    refine z_nS (fun S5 eS5 => ?_)
    have h := h S5 eS5
    refine z_iconst (v := (0 : Int32)) C rfl d_M_open_260 ?_
    refine z_istore (L' := [(7, .int (0 : Int32)), (6, .int v1), (0, .ref (ad B 0)), (1, .int x1), (2, .int x2), (3, .int x3), (5, .int x5)]) C hnl (by decide) rfl d_M_open_261 ?_
    obtain ⟨n6, h⟩ := h
    exact z_sub [2, 3, 4, 5, 6, 1, 0] rfl (vl_M_open_263 C P G hr hnl n6 S5 x1 x2 x3 x5 v1 (0 : Int32) h)
def j_M_open_200 (P : zS → Prop) (S : zS) (x1 : Int32) (x2 : Int32) (x3 : Int32) (x5 : Int32) (x6 : Int32) : Prop :=
  (x6 = (-1 : Int32) → (((gM S 0 14) = (12 : Int32) → (w_M_fails (28 : Int32) S (fun S1 => P S1))) ∧ (¬ (gM S 0 14) = (12 : Int32) → (j_M_open_222 P S x1 x2 x3 x5 x6)))) ∧ (¬ x6 = (-1 : Int32) → (j_M_open_222 P S x1 x2 x3 x5 x6))
set_option maxRecDepth 20000 in
set_option maxHeartbeats 4000000 in
theorem vj_M_open_200 {E : zE} {B : zK} (C : zC E (wR B) prog_12_method_40_code "HostBenchModel" 3 65) (P : zS → Prop) (G : zGoal E (zQ (wR B) (zPv P)) (wR B)) (hr : zRt E (none)) (hnl : E.2.2.2.2.2.2.2.2.2.2.1 = 8) (S : zS) (x1 : Int32) (x2 : Int32) (x3 : Int32) (x5 : Int32) (x6 : Int32) (h : j_M_open_200 P S x1 x2 x3 x5 x6) : zV E (wR B) S 200 [(0, .ref (ad B 0)), (1, .int x1), (2, .int x2), (3, .int x3), (5, .int x5), (6, .int x6)] [] := by
  unfold j_M_open_200 at h
  refine z_iload C 5 rfl d_M_open_200 ?_
  refine z_iconst (v := (-1 : Int32)) C rfl d_M_open_202 ?_
  refine z_icmp_ne (tgt := 222) C d_M_open_203 rfl (fun c => ?_) (fun c => ?_)
  · have h := h.2 c
    exact z_sub [0, 1, 2, 3, 4, 5] rfl (vj_M_open_222 C P G hr hnl S x1 x2 x3 x5 x6 h)
  · have h := h.1 c
    refine z_aload_n C 0 rfl rfl d_M_open_206 ?_
    refine gf_M_files C (Or.inl tw_998) d_M_open_207 ?_
    refine z_bipush (v := (12 : Int32)) C rfl d_M_open_210 ?_
    refine z_icmp_ne (tgt := 222) C d_M_open_212 rfl (fun c => ?_) (fun c => ?_)
    · have h := h.2 c
      exact z_sub [0, 1, 2, 3, 4, 5] rfl (vj_M_open_222 C P G hr hnl S x1 x2 x3 x5 x6 h)
    · have h := h.1 c
      refine z_aload_n C 0 rfl rfl d_M_open_215 ?_
      refine z_bipush (v := (28 : Int32)) C rfl d_M_open_216 ?_
      refine z_callVv (rest := []) C q_M_fails tw_1204 (c_M_fails _ B (28 : Int32) S _ h) rc_M ⟨Nat.le_of_ble_eq_true rfl, Nat.le_of_ble_eq_true rfl⟩ rfl rfl (Nat.le_of_ble_eq_true rfl) d_M_open_218 (fun S1 h => ?_)
      exact z_vreturn C G hr h d_M_open_221
def j_M_open_175 (P : zS → Prop) (S : zS) (x1 : Int32) (x2 : Int32) (x3 : Int32) (x5 : Int32) : Prop :=
  w_M_find x1 x3 S (fun S1 r2 => (r2 = (-1 : Int32) → (((4 : Int32) ≤ x2 → (j_M_open_200 P S1 x1 x2 x3 x5 r2)) ∧ (¬ (4 : Int32) ≤ x2 → (w_M_fails (2 : Int32) S1 (fun S3 => P S3))))) ∧ (¬ r2 = (-1 : Int32) → (j_M_open_200 P S1 x1 x2 x3 x5 r2)))
set_option maxRecDepth 20000 in
set_option maxHeartbeats 4000000 in
theorem vj_M_open_175 {E : zE} {B : zK} (C : zC E (wR B) prog_12_method_40_code "HostBenchModel" 3 65) (P : zS → Prop) (G : zGoal E (zQ (wR B) (zPv P)) (wR B)) (hr : zRt E (none)) (hnl : E.2.2.2.2.2.2.2.2.2.2.1 = 8) (S : zS) (x1 : Int32) (x2 : Int32) (x3 : Int32) (x5 : Int32) (h : j_M_open_175 P S x1 x2 x3 x5) : zV E (wR B) S 175 [(0, .ref (ad B 0)), (1, .int x1), (2, .int x2), (3, .int x3), (5, .int x5)] [] := by
  unfold j_M_open_175 at h
  refine z_aload_n C 0 rfl rfl d_M_open_175 ?_
  refine z_iload_n C 1 rfl rfl d_M_open_176 ?_
  refine z_iload_n C 3 rfl rfl d_M_open_177 ?_
  refine z_callVi (rest := []) C q_M_find tw_1228 (c_M_find _ B x1 x3 S _ h) rc_M ⟨Nat.le_of_ble_eq_true rfl, Nat.le_of_ble_eq_true rfl⟩ rfl rfl (Nat.le_of_ble_eq_true rfl) d_M_open_178 (fun S1 r2 h => ?_)
  refine z_istore (L' := [(6, .int r2), (0, .ref (ad B 0)), (1, .int x1), (2, .int x2), (3, .int x3), (5, .int x5)]) C hnl (by decide) rfl d_M_open_181 ?_
  refine z_iload C 0 rfl d_M_open_183 ?_
  refine z_iconst (v := (-1 : Int32)) C rfl d_M_open_185 ?_
  refine z_icmp_ne (tgt := 200) C d_M_open_186 rfl (fun c => ?_) (fun c => ?_)
  · have h := h.2 c
    exact z_sub [1, 2, 3, 4, 5, 0] rfl (vj_M_open_200 C P G hr hnl S1 x1 x2 x3 x5 r2 h)
  · have h := h.1 c
    refine z_iload_n C 3 rfl rfl d_M_open_189 ?_
    refine z_iconst (v := (4 : Int32)) C rfl d_M_open_190 ?_
    refine z_icmp_ge (tgt := 200) C d_M_open_191 rfl (fun c => ?_) (fun c => ?_)
    · have h := h.1 c
      exact z_sub [1, 2, 3, 4, 5, 0] rfl (vj_M_open_200 C P G hr hnl S1 x1 x2 x3 x5 r2 h)
    · have h := h.2 c
      refine z_aload_n C 1 rfl rfl d_M_open_194 ?_
      refine z_iconst (v := (2 : Int32)) C rfl d_M_open_195 ?_
      refine z_callVv (rest := []) C q_M_fails tw_1204 (c_M_fails _ B (2 : Int32) S1 _ h) rc_M ⟨Nat.le_of_ble_eq_true rfl, Nat.le_of_ble_eq_true rfl⟩ rfl rfl (Nat.le_of_ble_eq_true rfl) d_M_open_196 (fun S3 h => ?_)
      exact z_vreturn C G hr h d_M_open_199
def j_M_open_83 (P : zS → Prop) (S : zS) (x1 : Int32) (x2 : Int32) (x3 : Int32) (x4 : Int32) (x5 : Int32) : Prop :=
  (x4 ≤ 0 → ((x3 = (3 : Int32) → (vp_in x1 16384 ∧ ((gM S 1 x1.toNatClampNeg) = (58 : Int32) → (vp_in (x1 + (1 : Int32)) 16384 ∧ ((gM S 1 (x1 + (1 : Int32)).toNatClampNeg) = (116 : Int32) → (vp_in (x1 + (2 : Int32)) 16384 ∧ ((gM S 1 (x1 + (2 : Int32)).toNatClampNeg) = (116 : Int32) → (((4 : Int32) ≤ x2 → (((8 : Int32) ≤ x2 → (j_M_open_160 P S x2 x5 (4 : Int32))) ∧ (¬ (8 : Int32) ≤ x2 → (j_M_open_160 P S x2 x5 (3 : Int32))))) ∧ (¬ (4 : Int32) ≤ x2 → (j_M_open_160 P S x2 x5 (2 : Int32))))) ∧ (¬ (gM S 1 (x1 + (2 : Int32)).toNatClampNeg) = (116 : Int32) → (j_M_open_175 P S x1 x2 x3 x5)))) ∧ (¬ (gM S 1 (x1 + (1 : Int32)).toNatClampNeg) = (116 : Int32) → (j_M_open_175 P S x1 x2 x3 x5)))) ∧ (¬ (gM S 1 x1.toNatClampNeg) = (58 : Int32) → (j_M_open_175 P S x1 x2 x3 x5)))) ∧ (¬ x3 = (3 : Int32) → (j_M_open_175 P S x1 x2 x3 x5)))) ∧ (¬ x4 ≤ 0 → (w_M_fails x4 S (fun S4 => P S4)))
set_option maxRecDepth 20000 in
set_option maxHeartbeats 4000000 in
theorem vj_M_open_83 {E : zE} {B : zK} (C : zC E (wR B) prog_12_method_40_code "HostBenchModel" 3 65) (P : zS → Prop) (G : zGoal E (zQ (wR B) (zPv P)) (wR B)) (hr : zRt E (none)) (hnl : E.2.2.2.2.2.2.2.2.2.2.1 = 8) (S : zS) (x1 : Int32) (x2 : Int32) (x3 : Int32) (x4 : Int32) (x5 : Int32) (h : j_M_open_83 P S x1 x2 x3 x4 x5) : zV E (wR B) S 83 [(0, .ref (ad B 0)), (1, .int x1), (2, .int x2), (3, .int x3), (4, .int x4), (5, .int x5)] [] := by
  unfold j_M_open_83 at h
  refine z_iload C 4 rfl d_M_open_83 ?_
  refine z_if_le (tgt := 95) C d_M_open_85 rfl (fun c => ?_) (fun c => ?_)
  · have h := h.1 c
    refine z_iload_n C 3 rfl rfl d_M_open_95 ?_
    refine z_iconst (v := (3 : Int32)) C rfl d_M_open_96 ?_
    refine z_icmp_ne (tgt := 175) C d_M_open_97 rfl (fun c => ?_) (fun c => ?_)
    · have h := h.2 c
      exact z_sub [0, 1, 2, 3, 5] rfl (vj_M_open_175 C P G hr hnl S x1 x2 x3 x5 h)
    · have h := h.1 c
      refine z_aload_n C 0 rfl rfl d_M_open_100 ?_
      refine gf_M_memory C (Or.inl tw_985) d_M_open_101 ?_
      refine z_iload_n C 1 rfl rfl d_M_open_104 ?_
      obtain ⟨f1, h⟩ := h
      refine al_m_memory C f1 d_M_open_105 ?_
      refine z_bipush (v := (58 : Int32)) C rfl d_M_open_106 ?_
      refine z_icmp_ne (tgt := 175) C d_M_open_108 rfl (fun c => ?_) (fun c => ?_)
      · have h := h.2 c
        exact z_sub [0, 1, 2, 3, 5] rfl (vj_M_open_175 C P G hr hnl S x1 x2 x3 x5 h)
      · have h := h.1 c
        refine z_aload_n C 0 rfl rfl d_M_open_111 ?_
        refine gf_M_memory C (Or.inl tw_985) d_M_open_112 ?_
        refine z_iload_n C 1 rfl rfl d_M_open_115 ?_
        refine z_iconst (v := (1 : Int32)) C rfl d_M_open_116 ?_
        refine z_iadd C d_M_open_117 ?_
        obtain ⟨f2, h⟩ := h
        refine al_m_memory C f2 d_M_open_118 ?_
        refine z_bipush (v := (116 : Int32)) C rfl d_M_open_119 ?_
        refine z_icmp_ne (tgt := 175) C d_M_open_121 rfl (fun c => ?_) (fun c => ?_)
        · have h := h.2 c
          exact z_sub [0, 1, 2, 3, 5] rfl (vj_M_open_175 C P G hr hnl S x1 x2 x3 x5 h)
        · have h := h.1 c
          refine z_aload_n C 0 rfl rfl d_M_open_124 ?_
          refine gf_M_memory C (Or.inl tw_985) d_M_open_125 ?_
          refine z_iload_n C 1 rfl rfl d_M_open_128 ?_
          refine z_iconst (v := (2 : Int32)) C rfl d_M_open_129 ?_
          refine z_iadd C d_M_open_130 ?_
          obtain ⟨f3, h⟩ := h
          refine al_m_memory C f3 d_M_open_131 ?_
          refine z_bipush (v := (116 : Int32)) C rfl d_M_open_132 ?_
          refine z_icmp_ne (tgt := 175) C d_M_open_134 rfl (fun c => ?_) (fun c => ?_)
          · have h := h.2 c
            exact z_sub [0, 1, 2, 3, 5] rfl (vj_M_open_175 C P G hr hnl S x1 x2 x3 x5 h)
          · have h := h.1 c
            refine z_aload_n C 0 rfl rfl d_M_open_137 ?_
            refine z_iload C 5 rfl d_M_open_138 ?_
            refine z_iload_n C 2 rfl rfl d_M_open_140 ?_
            refine z_iconst (v := (4 : Int32)) C rfl d_M_open_141 ?_
            refine z_icmp_ge (tgt := 149) C d_M_open_142 rfl (fun c => ?_) (fun c => ?_)
            · have h := h.1 c
              refine z_iload_n C 2 rfl rfl d_M_open_149 ?_
              refine z_bipush (v := (8 : Int32)) C rfl d_M_open_150 ?_
              refine z_icmp_ge (tgt := 159) C d_M_open_152 rfl (fun c => ?_) (fun c => ?_)
              · have h := h.1 c
                refine z_iconst (v := (4 : Int32)) C rfl d_M_open_159 ?_
                exact z_sub [2] rfl (vj_M_open_160 C P G hr hnl S x2 x5 (4 : Int32) h)
              · have h := h.2 c
                refine z_iconst (v := (3 : Int32)) C rfl d_M_open_155 ?_
                refine z_goto (tgt := 160) C d_M_open_156 rfl ?_
                exact z_sub [2] rfl (vj_M_open_160 C P G hr hnl S x2 x5 (3 : Int32) h)
            · have h := h.2 c
              refine z_iconst (v := (2 : Int32)) C rfl d_M_open_145 ?_
              refine z_goto (tgt := 160) C d_M_open_146 rfl ?_
              exact z_sub [2] rfl (vj_M_open_160 C P G hr hnl S x2 x5 (2 : Int32) h)
  · have h := h.2 c
    refine z_aload_n C 0 rfl rfl d_M_open_88 ?_
    refine z_iload C 4 rfl d_M_open_89 ?_
    refine z_callVv (rest := []) C q_M_fails tw_1204 (c_M_fails _ B x4 S _ h) rc_M ⟨Nat.le_of_ble_eq_true rfl, Nat.le_of_ble_eq_true rfl⟩ rfl rfl (Nat.le_of_ble_eq_true rfl) d_M_open_91 (fun S4 h => ?_)
    exact z_vreturn C G hr h d_M_open_94
def j_M_open_67 (P : zS → Prop) (S : zS) (x1 : Int32) (x2 : Int32) (x3 : Int32) (x4 : Int32) (x5 : Int32) : Prop :=
  (x4 = 0 → ((x5 ≤ (10 : Int32) → (j_M_open_83 P S x1 x2 x3 x4 x5)) ∧ (¬ x5 ≤ (10 : Int32) → (j_M_open_83 P S x1 x2 x3 (24 : Int32) x5)))) ∧ (¬ x4 = 0 → (j_M_open_83 P S x1 x2 x3 x4 x5))
set_option maxRecDepth 20000 in
set_option maxHeartbeats 4000000 in
theorem vj_M_open_67 {E : zE} {B : zK} (C : zC E (wR B) prog_12_method_40_code "HostBenchModel" 3 65) (P : zS → Prop) (G : zGoal E (zQ (wR B) (zPv P)) (wR B)) (hr : zRt E (none)) (hnl : E.2.2.2.2.2.2.2.2.2.2.1 = 8) (S : zS) (x1 : Int32) (x2 : Int32) (x3 : Int32) (x4 : Int32) (x5 : Int32) (h : j_M_open_67 P S x1 x2 x3 x4 x5) : zV E (wR B) S 67 [(0, .ref (ad B 0)), (1, .int x1), (2, .int x2), (3, .int x3), (4, .int x4), (5, .int x5)] [] := by
  unfold j_M_open_67 at h
  refine z_iload C 4 rfl d_M_open_67 ?_
  refine z_if_ne (tgt := 83) C d_M_open_69 rfl (fun c => ?_) (fun c => ?_)
  · have h := h.2 c
    exact z_sub [0, 1, 2, 3, 4, 5] rfl (vj_M_open_83 C P G hr hnl S x1 x2 x3 x4 x5 h)
  · have h := h.1 c
    refine z_iload C 5 rfl d_M_open_72 ?_
    refine z_bipush (v := (10 : Int32)) C rfl d_M_open_74 ?_
    refine z_icmp_le (tgt := 83) C d_M_open_76 rfl (fun c => ?_) (fun c => ?_)
    · have h := h.1 c
      exact z_sub [0, 1, 2, 3, 4, 5] rfl (vj_M_open_83 C P G hr hnl S x1 x2 x3 x4 x5 h)
    · have h := h.2 c
      refine z_bipush (v := (24 : Int32)) C rfl d_M_open_79 ?_
      refine z_istore (L' := [(4, .int (24 : Int32)), (0, .ref (ad B 0)), (1, .int x1), (2, .int x2), (3, .int x3), (5, .int x5)]) C hnl (by decide) rfl d_M_open_81 ?_
      exact z_sub [1, 2, 3, 4, 0, 5] rfl (vj_M_open_83 C P G hr hnl S x1 x2 x3 (24 : Int32) x5 h)
def l_M_open_44 (P : zS → Prop) : Nat → zS → Int32 → Int32 → Int32 → Int32 → Int32 → Prop
  | 0, _, _, _, _, _, _ => False
  | n + 1, S, x1, x2, x3, x4, x5 =>
  ((10 : Int32) < x5 → (j_M_open_67 P S x1 x2 x3 x4 x5)) ∧ (¬ (10 : Int32) < x5 → (vp_in x5 11 ∧ ((gM S 7 x5.toNatClampNeg) ≤ 0 → (j_M_open_67 P S x1 x2 x3 x4 x5)) ∧ (¬ (gM S 7 x5.toNatClampNeg) ≤ 0 → (l_M_open_44 P n S x1 x2 x3 x4 (x5 + (1 : Int32))))))
set_option maxRecDepth 20000 in
set_option maxHeartbeats 4000000 in
theorem vl_M_open_44 {E : zE} {B : zK} (C : zC E (wR B) prog_12_method_40_code "HostBenchModel" 3 65) (P : zS → Prop) (G : zGoal E (zQ (wR B) (zPv P)) (wR B)) (hr : zRt E (none)) (hnl : E.2.2.2.2.2.2.2.2.2.2.1 = 8) : ∀ (n : Nat) (S : zS) (x1 : Int32) (x2 : Int32) (x3 : Int32) (x4 : Int32) (x5 : Int32) , l_M_open_44 P n S x1 x2 x3 x4 x5 → zV E (wR B) S 44 [(0, .ref (ad B 0)), (1, .int x1), (2, .int x2), (3, .int x3), (4, .int x4), (5, .int x5)] [] := by
  intro n
  induction n with
  | zero => intro S x1 x2 x3 x4 x5 h; exact h.elim
  | succ n ih =>
    intro S x1 x2 x3 x4 x5 h
    unfold l_M_open_44 at h
    refine z_iload C 5 rfl d_M_open_44 ?_
    refine z_bipush (v := (10 : Int32)) C rfl d_M_open_46 ?_
    refine z_icmp_gt (tgt := 67) C d_M_open_48 rfl (fun c => ?_) (fun c => ?_)
    · have h := h.1 c
      exact z_sub [0, 1, 2, 3, 4, 5] rfl (vj_M_open_67 C P G hr hnl S x1 x2 x3 x4 x5 h)
    · have h := h.2 c
      refine z_aload_n C 0 rfl rfl d_M_open_51 ?_
      refine gf_M_kind C (Or.inl tw_999) d_M_open_52 ?_
      refine z_iload C 5 rfl d_M_open_55 ?_
      obtain ⟨f1, h⟩ := h
      refine al_m_kind C f1 d_M_open_57 ?_
      refine z_if_le (tgt := 67) C d_M_open_58 rfl (fun c => ?_) (fun c => ?_)
      · have h := h.1 c
        exact z_sub [0, 1, 2, 3, 4, 5] rfl (vj_M_open_67 C P G hr hnl S x1 x2 x3 x4 x5 h)
      · have h := h.2 c
        refine z_iinc (v := x5 + (1 : Int32)) (L' := [(5, .int (x5 + (1 : Int32))), (0, .ref (ad B 0)), (1, .int x1), (2, .int x2), (3, .int x3), (4, .int x4)]) C hnl 5 rfl rfl (by decide) rfl d_M_open_61 ?_
        refine z_goto (tgt := 44) C d_M_open_64 rfl ?_
        exact z_sub [1, 2, 3, 4, 5, 0] rfl (ih S x1 x2 x3 x4 (x5 + (1 : Int32)) h)
def j_M_open_39 (P : zS → Prop) (S : zS) (x1 : Int32) (x2 : Int32) (x3 : Int32) (s0 : Int32) : Prop :=
  ∃ n1 : Nat, l_M_open_44 P n1 S x1 x2 x3 s0 (1 : Int32)
set_option maxRecDepth 20000 in
set_option maxHeartbeats 4000000 in
theorem vj_M_open_39 {E : zE} {B : zK} (C : zC E (wR B) prog_12_method_40_code "HostBenchModel" 3 65) (P : zS → Prop) (G : zGoal E (zQ (wR B) (zPv P)) (wR B)) (hr : zRt E (none)) (hnl : E.2.2.2.2.2.2.2.2.2.2.1 = 8) (S : zS) (x1 : Int32) (x2 : Int32) (x3 : Int32) (s0 : Int32) (h : j_M_open_39 P S x1 x2 x3 s0) : zV E (wR B) S 39 [(0, .ref (ad B 0)), (1, .int x1), (2, .int x2), (3, .int x3)] [.int s0] := by
  unfold j_M_open_39 at h
  refine z_istore (L' := [(4, .int s0), (0, .ref (ad B 0)), (1, .int x1), (2, .int x2), (3, .int x3)]) C hnl (by decide) rfl d_M_open_39 ?_
  refine z_iconst (v := (1 : Int32)) C rfl d_M_open_41 ?_
  refine z_istore (L' := [(5, .int (1 : Int32)), (4, .int s0), (0, .ref (ad B 0)), (1, .int x1), (2, .int x2), (3, .int x3)]) C hnl (by decide) rfl d_M_open_42 ?_
  obtain ⟨n1, h⟩ := h
  exact z_sub [2, 3, 4, 5, 1, 0] rfl (vl_M_open_44 C P G hr hnl n1 S x1 x2 x3 s0 (1 : Int32) h)
def j_M_open_28 (P : zS → Prop) (S : zS) (x1 : Int32) (x2 : Int32) (x3 : Int32) : Prop :=
  j_M_open_39 P S x1 x2 x3 (22 : Int32)
set_option maxRecDepth 20000 in
set_option maxHeartbeats 4000000 in
theorem vj_M_open_28 {E : zE} {B : zK} (C : zC E (wR B) prog_12_method_40_code "HostBenchModel" 3 65) (P : zS → Prop) (G : zGoal E (zQ (wR B) (zPv P)) (wR B)) (hr : zRt E (none)) (hnl : E.2.2.2.2.2.2.2.2.2.2.1 = 8) (S : zS) (x1 : Int32) (x2 : Int32) (x3 : Int32) (h : j_M_open_28 P S x1 x2 x3) : zV E (wR B) S 28 [(0, .ref (ad B 0)), (1, .int x1), (2, .int x2), (3, .int x3)] [] := by
  unfold j_M_open_28 at h
  refine z_bipush (v := (22 : Int32)) C rfl d_M_open_28 ?_
  refine z_goto (tgt := 39) C d_M_open_30 rfl ?_
  exact z_sub [0, 1, 2, 3] rfl (vj_M_open_39 C P G hr hnl S x1 x2 x3 (22 : Int32) h)
def w_M_open (S : zS) (P : zS → Prop) : Prop :=
  w_M_field (0 : Int32) S (fun S1 r2 => w_M_field (1 : Int32) S1 (fun S3 r4 => w_M_field (2 : Int32) S3 (fun S5 r6 => (r4 < 0 → (j_M_open_28 P S5 r2 r4 r6)) ∧ (¬ r4 < 0 → ((r4 ≤ (11 : Int32) → (w_M_nameFault r2 r6 S5 (fun S7 r8 => j_M_open_39 P S7 r2 r4 r6 r8))) ∧ (¬ r4 ≤ (11 : Int32) → (j_M_open_28 P S5 r2 r4 r6)))))))
set_option maxRecDepth 20000 in
set_option maxHeartbeats 4000000 in
theorem v_M_open {E : zE} {B : zK} (C : zC E (wR B) prog_12_method_40_code "HostBenchModel" 3 65) (P : zS → Prop) (G : zGoal E (zQ (wR B) (zPv P)) (wR B)) (hr : zRt E (none)) (hnl : E.2.2.2.2.2.2.2.2.2.2.1 = 8) (S : zS) (h : w_M_open S P) : zV E (wR B) S 0 [(0, .ref (ad B 0))] [] := by
  unfold w_M_open at h
  refine z_aload_n C 0 rfl rfl d_M_open_0 ?_
  refine z_iconst (v := (0 : Int32)) C rfl d_M_open_1 ?_
  refine z_callVi (rest := []) C q_M_field tw_1212 (c_M_field _ B (0 : Int32) S _ h) rc_M ⟨Nat.le_of_ble_eq_true rfl, Nat.le_of_ble_eq_true rfl⟩ rfl rfl (Nat.le_of_ble_eq_true rfl) d_M_open_2 (fun S1 r2 h => ?_)
  refine z_istore_n (L' := [(1, .int r2), (0, .ref (ad B 0))]) C hnl rfl (by decide) rfl d_M_open_5 ?_
  refine z_aload_n C 1 rfl rfl d_M_open_6 ?_
  refine z_iconst (v := (1 : Int32)) C rfl d_M_open_7 ?_
  refine z_callVi (rest := []) C q_M_field tw_1212 (c_M_field _ B (1 : Int32) S1 _ h) rc_M ⟨Nat.le_of_ble_eq_true rfl, Nat.le_of_ble_eq_true rfl⟩ rfl rfl (Nat.le_of_ble_eq_true rfl) d_M_open_8 (fun S3 r4 h => ?_)
  refine z_istore_n (L' := [(2, .int r4), (1, .int r2), (0, .ref (ad B 0))]) C hnl rfl (by decide) rfl d_M_open_11 ?_
  refine z_aload_n C 2 rfl rfl d_M_open_12 ?_
  refine z_iconst (v := (2 : Int32)) C rfl d_M_open_13 ?_
  refine z_callVi (rest := []) C q_M_field tw_1212 (c_M_field _ B (2 : Int32) S3 _ h) rc_M ⟨Nat.le_of_ble_eq_true rfl, Nat.le_of_ble_eq_true rfl⟩ rfl rfl (Nat.le_of_ble_eq_true rfl) d_M_open_14 (fun S5 r6 h => ?_)
  refine z_istore_n (L' := [(3, .int r6), (2, .int r4), (1, .int r2), (0, .ref (ad B 0))]) C hnl rfl (by decide) rfl d_M_open_17 ?_
  refine z_iload_n C 1 rfl rfl d_M_open_18 ?_
  refine z_if_lt (tgt := 28) C d_M_open_19 rfl (fun c => ?_) (fun c => ?_)
  · have h := h.1 c
    exact z_sub [3, 2, 1, 0] rfl (vj_M_open_28 C P G hr hnl S5 r2 r4 r6 h)
  · have h := h.2 c
    refine z_iload_n C 1 rfl rfl d_M_open_22 ?_
    refine z_bipush (v := (11 : Int32)) C rfl d_M_open_23 ?_
    refine z_icmp_le (tgt := 33) C d_M_open_25 rfl (fun c => ?_) (fun c => ?_)
    · have h := h.1 c
      refine z_aload_n C 3 rfl rfl d_M_open_33 ?_
      refine z_iload_n C 2 rfl rfl d_M_open_34 ?_
      refine z_iload_n C 0 rfl rfl d_M_open_35 ?_
      refine z_callVi (rest := []) C q_M_nameFault tw_1216 (c_M_nameFault _ B r2 r6 S5 _ h) rc_M ⟨Nat.le_of_ble_eq_true rfl, Nat.le_of_ble_eq_true rfl⟩ rfl rfl (Nat.le_of_ble_eq_true rfl) d_M_open_36 (fun S7 r8 h => ?_)
      exact z_sub [3, 2, 1, 0] rfl (vj_M_open_39 C P G hr hnl S7 r2 r4 r6 r8 h)
    · have h := h.2 c
      exact z_sub [3, 2, 1, 0] rfl (vj_M_open_28 C P G hr hnl S5 r2 r4 r6 h)
theorem c_M_open (l : Launch) (B : zK) (S : zS) (P : zS → Prop) (h : w_M_open S P) : Met l y_M_open (Cond.code y_M_open prog_12_method_40_code 8 none :: tT) (zRm 3 65) (zPc (wR B) [.ref (ad B 0)] S) (zQ (wR B) (zPv P)) 0 0 (wR B).2.2.2 :=
  z_met (by decide) (Nat.le_of_ble_eq_true rfl) (fun E C G hr _ hnl => v_M_open C P G hr hnl S h)
theorem q_M_open : zQw y_M_open prog_12_method_40_code 8 none 0 := ⟨tw_1210, tw_54, tw_87, tw_1211, by decide +kernel⟩
def w_M_isOpen (a1 : Int32) (S : zS) (P : zS → Int32 → Prop) : Prop :=
  (a1 < (1 : Int32) → (P S (0 : Int32))) ∧ (¬ a1 < (1 : Int32) → (((10 : Int32) < a1 → (P S (0 : Int32))) ∧ (¬ (10 : Int32) < a1 → (vp_in a1 11 ∧ ((gM S 7 a1.toNatClampNeg) ≤ 0 → (P S (0 : Int32))) ∧ (¬ (gM S 7 a1.toNatClampNeg) ≤ 0 → (P S (1 : Int32)))))))
set_option maxRecDepth 20000 in
set_option maxHeartbeats 4000000 in
theorem v_M_isOpen {E : zE} {B : zK} (C : zC E (wR B) prog_12_method_37_code "HostBenchModel" 0 0) (a1 : Int32) (P : zS → Int32 → Prop) (G : zGoal E (zQ (wR B) (zPi P)) (wR B)) (hr : zRt E (some .boolean)) (hnl : E.2.2.2.2.2.2.2.2.2.2.1 = 2) (S : zS) (h : w_M_isOpen a1 S P) : zV E (wR B) S 0 [(0, .ref (ad B 0)), (1, .int a1)] [] := by
  unfold w_M_isOpen at h
  refine z_iload_n C 1 rfl rfl d_M_isOpen_0 ?_
  refine z_iconst (v := (1 : Int32)) C rfl d_M_isOpen_1 ?_
  refine z_icmp_lt (tgt := 24) C d_M_isOpen_2 rfl (fun c => ?_) (fun c => ?_)
  · have h := h.1 c
    refine z_iconst (v := (0 : Int32)) C rfl d_M_isOpen_24 ?_
    exact z_zreturn C G hr rfl h d_M_isOpen_25
  · have h := h.2 c
    refine z_iload_n C 1 rfl rfl d_M_isOpen_5 ?_
    refine z_bipush (v := (10 : Int32)) C rfl d_M_isOpen_6 ?_
    refine z_icmp_gt (tgt := 24) C d_M_isOpen_8 rfl (fun c => ?_) (fun c => ?_)
    · have h := h.1 c
      refine z_iconst (v := (0 : Int32)) C rfl d_M_isOpen_24 ?_
      exact z_zreturn C G hr rfl h d_M_isOpen_25
    · have h := h.2 c
      refine z_aload_n C 0 rfl rfl d_M_isOpen_11 ?_
      refine gf_M_kind C (Or.inl tw_999) d_M_isOpen_12 ?_
      refine z_iload_n C 1 rfl rfl d_M_isOpen_15 ?_
      obtain ⟨f1, h⟩ := h
      refine al_m_kind C f1 d_M_isOpen_16 ?_
      refine z_if_le (tgt := 24) C d_M_isOpen_17 rfl (fun c => ?_) (fun c => ?_)
      · have h := h.1 c
        refine z_iconst (v := (0 : Int32)) C rfl d_M_isOpen_24 ?_
        exact z_zreturn C G hr rfl h d_M_isOpen_25
      · have h := h.2 c
        refine z_iconst (v := (1 : Int32)) C rfl d_M_isOpen_20 ?_
        refine z_goto (tgt := 25) C d_M_isOpen_21 rfl ?_
        exact z_zreturn C G hr rfl h d_M_isOpen_25
theorem c_M_isOpen (l : Launch) (B : zK) (a1 : Int32) (S : zS) (P : zS → Int32 → Prop) (h : w_M_isOpen a1 S P) : Met l y_M_isOpen (Cond.code y_M_isOpen prog_12_method_37_code 2 (some FieldType.boolean) :: tT) (zRm 0 0) (zPc (wR B) [.ref (ad B 0), .int a1] S) (zQ (wR B) (zPi P)) 0 0 (wR B).2.2.2 :=
  z_met (by decide) (Nat.le_of_ble_eq_true rfl) (fun E C G hr _ hnl => v_M_isOpen C a1 P G hr hnl S h)
theorem q_M_isOpen : zQw y_M_isOpen prog_12_method_37_code 2 (some FieldType.boolean) 1 := ⟨tw_1234, tw_60, tw_87, tw_1235, by decide +kernel⟩
def j_M_prints_40 (a1 : Int32) (a2 : Int32) (P : zS → Prop) (S : zS) : Prop :=
  vp_in a1 2 ∧ ∀ S2 : zS, S2 = sM S 12 a1.toNatClampNeg ((gM S 12 a1.toNatClampNeg) + (1 : Int32)) → P S2
set_option maxRecDepth 20000 in
set_option maxHeartbeats 4000000 in
theorem vj_M_prints_40 {E : zE} {B : zK} (C : zC E (wR B) prog_12_method_42_code "HostBenchModel" 0 0) (a1 : Int32) (a2 : Int32) (P : zS → Prop) (G : zGoal E (zQ (wR B) (zPv P)) (wR B)) (hr : zRt E (none)) (hnl : E.2.2.2.2.2.2.2.2.2.2.1 = 3) (S : zS) (h : j_M_prints_40 a1 a2 P S) : zV E (wR B) S 40 [(0, .ref (ad B 0)), (1, .int a1)] [] := by
  unfold j_M_prints_40 at h
  refine z_aload_n C 0 rfl rfl d_M_prints_40 ?_
  refine gf_M_printed C (Or.inl tw_1005) d_M_prints_41 ?_
  refine z_iload_n C 1 rfl rfl d_M_prints_44 ?_
  refine z_dup2 C rfl rfl d_M_prints_45 ?_
  obtain ⟨f1, h⟩ := h
  refine al_m_printed C f1 d_M_prints_46 ?_
  refine z_iconst (v := (1 : Int32)) C rfl d_M_prints_47 ?_
  refine z_iadd C d_M_prints_48 ?_
  refine as_m_printed C f1 d_M_prints_49 ?_
  refine z_nS (fun S2 eS2 => ?_)
  have h := h S2 eS2
  exact z_vreturn C G hr h d_M_prints_50
def w_M_prints (a1 : Int32) (a2 : Int32) (S : zS) (P : zS → Prop) : Prop :=
  vp_in a1 2 ∧ ((2000 : Int32) ≤ (gM S 13 a1.toNatClampNeg) → (j_M_prints_40 a1 a2 P S)) ∧ (¬ (2000 : Int32) ≤ (gM S 13 a1.toNatClampNeg) → (vp_in (((2000 : Int32) * a1) + (gM S 13 a1.toNatClampNeg)) 4000 ∧ ∀ S3 : zS, S3 = sM S 14 (((2000 : Int32) * a1) + (gM S 13 a1.toNatClampNeg)).toNatClampNeg a2 → ∀ S4 : zS, S4 = sM S3 13 a1.toNatClampNeg ((gM S3 13 a1.toNatClampNeg) + (1 : Int32)) → j_M_prints_40 a1 a2 P S4))
set_option maxRecDepth 20000 in
set_option maxHeartbeats 4000000 in
theorem v_M_prints {E : zE} {B : zK} (C : zC E (wR B) prog_12_method_42_code "HostBenchModel" 0 0) (a1 : Int32) (a2 : Int32) (P : zS → Prop) (G : zGoal E (zQ (wR B) (zPv P)) (wR B)) (hr : zRt E (none)) (hnl : E.2.2.2.2.2.2.2.2.2.2.1 = 3) (S : zS) (h : w_M_prints a1 a2 S P) : zV E (wR B) S 0 [(0, .ref (ad B 0)), (1, .int a1), (2, .int a2)] [] := by
  unfold w_M_prints at h
  refine z_aload_n C 0 rfl rfl d_M_prints_0 ?_
  refine gf_M_kept C (Or.inl tw_1006) d_M_prints_1 ?_
  refine z_iload_n C 1 rfl rfl d_M_prints_4 ?_
  obtain ⟨f1, h⟩ := h
  refine al_m_kept C f1 d_M_prints_5 ?_
  refine z_sipush (v := (2000 : Int32)) C rfl d_M_prints_6 ?_
  refine z_icmp_ge (tgt := 40) C d_M_prints_9 rfl (fun c => ?_) (fun c => ?_)
  · have h := h.1 c
    exact z_sub [0, 1] rfl (vj_M_prints_40 C a1 a2 P G hr hnl S h)
  · have h := h.2 c
    refine z_aload_n C 0 rfl rfl d_M_prints_12 ?_
    refine gf_M_prints C (Or.inl tw_1007) d_M_prints_13 ?_
    refine z_sipush (v := (2000 : Int32)) C rfl d_M_prints_16 ?_
    refine z_iload_n C 1 rfl rfl d_M_prints_19 ?_
    refine z_imul C d_M_prints_20 ?_
    refine z_aload_n C 0 rfl rfl d_M_prints_21 ?_
    refine gf_M_kept C (Or.inl tw_1006) d_M_prints_22 ?_
    refine z_iload_n C 1 rfl rfl d_M_prints_25 ?_
    refine al_m_kept C f1 d_M_prints_26 ?_
    refine z_iadd C d_M_prints_27 ?_
    refine z_iload_n C 2 rfl rfl d_M_prints_28 ?_
    obtain ⟨f2, h⟩ := h
    refine as_m_prints C f2 d_M_prints_29 ?_
    refine z_nS (fun S3 eS3 => ?_)
    have h := h S3 eS3
    refine z_aload_n C 0 rfl rfl d_M_prints_30 ?_
    refine gf_M_kept C (Or.inl tw_1006) d_M_prints_31 ?_
    refine z_iload_n C 1 rfl rfl d_M_prints_34 ?_
    refine z_dup2 C rfl rfl d_M_prints_35 ?_
    refine al_m_kept C f1 d_M_prints_36 ?_
    refine z_iconst (v := (1 : Int32)) C rfl d_M_prints_37 ?_
    refine z_iadd C d_M_prints_38 ?_
    refine as_m_kept C f1 d_M_prints_39 ?_
    refine z_nS (fun S4 eS4 => ?_)
    have h := h S4 eS4
    exact z_sub [0, 1] rfl (vj_M_prints_40 C a1 a2 P G hr hnl S4 h)
theorem c_M_prints (l : Launch) (B : zK) (a1 : Int32) (a2 : Int32) (S : zS) (P : zS → Prop) (h : w_M_prints a1 a2 S P) : Met l y_M_prints (Cond.code y_M_prints prog_12_method_42_code 3 none :: tT) (zRm 0 0) (zPc (wR B) [.ref (ad B 0), .int a1, .int a2] S) (zQ (wR B) (zPv P)) 0 0 (wR B).2.2.2 :=
  z_met (by decide) (Nat.le_of_ble_eq_true rfl) (fun E C G hr _ hnl => v_M_prints C a1 a2 P G hr hnl S h)
theorem q_M_prints : zQw y_M_prints prog_12_method_42_code 3 none 2 := ⟨tw_1238, tw_61, tw_87, tw_1239, by decide +kernel⟩
def j_M_writeUpToZero_34 (a1 : Int32) (P : zS → Prop) (K7 : zS → Int32 → Int64 → Prop) (S : zS) (x3 : Int64) (s0 : Int32) : Prop :=
  ∀ v1 : Int64, v1 = (x3 + (1 : Int64)) → K7 S s0 v1
set_option maxRecDepth 20000 in
set_option maxHeartbeats 4000000 in
theorem vj_M_writeUpToZero_34 {E : zE} {B : zK} (C : zC E (wR B) prog_12_method_43_code "HostBenchModel" 1 22) (a1 : Int32) (P : zS → Prop) (G : zGoal E (zQ (wR B) (zPv P)) (wR B)) (hr : zRt E (none)) (hnl : E.2.2.2.2.2.2.2.2.2.2.1 = 5) (K7 : zS → Int32 → Int64 → Prop) (hK7 : ∀ (S : zS) (x2 : Int32) (x3 : Int64), K7 S x2 x3 → zV E (wR B) S 7 [(0, .ref (ad B 0)), (1, .int a1), (2, .int x2), (3, .long x3)] []) (S : zS) (x3 : Int64) (s0 : Int32) (h : j_M_writeUpToZero_34 a1 P K7 S x3 s0) : zV E (wR B) S 34 [(0, .ref (ad B 0)), (1, .int a1), (3, .long x3)] [.int s0] := by
  unfold j_M_writeUpToZero_34 at h
  refine z_istore_n (L' := [(2, .int s0), (0, .ref (ad B 0)), (1, .int a1), (3, .long x3)]) C hnl rfl (by decide) rfl d_M_writeUpToZero_34 ?_
  refine z_lload_n C 3 rfl rfl d_M_writeUpToZero_35 ?_
  refine z_lconst (v := (1 : Int64)) C rfl d_M_writeUpToZero_36 ?_
  refine z_ladd C d_M_writeUpToZero_37 ?_
  refine z_topl (fun v1 ev1 => ?_)
  have h := h v1 ev1
  refine z_lstore_n (L' := [(3, .long v1), (2, .int s0), (0, .ref (ad B 0)), (1, .int a1)]) C hnl rfl (by decide) rfl d_M_writeUpToZero_38 ?_
  refine z_goto (tgt := 7) C d_M_writeUpToZero_39 rfl ?_
  exact z_sub [2, 3, 1, 0] rfl (hK7 S s0 v1 h)
def l_M_writeUpToZero_55 (a1 : Int32) (P : zS → Prop) : Nat → zS → Int32 → Prop
  | 0, _, _ => False
  | n + 1, S, x3 =>
  vp_in x3 16384 ∧ ((gM S 1 x3.toNatClampNeg) = 0 → (w_M_answer (0 : Int32) S (fun S2 => P S2))) ∧ (¬ (gM S 1 x3.toNatClampNeg) = 0 → (w_M_prints (0 : Int32) (gM S 1 x3.toNatClampNeg) S (fun S3 => l_M_writeUpToZero_55 a1 P n S3 (x3 + (1 : Int32)))))
set_option maxRecDepth 20000 in
set_option maxHeartbeats 4000000 in
theorem vl_M_writeUpToZero_55 {E : zE} {B : zK} (C : zC E (wR B) prog_12_method_43_code "HostBenchModel" 1 22) (a1 : Int32) (P : zS → Prop) (G : zGoal E (zQ (wR B) (zPv P)) (wR B)) (hr : zRt E (none)) (hnl : E.2.2.2.2.2.2.2.2.2.2.1 = 5) : ∀ (n : Nat) (S : zS) (x3 : Int32) , l_M_writeUpToZero_55 a1 P n S x3 → zV E (wR B) S 55 [(0, .ref (ad B 0)), (3, .int x3)] [] := by
  intro n
  induction n with
  | zero => intro S x3 h; exact h.elim
  | succ n ih =>
    intro S x3 h
    unfold l_M_writeUpToZero_55 at h
    refine z_aload_n C 0 rfl rfl d_M_writeUpToZero_55 ?_
    refine gf_M_memory C (Or.inl tw_985) d_M_writeUpToZero_56 ?_
    refine z_iload_n C 1 rfl rfl d_M_writeUpToZero_59 ?_
    obtain ⟨f1, h⟩ := h
    refine al_m_memory C f1 d_M_writeUpToZero_60 ?_
    refine z_if_eq (tgt := 81) C d_M_writeUpToZero_61 rfl (fun c => ?_) (fun c => ?_)
    · have h := h.1 c
      refine z_aload_n C 0 rfl rfl d_M_writeUpToZero_81 ?_
      refine z_iconst (v := (0 : Int32)) C rfl d_M_writeUpToZero_82 ?_
      refine z_callVv (rest := []) C q_M_answer tw_1224 (c_M_answer _ B (0 : Int32) S _ h) rc_M ⟨Nat.le_of_ble_eq_true rfl, Nat.le_of_ble_eq_true rfl⟩ rfl rfl (Nat.le_of_ble_eq_true rfl) d_M_writeUpToZero_83 (fun S2 h => ?_)
      exact z_vreturn C G hr h d_M_writeUpToZero_86
    · have h := h.2 c
      refine z_aload_n C 0 rfl rfl d_M_writeUpToZero_64 ?_
      refine z_iconst (v := (0 : Int32)) C rfl d_M_writeUpToZero_65 ?_
      refine z_aload_n C 0 rfl rfl d_M_writeUpToZero_66 ?_
      refine gf_M_memory C (Or.inl tw_985) d_M_writeUpToZero_67 ?_
      refine z_iload_n C 1 rfl rfl d_M_writeUpToZero_70 ?_
      refine al_m_memory C f1 d_M_writeUpToZero_71 ?_
      refine z_callVv (rest := []) C q_M_prints tw_1236 (c_M_prints _ B (0 : Int32) (gM S 1 x3.toNatClampNeg) S _ h) rc_M ⟨Nat.le_of_ble_eq_true rfl, Nat.le_of_ble_eq_true rfl⟩ rfl rfl (Nat.le_of_ble_eq_true rfl) d_M_writeUpToZero_72 (fun S3 h => ?_)
      refine z_iinc (v := x3 + (1 : Int32)) (L' := [(3, .int (x3 + (1 : Int32))), (0, .ref (ad B 0))]) C hnl 1 rfl rfl (by decide) rfl d_M_writeUpToZero_75 ?_
      refine z_goto (tgt := 55) C d_M_writeUpToZero_78 rfl ?_
      exact z_sub [1, 0] rfl (ih S3 (x3 + (1 : Int32)) h)
def j_M_writeUpToZero_42 (a1 : Int32) (P : zS → Prop) (S : zS) (x2 : Int32) : Prop :=
  (x2 = 0 → (w_M_fails (14 : Int32) S (fun S2 => P S2))) ∧ (¬ x2 = 0 → (∃ n1 : Nat, l_M_writeUpToZero_55 a1 P n1 S a1))
set_option maxRecDepth 20000 in
set_option maxHeartbeats 4000000 in
theorem vj_M_writeUpToZero_42 {E : zE} {B : zK} (C : zC E (wR B) prog_12_method_43_code "HostBenchModel" 1 22) (a1 : Int32) (P : zS → Prop) (G : zGoal E (zQ (wR B) (zPv P)) (wR B)) (hr : zRt E (none)) (hnl : E.2.2.2.2.2.2.2.2.2.2.1 = 5) (S : zS) (x2 : Int32) (h : j_M_writeUpToZero_42 a1 P S x2) : zV E (wR B) S 42 [(0, .ref (ad B 0)), (1, .int a1), (2, .int x2)] [] := by
  unfold j_M_writeUpToZero_42 at h
  refine z_iload_n C 2 rfl rfl d_M_writeUpToZero_42 ?_
  refine z_if_ne (tgt := 53) C d_M_writeUpToZero_43 rfl (fun c => ?_) (fun c => ?_)
  · have h := h.2 c
    refine z_iload_n C 1 rfl rfl d_M_writeUpToZero_53 ?_
    refine z_istore_n (L' := [(3, .int a1), (0, .ref (ad B 0)), (1, .int a1), (2, .int x2)]) C hnl rfl (by decide) rfl d_M_writeUpToZero_54 ?_
    obtain ⟨n1, h⟩ := h
    exact z_sub [1, 0] rfl (vl_M_writeUpToZero_55 C a1 P G hr hnl n1 S a1 h)
  · have h := h.1 c
    refine z_aload_n C 0 rfl rfl d_M_writeUpToZero_46 ?_
    refine z_bipush (v := (14 : Int32)) C rfl d_M_writeUpToZero_47 ?_
    refine z_callVv (rest := []) C q_M_fails tw_1204 (c_M_fails _ B (14 : Int32) S _ h) rc_M ⟨Nat.le_of_ble_eq_true rfl, Nat.le_of_ble_eq_true rfl⟩ rfl rfl (Nat.le_of_ble_eq_true rfl) d_M_writeUpToZero_49 (fun S2 h => ?_)
    exact z_vreturn C G hr h d_M_writeUpToZero_52
def l_M_writeUpToZero_7 (a1 : Int32) (P : zS → Prop) : Nat → zS → Int32 → Int64 → Prop
  | 0, _, _, _ => False
  | n + 1, S, x2, x3 =>
  (0 ≤ (lg_cmp x3 (16384 : Int64)) → (j_M_writeUpToZero_42 a1 P S x2)) ∧ (¬ 0 ≤ (lg_cmp x3 (16384 : Int64)) → ((x2 = 0 → (vp_in x3.toInt32 16384 ∧ ((gM S 1 x3.toInt32.toNatClampNeg) = 0 → (j_M_writeUpToZero_34 a1 P (fun S x2 x3 => l_M_writeUpToZero_7 a1 P n S x2 x3) S x3 (1 : Int32))) ∧ (¬ (gM S 1 x3.toInt32.toNatClampNeg) = 0 → (j_M_writeUpToZero_34 a1 P (fun S x2 x3 => l_M_writeUpToZero_7 a1 P n S x2 x3) S x3 (0 : Int32))))) ∧ (¬ x2 = 0 → (j_M_writeUpToZero_42 a1 P S x2))))
set_option maxRecDepth 20000 in
set_option maxHeartbeats 4000000 in
theorem vl_M_writeUpToZero_7 {E : zE} {B : zK} (C : zC E (wR B) prog_12_method_43_code "HostBenchModel" 1 22) (a1 : Int32) (P : zS → Prop) (G : zGoal E (zQ (wR B) (zPv P)) (wR B)) (hr : zRt E (none)) (hnl : E.2.2.2.2.2.2.2.2.2.2.1 = 5) : ∀ (n : Nat) (S : zS) (x2 : Int32) (x3 : Int64) , l_M_writeUpToZero_7 a1 P n S x2 x3 → zV E (wR B) S 7 [(0, .ref (ad B 0)), (1, .int a1), (2, .int x2), (3, .long x3)] [] := by
  intro n
  induction n with
  | zero => intro S x2 x3 h; exact h.elim
  | succ n ih =>
    intro S x2 x3 h
    unfold l_M_writeUpToZero_7 at h
    refine z_lload_n C 3 rfl rfl d_M_writeUpToZero_7 ?_
    refine z_ldc2 (v := (16384 : Int64)) C tw_1146 d_M_writeUpToZero_8 ?_
    refine z_lcmp C d_M_writeUpToZero_11 ?_
    refine z_if_ge (tgt := 42) C d_M_writeUpToZero_12 rfl (fun c => ?_) (fun c => ?_)
    · have h := h.1 c
      exact z_sub [0, 1, 2] rfl (vj_M_writeUpToZero_42 C a1 P G hr hnl S x2 h)
    · have h := h.2 c
      refine z_iload_n C 2 rfl rfl d_M_writeUpToZero_15 ?_
      refine z_if_ne (tgt := 42) C d_M_writeUpToZero_16 rfl (fun c => ?_) (fun c => ?_)
      · have h := h.2 c
        exact z_sub [0, 1, 2] rfl (vj_M_writeUpToZero_42 C a1 P G hr hnl S x2 h)
      · have h := h.1 c
        refine z_aload_n C 0 rfl rfl d_M_writeUpToZero_19 ?_
        refine gf_M_memory C (Or.inl tw_985) d_M_writeUpToZero_20 ?_
        refine z_lload_n C 3 rfl rfl d_M_writeUpToZero_23 ?_
        refine z_l2i C d_M_writeUpToZero_24 ?_
        obtain ⟨f1, h⟩ := h
        refine al_m_memory C f1 d_M_writeUpToZero_25 ?_
        refine z_if_ne (tgt := 33) C d_M_writeUpToZero_26 rfl (fun c => ?_) (fun c => ?_)
        · have h := h.2 c
          refine z_iconst (v := (0 : Int32)) C rfl d_M_writeUpToZero_33 ?_
          exact z_sub [0, 1, 3] rfl (vj_M_writeUpToZero_34 C a1 P G hr hnl (fun S x2 x3 => l_M_writeUpToZero_7 a1 P n S x2 x3) ih S x3 (0 : Int32) h)
        · have h := h.1 c
          refine z_iconst (v := (1 : Int32)) C rfl d_M_writeUpToZero_29 ?_
          refine z_goto (tgt := 34) C d_M_writeUpToZero_30 rfl ?_
          exact z_sub [0, 1, 3] rfl (vj_M_writeUpToZero_34 C a1 P G hr hnl (fun S x2 x3 => l_M_writeUpToZero_7 a1 P n S x2 x3) ih S x3 (1 : Int32) h)
def w_M_writeUpToZero (a1 : Int32) (S : zS) (P : zS → Prop) : Prop :=
  w_M_whole a1 S (fun S1 r2 => ∃ n3 : Nat, l_M_writeUpToZero_7 a1 P n3 S1 (0 : Int32) r2)
set_option maxRecDepth 20000 in
set_option maxHeartbeats 4000000 in
theorem v_M_writeUpToZero {E : zE} {B : zK} (C : zC E (wR B) prog_12_method_43_code "HostBenchModel" 1 22) (a1 : Int32) (P : zS → Prop) (G : zGoal E (zQ (wR B) (zPv P)) (wR B)) (hr : zRt E (none)) (hnl : E.2.2.2.2.2.2.2.2.2.2.1 = 5) (S : zS) (h : w_M_writeUpToZero a1 S P) : zV E (wR B) S 0 [(0, .ref (ad B 0)), (1, .int a1)] [] := by
  unfold w_M_writeUpToZero at h
  refine z_iconst (v := (0 : Int32)) C rfl d_M_writeUpToZero_0 ?_
  refine z_istore_n (L' := [(2, .int (0 : Int32)), (0, .ref (ad B 0)), (1, .int a1)]) C hnl rfl (by decide) rfl d_M_writeUpToZero_1 ?_
  refine z_iload_n C 2 rfl rfl d_M_writeUpToZero_2 ?_
  refine z_callSl (rest := []) C q_M_whole rfl tw_1142 (c_M_whole _ B a1 S _ h) ⟨Nat.le_of_ble_eq_true rfl, Nat.le_of_ble_eq_true rfl⟩ rfl rfl (Nat.le_of_ble_eq_true rfl) d_M_writeUpToZero_3 (fun S1 r2 h => ?_)
  refine z_lstore_n (L' := [(3, .long r2), (2, .int (0 : Int32)), (0, .ref (ad B 0)), (1, .int a1)]) C hnl rfl (by decide) rfl d_M_writeUpToZero_6 ?_
  obtain ⟨n3, h⟩ := h
  exact z_sub [2, 3, 1, 0] rfl (vl_M_writeUpToZero_7 C a1 P G hr hnl n3 S1 (0 : Int32) r2 h)
theorem c_M_writeUpToZero (l : Launch) (B : zK) (a1 : Int32) (S : zS) (P : zS → Prop) (h : w_M_writeUpToZero a1 S P) : Met l y_M_writeUpToZero (Cond.code y_M_writeUpToZero prog_12_method_43_code 5 none :: tT) (zRm 1 22) (zPc (wR B) [.ref (ad B 0), .int a1] S) (zQ (wR B) (zPv P)) 0 0 (wR B).2.2.2 :=
  z_met (by decide) (Nat.le_of_ble_eq_true rfl) (fun E C G hr _ hnl => v_M_writeUpToZero C a1 P G hr hnl S h)
theorem q_M_writeUpToZero : zQw y_M_writeUpToZero prog_12_method_43_code 5 none 1 := ⟨tw_1242, tw_62, tw_87, tw_1243, by decide +kernel⟩
def w_M_failsWith (a1 : Int32) (a2 : Int32) (S : zS) (P : zS → Prop) : Prop :=
  ∀ S1 : zS, S1 = sM S 0 24 a1 → vp_in (10 : Int32) 32 ∧ ∀ S3 : zS, S3 = sM S1 2 (10 : Int32).toNatClampNeg a2 → P S3
set_option maxRecDepth 20000 in
set_option maxHeartbeats 4000000 in
theorem v_M_failsWith {E : zE} {B : zK} (C : zC E (wR B) prog_12_method_44_code "HostBenchModel" 0 0) (a1 : Int32) (a2 : Int32) (P : zS → Prop) (G : zGoal E (zQ (wR B) (zPv P)) (wR B)) (hr : zRt E (none)) (hnl : E.2.2.2.2.2.2.2.2.2.2.1 = 3) (S : zS) (h : w_M_failsWith a1 a2 S P) : zV E (wR B) S 0 [(0, .ref (ad B 0)), (1, .int a1), (2, .int a2)] [] := by
  unfold w_M_failsWith at h
  refine z_aload_n C 0 rfl rfl d_M_failsWith_0 ?_
  refine z_iload_n C 1 rfl rfl d_M_failsWith_1 ?_
  refine pf_M_errno C (Or.inl tw_1008) d_M_failsWith_2 ?_
  refine z_nS (fun S1 eS1 => ?_)
  have h := h S1 eS1
  refine z_aload_n C 0 rfl rfl d_M_failsWith_5 ?_
  refine gf_M_x C (Or.inl tw_986) d_M_failsWith_6 ?_
  refine z_bipush (v := (10 : Int32)) C rfl d_M_failsWith_9 ?_
  refine z_iload_n C 2 rfl rfl d_M_failsWith_11 ?_
  obtain ⟨f2, h⟩ := h
  refine as_m_x C f2 d_M_failsWith_12 ?_
  refine z_nS (fun S3 eS3 => ?_)
  have h := h S3 eS3
  exact z_vreturn C G hr h d_M_failsWith_13
theorem c_M_failsWith (l : Launch) (B : zK) (a1 : Int32) (a2 : Int32) (S : zS) (P : zS → Prop) (h : w_M_failsWith a1 a2 S P) : Met l y_M_failsWith (Cond.code y_M_failsWith prog_12_method_44_code 3 none :: tT) (zRm 0 0) (zPc (wR B) [.ref (ad B 0), .int a1, .int a2] S) (zQ (wR B) (zPv P)) 0 0 (wR B).2.2.2 :=
  z_met (by decide) (Nat.le_of_ble_eq_true rfl) (fun E C G hr _ hnl => v_M_failsWith C a1 a2 P G hr hnl S h)
theorem q_M_failsWith : zQw y_M_failsWith prog_12_method_44_code 3 none 2 := ⟨tw_1250, tw_64, tw_87, tw_1251, by decide +kernel⟩
def j_M_write_19 (a1 : Int32) (a2 : Int32) (a3 : Int32) (P : zS → Prop) (S : zS) : Prop :=
  w_M_failsWith (9 : Int32) a3 S (fun S1 => P S1)
set_option maxRecDepth 20000 in
set_option maxHeartbeats 4000000 in
theorem vj_M_write_19 {E : zE} {B : zK} (C : zC E (wR B) prog_12_method_45_code "HostBenchModel" 2 41) (a1 : Int32) (a2 : Int32) (a3 : Int32) (P : zS → Prop) (G : zGoal E (zQ (wR B) (zPv P)) (wR B)) (hr : zRt E (none)) (hnl : E.2.2.2.2.2.2.2.2.2.2.1 = 6) (S : zS) (h : j_M_write_19 a1 a2 a3 P S) : zV E (wR B) S 19 [(0, .ref (ad B 0)), (3, .int a3)] [] := by
  unfold j_M_write_19 at h
  refine z_aload_n C 0 rfl rfl d_M_write_19 ?_
  refine z_bipush (v := (9 : Int32)) C rfl d_M_write_20 ?_
  refine z_iload_n C 1 rfl rfl d_M_write_22 ?_
  refine z_callVv (rest := []) C q_M_failsWith tw_1248 (c_M_failsWith _ B (9 : Int32) a3 S _ h) rc_M ⟨Nat.le_of_ble_eq_true rfl, Nat.le_of_ble_eq_true rfl⟩ rfl rfl (Nat.le_of_ble_eq_true rfl) d_M_write_23 (fun S1 h => ?_)
  exact z_vreturn C G hr h d_M_write_26
def l_M_write_56 (a1 : Int32) (a2 : Int32) (a3 : Int32) (P : zS → Prop) : Nat → zS → Int32 → Prop
  | 0, _, _ => False
  | n + 1, S, x4 =>
  (a3 ≤ x4 → (w_M_answer (0 : Int32) S (fun S1 => P S1))) ∧ (¬ a3 ≤ x4 → (vp_in a1 11 ∧ vp_in (a2 + x4) 16384 ∧ w_M_prints ((gM S 7 a1.toNatClampNeg) - (3 : Int32)) (gM S 1 (a2 + x4).toNatClampNeg) S (fun S4 => l_M_write_56 a1 a2 a3 P n S4 (x4 + (1 : Int32)))))
set_option maxRecDepth 20000 in
set_option maxHeartbeats 4000000 in
theorem vl_M_write_56 {E : zE} {B : zK} (C : zC E (wR B) prog_12_method_45_code "HostBenchModel" 2 41) (a1 : Int32) (a2 : Int32) (a3 : Int32) (P : zS → Prop) (G : zGoal E (zQ (wR B) (zPv P)) (wR B)) (hr : zRt E (none)) (hnl : E.2.2.2.2.2.2.2.2.2.2.1 = 6) : ∀ (n : Nat) (S : zS) (x4 : Int32) , l_M_write_56 a1 a2 a3 P n S x4 → zV E (wR B) S 56 [(0, .ref (ad B 0)), (1, .int a1), (2, .int a2), (3, .int a3), (4, .int x4)] [] := by
  intro n
  induction n with
  | zero => intro S x4 h; exact h.elim
  | succ n ih =>
    intro S x4 h
    unfold l_M_write_56 at h
    refine z_iload C 4 rfl d_M_write_56 ?_
    refine z_iload_n C 3 rfl rfl d_M_write_58 ?_
    refine z_icmp_ge (tgt := 89) C d_M_write_59 rfl (fun c => ?_) (fun c => ?_)
    · have h := h.1 c
      refine z_aload_n C 0 rfl rfl d_M_write_89 ?_
      refine z_iconst (v := (0 : Int32)) C rfl d_M_write_90 ?_
      refine z_callVv (rest := []) C q_M_answer tw_1224 (c_M_answer _ B (0 : Int32) S _ h) rc_M ⟨Nat.le_of_ble_eq_true rfl, Nat.le_of_ble_eq_true rfl⟩ rfl rfl (Nat.le_of_ble_eq_true rfl) d_M_write_91 (fun S1 h => ?_)
      exact z_vreturn C G hr h d_M_write_94
    · have h := h.2 c
      refine z_aload_n C 0 rfl rfl d_M_write_62 ?_
      refine z_aload_n C 0 rfl rfl d_M_write_63 ?_
      refine gf_M_kind C (Or.inl tw_999) d_M_write_64 ?_
      refine z_iload_n C 1 rfl rfl d_M_write_67 ?_
      obtain ⟨f2, h⟩ := h
      refine al_m_kind C f2 d_M_write_68 ?_
      refine z_iconst (v := (3 : Int32)) C rfl d_M_write_69 ?_
      refine z_isub C d_M_write_70 ?_
      refine z_aload_n C 0 rfl rfl d_M_write_71 ?_
      refine gf_M_memory C (Or.inl tw_985) d_M_write_72 ?_
      refine z_iload_n C 2 rfl rfl d_M_write_75 ?_
      refine z_iload C 4 rfl d_M_write_76 ?_
      refine z_iadd C d_M_write_78 ?_
      obtain ⟨f3, h⟩ := h
      refine al_m_memory C f3 d_M_write_79 ?_
      refine z_callVv (rest := []) C q_M_prints tw_1236 (c_M_prints _ B ((gM S 7 a1.toNatClampNeg) - (3 : Int32)) (gM S 1 (a2 + x4).toNatClampNeg) S _ h) rc_M ⟨Nat.le_of_ble_eq_true rfl, Nat.le_of_ble_eq_true rfl⟩ rfl rfl (Nat.le_of_ble_eq_true rfl) d_M_write_80 (fun S4 h => ?_)
      refine z_iinc (v := x4 + (1 : Int32)) (L' := [(4, .int (x4 + (1 : Int32))), (0, .ref (ad B 0)), (1, .int a1), (2, .int a2), (3, .int a3)]) C hnl 4 rfl rfl (by decide) rfl d_M_write_83 ?_
      refine z_goto (tgt := 56) C d_M_write_86 rfl ?_
      exact z_sub [1, 2, 3, 4, 0] rfl (ih S4 (x4 + (1 : Int32)) h)
def j_M_write_251 (a1 : Int32) (a2 : Int32) (a3 : Int32) (P : zS → Prop) (K129 : zS → Int32 → Int32 → Prop) (S : zS) (x4 : Int32) (x5 : Int32) : Prop :=
  vp_in a1 11 ∧ ∀ S2 : zS, S2 = sM S 9 a1.toNatClampNeg ((gM S 9 a1.toNatClampNeg) + (1 : Int32)) → K129 S2 x4 (x5 + (1 : Int32))
set_option maxRecDepth 20000 in
set_option maxHeartbeats 4000000 in
theorem vj_M_write_251 {E : zE} {B : zK} (C : zC E (wR B) prog_12_method_45_code "HostBenchModel" 2 41) (a1 : Int32) (a2 : Int32) (a3 : Int32) (P : zS → Prop) (G : zGoal E (zQ (wR B) (zPv P)) (wR B)) (hr : zRt E (none)) (hnl : E.2.2.2.2.2.2.2.2.2.2.1 = 6) (K129 : zS → Int32 → Int32 → Prop) (hK129 : ∀ (S : zS) (x4 : Int32) (x5 : Int32), K129 S x4 x5 → zV E (wR B) S 129 [(0, .ref (ad B 0)), (1, .int a1), (2, .int a2), (3, .int a3), (4, .int x4), (5, .int x5)] []) (S : zS) (x4 : Int32) (x5 : Int32) (h : j_M_write_251 a1 a2 a3 P K129 S x4 x5) : zV E (wR B) S 251 [(0, .ref (ad B 0)), (1, .int a1), (2, .int a2), (3, .int a3), (4, .int x4), (5, .int x5)] [] := by
  unfold j_M_write_251 at h
  refine z_aload_n C 0 rfl rfl d_M_write_251 ?_
  refine gf_M_place C (Or.inl tw_1001) d_M_write_252 ?_
  refine z_iload_n C 1 rfl rfl d_M_write_255 ?_
  refine z_dup2 C rfl rfl d_M_write_256 ?_
  obtain ⟨f1, h⟩ := h
  refine al_m_place C f1 d_M_write_257 ?_
  refine z_iconst (v := (1 : Int32)) C rfl d_M_write_258 ?_
  refine z_iadd C d_M_write_259 ?_
  refine as_m_place C f1 d_M_write_260 ?_
  refine z_nS (fun S2 eS2 => ?_)
  have h := h S2 eS2
  refine z_iinc (v := x5 + (1 : Int32)) (L' := [(5, .int (x5 + (1 : Int32))), (0, .ref (ad B 0)), (1, .int a1), (2, .int a2), (3, .int a3), (4, .int x4)]) C hnl 5 rfl rfl (by decide) rfl d_M_write_261 ?_
  refine z_goto (tgt := 129) C d_M_write_264 rfl ?_
  exact z_sub [1, 2, 3, 4, 5, 0] rfl (hK129 S2 x4 (x5 + (1 : Int32)) h)
def l_M_write_147 (a1 : Int32) (a2 : Int32) (a3 : Int32) (P : zS → Prop) (K129 : zS → Int32 → Int32 → Prop) : Nat → zS → Int32 → Int32 → Prop
  | 0, _, _, _ => False
  | n + 1, S, x4, x5 =>
  vp_in x4 12 ∧ vp_in a1 11 ∧ ((gM S 9 a1.toNatClampNeg) ≤ (gM S 4 x4.toNatClampNeg) → (vp_in (a2 + x5) 16384 ∧ vp_in (((2000 : Int32) * x4) + (gM S 9 a1.toNatClampNeg)) 24000 ∧ ∀ S5 : zS, S5 = sM S 3 (((2000 : Int32) * x4) + (gM S 9 a1.toNatClampNeg)).toNatClampNeg (gM S 1 (a2 + x5).toNatClampNeg) → ((gM S5 4 x4.toNatClampNeg) = (gM S5 9 a1.toNatClampNeg) → (∀ S6 : zS, S6 = sM S5 4 x4.toNatClampNeg ((gM S5 4 x4.toNatClampNeg) + (1 : Int32)) → j_M_write_251 a1 a2 a3 P K129 S6 x4 x5)) ∧ (¬ (gM S5 4 x4.toNatClampNeg) = (gM S5 9 a1.toNatClampNeg) → (j_M_write_251 a1 a2 a3 P K129 S5 x4 x5)))) ∧ (¬ (gM S 9 a1.toNatClampNeg) ≤ (gM S 4 x4.toNatClampNeg) → (vp_in (((2000 : Int32) * x4) + (gM S 4 x4.toNatClampNeg)) 24000 ∧ ∀ S8 : zS, S8 = sM S 3 (((2000 : Int32) * x4) + (gM S 4 x4.toNatClampNeg)).toNatClampNeg (0 : Int32) → ∀ S9 : zS, S9 = sM S8 4 x4.toNatClampNeg ((gM S8 4 x4.toNatClampNeg) + (1 : Int32)) → l_M_write_147 a1 a2 a3 P K129 n S9 x4 x5))
set_option maxRecDepth 20000 in
set_option maxHeartbeats 4000000 in
theorem vl_M_write_147 {E : zE} {B : zK} (C : zC E (wR B) prog_12_method_45_code "HostBenchModel" 2 41) (a1 : Int32) (a2 : Int32) (a3 : Int32) (P : zS → Prop) (G : zGoal E (zQ (wR B) (zPv P)) (wR B)) (hr : zRt E (none)) (hnl : E.2.2.2.2.2.2.2.2.2.2.1 = 6) (K129 : zS → Int32 → Int32 → Prop) (hK129 : ∀ (S : zS) (x4 : Int32) (x5 : Int32), K129 S x4 x5 → zV E (wR B) S 129 [(0, .ref (ad B 0)), (1, .int a1), (2, .int a2), (3, .int a3), (4, .int x4), (5, .int x5)] []) : ∀ (n : Nat) (S : zS) (x4 : Int32) (x5 : Int32) , l_M_write_147 a1 a2 a3 P K129 n S x4 x5 → zV E (wR B) S 147 [(0, .ref (ad B 0)), (1, .int a1), (2, .int a2), (3, .int a3), (4, .int x4), (5, .int x5)] [] := by
  intro n
  induction n with
  | zero => intro S x4 x5 h; exact h.elim
  | succ n ih =>
    intro S x4 x5 h
    unfold l_M_write_147 at h
    refine z_aload_n C 0 rfl rfl d_M_write_147 ?_
    refine gf_M_size C (Or.inl tw_995) d_M_write_148 ?_
    refine z_iload C 4 rfl d_M_write_151 ?_
    obtain ⟨f1, h⟩ := h
    refine al_m_size C f1 d_M_write_153 ?_
    refine z_aload_n C 0 rfl rfl d_M_write_154 ?_
    refine gf_M_place C (Or.inl tw_1001) d_M_write_155 ?_
    refine z_iload_n C 1 rfl rfl d_M_write_158 ?_
    obtain ⟨f2, h⟩ := h
    refine al_m_place C f2 d_M_write_159 ?_
    refine z_icmp_ge (tgt := 197) C d_M_write_160 rfl (fun c => ?_) (fun c => ?_)
    · have h := h.1 c
      refine z_aload_n C 0 rfl rfl d_M_write_197 ?_
      refine gf_M_data C (Or.inl tw_994) d_M_write_198 ?_
      refine z_sipush (v := (2000 : Int32)) C rfl d_M_write_201 ?_
      refine z_iload C 4 rfl d_M_write_204 ?_
      refine z_imul C d_M_write_206 ?_
      refine z_aload_n C 0 rfl rfl d_M_write_207 ?_
      refine gf_M_place C (Or.inl tw_1001) d_M_write_208 ?_
      refine z_iload_n C 1 rfl rfl d_M_write_211 ?_
      refine al_m_place C f2 d_M_write_212 ?_
      refine z_iadd C d_M_write_213 ?_
      refine z_aload_n C 0 rfl rfl d_M_write_214 ?_
      refine gf_M_memory C (Or.inl tw_985) d_M_write_215 ?_
      refine z_iload_n C 2 rfl rfl d_M_write_218 ?_
      refine z_iload C 5 rfl d_M_write_219 ?_
      refine z_iadd C d_M_write_221 ?_
      obtain ⟨f3, h⟩ := h
      refine al_m_memory C f3 d_M_write_222 ?_
      obtain ⟨f4, h⟩ := h
      refine as_m_data C f4 d_M_write_223 ?_
      refine z_nS (fun S5 eS5 => ?_)
      have h := h S5 eS5
      refine z_aload_n C 0 rfl rfl d_M_write_224 ?_
      refine gf_M_size C (Or.inl tw_995) d_M_write_225 ?_
      refine z_iload C 4 rfl d_M_write_228 ?_
      refine al_m_size C f1 d_M_write_230 ?_
      refine z_aload_n C 0 rfl rfl d_M_write_231 ?_
      refine gf_M_place C (Or.inl tw_1001) d_M_write_232 ?_
      refine z_iload_n C 1 rfl rfl d_M_write_235 ?_
      refine al_m_place C f2 d_M_write_236 ?_
      refine z_icmp_ne (tgt := 251) C d_M_write_237 rfl (fun c => ?_) (fun c => ?_)
      · have h := h.2 c
        exact z_sub [0, 1, 2, 3, 4, 5] rfl (vj_M_write_251 C a1 a2 a3 P G hr hnl K129 hK129 S5 x4 x5 h)
      · have h := h.1 c
        refine z_aload_n C 0 rfl rfl d_M_write_240 ?_
        refine gf_M_size C (Or.inl tw_995) d_M_write_241 ?_
        refine z_iload C 4 rfl d_M_write_244 ?_
        refine z_dup2 C rfl rfl d_M_write_246 ?_
        refine al_m_size C f1 d_M_write_247 ?_
        refine z_iconst (v := (1 : Int32)) C rfl d_M_write_248 ?_
        refine z_iadd C d_M_write_249 ?_
        refine as_m_size C f1 d_M_write_250 ?_
        refine z_nS (fun S6 eS6 => ?_)
        have h := h S6 eS6
        exact z_sub [0, 1, 2, 3, 4, 5] rfl (vj_M_write_251 C a1 a2 a3 P G hr hnl K129 hK129 S6 x4 x5 h)
    · have h := h.2 c
      refine z_aload_n C 0 rfl rfl d_M_write_163 ?_
      refine gf_M_data C (Or.inl tw_994) d_M_write_164 ?_
      refine z_sipush (v := (2000 : Int32)) C rfl d_M_write_167 ?_
      refine z_iload C 4 rfl d_M_write_170 ?_
      refine z_imul C d_M_write_172 ?_
      refine z_aload_n C 0 rfl rfl d_M_write_173 ?_
      refine gf_M_size C (Or.inl tw_995) d_M_write_174 ?_
      refine z_iload C 4 rfl d_M_write_177 ?_
      refine al_m_size C f1 d_M_write_179 ?_
      refine z_iadd C d_M_write_180 ?_
      refine z_iconst (v := (0 : Int32)) C rfl d_M_write_181 ?_
      obtain ⟨f7, h⟩ := h
      refine as_m_data C f7 d_M_write_182 ?_
      refine z_nS (fun S8 eS8 => ?_)
      have h := h S8 eS8
      refine z_aload_n C 0 rfl rfl d_M_write_183 ?_
      refine gf_M_size C (Or.inl tw_995) d_M_write_184 ?_
      refine z_iload C 4 rfl d_M_write_187 ?_
      refine z_dup2 C rfl rfl d_M_write_189 ?_
      refine al_m_size C f1 d_M_write_190 ?_
      refine z_iconst (v := (1 : Int32)) C rfl d_M_write_191 ?_
      refine z_iadd C d_M_write_192 ?_
      refine as_m_size C f1 d_M_write_193 ?_
      refine z_nS (fun S9 eS9 => ?_)
      have h := h S9 eS9
      refine z_goto (tgt := 147) C d_M_write_194 rfl ?_
      exact z_sub [0, 1, 2, 3, 4, 5] rfl (ih S9 x4 x5 h)
def j_M_write_279 (a1 : Int32) (a2 : Int32) (a3 : Int32) (P : zS → Prop) (S : zS) (x5 : Int32) : Prop :=
  w_M_answer (a3 - x5) S (fun S1 => P S1)
set_option maxRecDepth 20000 in
set_option maxHeartbeats 4000000 in
theorem vj_M_write_279 {E : zE} {B : zK} (C : zC E (wR B) prog_12_method_45_code "HostBenchModel" 2 41) (a1 : Int32) (a2 : Int32) (a3 : Int32) (P : zS → Prop) (G : zGoal E (zQ (wR B) (zPv P)) (wR B)) (hr : zRt E (none)) (hnl : E.2.2.2.2.2.2.2.2.2.2.1 = 6) (S : zS) (x5 : Int32) (h : j_M_write_279 a1 a2 a3 P S x5) : zV E (wR B) S 279 [(0, .ref (ad B 0)), (3, .int a3), (5, .int x5)] [] := by
  unfold j_M_write_279 at h
  refine z_aload_n C 0 rfl rfl d_M_write_279 ?_
  refine z_iload_n C 1 rfl rfl d_M_write_280 ?_
  refine z_iload C 2 rfl d_M_write_281 ?_
  refine z_isub C d_M_write_283 ?_
  refine z_callVv (rest := []) C q_M_answer tw_1224 (c_M_answer _ B (a3 - x5) S _ h) rc_M ⟨Nat.le_of_ble_eq_true rfl, Nat.le_of_ble_eq_true rfl⟩ rfl rfl (Nat.le_of_ble_eq_true rfl) d_M_write_284 (fun S1 h => ?_)
  exact z_vreturn C G hr h d_M_write_287
def j_M_write_267 (a1 : Int32) (a2 : Int32) (a3 : Int32) (P : zS → Prop) (S : zS) (x5 : Int32) : Prop :=
  (a3 ≤ x5 → (j_M_write_279 a1 a2 a3 P S x5)) ∧ (¬ a3 ≤ x5 → (∀ S1 : zS, S1 = sM S 0 24 (28 : Int32) → j_M_write_279 a1 a2 a3 P S1 x5))
set_option maxRecDepth 20000 in
set_option maxHeartbeats 4000000 in
theorem vj_M_write_267 {E : zE} {B : zK} (C : zC E (wR B) prog_12_method_45_code "HostBenchModel" 2 41) (a1 : Int32) (a2 : Int32) (a3 : Int32) (P : zS → Prop) (G : zGoal E (zQ (wR B) (zPv P)) (wR B)) (hr : zRt E (none)) (hnl : E.2.2.2.2.2.2.2.2.2.2.1 = 6) (S : zS) (x5 : Int32) (h : j_M_write_267 a1 a2 a3 P S x5) : zV E (wR B) S 267 [(0, .ref (ad B 0)), (3, .int a3), (5, .int x5)] [] := by
  unfold j_M_write_267 at h
  refine z_iload C 2 rfl d_M_write_267 ?_
  refine z_iload_n C 1 rfl rfl d_M_write_269 ?_
  refine z_icmp_ge (tgt := 279) C d_M_write_270 rfl (fun c => ?_) (fun c => ?_)
  · have h := h.1 c
    exact z_sub [0, 1, 2] rfl (vj_M_write_279 C a1 a2 a3 P G hr hnl S x5 h)
  · have h := h.2 c
    refine z_aload_n C 0 rfl rfl d_M_write_273 ?_
    refine z_bipush (v := (28 : Int32)) C rfl d_M_write_274 ?_
    refine pf_M_errno C (Or.inl tw_1008) d_M_write_276 ?_
    refine z_nS (fun S1 eS1 => ?_)
    have h := h S1 eS1
    exact z_sub [0, 1, 2] rfl (vj_M_write_279 C a1 a2 a3 P G hr hnl S1 x5 h)
def l_M_write_129 (a1 : Int32) (a2 : Int32) (a3 : Int32) (P : zS → Prop) : Nat → zS → Int32 → Int32 → Prop
  | 0, _, _, _ => False
  | n + 1, S, x4, x5 =>
  (a3 ≤ x5 → (j_M_write_267 a1 a2 a3 P S x5)) ∧ (¬ a3 ≤ x5 → (vp_in a1 11 ∧ ((2000 : Int32) ≤ (gM S 9 a1.toNatClampNeg) → (j_M_write_267 a1 a2 a3 P S x5)) ∧ (¬ (2000 : Int32) ≤ (gM S 9 a1.toNatClampNeg) → (∃ n2 : Nat, l_M_write_147 a1 a2 a3 P (fun S x4 x5 => l_M_write_129 a1 a2 a3 P n S x4 x5) n2 S x4 x5))))
set_option maxRecDepth 20000 in
set_option maxHeartbeats 4000000 in
theorem vl_M_write_129 {E : zE} {B : zK} (C : zC E (wR B) prog_12_method_45_code "HostBenchModel" 2 41) (a1 : Int32) (a2 : Int32) (a3 : Int32) (P : zS → Prop) (G : zGoal E (zQ (wR B) (zPv P)) (wR B)) (hr : zRt E (none)) (hnl : E.2.2.2.2.2.2.2.2.2.2.1 = 6) : ∀ (n : Nat) (S : zS) (x4 : Int32) (x5 : Int32) , l_M_write_129 a1 a2 a3 P n S x4 x5 → zV E (wR B) S 129 [(0, .ref (ad B 0)), (1, .int a1), (2, .int a2), (3, .int a3), (4, .int x4), (5, .int x5)] [] := by
  intro n
  induction n with
  | zero => intro S x4 x5 h; exact h.elim
  | succ n ih =>
    intro S x4 x5 h
    unfold l_M_write_129 at h
    refine z_iload C 5 rfl d_M_write_129 ?_
    refine z_iload_n C 3 rfl rfl d_M_write_131 ?_
    refine z_icmp_ge (tgt := 267) C d_M_write_132 rfl (fun c => ?_) (fun c => ?_)
    · have h := h.1 c
      exact z_sub [0, 3, 5] rfl (vj_M_write_267 C a1 a2 a3 P G hr hnl S x5 h)
    · have h := h.2 c
      refine z_aload_n C 0 rfl rfl d_M_write_135 ?_
      refine gf_M_place C (Or.inl tw_1001) d_M_write_136 ?_
      refine z_iload_n C 1 rfl rfl d_M_write_139 ?_
      obtain ⟨f1, h⟩ := h
      refine al_m_place C f1 d_M_write_140 ?_
      refine z_sipush (v := (2000 : Int32)) C rfl d_M_write_141 ?_
      refine z_icmp_ge (tgt := 267) C d_M_write_144 rfl (fun c => ?_) (fun c => ?_)
      · have h := h.1 c
        exact z_sub [0, 3, 5] rfl (vj_M_write_267 C a1 a2 a3 P G hr hnl S x5 h)
      · have h := h.2 c
        obtain ⟨n2, h⟩ := h
        exact z_sub [0, 1, 2, 3, 4, 5] rfl (vl_M_write_147 C a1 a2 a3 P G hr hnl (fun S x4 x5 => l_M_write_129 a1 a2 a3 P n S x4 x5) ih n2 S x4 x5 h)
def j_M_write_126 (a1 : Int32) (a2 : Int32) (a3 : Int32) (P : zS → Prop) (S : zS) (x4 : Int32) : Prop :=
  ∃ n1 : Nat, l_M_write_129 a1 a2 a3 P n1 S x4 (0 : Int32)
set_option maxRecDepth 20000 in
set_option maxHeartbeats 4000000 in
theorem vj_M_write_126 {E : zE} {B : zK} (C : zC E (wR B) prog_12_method_45_code "HostBenchModel" 2 41) (a1 : Int32) (a2 : Int32) (a3 : Int32) (P : zS → Prop) (G : zGoal E (zQ (wR B) (zPv P)) (wR B)) (hr : zRt E (none)) (hnl : E.2.2.2.2.2.2.2.2.2.2.1 = 6) (S : zS) (x4 : Int32) (h : j_M_write_126 a1 a2 a3 P S x4) : zV E (wR B) S 126 [(0, .ref (ad B 0)), (1, .int a1), (2, .int a2), (3, .int a3), (4, .int x4)] [] := by
  unfold j_M_write_126 at h
  refine z_iconst (v := (0 : Int32)) C rfl d_M_write_126 ?_
  refine z_istore (L' := [(5, .int (0 : Int32)), (0, .ref (ad B 0)), (1, .int a1), (2, .int a2), (3, .int a3), (4, .int x4)]) C hnl (by decide) rfl d_M_write_127 ?_
  obtain ⟨n1, h⟩ := h
  exact z_sub [1, 2, 3, 4, 5, 0] rfl (vl_M_write_129 C a1 a2 a3 P G hr hnl n1 S x4 (0 : Int32) h)
def w_M_write (a1 : Int32) (a2 : Int32) (a3 : Int32) (S : zS) (P : zS → Prop) : Prop :=
  w_M_isOpen a1 S (fun S1 r2 => (r2 = 0 → (j_M_write_19 a1 a2 a3 P S1)) ∧ (¬ r2 = 0 → (vp_in a1 11 ∧ (((gM S1 10 a1.toNatClampNeg) &&& (2 : Int32)) = 0 → (j_M_write_19 a1 a2 a3 P S1)) ∧ (¬ ((gM S1 10 a1.toNatClampNeg) &&& (2 : Int32)) = 0 → (w_M_isArea a2 a3 S1 (fun S4 r5 => (r5 = 0 → (w_M_failsWith (14 : Int32) a3 S4 (fun S10 => P S10))) ∧ (¬ r5 = 0 → (((gM S4 7 a1.toNatClampNeg) ≤ (1 : Int32) → (∀ v6 : Int32, v6 = (gM S4 8 a1.toNatClampNeg) → ((gM S4 10 a1.toNatClampNeg) < (4 : Int32) → (j_M_write_126 a1 a2 a3 P S4 v6)) ∧ (¬ (gM S4 10 a1.toNatClampNeg) < (4 : Int32) → (vp_in v6 12 ∧ ∀ S8 : zS, S8 = sM S4 9 a1.toNatClampNeg (gM S4 4 v6.toNatClampNeg) → j_M_write_126 a1 a2 a3 P S8 v6)))) ∧ (¬ (gM S4 7 a1.toNatClampNeg) ≤ (1 : Int32) → (∃ n9 : Nat, l_M_write_56 a1 a2 a3 P n9 S4 (0 : Int32)))))))))))
set_option maxRecDepth 20000 in
set_option maxHeartbeats 4000000 in
theorem v_M_write {E : zE} {B : zK} (C : zC E (wR B) prog_12_method_45_code "HostBenchModel" 2 41) (a1 : Int32) (a2 : Int32) (a3 : Int32) (P : zS → Prop) (G : zGoal E (zQ (wR B) (zPv P)) (wR B)) (hr : zRt E (none)) (hnl : E.2.2.2.2.2.2.2.2.2.2.1 = 6) (S : zS) (h : w_M_write a1 a2 a3 S P) : zV E (wR B) S 0 [(0, .ref (ad B 0)), (1, .int a1), (2, .int a2), (3, .int a3)] [] := by
  unfold w_M_write at h
  refine z_aload_n C 0 rfl rfl d_M_write_0 ?_
  refine z_iload_n C 1 rfl rfl d_M_write_1 ?_
  refine z_callVi (rest := []) C q_M_isOpen tw_1232 (c_M_isOpen _ B a1 S _ h) rc_M ⟨Nat.le_of_ble_eq_true rfl, Nat.le_of_ble_eq_true rfl⟩ rfl rfl (Nat.le_of_ble_eq_true rfl) d_M_write_2 (fun S1 r2 h => ?_)
  refine z_if_eq (tgt := 19) C d_M_write_5 rfl (fun c => ?_) (fun c => ?_)
  · have h := h.1 c
    exact z_sub [0, 3] rfl (vj_M_write_19 C a1 a2 a3 P G hr hnl S1 h)
  · have h := h.2 c
    refine z_aload_n C 0 rfl rfl d_M_write_8 ?_
    refine gf_M_may C (Or.inl tw_1002) d_M_write_9 ?_
    refine z_iload_n C 1 rfl rfl d_M_write_12 ?_
    obtain ⟨f3, h⟩ := h
    refine al_m_may C f3 d_M_write_13 ?_
    refine z_iconst (v := (2 : Int32)) C rfl d_M_write_14 ?_
    refine z_iand C d_M_write_15 ?_
    refine z_if_ne (tgt := 27) C d_M_write_16 rfl (fun c => ?_) (fun c => ?_)
    · have h := h.2 c
      refine z_iload_n C 2 rfl rfl d_M_write_27 ?_
      refine z_iload_n C 3 rfl rfl d_M_write_28 ?_
      refine z_callSi (rest := []) C q_M_isArea rfl tw_1139 (c_M_isArea _ B a2 a3 S1 _ h) ⟨Nat.le_of_ble_eq_true rfl, Nat.le_of_ble_eq_true rfl⟩ rfl rfl (Nat.le_of_ble_eq_true rfl) d_M_write_29 (fun S4 r5 h => ?_)
      refine z_if_ne (tgt := 43) C d_M_write_32 rfl (fun c => ?_) (fun c => ?_)
      · have h := h.2 c
        refine z_aload_n C 0 rfl rfl d_M_write_43 ?_
        refine gf_M_kind C (Or.inl tw_999) d_M_write_44 ?_
        refine z_iload_n C 1 rfl rfl d_M_write_47 ?_
        refine al_m_kind C f3 d_M_write_48 ?_
        refine z_iconst (v := (1 : Int32)) C rfl d_M_write_49 ?_
        refine z_icmp_le (tgt := 95) C d_M_write_50 rfl (fun c => ?_) (fun c => ?_)
        · have h := h.1 c
          refine z_aload_n C 0 rfl rfl d_M_write_95 ?_
          refine gf_M_its C (Or.inl tw_1000) d_M_write_96 ?_
          refine z_iload_n C 1 rfl rfl d_M_write_99 ?_
          refine al_m_its C f3 d_M_write_100 ?_
          refine z_topi (fun v6 ev6 => ?_)
          have h := h v6 ev6
          refine z_istore (L' := [(4, .int v6), (0, .ref (ad B 0)), (1, .int a1), (2, .int a2), (3, .int a3)]) C hnl (by decide) rfl d_M_write_101 ?_
          refine z_aload_n C 1 rfl rfl d_M_write_103 ?_
          refine gf_M_may C (Or.inl tw_1002) d_M_write_104 ?_
          refine z_iload_n C 2 rfl rfl d_M_write_107 ?_
          refine al_m_may C f3 d_M_write_108 ?_
          refine z_iconst (v := (4 : Int32)) C rfl d_M_write_109 ?_
          refine z_icmp_lt (tgt := 126) C d_M_write_110 rfl (fun c => ?_) (fun c => ?_)
          · have h := h.1 c
            exact z_sub [1, 2, 3, 4, 0] rfl (vj_M_write_126 C a1 a2 a3 P G hr hnl S4 v6 h)
          · have h := h.2 c
            refine z_aload_n C 1 rfl rfl d_M_write_113 ?_
            refine gf_M_place C (Or.inl tw_1001) d_M_write_114 ?_
            refine z_iload_n C 2 rfl rfl d_M_write_117 ?_
            refine z_aload_n C 1 rfl rfl d_M_write_118 ?_
            refine gf_M_size C (Or.inl tw_995) d_M_write_119 ?_
            refine z_iload C 0 rfl d_M_write_122 ?_
            obtain ⟨f7, h⟩ := h
            refine al_m_size C f7 d_M_write_124 ?_
            refine as_m_place C f3 d_M_write_125 ?_
            refine z_nS (fun S8 eS8 => ?_)
            have h := h S8 eS8
            exact z_sub [1, 2, 3, 4, 0] rfl (vj_M_write_126 C a1 a2 a3 P G hr hnl S8 v6 h)
        · have h := h.2 c
          refine z_iconst (v := (0 : Int32)) C rfl d_M_write_53 ?_
          refine z_istore (L' := [(4, .int (0 : Int32)), (0, .ref (ad B 0)), (1, .int a1), (2, .int a2), (3, .int a3)]) C hnl (by decide) rfl d_M_write_54 ?_
          obtain ⟨n9, h⟩ := h
          exact z_sub [1, 2, 3, 4, 0] rfl (vl_M_write_56 C a1 a2 a3 P G hr hnl n9 S4 (0 : Int32) h)
      · have h := h.1 c
        refine z_aload_n C 0 rfl rfl d_M_write_35 ?_
        refine z_bipush (v := (14 : Int32)) C rfl d_M_write_36 ?_
        refine z_iload_n C 3 rfl rfl d_M_write_38 ?_
        refine z_callVv (rest := []) C q_M_failsWith tw_1248 (c_M_failsWith _ B (14 : Int32) a3 S4 _ h) rc_M ⟨Nat.le_of_ble_eq_true rfl, Nat.le_of_ble_eq_true rfl⟩ rfl rfl (Nat.le_of_ble_eq_true rfl) d_M_write_39 (fun S10 h => ?_)
        exact z_vreturn C G hr h d_M_write_42
    · have h := h.1 c
      exact z_sub [0, 3] rfl (vj_M_write_19 C a1 a2 a3 P G hr hnl S1 h)
theorem c_M_write (l : Launch) (B : zK) (a1 : Int32) (a2 : Int32) (a3 : Int32) (S : zS) (P : zS → Prop) (h : w_M_write a1 a2 a3 S P) : Met l y_M_write (Cond.code y_M_write prog_12_method_45_code 6 none :: tT) (zRm 2 41) (zPc (wR B) [.ref (ad B 0), .int a1, .int a2, .int a3] S) (zQ (wR B) (zPv P)) 0 0 (wR B).2.2.2 :=
  z_met (by decide) (Nat.le_of_ble_eq_true rfl) (fun E C G hr _ hnl => v_M_write C a1 a2 a3 P G hr hnl S h)
theorem q_M_write : zQw y_M_write prog_12_method_45_code 6 none 3 := ⟨tw_1246, tw_63, tw_87, tw_1247, by decide +kernel⟩
def l_M_takeIn_19 (P : zS → Int32 → Prop) : Nat → zS → Int32 → Int32 → Prop
  | 0, _, _, _ => False
  | n + 1, S, x1, x2 =>
  ((gM S 0 20) ≤ x2 → (P S x1)) ∧ (¬ (gM S 0 20) ≤ x2 → (vp_in (x2 + (1 : Int32)) 400 ∧ vp_in x2 400 ∧ ∀ S3 : zS, S3 = sM S 11 x2.toNatClampNeg (gM S 11 (x2 + (1 : Int32)).toNatClampNeg) → l_M_takeIn_19 P n S3 x1 (x2 + (1 : Int32))))
set_option maxRecDepth 20000 in
set_option maxHeartbeats 4000000 in
theorem vl_M_takeIn_19 {E : zE} {B : zK} (C : zC E (wR B) prog_12_method_46_code "HostBenchModel" 0 0) (P : zS → Int32 → Prop) (G : zGoal E (zQ (wR B) (zPi P)) (wR B)) (hr : zRt E (some .int)) (hnl : E.2.2.2.2.2.2.2.2.2.2.1 = 3) : ∀ (n : Nat) (S : zS) (x1 : Int32) (x2 : Int32) , l_M_takeIn_19 P n S x1 x2 → zV E (wR B) S 19 [(0, .ref (ad B 0)), (1, .int x1), (2, .int x2)] [] := by
  intro n
  induction n with
  | zero => intro S x1 x2 h; exact h.elim
  | succ n ih =>
    intro S x1 x2 h
    unfold l_M_takeIn_19 at h
    refine z_iload_n C 2 rfl rfl d_M_takeIn_19 ?_
    refine z_aload_n C 0 rfl rfl d_M_takeIn_20 ?_
    refine gf_M_waiting C (Or.inl tw_1004) d_M_takeIn_21 ?_
    refine z_icmp_ge (tgt := 47) C d_M_takeIn_24 rfl (fun c => ?_) (fun c => ?_)
    · have h := h.1 c
      refine z_iload_n C 1 rfl rfl d_M_takeIn_47 ?_
      exact z_ireturn C G hr h d_M_takeIn_48
    · have h := h.2 c
      refine z_aload_n C 0 rfl rfl d_M_takeIn_27 ?_
      refine gf_M_in C (Or.inl tw_1003) d_M_takeIn_28 ?_
      refine z_iload_n C 2 rfl rfl d_M_takeIn_31 ?_
      refine z_aload_n C 0 rfl rfl d_M_takeIn_32 ?_
      refine gf_M_in C (Or.inl tw_1003) d_M_takeIn_33 ?_
      refine z_iload_n C 2 rfl rfl d_M_takeIn_36 ?_
      refine z_iconst (v := (1 : Int32)) C rfl d_M_takeIn_37 ?_
      refine z_iadd C d_M_takeIn_38 ?_
      obtain ⟨f1, h⟩ := h
      refine al_m_in C f1 d_M_takeIn_39 ?_
      obtain ⟨f2, h⟩ := h
      refine as_m_in C f2 d_M_takeIn_40 ?_
      refine z_nS (fun S3 eS3 => ?_)
      have h := h S3 eS3
      refine z_iinc (v := x2 + (1 : Int32)) (L' := [(2, .int (x2 + (1 : Int32))), (0, .ref (ad B 0)), (1, .int x1)]) C hnl 2 rfl rfl (by decide) rfl d_M_takeIn_41 ?_
      refine z_goto (tgt := 19) C d_M_takeIn_44 rfl ?_
      exact z_sub [1, 2, 0] rfl (ih S3 x1 (x2 + (1 : Int32)) h)
def w_M_takeIn (S : zS) (P : zS → Int32 → Prop) : Prop :=
  vp_in (0 : Int32) 400 ∧ ∀ v2 : Int32, v2 = (gM S 11 (0 : Int32).toNatClampNeg) → ∀ S3 : zS, S3 = sM S 0 20 ((gM S 0 20) - (1 : Int32)) → ∃ n4 : Nat, l_M_takeIn_19 P n4 S3 v2 (0 : Int32)
set_option maxRecDepth 20000 in
set_option maxHeartbeats 4000000 in
theorem v_M_takeIn {E : zE} {B : zK} (C : zC E (wR B) prog_12_method_46_code "HostBenchModel" 0 0) (P : zS → Int32 → Prop) (G : zGoal E (zQ (wR B) (zPi P)) (wR B)) (hr : zRt E (some .int)) (hnl : E.2.2.2.2.2.2.2.2.2.2.1 = 3) (S : zS) (h : w_M_takeIn S P) : zV E (wR B) S 0 [(0, .ref (ad B 0))] [] := by
  unfold w_M_takeIn at h
  refine z_aload_n C 0 rfl rfl d_M_takeIn_0 ?_
  refine gf_M_in C (Or.inl tw_1003) d_M_takeIn_1 ?_
  refine z_iconst (v := (0 : Int32)) C rfl d_M_takeIn_4 ?_
  obtain ⟨f1, h⟩ := h
  refine al_m_in C f1 d_M_takeIn_5 ?_
  refine z_topi (fun v2 ev2 => ?_)
  have h := h v2 ev2
  refine z_istore_n (L' := [(1, .int v2), (0, .ref (ad B 0))]) C hnl rfl (by decide) rfl d_M_takeIn_6 ?_
  refine z_aload_n C 1 rfl rfl d_M_takeIn_7 ?_
  refine z_dup C rfl d_M_takeIn_8 ?_
  refine gf_M_waiting C (Or.inl tw_1004) d_M_takeIn_9 ?_
  refine z_iconst (v := (1 : Int32)) C rfl d_M_takeIn_12 ?_
  refine z_isub C d_M_takeIn_13 ?_
  refine pf_M_waiting C (Or.inl tw_1004) d_M_takeIn_14 ?_
  refine z_nS (fun S3 eS3 => ?_)
  have h := h S3 eS3
  refine z_iconst (v := (0 : Int32)) C rfl d_M_takeIn_17 ?_
  refine z_istore_n (L' := [(2, .int (0 : Int32)), (1, .int v2), (0, .ref (ad B 0))]) C hnl rfl (by decide) rfl d_M_takeIn_18 ?_
  obtain ⟨n4, h⟩ := h
  exact z_sub [2, 1, 0] rfl (vl_M_takeIn_19 C P G hr hnl n4 S3 v2 (0 : Int32) h)
theorem c_M_takeIn (l : Launch) (B : zK) (S : zS) (P : zS → Int32 → Prop) (h : w_M_takeIn S P) : Met l y_M_takeIn (Cond.code y_M_takeIn prog_12_method_46_code 3 (some FieldType.int) :: tT) (zRm 0 0) (zPc (wR B) [.ref (ad B 0)] S) (zQ (wR B) (zPi P)) 0 0 (wR B).2.2.2 :=
  z_met (by decide) (Nat.le_of_ble_eq_true rfl) (fun E C G hr _ hnl => v_M_takeIn C P G hr hnl S h)
theorem q_M_takeIn : zQw y_M_takeIn prog_12_method_46_code 3 (some FieldType.int) 0 := ⟨tw_1258, tw_66, tw_87, tw_1259, by decide +kernel⟩
def j_M_read_19 (a1 : Int32) (a2 : Int32) (a3 : Int32) (P : zS → Prop) (S : zS) : Prop :=
  w_M_failsWith (9 : Int32) a3 S (fun S1 => P S1)
set_option maxRecDepth 20000 in
set_option maxHeartbeats 4000000 in
theorem vj_M_read_19 {E : zE} {B : zK} (C : zC E (wR B) prog_12_method_47_code "HostBenchModel" 2 41) (a1 : Int32) (a2 : Int32) (a3 : Int32) (P : zS → Prop) (G : zGoal E (zQ (wR B) (zPv P)) (wR B)) (hr : zRt E (none)) (hnl : E.2.2.2.2.2.2.2.2.2.2.1 = 6) (S : zS) (h : j_M_read_19 a1 a2 a3 P S) : zV E (wR B) S 19 [(0, .ref (ad B 0)), (3, .int a3)] [] := by
  unfold j_M_read_19 at h
  refine z_aload_n C 0 rfl rfl d_M_read_19 ?_
  refine z_bipush (v := (9 : Int32)) C rfl d_M_read_20 ?_
  refine z_iload_n C 1 rfl rfl d_M_read_22 ?_
  refine z_callVv (rest := []) C q_M_failsWith tw_1248 (c_M_failsWith _ B (9 : Int32) a3 S _ h) rc_M ⟨Nat.le_of_ble_eq_true rfl, Nat.le_of_ble_eq_true rfl⟩ rfl rfl (Nat.le_of_ble_eq_true rfl) d_M_read_23 (fun S1 h => ?_)
  exact z_vreturn C G hr h d_M_read_26
def j_M_read_161 (a1 : Int32) (a2 : Int32) (a3 : Int32) (P : zS → Prop) (S : zS) (x4 : Int32) : Prop :=
  w_M_answer (a3 - x4) S (fun S1 => P S1)
set_option maxRecDepth 20000 in
set_option maxHeartbeats 4000000 in
theorem vj_M_read_161 {E : zE} {B : zK} (C : zC E (wR B) prog_12_method_47_code "HostBenchModel" 2 41) (a1 : Int32) (a2 : Int32) (a3 : Int32) (P : zS → Prop) (G : zGoal E (zQ (wR B) (zPv P)) (wR B)) (hr : zRt E (none)) (hnl : E.2.2.2.2.2.2.2.2.2.2.1 = 6) (S : zS) (x4 : Int32) (h : j_M_read_161 a1 a2 a3 P S x4) : zV E (wR B) S 161 [(0, .ref (ad B 0)), (3, .int a3), (4, .int x4)] [] := by
  unfold j_M_read_161 at h
  refine z_aload_n C 0 rfl rfl d_M_read_161 ?_
  refine z_iload_n C 1 rfl rfl d_M_read_162 ?_
  refine z_iload C 2 rfl d_M_read_163 ?_
  refine z_isub C d_M_read_165 ?_
  refine z_callVv (rest := []) C q_M_answer tw_1224 (c_M_answer _ B (a3 - x4) S _ h) rc_M ⟨Nat.le_of_ble_eq_true rfl, Nat.le_of_ble_eq_true rfl⟩ rfl rfl (Nat.le_of_ble_eq_true rfl) d_M_read_166 (fun S1 h => ?_)
  exact z_vreturn C G hr h d_M_read_169
def l_M_read_56 (a1 : Int32) (a2 : Int32) (a3 : Int32) (P : zS → Prop) : Nat → zS → Int32 → Prop
  | 0, _, _ => False
  | n + 1, S, x4 =>
  (a3 ≤ x4 → (j_M_read_161 a1 a2 a3 P S x4)) ∧ (¬ a3 ≤ x4 → (((gM S 0 20) ≤ 0 → (j_M_read_161 a1 a2 a3 P S x4)) ∧ (¬ (gM S 0 20) ≤ 0 → (w_M_takeIn S (fun S1 r2 => vp_in (a2 + x4) 16384 ∧ ∀ S4 : zS, S4 = sM S1 1 (a2 + x4).toNatClampNeg r2 → l_M_read_56 a1 a2 a3 P n S4 (x4 + (1 : Int32)))))))
set_option maxRecDepth 20000 in
set_option maxHeartbeats 4000000 in
theorem vl_M_read_56 {E : zE} {B : zK} (C : zC E (wR B) prog_12_method_47_code "HostBenchModel" 2 41) (a1 : Int32) (a2 : Int32) (a3 : Int32) (P : zS → Prop) (G : zGoal E (zQ (wR B) (zPv P)) (wR B)) (hr : zRt E (none)) (hnl : E.2.2.2.2.2.2.2.2.2.2.1 = 6) : ∀ (n : Nat) (S : zS) (x4 : Int32) , l_M_read_56 a1 a2 a3 P n S x4 → zV E (wR B) S 56 [(0, .ref (ad B 0)), (2, .int a2), (3, .int a3), (4, .int x4)] [] := by
  intro n
  induction n with
  | zero => intro S x4 h; exact h.elim
  | succ n ih =>
    intro S x4 h
    unfold l_M_read_56 at h
    refine z_iload C 3 rfl d_M_read_56 ?_
    refine z_iload_n C 2 rfl rfl d_M_read_58 ?_
    refine z_icmp_ge (tgt := 161) C d_M_read_59 rfl (fun c => ?_) (fun c => ?_)
    · have h := h.1 c
      exact z_sub [0, 2, 3] rfl (vj_M_read_161 C a1 a2 a3 P G hr hnl S x4 h)
    · have h := h.2 c
      refine z_aload_n C 0 rfl rfl d_M_read_62 ?_
      refine gf_M_waiting C (Or.inl tw_1004) d_M_read_63 ?_
      refine z_if_le (tgt := 161) C d_M_read_66 rfl (fun c => ?_) (fun c => ?_)
      · have h := h.1 c
        exact z_sub [0, 2, 3] rfl (vj_M_read_161 C a1 a2 a3 P G hr hnl S x4 h)
      · have h := h.2 c
        refine z_aload_n C 0 rfl rfl d_M_read_69 ?_
        refine gf_M_memory C (Or.inl tw_985) d_M_read_70 ?_
        refine z_iload_n C 1 rfl rfl d_M_read_73 ?_
        refine z_iload C 3 rfl d_M_read_74 ?_
        refine z_iadd C d_M_read_76 ?_
        refine z_aload_n C 0 rfl rfl d_M_read_77 ?_
        refine z_callVi (rest := [.int (a2 + x4), .ref (ad B 1)]) C q_M_takeIn tw_1256 (c_M_takeIn _ B S _ h) rc_M ⟨Nat.le_of_ble_eq_true rfl, Nat.le_of_ble_eq_true rfl⟩ rfl rfl (Nat.le_of_ble_eq_true rfl) d_M_read_78 (fun S1 r2 h => ?_)
        obtain ⟨f3, h⟩ := h
        refine as_m_memory C f3 d_M_read_81 ?_
        refine z_nS (fun S4 eS4 => ?_)
        have h := h S4 eS4
        refine z_iinc (v := x4 + (1 : Int32)) (L' := [(4, .int (x4 + (1 : Int32))), (0, .ref (ad B 0)), (2, .int a2), (3, .int a3)]) C hnl 3 rfl rfl (by decide) rfl d_M_read_82 ?_
        refine z_goto (tgt := 56) C d_M_read_85 rfl ?_
        exact z_sub [1, 2, 3, 0] rfl (ih S4 (x4 + (1 : Int32)) h)
def l_M_read_96 (a1 : Int32) (a2 : Int32) (a3 : Int32) (P : zS → Prop) : Nat → zS → Int32 → Int32 → Prop
  | 0, _, _, _ => False
  | n + 1, S, x4, x5 =>
  (a3 ≤ x4 → (j_M_read_161 a1 a2 a3 P S x4)) ∧ (¬ a3 ≤ x4 → (vp_in a1 11 ∧ vp_in x5 12 ∧ ((gM S 4 x5.toNatClampNeg) ≤ (gM S 9 a1.toNatClampNeg) → (j_M_read_161 a1 a2 a3 P S x4)) ∧ (¬ (gM S 4 x5.toNatClampNeg) ≤ (gM S 9 a1.toNatClampNeg) → (vp_in (((2000 : Int32) * x5) + (gM S 9 a1.toNatClampNeg)) 24000 ∧ vp_in (a2 + x4) 16384 ∧ ∀ S5 : zS, S5 = sM S 1 (a2 + x4).toNatClampNeg (gM S 3 (((2000 : Int32) * x5) + (gM S 9 a1.toNatClampNeg)).toNatClampNeg) → ∀ S6 : zS, S6 = sM S5 9 a1.toNatClampNeg ((gM S5 9 a1.toNatClampNeg) + (1 : Int32)) → l_M_read_96 a1 a2 a3 P n S6 (x4 + (1 : Int32)) x5))))
set_option maxRecDepth 20000 in
set_option maxHeartbeats 4000000 in
theorem vl_M_read_96 {E : zE} {B : zK} (C : zC E (wR B) prog_12_method_47_code "HostBenchModel" 2 41) (a1 : Int32) (a2 : Int32) (a3 : Int32) (P : zS → Prop) (G : zGoal E (zQ (wR B) (zPv P)) (wR B)) (hr : zRt E (none)) (hnl : E.2.2.2.2.2.2.2.2.2.2.1 = 6) : ∀ (n : Nat) (S : zS) (x4 : Int32) (x5 : Int32) , l_M_read_96 a1 a2 a3 P n S x4 x5 → zV E (wR B) S 96 [(0, .ref (ad B 0)), (1, .int a1), (2, .int a2), (3, .int a3), (4, .int x4), (5, .int x5)] [] := by
  intro n
  induction n with
  | zero => intro S x4 x5 h; exact h.elim
  | succ n ih =>
    intro S x4 x5 h
    unfold l_M_read_96 at h
    refine z_iload C 4 rfl d_M_read_96 ?_
    refine z_iload_n C 3 rfl rfl d_M_read_98 ?_
    refine z_icmp_ge (tgt := 161) C d_M_read_99 rfl (fun c => ?_) (fun c => ?_)
    · have h := h.1 c
      exact z_sub [0, 3, 4] rfl (vj_M_read_161 C a1 a2 a3 P G hr hnl S x4 h)
    · have h := h.2 c
      refine z_aload_n C 0 rfl rfl d_M_read_102 ?_
      refine gf_M_place C (Or.inl tw_1001) d_M_read_103 ?_
      refine z_iload_n C 1 rfl rfl d_M_read_106 ?_
      obtain ⟨f1, h⟩ := h
      refine al_m_place C f1 d_M_read_107 ?_
      refine z_aload_n C 0 rfl rfl d_M_read_108 ?_
      refine gf_M_size C (Or.inl tw_995) d_M_read_109 ?_
      refine z_iload C 5 rfl d_M_read_112 ?_
      obtain ⟨f2, h⟩ := h
      refine al_m_size C f2 d_M_read_114 ?_
      refine z_icmp_ge (tgt := 161) C d_M_read_115 rfl (fun c => ?_) (fun c => ?_)
      · have h := h.1 c
        exact z_sub [0, 3, 4] rfl (vj_M_read_161 C a1 a2 a3 P G hr hnl S x4 h)
      · have h := h.2 c
        refine z_aload_n C 0 rfl rfl d_M_read_118 ?_
        refine gf_M_memory C (Or.inl tw_985) d_M_read_119 ?_
        refine z_iload_n C 2 rfl rfl d_M_read_122 ?_
        refine z_iload C 4 rfl d_M_read_123 ?_
        refine z_iadd C d_M_read_125 ?_
        refine z_aload_n C 0 rfl rfl d_M_read_126 ?_
        refine gf_M_data C (Or.inl tw_994) d_M_read_127 ?_
        refine z_sipush (v := (2000 : Int32)) C rfl d_M_read_130 ?_
        refine z_iload C 5 rfl d_M_read_133 ?_
        refine z_imul C d_M_read_135 ?_
        refine z_aload_n C 0 rfl rfl d_M_read_136 ?_
        refine gf_M_place C (Or.inl tw_1001) d_M_read_137 ?_
        refine z_iload_n C 1 rfl rfl d_M_read_140 ?_
        refine al_m_place C f1 d_M_read_141 ?_
        refine z_iadd C d_M_read_142 ?_
        obtain ⟨f3, h⟩ := h
        refine al_m_data C f3 d_M_read_143 ?_
        obtain ⟨f4, h⟩ := h
        refine as_m_memory C f4 d_M_read_144 ?_
        refine z_nS (fun S5 eS5 => ?_)
        have h := h S5 eS5
        refine z_aload_n C 0 rfl rfl d_M_read_145 ?_
        refine gf_M_place C (Or.inl tw_1001) d_M_read_146 ?_
        refine z_iload_n C 1 rfl rfl d_M_read_149 ?_
        refine z_dup2 C rfl rfl d_M_read_150 ?_
        refine al_m_place C f1 d_M_read_151 ?_
        refine z_iconst (v := (1 : Int32)) C rfl d_M_read_152 ?_
        refine z_iadd C d_M_read_153 ?_
        refine as_m_place C f1 d_M_read_154 ?_
        refine z_nS (fun S6 eS6 => ?_)
        have h := h S6 eS6
        refine z_iinc (v := x4 + (1 : Int32)) (L' := [(4, .int (x4 + (1 : Int32))), (0, .ref (ad B 0)), (1, .int a1), (2, .int a2), (3, .int a3), (5, .int x5)]) C hnl 4 rfl rfl (by decide) rfl d_M_read_155 ?_
        refine z_goto (tgt := 96) C d_M_read_158 rfl ?_
        exact z_sub [1, 2, 3, 4, 0, 5] rfl (ih S6 (x4 + (1 : Int32)) x5 h)
def w_M_read (a1 : Int32) (a2 : Int32) (a3 : Int32) (S : zS) (P : zS → Prop) : Prop :=
  w_M_isOpen a1 S (fun S1 r2 => (r2 = 0 → (j_M_read_19 a1 a2 a3 P S1)) ∧ (¬ r2 = 0 → (vp_in a1 11 ∧ (((gM S1 10 a1.toNatClampNeg) &&& (1 : Int32)) = 0 → (j_M_read_19 a1 a2 a3 P S1)) ∧ (¬ ((gM S1 10 a1.toNatClampNeg) &&& (1 : Int32)) = 0 → (w_M_isArea a2 a3 S1 (fun S4 r5 => (r5 = 0 → (w_M_failsWith (14 : Int32) a3 S4 (fun S9 => P S9))) ∧ (¬ r5 = 0 → (((gM S4 7 a1.toNatClampNeg) ≤ (1 : Int32) → (∀ v6 : Int32, v6 = (gM S4 8 a1.toNatClampNeg) → ∃ n7 : Nat, l_M_read_96 a1 a2 a3 P n7 S4 (0 : Int32) v6)) ∧ (¬ (gM S4 7 a1.toNatClampNeg) ≤ (1 : Int32) → (∃ n8 : Nat, l_M_read_56 a1 a2 a3 P n8 S4 (0 : Int32)))))))))))
set_option maxRecDepth 20000 in
set_option maxHeartbeats 4000000 in
theorem v_M_read {E : zE} {B : zK} (C : zC E (wR B) prog_12_method_47_code "HostBenchModel" 2 41) (a1 : Int32) (a2 : Int32) (a3 : Int32) (P : zS → Prop) (G : zGoal E (zQ (wR B) (zPv P)) (wR B)) (hr : zRt E (none)) (hnl : E.2.2.2.2.2.2.2.2.2.2.1 = 6) (S : zS) (h : w_M_read a1 a2 a3 S P) : zV E (wR B) S 0 [(0, .ref (ad B 0)), (1, .int a1), (2, .int a2), (3, .int a3)] [] := by
  unfold w_M_read at h
  refine z_aload_n C 0 rfl rfl d_M_read_0 ?_
  refine z_iload_n C 1 rfl rfl d_M_read_1 ?_
  refine z_callVi (rest := []) C q_M_isOpen tw_1232 (c_M_isOpen _ B a1 S _ h) rc_M ⟨Nat.le_of_ble_eq_true rfl, Nat.le_of_ble_eq_true rfl⟩ rfl rfl (Nat.le_of_ble_eq_true rfl) d_M_read_2 (fun S1 r2 h => ?_)
  refine z_if_eq (tgt := 19) C d_M_read_5 rfl (fun c => ?_) (fun c => ?_)
  · have h := h.1 c
    exact z_sub [0, 3] rfl (vj_M_read_19 C a1 a2 a3 P G hr hnl S1 h)
  · have h := h.2 c
    refine z_aload_n C 0 rfl rfl d_M_read_8 ?_
    refine gf_M_may C (Or.inl tw_1002) d_M_read_9 ?_
    refine z_iload_n C 1 rfl rfl d_M_read_12 ?_
    obtain ⟨f3, h⟩ := h
    refine al_m_may C f3 d_M_read_13 ?_
    refine z_iconst (v := (1 : Int32)) C rfl d_M_read_14 ?_
    refine z_iand C d_M_read_15 ?_
    refine z_if_ne (tgt := 27) C d_M_read_16 rfl (fun c => ?_) (fun c => ?_)
    · have h := h.2 c
      refine z_iload_n C 2 rfl rfl d_M_read_27 ?_
      refine z_iload_n C 3 rfl rfl d_M_read_28 ?_
      refine z_callSi (rest := []) C q_M_isArea rfl tw_1139 (c_M_isArea _ B a2 a3 S1 _ h) ⟨Nat.le_of_ble_eq_true rfl, Nat.le_of_ble_eq_true rfl⟩ rfl rfl (Nat.le_of_ble_eq_true rfl) d_M_read_29 (fun S4 r5 h => ?_)
      refine z_if_ne (tgt := 43) C d_M_read_32 rfl (fun c => ?_) (fun c => ?_)
      · have h := h.2 c
        refine z_iconst (v := (0 : Int32)) C rfl d_M_read_43 ?_
        refine z_istore (L' := [(4, .int (0 : Int32)), (0, .ref (ad B 0)), (1, .int a1), (2, .int a2), (3, .int a3)]) C hnl (by decide) rfl d_M_read_44 ?_
        refine z_aload_n C 1 rfl rfl d_M_read_46 ?_
        refine gf_M_kind C (Or.inl tw_999) d_M_read_47 ?_
        refine z_iload_n C 2 rfl rfl d_M_read_50 ?_
        refine al_m_kind C f3 d_M_read_51 ?_
        refine z_iconst (v := (1 : Int32)) C rfl d_M_read_52 ?_
        refine z_icmp_le (tgt := 88) C d_M_read_53 rfl (fun c => ?_) (fun c => ?_)
        · have h := h.1 c
          refine z_aload_n C 1 rfl rfl d_M_read_88 ?_
          refine gf_M_its C (Or.inl tw_1000) d_M_read_89 ?_
          refine z_iload_n C 2 rfl rfl d_M_read_92 ?_
          refine al_m_its C f3 d_M_read_93 ?_
          refine z_topi (fun v6 ev6 => ?_)
          have h := h v6 ev6
          refine z_istore (L' := [(5, .int v6), (4, .int (0 : Int32)), (0, .ref (ad B 0)), (1, .int a1), (2, .int a2), (3, .int a3)]) C hnl (by decide) rfl d_M_read_94 ?_
          obtain ⟨n7, h⟩ := h
          exact z_sub [2, 3, 4, 5, 1, 0] rfl (vl_M_read_96 C a1 a2 a3 P G hr hnl n7 S4 (0 : Int32) v6 h)
        · have h := h.2 c
          obtain ⟨n8, h⟩ := h
          exact z_sub [1, 3, 4, 0] rfl (vl_M_read_56 C a1 a2 a3 P G hr hnl n8 S4 (0 : Int32) h)
      · have h := h.1 c
        refine z_aload_n C 0 rfl rfl d_M_read_35 ?_
        refine z_bipush (v := (14 : Int32)) C rfl d_M_read_36 ?_
        refine z_iload_n C 3 rfl rfl d_M_read_38 ?_
        refine z_callVv (rest := []) C q_M_failsWith tw_1248 (c_M_failsWith _ B (14 : Int32) a3 S4 _ h) rc_M ⟨Nat.le_of_ble_eq_true rfl, Nat.le_of_ble_eq_true rfl⟩ rfl rfl (Nat.le_of_ble_eq_true rfl) d_M_read_39 (fun S9 h => ?_)
        exact z_vreturn C G hr h d_M_read_42
    · have h := h.1 c
      exact z_sub [0, 3] rfl (vj_M_read_19 C a1 a2 a3 P G hr hnl S1 h)
theorem c_M_read (l : Launch) (B : zK) (a1 : Int32) (a2 : Int32) (a3 : Int32) (S : zS) (P : zS → Prop) (h : w_M_read a1 a2 a3 S P) : Met l y_M_read (Cond.code y_M_read prog_12_method_47_code 6 none :: tT) (zRm 2 41) (zPc (wR B) [.ref (ad B 0), .int a1, .int a2, .int a3] S) (zQ (wR B) (zPv P)) 0 0 (wR B).2.2.2 :=
  z_met (by decide) (Nat.le_of_ble_eq_true rfl) (fun E C G hr _ hnl => v_M_read C a1 a2 a3 P G hr hnl S h)
theorem q_M_read : zQw y_M_read prog_12_method_47_code 6 none 3 := ⟨tw_1254, tw_65, tw_87, tw_1255, by decide +kernel⟩
def j_M_seek_47 (a1 : Int32) (a2 : Int32) (P : zS → Prop) (S : zS) : Prop :=
  w_M_fails (22 : Int32) S (fun S1 => P S1)
set_option maxRecDepth 20000 in
set_option maxHeartbeats 4000000 in
theorem vj_M_seek_47 {E : zE} {B : zK} (C : zC E (wR B) prog_12_method_48_code "HostBenchModel" 1 21) (a1 : Int32) (a2 : Int32) (P : zS → Prop) (G : zGoal E (zQ (wR B) (zPv P)) (wR B)) (hr : zRt E (none)) (hnl : E.2.2.2.2.2.2.2.2.2.2.1 = 3) (S : zS) (h : j_M_seek_47 a1 a2 P S) : zV E (wR B) S 47 [(0, .ref (ad B 0))] [] := by
  unfold j_M_seek_47 at h
  refine z_aload_n C 0 rfl rfl d_M_seek_47 ?_
  refine z_bipush (v := (22 : Int32)) C rfl d_M_seek_48 ?_
  refine z_callVv (rest := []) C q_M_fails tw_1204 (c_M_fails _ B (22 : Int32) S _ h) rc_M ⟨Nat.le_of_ble_eq_true rfl, Nat.le_of_ble_eq_true rfl⟩ rfl rfl (Nat.le_of_ble_eq_true rfl) d_M_seek_50 (fun S1 h => ?_)
  refine z_goto (tgt := 68) C d_M_seek_53 rfl ?_
  exact z_vreturn C G hr h d_M_seek_68
def w_M_seek (a1 : Int32) (a2 : Int32) (S : zS) (P : zS → Prop) : Prop :=
  w_M_isOpen a1 S (fun S1 r2 => (r2 = 0 → (w_M_fails (9 : Int32) S1 (fun S9 => P S9))) ∧ (¬ r2 = 0 → (vp_in a1 11 ∧ ((1 : Int32) < (gM S1 7 a1.toNatClampNeg) → (j_M_seek_47 a1 a2 P S1)) ∧ (¬ (1 : Int32) < (gM S1 7 a1.toNatClampNeg) → (w_M_whole a2 S1 (fun S4 r5 => vp_in (gM S4 8 a1.toNatClampNeg) 12 ∧ ((lg_cmp r5 ((gM S4 4 (gM S4 8 a1.toNatClampNeg).toNatClampNeg).toInt64)) ≤ 0 → (∀ S7 : zS, S7 = sM S4 9 a1.toNatClampNeg a2 → w_M_answer (0 : Int32) S7 (fun S8 => P S8))) ∧ (¬ (lg_cmp r5 ((gM S4 4 (gM S4 8 a1.toNatClampNeg).toNatClampNeg).toInt64)) ≤ 0 → (j_M_seek_47 a1 a2 P S4))))))))
set_option maxRecDepth 20000 in
set_option maxHeartbeats 4000000 in
theorem v_M_seek {E : zE} {B : zK} (C : zC E (wR B) prog_12_method_48_code "HostBenchModel" 1 21) (a1 : Int32) (a2 : Int32) (P : zS → Prop) (G : zGoal E (zQ (wR B) (zPv P)) (wR B)) (hr : zRt E (none)) (hnl : E.2.2.2.2.2.2.2.2.2.2.1 = 3) (S : zS) (h : w_M_seek a1 a2 S P) : zV E (wR B) S 0 [(0, .ref (ad B 0)), (1, .int a1), (2, .int a2)] [] := by
  unfold w_M_seek at h
  refine z_aload_n C 0 rfl rfl d_M_seek_0 ?_
  refine z_iload_n C 1 rfl rfl d_M_seek_1 ?_
  refine z_callVi (rest := []) C q_M_isOpen tw_1232 (c_M_isOpen _ B a1 S _ h) rc_M ⟨Nat.le_of_ble_eq_true rfl, Nat.le_of_ble_eq_true rfl⟩ rfl rfl (Nat.le_of_ble_eq_true rfl) d_M_seek_2 (fun S1 r2 h => ?_)
  refine z_if_ne (tgt := 17) C d_M_seek_5 rfl (fun c => ?_) (fun c => ?_)
  · have h := h.2 c
    refine z_aload_n C 0 rfl rfl d_M_seek_17 ?_
    refine gf_M_kind C (Or.inl tw_999) d_M_seek_18 ?_
    refine z_iload_n C 1 rfl rfl d_M_seek_21 ?_
    obtain ⟨f3, h⟩ := h
    refine al_m_kind C f3 d_M_seek_22 ?_
    refine z_iconst (v := (1 : Int32)) C rfl d_M_seek_23 ?_
    refine z_icmp_gt (tgt := 47) C d_M_seek_24 rfl (fun c => ?_) (fun c => ?_)
    · have h := h.1 c
      exact z_sub [0] rfl (vj_M_seek_47 C a1 a2 P G hr hnl S1 h)
    · have h := h.2 c
      refine z_iload_n C 2 rfl rfl d_M_seek_27 ?_
      refine z_callSl (rest := []) C q_M_whole rfl tw_1142 (c_M_whole _ B a2 S1 _ h) ⟨Nat.le_of_ble_eq_true rfl, Nat.le_of_ble_eq_true rfl⟩ rfl rfl (Nat.le_of_ble_eq_true rfl) d_M_seek_28 (fun S4 r5 h => ?_)
      refine z_aload_n C 0 rfl rfl d_M_seek_31 ?_
      refine gf_M_size C (Or.inl tw_995) d_M_seek_32 ?_
      refine z_aload_n C 0 rfl rfl d_M_seek_35 ?_
      refine gf_M_its C (Or.inl tw_1000) d_M_seek_36 ?_
      refine z_iload_n C 1 rfl rfl d_M_seek_39 ?_
      refine al_m_its C f3 d_M_seek_40 ?_
      obtain ⟨f6, h⟩ := h
      refine al_m_size C f6 d_M_seek_41 ?_
      refine z_i2l C d_M_seek_42 ?_
      refine z_lcmp C d_M_seek_43 ?_
      refine z_if_le (tgt := 56) C d_M_seek_44 rfl (fun c => ?_) (fun c => ?_)
      · have h := h.1 c
        refine z_aload_n C 0 rfl rfl d_M_seek_56 ?_
        refine gf_M_place C (Or.inl tw_1001) d_M_seek_57 ?_
        refine z_iload_n C 1 rfl rfl d_M_seek_60 ?_
        refine z_iload_n C 2 rfl rfl d_M_seek_61 ?_
        refine as_m_place C f3 d_M_seek_62 ?_
        refine z_nS (fun S7 eS7 => ?_)
        have h := h S7 eS7
        refine z_aload_n C 0 rfl rfl d_M_seek_63 ?_
        refine z_iconst (v := (0 : Int32)) C rfl d_M_seek_64 ?_
        refine z_callVv (rest := []) C q_M_answer tw_1224 (c_M_answer _ B (0 : Int32) S7 _ h) rc_M ⟨Nat.le_of_ble_eq_true rfl, Nat.le_of_ble_eq_true rfl⟩ rfl rfl (Nat.le_of_ble_eq_true rfl) d_M_seek_65 (fun S8 h => ?_)
        exact z_vreturn C G hr h d_M_seek_68
      · have h := h.2 c
        exact z_sub [0] rfl (vj_M_seek_47 C a1 a2 P G hr hnl S4 h)
  · have h := h.1 c
    refine z_aload_n C 0 rfl rfl d_M_seek_8 ?_
    refine z_bipush (v := (9 : Int32)) C rfl d_M_seek_9 ?_
    refine z_callVv (rest := []) C q_M_fails tw_1204 (c_M_fails _ B (9 : Int32) S1 _ h) rc_M ⟨Nat.le_of_ble_eq_true rfl, Nat.le_of_ble_eq_true rfl⟩ rfl rfl (Nat.le_of_ble_eq_true rfl) d_M_seek_11 (fun S9 h => ?_)
    refine z_goto (tgt := 68) C d_M_seek_14 rfl ?_
    exact z_vreturn C G hr h d_M_seek_68
theorem c_M_seek (l : Launch) (B : zK) (a1 : Int32) (a2 : Int32) (S : zS) (P : zS → Prop) (h : w_M_seek a1 a2 S P) : Met l y_M_seek (Cond.code y_M_seek prog_12_method_48_code 3 none :: tT) (zRm 1 21) (zPc (wR B) [.ref (ad B 0), .int a1, .int a2] S) (zQ (wR B) (zPv P)) 0 0 (wR B).2.2.2 :=
  z_met (by decide) (Nat.le_of_ble_eq_true rfl) (fun E C G hr _ hnl => v_M_seek C a1 a2 P G hr hnl S h)
theorem q_M_seek : zQw y_M_seek prog_12_method_48_code 3 none 2 := ⟨tw_1266, tw_68, tw_87, tw_1267, by decide +kernel⟩
def j_M_temporary_22 (a1 : Int32) (a2 : Int32) (a3 : Int32) (P : zS → Prop) (S : zS) : Prop :=
  w_M_fails (22 : Int32) S (fun S1 => P S1)
set_option maxRecDepth 20000 in
set_option maxHeartbeats 4000000 in
theorem vj_M_temporary_22 {E : zE} {B : zK} (C : zC E (wR B) prog_12_method_49_code "HostBenchModel" 2 41) (a1 : Int32) (a2 : Int32) (a3 : Int32) (P : zS → Prop) (G : zGoal E (zQ (wR B) (zPv P)) (wR B)) (hr : zRt E (none)) (hnl : E.2.2.2.2.2.2.2.2.2.2.1 = 4) (S : zS) (h : j_M_temporary_22 a1 a2 a3 P S) : zV E (wR B) S 22 [(0, .ref (ad B 0))] [] := by
  unfold j_M_temporary_22 at h
  refine z_aload_n C 0 rfl rfl d_M_temporary_22 ?_
  refine z_bipush (v := (22 : Int32)) C rfl d_M_temporary_23 ?_
  refine z_callVv (rest := []) C q_M_fails tw_1204 (c_M_fails _ B (22 : Int32) S _ h) rc_M ⟨Nat.le_of_ble_eq_true rfl, Nat.le_of_ble_eq_true rfl⟩ rfl rfl (Nat.le_of_ble_eq_true rfl) d_M_temporary_25 (fun S1 h => ?_)
  refine z_goto (tgt := 121) C d_M_temporary_28 rfl ?_
  exact z_vreturn C G hr h d_M_temporary_121
def w_M_temporary (a1 : Int32) (a2 : Int32) (a3 : Int32) (S : zS) (P : zS → Prop) : Prop :=
  w_M_whole a2 S (fun S1 r2 => (0 < (lg_cmp r2 (255 : Int64)) → (j_M_temporary_22 a1 a2 a3 P S1)) ∧ (¬ 0 < (lg_cmp r2 (255 : Int64)) → (w_M_whole a3 S1 (fun S3 r4 => (0 ≤ (lg_cmp r4 (7 : Int64)) → (w_M_isArea a1 (7 : Int32) S3 (fun S5 r6 => (r6 = 0 → (w_M_fails (14 : Int32) S5 (fun S17 => P S17))) ∧ (¬ r6 = 0 → (w_M_lays a1 (7368052 : Int32) (3 : Int32) S5 (fun S7 => vp_in (a1 + (3 : Int32)) 16384 ∧ ∀ S9 : zS, S9 = sM S7 1 (a1 + (3 : Int32)).toNatClampNeg ((48 : Int32) + (a2 / (100 : Int32))) → vp_in (a1 + (4 : Int32)) 16384 ∧ ∀ S11 : zS, S11 = sM S9 1 (a1 + (4 : Int32)).toNatClampNeg ((48 : Int32) + ((a2 / (10 : Int32)) - (a2 / (10 : Int32)) / (10 : Int32) * (10 : Int32))) → vp_in (a1 + (5 : Int32)) 16384 ∧ ∀ S13 : zS, S13 = sM S11 1 (a1 + (5 : Int32)).toNatClampNeg ((48 : Int32) + (a2 - a2 / (10 : Int32) * (10 : Int32))) → vp_in (a1 + (6 : Int32)) 16384 ∧ ∀ S15 : zS, S15 = sM S13 1 (a1 + (6 : Int32)).toNatClampNeg (0 : Int32) → w_M_answer (0 : Int32) S15 (fun S16 => P S16))))))) ∧ (¬ 0 ≤ (lg_cmp r4 (7 : Int64)) → (j_M_temporary_22 a1 a2 a3 P S3))))))
set_option maxRecDepth 20000 in
set_option maxHeartbeats 4000000 in
theorem v_M_temporary {E : zE} {B : zK} (C : zC E (wR B) prog_12_method_49_code "HostBenchModel" 2 41) (a1 : Int32) (a2 : Int32) (a3 : Int32) (P : zS → Prop) (G : zGoal E (zQ (wR B) (zPv P)) (wR B)) (hr : zRt E (none)) (hnl : E.2.2.2.2.2.2.2.2.2.2.1 = 4) (S : zS) (h : w_M_temporary a1 a2 a3 S P) : zV E (wR B) S 0 [(0, .ref (ad B 0)), (1, .int a1), (2, .int a2), (3, .int a3)] [] := by
  unfold w_M_temporary at h
  refine z_iload_n C 2 rfl rfl d_M_temporary_0 ?_
  refine z_callSl (rest := []) C q_M_whole rfl tw_1142 (c_M_whole _ B a2 S _ h) ⟨Nat.le_of_ble_eq_true rfl, Nat.le_of_ble_eq_true rfl⟩ rfl rfl (Nat.le_of_ble_eq_true rfl) d_M_temporary_1 (fun S1 r2 h => ?_)
  refine z_ldc2 (v := (255 : Int64)) C tw_1272 d_M_temporary_4 ?_
  refine z_lcmp C d_M_temporary_7 ?_
  refine z_if_gt (tgt := 22) C d_M_temporary_8 rfl (fun c => ?_) (fun c => ?_)
  · have h := h.1 c
    exact z_sub [0] rfl (vj_M_temporary_22 C a1 a2 a3 P G hr hnl S1 h)
  · have h := h.2 c
    refine z_iload_n C 3 rfl rfl d_M_temporary_11 ?_
    refine z_callSl (rest := []) C q_M_whole rfl tw_1142 (c_M_whole _ B a3 S1 _ h) ⟨Nat.le_of_ble_eq_true rfl, Nat.le_of_ble_eq_true rfl⟩ rfl rfl (Nat.le_of_ble_eq_true rfl) d_M_temporary_12 (fun S3 r4 h => ?_)
    refine z_ldc2 (v := (7 : Int64)) C tw_1273 d_M_temporary_15 ?_
    refine z_lcmp C d_M_temporary_18 ?_
    refine z_if_ge (tgt := 31) C d_M_temporary_19 rfl (fun c => ?_) (fun c => ?_)
    · have h := h.1 c
      refine z_iload_n C 1 rfl rfl d_M_temporary_31 ?_
      refine z_bipush (v := (7 : Int32)) C rfl d_M_temporary_32 ?_
      refine z_callSi (rest := []) C q_M_isArea rfl tw_1139 (c_M_isArea _ B a1 (7 : Int32) S3 _ h) ⟨Nat.le_of_ble_eq_true rfl, Nat.le_of_ble_eq_true rfl⟩ rfl rfl (Nat.le_of_ble_eq_true rfl) d_M_temporary_34 (fun S5 r6 h => ?_)
      refine z_if_ne (tgt := 49) C d_M_temporary_37 rfl (fun c => ?_) (fun c => ?_)
      · have h := h.2 c
        refine z_aload_n C 0 rfl rfl d_M_temporary_49 ?_
        refine z_iload_n C 1 rfl rfl d_M_temporary_50 ?_
        refine z_ldc_w (v := (7368052 : Int32)) C tw_1274 d_M_temporary_51 ?_
        refine z_iconst (v := (3 : Int32)) C rfl d_M_temporary_54 ?_
        refine z_callVv (rest := []) C q_M_lays tw_1172 (c_M_lays _ B a1 (7368052 : Int32) (3 : Int32) S5 _ h) rc_M ⟨Nat.le_of_ble_eq_true rfl, Nat.le_of_ble_eq_true rfl⟩ rfl rfl (Nat.le_of_ble_eq_true rfl) d_M_temporary_55 (fun S7 h => ?_)
        refine z_aload_n C 0 rfl rfl d_M_temporary_58 ?_
        refine gf_M_memory C (Or.inl tw_985) d_M_temporary_59 ?_
        refine z_iload_n C 1 rfl rfl d_M_temporary_62 ?_
        refine z_iconst (v := (3 : Int32)) C rfl d_M_temporary_63 ?_
        refine z_iadd C d_M_temporary_64 ?_
        refine z_bipush (v := (48 : Int32)) C rfl d_M_temporary_65 ?_
        refine z_iload_n C 2 rfl rfl d_M_temporary_67 ?_
        refine z_bipush (v := (100 : Int32)) C rfl d_M_temporary_68 ?_
        refine z_idiv C (by decide) d_M_temporary_70 ?_
        refine z_iadd C d_M_temporary_71 ?_
        obtain ⟨f8, h⟩ := h
        refine as_m_memory C f8 d_M_temporary_72 ?_
        refine z_nS (fun S9 eS9 => ?_)
        have h := h S9 eS9
        refine z_aload_n C 0 rfl rfl d_M_temporary_73 ?_
        refine gf_M_memory C (Or.inl tw_985) d_M_temporary_74 ?_
        refine z_iload_n C 1 rfl rfl d_M_temporary_77 ?_
        refine z_iconst (v := (4 : Int32)) C rfl d_M_temporary_78 ?_
        refine z_iadd C d_M_temporary_79 ?_
        refine z_bipush (v := (48 : Int32)) C rfl d_M_temporary_80 ?_
        refine z_iload_n C 2 rfl rfl d_M_temporary_82 ?_
        refine z_bipush (v := (10 : Int32)) C rfl d_M_temporary_83 ?_
        refine z_idiv C (by decide) d_M_temporary_85 ?_
        refine z_bipush (v := (10 : Int32)) C rfl d_M_temporary_86 ?_
        refine z_irem C (by decide) d_M_temporary_88 ?_
        refine z_iadd C d_M_temporary_89 ?_
        obtain ⟨f10, h⟩ := h
        refine as_m_memory C f10 d_M_temporary_90 ?_
        refine z_nS (fun S11 eS11 => ?_)
        have h := h S11 eS11
        refine z_aload_n C 0 rfl rfl d_M_temporary_91 ?_
        refine gf_M_memory C (Or.inl tw_985) d_M_temporary_92 ?_
        refine z_iload_n C 1 rfl rfl d_M_temporary_95 ?_
        refine z_iconst (v := (5 : Int32)) C rfl d_M_temporary_96 ?_
        refine z_iadd C d_M_temporary_97 ?_
        refine z_bipush (v := (48 : Int32)) C rfl d_M_temporary_98 ?_
        refine z_iload_n C 2 rfl rfl d_M_temporary_100 ?_
        refine z_bipush (v := (10 : Int32)) C rfl d_M_temporary_101 ?_
        refine z_irem C (by decide) d_M_temporary_103 ?_
        refine z_iadd C d_M_temporary_104 ?_
        obtain ⟨f12, h⟩ := h
        refine as_m_memory C f12 d_M_temporary_105 ?_
        refine z_nS (fun S13 eS13 => ?_)
        have h := h S13 eS13
        refine z_aload_n C 0 rfl rfl d_M_temporary_106 ?_
        refine gf_M_memory C (Or.inl tw_985) d_M_temporary_107 ?_
        refine z_iload_n C 1 rfl rfl d_M_temporary_110 ?_
        refine z_bipush (v := (6 : Int32)) C rfl d_M_temporary_111 ?_
        refine z_iadd C d_M_temporary_113 ?_
        refine z_iconst (v := (0 : Int32)) C rfl d_M_temporary_114 ?_
        obtain ⟨f14, h⟩ := h
        refine as_m_memory C f14 d_M_temporary_115 ?_
        refine z_nS (fun S15 eS15 => ?_)
        have h := h S15 eS15
        refine z_aload_n C 0 rfl rfl d_M_temporary_116 ?_
        refine z_iconst (v := (0 : Int32)) C rfl d_M_temporary_117 ?_
        refine z_callVv (rest := []) C q_M_answer tw_1224 (c_M_answer _ B (0 : Int32) S15 _ h) rc_M ⟨Nat.le_of_ble_eq_true rfl, Nat.le_of_ble_eq_true rfl⟩ rfl rfl (Nat.le_of_ble_eq_true rfl) d_M_temporary_118 (fun S16 h => ?_)
        exact z_vreturn C G hr h d_M_temporary_121
      · have h := h.1 c
        refine z_aload_n C 0 rfl rfl d_M_temporary_40 ?_
        refine z_bipush (v := (14 : Int32)) C rfl d_M_temporary_41 ?_
        refine z_callVv (rest := []) C q_M_fails tw_1204 (c_M_fails _ B (14 : Int32) S5 _ h) rc_M ⟨Nat.le_of_ble_eq_true rfl, Nat.le_of_ble_eq_true rfl⟩ rfl rfl (Nat.le_of_ble_eq_true rfl) d_M_temporary_43 (fun S17 h => ?_)
        refine z_goto (tgt := 121) C d_M_temporary_46 rfl ?_
        exact z_vreturn C G hr h d_M_temporary_121
    · have h := h.2 c
      exact z_sub [0] rfl (vj_M_temporary_22 C a1 a2 a3 P G hr hnl S3 h)
theorem c_M_temporary (l : Launch) (B : zK) (a1 : Int32) (a2 : Int32) (a3 : Int32) (S : zS) (P : zS → Prop) (h : w_M_temporary a1 a2 a3 S P) : Met l y_M_temporary (Cond.code y_M_temporary prog_12_method_49_code 4 none :: tT) (zRm 2 41) (zPc (wR B) [.ref (ad B 0), .int a1, .int a2, .int a3] S) (zQ (wR B) (zPv P)) 0 0 (wR B).2.2.2 :=
  z_met (by decide) (Nat.le_of_ble_eq_true rfl) (fun E C G hr _ hnl => v_M_temporary C a1 a2 a3 P G hr hnl S h)
theorem q_M_temporary : zQw y_M_temporary prog_12_method_49_code 4 none 3 := ⟨tw_1270, tw_69, tw_87, tw_1271, by decide +kernel⟩
def l_M_remove_166 (a1 : Int32) (a2 : Int32) (P : zS → Prop) (K75 : zS → Int32 → Int32 → Prop) : Nat → zS → Int32 → Int32 → Int32 → Prop
  | 0, _, _, _, _ => False
  | n + 1, S, x4, x5, x6 =>
  ((24 : Int32) ≤ x6 → (K75 S x4 (x5 + (1 : Int32)))) ∧ (¬ (24 : Int32) ≤ x6 → (vp_in (((24 : Int32) * (x5 + (1 : Int32))) + x6) 288 ∧ vp_in (((24 : Int32) * x5) + x6) 288 ∧ ∀ S3 : zS, S3 = sM S 5 (((24 : Int32) * x5) + x6).toNatClampNeg (gM S 5 (((24 : Int32) * (x5 + (1 : Int32))) + x6).toNatClampNeg) → l_M_remove_166 a1 a2 P K75 n S3 x4 x5 (x6 + (1 : Int32))))
set_option maxRecDepth 20000 in
set_option maxHeartbeats 4000000 in
theorem vl_M_remove_166 {E : zE} {B : zK} (C : zC E (wR B) prog_12_method_50_code "HostBenchModel" 3 65) (a1 : Int32) (a2 : Int32) (P : zS → Prop) (G : zGoal E (zQ (wR B) (zPv P)) (wR B)) (hr : zRt E (none)) (hnl : E.2.2.2.2.2.2.2.2.2.2.1 = 7) (K75 : zS → Int32 → Int32 → Prop) (hK75 : ∀ (S : zS) (x4 : Int32) (x5 : Int32), K75 S x4 x5 → zV E (wR B) S 75 [(0, .ref (ad B 0)), (4, .int x4), (5, .int x5)] []) : ∀ (n : Nat) (S : zS) (x4 : Int32) (x5 : Int32) (x6 : Int32) , l_M_remove_166 a1 a2 P K75 n S x4 x5 x6 → zV E (wR B) S 166 [(0, .ref (ad B 0)), (4, .int x4), (5, .int x5), (6, .int x6)] [] := by
  intro n
  induction n with
  | zero => intro S x4 x5 x6 h; exact h.elim
  | succ n ih =>
    intro S x4 x5 x6 h
    unfold l_M_remove_166 at h
    refine z_iload C 3 rfl d_M_remove_166 ?_
    refine z_bipush (v := (24 : Int32)) C rfl d_M_remove_168 ?_
    refine z_icmp_ge (tgt := 207) C d_M_remove_170 rfl (fun c => ?_) (fun c => ?_)
    · have h := h.1 c
      refine z_iinc (v := x5 + (1 : Int32)) (L' := [(5, .int (x5 + (1 : Int32))), (0, .ref (ad B 0)), (4, .int x4), (6, .int x6)]) C hnl 2 rfl rfl (by decide) rfl d_M_remove_207 ?_
      refine z_goto (tgt := 75) C d_M_remove_210 rfl ?_
      exact z_sub [1, 2, 0] rfl (hK75 S x4 (x5 + (1 : Int32)) h)
    · have h := h.2 c
      refine z_aload_n C 0 rfl rfl d_M_remove_173 ?_
      refine gf_M_name C (Or.inl tw_996) d_M_remove_174 ?_
      refine z_bipush (v := (24 : Int32)) C rfl d_M_remove_177 ?_
      refine z_iload C 2 rfl d_M_remove_179 ?_
      refine z_imul C d_M_remove_181 ?_
      refine z_iload C 3 rfl d_M_remove_182 ?_
      refine z_iadd C d_M_remove_184 ?_
      refine z_aload_n C 0 rfl rfl d_M_remove_185 ?_
      refine gf_M_name C (Or.inl tw_996) d_M_remove_186 ?_
      refine z_bipush (v := (24 : Int32)) C rfl d_M_remove_189 ?_
      refine z_iload C 2 rfl d_M_remove_191 ?_
      refine z_iconst (v := (1 : Int32)) C rfl d_M_remove_193 ?_
      refine z_iadd C d_M_remove_194 ?_
      refine z_imul C d_M_remove_195 ?_
      refine z_iload C 3 rfl d_M_remove_196 ?_
      refine z_iadd C d_M_remove_198 ?_
      obtain ⟨f1, h⟩ := h
      refine al_m_name C f1 d_M_remove_199 ?_
      obtain ⟨f2, h⟩ := h
      refine as_m_name C f2 d_M_remove_200 ?_
      refine z_nS (fun S3 eS3 => ?_)
      have h := h S3 eS3
      refine z_iinc (v := x6 + (1 : Int32)) (L' := [(6, .int (x6 + (1 : Int32))), (0, .ref (ad B 0)), (4, .int x4), (5, .int x5)]) C hnl 3 rfl rfl (by decide) rfl d_M_remove_201 ?_
      refine z_goto (tgt := 166) C d_M_remove_204 rfl ?_
      exact z_sub [1, 2, 3, 0] rfl (ih S3 x4 x5 (x6 + (1 : Int32)) h)
def l_M_remove_119 (a1 : Int32) (a2 : Int32) (P : zS → Prop) (K75 : zS → Int32 → Int32 → Prop) : Nat → zS → Int32 → Int32 → Int32 → Prop
  | 0, _, _, _, _ => False
  | n + 1, S, x4, x5, x6 =>
  ((2000 : Int32) ≤ x6 → (∃ n1 : Nat, l_M_remove_166 a1 a2 P K75 n1 S x4 x5 (0 : Int32))) ∧ (¬ (2000 : Int32) ≤ x6 → (vp_in (((2000 : Int32) * (x5 + (1 : Int32))) + x6) 24000 ∧ vp_in (((2000 : Int32) * x5) + x6) 24000 ∧ ∀ S4 : zS, S4 = sM S 3 (((2000 : Int32) * x5) + x6).toNatClampNeg (gM S 3 (((2000 : Int32) * (x5 + (1 : Int32))) + x6).toNatClampNeg) → l_M_remove_119 a1 a2 P K75 n S4 x4 x5 (x6 + (1 : Int32))))
set_option maxRecDepth 20000 in
set_option maxHeartbeats 4000000 in
theorem vl_M_remove_119 {E : zE} {B : zK} (C : zC E (wR B) prog_12_method_50_code "HostBenchModel" 3 65) (a1 : Int32) (a2 : Int32) (P : zS → Prop) (G : zGoal E (zQ (wR B) (zPv P)) (wR B)) (hr : zRt E (none)) (hnl : E.2.2.2.2.2.2.2.2.2.2.1 = 7) (K75 : zS → Int32 → Int32 → Prop) (hK75 : ∀ (S : zS) (x4 : Int32) (x5 : Int32), K75 S x4 x5 → zV E (wR B) S 75 [(0, .ref (ad B 0)), (4, .int x4), (5, .int x5)] []) : ∀ (n : Nat) (S : zS) (x4 : Int32) (x5 : Int32) (x6 : Int32) , l_M_remove_119 a1 a2 P K75 n S x4 x5 x6 → zV E (wR B) S 119 [(0, .ref (ad B 0)), (4, .int x4), (5, .int x5), (6, .int x6)] [] := by
  intro n
  induction n with
  | zero => intro S x4 x5 x6 h; exact h.elim
  | succ n ih =>
    intro S x4 x5 x6 h
    unfold l_M_remove_119 at h
    refine z_iload C 3 rfl d_M_remove_119 ?_
    refine z_sipush (v := (2000 : Int32)) C rfl d_M_remove_121 ?_
    refine z_icmp_ge (tgt := 163) C d_M_remove_124 rfl (fun c => ?_) (fun c => ?_)
    · have h := h.1 c
      refine z_iconst (v := (0 : Int32)) C rfl d_M_remove_163 ?_
      refine z_istore (L' := [(6, .int (0 : Int32)), (0, .ref (ad B 0)), (4, .int x4), (5, .int x5)]) C hnl (by decide) rfl d_M_remove_164 ?_
      obtain ⟨n1, h⟩ := h
      exact z_sub [1, 2, 3, 0] rfl (vl_M_remove_166 C a1 a2 P G hr hnl K75 hK75 n1 S x4 x5 (0 : Int32) h)
    · have h := h.2 c
      refine z_aload_n C 0 rfl rfl d_M_remove_127 ?_
      refine gf_M_data C (Or.inl tw_994) d_M_remove_128 ?_
      refine z_sipush (v := (2000 : Int32)) C rfl d_M_remove_131 ?_
      refine z_iload C 2 rfl d_M_remove_134 ?_
      refine z_imul C d_M_remove_136 ?_
      refine z_iload C 3 rfl d_M_remove_137 ?_
      refine z_iadd C d_M_remove_139 ?_
      refine z_aload_n C 0 rfl rfl d_M_remove_140 ?_
      refine gf_M_data C (Or.inl tw_994) d_M_remove_141 ?_
      refine z_sipush (v := (2000 : Int32)) C rfl d_M_remove_144 ?_
      refine z_iload C 2 rfl d_M_remove_147 ?_
      refine z_iconst (v := (1 : Int32)) C rfl d_M_remove_149 ?_
      refine z_iadd C d_M_remove_150 ?_
      refine z_imul C d_M_remove_151 ?_
      refine z_iload C 3 rfl d_M_remove_152 ?_
      refine z_iadd C d_M_remove_154 ?_
      obtain ⟨f2, h⟩ := h
      refine al_m_data C f2 d_M_remove_155 ?_
      obtain ⟨f3, h⟩ := h
      refine as_m_data C f3 d_M_remove_156 ?_
      refine z_nS (fun S4 eS4 => ?_)
      have h := h S4 eS4
      refine z_iinc (v := x6 + (1 : Int32)) (L' := [(6, .int (x6 + (1 : Int32))), (0, .ref (ad B 0)), (4, .int x4), (5, .int x5)]) C hnl 3 rfl rfl (by decide) rfl d_M_remove_157 ?_
      refine z_goto (tgt := 119) C d_M_remove_160 rfl ?_
      exact z_sub [1, 2, 3, 0] rfl (ih S4 x4 x5 (x6 + (1 : Int32)) h)
def j_M_remove_257 (a1 : Int32) (a2 : Int32) (P : zS → Prop) (K216 : zS → Int32 → Int32 → Prop) (S : zS) (x4 : Int32) (x5 : Int32) : Prop :=
  K216 S x4 (x5 + (1 : Int32))
set_option maxRecDepth 20000 in
set_option maxHeartbeats 4000000 in
theorem vj_M_remove_257 {E : zE} {B : zK} (C : zC E (wR B) prog_12_method_50_code "HostBenchModel" 3 65) (a1 : Int32) (a2 : Int32) (P : zS → Prop) (G : zGoal E (zQ (wR B) (zPv P)) (wR B)) (hr : zRt E (none)) (hnl : E.2.2.2.2.2.2.2.2.2.2.1 = 7) (K216 : zS → Int32 → Int32 → Prop) (hK216 : ∀ (S : zS) (x4 : Int32) (x5 : Int32), K216 S x4 x5 → zV E (wR B) S 216 [(0, .ref (ad B 0)), (4, .int x4), (5, .int x5)] []) (S : zS) (x4 : Int32) (x5 : Int32) (h : j_M_remove_257 a1 a2 P K216 S x4 x5) : zV E (wR B) S 257 [(0, .ref (ad B 0)), (4, .int x4), (5, .int x5)] [] := by
  unfold j_M_remove_257 at h
  refine z_iinc (v := x5 + (1 : Int32)) (L' := [(5, .int (x5 + (1 : Int32))), (0, .ref (ad B 0)), (4, .int x4)]) C hnl 2 rfl rfl (by decide) rfl d_M_remove_257 ?_
  refine z_goto (tgt := 216) C d_M_remove_260 rfl ?_
  exact z_sub [1, 2, 0] rfl (hK216 S x4 (x5 + (1 : Int32)) h)
def l_M_remove_216 (a1 : Int32) (a2 : Int32) (P : zS → Prop) : Nat → zS → Int32 → Int32 → Prop
  | 0, _, _, _ => False
  | n + 1, S, x4, x5 =>
  ((10 : Int32) < x5 → (w_M_answer (0 : Int32) S (fun S1 => P S1))) ∧ (¬ (10 : Int32) < x5 → (vp_in x5 11 ∧ ((gM S 7 x5.toNatClampNeg) = (1 : Int32) → (((gM S 8 x5.toNatClampNeg) ≤ x4 → (j_M_remove_257 a1 a2 P (fun S x4 x5 => l_M_remove_216 a1 a2 P n S x4 x5) S x4 x5)) ∧ (¬ (gM S 8 x5.toNatClampNeg) ≤ x4 → (∀ S3 : zS, S3 = sM S 8 x5.toNatClampNeg ((gM S 8 x5.toNatClampNeg) - (1 : Int32)) → j_M_remove_257 a1 a2 P (fun S x4 x5 => l_M_remove_216 a1 a2 P n S x4 x5) S3 x4 x5)))) ∧ (¬ (gM S 7 x5.toNatClampNeg) = (1 : Int32) → (j_M_remove_257 a1 a2 P (fun S x4 x5 => l_M_remove_216 a1 a2 P n S x4 x5) S x4 x5))))
set_option maxRecDepth 20000 in
set_option maxHeartbeats 4000000 in
theorem vl_M_remove_216 {E : zE} {B : zK} (C : zC E (wR B) prog_12_method_50_code "HostBenchModel" 3 65) (a1 : Int32) (a2 : Int32) (P : zS → Prop) (G : zGoal E (zQ (wR B) (zPv P)) (wR B)) (hr : zRt E (none)) (hnl : E.2.2.2.2.2.2.2.2.2.2.1 = 7) : ∀ (n : Nat) (S : zS) (x4 : Int32) (x5 : Int32) , l_M_remove_216 a1 a2 P n S x4 x5 → zV E (wR B) S 216 [(0, .ref (ad B 0)), (4, .int x4), (5, .int x5)] [] := by
  intro n
  induction n with
  | zero => intro S x4 x5 h; exact h.elim
  | succ n ih =>
    intro S x4 x5 h
    unfold l_M_remove_216 at h
    refine z_iload C 2 rfl d_M_remove_216 ?_
    refine z_bipush (v := (10 : Int32)) C rfl d_M_remove_218 ?_
    refine z_icmp_gt (tgt := 263) C d_M_remove_220 rfl (fun c => ?_) (fun c => ?_)
    · have h := h.1 c
      refine z_aload_n C 0 rfl rfl d_M_remove_263 ?_
      refine z_iconst (v := (0 : Int32)) C rfl d_M_remove_264 ?_
      refine z_callVv (rest := []) C q_M_answer tw_1224 (c_M_answer _ B (0 : Int32) S _ h) rc_M ⟨Nat.le_of_ble_eq_true rfl, Nat.le_of_ble_eq_true rfl⟩ rfl rfl (Nat.le_of_ble_eq_true rfl) d_M_remove_265 (fun S1 h => ?_)
      exact z_vreturn C G hr h d_M_remove_268
    · have h := h.2 c
      refine z_aload_n C 0 rfl rfl d_M_remove_223 ?_
      refine gf_M_kind C (Or.inl tw_999) d_M_remove_224 ?_
      refine z_iload C 2 rfl d_M_remove_227 ?_
      obtain ⟨f2, h⟩ := h
      refine al_m_kind C f2 d_M_remove_229 ?_
      refine z_iconst (v := (1 : Int32)) C rfl d_M_remove_230 ?_
      refine z_icmp_ne (tgt := 257) C d_M_remove_231 rfl (fun c => ?_) (fun c => ?_)
      · have h := h.2 c
        exact z_sub [0, 1, 2] rfl (vj_M_remove_257 C a1 a2 P G hr hnl (fun S x4 x5 => l_M_remove_216 a1 a2 P n S x4 x5) ih S x4 x5 h)
      · have h := h.1 c
        refine z_aload_n C 0 rfl rfl d_M_remove_234 ?_
        refine gf_M_its C (Or.inl tw_1000) d_M_remove_235 ?_
        refine z_iload C 2 rfl d_M_remove_238 ?_
        refine al_m_its C f2 d_M_remove_240 ?_
        refine z_iload C 1 rfl d_M_remove_241 ?_
        refine z_icmp_le (tgt := 257) C d_M_remove_243 rfl (fun c => ?_) (fun c => ?_)
        · have h := h.1 c
          exact z_sub [0, 1, 2] rfl (vj_M_remove_257 C a1 a2 P G hr hnl (fun S x4 x5 => l_M_remove_216 a1 a2 P n S x4 x5) ih S x4 x5 h)
        · have h := h.2 c
          refine z_aload_n C 0 rfl rfl d_M_remove_246 ?_
          refine gf_M_its C (Or.inl tw_1000) d_M_remove_247 ?_
          refine z_iload C 2 rfl d_M_remove_250 ?_
          refine z_dup2 C rfl rfl d_M_remove_252 ?_
          refine al_m_its C f2 d_M_remove_253 ?_
          refine z_iconst (v := (1 : Int32)) C rfl d_M_remove_254 ?_
          refine z_isub C d_M_remove_255 ?_
          refine as_m_its C f2 d_M_remove_256 ?_
          refine z_nS (fun S3 eS3 => ?_)
          have h := h S3 eS3
          exact z_sub [0, 1, 2] rfl (vj_M_remove_257 C a1 a2 P G hr hnl (fun S x4 x5 => l_M_remove_216 a1 a2 P n S x4 x5) ih S3 x4 x5 h)
def l_M_remove_75 (a1 : Int32) (a2 : Int32) (P : zS → Prop) : Nat → zS → Int32 → Int32 → Prop
  | 0, _, _, _ => False
  | n + 1, S, x4, x5 =>
  ((gM S 0 14) ≤ x5 → (∃ n1 : Nat, l_M_remove_216 a1 a2 P n1 S x4 (1 : Int32))) ∧ (¬ (gM S 0 14) ≤ x5 → (vp_in (x5 + (1 : Int32)) 12 ∧ vp_in x5 12 ∧ ∀ S4 : zS, S4 = sM S 4 x5.toNatClampNeg (gM S 4 (x5 + (1 : Int32)).toNatClampNeg) → ∀ S5 : zS, S5 = sM S4 6 x5.toNatClampNeg (gM S4 6 (x5 + (1 : Int32)).toNatClampNeg) → ∃ n6 : Nat, l_M_remove_119 a1 a2 P (fun S x4 x5 => l_M_remove_75 a1 a2 P n S x4 x5) n6 S5 x4 x5 (0 : Int32)))
set_option maxRecDepth 20000 in
set_option maxHeartbeats 4000000 in
theorem vl_M_remove_75 {E : zE} {B : zK} (C : zC E (wR B) prog_12_method_50_code "HostBenchModel" 3 65) (a1 : Int32) (a2 : Int32) (P : zS → Prop) (G : zGoal E (zQ (wR B) (zPv P)) (wR B)) (hr : zRt E (none)) (hnl : E.2.2.2.2.2.2.2.2.2.2.1 = 7) : ∀ (n : Nat) (S : zS) (x4 : Int32) (x5 : Int32) , l_M_remove_75 a1 a2 P n S x4 x5 → zV E (wR B) S 75 [(0, .ref (ad B 0)), (4, .int x4), (5, .int x5)] [] := by
  intro n
  induction n with
  | zero => intro S x4 x5 h; exact h.elim
  | succ n ih =>
    intro S x4 x5 h
    unfold l_M_remove_75 at h
    refine z_iload C 2 rfl d_M_remove_75 ?_
    refine z_aload_n C 0 rfl rfl d_M_remove_77 ?_
    refine gf_M_files C (Or.inl tw_998) d_M_remove_78 ?_
    refine z_icmp_ge (tgt := 213) C d_M_remove_81 rfl (fun c => ?_) (fun c => ?_)
    · have h := h.1 c
      refine z_iconst (v := (1 : Int32)) C rfl d_M_remove_213 ?_
      refine z_istore (L' := [(5, .int (1 : Int32)), (0, .ref (ad B 0)), (4, .int x4)]) C hnl (by decide) rfl d_M_remove_214 ?_
      obtain ⟨n1, h⟩ := h
      exact z_sub [1, 2, 0] rfl (vl_M_remove_216 C a1 a2 P G hr hnl n1 S x4 (1 : Int32) h)
    · have h := h.2 c
      refine z_aload_n C 0 rfl rfl d_M_remove_84 ?_
      refine gf_M_size C (Or.inl tw_995) d_M_remove_85 ?_
      refine z_iload C 2 rfl d_M_remove_88 ?_
      refine z_aload_n C 0 rfl rfl d_M_remove_90 ?_
      refine gf_M_size C (Or.inl tw_995) d_M_remove_91 ?_
      refine z_iload C 2 rfl d_M_remove_94 ?_
      refine z_iconst (v := (1 : Int32)) C rfl d_M_remove_96 ?_
      refine z_iadd C d_M_remove_97 ?_
      obtain ⟨f2, h⟩ := h
      refine al_m_size C f2 d_M_remove_98 ?_
      obtain ⟨f3, h⟩ := h
      refine as_m_size C f3 d_M_remove_99 ?_
      refine z_nS (fun S4 eS4 => ?_)
      have h := h S4 eS4
      refine z_aload_n C 0 rfl rfl d_M_remove_100 ?_
      refine gf_M_nameSize C (Or.inl tw_997) d_M_remove_101 ?_
      refine z_iload C 2 rfl d_M_remove_104 ?_
      refine z_aload_n C 0 rfl rfl d_M_remove_106 ?_
      refine gf_M_nameSize C (Or.inl tw_997) d_M_remove_107 ?_
      refine z_iload C 2 rfl d_M_remove_110 ?_
      refine z_iconst (v := (1 : Int32)) C rfl d_M_remove_112 ?_
      refine z_iadd C d_M_remove_113 ?_
      refine al_m_nameSize C f2 d_M_remove_114 ?_
      refine as_m_nameSize C f3 d_M_remove_115 ?_
      refine z_nS (fun S5 eS5 => ?_)
      have h := h S5 eS5
      refine z_iconst (v := (0 : Int32)) C rfl d_M_remove_116 ?_
      refine z_istore (L' := [(6, .int (0 : Int32)), (0, .ref (ad B 0)), (4, .int x4), (5, .int x5)]) C hnl (by decide) rfl d_M_remove_117 ?_
      obtain ⟨n6, h⟩ := h
      exact z_sub [1, 2, 3, 0] rfl (vl_M_remove_119 C a1 a2 P G hr hnl (fun S x4 x5 => l_M_remove_75 a1 a2 P n S x4 x5) ih n6 S5 x4 x5 (0 : Int32) h)
def j_M_remove_51 (a1 : Int32) (a2 : Int32) (P : zS → Prop) (S : zS) (x3 : Int32) (x4 : Int32) : Prop :=
  (x3 ≤ 0 → (∀ S1 : zS, S1 = sM S 0 14 ((gM S 0 14) - (1 : Int32)) → ∃ n2 : Nat, l_M_remove_75 a1 a2 P n2 S1 x4 x4)) ∧ (¬ x3 ≤ 0 → (w_M_fails x3 S (fun S3 => P S3)))
set_option maxRecDepth 20000 in
set_option maxHeartbeats 4000000 in
theorem vj_M_remove_51 {E : zE} {B : zK} (C : zC E (wR B) prog_12_method_50_code "HostBenchModel" 3 65) (a1 : Int32) (a2 : Int32) (P : zS → Prop) (G : zGoal E (zQ (wR B) (zPv P)) (wR B)) (hr : zRt E (none)) (hnl : E.2.2.2.2.2.2.2.2.2.2.1 = 7) (S : zS) (x3 : Int32) (x4 : Int32) (h : j_M_remove_51 a1 a2 P S x3 x4) : zV E (wR B) S 51 [(0, .ref (ad B 0)), (3, .int x3), (4, .int x4)] [] := by
  unfold j_M_remove_51 at h
  refine z_iload_n C 1 rfl rfl d_M_remove_51 ?_
  refine z_if_le (tgt := 61) C d_M_remove_52 rfl (fun c => ?_) (fun c => ?_)
  · have h := h.1 c
    refine z_aload_n C 0 rfl rfl d_M_remove_61 ?_
    refine z_dup C rfl d_M_remove_62 ?_
    refine gf_M_files C (Or.inl tw_998) d_M_remove_63 ?_
    refine z_iconst (v := (1 : Int32)) C rfl d_M_remove_66 ?_
    refine z_isub C d_M_remove_67 ?_
    refine pf_M_files C (Or.inl tw_998) d_M_remove_68 ?_
    refine z_nS (fun S1 eS1 => ?_)
    have h := h S1 eS1
    refine z_iload C 2 rfl d_M_remove_71 ?_
    refine z_istore (L' := [(5, .int x4), (0, .ref (ad B 0)), (3, .int x3), (4, .int x4)]) C hnl (by decide) rfl d_M_remove_73 ?_
    obtain ⟨n2, h⟩ := h
    exact z_sub [1, 3, 0] rfl (vl_M_remove_75 C a1 a2 P G hr hnl n2 S1 x4 x4 h)
  · have h := h.2 c
    refine z_aload_n C 0 rfl rfl d_M_remove_55 ?_
    refine z_iload_n C 1 rfl rfl d_M_remove_56 ?_
    refine z_callVv (rest := []) C q_M_fails tw_1204 (c_M_fails _ B x3 S _ h) rc_M ⟨Nat.le_of_ble_eq_true rfl, Nat.le_of_ble_eq_true rfl⟩ rfl rfl (Nat.le_of_ble_eq_true rfl) d_M_remove_57 (fun S3 h => ?_)
    exact z_vreturn C G hr h d_M_remove_60
def j_M_remove_35 (a1 : Int32) (a2 : Int32) (P : zS → Prop) (S : zS) (x3 : Int32) (x4 : Int32) : Prop :=
  (x3 = 0 → (w_M_openOf x4 S (fun S1 r2 => (r2 ≤ 0 → (j_M_remove_51 a1 a2 P S1 x3 x4)) ∧ (¬ r2 ≤ 0 → (j_M_remove_51 a1 a2 P S1 (16 : Int32) x4))))) ∧ (¬ x3 = 0 → (j_M_remove_51 a1 a2 P S x3 x4))
set_option maxRecDepth 20000 in
set_option maxHeartbeats 4000000 in
theorem vj_M_remove_35 {E : zE} {B : zK} (C : zC E (wR B) prog_12_method_50_code "HostBenchModel" 3 65) (a1 : Int32) (a2 : Int32) (P : zS → Prop) (G : zGoal E (zQ (wR B) (zPv P)) (wR B)) (hr : zRt E (none)) (hnl : E.2.2.2.2.2.2.2.2.2.2.1 = 7) (S : zS) (x3 : Int32) (x4 : Int32) (h : j_M_remove_35 a1 a2 P S x3 x4) : zV E (wR B) S 35 [(0, .ref (ad B 0)), (3, .int x3), (4, .int x4)] [] := by
  unfold j_M_remove_35 at h
  refine z_iload_n C 1 rfl rfl d_M_remove_35 ?_
  refine z_if_ne (tgt := 51) C d_M_remove_36 rfl (fun c => ?_) (fun c => ?_)
  · have h := h.2 c
    exact z_sub [0, 1, 2] rfl (vj_M_remove_51 C a1 a2 P G hr hnl S x3 x4 h)
  · have h := h.1 c
    refine z_aload_n C 0 rfl rfl d_M_remove_39 ?_
    refine z_iload C 2 rfl d_M_remove_40 ?_
    refine z_callVi (rest := []) C q_M_openOf tw_1107 (c_M_openOf _ B x4 S _ h) rc_M ⟨Nat.le_of_ble_eq_true rfl, Nat.le_of_ble_eq_true rfl⟩ rfl rfl (Nat.le_of_ble_eq_true rfl) d_M_remove_42 (fun S1 r2 h => ?_)
    refine z_if_le (tgt := 51) C d_M_remove_45 rfl (fun c => ?_) (fun c => ?_)
    · have h := h.1 c
      exact z_sub [0, 1, 2] rfl (vj_M_remove_51 C a1 a2 P G hr hnl S1 x3 x4 h)
    · have h := h.2 c
      refine z_bipush (v := (16 : Int32)) C rfl d_M_remove_48 ?_
      refine z_istore_n (L' := [(3, .int (16 : Int32)), (0, .ref (ad B 0)), (4, .int x4)]) C hnl rfl (by decide) rfl d_M_remove_50 ?_
      exact z_sub [1, 0, 2] rfl (vj_M_remove_51 C a1 a2 P G hr hnl S1 (16 : Int32) x4 h)
def j_M_remove_21 (a1 : Int32) (a2 : Int32) (P : zS → Prop) (S : zS) (x3 : Int32) (s0 : Int32) : Prop :=
  (x3 = 0 → ((s0 = (-1 : Int32) → (j_M_remove_35 a1 a2 P S (2 : Int32) s0)) ∧ (¬ s0 = (-1 : Int32) → (j_M_remove_35 a1 a2 P S x3 s0)))) ∧ (¬ x3 = 0 → (j_M_remove_35 a1 a2 P S x3 s0))
set_option maxRecDepth 20000 in
set_option maxHeartbeats 4000000 in
theorem vj_M_remove_21 {E : zE} {B : zK} (C : zC E (wR B) prog_12_method_50_code "HostBenchModel" 3 65) (a1 : Int32) (a2 : Int32) (P : zS → Prop) (G : zGoal E (zQ (wR B) (zPv P)) (wR B)) (hr : zRt E (none)) (hnl : E.2.2.2.2.2.2.2.2.2.2.1 = 7) (S : zS) (x3 : Int32) (s0 : Int32) (h : j_M_remove_21 a1 a2 P S x3 s0) : zV E (wR B) S 21 [(0, .ref (ad B 0)), (3, .int x3)] [.int s0] := by
  unfold j_M_remove_21 at h
  refine z_istore (L' := [(4, .int s0), (0, .ref (ad B 0)), (3, .int x3)]) C hnl (by decide) rfl d_M_remove_21 ?_
  refine z_iload_n C 2 rfl rfl d_M_remove_23 ?_
  refine z_if_ne (tgt := 35) C d_M_remove_24 rfl (fun c => ?_) (fun c => ?_)
  · have h := h.2 c
    exact z_sub [1, 2, 0] rfl (vj_M_remove_35 C a1 a2 P G hr hnl S x3 s0 h)
  · have h := h.1 c
    refine z_iload C 0 rfl d_M_remove_27 ?_
    refine z_iconst (v := (-1 : Int32)) C rfl d_M_remove_29 ?_
    refine z_icmp_ne (tgt := 35) C d_M_remove_30 rfl (fun c => ?_) (fun c => ?_)
    · have h := h.2 c
      exact z_sub [1, 2, 0] rfl (vj_M_remove_35 C a1 a2 P G hr hnl S x3 s0 h)
    · have h := h.1 c
      refine z_iconst (v := (2 : Int32)) C rfl d_M_remove_33 ?_
      refine z_istore_n (L' := [(3, .int (2 : Int32)), (4, .int s0), (0, .ref (ad B 0))]) C hnl rfl (by decide) rfl d_M_remove_34 ?_
      exact z_sub [2, 0, 1] rfl (vj_M_remove_35 C a1 a2 P G hr hnl S (2 : Int32) s0 h)
def w_M_remove (a1 : Int32) (a2 : Int32) (S : zS) (P : zS → Prop) : Prop :=
  w_M_nameFault a1 a2 S (fun S1 r2 => (r2 = 0 → (w_M_find a1 a2 S1 (fun S3 r4 => j_M_remove_21 a1 a2 P S3 r2 r4))) ∧ (¬ r2 = 0 → (j_M_remove_21 a1 a2 P S1 r2 (-1 : Int32))))
set_option maxRecDepth 20000 in
set_option maxHeartbeats 4000000 in
theorem v_M_remove {E : zE} {B : zK} (C : zC E (wR B) prog_12_method_50_code "HostBenchModel" 3 65) (a1 : Int32) (a2 : Int32) (P : zS → Prop) (G : zGoal E (zQ (wR B) (zPv P)) (wR B)) (hr : zRt E (none)) (hnl : E.2.2.2.2.2.2.2.2.2.2.1 = 7) (S : zS) (h : w_M_remove a1 a2 S P) : zV E (wR B) S 0 [(0, .ref (ad B 0)), (1, .int a1), (2, .int a2)] [] := by
  unfold w_M_remove at h
  refine z_aload_n C 0 rfl rfl d_M_remove_0 ?_
  refine z_iload_n C 1 rfl rfl d_M_remove_1 ?_
  refine z_iload_n C 2 rfl rfl d_M_remove_2 ?_
  refine z_callVi (rest := []) C q_M_nameFault tw_1216 (c_M_nameFault _ B a1 a2 S _ h) rc_M ⟨Nat.le_of_ble_eq_true rfl, Nat.le_of_ble_eq_true rfl⟩ rfl rfl (Nat.le_of_ble_eq_true rfl) d_M_remove_3 (fun S1 r2 h => ?_)
  refine z_istore_n (L' := [(3, .int r2), (0, .ref (ad B 0)), (1, .int a1), (2, .int a2)]) C hnl rfl (by decide) rfl d_M_remove_6 ?_
  refine z_iload_n C 0 rfl rfl d_M_remove_7 ?_
  refine z_if_ne (tgt := 20) C d_M_remove_8 rfl (fun c => ?_) (fun c => ?_)
  · have h := h.2 c
    refine z_iconst (v := (-1 : Int32)) C rfl d_M_remove_20 ?_
    exact z_sub [1, 0] rfl (vj_M_remove_21 C a1 a2 P G hr hnl S1 r2 (-1 : Int32) h)
  · have h := h.1 c
    refine z_aload_n C 1 rfl rfl d_M_remove_11 ?_
    refine z_iload_n C 2 rfl rfl d_M_remove_12 ?_
    refine z_iload_n C 3 rfl rfl d_M_remove_13 ?_
    refine z_callVi (rest := []) C q_M_find tw_1228 (c_M_find _ B a1 a2 S1 _ h) rc_M ⟨Nat.le_of_ble_eq_true rfl, Nat.le_of_ble_eq_true rfl⟩ rfl rfl (Nat.le_of_ble_eq_true rfl) d_M_remove_14 (fun S3 r4 h => ?_)
    refine z_goto (tgt := 21) C d_M_remove_17 rfl ?_
    exact z_sub [1, 0] rfl (vj_M_remove_21 C a1 a2 P G hr hnl S3 r2 r4 h)
theorem c_M_remove (l : Launch) (B : zK) (a1 : Int32) (a2 : Int32) (S : zS) (P : zS → Prop) (h : w_M_remove a1 a2 S P) : Met l y_M_remove (Cond.code y_M_remove prog_12_method_50_code 7 none :: tT) (zRm 3 65) (zPc (wR B) [.ref (ad B 0), .int a1, .int a2] S) (zQ (wR B) (zPv P)) 0 0 (wR B).2.2.2 :=
  z_met (by decide) (Nat.le_of_ble_eq_true rfl) (fun E C G hr _ hnl => v_M_remove C a1 a2 P G hr hnl S h)
theorem q_M_remove : zQw y_M_remove prog_12_method_50_code 7 none 2 := ⟨tw_1277, tw_70, tw_87, tw_1278, by decide +kernel⟩
def l_M_rename_135 (a1 : Int32) (a2 : Int32) (a3 : Int32) (a4 : Int32) (P : zS → Prop) : Nat → zS → Int32 → Int32 → Prop
  | 0, _, _, _ => False
  | n + 1, S, x6, x8 =>
  (a4 ≤ x8 → (w_M_answer (0 : Int32) S (fun S1 => P S1))) ∧ (¬ a4 ≤ x8 → (vp_in (a3 + x8) 16384 ∧ vp_in (((24 : Int32) * x6) + x8) 288 ∧ ∀ S4 : zS, S4 = sM S 5 (((24 : Int32) * x6) + x8).toNatClampNeg (gM S 1 (a3 + x8).toNatClampNeg) → l_M_rename_135 a1 a2 a3 a4 P n S4 x6 (x8 + (1 : Int32))))
set_option maxRecDepth 20000 in
set_option maxHeartbeats 4000000 in
theorem vl_M_rename_135 {E : zE} {B : zK} (C : zC E (wR B) prog_12_method_51_code "HostBenchModel" 3 65) (a1 : Int32) (a2 : Int32) (a3 : Int32) (a4 : Int32) (P : zS → Prop) (G : zGoal E (zQ (wR B) (zPv P)) (wR B)) (hr : zRt E (none)) (hnl : E.2.2.2.2.2.2.2.2.2.2.1 = 9) : ∀ (n : Nat) (S : zS) (x6 : Int32) (x8 : Int32) , l_M_rename_135 a1 a2 a3 a4 P n S x6 x8 → zV E (wR B) S 135 [(0, .ref (ad B 0)), (3, .int a3), (4, .int a4), (6, .int x6), (8, .int x8)] [] := by
  intro n
  induction n with
  | zero => intro S x6 x8 h; exact h.elim
  | succ n ih =>
    intro S x6 x8 h
    unfold l_M_rename_135 at h
    refine z_iload C 4 rfl d_M_rename_135 ?_
    refine z_iload C 2 rfl d_M_rename_137 ?_
    refine z_icmp_ge (tgt := 170) C d_M_rename_139 rfl (fun c => ?_) (fun c => ?_)
    · have h := h.1 c
      refine z_aload_n C 0 rfl rfl d_M_rename_170 ?_
      refine z_iconst (v := (0 : Int32)) C rfl d_M_rename_171 ?_
      refine z_callVv (rest := []) C q_M_answer tw_1224 (c_M_answer _ B (0 : Int32) S _ h) rc_M ⟨Nat.le_of_ble_eq_true rfl, Nat.le_of_ble_eq_true rfl⟩ rfl rfl (Nat.le_of_ble_eq_true rfl) d_M_rename_172 (fun S1 h => ?_)
      exact z_vreturn C G hr h d_M_rename_175
    · have h := h.2 c
      refine z_aload_n C 0 rfl rfl d_M_rename_142 ?_
      refine gf_M_name C (Or.inl tw_996) d_M_rename_143 ?_
      refine z_bipush (v := (24 : Int32)) C rfl d_M_rename_146 ?_
      refine z_iload C 3 rfl d_M_rename_148 ?_
      refine z_imul C d_M_rename_150 ?_
      refine z_iload C 4 rfl d_M_rename_151 ?_
      refine z_iadd C d_M_rename_153 ?_
      refine z_aload_n C 0 rfl rfl d_M_rename_154 ?_
      refine gf_M_memory C (Or.inl tw_985) d_M_rename_155 ?_
      refine z_iload_n C 1 rfl rfl d_M_rename_158 ?_
      refine z_iload C 4 rfl d_M_rename_159 ?_
      refine z_iadd C d_M_rename_161 ?_
      obtain ⟨f2, h⟩ := h
      refine al_m_memory C f2 d_M_rename_162 ?_
      obtain ⟨f3, h⟩ := h
      refine as_m_name C f3 d_M_rename_163 ?_
      refine z_nS (fun S4 eS4 => ?_)
      have h := h S4 eS4
      refine z_iinc (v := x8 + (1 : Int32)) (L' := [(8, .int (x8 + (1 : Int32))), (0, .ref (ad B 0)), (3, .int a3), (4, .int a4), (6, .int x6)]) C hnl 4 rfl rfl (by decide) rfl d_M_rename_164 ?_
      refine z_goto (tgt := 135) C d_M_rename_167 rfl ?_
      exact z_sub [1, 2, 3, 4, 0] rfl (ih S4 x6 (x8 + (1 : Int32)) h)
def j_M_rename_111 (a1 : Int32) (a2 : Int32) (a3 : Int32) (a4 : Int32) (P : zS → Prop) (S : zS) (x5 : Int32) (x6 : Int32) : Prop :=
  (x5 ≤ 0 → (vp_in x6 12 ∧ ∀ S2 : zS, S2 = sM S 6 x6.toNatClampNeg a4 → ∃ n3 : Nat, l_M_rename_135 a1 a2 a3 a4 P n3 S2 x6 (0 : Int32))) ∧ (¬ x5 ≤ 0 → (w_M_fails x5 S (fun S4 => P S4)))
set_option maxRecDepth 20000 in
set_option maxHeartbeats 4000000 in
theorem vj_M_rename_111 {E : zE} {B : zK} (C : zC E (wR B) prog_12_method_51_code "HostBenchModel" 3 65) (a1 : Int32) (a2 : Int32) (a3 : Int32) (a4 : Int32) (P : zS → Prop) (G : zGoal E (zQ (wR B) (zPv P)) (wR B)) (hr : zRt E (none)) (hnl : E.2.2.2.2.2.2.2.2.2.2.1 = 9) (S : zS) (x5 : Int32) (x6 : Int32) (h : j_M_rename_111 a1 a2 a3 a4 P S x5 x6) : zV E (wR B) S 111 [(0, .ref (ad B 0)), (3, .int a3), (4, .int a4), (5, .int x5), (6, .int x6)] [] := by
  unfold j_M_rename_111 at h
  refine z_iload C 3 rfl d_M_rename_111 ?_
  refine z_if_le (tgt := 123) C d_M_rename_113 rfl (fun c => ?_) (fun c => ?_)
  · have h := h.1 c
    refine z_aload_n C 0 rfl rfl d_M_rename_123 ?_
    refine gf_M_nameSize C (Or.inl tw_997) d_M_rename_124 ?_
    refine z_iload C 4 rfl d_M_rename_127 ?_
    refine z_iload C 2 rfl d_M_rename_129 ?_
    obtain ⟨f1, h⟩ := h
    refine as_m_nameSize C f1 d_M_rename_131 ?_
    refine z_nS (fun S2 eS2 => ?_)
    have h := h S2 eS2
    refine z_iconst (v := (0 : Int32)) C rfl d_M_rename_132 ?_
    refine z_istore (L' := [(8, .int (0 : Int32)), (0, .ref (ad B 0)), (3, .int a3), (4, .int a4), (5, .int x5), (6, .int x6)]) C hnl (by decide) rfl d_M_rename_133 ?_
    obtain ⟨n3, h⟩ := h
    exact z_sub [1, 2, 3, 5, 0] rfl (vl_M_rename_135 C a1 a2 a3 a4 P G hr hnl n3 S2 x6 (0 : Int32) h)
  · have h := h.2 c
    refine z_aload_n C 0 rfl rfl d_M_rename_116 ?_
    refine z_iload C 3 rfl d_M_rename_117 ?_
    refine z_callVv (rest := []) C q_M_fails tw_1204 (c_M_fails _ B x5 S _ h) rc_M ⟨Nat.le_of_ble_eq_true rfl, Nat.le_of_ble_eq_true rfl⟩ rfl rfl (Nat.le_of_ble_eq_true rfl) d_M_rename_119 (fun S4 h => ?_)
    exact z_vreturn C G hr h d_M_rename_122
def j_M_rename_87 (a1 : Int32) (a2 : Int32) (a3 : Int32) (a4 : Int32) (P : zS → Prop) (S : zS) (x5 : Int32) (x6 : Int32) (s0 : Int32) : Prop :=
  (x5 = 0 → ((s0 = (-1 : Int32) → (j_M_rename_111 a1 a2 a3 a4 P S x5 x6)) ∧ (¬ s0 = (-1 : Int32) → ((s0 = x6 → (j_M_rename_111 a1 a2 a3 a4 P S x5 x6)) ∧ (¬ s0 = x6 → (j_M_rename_111 a1 a2 a3 a4 P S (17 : Int32) x6)))))) ∧ (¬ x5 = 0 → (j_M_rename_111 a1 a2 a3 a4 P S x5 x6))
set_option maxRecDepth 20000 in
set_option maxHeartbeats 4000000 in
theorem vj_M_rename_87 {E : zE} {B : zK} (C : zC E (wR B) prog_12_method_51_code "HostBenchModel" 3 65) (a1 : Int32) (a2 : Int32) (a3 : Int32) (a4 : Int32) (P : zS → Prop) (G : zGoal E (zQ (wR B) (zPv P)) (wR B)) (hr : zRt E (none)) (hnl : E.2.2.2.2.2.2.2.2.2.2.1 = 9) (S : zS) (x5 : Int32) (x6 : Int32) (s0 : Int32) (h : j_M_rename_87 a1 a2 a3 a4 P S x5 x6 s0) : zV E (wR B) S 87 [(0, .ref (ad B 0)), (3, .int a3), (4, .int a4), (5, .int x5), (6, .int x6)] [.int s0] := by
  unfold j_M_rename_87 at h
  refine z_istore (L' := [(7, .int s0), (0, .ref (ad B 0)), (3, .int a3), (4, .int a4), (5, .int x5), (6, .int x6)]) C hnl (by decide) rfl d_M_rename_87 ?_
  refine z_iload C 4 rfl d_M_rename_89 ?_
  refine z_if_ne (tgt := 111) C d_M_rename_91 rfl (fun c => ?_) (fun c => ?_)
  · have h := h.2 c
    exact z_sub [1, 2, 3, 4, 5] rfl (vj_M_rename_111 C a1 a2 a3 a4 P G hr hnl S x5 x6 h)
  · have h := h.1 c
    refine z_iload C 0 rfl d_M_rename_94 ?_
    refine z_iconst (v := (-1 : Int32)) C rfl d_M_rename_96 ?_
    refine z_icmp_eq (tgt := 111) C d_M_rename_97 rfl (fun c => ?_) (fun c => ?_)
    · have h := h.1 c
      exact z_sub [1, 2, 3, 4, 5] rfl (vj_M_rename_111 C a1 a2 a3 a4 P G hr hnl S x5 x6 h)
    · have h := h.2 c
      refine z_iload C 0 rfl d_M_rename_100 ?_
      refine z_iload C 5 rfl d_M_rename_102 ?_
      refine z_icmp_eq (tgt := 111) C d_M_rename_104 rfl (fun c => ?_) (fun c => ?_)
      · have h := h.1 c
        exact z_sub [1, 2, 3, 4, 5] rfl (vj_M_rename_111 C a1 a2 a3 a4 P G hr hnl S x5 x6 h)
      · have h := h.2 c
        refine z_bipush (v := (17 : Int32)) C rfl d_M_rename_107 ?_
        refine z_istore (L' := [(5, .int (17 : Int32)), (7, .int s0), (0, .ref (ad B 0)), (3, .int a3), (4, .int a4), (6, .int x6)]) C hnl (by decide) rfl d_M_rename_109 ?_
        exact z_sub [2, 3, 4, 0, 5] rfl (vj_M_rename_111 C a1 a2 a3 a4 P G hr hnl S (17 : Int32) x6 h)
def j_M_rename_71 (a1 : Int32) (a2 : Int32) (a3 : Int32) (a4 : Int32) (P : zS → Prop) (S : zS) (x5 : Int32) (x6 : Int32) : Prop :=
  (x5 = 0 → (w_M_find a3 a4 S (fun S1 r2 => j_M_rename_87 a1 a2 a3 a4 P S1 x5 x6 r2))) ∧ (¬ x5 = 0 → (j_M_rename_87 a1 a2 a3 a4 P S x5 x6 (-1 : Int32)))
set_option maxRecDepth 20000 in
set_option maxHeartbeats 4000000 in
theorem vj_M_rename_71 {E : zE} {B : zK} (C : zC E (wR B) prog_12_method_51_code "HostBenchModel" 3 65) (a1 : Int32) (a2 : Int32) (a3 : Int32) (a4 : Int32) (P : zS → Prop) (G : zGoal E (zQ (wR B) (zPv P)) (wR B)) (hr : zRt E (none)) (hnl : E.2.2.2.2.2.2.2.2.2.2.1 = 9) (S : zS) (x5 : Int32) (x6 : Int32) (h : j_M_rename_71 a1 a2 a3 a4 P S x5 x6) : zV E (wR B) S 71 [(0, .ref (ad B 0)), (3, .int a3), (4, .int a4), (5, .int x5), (6, .int x6)] [] := by
  unfold j_M_rename_71 at h
  refine z_iload C 3 rfl d_M_rename_71 ?_
  refine z_if_ne (tgt := 86) C d_M_rename_73 rfl (fun c => ?_) (fun c => ?_)
  · have h := h.2 c
    refine z_iconst (v := (-1 : Int32)) C rfl d_M_rename_86 ?_
    exact z_sub [0, 1, 2, 3, 4] rfl (vj_M_rename_87 C a1 a2 a3 a4 P G hr hnl S x5 x6 (-1 : Int32) h)
  · have h := h.1 c
    refine z_aload_n C 0 rfl rfl d_M_rename_76 ?_
    refine z_iload_n C 1 rfl rfl d_M_rename_77 ?_
    refine z_iload C 2 rfl d_M_rename_78 ?_
    refine z_callVi (rest := []) C q_M_find tw_1228 (c_M_find _ B a3 a4 S _ h) rc_M ⟨Nat.le_of_ble_eq_true rfl, Nat.le_of_ble_eq_true rfl⟩ rfl rfl (Nat.le_of_ble_eq_true rfl) d_M_rename_80 (fun S1 r2 h => ?_)
    refine z_goto (tgt := 87) C d_M_rename_83 rfl ?_
    exact z_sub [0, 1, 2, 3, 4] rfl (vj_M_rename_87 C a1 a2 a3 a4 P G hr hnl S1 x5 x6 r2 h)
def j_M_rename_53 (a1 : Int32) (a2 : Int32) (a3 : Int32) (a4 : Int32) (P : zS → Prop) (S : zS) (x5 : Int32) (x6 : Int32) : Prop :=
  (x5 = 0 → (w_M_openOf x6 S (fun S1 r2 => (r2 ≤ 0 → (j_M_rename_71 a1 a2 a3 a4 P S1 x5 x6)) ∧ (¬ r2 ≤ 0 → (j_M_rename_71 a1 a2 a3 a4 P S1 (16 : Int32) x6))))) ∧ (¬ x5 = 0 → (j_M_rename_71 a1 a2 a3 a4 P S x5 x6))
set_option maxRecDepth 20000 in
set_option maxHeartbeats 4000000 in
theorem vj_M_rename_53 {E : zE} {B : zK} (C : zC E (wR B) prog_12_method_51_code "HostBenchModel" 3 65) (a1 : Int32) (a2 : Int32) (a3 : Int32) (a4 : Int32) (P : zS → Prop) (G : zGoal E (zQ (wR B) (zPv P)) (wR B)) (hr : zRt E (none)) (hnl : E.2.2.2.2.2.2.2.2.2.2.1 = 9) (S : zS) (x5 : Int32) (x6 : Int32) (h : j_M_rename_53 a1 a2 a3 a4 P S x5 x6) : zV E (wR B) S 53 [(0, .ref (ad B 0)), (3, .int a3), (4, .int a4), (5, .int x5), (6, .int x6)] [] := by
  unfold j_M_rename_53 at h
  refine z_iload C 3 rfl d_M_rename_53 ?_
  refine z_if_ne (tgt := 71) C d_M_rename_55 rfl (fun c => ?_) (fun c => ?_)
  · have h := h.2 c
    exact z_sub [0, 1, 2, 3, 4] rfl (vj_M_rename_71 C a1 a2 a3 a4 P G hr hnl S x5 x6 h)
  · have h := h.1 c
    refine z_aload_n C 0 rfl rfl d_M_rename_58 ?_
    refine z_iload C 4 rfl d_M_rename_59 ?_
    refine z_callVi (rest := []) C q_M_openOf tw_1107 (c_M_openOf _ B x6 S _ h) rc_M ⟨Nat.le_of_ble_eq_true rfl, Nat.le_of_ble_eq_true rfl⟩ rfl rfl (Nat.le_of_ble_eq_true rfl) d_M_rename_61 (fun S1 r2 h => ?_)
    refine z_if_le (tgt := 71) C d_M_rename_64 rfl (fun c => ?_) (fun c => ?_)
    · have h := h.1 c
      exact z_sub [0, 1, 2, 3, 4] rfl (vj_M_rename_71 C a1 a2 a3 a4 P G hr hnl S1 x5 x6 h)
    · have h := h.2 c
      refine z_bipush (v := (16 : Int32)) C rfl d_M_rename_67 ?_
      refine z_istore (L' := [(5, .int (16 : Int32)), (0, .ref (ad B 0)), (3, .int a3), (4, .int a4), (6, .int x6)]) C hnl (by decide) rfl d_M_rename_69 ?_
      exact z_sub [1, 2, 3, 0, 4] rfl (vj_M_rename_71 C a1 a2 a3 a4 P G hr hnl S1 (16 : Int32) x6 h)
def j_M_rename_37 (a1 : Int32) (a2 : Int32) (a3 : Int32) (a4 : Int32) (P : zS → Prop) (S : zS) (x5 : Int32) (s0 : Int32) : Prop :=
  (x5 = 0 → ((s0 = (-1 : Int32) → (j_M_rename_53 a1 a2 a3 a4 P S (2 : Int32) s0)) ∧ (¬ s0 = (-1 : Int32) → (j_M_rename_53 a1 a2 a3 a4 P S x5 s0)))) ∧ (¬ x5 = 0 → (j_M_rename_53 a1 a2 a3 a4 P S x5 s0))
set_option maxRecDepth 20000 in
set_option maxHeartbeats 4000000 in
theorem vj_M_rename_37 {E : zE} {B : zK} (C : zC E (wR B) prog_12_method_51_code "HostBenchModel" 3 65) (a1 : Int32) (a2 : Int32) (a3 : Int32) (a4 : Int32) (P : zS → Prop) (G : zGoal E (zQ (wR B) (zPv P)) (wR B)) (hr : zRt E (none)) (hnl : E.2.2.2.2.2.2.2.2.2.2.1 = 9) (S : zS) (x5 : Int32) (s0 : Int32) (h : j_M_rename_37 a1 a2 a3 a4 P S x5 s0) : zV E (wR B) S 37 [(0, .ref (ad B 0)), (3, .int a3), (4, .int a4), (5, .int x5)] [.int s0] := by
  unfold j_M_rename_37 at h
  refine z_istore (L' := [(6, .int s0), (0, .ref (ad B 0)), (3, .int a3), (4, .int a4), (5, .int x5)]) C hnl (by decide) rfl d_M_rename_37 ?_
  refine z_iload C 4 rfl d_M_rename_39 ?_
  refine z_if_ne (tgt := 53) C d_M_rename_41 rfl (fun c => ?_) (fun c => ?_)
  · have h := h.2 c
    exact z_sub [1, 2, 3, 4, 0] rfl (vj_M_rename_53 C a1 a2 a3 a4 P G hr hnl S x5 s0 h)
  · have h := h.1 c
    refine z_iload C 0 rfl d_M_rename_44 ?_
    refine z_iconst (v := (-1 : Int32)) C rfl d_M_rename_46 ?_
    refine z_icmp_ne (tgt := 53) C d_M_rename_47 rfl (fun c => ?_) (fun c => ?_)
    · have h := h.2 c
      exact z_sub [1, 2, 3, 4, 0] rfl (vj_M_rename_53 C a1 a2 a3 a4 P G hr hnl S x5 s0 h)
    · have h := h.1 c
      refine z_iconst (v := (2 : Int32)) C rfl d_M_rename_50 ?_
      refine z_istore (L' := [(5, .int (2 : Int32)), (6, .int s0), (0, .ref (ad B 0)), (3, .int a3), (4, .int a4)]) C hnl (by decide) rfl d_M_rename_51 ?_
      exact z_sub [2, 3, 4, 0, 1] rfl (vj_M_rename_53 C a1 a2 a3 a4 P G hr hnl S (2 : Int32) s0 h)
def j_M_rename_22 (a1 : Int32) (a2 : Int32) (a3 : Int32) (a4 : Int32) (P : zS → Prop) (S : zS) (x5 : Int32) : Prop :=
  (x5 = 0 → (w_M_find a1 a2 S (fun S1 r2 => j_M_rename_37 a1 a2 a3 a4 P S1 x5 r2))) ∧ (¬ x5 = 0 → (j_M_rename_37 a1 a2 a3 a4 P S x5 (-1 : Int32)))
set_option maxRecDepth 20000 in
set_option maxHeartbeats 4000000 in
theorem vj_M_rename_22 {E : zE} {B : zK} (C : zC E (wR B) prog_12_method_51_code "HostBenchModel" 3 65) (a1 : Int32) (a2 : Int32) (a3 : Int32) (a4 : Int32) (P : zS → Prop) (G : zGoal E (zQ (wR B) (zPv P)) (wR B)) (hr : zRt E (none)) (hnl : E.2.2.2.2.2.2.2.2.2.2.1 = 9) (S : zS) (x5 : Int32) (h : j_M_rename_22 a1 a2 a3 a4 P S x5) : zV E (wR B) S 22 [(0, .ref (ad B 0)), (1, .int a1), (2, .int a2), (3, .int a3), (4, .int a4), (5, .int x5)] [] := by
  unfold j_M_rename_22 at h
  refine z_iload C 5 rfl d_M_rename_22 ?_
  refine z_if_ne (tgt := 36) C d_M_rename_24 rfl (fun c => ?_) (fun c => ?_)
  · have h := h.2 c
    refine z_iconst (v := (-1 : Int32)) C rfl d_M_rename_36 ?_
    exact z_sub [0, 3, 4, 5] rfl (vj_M_rename_37 C a1 a2 a3 a4 P G hr hnl S x5 (-1 : Int32) h)
  · have h := h.1 c
    refine z_aload_n C 0 rfl rfl d_M_rename_27 ?_
    refine z_iload_n C 1 rfl rfl d_M_rename_28 ?_
    refine z_iload_n C 2 rfl rfl d_M_rename_29 ?_
    refine z_callVi (rest := []) C q_M_find tw_1228 (c_M_find _ B a1 a2 S _ h) rc_M ⟨Nat.le_of_ble_eq_true rfl, Nat.le_of_ble_eq_true rfl⟩ rfl rfl (Nat.le_of_ble_eq_true rfl) d_M_rename_30 (fun S1 r2 h => ?_)
    refine z_goto (tgt := 37) C d_M_rename_33 rfl ?_
    exact z_sub [0, 3, 4, 5] rfl (vj_M_rename_37 C a1 a2 a3 a4 P G hr hnl S1 x5 r2 h)
def w_M_rename (a1 : Int32) (a2 : Int32) (a3 : Int32) (a4 : Int32) (S : zS) (P : zS → Prop) : Prop :=
  w_M_nameFault a1 a2 S (fun S1 r2 => (r2 = 0 → (w_M_nameFault a3 a4 S1 (fun S3 r4 => j_M_rename_22 a1 a2 a3 a4 P S3 r4))) ∧ (¬ r2 = 0 → (j_M_rename_22 a1 a2 a3 a4 P S1 r2)))
set_option maxRecDepth 20000 in
set_option maxHeartbeats 4000000 in
theorem v_M_rename {E : zE} {B : zK} (C : zC E (wR B) prog_12_method_51_code "HostBenchModel" 3 65) (a1 : Int32) (a2 : Int32) (a3 : Int32) (a4 : Int32) (P : zS → Prop) (G : zGoal E (zQ (wR B) (zPv P)) (wR B)) (hr : zRt E (none)) (hnl : E.2.2.2.2.2.2.2.2.2.2.1 = 9) (S : zS) (h : w_M_rename a1 a2 a3 a4 S P) : zV E (wR B) S 0 [(0, .ref (ad B 0)), (1, .int a1), (2, .int a2), (3, .int a3), (4, .int a4)] [] := by
  unfold w_M_rename at h
  refine z_aload_n C 0 rfl rfl d_M_rename_0 ?_
  refine z_iload_n C 1 rfl rfl d_M_rename_1 ?_
  refine z_iload_n C 2 rfl rfl d_M_rename_2 ?_
  refine z_callVi (rest := []) C q_M_nameFault tw_1216 (c_M_nameFault _ B a1 a2 S _ h) rc_M ⟨Nat.le_of_ble_eq_true rfl, Nat.le_of_ble_eq_true rfl⟩ rfl rfl (Nat.le_of_ble_eq_true rfl) d_M_rename_3 (fun S1 r2 h => ?_)
  refine z_istore (L' := [(5, .int r2), (0, .ref (ad B 0)), (1, .int a1), (2, .int a2), (3, .int a3), (4, .int a4)]) C hnl (by decide) rfl d_M_rename_6 ?_
  refine z_iload C 0 rfl d_M_rename_8 ?_
  refine z_if_ne (tgt := 22) C d_M_rename_10 rfl (fun c => ?_) (fun c => ?_)
  · have h := h.2 c
    exact z_sub [1, 2, 3, 4, 5, 0] rfl (vj_M_rename_22 C a1 a2 a3 a4 P G hr hnl S1 r2 h)
  · have h := h.1 c
    refine z_aload_n C 1 rfl rfl d_M_rename_13 ?_
    refine z_iload_n C 4 rfl rfl d_M_rename_14 ?_
    refine z_iload C 5 rfl d_M_rename_15 ?_
    refine z_callVi (rest := []) C q_M_nameFault tw_1216 (c_M_nameFault _ B a3 a4 S1 _ h) rc_M ⟨Nat.le_of_ble_eq_true rfl, Nat.le_of_ble_eq_true rfl⟩ rfl rfl (Nat.le_of_ble_eq_true rfl) d_M_rename_17 (fun S3 r4 h => ?_)
    refine z_istore (L' := [(5, .int r4), (0, .ref (ad B 0)), (1, .int a1), (2, .int a2), (3, .int a3), (4, .int a4)]) C hnl (by decide) rfl d_M_rename_20 ?_
    exact z_sub [1, 2, 3, 4, 5, 0] rfl (vj_M_rename_22 C a1 a2 a3 a4 P G hr hnl S3 r4 h)
theorem c_M_rename (l : Launch) (B : zK) (a1 : Int32) (a2 : Int32) (a3 : Int32) (a4 : Int32) (S : zS) (P : zS → Prop) (h : w_M_rename a1 a2 a3 a4 S P) : Met l y_M_rename (Cond.code y_M_rename prog_12_method_51_code 9 none :: tT) (zRm 3 65) (zPc (wR B) [.ref (ad B 0), .int a1, .int a2, .int a3, .int a4] S) (zQ (wR B) (zPv P)) 0 0 (wR B).2.2.2 :=
  z_met (by decide) (Nat.le_of_ble_eq_true rfl) (fun E C G hr _ hnl => v_M_rename C a1 a2 a3 a4 P G hr hnl S h)
theorem q_M_rename : zQw y_M_rename prog_12_method_51_code 9 none 4 := ⟨tw_1281, tw_71, tw_87, tw_1282, by decide +kernel⟩
def l_M_commandTo_48 (a1 : Int32) (a2 : Int32) (P : zS → Prop) : Nat → zS → Int32 → Prop
  | 0, _, _ => False
  | n + 1, S, x3 =>
  ((gM S 0 26) ≤ x3 → (vp_in (a1 + (gM S 0 26)) 16384 ∧ ∀ S2 : zS, S2 = sM S 1 (a1 + (gM S 0 26)).toNatClampNeg (0 : Int32) → vp_in (11 : Int32) 32 ∧ w_M_lays ((gM S2 2 (11 : Int32).toNatClampNeg) + (4 : Int32)) (gM S2 0 26) (4 : Int32) S2 (fun S4 => w_M_answer (0 : Int32) S4 (fun S5 => P S5)))) ∧ (¬ (gM S 0 26) ≤ x3 → (vp_in x3 80 ∧ vp_in (a1 + x3) 16384 ∧ ∀ S8 : zS, S8 = sM S 1 (a1 + x3).toNatClampNeg (gM S 15 x3.toNatClampNeg) → l_M_commandTo_48 a1 a2 P n S8 (x3 + (1 : Int32))))
set_option maxRecDepth 20000 in
set_option maxHeartbeats 4000000 in
theorem vl_M_commandTo_48 {E : zE} {B : zK} (C : zC E (wR B) prog_12_method_52_code "HostBenchModel" 2 41) (a1 : Int32) (a2 : Int32) (P : zS → Prop) (G : zGoal E (zQ (wR B) (zPv P)) (wR B)) (hr : zRt E (none)) (hnl : E.2.2.2.2.2.2.2.2.2.2.1 = 4) : ∀ (n : Nat) (S : zS) (x3 : Int32) , l_M_commandTo_48 a1 a2 P n S x3 → zV E (wR B) S 48 [(0, .ref (ad B 0)), (1, .int a1), (3, .int x3)] [] := by
  intro n
  induction n with
  | zero => intro S x3 h; exact h.elim
  | succ n ih =>
    intro S x3 h
    unfold l_M_commandTo_48 at h
    refine z_iload_n C 2 rfl rfl d_M_commandTo_48 ?_
    refine z_aload_n C 0 rfl rfl d_M_commandTo_49 ?_
    refine gf_M_commandSize C (Or.inl tw_1010) d_M_commandTo_50 ?_
    refine z_icmp_ge (tgt := 76) C d_M_commandTo_53 rfl (fun c => ?_) (fun c => ?_)
    · have h := h.1 c
      refine z_aload_n C 0 rfl rfl d_M_commandTo_76 ?_
      refine gf_M_memory C (Or.inl tw_985) d_M_commandTo_77 ?_
      refine z_iload_n C 1 rfl rfl d_M_commandTo_80 ?_
      refine z_aload_n C 0 rfl rfl d_M_commandTo_81 ?_
      refine gf_M_commandSize C (Or.inl tw_1010) d_M_commandTo_82 ?_
      refine z_iadd C d_M_commandTo_85 ?_
      refine z_iconst (v := (0 : Int32)) C rfl d_M_commandTo_86 ?_
      obtain ⟨f1, h⟩ := h
      refine as_m_memory C f1 d_M_commandTo_87 ?_
      refine z_nS (fun S2 eS2 => ?_)
      have h := h S2 eS2
      refine z_aload_n C 0 rfl rfl d_M_commandTo_88 ?_
      refine z_aload_n C 0 rfl rfl d_M_commandTo_89 ?_
      refine gf_M_x C (Or.inl tw_986) d_M_commandTo_90 ?_
      refine z_bipush (v := (11 : Int32)) C rfl d_M_commandTo_93 ?_
      obtain ⟨f3, h⟩ := h
      refine al_m_x C f3 d_M_commandTo_95 ?_
      refine z_iconst (v := (4 : Int32)) C rfl d_M_commandTo_96 ?_
      refine z_iadd C d_M_commandTo_97 ?_
      refine z_aload_n C 0 rfl rfl d_M_commandTo_98 ?_
      refine gf_M_commandSize C (Or.inl tw_1010) d_M_commandTo_99 ?_
      refine z_iconst (v := (4 : Int32)) C rfl d_M_commandTo_102 ?_
      refine z_callVv (rest := []) C q_M_lays tw_1172 (c_M_lays _ B ((gM S2 2 (11 : Int32).toNatClampNeg) + (4 : Int32)) (gM S2 0 26) (4 : Int32) S2 _ h) rc_M ⟨Nat.le_of_ble_eq_true rfl, Nat.le_of_ble_eq_true rfl⟩ rfl rfl (Nat.le_of_ble_eq_true rfl) d_M_commandTo_103 (fun S4 h => ?_)
      refine z_aload_n C 0 rfl rfl d_M_commandTo_106 ?_
      refine z_iconst (v := (0 : Int32)) C rfl d_M_commandTo_107 ?_
      refine z_callVv (rest := []) C q_M_answer tw_1224 (c_M_answer _ B (0 : Int32) S4 _ h) rc_M ⟨Nat.le_of_ble_eq_true rfl, Nat.le_of_ble_eq_true rfl⟩ rfl rfl (Nat.le_of_ble_eq_true rfl) d_M_commandTo_108 (fun S5 h => ?_)
      exact z_vreturn C G hr h d_M_commandTo_111
    · have h := h.2 c
      refine z_aload_n C 0 rfl rfl d_M_commandTo_56 ?_
      refine gf_M_memory C (Or.inl tw_985) d_M_commandTo_57 ?_
      refine z_iload_n C 1 rfl rfl d_M_commandTo_60 ?_
      refine z_iload_n C 2 rfl rfl d_M_commandTo_61 ?_
      refine z_iadd C d_M_commandTo_62 ?_
      refine z_aload_n C 0 rfl rfl d_M_commandTo_63 ?_
      refine gf_M_command C (Or.inl tw_1009) d_M_commandTo_64 ?_
      refine z_iload_n C 2 rfl rfl d_M_commandTo_67 ?_
      obtain ⟨f6, h⟩ := h
      refine al_m_command C f6 d_M_commandTo_68 ?_
      obtain ⟨f7, h⟩ := h
      refine as_m_memory C f7 d_M_commandTo_69 ?_
      refine z_nS (fun S8 eS8 => ?_)
      have h := h S8 eS8
      refine z_iinc (v := x3 + (1 : Int32)) (L' := [(3, .int (x3 + (1 : Int32))), (0, .ref (ad B 0)), (1, .int a1)]) C hnl 2 rfl rfl (by decide) rfl d_M_commandTo_70 ?_
      refine z_goto (tgt := 48) C d_M_commandTo_73 rfl ?_
      exact z_sub [1, 2, 0] rfl (ih S8 (x3 + (1 : Int32)) h)
def w_M_commandTo (a1 : Int32) (a2 : Int32) (S : zS) (P : zS → Prop) : Prop :=
  w_M_whole a2 S (fun S1 r2 => (0 ≤ (lg_cmp r2 (((gM S1 0 26) + (1 : Int32)).toInt64)) → (w_M_isArea a1 ((gM S1 0 26) + (1 : Int32)) S1 (fun S3 r4 => (r4 = 0 → (w_M_fails (14 : Int32) S3 (fun S6 => P S6))) ∧ (¬ r4 = 0 → (∃ n5 : Nat, l_M_commandTo_48 a1 a2 P n5 S3 (0 : Int32)))))) ∧ (¬ 0 ≤ (lg_cmp r2 (((gM S1 0 26) + (1 : Int32)).toInt64)) → (w_M_fails (22 : Int32) S1 (fun S7 => P S7))))
set_option maxRecDepth 20000 in
set_option maxHeartbeats 4000000 in
theorem v_M_commandTo {E : zE} {B : zK} (C : zC E (wR B) prog_12_method_52_code "HostBenchModel" 2 41) (a1 : Int32) (a2 : Int32) (P : zS → Prop) (G : zGoal E (zQ (wR B) (zPv P)) (wR B)) (hr : zRt E (none)) (hnl : E.2.2.2.2.2.2.2.2.2.2.1 = 4) (S : zS) (h : w_M_commandTo a1 a2 S P) : zV E (wR B) S 0 [(0, .ref (ad B 0)), (1, .int a1), (2, .int a2)] [] := by
  unfold w_M_commandTo at h
  refine z_iload_n C 2 rfl rfl d_M_commandTo_0 ?_
  refine z_callSl (rest := []) C q_M_whole rfl tw_1142 (c_M_whole _ B a2 S _ h) ⟨Nat.le_of_ble_eq_true rfl, Nat.le_of_ble_eq_true rfl⟩ rfl rfl (Nat.le_of_ble_eq_true rfl) d_M_commandTo_1 (fun S1 r2 h => ?_)
  refine z_aload_n C 0 rfl rfl d_M_commandTo_4 ?_
  refine gf_M_commandSize C (Or.inl tw_1010) d_M_commandTo_5 ?_
  refine z_iconst (v := (1 : Int32)) C rfl d_M_commandTo_8 ?_
  refine z_iadd C d_M_commandTo_9 ?_
  refine z_i2l C d_M_commandTo_10 ?_
  refine z_lcmp C d_M_commandTo_11 ?_
  refine z_if_ge (tgt := 24) C d_M_commandTo_12 rfl (fun c => ?_) (fun c => ?_)
  · have h := h.1 c
    refine z_iload_n C 1 rfl rfl d_M_commandTo_24 ?_
    refine z_aload_n C 0 rfl rfl d_M_commandTo_25 ?_
    refine gf_M_commandSize C (Or.inl tw_1010) d_M_commandTo_26 ?_
    refine z_iconst (v := (1 : Int32)) C rfl d_M_commandTo_29 ?_
    refine z_iadd C d_M_commandTo_30 ?_
    refine z_callSi (rest := []) C q_M_isArea rfl tw_1139 (c_M_isArea _ B a1 ((gM S1 0 26) + (1 : Int32)) S1 _ h) ⟨Nat.le_of_ble_eq_true rfl, Nat.le_of_ble_eq_true rfl⟩ rfl rfl (Nat.le_of_ble_eq_true rfl) d_M_commandTo_31 (fun S3 r4 h => ?_)
    refine z_if_ne (tgt := 46) C d_M_commandTo_34 rfl (fun c => ?_) (fun c => ?_)
    · have h := h.2 c
      refine z_iconst (v := (0 : Int32)) C rfl d_M_commandTo_46 ?_
      refine z_istore_n (L' := [(3, .int (0 : Int32)), (0, .ref (ad B 0)), (1, .int a1), (2, .int a2)]) C hnl rfl (by decide) rfl d_M_commandTo_47 ?_
      obtain ⟨n5, h⟩ := h
      exact z_sub [1, 2, 0] rfl (vl_M_commandTo_48 C a1 a2 P G hr hnl n5 S3 (0 : Int32) h)
    · have h := h.1 c
      refine z_aload_n C 0 rfl rfl d_M_commandTo_37 ?_
      refine z_bipush (v := (14 : Int32)) C rfl d_M_commandTo_38 ?_
      refine z_callVv (rest := []) C q_M_fails tw_1204 (c_M_fails _ B (14 : Int32) S3 _ h) rc_M ⟨Nat.le_of_ble_eq_true rfl, Nat.le_of_ble_eq_true rfl⟩ rfl rfl (Nat.le_of_ble_eq_true rfl) d_M_commandTo_40 (fun S6 h => ?_)
      refine z_goto (tgt := 111) C d_M_commandTo_43 rfl ?_
      exact z_vreturn C G hr h d_M_commandTo_111
  · have h := h.2 c
    refine z_aload_n C 0 rfl rfl d_M_commandTo_15 ?_
    refine z_bipush (v := (22 : Int32)) C rfl d_M_commandTo_16 ?_
    refine z_callVv (rest := []) C q_M_fails tw_1204 (c_M_fails _ B (22 : Int32) S1 _ h) rc_M ⟨Nat.le_of_ble_eq_true rfl, Nat.le_of_ble_eq_true rfl⟩ rfl rfl (Nat.le_of_ble_eq_true rfl) d_M_commandTo_18 (fun S7 h => ?_)
    refine z_goto (tgt := 111) C d_M_commandTo_21 rfl ?_
    exact z_vreturn C G hr h d_M_commandTo_111
theorem c_M_commandTo (l : Launch) (B : zK) (a1 : Int32) (a2 : Int32) (S : zS) (P : zS → Prop) (h : w_M_commandTo a1 a2 S P) : Met l y_M_commandTo (Cond.code y_M_commandTo prog_12_method_52_code 4 none :: tT) (zRm 2 41) (zPc (wR B) [.ref (ad B 0), .int a1, .int a2] S) (zQ (wR B) (zPv P)) 0 0 (wR B).2.2.2 :=
  z_met (by decide) (Nat.le_of_ble_eq_true rfl) (fun E C G hr _ hnl => v_M_commandTo C a1 a2 P G hr hnl S h)
theorem q_M_commandTo : zQw y_M_commandTo prog_12_method_52_code 4 none 2 := ⟨tw_1286, tw_72, tw_87, tw_1287, by decide +kernel⟩
def j_M_heap_15 (a1 : Int32) (P : zS → Prop) (S : zS) : Prop :=
  w_M_fails (14 : Int32) S (fun S1 => P S1)
set_option maxRecDepth 20000 in
set_option maxHeartbeats 4000000 in
theorem vj_M_heap_15 {E : zE} {B : zK} (C : zC E (wR B) prog_12_method_53_code "HostBenchModel" 2 41) (a1 : Int32) (P : zS → Prop) (G : zGoal E (zQ (wR B) (zPv P)) (wR B)) (hr : zRt E (none)) (hnl : E.2.2.2.2.2.2.2.2.2.2.1 = 2) (S : zS) (h : j_M_heap_15 a1 P S) : zV E (wR B) S 15 [(0, .ref (ad B 0))] [] := by
  unfold j_M_heap_15 at h
  refine z_aload_n C 0 rfl rfl d_M_heap_15 ?_
  refine z_bipush (v := (14 : Int32)) C rfl d_M_heap_16 ?_
  refine z_callVv (rest := []) C q_M_fails tw_1204 (c_M_fails _ B (14 : Int32) S _ h) rc_M ⟨Nat.le_of_ble_eq_true rfl, Nat.le_of_ble_eq_true rfl⟩ rfl rfl (Nat.le_of_ble_eq_true rfl) d_M_heap_18 (fun S1 h => ?_)
  exact z_vreturn C G hr h d_M_heap_21
def w_M_heap (a1 : Int32) (S : zS) (P : zS → Prop) : Prop :=
  ((a1 &&& (3 : Int32)) = 0 → (w_M_isArea a1 (16 : Int32) S (fun S1 r2 => (r2 = 0 → (j_M_heap_15 a1 P S1)) ∧ (¬ r2 = 0 → (w_M_lays a1 (8192 : Int32) (4 : Int32) S1 (fun S3 => w_M_lays (a1 + (4 : Int32)) (12288 : Int32) (4 : Int32) S3 (fun S4 => w_M_lays (a1 + (8 : Int32)) (16384 : Int32) (4 : Int32) S4 (fun S5 => w_M_lays (a1 + (12 : Int32)) (12288 : Int32) (4 : Int32) S5 (fun S6 => w_M_answer (0 : Int32) S6 (fun S7 => P S7)))))))))) ∧ (¬ (a1 &&& (3 : Int32)) = 0 → (j_M_heap_15 a1 P S))
set_option maxRecDepth 20000 in
set_option maxHeartbeats 4000000 in
theorem v_M_heap {E : zE} {B : zK} (C : zC E (wR B) prog_12_method_53_code "HostBenchModel" 2 41) (a1 : Int32) (P : zS → Prop) (G : zGoal E (zQ (wR B) (zPv P)) (wR B)) (hr : zRt E (none)) (hnl : E.2.2.2.2.2.2.2.2.2.2.1 = 2) (S : zS) (h : w_M_heap a1 S P) : zV E (wR B) S 0 [(0, .ref (ad B 0)), (1, .int a1)] [] := by
  unfold w_M_heap at h
  refine z_iload_n C 1 rfl rfl d_M_heap_0 ?_
  refine z_iconst (v := (3 : Int32)) C rfl d_M_heap_1 ?_
  refine z_iand C d_M_heap_2 ?_
  refine z_if_ne (tgt := 15) C d_M_heap_3 rfl (fun c => ?_) (fun c => ?_)
  · have h := h.2 c
    exact z_sub [0] rfl (vj_M_heap_15 C a1 P G hr hnl S h)
  · have h := h.1 c
    refine z_iload_n C 1 rfl rfl d_M_heap_6 ?_
    refine z_bipush (v := (16 : Int32)) C rfl d_M_heap_7 ?_
    refine z_callSi (rest := []) C q_M_isArea rfl tw_1139 (c_M_isArea _ B a1 (16 : Int32) S _ h) ⟨Nat.le_of_ble_eq_true rfl, Nat.le_of_ble_eq_true rfl⟩ rfl rfl (Nat.le_of_ble_eq_true rfl) d_M_heap_9 (fun S1 r2 h => ?_)
    refine z_if_ne (tgt := 22) C d_M_heap_12 rfl (fun c => ?_) (fun c => ?_)
    · have h := h.2 c
      refine z_aload_n C 0 rfl rfl d_M_heap_22 ?_
      refine z_iload_n C 1 rfl rfl d_M_heap_23 ?_
      refine z_sipush (v := (8192 : Int32)) C rfl d_M_heap_24 ?_
      refine z_iconst (v := (4 : Int32)) C rfl d_M_heap_27 ?_
      refine z_callVv (rest := []) C q_M_lays tw_1172 (c_M_lays _ B a1 (8192 : Int32) (4 : Int32) S1 _ h) rc_M ⟨Nat.le_of_ble_eq_true rfl, Nat.le_of_ble_eq_true rfl⟩ rfl rfl (Nat.le_of_ble_eq_true rfl) d_M_heap_28 (fun S3 h => ?_)
      refine z_aload_n C 0 rfl rfl d_M_heap_31 ?_
      refine z_iload_n C 1 rfl rfl d_M_heap_32 ?_
      refine z_iconst (v := (4 : Int32)) C rfl d_M_heap_33 ?_
      refine z_iadd C d_M_heap_34 ?_
      refine z_sipush (v := (12288 : Int32)) C rfl d_M_heap_35 ?_
      refine z_iconst (v := (4 : Int32)) C rfl d_M_heap_38 ?_
      refine z_callVv (rest := []) C q_M_lays tw_1172 (c_M_lays _ B (a1 + (4 : Int32)) (12288 : Int32) (4 : Int32) S3 _ h) rc_M ⟨Nat.le_of_ble_eq_true rfl, Nat.le_of_ble_eq_true rfl⟩ rfl rfl (Nat.le_of_ble_eq_true rfl) d_M_heap_39 (fun S4 h => ?_)
      refine z_aload_n C 0 rfl rfl d_M_heap_42 ?_
      refine z_iload_n C 1 rfl rfl d_M_heap_43 ?_
      refine z_bipush (v := (8 : Int32)) C rfl d_M_heap_44 ?_
      refine z_iadd C d_M_heap_46 ?_
      refine z_sipush (v := (16384 : Int32)) C rfl d_M_heap_47 ?_
      refine z_iconst (v := (4 : Int32)) C rfl d_M_heap_50 ?_
      refine z_callVv (rest := []) C q_M_lays tw_1172 (c_M_lays _ B (a1 + (8 : Int32)) (16384 : Int32) (4 : Int32) S4 _ h) rc_M ⟨Nat.le_of_ble_eq_true rfl, Nat.le_of_ble_eq_true rfl⟩ rfl rfl (Nat.le_of_ble_eq_true rfl) d_M_heap_51 (fun S5 h => ?_)
      refine z_aload_n C 0 rfl rfl d_M_heap_54 ?_
      refine z_iload_n C 1 rfl rfl d_M_heap_55 ?_
      refine z_bipush (v := (12 : Int32)) C rfl d_M_heap_56 ?_
      refine z_iadd C d_M_heap_58 ?_
      refine z_sipush (v := (12288 : Int32)) C rfl d_M_heap_59 ?_
      refine z_iconst (v := (4 : Int32)) C rfl d_M_heap_62 ?_
      refine z_callVv (rest := []) C q_M_lays tw_1172 (c_M_lays _ B (a1 + (12 : Int32)) (12288 : Int32) (4 : Int32) S5 _ h) rc_M ⟨Nat.le_of_ble_eq_true rfl, Nat.le_of_ble_eq_true rfl⟩ rfl rfl (Nat.le_of_ble_eq_true rfl) d_M_heap_63 (fun S6 h => ?_)
      refine z_aload_n C 0 rfl rfl d_M_heap_66 ?_
      refine z_iconst (v := (0 : Int32)) C rfl d_M_heap_67 ?_
      refine z_callVv (rest := []) C q_M_answer tw_1224 (c_M_answer _ B (0 : Int32) S6 _ h) rc_M ⟨Nat.le_of_ble_eq_true rfl, Nat.le_of_ble_eq_true rfl⟩ rfl rfl (Nat.le_of_ble_eq_true rfl) d_M_heap_68 (fun S7 h => ?_)
      exact z_vreturn C G hr h d_M_heap_71
    · have h := h.1 c
      exact z_sub [0] rfl (vj_M_heap_15 C a1 P G hr hnl S1 h)
theorem c_M_heap (l : Launch) (B : zK) (a1 : Int32) (S : zS) (P : zS → Prop) (h : w_M_heap a1 S P) : Met l y_M_heap (Cond.code y_M_heap prog_12_method_53_code 2 none :: tT) (zRm 2 41) (zPc (wR B) [.ref (ad B 0), .int a1] S) (zQ (wR B) (zPv P)) 0 0 (wR B).2.2.2 :=
  z_met (by decide) (Nat.le_of_ble_eq_true rfl) (fun E C G hr _ hnl => v_M_heap C a1 P G hr hnl S h)
theorem q_M_heap : zQw y_M_heap prog_12_method_53_code 2 none 1 := ⟨tw_1290, tw_73, tw_87, tw_1291, by decide +kernel⟩
def j_M_elapsed_15 (a1 : Int32) (P : zS → Prop) (S : zS) : Prop :=
  w_M_fails (14 : Int32) S (fun S1 => P S1)
set_option maxRecDepth 20000 in
set_option maxHeartbeats 4000000 in
theorem vj_M_elapsed_15 {E : zE} {B : zK} (C : zC E (wR B) prog_12_method_54_code "HostBenchModel" 2 41) (a1 : Int32) (P : zS → Prop) (G : zGoal E (zQ (wR B) (zPv P)) (wR B)) (hr : zRt E (none)) (hnl : E.2.2.2.2.2.2.2.2.2.2.1 = 2) (S : zS) (h : j_M_elapsed_15 a1 P S) : zV E (wR B) S 15 [(0, .ref (ad B 0))] [] := by
  unfold j_M_elapsed_15 at h
  refine z_aload_n C 0 rfl rfl d_M_elapsed_15 ?_
  refine z_bipush (v := (14 : Int32)) C rfl d_M_elapsed_16 ?_
  refine z_callVv (rest := []) C q_M_fails tw_1204 (c_M_fails _ B (14 : Int32) S _ h) rc_M ⟨Nat.le_of_ble_eq_true rfl, Nat.le_of_ble_eq_true rfl⟩ rfl rfl (Nat.le_of_ble_eq_true rfl) d_M_elapsed_18 (fun S1 h => ?_)
  exact z_vreturn C G hr h d_M_elapsed_21
def w_M_elapsed (a1 : Int32) (S : zS) (P : zS → Prop) : Prop :=
  ((a1 &&& (3 : Int32)) = 0 → (w_M_isArea a1 (8 : Int32) S (fun S1 r2 => (r2 = 0 → (j_M_elapsed_15 a1 P S1)) ∧ (¬ r2 = 0 → (w_M_lays a1 ((gJ S1).toInt32) (4 : Int32) S1 (fun S3 => w_M_lays (a1 + (4 : Int32)) (((gJ S3) >>> ((32 : Int32).toInt64 &&& 63)).toInt32) (4 : Int32) S3 (fun S4 => w_M_answer (0 : Int32) S4 (fun S5 => P S5)))))))) ∧ (¬ (a1 &&& (3 : Int32)) = 0 → (j_M_elapsed_15 a1 P S))
set_option maxRecDepth 20000 in
set_option maxHeartbeats 4000000 in
theorem v_M_elapsed {E : zE} {B : zK} (C : zC E (wR B) prog_12_method_54_code "HostBenchModel" 2 41) (a1 : Int32) (P : zS → Prop) (G : zGoal E (zQ (wR B) (zPv P)) (wR B)) (hr : zRt E (none)) (hnl : E.2.2.2.2.2.2.2.2.2.2.1 = 2) (S : zS) (h : w_M_elapsed a1 S P) : zV E (wR B) S 0 [(0, .ref (ad B 0)), (1, .int a1)] [] := by
  unfold w_M_elapsed at h
  refine z_iload_n C 1 rfl rfl d_M_elapsed_0 ?_
  refine z_iconst (v := (3 : Int32)) C rfl d_M_elapsed_1 ?_
  refine z_iand C d_M_elapsed_2 ?_
  refine z_if_ne (tgt := 15) C d_M_elapsed_3 rfl (fun c => ?_) (fun c => ?_)
  · have h := h.2 c
    exact z_sub [0] rfl (vj_M_elapsed_15 C a1 P G hr hnl S h)
  · have h := h.1 c
    refine z_iload_n C 1 rfl rfl d_M_elapsed_6 ?_
    refine z_bipush (v := (8 : Int32)) C rfl d_M_elapsed_7 ?_
    refine z_callSi (rest := []) C q_M_isArea rfl tw_1139 (c_M_isArea _ B a1 (8 : Int32) S _ h) ⟨Nat.le_of_ble_eq_true rfl, Nat.le_of_ble_eq_true rfl⟩ rfl rfl (Nat.le_of_ble_eq_true rfl) d_M_elapsed_9 (fun S1 r2 h => ?_)
    refine z_if_ne (tgt := 22) C d_M_elapsed_12 rfl (fun c => ?_) (fun c => ?_)
    · have h := h.2 c
      refine z_aload_n C 0 rfl rfl d_M_elapsed_22 ?_
      refine z_iload_n C 1 rfl rfl d_M_elapsed_23 ?_
      refine z_aload_n C 0 rfl rfl d_M_elapsed_24 ?_
      refine gf_M_steps C (Or.inl tw_991) d_M_elapsed_25 ?_
      refine z_l2i C d_M_elapsed_28 ?_
      refine z_iconst (v := (4 : Int32)) C rfl d_M_elapsed_29 ?_
      refine z_callVv (rest := []) C q_M_lays tw_1172 (c_M_lays _ B a1 ((gJ S1).toInt32) (4 : Int32) S1 _ h) rc_M ⟨Nat.le_of_ble_eq_true rfl, Nat.le_of_ble_eq_true rfl⟩ rfl rfl (Nat.le_of_ble_eq_true rfl) d_M_elapsed_30 (fun S3 h => ?_)
      refine z_aload_n C 0 rfl rfl d_M_elapsed_33 ?_
      refine z_iload_n C 1 rfl rfl d_M_elapsed_34 ?_
      refine z_iconst (v := (4 : Int32)) C rfl d_M_elapsed_35 ?_
      refine z_iadd C d_M_elapsed_36 ?_
      refine z_aload_n C 0 rfl rfl d_M_elapsed_37 ?_
      refine gf_M_steps C (Or.inl tw_991) d_M_elapsed_38 ?_
      refine z_bipush (v := (32 : Int32)) C rfl d_M_elapsed_41 ?_
      refine z_lshr C d_M_elapsed_43 ?_
      refine z_l2i C d_M_elapsed_44 ?_
      refine z_iconst (v := (4 : Int32)) C rfl d_M_elapsed_45 ?_
      refine z_callVv (rest := []) C q_M_lays tw_1172 (c_M_lays _ B (a1 + (4 : Int32)) (((gJ S3) >>> ((32 : Int32).toInt64 &&& 63)).toInt32) (4 : Int32) S3 _ h) rc_M ⟨Nat.le_of_ble_eq_true rfl, Nat.le_of_ble_eq_true rfl⟩ rfl rfl (Nat.le_of_ble_eq_true rfl) d_M_elapsed_46 (fun S4 h => ?_)
      refine z_aload_n C 0 rfl rfl d_M_elapsed_49 ?_
      refine z_iconst (v := (0 : Int32)) C rfl d_M_elapsed_50 ?_
      refine z_callVv (rest := []) C q_M_answer tw_1224 (c_M_answer _ B (0 : Int32) S4 _ h) rc_M ⟨Nat.le_of_ble_eq_true rfl, Nat.le_of_ble_eq_true rfl⟩ rfl rfl (Nat.le_of_ble_eq_true rfl) d_M_elapsed_51 (fun S5 h => ?_)
      exact z_vreturn C G hr h d_M_elapsed_54
    · have h := h.1 c
      exact z_sub [0] rfl (vj_M_elapsed_15 C a1 P G hr hnl S1 h)
theorem c_M_elapsed (l : Launch) (B : zK) (a1 : Int32) (S : zS) (P : zS → Prop) (h : w_M_elapsed a1 S P) : Met l y_M_elapsed (Cond.code y_M_elapsed prog_12_method_54_code 2 none :: tT) (zRm 2 41) (zPc (wR B) [.ref (ad B 0), .int a1] S) (zQ (wR B) (zPv P)) 0 0 (wR B).2.2.2 :=
  z_met (by decide) (Nat.le_of_ble_eq_true rfl) (fun E C G hr _ hnl => v_M_elapsed C a1 P G hr hnl S h)
theorem q_M_elapsed : zQw y_M_elapsed prog_12_method_54_code 2 none 1 := ⟨tw_1295, tw_74, tw_87, tw_1296, by decide +kernel⟩
def j_M_more_239 (a1 : Int32) (a2 : Int32) (P : zS → Prop) (S : zS) (s1 : Int32) : Prop :=
  w_M_answer s1 S (fun S1 => P S1)
set_option maxRecDepth 20000 in
set_option maxHeartbeats 4000000 in
theorem vj_M_more_239 {E : zE} {B : zK} (C : zC E (wR B) prog_12_method_36_code "HostBenchModel" 4 93) (a1 : Int32) (a2 : Int32) (P : zS → Prop) (G : zGoal E (zQ (wR B) (zPv P)) (wR B)) (hr : zRt E (none)) (hnl : E.2.2.2.2.2.2.2.2.2.2.1 = 3) (S : zS) (s1 : Int32) (h : j_M_more_239 a1 a2 P S s1) : zV E (wR B) S 239 [] [.int s1, .ref (ad B 0)] := by
  unfold j_M_more_239 at h
  refine z_callVv (rest := []) C q_M_answer tw_1224 (c_M_answer _ B s1 S _ h) rc_M ⟨Nat.le_of_ble_eq_true rfl, Nat.le_of_ble_eq_true rfl⟩ rfl rfl (Nat.le_of_ble_eq_true rfl) d_M_more_239 (fun S1 h => ?_)
  refine z_goto (tgt := 465) C d_M_more_242 rfl ?_
  exact z_vreturn C G hr h d_M_more_465
def j_M_more_404 (a1 : Int32) (a2 : Int32) (P : zS → Prop) (S : zS) (s1 : Int32) : Prop :=
  ∀ S1 : zS, S1 = sM S 0 6 s1 → P S1
set_option maxRecDepth 20000 in
set_option maxHeartbeats 4000000 in
theorem vj_M_more_404 {E : zE} {B : zK} (C : zC E (wR B) prog_12_method_36_code "HostBenchModel" 4 93) (a1 : Int32) (a2 : Int32) (P : zS → Prop) (G : zGoal E (zQ (wR B) (zPv P)) (wR B)) (hr : zRt E (none)) (hnl : E.2.2.2.2.2.2.2.2.2.2.1 = 3) (S : zS) (s1 : Int32) (h : j_M_more_404 a1 a2 P S s1) : zV E (wR B) S 404 [] [.int s1, .ref (ad B 0)] := by
  unfold j_M_more_404 at h
  refine pf_M_code C (Or.inl tw_990) d_M_more_404 ?_
  refine z_nS (fun S1 eS1 => ?_)
  have h := h S1 eS1
  refine z_goto (tgt := 465) C d_M_more_407 rfl ?_
  exact z_vreturn C G hr h d_M_more_465
def j_M_more_435 (a1 : Int32) (a2 : Int32) (P : zS → Prop) (S : zS) (s1 : Int32) : Prop :=
  ∀ S1 : zS, S1 = sM S 0 6 s1 → P S1
set_option maxRecDepth 20000 in
set_option maxHeartbeats 4000000 in
theorem vj_M_more_435 {E : zE} {B : zK} (C : zC E (wR B) prog_12_method_36_code "HostBenchModel" 4 93) (a1 : Int32) (a2 : Int32) (P : zS → Prop) (G : zGoal E (zQ (wR B) (zPv P)) (wR B)) (hr : zRt E (none)) (hnl : E.2.2.2.2.2.2.2.2.2.2.1 = 3) (S : zS) (s1 : Int32) (h : j_M_more_435 a1 a2 P S s1) : zV E (wR B) S 435 [] [.int s1, .ref (ad B 0)] := by
  unfold j_M_more_435 at h
  refine pf_M_code C (Or.inl tw_990) d_M_more_435 ?_
  refine z_nS (fun S1 eS1 => ?_)
  have h := h S1 eS1
  refine z_goto (tgt := 465) C d_M_more_438 rfl ?_
  exact z_vreturn C G hr h d_M_more_465
def w_M_more (a1 : Int32) (a2 : Int32) (S : zS) (P : zS → Prop) : Prop :=
  (a1 = (10 : Int32) → (w_M_field (0 : Int32) S (fun S2 r3 => w_M_field (1 : Int32) S2 (fun S4 r5 => w_M_seek r3 r5 S4 (fun S6 => P S6))))) ∧ (¬ a1 = (10 : Int32) → ((a1 = (12 : Int32) → (w_M_field (0 : Int32) S (fun S7 r8 => w_M_isOpen r8 S7 (fun S9 r10 => (r10 = 0 → (w_M_fails (9 : Int32) S9 (fun S11 => P S11))) ∧ (¬ r10 = 0 → (w_M_field (0 : Int32) S9 (fun S12 r13 => vp_in r13 11 ∧ ((gM S12 7 r13.toNatClampNeg) ≤ (1 : Int32) → (w_M_field (0 : Int32) S12 (fun S15 r16 => vp_in r16 11 ∧ vp_in (gM S15 8 r16.toNatClampNeg) 12 ∧ j_M_more_239 a1 a2 P S15 (gM S15 4 (gM S15 8 r16.toNatClampNeg).toNatClampNeg)))) ∧ (¬ (gM S12 7 r13.toNatClampNeg) ≤ (1 : Int32) → (j_M_more_239 a1 a2 P S12 (0 : Int32)))))))))) ∧ (¬ a1 = (12 : Int32) → ((a1 = (13 : Int32) → (w_M_field (0 : Int32) S (fun S19 r20 => w_M_field (1 : Int32) S19 (fun S21 r22 => w_M_field (2 : Int32) S21 (fun S23 r24 => w_M_temporary r20 r22 r24 S23 (fun S25 => P S25)))))) ∧ (¬ a1 = (13 : Int32) → ((a1 = (14 : Int32) → (w_M_field (0 : Int32) S (fun S26 r27 => w_M_field (1 : Int32) S26 (fun S28 r29 => w_M_remove r27 r29 S28 (fun S30 => P S30))))) ∧ (¬ a1 = (14 : Int32) → ((a1 = (15 : Int32) → (w_M_field (0 : Int32) S (fun S31 r32 => w_M_field (1 : Int32) S31 (fun S33 r34 => w_M_field (2 : Int32) S33 (fun S35 r36 => w_M_field (3 : Int32) S35 (fun S37 r38 => w_M_rename r32 r34 r36 r38 S37 (fun S39 => P S39))))))) ∧ (¬ a1 = (15 : Int32) → ((a1 = (16 : Int32) → (w_M_answer (((gJ S) / (100 : Int64)).toInt32) S (fun S40 => P S40))) ∧ (¬ a1 = (16 : Int32) → ((a1 = (17 : Int32) → (w_M_answer (gM S 0 27) S (fun S41 => P S41))) ∧ (¬ a1 = (17 : Int32) → ((a1 = (19 : Int32) → (w_M_answer (gM S 0 24) S (fun S42 => P S42))) ∧ (¬ a1 = (19 : Int32) → ((a1 = (21 : Int32) → (w_M_field (0 : Int32) S (fun S43 r44 => w_M_field (1 : Int32) S43 (fun S45 r46 => w_M_commandTo r44 r46 S45 (fun S47 => P S47))))) ∧ (¬ a1 = (21 : Int32) → ((a1 = (22 : Int32) → (w_M_field (0 : Int32) S (fun S48 r49 => w_M_heap r49 S48 (fun S50 => P S50)))) ∧ (¬ a1 = (22 : Int32) → ((a1 = (24 : Int32) → (∀ S51 : zS, S51 = sM S 0 4 (1 : Int32) → (a2 = (131110 : Int32) → (j_M_more_404 a1 a2 P S51 (0 : Int32))) ∧ (¬ a2 = (131110 : Int32) → (j_M_more_404 a1 a2 P S51 (1 : Int32))))) ∧ (¬ a1 = (24 : Int32) → ((a1 = (32 : Int32) → (∀ S52 : zS, S52 = sM S 0 4 (1 : Int32) → w_M_field (0 : Int32) S52 (fun S53 r54 => (r54 = (131110 : Int32) → (w_M_field (1 : Int32) S53 (fun S55 r56 => j_M_more_435 a1 a2 P S55 r56))) ∧ (¬ r54 = (131110 : Int32) → (j_M_more_435 a1 a2 P S53 (1 : Int32)))))) ∧ (¬ a1 = (32 : Int32) → ((a1 = (48 : Int32) → (w_M_elapsed a2 S (fun S57 => P S57))) ∧ (¬ a1 = (48 : Int32) → ((a1 = (49 : Int32) → (w_M_answer (1000 : Int32) S (fun S58 => P S58))) ∧ (¬ a1 = (49 : Int32) → (w_M_fails (38 : Int32) S (fun S1 => P S1)))))))))))))))))))))))))))))
set_option maxRecDepth 20000 in
set_option maxHeartbeats 4000000 in
theorem v_M_more {E : zE} {B : zK} (C : zC E (wR B) prog_12_method_36_code "HostBenchModel" 4 93) (a1 : Int32) (a2 : Int32) (P : zS → Prop) (G : zGoal E (zQ (wR B) (zPv P)) (wR B)) (hr : zRt E (none)) (hnl : E.2.2.2.2.2.2.2.2.2.2.1 = 3) (S : zS) (h : w_M_more a1 a2 S P) : zV E (wR B) S 0 [(0, .ref (ad B 0)), (1, .int a1), (2, .int a2)] [] := by
  unfold w_M_more at h
  refine z_iload_n C 1 rfl rfl d_M_more_0 ?_
  by_cases c0 : a1 = (10 : Int32)
  · have h := h.1 c0
    refine z_tableIn (off := 175) (tgt := 176) C d_M_more_1 c0 (by decide) rfl rfl ?_
    refine z_aload_n C 0 rfl rfl d_M_more_176 ?_
    refine z_aload_n C 0 rfl rfl d_M_more_177 ?_
    refine z_iconst (v := (0 : Int32)) C rfl d_M_more_178 ?_
    refine z_callVi (rest := [.ref (ad B 0)]) C q_M_field tw_1212 (c_M_field _ B (0 : Int32) S _ h) rc_M ⟨Nat.le_of_ble_eq_true rfl, Nat.le_of_ble_eq_true rfl⟩ rfl rfl (Nat.le_of_ble_eq_true rfl) d_M_more_179 (fun S2 r3 h => ?_)
    refine z_aload_n C 0 rfl rfl d_M_more_182 ?_
    refine z_iconst (v := (1 : Int32)) C rfl d_M_more_183 ?_
    refine z_callVi (rest := [.int r3, .ref (ad B 0)]) C q_M_field tw_1212 (c_M_field _ B (1 : Int32) S2 _ h) rc_M ⟨Nat.le_of_ble_eq_true rfl, Nat.le_of_ble_eq_true rfl⟩ rfl rfl (Nat.le_of_ble_eq_true rfl) d_M_more_184 (fun S4 r5 h => ?_)
    refine z_callVv (rest := []) C q_M_seek tw_1264 (c_M_seek _ B r3 r5 S4 _ h) rc_M ⟨Nat.le_of_ble_eq_true rfl, Nat.le_of_ble_eq_true rfl⟩ rfl rfl (Nat.le_of_ble_eq_true rfl) d_M_more_187 (fun S6 h => ?_)
    refine z_goto (tgt := 465) C d_M_more_190 rfl ?_
    exact z_vreturn C G hr h d_M_more_465
  · have h := h.2 c0
    by_cases c1 : a1 = (12 : Int32)
    · have h := h.1 c1
      refine z_tableIn (off := 192) (tgt := 193) C d_M_more_1 c1 (by decide) rfl rfl ?_
      refine z_aload_n C 0 rfl rfl d_M_more_193 ?_
      refine z_aload_n C 0 rfl rfl d_M_more_194 ?_
      refine z_iconst (v := (0 : Int32)) C rfl d_M_more_195 ?_
      refine z_callVi (rest := [.ref (ad B 0)]) C q_M_field tw_1212 (c_M_field _ B (0 : Int32) S _ h) rc_M ⟨Nat.le_of_ble_eq_true rfl, Nat.le_of_ble_eq_true rfl⟩ rfl rfl (Nat.le_of_ble_eq_true rfl) d_M_more_196 (fun S7 r8 h => ?_)
      refine z_callVi (rest := []) C q_M_isOpen tw_1232 (c_M_isOpen _ B r8 S7 _ h) rc_M ⟨Nat.le_of_ble_eq_true rfl, Nat.le_of_ble_eq_true rfl⟩ rfl rfl (Nat.le_of_ble_eq_true rfl) d_M_more_199 (fun S9 r10 h => ?_)
      refine z_if_eq (tgt := 245) C d_M_more_202 rfl (fun c => ?_) (fun c => ?_)
      · have h := h.1 c
        refine z_aload_n C 0 rfl rfl d_M_more_245 ?_
        refine z_bipush (v := (9 : Int32)) C rfl d_M_more_246 ?_
        refine z_callVv (rest := []) C q_M_fails tw_1204 (c_M_fails _ B (9 : Int32) S9 _ h) rc_M ⟨Nat.le_of_ble_eq_true rfl, Nat.le_of_ble_eq_true rfl⟩ rfl rfl (Nat.le_of_ble_eq_true rfl) d_M_more_248 (fun S11 h => ?_)
        refine z_goto (tgt := 465) C d_M_more_251 rfl ?_
        exact z_vreturn C G hr h d_M_more_465
      · have h := h.2 c
        refine z_aload_n C 0 rfl rfl d_M_more_205 ?_
        refine z_aload_n C 0 rfl rfl d_M_more_206 ?_
        refine gf_M_kind C (Or.inl tw_999) d_M_more_207 ?_
        refine z_aload_n C 0 rfl rfl d_M_more_210 ?_
        refine z_iconst (v := (0 : Int32)) C rfl d_M_more_211 ?_
        refine z_callVi (rest := [.ref (ad B 7), .ref (ad B 0)]) C q_M_field tw_1212 (c_M_field _ B (0 : Int32) S9 _ h) rc_M ⟨Nat.le_of_ble_eq_true rfl, Nat.le_of_ble_eq_true rfl⟩ rfl rfl (Nat.le_of_ble_eq_true rfl) d_M_more_212 (fun S12 r13 h => ?_)
        obtain ⟨f14, h⟩ := h
        refine al_m_kind C f14 d_M_more_215 ?_
        refine z_iconst (v := (1 : Int32)) C rfl d_M_more_216 ?_
        refine z_icmp_le (tgt := 224) C d_M_more_217 rfl (fun c => ?_) (fun c => ?_)
        · have h := h.1 c
          refine z_aload_n C 0 rfl rfl d_M_more_224 ?_
          refine gf_M_size C (Or.inl tw_995) d_M_more_225 ?_
          refine z_aload_n C 0 rfl rfl d_M_more_228 ?_
          refine gf_M_its C (Or.inl tw_1000) d_M_more_229 ?_
          refine z_aload_n C 0 rfl rfl d_M_more_232 ?_
          refine z_iconst (v := (0 : Int32)) C rfl d_M_more_233 ?_
          refine z_callVi (rest := [.ref (ad B 8), .ref (ad B 4), .ref (ad B 0)]) C q_M_field tw_1212 (c_M_field _ B (0 : Int32) S12 _ h) rc_M ⟨Nat.le_of_ble_eq_true rfl, Nat.le_of_ble_eq_true rfl⟩ rfl rfl (Nat.le_of_ble_eq_true rfl) d_M_more_234 (fun S15 r16 h => ?_)
          obtain ⟨f17, h⟩ := h
          refine al_m_its C f17 d_M_more_237 ?_
          obtain ⟨f18, h⟩ := h
          refine al_m_size C f18 d_M_more_238 ?_
          exact z_sub [] rfl (vj_M_more_239 C a1 a2 P G hr hnl S15 (gM S15 4 (gM S15 8 r16.toNatClampNeg).toNatClampNeg) h)
        · have h := h.2 c
          refine z_iconst (v := (0 : Int32)) C rfl d_M_more_220 ?_
          refine z_goto (tgt := 239) C d_M_more_221 rfl ?_
          exact z_sub [] rfl (vj_M_more_239 C a1 a2 P G hr hnl S12 (0 : Int32) h)
    · have h := h.2 c1
      by_cases c2 : a1 = (13 : Int32)
      · have h := h.1 c2
        refine z_tableIn (off := 253) (tgt := 254) C d_M_more_1 c2 (by decide) rfl rfl ?_
        refine z_aload_n C 0 rfl rfl d_M_more_254 ?_
        refine z_aload_n C 0 rfl rfl d_M_more_255 ?_
        refine z_iconst (v := (0 : Int32)) C rfl d_M_more_256 ?_
        refine z_callVi (rest := [.ref (ad B 0)]) C q_M_field tw_1212 (c_M_field _ B (0 : Int32) S _ h) rc_M ⟨Nat.le_of_ble_eq_true rfl, Nat.le_of_ble_eq_true rfl⟩ rfl rfl (Nat.le_of_ble_eq_true rfl) d_M_more_257 (fun S19 r20 h => ?_)
        refine z_aload_n C 0 rfl rfl d_M_more_260 ?_
        refine z_iconst (v := (1 : Int32)) C rfl d_M_more_261 ?_
        refine z_callVi (rest := [.int r20, .ref (ad B 0)]) C q_M_field tw_1212 (c_M_field _ B (1 : Int32) S19 _ h) rc_M ⟨Nat.le_of_ble_eq_true rfl, Nat.le_of_ble_eq_true rfl⟩ rfl rfl (Nat.le_of_ble_eq_true rfl) d_M_more_262 (fun S21 r22 h => ?_)
        refine z_aload_n C 0 rfl rfl d_M_more_265 ?_
        refine z_iconst (v := (2 : Int32)) C rfl d_M_more_266 ?_
        refine z_callVi (rest := [.int r22, .int r20, .ref (ad B 0)]) C q_M_field tw_1212 (c_M_field _ B (2 : Int32) S21 _ h) rc_M ⟨Nat.le_of_ble_eq_true rfl, Nat.le_of_ble_eq_true rfl⟩ rfl rfl (Nat.le_of_ble_eq_true rfl) d_M_more_267 (fun S23 r24 h => ?_)
        refine z_callVv (rest := []) C q_M_temporary tw_1268 (c_M_temporary _ B r20 r22 r24 S23 _ h) rc_M ⟨Nat.le_of_ble_eq_true rfl, Nat.le_of_ble_eq_true rfl⟩ rfl rfl (Nat.le_of_ble_eq_true rfl) d_M_more_270 (fun S25 h => ?_)
        refine z_goto (tgt := 465) C d_M_more_273 rfl ?_
        exact z_vreturn C G hr h d_M_more_465
      · have h := h.2 c2
        by_cases c3 : a1 = (14 : Int32)
        · have h := h.1 c3
          refine z_tableIn (off := 275) (tgt := 276) C d_M_more_1 c3 (by decide) rfl rfl ?_
          refine z_aload_n C 0 rfl rfl d_M_more_276 ?_
          refine z_aload_n C 0 rfl rfl d_M_more_277 ?_
          refine z_iconst (v := (0 : Int32)) C rfl d_M_more_278 ?_
          refine z_callVi (rest := [.ref (ad B 0)]) C q_M_field tw_1212 (c_M_field _ B (0 : Int32) S _ h) rc_M ⟨Nat.le_of_ble_eq_true rfl, Nat.le_of_ble_eq_true rfl⟩ rfl rfl (Nat.le_of_ble_eq_true rfl) d_M_more_279 (fun S26 r27 h => ?_)
          refine z_aload_n C 0 rfl rfl d_M_more_282 ?_
          refine z_iconst (v := (1 : Int32)) C rfl d_M_more_283 ?_
          refine z_callVi (rest := [.int r27, .ref (ad B 0)]) C q_M_field tw_1212 (c_M_field _ B (1 : Int32) S26 _ h) rc_M ⟨Nat.le_of_ble_eq_true rfl, Nat.le_of_ble_eq_true rfl⟩ rfl rfl (Nat.le_of_ble_eq_true rfl) d_M_more_284 (fun S28 r29 h => ?_)
          refine z_callVv (rest := []) C q_M_remove tw_1275 (c_M_remove _ B r27 r29 S28 _ h) rc_M ⟨Nat.le_of_ble_eq_true rfl, Nat.le_of_ble_eq_true rfl⟩ rfl rfl (Nat.le_of_ble_eq_true rfl) d_M_more_287 (fun S30 h => ?_)
          refine z_goto (tgt := 465) C d_M_more_290 rfl ?_
          exact z_vreturn C G hr h d_M_more_465
        · have h := h.2 c3
          by_cases c4 : a1 = (15 : Int32)
          · have h := h.1 c4
            refine z_tableIn (off := 292) (tgt := 293) C d_M_more_1 c4 (by decide) rfl rfl ?_
            refine z_aload_n C 0 rfl rfl d_M_more_293 ?_
            refine z_aload_n C 0 rfl rfl d_M_more_294 ?_
            refine z_iconst (v := (0 : Int32)) C rfl d_M_more_295 ?_
            refine z_callVi (rest := [.ref (ad B 0)]) C q_M_field tw_1212 (c_M_field _ B (0 : Int32) S _ h) rc_M ⟨Nat.le_of_ble_eq_true rfl, Nat.le_of_ble_eq_true rfl⟩ rfl rfl (Nat.le_of_ble_eq_true rfl) d_M_more_296 (fun S31 r32 h => ?_)
            refine z_aload_n C 0 rfl rfl d_M_more_299 ?_
            refine z_iconst (v := (1 : Int32)) C rfl d_M_more_300 ?_
            refine z_callVi (rest := [.int r32, .ref (ad B 0)]) C q_M_field tw_1212 (c_M_field _ B (1 : Int32) S31 _ h) rc_M ⟨Nat.le_of_ble_eq_true rfl, Nat.le_of_ble_eq_true rfl⟩ rfl rfl (Nat.le_of_ble_eq_true rfl) d_M_more_301 (fun S33 r34 h => ?_)
            refine z_aload_n C 0 rfl rfl d_M_more_304 ?_
            refine z_iconst (v := (2 : Int32)) C rfl d_M_more_305 ?_
            refine z_callVi (rest := [.int r34, .int r32, .ref (ad B 0)]) C q_M_field tw_1212 (c_M_field _ B (2 : Int32) S33 _ h) rc_M ⟨Nat.le_of_ble_eq_true rfl, Nat.le_of_ble_eq_true rfl⟩ rfl rfl (Nat.le_of_ble_eq_true rfl) d_M_more_306 (fun S35 r36 h => ?_)
            refine z_aload_n C 0 rfl rfl d_M_more_309 ?_
            refine z_iconst (v := (3 : Int32)) C rfl d_M_more_310 ?_
            refine z_callVi (rest := [.int r36, .int r34, .int r32, .ref (ad B 0)]) C q_M_field tw_1212 (c_M_field _ B (3 : Int32) S35 _ h) rc_M ⟨Nat.le_of_ble_eq_true rfl, Nat.le_of_ble_eq_true rfl⟩ rfl rfl (Nat.le_of_ble_eq_true rfl) d_M_more_311 (fun S37 r38 h => ?_)
            refine z_callVv (rest := []) C q_M_rename tw_1279 (c_M_rename _ B r32 r34 r36 r38 S37 _ h) rc_M ⟨Nat.le_of_ble_eq_true rfl, Nat.le_of_ble_eq_true rfl⟩ rfl rfl (Nat.le_of_ble_eq_true rfl) d_M_more_314 (fun S39 h => ?_)
            refine z_goto (tgt := 465) C d_M_more_317 rfl ?_
            exact z_vreturn C G hr h d_M_more_465
          · have h := h.2 c4
            by_cases c5 : a1 = (16 : Int32)
            · have h := h.1 c5
              refine z_tableIn (off := 319) (tgt := 320) C d_M_more_1 c5 (by decide) rfl rfl ?_
              refine z_aload_n C 0 rfl rfl d_M_more_320 ?_
              refine z_aload_n C 0 rfl rfl d_M_more_321 ?_
              refine gf_M_steps C (Or.inl tw_991) d_M_more_322 ?_
              refine z_ldc2 (v := (100 : Int64)) C tw_1283 d_M_more_325 ?_
              refine z_ldiv C (by decide) d_M_more_328 ?_
              refine z_l2i C d_M_more_329 ?_
              refine z_callVv (rest := []) C q_M_answer tw_1224 (c_M_answer _ B (((gJ S) / (100 : Int64)).toInt32) S _ h) rc_M ⟨Nat.le_of_ble_eq_true rfl, Nat.le_of_ble_eq_true rfl⟩ rfl rfl (Nat.le_of_ble_eq_true rfl) d_M_more_330 (fun S40 h => ?_)
              refine z_goto (tgt := 465) C d_M_more_333 rfl ?_
              exact z_vreturn C G hr h d_M_more_465
            · have h := h.2 c5
              by_cases c6 : a1 = (17 : Int32)
              · have h := h.1 c6
                refine z_tableIn (off := 335) (tgt := 336) C d_M_more_1 c6 (by decide) rfl rfl ?_
                refine z_aload_n C 0 rfl rfl d_M_more_336 ?_
                refine z_aload_n C 0 rfl rfl d_M_more_337 ?_
                refine gf_M_clock C (Or.inl tw_1011) d_M_more_338 ?_
                refine z_callVv (rest := []) C q_M_answer tw_1224 (c_M_answer _ B (gM S 0 27) S _ h) rc_M ⟨Nat.le_of_ble_eq_true rfl, Nat.le_of_ble_eq_true rfl⟩ rfl rfl (Nat.le_of_ble_eq_true rfl) d_M_more_341 (fun S41 h => ?_)
                refine z_goto (tgt := 465) C d_M_more_344 rfl ?_
                exact z_vreturn C G hr h d_M_more_465
              · have h := h.2 c6
                by_cases c7 : a1 = (19 : Int32)
                · have h := h.1 c7
                  refine z_tableIn (off := 346) (tgt := 347) C d_M_more_1 c7 (by decide) rfl rfl ?_
                  refine z_aload_n C 0 rfl rfl d_M_more_347 ?_
                  refine z_aload_n C 0 rfl rfl d_M_more_348 ?_
                  refine gf_M_errno C (Or.inl tw_1008) d_M_more_349 ?_
                  refine z_callVv (rest := []) C q_M_answer tw_1224 (c_M_answer _ B (gM S 0 24) S _ h) rc_M ⟨Nat.le_of_ble_eq_true rfl, Nat.le_of_ble_eq_true rfl⟩ rfl rfl (Nat.le_of_ble_eq_true rfl) d_M_more_352 (fun S42 h => ?_)
                  refine z_goto (tgt := 465) C d_M_more_355 rfl ?_
                  exact z_vreturn C G hr h d_M_more_465
                · have h := h.2 c7
                  by_cases c8 : a1 = (21 : Int32)
                  · have h := h.1 c8
                    refine z_tableIn (off := 357) (tgt := 358) C d_M_more_1 c8 (by decide) rfl rfl ?_
                    refine z_aload_n C 0 rfl rfl d_M_more_358 ?_
                    refine z_aload_n C 0 rfl rfl d_M_more_359 ?_
                    refine z_iconst (v := (0 : Int32)) C rfl d_M_more_360 ?_
                    refine z_callVi (rest := [.ref (ad B 0)]) C q_M_field tw_1212 (c_M_field _ B (0 : Int32) S _ h) rc_M ⟨Nat.le_of_ble_eq_true rfl, Nat.le_of_ble_eq_true rfl⟩ rfl rfl (Nat.le_of_ble_eq_true rfl) d_M_more_361 (fun S43 r44 h => ?_)
                    refine z_aload_n C 0 rfl rfl d_M_more_364 ?_
                    refine z_iconst (v := (1 : Int32)) C rfl d_M_more_365 ?_
                    refine z_callVi (rest := [.int r44, .ref (ad B 0)]) C q_M_field tw_1212 (c_M_field _ B (1 : Int32) S43 _ h) rc_M ⟨Nat.le_of_ble_eq_true rfl, Nat.le_of_ble_eq_true rfl⟩ rfl rfl (Nat.le_of_ble_eq_true rfl) d_M_more_366 (fun S45 r46 h => ?_)
                    refine z_callVv (rest := []) C q_M_commandTo tw_1284 (c_M_commandTo _ B r44 r46 S45 _ h) rc_M ⟨Nat.le_of_ble_eq_true rfl, Nat.le_of_ble_eq_true rfl⟩ rfl rfl (Nat.le_of_ble_eq_true rfl) d_M_more_369 (fun S47 h => ?_)
                    refine z_goto (tgt := 465) C d_M_more_372 rfl ?_
                    exact z_vreturn C G hr h d_M_more_465
                  · have h := h.2 c8
                    by_cases c9 : a1 = (22 : Int32)
                    · have h := h.1 c9
                      refine z_tableIn (off := 374) (tgt := 375) C d_M_more_1 c9 (by decide) rfl rfl ?_
                      refine z_aload_n C 0 rfl rfl d_M_more_375 ?_
                      refine z_aload_n C 0 rfl rfl d_M_more_376 ?_
                      refine z_iconst (v := (0 : Int32)) C rfl d_M_more_377 ?_
                      refine z_callVi (rest := [.ref (ad B 0)]) C q_M_field tw_1212 (c_M_field _ B (0 : Int32) S _ h) rc_M ⟨Nat.le_of_ble_eq_true rfl, Nat.le_of_ble_eq_true rfl⟩ rfl rfl (Nat.le_of_ble_eq_true rfl) d_M_more_378 (fun S48 r49 h => ?_)
                      refine z_callVv (rest := []) C q_M_heap tw_1288 (c_M_heap _ B r49 S48 _ h) rc_M ⟨Nat.le_of_ble_eq_true rfl, Nat.le_of_ble_eq_true rfl⟩ rfl rfl (Nat.le_of_ble_eq_true rfl) d_M_more_381 (fun S50 h => ?_)
                      refine z_goto (tgt := 465) C d_M_more_384 rfl ?_
                      exact z_vreturn C G hr h d_M_more_465
                    · have h := h.2 c9
                      by_cases c10 : a1 = (24 : Int32)
                      · have h := h.1 c10
                        refine z_tableIn (off := 386) (tgt := 387) C d_M_more_1 c10 (by decide) rfl rfl ?_
                        refine z_aload_n C 0 rfl rfl d_M_more_387 ?_
                        refine z_iconst (v := (1 : Int32)) C rfl d_M_more_388 ?_
                        refine pf_M_state C (Or.inl tw_988) d_M_more_389 ?_
                        refine z_nS (fun S51 eS51 => ?_)
                        have h := h S51 eS51
                        refine z_aload_n C 0 rfl rfl d_M_more_392 ?_
                        refine z_iload_n C 2 rfl rfl d_M_more_393 ?_
                        refine z_ldc (v := (131110 : Int32)) C tw_1292 d_M_more_394 ?_
                        refine z_icmp_ne (tgt := 403) C d_M_more_396 rfl (fun c => ?_) (fun c => ?_)
                        · have h := h.2 c
                          refine z_iconst (v := (1 : Int32)) C rfl d_M_more_403 ?_
                          exact z_sub [] rfl (vj_M_more_404 C a1 a2 P G hr hnl S51 (1 : Int32) h)
                        · have h := h.1 c
                          refine z_iconst (v := (0 : Int32)) C rfl d_M_more_399 ?_
                          refine z_goto (tgt := 404) C d_M_more_400 rfl ?_
                          exact z_sub [] rfl (vj_M_more_404 C a1 a2 P G hr hnl S51 (0 : Int32) h)
                      · have h := h.2 c10
                        by_cases c11 : a1 = (32 : Int32)
                        · have h := h.1 c11
                          refine z_tableIn (off := 409) (tgt := 410) C d_M_more_1 c11 (by decide) rfl rfl ?_
                          refine z_aload_n C 0 rfl rfl d_M_more_410 ?_
                          refine z_iconst (v := (1 : Int32)) C rfl d_M_more_411 ?_
                          refine pf_M_state C (Or.inl tw_988) d_M_more_412 ?_
                          refine z_nS (fun S52 eS52 => ?_)
                          have h := h S52 eS52
                          refine z_aload_n C 0 rfl rfl d_M_more_415 ?_
                          refine z_aload_n C 0 rfl rfl d_M_more_416 ?_
                          refine z_iconst (v := (0 : Int32)) C rfl d_M_more_417 ?_
                          refine z_callVi (rest := [.ref (ad B 0)]) C q_M_field tw_1212 (c_M_field _ B (0 : Int32) S52 _ h) rc_M ⟨Nat.le_of_ble_eq_true rfl, Nat.le_of_ble_eq_true rfl⟩ rfl rfl (Nat.le_of_ble_eq_true rfl) d_M_more_418 (fun S53 r54 h => ?_)
                          refine z_ldc (v := (131110 : Int32)) C tw_1292 d_M_more_421 ?_
                          refine z_icmp_ne (tgt := 434) C d_M_more_423 rfl (fun c => ?_) (fun c => ?_)
                          · have h := h.2 c
                            refine z_iconst (v := (1 : Int32)) C rfl d_M_more_434 ?_
                            exact z_sub [] rfl (vj_M_more_435 C a1 a2 P G hr hnl S53 (1 : Int32) h)
                          · have h := h.1 c
                            refine z_aload_n C 0 rfl rfl d_M_more_426 ?_
                            refine z_iconst (v := (1 : Int32)) C rfl d_M_more_427 ?_
                            refine z_callVi (rest := [.ref (ad B 0)]) C q_M_field tw_1212 (c_M_field _ B (1 : Int32) S53 _ h) rc_M ⟨Nat.le_of_ble_eq_true rfl, Nat.le_of_ble_eq_true rfl⟩ rfl rfl (Nat.le_of_ble_eq_true rfl) d_M_more_428 (fun S55 r56 h => ?_)
                            refine z_goto (tgt := 435) C d_M_more_431 rfl ?_
                            exact z_sub [] rfl (vj_M_more_435 C a1 a2 P G hr hnl S55 r56 h)
                        · have h := h.2 c11
                          by_cases c12 : a1 = (48 : Int32)
                          · have h := h.1 c12
                            refine z_tableIn (off := 440) (tgt := 441) C d_M_more_1 c12 (by decide) rfl rfl ?_
                            refine z_aload_n C 0 rfl rfl d_M_more_441 ?_
                            refine z_iload_n C 2 rfl rfl d_M_more_442 ?_
                            refine z_callVv (rest := []) C q_M_elapsed tw_1293 (c_M_elapsed _ B a2 S _ h) rc_M ⟨Nat.le_of_ble_eq_true rfl, Nat.le_of_ble_eq_true rfl⟩ rfl rfl (Nat.le_of_ble_eq_true rfl) d_M_more_443 (fun S57 h => ?_)
                            refine z_goto (tgt := 465) C d_M_more_446 rfl ?_
                            exact z_vreturn C G hr h d_M_more_465
                          · have h := h.2 c12
                            by_cases c13 : a1 = (49 : Int32)
                            · have h := h.1 c13
                              refine z_tableIn (off := 448) (tgt := 449) C d_M_more_1 c13 (by decide) rfl rfl ?_
                              refine z_aload_n C 0 rfl rfl d_M_more_449 ?_
                              refine z_sipush (v := (1000 : Int32)) C rfl d_M_more_450 ?_
                              refine z_callVv (rest := []) C q_M_answer tw_1224 (c_M_answer _ B (1000 : Int32) S _ h) rc_M ⟨Nat.le_of_ble_eq_true rfl, Nat.le_of_ble_eq_true rfl⟩ rfl rfl (Nat.le_of_ble_eq_true rfl) d_M_more_453 (fun S58 h => ?_)
                              refine z_goto (tgt := 465) C d_M_more_456 rfl ?_
                              exact z_vreturn C G hr h d_M_more_465
                            · have h := h.2 c13
                              by_cases m11 : a1 = (11 : Int32)
                              · refine z_tableIn (off := 458) (tgt := 459) C d_M_more_1 m11 (by decide) rfl rfl ?_
                                refine z_aload_n C 0 rfl rfl d_M_more_459 ?_
                                refine z_bipush (v := (38 : Int32)) C rfl d_M_more_460 ?_
                                refine z_callVv (rest := []) C q_M_fails tw_1204 (c_M_fails _ B (38 : Int32) S _ h) rc_M ⟨Nat.le_of_ble_eq_true rfl, Nat.le_of_ble_eq_true rfl⟩ rfl rfl (Nat.le_of_ble_eq_true rfl) d_M_more_462 (fun S1 h => ?_)
                                exact z_vreturn C G hr h d_M_more_465
                              by_cases m18 : a1 = (18 : Int32)
                              · refine z_tableIn (off := 458) (tgt := 459) C d_M_more_1 m18 (by decide) rfl rfl ?_
                                refine z_aload_n C 0 rfl rfl d_M_more_459 ?_
                                refine z_bipush (v := (38 : Int32)) C rfl d_M_more_460 ?_
                                refine z_callVv (rest := []) C q_M_fails tw_1204 (c_M_fails _ B (38 : Int32) S _ h) rc_M ⟨Nat.le_of_ble_eq_true rfl, Nat.le_of_ble_eq_true rfl⟩ rfl rfl (Nat.le_of_ble_eq_true rfl) d_M_more_462 (fun S1 h => ?_)
                                exact z_vreturn C G hr h d_M_more_465
                              by_cases m20 : a1 = (20 : Int32)
                              · refine z_tableIn (off := 458) (tgt := 459) C d_M_more_1 m20 (by decide) rfl rfl ?_
                                refine z_aload_n C 0 rfl rfl d_M_more_459 ?_
                                refine z_bipush (v := (38 : Int32)) C rfl d_M_more_460 ?_
                                refine z_callVv (rest := []) C q_M_fails tw_1204 (c_M_fails _ B (38 : Int32) S _ h) rc_M ⟨Nat.le_of_ble_eq_true rfl, Nat.le_of_ble_eq_true rfl⟩ rfl rfl (Nat.le_of_ble_eq_true rfl) d_M_more_462 (fun S1 h => ?_)
                                exact z_vreturn C G hr h d_M_more_465
                              by_cases m23 : a1 = (23 : Int32)
                              · refine z_tableIn (off := 458) (tgt := 459) C d_M_more_1 m23 (by decide) rfl rfl ?_
                                refine z_aload_n C 0 rfl rfl d_M_more_459 ?_
                                refine z_bipush (v := (38 : Int32)) C rfl d_M_more_460 ?_
                                refine z_callVv (rest := []) C q_M_fails tw_1204 (c_M_fails _ B (38 : Int32) S _ h) rc_M ⟨Nat.le_of_ble_eq_true rfl, Nat.le_of_ble_eq_true rfl⟩ rfl rfl (Nat.le_of_ble_eq_true rfl) d_M_more_462 (fun S1 h => ?_)
                                exact z_vreturn C G hr h d_M_more_465
                              by_cases m25 : a1 = (25 : Int32)
                              · refine z_tableIn (off := 458) (tgt := 459) C d_M_more_1 m25 (by decide) rfl rfl ?_
                                refine z_aload_n C 0 rfl rfl d_M_more_459 ?_
                                refine z_bipush (v := (38 : Int32)) C rfl d_M_more_460 ?_
                                refine z_callVv (rest := []) C q_M_fails tw_1204 (c_M_fails _ B (38 : Int32) S _ h) rc_M ⟨Nat.le_of_ble_eq_true rfl, Nat.le_of_ble_eq_true rfl⟩ rfl rfl (Nat.le_of_ble_eq_true rfl) d_M_more_462 (fun S1 h => ?_)
                                exact z_vreturn C G hr h d_M_more_465
                              by_cases m26 : a1 = (26 : Int32)
                              · refine z_tableIn (off := 458) (tgt := 459) C d_M_more_1 m26 (by decide) rfl rfl ?_
                                refine z_aload_n C 0 rfl rfl d_M_more_459 ?_
                                refine z_bipush (v := (38 : Int32)) C rfl d_M_more_460 ?_
                                refine z_callVv (rest := []) C q_M_fails tw_1204 (c_M_fails _ B (38 : Int32) S _ h) rc_M ⟨Nat.le_of_ble_eq_true rfl, Nat.le_of_ble_eq_true rfl⟩ rfl rfl (Nat.le_of_ble_eq_true rfl) d_M_more_462 (fun S1 h => ?_)
                                exact z_vreturn C G hr h d_M_more_465
                              by_cases m27 : a1 = (27 : Int32)
                              · refine z_tableIn (off := 458) (tgt := 459) C d_M_more_1 m27 (by decide) rfl rfl ?_
                                refine z_aload_n C 0 rfl rfl d_M_more_459 ?_
                                refine z_bipush (v := (38 : Int32)) C rfl d_M_more_460 ?_
                                refine z_callVv (rest := []) C q_M_fails tw_1204 (c_M_fails _ B (38 : Int32) S _ h) rc_M ⟨Nat.le_of_ble_eq_true rfl, Nat.le_of_ble_eq_true rfl⟩ rfl rfl (Nat.le_of_ble_eq_true rfl) d_M_more_462 (fun S1 h => ?_)
                                exact z_vreturn C G hr h d_M_more_465
                              by_cases m28 : a1 = (28 : Int32)
                              · refine z_tableIn (off := 458) (tgt := 459) C d_M_more_1 m28 (by decide) rfl rfl ?_
                                refine z_aload_n C 0 rfl rfl d_M_more_459 ?_
                                refine z_bipush (v := (38 : Int32)) C rfl d_M_more_460 ?_
                                refine z_callVv (rest := []) C q_M_fails tw_1204 (c_M_fails _ B (38 : Int32) S _ h) rc_M ⟨Nat.le_of_ble_eq_true rfl, Nat.le_of_ble_eq_true rfl⟩ rfl rfl (Nat.le_of_ble_eq_true rfl) d_M_more_462 (fun S1 h => ?_)
                                exact z_vreturn C G hr h d_M_more_465
                              by_cases m29 : a1 = (29 : Int32)
                              · refine z_tableIn (off := 458) (tgt := 459) C d_M_more_1 m29 (by decide) rfl rfl ?_
                                refine z_aload_n C 0 rfl rfl d_M_more_459 ?_
                                refine z_bipush (v := (38 : Int32)) C rfl d_M_more_460 ?_
                                refine z_callVv (rest := []) C q_M_fails tw_1204 (c_M_fails _ B (38 : Int32) S _ h) rc_M ⟨Nat.le_of_ble_eq_true rfl, Nat.le_of_ble_eq_true rfl⟩ rfl rfl (Nat.le_of_ble_eq_true rfl) d_M_more_462 (fun S1 h => ?_)
                                exact z_vreturn C G hr h d_M_more_465
                              by_cases m30 : a1 = (30 : Int32)
                              · refine z_tableIn (off := 458) (tgt := 459) C d_M_more_1 m30 (by decide) rfl rfl ?_
                                refine z_aload_n C 0 rfl rfl d_M_more_459 ?_
                                refine z_bipush (v := (38 : Int32)) C rfl d_M_more_460 ?_
                                refine z_callVv (rest := []) C q_M_fails tw_1204 (c_M_fails _ B (38 : Int32) S _ h) rc_M ⟨Nat.le_of_ble_eq_true rfl, Nat.le_of_ble_eq_true rfl⟩ rfl rfl (Nat.le_of_ble_eq_true rfl) d_M_more_462 (fun S1 h => ?_)
                                exact z_vreturn C G hr h d_M_more_465
                              by_cases m31 : a1 = (31 : Int32)
                              · refine z_tableIn (off := 458) (tgt := 459) C d_M_more_1 m31 (by decide) rfl rfl ?_
                                refine z_aload_n C 0 rfl rfl d_M_more_459 ?_
                                refine z_bipush (v := (38 : Int32)) C rfl d_M_more_460 ?_
                                refine z_callVv (rest := []) C q_M_fails tw_1204 (c_M_fails _ B (38 : Int32) S _ h) rc_M ⟨Nat.le_of_ble_eq_true rfl, Nat.le_of_ble_eq_true rfl⟩ rfl rfl (Nat.le_of_ble_eq_true rfl) d_M_more_462 (fun S1 h => ?_)
                                exact z_vreturn C G hr h d_M_more_465
                              by_cases m33 : a1 = (33 : Int32)
                              · refine z_tableIn (off := 458) (tgt := 459) C d_M_more_1 m33 (by decide) rfl rfl ?_
                                refine z_aload_n C 0 rfl rfl d_M_more_459 ?_
                                refine z_bipush (v := (38 : Int32)) C rfl d_M_more_460 ?_
                                refine z_callVv (rest := []) C q_M_fails tw_1204 (c_M_fails _ B (38 : Int32) S _ h) rc_M ⟨Nat.le_of_ble_eq_true rfl, Nat.le_of_ble_eq_true rfl⟩ rfl rfl (Nat.le_of_ble_eq_true rfl) d_M_more_462 (fun S1 h => ?_)
                                exact z_vreturn C G hr h d_M_more_465
                              by_cases m34 : a1 = (34 : Int32)
                              · refine z_tableIn (off := 458) (tgt := 459) C d_M_more_1 m34 (by decide) rfl rfl ?_
                                refine z_aload_n C 0 rfl rfl d_M_more_459 ?_
                                refine z_bipush (v := (38 : Int32)) C rfl d_M_more_460 ?_
                                refine z_callVv (rest := []) C q_M_fails tw_1204 (c_M_fails _ B (38 : Int32) S _ h) rc_M ⟨Nat.le_of_ble_eq_true rfl, Nat.le_of_ble_eq_true rfl⟩ rfl rfl (Nat.le_of_ble_eq_true rfl) d_M_more_462 (fun S1 h => ?_)
                                exact z_vreturn C G hr h d_M_more_465
                              by_cases m35 : a1 = (35 : Int32)
                              · refine z_tableIn (off := 458) (tgt := 459) C d_M_more_1 m35 (by decide) rfl rfl ?_
                                refine z_aload_n C 0 rfl rfl d_M_more_459 ?_
                                refine z_bipush (v := (38 : Int32)) C rfl d_M_more_460 ?_
                                refine z_callVv (rest := []) C q_M_fails tw_1204 (c_M_fails _ B (38 : Int32) S _ h) rc_M ⟨Nat.le_of_ble_eq_true rfl, Nat.le_of_ble_eq_true rfl⟩ rfl rfl (Nat.le_of_ble_eq_true rfl) d_M_more_462 (fun S1 h => ?_)
                                exact z_vreturn C G hr h d_M_more_465
                              by_cases m36 : a1 = (36 : Int32)
                              · refine z_tableIn (off := 458) (tgt := 459) C d_M_more_1 m36 (by decide) rfl rfl ?_
                                refine z_aload_n C 0 rfl rfl d_M_more_459 ?_
                                refine z_bipush (v := (38 : Int32)) C rfl d_M_more_460 ?_
                                refine z_callVv (rest := []) C q_M_fails tw_1204 (c_M_fails _ B (38 : Int32) S _ h) rc_M ⟨Nat.le_of_ble_eq_true rfl, Nat.le_of_ble_eq_true rfl⟩ rfl rfl (Nat.le_of_ble_eq_true rfl) d_M_more_462 (fun S1 h => ?_)
                                exact z_vreturn C G hr h d_M_more_465
                              by_cases m37 : a1 = (37 : Int32)
                              · refine z_tableIn (off := 458) (tgt := 459) C d_M_more_1 m37 (by decide) rfl rfl ?_
                                refine z_aload_n C 0 rfl rfl d_M_more_459 ?_
                                refine z_bipush (v := (38 : Int32)) C rfl d_M_more_460 ?_
                                refine z_callVv (rest := []) C q_M_fails tw_1204 (c_M_fails _ B (38 : Int32) S _ h) rc_M ⟨Nat.le_of_ble_eq_true rfl, Nat.le_of_ble_eq_true rfl⟩ rfl rfl (Nat.le_of_ble_eq_true rfl) d_M_more_462 (fun S1 h => ?_)
                                exact z_vreturn C G hr h d_M_more_465
                              by_cases m38 : a1 = (38 : Int32)
                              · refine z_tableIn (off := 458) (tgt := 459) C d_M_more_1 m38 (by decide) rfl rfl ?_
                                refine z_aload_n C 0 rfl rfl d_M_more_459 ?_
                                refine z_bipush (v := (38 : Int32)) C rfl d_M_more_460 ?_
                                refine z_callVv (rest := []) C q_M_fails tw_1204 (c_M_fails _ B (38 : Int32) S _ h) rc_M ⟨Nat.le_of_ble_eq_true rfl, Nat.le_of_ble_eq_true rfl⟩ rfl rfl (Nat.le_of_ble_eq_true rfl) d_M_more_462 (fun S1 h => ?_)
                                exact z_vreturn C G hr h d_M_more_465
                              by_cases m39 : a1 = (39 : Int32)
                              · refine z_tableIn (off := 458) (tgt := 459) C d_M_more_1 m39 (by decide) rfl rfl ?_
                                refine z_aload_n C 0 rfl rfl d_M_more_459 ?_
                                refine z_bipush (v := (38 : Int32)) C rfl d_M_more_460 ?_
                                refine z_callVv (rest := []) C q_M_fails tw_1204 (c_M_fails _ B (38 : Int32) S _ h) rc_M ⟨Nat.le_of_ble_eq_true rfl, Nat.le_of_ble_eq_true rfl⟩ rfl rfl (Nat.le_of_ble_eq_true rfl) d_M_more_462 (fun S1 h => ?_)
                                exact z_vreturn C G hr h d_M_more_465
                              by_cases m40 : a1 = (40 : Int32)
                              · refine z_tableIn (off := 458) (tgt := 459) C d_M_more_1 m40 (by decide) rfl rfl ?_
                                refine z_aload_n C 0 rfl rfl d_M_more_459 ?_
                                refine z_bipush (v := (38 : Int32)) C rfl d_M_more_460 ?_
                                refine z_callVv (rest := []) C q_M_fails tw_1204 (c_M_fails _ B (38 : Int32) S _ h) rc_M ⟨Nat.le_of_ble_eq_true rfl, Nat.le_of_ble_eq_true rfl⟩ rfl rfl (Nat.le_of_ble_eq_true rfl) d_M_more_462 (fun S1 h => ?_)
                                exact z_vreturn C G hr h d_M_more_465
                              by_cases m41 : a1 = (41 : Int32)
                              · refine z_tableIn (off := 458) (tgt := 459) C d_M_more_1 m41 (by decide) rfl rfl ?_
                                refine z_aload_n C 0 rfl rfl d_M_more_459 ?_
                                refine z_bipush (v := (38 : Int32)) C rfl d_M_more_460 ?_
                                refine z_callVv (rest := []) C q_M_fails tw_1204 (c_M_fails _ B (38 : Int32) S _ h) rc_M ⟨Nat.le_of_ble_eq_true rfl, Nat.le_of_ble_eq_true rfl⟩ rfl rfl (Nat.le_of_ble_eq_true rfl) d_M_more_462 (fun S1 h => ?_)
                                exact z_vreturn C G hr h d_M_more_465
                              by_cases m42 : a1 = (42 : Int32)
                              · refine z_tableIn (off := 458) (tgt := 459) C d_M_more_1 m42 (by decide) rfl rfl ?_
                                refine z_aload_n C 0 rfl rfl d_M_more_459 ?_
                                refine z_bipush (v := (38 : Int32)) C rfl d_M_more_460 ?_
                                refine z_callVv (rest := []) C q_M_fails tw_1204 (c_M_fails _ B (38 : Int32) S _ h) rc_M ⟨Nat.le_of_ble_eq_true rfl, Nat.le_of_ble_eq_true rfl⟩ rfl rfl (Nat.le_of_ble_eq_true rfl) d_M_more_462 (fun S1 h => ?_)
                                exact z_vreturn C G hr h d_M_more_465
                              by_cases m43 : a1 = (43 : Int32)
                              · refine z_tableIn (off := 458) (tgt := 459) C d_M_more_1 m43 (by decide) rfl rfl ?_
                                refine z_aload_n C 0 rfl rfl d_M_more_459 ?_
                                refine z_bipush (v := (38 : Int32)) C rfl d_M_more_460 ?_
                                refine z_callVv (rest := []) C q_M_fails tw_1204 (c_M_fails _ B (38 : Int32) S _ h) rc_M ⟨Nat.le_of_ble_eq_true rfl, Nat.le_of_ble_eq_true rfl⟩ rfl rfl (Nat.le_of_ble_eq_true rfl) d_M_more_462 (fun S1 h => ?_)
                                exact z_vreturn C G hr h d_M_more_465
                              by_cases m44 : a1 = (44 : Int32)
                              · refine z_tableIn (off := 458) (tgt := 459) C d_M_more_1 m44 (by decide) rfl rfl ?_
                                refine z_aload_n C 0 rfl rfl d_M_more_459 ?_
                                refine z_bipush (v := (38 : Int32)) C rfl d_M_more_460 ?_
                                refine z_callVv (rest := []) C q_M_fails tw_1204 (c_M_fails _ B (38 : Int32) S _ h) rc_M ⟨Nat.le_of_ble_eq_true rfl, Nat.le_of_ble_eq_true rfl⟩ rfl rfl (Nat.le_of_ble_eq_true rfl) d_M_more_462 (fun S1 h => ?_)
                                exact z_vreturn C G hr h d_M_more_465
                              by_cases m45 : a1 = (45 : Int32)
                              · refine z_tableIn (off := 458) (tgt := 459) C d_M_more_1 m45 (by decide) rfl rfl ?_
                                refine z_aload_n C 0 rfl rfl d_M_more_459 ?_
                                refine z_bipush (v := (38 : Int32)) C rfl d_M_more_460 ?_
                                refine z_callVv (rest := []) C q_M_fails tw_1204 (c_M_fails _ B (38 : Int32) S _ h) rc_M ⟨Nat.le_of_ble_eq_true rfl, Nat.le_of_ble_eq_true rfl⟩ rfl rfl (Nat.le_of_ble_eq_true rfl) d_M_more_462 (fun S1 h => ?_)
                                exact z_vreturn C G hr h d_M_more_465
                              by_cases m46 : a1 = (46 : Int32)
                              · refine z_tableIn (off := 458) (tgt := 459) C d_M_more_1 m46 (by decide) rfl rfl ?_
                                refine z_aload_n C 0 rfl rfl d_M_more_459 ?_
                                refine z_bipush (v := (38 : Int32)) C rfl d_M_more_460 ?_
                                refine z_callVv (rest := []) C q_M_fails tw_1204 (c_M_fails _ B (38 : Int32) S _ h) rc_M ⟨Nat.le_of_ble_eq_true rfl, Nat.le_of_ble_eq_true rfl⟩ rfl rfl (Nat.le_of_ble_eq_true rfl) d_M_more_462 (fun S1 h => ?_)
                                exact z_vreturn C G hr h d_M_more_465
                              by_cases m47 : a1 = (47 : Int32)
                              · refine z_tableIn (off := 458) (tgt := 459) C d_M_more_1 m47 (by decide) rfl rfl ?_
                                refine z_aload_n C 0 rfl rfl d_M_more_459 ?_
                                refine z_bipush (v := (38 : Int32)) C rfl d_M_more_460 ?_
                                refine z_callVv (rest := []) C q_M_fails tw_1204 (c_M_fails _ B (38 : Int32) S _ h) rc_M ⟨Nat.le_of_ble_eq_true rfl, Nat.le_of_ble_eq_true rfl⟩ rfl rfl (Nat.le_of_ble_eq_true rfl) d_M_more_462 (fun S1 h => ?_)
                                exact z_vreturn C G hr h d_M_more_465
                              refine z_tableOut (tgt := 459) C d_M_more_1 (by have n0 := lv_neT (a := 10) c0 rfl; have n1 := lv_neT (a := 12) c1 rfl; have n2 := lv_neT (a := 13) c2 rfl; have n3 := lv_neT (a := 14) c3 rfl; have n4 := lv_neT (a := 15) c4 rfl; have n5 := lv_neT (a := 16) c5 rfl; have n6 := lv_neT (a := 17) c6 rfl; have n7 := lv_neT (a := 19) c7 rfl; have n8 := lv_neT (a := 21) c8 rfl; have n9 := lv_neT (a := 22) c9 rfl; have n10 := lv_neT (a := 24) c10 rfl; have n11 := lv_neT (a := 32) c11 rfl; have n12 := lv_neT (a := 48) c12 rfl; have n13 := lv_neT (a := 49) c13 rfl; have o11 := lv_neT (a := 11) m11 rfl; have o18 := lv_neT (a := 18) m18 rfl; have o20 := lv_neT (a := 20) m20 rfl; have o23 := lv_neT (a := 23) m23 rfl; have o25 := lv_neT (a := 25) m25 rfl; have o26 := lv_neT (a := 26) m26 rfl; have o27 := lv_neT (a := 27) m27 rfl; have o28 := lv_neT (a := 28) m28 rfl; have o29 := lv_neT (a := 29) m29 rfl; have o30 := lv_neT (a := 30) m30 rfl; have o31 := lv_neT (a := 31) m31 rfl; have o33 := lv_neT (a := 33) m33 rfl; have o34 := lv_neT (a := 34) m34 rfl; have o35 := lv_neT (a := 35) m35 rfl; have o36 := lv_neT (a := 36) m36 rfl; have o37 := lv_neT (a := 37) m37 rfl; have o38 := lv_neT (a := 38) m38 rfl; have o39 := lv_neT (a := 39) m39 rfl; have o40 := lv_neT (a := 40) m40 rfl; have o41 := lv_neT (a := 41) m41 rfl; have o42 := lv_neT (a := 42) m42 rfl; have o43 := lv_neT (a := 43) m43 rfl; have o44 := lv_neT (a := 44) m44 rfl; have o45 := lv_neT (a := 45) m45 rfl; have o46 := lv_neT (a := 46) m46 rfl; have o47 := lv_neT (a := 47) m47 rfl; omega) rfl ?_
                              refine z_aload_n C 0 rfl rfl d_M_more_459 ?_
                              refine z_bipush (v := (38 : Int32)) C rfl d_M_more_460 ?_
                              refine z_callVv (rest := []) C q_M_fails tw_1204 (c_M_fails _ B (38 : Int32) S _ h) rc_M ⟨Nat.le_of_ble_eq_true rfl, Nat.le_of_ble_eq_true rfl⟩ rfl rfl (Nat.le_of_ble_eq_true rfl) d_M_more_462 (fun S1 h => ?_)
                              exact z_vreturn C G hr h d_M_more_465
theorem c_M_more (l : Launch) (B : zK) (a1 : Int32) (a2 : Int32) (S : zS) (P : zS → Prop) (h : w_M_more a1 a2 S P) : Met l y_M_more (Cond.code y_M_more prog_12_method_36_code 3 none :: tT) (zRm 4 93) (zPc (wR B) [.ref (ad B 0), .int a1, .int a2] S) (zQ (wR B) (zPv P)) 0 0 (wR B).2.2.2 :=
  z_met (by decide) (Nat.le_of_ble_eq_true rfl) (fun E C G hr _ hnl => v_M_more C a1 a2 P G hr hnl S h)
theorem q_M_more : zQw y_M_more prog_12_method_36_code 3 none 2 := ⟨tw_1262, tw_67, tw_87, tw_1263, by decide +kernel⟩
def j_M_call_25 (a1 : Int32) (a2 : Int32) (P : zS → Prop) (S : zS) : Prop :=
  w_M_fails (14 : Int32) S (fun S1 => P S1)
set_option maxRecDepth 20000 in
set_option maxHeartbeats 4000000 in
theorem vj_M_call_25 {E : zE} {B : zK} (C : zC E (wR B) prog_12_method_35_code "HostBenchModel" 5 115) (a1 : Int32) (a2 : Int32) (P : zS → Prop) (G : zGoal E (zQ (wR B) (zPv P)) (wR B)) (hr : zRt E (none)) (hnl : E.2.2.2.2.2.2.2.2.2.2.1 = 4) (S : zS) (h : j_M_call_25 a1 a2 P S) : zV E (wR B) S 25 [(0, .ref (ad B 0))] [] := by
  unfold j_M_call_25 at h
  refine z_aload_n C 0 rfl rfl d_M_call_25 ?_
  refine z_bipush (v := (14 : Int32)) C rfl d_M_call_26 ?_
  refine z_callVv (rest := []) C q_M_fails tw_1204 (c_M_fails _ B (14 : Int32) S _ h) rc_M ⟨Nat.le_of_ble_eq_true rfl, Nat.le_of_ble_eq_true rfl⟩ rfl rfl (Nat.le_of_ble_eq_true rfl) d_M_call_28 (fun S1 h => ?_)
  exact z_vreturn C G hr h d_M_call_31
def j_M_call_235 (a1 : Int32) (a2 : Int32) (P : zS → Prop) (S : zS) (s1 : Int32) : Prop :=
  w_M_answer s1 S (fun S1 => P S1)
set_option maxRecDepth 20000 in
set_option maxHeartbeats 4000000 in
theorem vj_M_call_235 {E : zE} {B : zK} (C : zC E (wR B) prog_12_method_35_code "HostBenchModel" 5 115) (a1 : Int32) (a2 : Int32) (P : zS → Prop) (G : zGoal E (zQ (wR B) (zPv P)) (wR B)) (hr : zRt E (none)) (hnl : E.2.2.2.2.2.2.2.2.2.2.1 = 4) (S : zS) (s1 : Int32) (h : j_M_call_235 a1 a2 P S s1) : zV E (wR B) S 235 [] [.int s1, .ref (ad B 0)] := by
  unfold j_M_call_235 at h
  refine z_callVv (rest := []) C q_M_answer tw_1224 (c_M_answer _ B s1 S _ h) rc_M ⟨Nat.le_of_ble_eq_true rfl, Nat.le_of_ble_eq_true rfl⟩ rfl rfl (Nat.le_of_ble_eq_true rfl) d_M_call_235 (fun S1 h => ?_)
  refine z_goto (tgt := 314) C d_M_call_238 rfl ?_
  exact z_vreturn C G hr h d_M_call_314
def j_M_call_255 (a1 : Int32) (a2 : Int32) (P : zS → Prop) (S : zS) (s1 : Int32) : Prop :=
  w_M_answer s1 S (fun S1 => P S1)
set_option maxRecDepth 20000 in
set_option maxHeartbeats 4000000 in
theorem vj_M_call_255 {E : zE} {B : zK} (C : zC E (wR B) prog_12_method_35_code "HostBenchModel" 5 115) (a1 : Int32) (a2 : Int32) (P : zS → Prop) (G : zGoal E (zQ (wR B) (zPv P)) (wR B)) (hr : zRt E (none)) (hnl : E.2.2.2.2.2.2.2.2.2.2.1 = 4) (S : zS) (s1 : Int32) (h : j_M_call_255 a1 a2 P S s1) : zV E (wR B) S 255 [] [.int s1, .ref (ad B 0)] := by
  unfold j_M_call_255 at h
  refine z_callVv (rest := []) C q_M_answer tw_1224 (c_M_answer _ B s1 S _ h) rc_M ⟨Nat.le_of_ble_eq_true rfl, Nat.le_of_ble_eq_true rfl⟩ rfl rfl (Nat.le_of_ble_eq_true rfl) d_M_call_255 (fun S1 h => ?_)
  refine z_goto (tgt := 314) C d_M_call_258 rfl ?_
  exact z_vreturn C G hr h d_M_call_314
def j_M_call_293 (a1 : Int32) (a2 : Int32) (P : zS → Prop) (S : zS) (s1 : Int32) : Prop :=
  w_M_answer s1 S (fun S1 => P S1)
set_option maxRecDepth 20000 in
set_option maxHeartbeats 4000000 in
theorem vj_M_call_293 {E : zE} {B : zK} (C : zC E (wR B) prog_12_method_35_code "HostBenchModel" 5 115) (a1 : Int32) (a2 : Int32) (P : zS → Prop) (G : zGoal E (zQ (wR B) (zPv P)) (wR B)) (hr : zRt E (none)) (hnl : E.2.2.2.2.2.2.2.2.2.2.1 = 4) (S : zS) (s1 : Int32) (h : j_M_call_293 a1 a2 P S s1) : zV E (wR B) S 293 [] [.int s1, .ref (ad B 0)] := by
  unfold j_M_call_293 at h
  refine z_callVv (rest := []) C q_M_answer tw_1224 (c_M_answer _ B s1 S _ h) rc_M ⟨Nat.le_of_ble_eq_true rfl, Nat.le_of_ble_eq_true rfl⟩ rfl rfl (Nat.le_of_ble_eq_true rfl) d_M_call_293 (fun S1 h => ?_)
  refine z_goto (tgt := 314) C d_M_call_296 rfl ?_
  exact z_vreturn C G hr h d_M_call_314
def j_M_call_32 (a1 : Int32) (a2 : Int32) (P : zS → Prop) (S : zS) : Prop :=
  (a1 = (1 : Int32) → (w_M_open S (fun S2 => P S2))) ∧ (¬ a1 = (1 : Int32) → ((a1 = (2 : Int32) → (w_M_field (0 : Int32) S (fun S3 r4 => w_M_isOpen r4 S3 (fun S5 r6 => (r6 = 0 → (w_M_fails (9 : Int32) S5 (fun S12 => P S12))) ∧ (¬ r6 = 0 → (w_M_field (0 : Int32) S5 (fun S7 r8 => vp_in r8 11 ∧ ∀ S10 : zS, S10 = sM S7 7 r8.toNatClampNeg (0 : Int32) → w_M_answer (0 : Int32) S10 (fun S11 => P S11)))))))) ∧ (¬ a1 = (2 : Int32) → ((a1 = (3 : Int32) → (w_M_isArea a2 (1 : Int32) S (fun S13 r14 => (r14 = 0 → (w_M_fails (14 : Int32) S13 (fun S18 => P S18))) ∧ (¬ r14 = 0 → (vp_in a2 16384 ∧ w_M_prints (0 : Int32) (gM S13 1 a2.toNatClampNeg) S13 (fun S16 => w_M_answer (0 : Int32) S16 (fun S17 => P S17))))))) ∧ (¬ a1 = (3 : Int32) → ((a1 = (4 : Int32) → (w_M_writeUpToZero a2 S (fun S19 => P S19))) ∧ (¬ a1 = (4 : Int32) → ((a1 = (5 : Int32) → (w_M_field (0 : Int32) S (fun S20 r21 => w_M_field (1 : Int32) S20 (fun S22 r23 => w_M_field (2 : Int32) S22 (fun S24 r25 => w_M_write r21 r23 r25 S24 (fun S26 => P S26)))))) ∧ (¬ a1 = (5 : Int32) → ((a1 = (6 : Int32) → (w_M_field (0 : Int32) S (fun S27 r28 => w_M_field (1 : Int32) S27 (fun S29 r30 => w_M_field (2 : Int32) S29 (fun S31 r32 => w_M_read r28 r30 r32 S31 (fun S33 => P S33)))))) ∧ (¬ a1 = (6 : Int32) → ((a1 = (7 : Int32) → (((gM S 0 20) ≤ 0 → (j_M_call_235 a1 a2 P S (-1 : Int32))) ∧ (¬ (gM S 0 20) ≤ 0 → (w_M_takeIn S (fun S34 r35 => j_M_call_235 a1 a2 P S34 r35))))) ∧ (¬ a1 = (7 : Int32) → ((a1 = (8 : Int32) → (w_M_field (0 : Int32) S (fun S36 r37 => (0 ≤ r37 → (j_M_call_255 a1 a2 P S36 (0 : Int32))) ∧ (¬ 0 ≤ r37 → (j_M_call_255 a1 a2 P S36 (1 : Int32)))))) ∧ (¬ a1 = (8 : Int32) → ((a1 = (9 : Int32) → (w_M_field (0 : Int32) S (fun S38 r39 => w_M_isOpen r39 S38 (fun S40 r41 => (r41 = 0 → (w_M_fails (9 : Int32) S40 (fun S42 => P S42))) ∧ (¬ r41 = 0 → (w_M_field (0 : Int32) S40 (fun S43 r44 => vp_in r44 11 ∧ ((gM S43 7 r44.toNatClampNeg) ≤ (1 : Int32) → (j_M_call_293 a1 a2 P S43 (0 : Int32))) ∧ (¬ (gM S43 7 r44.toNatClampNeg) ≤ (1 : Int32) → (j_M_call_293 a1 a2 P S43 (1 : Int32)))))))))) ∧ (¬ a1 = (9 : Int32) → (w_M_more a1 a2 S (fun S1 => P S1)))))))))))))))))))
set_option maxRecDepth 20000 in
set_option maxHeartbeats 4000000 in
theorem vj_M_call_32 {E : zE} {B : zK} (C : zC E (wR B) prog_12_method_35_code "HostBenchModel" 5 115) (a1 : Int32) (a2 : Int32) (P : zS → Prop) (G : zGoal E (zQ (wR B) (zPv P)) (wR B)) (hr : zRt E (none)) (hnl : E.2.2.2.2.2.2.2.2.2.2.1 = 4) (S : zS) (h : j_M_call_32 a1 a2 P S) : zV E (wR B) S 32 [(0, .ref (ad B 0)), (1, .int a1), (2, .int a2)] [] := by
  unfold j_M_call_32 at h
  refine z_iload_n C 1 rfl rfl d_M_call_32 ?_
  by_cases c0 : a1 = (1 : Int32)
  · have h := h.1 c0
    refine z_tableIn (off := 51) (tgt := 84) C d_M_call_33 c0 (by decide) rfl rfl ?_
    refine z_aload_n C 0 rfl rfl d_M_call_84 ?_
    refine z_callVv (rest := []) C q_M_open tw_1208 (c_M_open _ B S _ h) rc_M ⟨Nat.le_of_ble_eq_true rfl, Nat.le_of_ble_eq_true rfl⟩ rfl rfl (Nat.le_of_ble_eq_true rfl) d_M_call_85 (fun S2 h => ?_)
    refine z_goto (tgt := 314) C d_M_call_88 rfl ?_
    exact z_vreturn C G hr h d_M_call_314
  · have h := h.2 c0
    by_cases c1 : a1 = (2 : Int32)
    · have h := h.1 c1
      refine z_tableIn (off := 58) (tgt := 91) C d_M_call_33 c1 (by decide) rfl rfl ?_
      refine z_aload_n C 0 rfl rfl d_M_call_91 ?_
      refine z_aload_n C 0 rfl rfl d_M_call_92 ?_
      refine z_iconst (v := (0 : Int32)) C rfl d_M_call_93 ?_
      refine z_callVi (rest := [.ref (ad B 0)]) C q_M_field tw_1212 (c_M_field _ B (0 : Int32) S _ h) rc_M ⟨Nat.le_of_ble_eq_true rfl, Nat.le_of_ble_eq_true rfl⟩ rfl rfl (Nat.le_of_ble_eq_true rfl) d_M_call_94 (fun S3 r4 h => ?_)
      refine z_callVi (rest := []) C q_M_isOpen tw_1232 (c_M_isOpen _ B r4 S3 _ h) rc_M ⟨Nat.le_of_ble_eq_true rfl, Nat.le_of_ble_eq_true rfl⟩ rfl rfl (Nat.le_of_ble_eq_true rfl) d_M_call_97 (fun S5 r6 h => ?_)
      refine z_if_ne (tgt := 112) C d_M_call_100 rfl (fun c => ?_) (fun c => ?_)
      · have h := h.2 c
        refine z_aload_n C 0 rfl rfl d_M_call_112 ?_
        refine gf_M_kind C (Or.inl tw_999) d_M_call_113 ?_
        refine z_aload_n C 0 rfl rfl d_M_call_116 ?_
        refine z_iconst (v := (0 : Int32)) C rfl d_M_call_117 ?_
        refine z_callVi (rest := [.ref (ad B 7)]) C q_M_field tw_1212 (c_M_field _ B (0 : Int32) S5 _ h) rc_M ⟨Nat.le_of_ble_eq_true rfl, Nat.le_of_ble_eq_true rfl⟩ rfl rfl (Nat.le_of_ble_eq_true rfl) d_M_call_118 (fun S7 r8 h => ?_)
        refine z_iconst (v := (0 : Int32)) C rfl d_M_call_121 ?_
        obtain ⟨f9, h⟩ := h
        refine as_m_kind C f9 d_M_call_122 ?_
        refine z_nS (fun S10 eS10 => ?_)
        have h := h S10 eS10
        refine z_aload_n C 0 rfl rfl d_M_call_123 ?_
        refine z_iconst (v := (0 : Int32)) C rfl d_M_call_124 ?_
        refine z_callVv (rest := []) C q_M_answer tw_1224 (c_M_answer _ B (0 : Int32) S10 _ h) rc_M ⟨Nat.le_of_ble_eq_true rfl, Nat.le_of_ble_eq_true rfl⟩ rfl rfl (Nat.le_of_ble_eq_true rfl) d_M_call_125 (fun S11 h => ?_)
        refine z_goto (tgt := 314) C d_M_call_128 rfl ?_
        exact z_vreturn C G hr h d_M_call_314
      · have h := h.1 c
        refine z_aload_n C 0 rfl rfl d_M_call_103 ?_
        refine z_bipush (v := (9 : Int32)) C rfl d_M_call_104 ?_
        refine z_callVv (rest := []) C q_M_fails tw_1204 (c_M_fails _ B (9 : Int32) S5 _ h) rc_M ⟨Nat.le_of_ble_eq_true rfl, Nat.le_of_ble_eq_true rfl⟩ rfl rfl (Nat.le_of_ble_eq_true rfl) d_M_call_106 (fun S12 h => ?_)
        refine z_goto (tgt := 314) C d_M_call_109 rfl ?_
        exact z_vreturn C G hr h d_M_call_314
    · have h := h.2 c1
      by_cases c2 : a1 = (3 : Int32)
      · have h := h.1 c2
        refine z_tableIn (off := 98) (tgt := 131) C d_M_call_33 c2 (by decide) rfl rfl ?_
        refine z_iload_n C 2 rfl rfl d_M_call_131 ?_
        refine z_iconst (v := (1 : Int32)) C rfl d_M_call_132 ?_
        refine z_callSi (rest := []) C q_M_isArea rfl tw_1139 (c_M_isArea _ B a2 (1 : Int32) S _ h) ⟨Nat.le_of_ble_eq_true rfl, Nat.le_of_ble_eq_true rfl⟩ rfl rfl (Nat.le_of_ble_eq_true rfl) d_M_call_133 (fun S13 r14 h => ?_)
        refine z_if_ne (tgt := 148) C d_M_call_136 rfl (fun c => ?_) (fun c => ?_)
        · have h := h.2 c
          refine z_aload_n C 0 rfl rfl d_M_call_148 ?_
          refine z_iconst (v := (0 : Int32)) C rfl d_M_call_149 ?_
          refine z_aload_n C 0 rfl rfl d_M_call_150 ?_
          refine gf_M_memory C (Or.inl tw_985) d_M_call_151 ?_
          refine z_iload_n C 2 rfl rfl d_M_call_154 ?_
          obtain ⟨f15, h⟩ := h
          refine al_m_memory C f15 d_M_call_155 ?_
          refine z_callVv (rest := []) C q_M_prints tw_1236 (c_M_prints _ B (0 : Int32) (gM S13 1 a2.toNatClampNeg) S13 _ h) rc_M ⟨Nat.le_of_ble_eq_true rfl, Nat.le_of_ble_eq_true rfl⟩ rfl rfl (Nat.le_of_ble_eq_true rfl) d_M_call_156 (fun S16 h => ?_)
          refine z_aload_n C 0 rfl rfl d_M_call_159 ?_
          refine z_iconst (v := (0 : Int32)) C rfl d_M_call_160 ?_
          refine z_callVv (rest := []) C q_M_answer tw_1224 (c_M_answer _ B (0 : Int32) S16 _ h) rc_M ⟨Nat.le_of_ble_eq_true rfl, Nat.le_of_ble_eq_true rfl⟩ rfl rfl (Nat.le_of_ble_eq_true rfl) d_M_call_161 (fun S17 h => ?_)
          refine z_goto (tgt := 314) C d_M_call_164 rfl ?_
          exact z_vreturn C G hr h d_M_call_314
        · have h := h.1 c
          refine z_aload_n C 0 rfl rfl d_M_call_139 ?_
          refine z_bipush (v := (14 : Int32)) C rfl d_M_call_140 ?_
          refine z_callVv (rest := []) C q_M_fails tw_1204 (c_M_fails _ B (14 : Int32) S13 _ h) rc_M ⟨Nat.le_of_ble_eq_true rfl, Nat.le_of_ble_eq_true rfl⟩ rfl rfl (Nat.le_of_ble_eq_true rfl) d_M_call_142 (fun S18 h => ?_)
          refine z_goto (tgt := 314) C d_M_call_145 rfl ?_
          exact z_vreturn C G hr h d_M_call_314
      · have h := h.2 c2
        by_cases c3 : a1 = (4 : Int32)
        · have h := h.1 c3
          refine z_tableIn (off := 134) (tgt := 167) C d_M_call_33 c3 (by decide) rfl rfl ?_
          refine z_aload_n C 0 rfl rfl d_M_call_167 ?_
          refine z_iload_n C 2 rfl rfl d_M_call_168 ?_
          refine z_callVv (rest := []) C q_M_writeUpToZero tw_1240 (c_M_writeUpToZero _ B a2 S _ h) rc_M ⟨Nat.le_of_ble_eq_true rfl, Nat.le_of_ble_eq_true rfl⟩ rfl rfl (Nat.le_of_ble_eq_true rfl) d_M_call_169 (fun S19 h => ?_)
          refine z_goto (tgt := 314) C d_M_call_172 rfl ?_
          exact z_vreturn C G hr h d_M_call_314
        · have h := h.2 c3
          by_cases c4 : a1 = (5 : Int32)
          · have h := h.1 c4
            refine z_tableIn (off := 142) (tgt := 175) C d_M_call_33 c4 (by decide) rfl rfl ?_
            refine z_aload_n C 0 rfl rfl d_M_call_175 ?_
            refine z_aload_n C 0 rfl rfl d_M_call_176 ?_
            refine z_iconst (v := (0 : Int32)) C rfl d_M_call_177 ?_
            refine z_callVi (rest := [.ref (ad B 0)]) C q_M_field tw_1212 (c_M_field _ B (0 : Int32) S _ h) rc_M ⟨Nat.le_of_ble_eq_true rfl, Nat.le_of_ble_eq_true rfl⟩ rfl rfl (Nat.le_of_ble_eq_true rfl) d_M_call_178 (fun S20 r21 h => ?_)
            refine z_aload_n C 0 rfl rfl d_M_call_181 ?_
            refine z_iconst (v := (1 : Int32)) C rfl d_M_call_182 ?_
            refine z_callVi (rest := [.int r21, .ref (ad B 0)]) C q_M_field tw_1212 (c_M_field _ B (1 : Int32) S20 _ h) rc_M ⟨Nat.le_of_ble_eq_true rfl, Nat.le_of_ble_eq_true rfl⟩ rfl rfl (Nat.le_of_ble_eq_true rfl) d_M_call_183 (fun S22 r23 h => ?_)
            refine z_aload_n C 0 rfl rfl d_M_call_186 ?_
            refine z_iconst (v := (2 : Int32)) C rfl d_M_call_187 ?_
            refine z_callVi (rest := [.int r23, .int r21, .ref (ad B 0)]) C q_M_field tw_1212 (c_M_field _ B (2 : Int32) S22 _ h) rc_M ⟨Nat.le_of_ble_eq_true rfl, Nat.le_of_ble_eq_true rfl⟩ rfl rfl (Nat.le_of_ble_eq_true rfl) d_M_call_188 (fun S24 r25 h => ?_)
            refine z_callVv (rest := []) C q_M_write tw_1244 (c_M_write _ B r21 r23 r25 S24 _ h) rc_M ⟨Nat.le_of_ble_eq_true rfl, Nat.le_of_ble_eq_true rfl⟩ rfl rfl (Nat.le_of_ble_eq_true rfl) d_M_call_191 (fun S26 h => ?_)
            refine z_goto (tgt := 314) C d_M_call_194 rfl ?_
            exact z_vreturn C G hr h d_M_call_314
          · have h := h.2 c4
            by_cases c5 : a1 = (6 : Int32)
            · have h := h.1 c5
              refine z_tableIn (off := 164) (tgt := 197) C d_M_call_33 c5 (by decide) rfl rfl ?_
              refine z_aload_n C 0 rfl rfl d_M_call_197 ?_
              refine z_aload_n C 0 rfl rfl d_M_call_198 ?_
              refine z_iconst (v := (0 : Int32)) C rfl d_M_call_199 ?_
              refine z_callVi (rest := [.ref (ad B 0)]) C q_M_field tw_1212 (c_M_field _ B (0 : Int32) S _ h) rc_M ⟨Nat.le_of_ble_eq_true rfl, Nat.le_of_ble_eq_true rfl⟩ rfl rfl (Nat.le_of_ble_eq_true rfl) d_M_call_200 (fun S27 r28 h => ?_)
              refine z_aload_n C 0 rfl rfl d_M_call_203 ?_
              refine z_iconst (v := (1 : Int32)) C rfl d_M_call_204 ?_
              refine z_callVi (rest := [.int r28, .ref (ad B 0)]) C q_M_field tw_1212 (c_M_field _ B (1 : Int32) S27 _ h) rc_M ⟨Nat.le_of_ble_eq_true rfl, Nat.le_of_ble_eq_true rfl⟩ rfl rfl (Nat.le_of_ble_eq_true rfl) d_M_call_205 (fun S29 r30 h => ?_)
              refine z_aload_n C 0 rfl rfl d_M_call_208 ?_
              refine z_iconst (v := (2 : Int32)) C rfl d_M_call_209 ?_
              refine z_callVi (rest := [.int r30, .int r28, .ref (ad B 0)]) C q_M_field tw_1212 (c_M_field _ B (2 : Int32) S29 _ h) rc_M ⟨Nat.le_of_ble_eq_true rfl, Nat.le_of_ble_eq_true rfl⟩ rfl rfl (Nat.le_of_ble_eq_true rfl) d_M_call_210 (fun S31 r32 h => ?_)
              refine z_callVv (rest := []) C q_M_read tw_1252 (c_M_read _ B r28 r30 r32 S31 _ h) rc_M ⟨Nat.le_of_ble_eq_true rfl, Nat.le_of_ble_eq_true rfl⟩ rfl rfl (Nat.le_of_ble_eq_true rfl) d_M_call_213 (fun S33 h => ?_)
              refine z_goto (tgt := 314) C d_M_call_216 rfl ?_
              exact z_vreturn C G hr h d_M_call_314
            · have h := h.2 c5
              by_cases c6 : a1 = (7 : Int32)
              · have h := h.1 c6
                refine z_tableIn (off := 186) (tgt := 219) C d_M_call_33 c6 (by decide) rfl rfl ?_
                refine z_aload_n C 0 rfl rfl d_M_call_219 ?_
                refine z_aload_n C 0 rfl rfl d_M_call_220 ?_
                refine gf_M_waiting C (Or.inl tw_1004) d_M_call_221 ?_
                refine z_if_le (tgt := 234) C d_M_call_224 rfl (fun c => ?_) (fun c => ?_)
                · have h := h.1 c
                  refine z_iconst (v := (-1 : Int32)) C rfl d_M_call_234 ?_
                  exact z_sub [] rfl (vj_M_call_235 C a1 a2 P G hr hnl S (-1 : Int32) h)
                · have h := h.2 c
                  refine z_aload_n C 0 rfl rfl d_M_call_227 ?_
                  refine z_callVi (rest := [.ref (ad B 0)]) C q_M_takeIn tw_1256 (c_M_takeIn _ B S _ h) rc_M ⟨Nat.le_of_ble_eq_true rfl, Nat.le_of_ble_eq_true rfl⟩ rfl rfl (Nat.le_of_ble_eq_true rfl) d_M_call_228 (fun S34 r35 h => ?_)
                  refine z_goto (tgt := 235) C d_M_call_231 rfl ?_
                  exact z_sub [] rfl (vj_M_call_235 C a1 a2 P G hr hnl S34 r35 h)
              · have h := h.2 c6
                by_cases c7 : a1 = (8 : Int32)
                · have h := h.1 c7
                  refine z_tableIn (off := 208) (tgt := 241) C d_M_call_33 c7 (by decide) rfl rfl ?_
                  refine z_aload_n C 0 rfl rfl d_M_call_241 ?_
                  refine z_aload_n C 0 rfl rfl d_M_call_242 ?_
                  refine z_iconst (v := (0 : Int32)) C rfl d_M_call_243 ?_
                  refine z_callVi (rest := [.ref (ad B 0)]) C q_M_field tw_1212 (c_M_field _ B (0 : Int32) S _ h) rc_M ⟨Nat.le_of_ble_eq_true rfl, Nat.le_of_ble_eq_true rfl⟩ rfl rfl (Nat.le_of_ble_eq_true rfl) d_M_call_244 (fun S36 r37 h => ?_)
                  refine z_if_ge (tgt := 254) C d_M_call_247 rfl (fun c => ?_) (fun c => ?_)
                  · have h := h.1 c
                    refine z_iconst (v := (0 : Int32)) C rfl d_M_call_254 ?_
                    exact z_sub [] rfl (vj_M_call_255 C a1 a2 P G hr hnl S36 (0 : Int32) h)
                  · have h := h.2 c
                    refine z_iconst (v := (1 : Int32)) C rfl d_M_call_250 ?_
                    refine z_goto (tgt := 255) C d_M_call_251 rfl ?_
                    exact z_sub [] rfl (vj_M_call_255 C a1 a2 P G hr hnl S36 (1 : Int32) h)
                · have h := h.2 c7
                  by_cases c8 : a1 = (9 : Int32)
                  · have h := h.1 c8
                    refine z_tableIn (off := 228) (tgt := 261) C d_M_call_33 c8 (by decide) rfl rfl ?_
                    refine z_aload_n C 0 rfl rfl d_M_call_261 ?_
                    refine z_aload_n C 0 rfl rfl d_M_call_262 ?_
                    refine z_iconst (v := (0 : Int32)) C rfl d_M_call_263 ?_
                    refine z_callVi (rest := [.ref (ad B 0)]) C q_M_field tw_1212 (c_M_field _ B (0 : Int32) S _ h) rc_M ⟨Nat.le_of_ble_eq_true rfl, Nat.le_of_ble_eq_true rfl⟩ rfl rfl (Nat.le_of_ble_eq_true rfl) d_M_call_264 (fun S38 r39 h => ?_)
                    refine z_callVi (rest := []) C q_M_isOpen tw_1232 (c_M_isOpen _ B r39 S38 _ h) rc_M ⟨Nat.le_of_ble_eq_true rfl, Nat.le_of_ble_eq_true rfl⟩ rfl rfl (Nat.le_of_ble_eq_true rfl) d_M_call_267 (fun S40 r41 h => ?_)
                    refine z_if_eq (tgt := 299) C d_M_call_270 rfl (fun c => ?_) (fun c => ?_)
                    · have h := h.1 c
                      refine z_aload_n C 0 rfl rfl d_M_call_299 ?_
                      refine z_bipush (v := (9 : Int32)) C rfl d_M_call_300 ?_
                      refine z_callVv (rest := []) C q_M_fails tw_1204 (c_M_fails _ B (9 : Int32) S40 _ h) rc_M ⟨Nat.le_of_ble_eq_true rfl, Nat.le_of_ble_eq_true rfl⟩ rfl rfl (Nat.le_of_ble_eq_true rfl) d_M_call_302 (fun S42 h => ?_)
                      refine z_goto (tgt := 314) C d_M_call_305 rfl ?_
                      exact z_vreturn C G hr h d_M_call_314
                    · have h := h.2 c
                      refine z_aload_n C 0 rfl rfl d_M_call_273 ?_
                      refine z_aload_n C 0 rfl rfl d_M_call_274 ?_
                      refine gf_M_kind C (Or.inl tw_999) d_M_call_275 ?_
                      refine z_aload_n C 0 rfl rfl d_M_call_278 ?_
                      refine z_iconst (v := (0 : Int32)) C rfl d_M_call_279 ?_
                      refine z_callVi (rest := [.ref (ad B 7), .ref (ad B 0)]) C q_M_field tw_1212 (c_M_field _ B (0 : Int32) S40 _ h) rc_M ⟨Nat.le_of_ble_eq_true rfl, Nat.le_of_ble_eq_true rfl⟩ rfl rfl (Nat.le_of_ble_eq_true rfl) d_M_call_280 (fun S43 r44 h => ?_)
                      obtain ⟨f45, h⟩ := h
                      refine al_m_kind C f45 d_M_call_283 ?_
                      refine z_iconst (v := (1 : Int32)) C rfl d_M_call_284 ?_
                      refine z_icmp_le (tgt := 292) C d_M_call_285 rfl (fun c => ?_) (fun c => ?_)
                      · have h := h.1 c
                        refine z_iconst (v := (0 : Int32)) C rfl d_M_call_292 ?_
                        exact z_sub [] rfl (vj_M_call_293 C a1 a2 P G hr hnl S43 (0 : Int32) h)
                      · have h := h.2 c
                        refine z_iconst (v := (1 : Int32)) C rfl d_M_call_288 ?_
                        refine z_goto (tgt := 293) C d_M_call_289 rfl ?_
                        exact z_sub [] rfl (vj_M_call_293 C a1 a2 P G hr hnl S43 (1 : Int32) h)
                  · have h := h.2 c8
                    refine z_tableOut (tgt := 308) C d_M_call_33 (by have n0 := lv_neT (a := 1) c0 rfl; have n1 := lv_neT (a := 2) c1 rfl; have n2 := lv_neT (a := 3) c2 rfl; have n3 := lv_neT (a := 4) c3 rfl; have n4 := lv_neT (a := 5) c4 rfl; have n5 := lv_neT (a := 6) c5 rfl; have n6 := lv_neT (a := 7) c6 rfl; have n7 := lv_neT (a := 8) c7 rfl; have n8 := lv_neT (a := 9) c8 rfl; omega) rfl ?_
                    refine z_aload_n C 0 rfl rfl d_M_call_308 ?_
                    refine z_iload_n C 1 rfl rfl d_M_call_309 ?_
                    refine z_iload_n C 2 rfl rfl d_M_call_310 ?_
                    refine z_callVv (rest := []) C q_M_more tw_1260 (c_M_more _ B a1 a2 S _ h) rc_M ⟨Nat.le_of_ble_eq_true rfl, Nat.le_of_ble_eq_true rfl⟩ rfl rfl (Nat.le_of_ble_eq_true rfl) d_M_call_311 (fun S1 h => ?_)
                    exact z_vreturn C G hr h d_M_call_314
def w_M_call (a1 : Int32) (a2 : Int32) (S : zS) (P : zS → Prop) : Prop :=
  w_M_fieldsOf a1 S (fun S1 r2 => (r2 ≤ 0 → (j_M_call_32 a1 a2 P S1)) ∧ (¬ r2 ≤ 0 → (((a2 &&& (3 : Int32)) = 0 → (w_M_isArea a2 ((4 : Int32) * r2) S1 (fun S3 r4 => (r4 = 0 → (j_M_call_25 a1 a2 P S3)) ∧ (¬ r4 = 0 → (j_M_call_32 a1 a2 P S3))))) ∧ (¬ (a2 &&& (3 : Int32)) = 0 → (j_M_call_25 a1 a2 P S1)))))
set_option maxRecDepth 20000 in
set_option maxHeartbeats 4000000 in
theorem v_M_call {E : zE} {B : zK} (C : zC E (wR B) prog_12_method_35_code "HostBenchModel" 5 115) (a1 : Int32) (a2 : Int32) (P : zS → Prop) (G : zGoal E (zQ (wR B) (zPv P)) (wR B)) (hr : zRt E (none)) (hnl : E.2.2.2.2.2.2.2.2.2.2.1 = 4) (S : zS) (h : w_M_call a1 a2 S P) : zV E (wR B) S 0 [(0, .ref (ad B 0)), (1, .int a1), (2, .int a2)] [] := by
  unfold w_M_call at h
  refine z_iload_n C 1 rfl rfl d_M_call_0 ?_
  refine z_callSi (rest := []) C q_M_fieldsOf rfl tw_1201 (c_M_fieldsOf _ B a1 S _ h) ⟨Nat.le_of_ble_eq_true rfl, Nat.le_of_ble_eq_true rfl⟩ rfl rfl (Nat.le_of_ble_eq_true rfl) d_M_call_1 (fun S1 r2 h => ?_)
  refine z_istore_n (L' := [(3, .int r2), (0, .ref (ad B 0)), (1, .int a1), (2, .int a2)]) C hnl rfl (by decide) rfl d_M_call_4 ?_
  refine z_iload_n C 0 rfl rfl d_M_call_5 ?_
  refine z_if_le (tgt := 32) C d_M_call_6 rfl (fun c => ?_) (fun c => ?_)
  · have h := h.1 c
    exact z_sub [1, 2, 3] rfl (vj_M_call_32 C a1 a2 P G hr hnl S1 h)
  · have h := h.2 c
    refine z_iload_n C 3 rfl rfl d_M_call_9 ?_
    refine z_iconst (v := (3 : Int32)) C rfl d_M_call_10 ?_
    refine z_iand C d_M_call_11 ?_
    refine z_if_ne (tgt := 25) C d_M_call_12 rfl (fun c => ?_) (fun c => ?_)
    · have h := h.2 c
      exact z_sub [1] rfl (vj_M_call_25 C a1 a2 P G hr hnl S1 h)
    · have h := h.1 c
      refine z_iload_n C 3 rfl rfl d_M_call_15 ?_
      refine z_iconst (v := (4 : Int32)) C rfl d_M_call_16 ?_
      refine z_iload_n C 0 rfl rfl d_M_call_17 ?_
      refine z_imul C d_M_call_18 ?_
      refine z_callSi (rest := []) C q_M_isArea rfl tw_1139 (c_M_isArea _ B a2 ((4 : Int32) * r2) S1 _ h) ⟨Nat.le_of_ble_eq_true rfl, Nat.le_of_ble_eq_true rfl⟩ rfl rfl (Nat.le_of_ble_eq_true rfl) d_M_call_19 (fun S3 r4 h => ?_)
      refine z_if_ne (tgt := 32) C d_M_call_22 rfl (fun c => ?_) (fun c => ?_)
      · have h := h.2 c
        exact z_sub [1, 2, 3] rfl (vj_M_call_32 C a1 a2 P G hr hnl S3 h)
      · have h := h.1 c
        exact z_sub [1] rfl (vj_M_call_25 C a1 a2 P G hr hnl S3 h)
theorem c_M_call (l : Launch) (B : zK) (a1 : Int32) (a2 : Int32) (S : zS) (P : zS → Prop) (h : w_M_call a1 a2 S P) : Met l y_M_call (Cond.code y_M_call prog_12_method_35_code 4 none :: tT) (zRm 5 115) (zPc (wR B) [.ref (ad B 0), .int a1, .int a2] S) (zQ (wR B) (zPv P)) 0 0 (wR B).2.2.2 :=
  z_met (by decide) (Nat.le_of_ble_eq_true rfl) (fun E C G hr _ hnl => v_M_call C a1 a2 P G hr hnl S h)
theorem q_M_call : zQw y_M_call prog_12_method_35_code 4 none 2 := ⟨tw_1199, tw_52, tw_87, tw_1200, by decide +kernel⟩
def j_M_breaks_61 (P : zS → Prop) (S : zS) : Prop :=
  w_M_stop (5 : Int32) S (fun S1 => P S1)
set_option maxRecDepth 20000 in
set_option maxHeartbeats 4000000 in
theorem vj_M_breaks_61 {E : zE} {B : zK} (C : zC E (wR B) prog_12_method_30_code "HostBenchModel" 6 138) (P : zS → Prop) (G : zGoal E (zQ (wR B) (zPv P)) (wR B)) (hr : zRt E (none)) (hnl : E.2.2.2.2.2.2.2.2.2.2.1 = 2) (S : zS) (h : j_M_breaks_61 P S) : zV E (wR B) S 61 [(0, .ref (ad B 0))] [] := by
  unfold j_M_breaks_61 at h
  refine z_aload_n C 0 rfl rfl d_M_breaks_61 ?_
  refine z_iconst (v := (5 : Int32)) C rfl d_M_breaks_62 ?_
  refine z_callVv (rest := []) C q_M_stop tw_1135 (c_M_stop _ B (5 : Int32) S _ h) rc_M ⟨Nat.le_of_ble_eq_true rfl, Nat.le_of_ble_eq_true rfl⟩ rfl rfl (Nat.le_of_ble_eq_true rfl) d_M_breaks_63 (fun S1 h => ?_)
  exact z_vreturn C G hr h d_M_breaks_66
def j_M_breaks_26 (P : zS → Prop) (S : zS) (s0 : Int32) : Prop :=
  (s0 = 0 → (j_M_breaks_61 P S)) ∧ (¬ s0 = 0 → (w_M_word ((gM S 0 3) - (4 : Int32)) S (fun S1 r2 => (r2 = (32509971 : Int32) → (w_M_word ((gM S1 0 3) + (4 : Int32)) S1 (fun S3 r4 => (r4 = (1081102355 : Int32) → (∀ S5 : zS, S5 = sM S3 0 8 ((gM S3 0 8) + (1 : Int32)) → vp_in (10 : Int32) 32 ∧ ∀ S7 : zS, S7 = sM S5 0 9 (gM S5 2 (10 : Int32).toNatClampNeg) → vp_in (11 : Int32) 32 ∧ w_M_call (gM S7 2 (10 : Int32).toNatClampNeg) (gM S7 2 (11 : Int32).toNatClampNeg) S7 (fun S9 => ((gM S9 0 4) = 0 → (∀ S10 : zS, S10 = sM S9 0 3 ((gM S9 0 3) + (8 : Int32)) → P S10)) ∧ (¬ (gM S9 0 4) = 0 → (P S9))))) ∧ (¬ r4 = (1081102355 : Int32) → (j_M_breaks_61 P S3))))) ∧ (¬ r2 = (32509971 : Int32) → (j_M_breaks_61 P S1)))))
set_option maxRecDepth 20000 in
set_option maxHeartbeats 4000000 in
theorem vj_M_breaks_26 {E : zE} {B : zK} (C : zC E (wR B) prog_12_method_30_code "HostBenchModel" 6 138) (P : zS → Prop) (G : zGoal E (zQ (wR B) (zPv P)) (wR B)) (hr : zRt E (none)) (hnl : E.2.2.2.2.2.2.2.2.2.2.1 = 2) (S : zS) (s0 : Int32) (h : j_M_breaks_26 P S s0) : zV E (wR B) S 26 [(0, .ref (ad B 0))] [.int s0] := by
  unfold j_M_breaks_26 at h
  refine z_istore_n (L' := [(1, .int s0), (0, .ref (ad B 0))]) C hnl rfl (by decide) rfl d_M_breaks_26 ?_
  refine z_iload_n C 0 rfl rfl d_M_breaks_27 ?_
  refine z_if_eq (tgt := 61) C d_M_breaks_28 rfl (fun c => ?_) (fun c => ?_)
  · have h := h.1 c
    exact z_sub [1] rfl (vj_M_breaks_61 C P G hr hnl S h)
  · have h := h.2 c
    refine z_aload_n C 1 rfl rfl d_M_breaks_31 ?_
    refine z_aload_n C 1 rfl rfl d_M_breaks_32 ?_
    refine gf_M_pc C (Or.inl tw_987) d_M_breaks_33 ?_
    refine z_iconst (v := (4 : Int32)) C rfl d_M_breaks_36 ?_
    refine z_isub C d_M_breaks_37 ?_
    refine z_callVi (rest := []) C q_M_word tw_1147 (c_M_word _ B ((gM S 0 3) - (4 : Int32)) S _ h) rc_M ⟨Nat.le_of_ble_eq_true rfl, Nat.le_of_ble_eq_true rfl⟩ rfl rfl (Nat.le_of_ble_eq_true rfl) d_M_breaks_38 (fun S1 r2 h => ?_)
    refine z_ldc (v := (32509971 : Int32)) C tw_1195 d_M_breaks_41 ?_
    refine z_icmp_ne (tgt := 61) C d_M_breaks_43 rfl (fun c => ?_) (fun c => ?_)
    · have h := h.2 c
      exact z_sub [1] rfl (vj_M_breaks_61 C P G hr hnl S1 h)
    · have h := h.1 c
      refine z_aload_n C 1 rfl rfl d_M_breaks_46 ?_
      refine z_aload_n C 1 rfl rfl d_M_breaks_47 ?_
      refine gf_M_pc C (Or.inl tw_987) d_M_breaks_48 ?_
      refine z_iconst (v := (4 : Int32)) C rfl d_M_breaks_51 ?_
      refine z_iadd C d_M_breaks_52 ?_
      refine z_callVi (rest := []) C q_M_word tw_1147 (c_M_word _ B ((gM S1 0 3) + (4 : Int32)) S1 _ h) rc_M ⟨Nat.le_of_ble_eq_true rfl, Nat.le_of_ble_eq_true rfl⟩ rfl rfl (Nat.le_of_ble_eq_true rfl) d_M_breaks_53 (fun S3 r4 h => ?_)
      refine z_ldc (v := (1081102355 : Int32)) C tw_1196 d_M_breaks_56 ?_
      refine z_icmp_eq (tgt := 67) C d_M_breaks_58 rfl (fun c => ?_) (fun c => ?_)
      · have h := h.1 c
        refine z_aload_n C 1 rfl rfl d_M_breaks_67 ?_
        refine z_dup C rfl d_M_breaks_68 ?_
        refine gf_M_calls C (Or.inl tw_992) d_M_breaks_69 ?_
        refine z_iconst (v := (1 : Int32)) C rfl d_M_breaks_72 ?_
        refine z_iadd C d_M_breaks_73 ?_
        refine pf_M_calls C (Or.inl tw_992) d_M_breaks_74 ?_
        refine z_nS (fun S5 eS5 => ?_)
        have h := h S5 eS5
        refine z_aload_n C 1 rfl rfl d_M_breaks_77 ?_
        refine z_aload_n C 1 rfl rfl d_M_breaks_78 ?_
        refine gf_M_x C (Or.inl tw_986) d_M_breaks_79 ?_
        refine z_bipush (v := (10 : Int32)) C rfl d_M_breaks_82 ?_
        obtain ⟨f6, h⟩ := h
        refine al_m_x C f6 d_M_breaks_84 ?_
        refine pf_M_latest C (Or.inl tw_993) d_M_breaks_85 ?_
        refine z_nS (fun S7 eS7 => ?_)
        have h := h S7 eS7
        refine z_aload_n C 1 rfl rfl d_M_breaks_88 ?_
        refine z_aload_n C 1 rfl rfl d_M_breaks_89 ?_
        refine gf_M_x C (Or.inl tw_986) d_M_breaks_90 ?_
        refine z_bipush (v := (10 : Int32)) C rfl d_M_breaks_93 ?_
        refine al_m_x C f6 d_M_breaks_95 ?_
        refine z_aload_n C 1 rfl rfl d_M_breaks_96 ?_
        refine gf_M_x C (Or.inl tw_986) d_M_breaks_97 ?_
        refine z_bipush (v := (11 : Int32)) C rfl d_M_breaks_100 ?_
        obtain ⟨f8, h⟩ := h
        refine al_m_x C f8 d_M_breaks_102 ?_
        refine z_callVv (rest := []) C q_M_call tw_1197 (c_M_call _ B (gM S7 2 (10 : Int32).toNatClampNeg) (gM S7 2 (11 : Int32).toNatClampNeg) S7 _ h) rc_M ⟨Nat.le_of_ble_eq_true rfl, Nat.le_of_ble_eq_true rfl⟩ rfl rfl (Nat.le_of_ble_eq_true rfl) d_M_breaks_103 (fun S9 h => ?_)
        refine z_aload_n C 1 rfl rfl d_M_breaks_106 ?_
        refine gf_M_state C (Or.inl tw_988) d_M_breaks_107 ?_
        refine z_if_ne (tgt := 124) C d_M_breaks_110 rfl (fun c => ?_) (fun c => ?_)
        · have h := h.2 c
          exact z_vreturn C G hr h d_M_breaks_124
        · have h := h.1 c
          refine z_aload_n C 1 rfl rfl d_M_breaks_113 ?_
          refine z_dup C rfl d_M_breaks_114 ?_
          refine gf_M_pc C (Or.inl tw_987) d_M_breaks_115 ?_
          refine z_bipush (v := (8 : Int32)) C rfl d_M_breaks_118 ?_
          refine z_iadd C d_M_breaks_120 ?_
          refine pf_M_pc C (Or.inl tw_987) d_M_breaks_121 ?_
          refine z_nS (fun S10 eS10 => ?_)
          have h := h S10 eS10
          exact z_vreturn C G hr h d_M_breaks_124
      · have h := h.2 c
        exact z_sub [1] rfl (vj_M_breaks_61 C P G hr hnl S3 h)
def j_M_breaks_25 (P : zS → Prop) (S : zS) : Prop :=
  j_M_breaks_26 P S (0 : Int32)
set_option maxRecDepth 20000 in
set_option maxHeartbeats 4000000 in
theorem vj_M_breaks_25 {E : zE} {B : zK} (C : zC E (wR B) prog_12_method_30_code "HostBenchModel" 6 138) (P : zS → Prop) (G : zGoal E (zQ (wR B) (zPv P)) (wR B)) (hr : zRt E (none)) (hnl : E.2.2.2.2.2.2.2.2.2.2.1 = 2) (S : zS) (h : j_M_breaks_25 P S) : zV E (wR B) S 25 [(0, .ref (ad B 0))] [] := by
  unfold j_M_breaks_25 at h
  refine z_iconst (v := (0 : Int32)) C rfl d_M_breaks_25 ?_
  exact z_sub [0] rfl (vj_M_breaks_26 C P G hr hnl S (0 : Int32) h)
def w_M_breaks (S : zS) (P : zS → Prop) : Prop :=
  ((gM S 0 3) < (4 : Int32) → (j_M_breaks_25 P S)) ∧ (¬ (gM S 0 3) < (4 : Int32) → (((16384 : Int32) < ((gM S 0 3) + (8 : Int32)) → (j_M_breaks_25 P S)) ∧ (¬ (16384 : Int32) < ((gM S 0 3) + (8 : Int32)) → (j_M_breaks_26 P S (1 : Int32)))))
set_option maxRecDepth 20000 in
set_option maxHeartbeats 4000000 in
theorem v_M_breaks {E : zE} {B : zK} (C : zC E (wR B) prog_12_method_30_code "HostBenchModel" 6 138) (P : zS → Prop) (G : zGoal E (zQ (wR B) (zPv P)) (wR B)) (hr : zRt E (none)) (hnl : E.2.2.2.2.2.2.2.2.2.2.1 = 2) (S : zS) (h : w_M_breaks S P) : zV E (wR B) S 0 [(0, .ref (ad B 0))] [] := by
  unfold w_M_breaks at h
  refine z_aload_n C 0 rfl rfl d_M_breaks_0 ?_
  refine gf_M_pc C (Or.inl tw_987) d_M_breaks_1 ?_
  refine z_iconst (v := (4 : Int32)) C rfl d_M_breaks_4 ?_
  refine z_icmp_lt (tgt := 25) C d_M_breaks_5 rfl (fun c => ?_) (fun c => ?_)
  · have h := h.1 c
    exact z_sub [0] rfl (vj_M_breaks_25 C P G hr hnl S h)
  · have h := h.2 c
    refine z_aload_n C 0 rfl rfl d_M_breaks_8 ?_
    refine gf_M_pc C (Or.inl tw_987) d_M_breaks_9 ?_
    refine z_bipush (v := (8 : Int32)) C rfl d_M_breaks_12 ?_
    refine z_iadd C d_M_breaks_14 ?_
    refine z_sipush (v := (16384 : Int32)) C rfl d_M_breaks_15 ?_
    refine z_icmp_gt (tgt := 25) C d_M_breaks_18 rfl (fun c => ?_) (fun c => ?_)
    · have h := h.1 c
      exact z_sub [0] rfl (vj_M_breaks_25 C P G hr hnl S h)
    · have h := h.2 c
      refine z_iconst (v := (1 : Int32)) C rfl d_M_breaks_21 ?_
      refine z_goto (tgt := 26) C d_M_breaks_22 rfl ?_
      exact z_sub [0] rfl (vj_M_breaks_26 C P G hr hnl S (1 : Int32) h)
theorem c_M_breaks (l : Launch) (B : zK) (S : zS) (P : zS → Prop) (h : w_M_breaks S P) : Met l y_M_breaks (Cond.code y_M_breaks prog_12_method_30_code 2 none :: tT) (zRm 6 138) (zPc (wR B) [.ref (ad B 0)] S) (zQ (wR B) (zPv P)) 0 0 (wR B).2.2.2 :=
  z_met (by decide) (Nat.le_of_ble_eq_true rfl) (fun E C G hr _ hnl => v_M_breaks C P G hr hnl S h)
theorem q_M_breaks : zQw y_M_breaks prog_12_method_30_code 2 none 0 := ⟨tw_1193, tw_51, tw_87, tw_1194, by decide +kernel⟩
def w_M_step (S : zS) (P : zS → Prop) : Prop :=
  ∀ S1 : zS, S1 = sJ S ((gJ S) + (1 : Int64)) → (((gM S1 0 3) &&& (3 : Int32)) = 0 → (w_M_isArea (gM S1 0 3) (4 : Int32) S1 (fun S2 r3 => (r3 = 0 → (w_M_stop (2 : Int32) S2 (fun S29 => P S29))) ∧ (¬ r3 = 0 → (w_M_word (gM S2 0 3) S2 (fun S4 r5 => ∀ v6 : Int32, v6 = ((r5 >>> ((7 : Int32) &&& 31)) &&& (31 : Int32)) → vp_in ((r5 >>> ((15 : Int32) &&& 31)) &&& (31 : Int32)) 32 ∧ ∀ v8 : Int32, v8 = (gM S4 2 ((r5 >>> ((15 : Int32) &&& 31)) &&& (31 : Int32)).toNatClampNeg) → vp_in ((r5 >>> ((20 : Int32) &&& 31)) &&& (31 : Int32)) 32 ∧ ∀ v10 : Int32, v10 = (gM S4 2 ((r5 >>> ((20 : Int32) &&& 31)) &&& (31 : Int32)).toNatClampNeg) → ∀ v11 : Int32, v11 = ((r5 >>> ((12 : Int32) &&& 31)) &&& (7 : Int32)) → ((r5 &&& (127 : Int32)) = (3 : Int32) → (w_M_load v6 v11 (v8 + (r5 >>> ((20 : Int32) &&& 31))) S4 (fun S15 => P S15))) ∧ (¬ (r5 &&& (127 : Int32)) = (3 : Int32) → (((r5 &&& (127 : Int32)) = (15 : Int32) → (((2 : Int32) ≤ v11 → (w_M_stop (3 : Int32) S4 (fun S16 => P S16))) ∧ (¬ (2 : Int32) ≤ v11 → (∀ S17 : zS, S17 = sM S4 0 3 ((gM S4 0 3) + (4 : Int32)) → P S17)))) ∧ (¬ (r5 &&& (127 : Int32)) = (15 : Int32) → (((r5 &&& (127 : Int32)) = (19 : Int32) → (w_M_small r5 v6 v11 v8 S4 (fun S18 => P S18))) ∧ (¬ (r5 &&& (127 : Int32)) = (19 : Int32) → (((r5 &&& (127 : Int32)) = (23 : Int32) → (w_M_comes v6 ((gM S4 0 3) + (r5 &&& (-4096 : Int32))) S4 (fun S19 => ∀ S20 : zS, S20 = sM S19 0 3 ((gM S19 0 3) + (4 : Int32)) → P S20))) ∧ (¬ (r5 &&& (127 : Int32)) = (23 : Int32) → (((r5 &&& (127 : Int32)) = (35 : Int32) → (w_M_store v11 (v8 + (((r5 >>> ((25 : Int32) &&& 31)) <<< ((5 : Int32) &&& 31)) ||| ((r5 >>> ((7 : Int32) &&& 31)) &&& (31 : Int32)))) v10 S4 (fun S21 => P S21))) ∧ (¬ (r5 &&& (127 : Int32)) = (35 : Int32) → (((r5 &&& (127 : Int32)) = (51 : Int32) → (w_M_two ((r5.toUInt32 >>> ((25 : Int32).toUInt32 &&& Int32.toUInt32 31)).toInt32) v6 v11 v8 v10 S4 (fun S22 => P S22))) ∧ (¬ (r5 &&& (127 : Int32)) = (51 : Int32) → (((r5 &&& (127 : Int32)) = (55 : Int32) → (w_M_comes v6 (r5 &&& (-4096 : Int32)) S4 (fun S23 => ∀ S24 : zS, S24 = sM S23 0 3 ((gM S23 0 3) + (4 : Int32)) → P S24))) ∧ (¬ (r5 &&& (127 : Int32)) = (55 : Int32) → (((r5 &&& (127 : Int32)) = (99 : Int32) → (w_M_branch r5 v11 v8 v10 S4 (fun S25 => P S25))) ∧ (¬ (r5 &&& (127 : Int32)) = (99 : Int32) → (((r5 &&& (127 : Int32)) = (103 : Int32) → ((v11 = 0 → (w_M_jump v6 ((v8 + (r5 >>> ((20 : Int32) &&& 31))) &&& (-2 : Int32)) S4 (fun S27 => P S27))) ∧ (¬ v11 = 0 → (w_M_stop (3 : Int32) S4 (fun S26 => P S26))))) ∧ (¬ (r5 &&& (127 : Int32)) = (103 : Int32) → (((r5 &&& (127 : Int32)) = (111 : Int32) → (w_M_jump v6 ((gM S4 0 3) + (((((r5 >>> ((31 : Int32) &&& 31)) <<< ((20 : Int32) &&& 31)) ||| (r5 &&& (1044480 : Int32))) ||| (((r5 >>> ((20 : Int32) &&& 31)) &&& (1 : Int32)) <<< ((11 : Int32) &&& 31))) ||| (((r5 >>> ((21 : Int32) &&& 31)) &&& (1023 : Int32)) <<< ((1 : Int32) &&& 31)))) S4 (fun S28 => P S28))) ∧ (¬ (r5 &&& (127 : Int32)) = (111 : Int32) → ((r5 = (115 : Int32) → (w_M_stop (4 : Int32) S4 (fun S14 => P S14))) ∧ (¬ r5 = (115 : Int32) → ((r5 = (1048691 : Int32) → (w_M_breaks S4 (fun S13 => P S13))) ∧ (¬ r5 = (1048691 : Int32) → (w_M_stop (3 : Int32) S4 (fun S12 => P S12))))))))))))))))))))))))))))))) ∧ (¬ ((gM S1 0 3) &&& (3 : Int32)) = 0 → (w_M_stop (1 : Int32) S1 (fun S30 => P S30)))
set_option maxRecDepth 20000 in
set_option maxHeartbeats 4000000 in
theorem v_M_step {E : zE} {B : zK} (C : zC E (wR B) prog_12_method_21_code "HostBenchModel" 7 159) (P : zS → Prop) (G : zGoal E (zQ (wR B) (zPv P)) (wR B)) (hr : zRt E (none)) (hnl : E.2.2.2.2.2.2.2.2.2.2.1 = 6) (S : zS) (h : w_M_step S P) : zV E (wR B) S 0 [(0, .ref (ad B 0))] [] := by
  unfold w_M_step at h
  refine z_aload_n C 0 rfl rfl d_M_step_0 ?_
  refine z_dup C rfl d_M_step_1 ?_
  refine gf_M_steps C (Or.inl tw_991) d_M_step_2 ?_
  refine z_lconst (v := (1 : Int64)) C rfl d_M_step_5 ?_
  refine z_ladd C d_M_step_6 ?_
  refine pf_M_steps C (Or.inl tw_991) d_M_step_7 ?_
  refine z_nS (fun S1 eS1 => ?_)
  have h := h S1 eS1
  refine z_aload_n C 0 rfl rfl d_M_step_10 ?_
  refine gf_M_pc C (Or.inl tw_987) d_M_step_11 ?_
  refine z_iconst (v := (3 : Int32)) C rfl d_M_step_14 ?_
  refine z_iand C d_M_step_15 ?_
  refine z_if_eq (tgt := 25) C d_M_step_16 rfl (fun c => ?_) (fun c => ?_)
  · have h := h.1 c
    refine z_aload_n C 0 rfl rfl d_M_step_25 ?_
    refine gf_M_pc C (Or.inl tw_987) d_M_step_26 ?_
    refine z_iconst (v := (4 : Int32)) C rfl d_M_step_29 ?_
    refine z_callSi (rest := []) C q_M_isArea rfl tw_1139 (c_M_isArea _ B (gM S1 0 3) (4 : Int32) S1 _ h) ⟨Nat.le_of_ble_eq_true rfl, Nat.le_of_ble_eq_true rfl⟩ rfl rfl (Nat.le_of_ble_eq_true rfl) d_M_step_30 (fun S2 r3 h => ?_)
    refine z_if_ne (tgt := 42) C d_M_step_33 rfl (fun c => ?_) (fun c => ?_)
    · have h := h.2 c
      refine z_aload_n C 0 rfl rfl d_M_step_42 ?_
      refine z_aload_n C 0 rfl rfl d_M_step_43 ?_
      refine gf_M_pc C (Or.inl tw_987) d_M_step_44 ?_
      refine z_callVi (rest := []) C q_M_word tw_1147 (c_M_word _ B (gM S2 0 3) S2 _ h) rc_M ⟨Nat.le_of_ble_eq_true rfl, Nat.le_of_ble_eq_true rfl⟩ rfl rfl (Nat.le_of_ble_eq_true rfl) d_M_step_47 (fun S4 r5 h => ?_)
      refine z_istore_n (L' := [(1, .int r5), (0, .ref (ad B 0))]) C hnl rfl (by decide) rfl d_M_step_50 ?_
      refine z_iload_n C 0 rfl rfl d_M_step_51 ?_
      refine z_bipush (v := (7 : Int32)) C rfl d_M_step_52 ?_
      refine z_ishr C d_M_step_54 ?_
      refine z_bipush (v := (31 : Int32)) C rfl d_M_step_55 ?_
      refine z_iand C d_M_step_57 ?_
      refine z_topi (fun v6 ev6 => ?_)
      have h := h v6 ev6
      refine z_istore_n (L' := [(2, .int v6), (1, .int r5), (0, .ref (ad B 0))]) C hnl rfl (by decide) rfl d_M_step_58 ?_
      refine z_aload_n C 2 rfl rfl d_M_step_59 ?_
      refine gf_M_x C (Or.inl tw_986) d_M_step_60 ?_
      refine z_iload_n C 1 rfl rfl d_M_step_63 ?_
      refine z_bipush (v := (15 : Int32)) C rfl d_M_step_64 ?_
      refine z_ishr C d_M_step_66 ?_
      refine z_bipush (v := (31 : Int32)) C rfl d_M_step_67 ?_
      refine z_iand C d_M_step_69 ?_
      obtain ⟨f7, h⟩ := h
      refine al_m_x C f7 d_M_step_70 ?_
      refine z_topi (fun v8 ev8 => ?_)
      have h := h v8 ev8
      refine z_istore_n (L' := [(3, .int v8), (2, .int v6), (1, .int r5), (0, .ref (ad B 0))]) C hnl rfl (by decide) rfl d_M_step_71 ?_
      refine z_aload_n C 3 rfl rfl d_M_step_72 ?_
      refine gf_M_x C (Or.inl tw_986) d_M_step_73 ?_
      refine z_iload_n C 2 rfl rfl d_M_step_76 ?_
      refine z_bipush (v := (20 : Int32)) C rfl d_M_step_77 ?_
      refine z_ishr C d_M_step_79 ?_
      refine z_bipush (v := (31 : Int32)) C rfl d_M_step_80 ?_
      refine z_iand C d_M_step_82 ?_
      obtain ⟨f9, h⟩ := h
      refine al_m_x C f9 d_M_step_83 ?_
      refine z_topi (fun v10 ev10 => ?_)
      have h := h v10 ev10
      refine z_istore (L' := [(4, .int v10), (3, .int v8), (2, .int v6), (1, .int r5), (0, .ref (ad B 0))]) C hnl (by decide) rfl d_M_step_84 ?_
      refine z_iload_n C 3 rfl rfl d_M_step_86 ?_
      refine z_bipush (v := (12 : Int32)) C rfl d_M_step_87 ?_
      refine z_ishr C d_M_step_89 ?_
      refine z_bipush (v := (7 : Int32)) C rfl d_M_step_90 ?_
      refine z_iand C d_M_step_92 ?_
      refine z_topi (fun v11 ev11 => ?_)
      have h := h v11 ev11
      refine z_istore (L' := [(5, .int v11), (4, .int v10), (3, .int v8), (2, .int v6), (1, .int r5), (0, .ref (ad B 0))]) C hnl (by decide) rfl d_M_step_93 ?_
      refine z_iload_n C 4 rfl rfl d_M_step_95 ?_
      refine z_bipush (v := (127 : Int32)) C rfl d_M_step_96 ?_
      refine z_iand C d_M_step_98 ?_
      by_cases c0 : (r5 &&& (127 : Int32)) = (3 : Int32)
      · have h := h.1 c0
        refine z_lookup (off := 229) (tgt := 328) C d_M_step_99 rfl (by rw [c0]; rfl) rfl ?_
        refine z_aload_n C 5 rfl rfl d_M_step_328 ?_
        refine z_iload_n C 3 rfl rfl d_M_step_329 ?_
        refine z_iload C 0 rfl d_M_step_330 ?_
        refine z_iload_n C 2 rfl rfl d_M_step_332 ?_
        refine z_iload_n C 4 rfl rfl d_M_step_333 ?_
        refine z_bipush (v := (20 : Int32)) C rfl d_M_step_334 ?_
        refine z_ishr C d_M_step_336 ?_
        refine z_iadd C d_M_step_337 ?_
        refine z_callVv (rest := []) C q_M_load tw_1164 (c_M_load _ B v6 v11 (v8 + (r5 >>> ((20 : Int32) &&& 31))) S4 _ h) rc_M ⟨Nat.le_of_ble_eq_true rfl, Nat.le_of_ble_eq_true rfl⟩ rfl rfl (Nat.le_of_ble_eq_true rfl) d_M_step_338 (fun S15 h => ?_)
        refine z_goto (tgt := 459) C d_M_step_341 rfl ?_
        exact z_vreturn C G hr h d_M_step_459
      · have h := h.2 c0
        by_cases c1 : (r5 &&& (127 : Int32)) = (15 : Int32)
        · have h := h.1 c1
          refine z_lookup (off := 301) (tgt := 400) C d_M_step_99 rfl (by rw [c1]; rfl) rfl ?_
          refine z_iload C 0 rfl d_M_step_400 ?_
          refine z_iconst (v := (2 : Int32)) C rfl d_M_step_402 ?_
          refine z_icmp_ge (tgt := 419) C d_M_step_403 rfl (fun c => ?_) (fun c => ?_)
          · have h := h.1 c
            refine z_aload_n C 5 rfl rfl d_M_step_419 ?_
            refine z_iconst (v := (3 : Int32)) C rfl d_M_step_420 ?_
            refine z_callVv (rest := []) C q_M_stop tw_1135 (c_M_stop _ B (3 : Int32) S4 _ h) rc_M ⟨Nat.le_of_ble_eq_true rfl, Nat.le_of_ble_eq_true rfl⟩ rfl rfl (Nat.le_of_ble_eq_true rfl) d_M_step_421 (fun S16 h => ?_)
            refine z_goto (tgt := 459) C d_M_step_424 rfl ?_
            exact z_vreturn C G hr h d_M_step_459
          · have h := h.2 c
            refine z_aload_n C 5 rfl rfl d_M_step_406 ?_
            refine z_dup C rfl d_M_step_407 ?_
            refine gf_M_pc C (Or.inl tw_987) d_M_step_408 ?_
            refine z_iconst (v := (4 : Int32)) C rfl d_M_step_411 ?_
            refine z_iadd C d_M_step_412 ?_
            refine pf_M_pc C (Or.inl tw_987) d_M_step_413 ?_
            refine z_nS (fun S17 eS17 => ?_)
            have h := h S17 eS17
            refine z_goto (tgt := 459) C d_M_step_416 rfl ?_
            exact z_vreturn C G hr h d_M_step_459
        · have h := h.2 c1
          by_cases c2 : (r5 &&& (127 : Int32)) = (19 : Int32)
          · have h := h.1 c2
            refine z_lookup (off := 272) (tgt := 371) C d_M_step_99 rfl (by rw [c2]; rfl) rfl ?_
            refine z_aload_n C 5 rfl rfl d_M_step_371 ?_
            refine z_iload_n C 4 rfl rfl d_M_step_372 ?_
            refine z_iload_n C 3 rfl rfl d_M_step_373 ?_
            refine z_iload C 0 rfl d_M_step_374 ?_
            refine z_iload_n C 2 rfl rfl d_M_step_376 ?_
            refine z_callVv (rest := []) C q_M_small tw_1176 (c_M_small _ B r5 v6 v11 v8 S4 _ h) rc_M ⟨Nat.le_of_ble_eq_true rfl, Nat.le_of_ble_eq_true rfl⟩ rfl rfl (Nat.le_of_ble_eq_true rfl) d_M_step_377 (fun S18 h => ?_)
            refine z_goto (tgt := 459) C d_M_step_380 rfl ?_
            exact z_vreturn C G hr h d_M_step_459
          · have h := h.2 c2
            by_cases c3 : (r5 &&& (127 : Int32)) = (23 : Int32)
            · have h := h.1 c3
              refine z_lookup (off := 112) (tgt := 211) C d_M_step_99 rfl (by rw [c3]; rfl) rfl ?_
              refine z_aload_n C 5 rfl rfl d_M_step_211 ?_
              refine z_iload_n C 3 rfl rfl d_M_step_212 ?_
              refine z_aload_n C 5 rfl rfl d_M_step_213 ?_
              refine gf_M_pc C (Or.inl tw_987) d_M_step_214 ?_
              refine z_iload_n C 4 rfl rfl d_M_step_217 ?_
              refine z_sipush (v := (-4096 : Int32)) C rfl d_M_step_218 ?_
              refine z_iand C d_M_step_221 ?_
              refine z_iadd C d_M_step_222 ?_
              refine z_callVv (rest := []) C q_M_comes tw_1151 (c_M_comes _ B v6 ((gM S4 0 3) + (r5 &&& (-4096 : Int32))) S4 _ h) rc_M ⟨Nat.le_of_ble_eq_true rfl, Nat.le_of_ble_eq_true rfl⟩ rfl rfl (Nat.le_of_ble_eq_true rfl) d_M_step_223 (fun S19 h => ?_)
              refine z_aload_n C 5 rfl rfl d_M_step_226 ?_
              refine z_dup C rfl d_M_step_227 ?_
              refine gf_M_pc C (Or.inl tw_987) d_M_step_228 ?_
              refine z_iconst (v := (4 : Int32)) C rfl d_M_step_231 ?_
              refine z_iadd C d_M_step_232 ?_
              refine pf_M_pc C (Or.inl tw_987) d_M_step_233 ?_
              refine z_nS (fun S20 eS20 => ?_)
              have h := h S20 eS20
              refine z_goto (tgt := 459) C d_M_step_236 rfl ?_
              exact z_vreturn C G hr h d_M_step_459
            · have h := h.2 c3
              by_cases c4 : (r5 &&& (127 : Int32)) = (35 : Int32)
              · have h := h.1 c4
                refine z_lookup (off := 245) (tgt := 344) C d_M_step_99 rfl (by rw [c4]; rfl) rfl ?_
                refine z_aload_n C 5 rfl rfl d_M_step_344 ?_
                refine z_iload C 0 rfl d_M_step_345 ?_
                refine z_iload_n C 2 rfl rfl d_M_step_347 ?_
                refine z_iload_n C 4 rfl rfl d_M_step_348 ?_
                refine z_bipush (v := (25 : Int32)) C rfl d_M_step_349 ?_
                refine z_ishr C d_M_step_351 ?_
                refine z_iconst (v := (5 : Int32)) C rfl d_M_step_352 ?_
                refine z_ishl C d_M_step_353 ?_
                refine z_iload_n C 4 rfl rfl d_M_step_354 ?_
                refine z_bipush (v := (7 : Int32)) C rfl d_M_step_355 ?_
                refine z_ishr C d_M_step_357 ?_
                refine z_bipush (v := (31 : Int32)) C rfl d_M_step_358 ?_
                refine z_iand C d_M_step_360 ?_
                refine z_ior C d_M_step_361 ?_
                refine z_iadd C d_M_step_362 ?_
                refine z_iload C 1 rfl d_M_step_363 ?_
                refine z_callVv (rest := []) C q_M_store tw_1168 (c_M_store _ B v11 (v8 + (((r5 >>> ((25 : Int32) &&& 31)) <<< ((5 : Int32) &&& 31)) ||| ((r5 >>> ((7 : Int32) &&& 31)) &&& (31 : Int32)))) v10 S4 _ h) rc_M ⟨Nat.le_of_ble_eq_true rfl, Nat.le_of_ble_eq_true rfl⟩ rfl rfl (Nat.le_of_ble_eq_true rfl) d_M_step_365 (fun S21 h => ?_)
                refine z_goto (tgt := 459) C d_M_step_368 rfl ?_
                exact z_vreturn C G hr h d_M_step_459
              · have h := h.2 c4
                by_cases c5 : (r5 &&& (127 : Int32)) = (51 : Int32)
                · have h := h.1 c5
                  refine z_lookup (off := 284) (tgt := 383) C d_M_step_99 rfl (by rw [c5]; rfl) rfl ?_
                  refine z_aload_n C 5 rfl rfl d_M_step_383 ?_
                  refine z_iload_n C 4 rfl rfl d_M_step_384 ?_
                  refine z_bipush (v := (25 : Int32)) C rfl d_M_step_385 ?_
                  refine z_iushr C d_M_step_387 ?_
                  refine z_iload_n C 3 rfl rfl d_M_step_388 ?_
                  refine z_iload C 0 rfl d_M_step_389 ?_
                  refine z_iload_n C 2 rfl rfl d_M_step_391 ?_
                  refine z_iload C 1 rfl d_M_step_392 ?_
                  refine z_callVv (rest := []) C q_M_two tw_1180 (c_M_two _ B ((r5.toUInt32 >>> ((25 : Int32).toUInt32 &&& Int32.toUInt32 31)).toInt32) v6 v11 v8 v10 S4 _ h) rc_M ⟨Nat.le_of_ble_eq_true rfl, Nat.le_of_ble_eq_true rfl⟩ rfl rfl (Nat.le_of_ble_eq_true rfl) d_M_step_394 (fun S22 h => ?_)
                  refine z_goto (tgt := 459) C d_M_step_397 rfl ?_
                  exact z_vreturn C G hr h d_M_step_459
                · have h := h.2 c5
                  by_cases c6 : (r5 &&& (127 : Int32)) = (55 : Int32)
                  · have h := h.1 c6
                    refine z_lookup (off := 89) (tgt := 188) C d_M_step_99 rfl (by rw [c6]; rfl) rfl ?_
                    refine z_aload_n C 5 rfl rfl d_M_step_188 ?_
                    refine z_iload_n C 3 rfl rfl d_M_step_189 ?_
                    refine z_iload_n C 4 rfl rfl d_M_step_190 ?_
                    refine z_sipush (v := (-4096 : Int32)) C rfl d_M_step_191 ?_
                    refine z_iand C d_M_step_194 ?_
                    refine z_callVv (rest := []) C q_M_comes tw_1151 (c_M_comes _ B v6 (r5 &&& (-4096 : Int32)) S4 _ h) rc_M ⟨Nat.le_of_ble_eq_true rfl, Nat.le_of_ble_eq_true rfl⟩ rfl rfl (Nat.le_of_ble_eq_true rfl) d_M_step_195 (fun S23 h => ?_)
                    refine z_aload_n C 5 rfl rfl d_M_step_198 ?_
                    refine z_dup C rfl d_M_step_199 ?_
                    refine gf_M_pc C (Or.inl tw_987) d_M_step_200 ?_
                    refine z_iconst (v := (4 : Int32)) C rfl d_M_step_203 ?_
                    refine z_iadd C d_M_step_204 ?_
                    refine pf_M_pc C (Or.inl tw_987) d_M_step_205 ?_
                    refine z_nS (fun S24 eS24 => ?_)
                    have h := h S24 eS24
                    refine z_goto (tgt := 459) C d_M_step_208 rfl ?_
                    exact z_vreturn C G hr h d_M_step_459
                  · have h := h.2 c6
                    by_cases c7 : (r5 &&& (127 : Int32)) = (99 : Int32)
                    · have h := h.1 c7
                      refine z_lookup (off := 216) (tgt := 315) C d_M_step_99 rfl (by rw [c7]; rfl) rfl ?_
                      refine z_aload_n C 5 rfl rfl d_M_step_315 ?_
                      refine z_iload_n C 4 rfl rfl d_M_step_316 ?_
                      refine z_iload C 0 rfl d_M_step_317 ?_
                      refine z_iload_n C 2 rfl rfl d_M_step_319 ?_
                      refine z_iload C 1 rfl d_M_step_320 ?_
                      refine z_callVv (rest := []) C q_M_branch tw_1160 (c_M_branch _ B r5 v11 v8 v10 S4 _ h) rc_M ⟨Nat.le_of_ble_eq_true rfl, Nat.le_of_ble_eq_true rfl⟩ rfl rfl (Nat.le_of_ble_eq_true rfl) d_M_step_322 (fun S25 h => ?_)
                      refine z_goto (tgt := 459) C d_M_step_325 rfl ?_
                      exact z_vreturn C G hr h d_M_step_459
                    · have h := h.2 c7
                      by_cases c8 : (r5 &&& (127 : Int32)) = (103 : Int32)
                      · have h := h.1 c8
                        refine z_lookup (off := 186) (tgt := 285) C d_M_step_99 rfl (by rw [c8]; rfl) rfl ?_
                        refine z_iload C 0 rfl d_M_step_285 ?_
                        refine z_if_ne (tgt := 307) C d_M_step_287 rfl (fun c => ?_) (fun c => ?_)
                        · have h := h.2 c
                          refine z_aload_n C 5 rfl rfl d_M_step_307 ?_
                          refine z_iconst (v := (3 : Int32)) C rfl d_M_step_308 ?_
                          refine z_callVv (rest := []) C q_M_stop tw_1135 (c_M_stop _ B (3 : Int32) S4 _ h) rc_M ⟨Nat.le_of_ble_eq_true rfl, Nat.le_of_ble_eq_true rfl⟩ rfl rfl (Nat.le_of_ble_eq_true rfl) d_M_step_309 (fun S26 h => ?_)
                          refine z_goto (tgt := 459) C d_M_step_312 rfl ?_
                          exact z_vreturn C G hr h d_M_step_459
                        · have h := h.1 c
                          refine z_aload_n C 5 rfl rfl d_M_step_290 ?_
                          refine z_iload_n C 3 rfl rfl d_M_step_291 ?_
                          refine z_iload_n C 2 rfl rfl d_M_step_292 ?_
                          refine z_iload_n C 4 rfl rfl d_M_step_293 ?_
                          refine z_bipush (v := (20 : Int32)) C rfl d_M_step_294 ?_
                          refine z_ishr C d_M_step_296 ?_
                          refine z_iadd C d_M_step_297 ?_
                          refine z_bipush (v := (-2 : Int32)) C rfl d_M_step_298 ?_
                          refine z_iand C d_M_step_300 ?_
                          refine z_callVv (rest := []) C q_M_jump tw_1156 (c_M_jump _ B v6 ((v8 + (r5 >>> ((20 : Int32) &&& 31))) &&& (-2 : Int32)) S4 _ h) rc_M ⟨Nat.le_of_ble_eq_true rfl, Nat.le_of_ble_eq_true rfl⟩ rfl rfl (Nat.le_of_ble_eq_true rfl) d_M_step_301 (fun S27 h => ?_)
                          refine z_goto (tgt := 459) C d_M_step_304 rfl ?_
                          exact z_vreturn C G hr h d_M_step_459
                      · have h := h.2 c8
                        by_cases c9 : (r5 &&& (127 : Int32)) = (111 : Int32)
                        · have h := h.1 c9
                          refine z_lookup (off := 140) (tgt := 239) C d_M_step_99 rfl (by rw [c9]; rfl) rfl ?_
                          refine z_aload_n C 5 rfl rfl d_M_step_239 ?_
                          refine z_iload_n C 3 rfl rfl d_M_step_240 ?_
                          refine z_aload_n C 5 rfl rfl d_M_step_241 ?_
                          refine gf_M_pc C (Or.inl tw_987) d_M_step_242 ?_
                          refine z_iload_n C 4 rfl rfl d_M_step_245 ?_
                          refine z_bipush (v := (31 : Int32)) C rfl d_M_step_246 ?_
                          refine z_ishr C d_M_step_248 ?_
                          refine z_bipush (v := (20 : Int32)) C rfl d_M_step_249 ?_
                          refine z_ishl C d_M_step_251 ?_
                          refine z_iload_n C 4 rfl rfl d_M_step_252 ?_
                          refine z_ldc (v := (1044480 : Int32)) C tw_1155 d_M_step_253 ?_
                          refine z_iand C d_M_step_255 ?_
                          refine z_ior C d_M_step_256 ?_
                          refine z_iload_n C 4 rfl rfl d_M_step_257 ?_
                          refine z_bipush (v := (20 : Int32)) C rfl d_M_step_258 ?_
                          refine z_ishr C d_M_step_260 ?_
                          refine z_iconst (v := (1 : Int32)) C rfl d_M_step_261 ?_
                          refine z_iand C d_M_step_262 ?_
                          refine z_bipush (v := (11 : Int32)) C rfl d_M_step_263 ?_
                          refine z_ishl C d_M_step_265 ?_
                          refine z_ior C d_M_step_266 ?_
                          refine z_iload_n C 4 rfl rfl d_M_step_267 ?_
                          refine z_bipush (v := (21 : Int32)) C rfl d_M_step_268 ?_
                          refine z_ishr C d_M_step_270 ?_
                          refine z_sipush (v := (1023 : Int32)) C rfl d_M_step_271 ?_
                          refine z_iand C d_M_step_274 ?_
                          refine z_iconst (v := (1 : Int32)) C rfl d_M_step_275 ?_
                          refine z_ishl C d_M_step_276 ?_
                          refine z_ior C d_M_step_277 ?_
                          refine z_iadd C d_M_step_278 ?_
                          refine z_callVv (rest := []) C q_M_jump tw_1156 (c_M_jump _ B v6 ((gM S4 0 3) + (((((r5 >>> ((31 : Int32) &&& 31)) <<< ((20 : Int32) &&& 31)) ||| (r5 &&& (1044480 : Int32))) ||| (((r5 >>> ((20 : Int32) &&& 31)) &&& (1 : Int32)) <<< ((11 : Int32) &&& 31))) ||| (((r5 >>> ((21 : Int32) &&& 31)) &&& (1023 : Int32)) <<< ((1 : Int32) &&& 31)))) S4 _ h) rc_M ⟨Nat.le_of_ble_eq_true rfl, Nat.le_of_ble_eq_true rfl⟩ rfl rfl (Nat.le_of_ble_eq_true rfl) d_M_step_279 (fun S28 h => ?_)
                          refine z_goto (tgt := 459) C d_M_step_282 rfl ?_
                          exact z_vreturn C G hr h d_M_step_459
                        · have h := h.2 c9
                          refine z_lookup (off := 328) (tgt := 427) C d_M_step_99 rfl (by show Op.lookupswitch.offset [(3, 229), (15, 301), (19, 272), (23, 112), (35, 245), (51, 284), (55, 89), (99, 216), (103, 186), (111, 140)] 328 _ = _; rw [lv_osw (a := 3) c0 rfl, lv_osw (a := 15) c1 rfl, lv_osw (a := 19) c2 rfl, lv_osw (a := 23) c3 rfl, lv_osw (a := 35) c4 rfl, lv_osw (a := 51) c5 rfl, lv_osw (a := 55) c6 rfl, lv_osw (a := 99) c7 rfl, lv_osw (a := 103) c8 rfl, lv_osw (a := 111) c9 rfl]; rfl) rfl ?_
                          refine z_iload_n C 4 rfl rfl d_M_step_427 ?_
                          refine z_bipush (v := (115 : Int32)) C rfl d_M_step_428 ?_
                          refine z_icmp_ne (tgt := 441) C d_M_step_430 rfl (fun c => ?_) (fun c => ?_)
                          · have h := h.2 c
                            refine z_iload_n C 4 rfl rfl d_M_step_441 ?_
                            refine z_ldc (v := (1048691 : Int32)) C tw_1190 d_M_step_442 ?_
                            refine z_icmp_ne (tgt := 454) C d_M_step_444 rfl (fun c => ?_) (fun c => ?_)
                            · have h := h.2 c
                              refine z_aload_n C 5 rfl rfl d_M_step_454 ?_
                              refine z_iconst (v := (3 : Int32)) C rfl d_M_step_455 ?_
                              refine z_callVv (rest := []) C q_M_stop tw_1135 (c_M_stop _ B (3 : Int32) S4 _ h) rc_M ⟨Nat.le_of_ble_eq_true rfl, Nat.le_of_ble_eq_true rfl⟩ rfl rfl (Nat.le_of_ble_eq_true rfl) d_M_step_456 (fun S12 h => ?_)
                              exact z_vreturn C G hr h d_M_step_459
                            · have h := h.1 c
                              refine z_aload_n C 5 rfl rfl d_M_step_447 ?_
                              refine z_callVv (rest := []) C q_M_breaks tw_1191 (c_M_breaks _ B S4 _ h) rc_M ⟨Nat.le_of_ble_eq_true rfl, Nat.le_of_ble_eq_true rfl⟩ rfl rfl (Nat.le_of_ble_eq_true rfl) d_M_step_448 (fun S13 h => ?_)
                              refine z_goto (tgt := 459) C d_M_step_451 rfl ?_
                              exact z_vreturn C G hr h d_M_step_459
                          · have h := h.1 c
                            refine z_aload_n C 5 rfl rfl d_M_step_433 ?_
                            refine z_iconst (v := (4 : Int32)) C rfl d_M_step_434 ?_
                            refine z_callVv (rest := []) C q_M_stop tw_1135 (c_M_stop _ B (4 : Int32) S4 _ h) rc_M ⟨Nat.le_of_ble_eq_true rfl, Nat.le_of_ble_eq_true rfl⟩ rfl rfl (Nat.le_of_ble_eq_true rfl) d_M_step_435 (fun S14 h => ?_)
                            refine z_goto (tgt := 459) C d_M_step_438 rfl ?_
                            exact z_vreturn C G hr h d_M_step_459
    · have h := h.1 c
      refine z_aload_n C 0 rfl rfl d_M_step_36 ?_
      refine z_iconst (v := (2 : Int32)) C rfl d_M_step_37 ?_
      refine z_callVv (rest := []) C q_M_stop tw_1135 (c_M_stop _ B (2 : Int32) S2 _ h) rc_M ⟨Nat.le_of_ble_eq_true rfl, Nat.le_of_ble_eq_true rfl⟩ rfl rfl (Nat.le_of_ble_eq_true rfl) d_M_step_38 (fun S29 h => ?_)
      exact z_vreturn C G hr h d_M_step_41
  · have h := h.2 c
    refine z_aload_n C 0 rfl rfl d_M_step_19 ?_
    refine z_iconst (v := (1 : Int32)) C rfl d_M_step_20 ?_
    refine z_callVv (rest := []) C q_M_stop tw_1135 (c_M_stop _ B (1 : Int32) S1 _ h) rc_M ⟨Nat.le_of_ble_eq_true rfl, Nat.le_of_ble_eq_true rfl⟩ rfl rfl (Nat.le_of_ble_eq_true rfl) d_M_step_21 (fun S30 h => ?_)
    exact z_vreturn C G hr h d_M_step_24
theorem c_M_step (l : Launch) (B : zK) (S : zS) (P : zS → Prop) (h : w_M_step S P) : Met l y_M_step (Cond.code y_M_step prog_12_method_21_code 6 none :: tT) (zRm 7 159) (zPc (wR B) [.ref (ad B 0)] S) (zQ (wR B) (zPv P)) 0 0 (wR B).2.2.2 :=
  z_met (by decide) (Nat.le_of_ble_eq_true rfl) (fun E C G hr _ hnl => v_M_step C P G hr hnl S h)
theorem q_M_step : zQw y_M_step prog_12_method_21_code 6 none 0 := ⟨tw_1133, tw_40, tw_87, tw_1134, by decide +kernel⟩
def l_M_run_22 (a1 : Int32) (P : zS → Int32 → Prop) : Nat → zS → Int32 → Prop
  | 0, _, _ => False
  | n + 1, S, x2 =>
  ((gM S 0 0) = 0 → ((a1 ≤ x2 → (P S x2)) ∧ (¬ a1 ≤ x2 → (((gM S 0 4) = 0 → (w_M_step S (fun S1 => l_M_run_22 a1 P n S1 (x2 + (1 : Int32))))) ∧ (¬ (gM S 0 4) = 0 → (P S x2)))))) ∧ (¬ (gM S 0 0) = 0 → (P S x2))
set_option maxRecDepth 20000 in
set_option maxHeartbeats 4000000 in
theorem vl_M_run_22 {E : zE} {B : zK} (C : zC E (wR B) prog_12_method_55_code "HostBenchModel" 8 184) (a1 : Int32) (P : zS → Int32 → Prop) (G : zGoal E (zQ (wR B) (zPi P)) (wR B)) (hr : zRt E (some .int)) (hnl : E.2.2.2.2.2.2.2.2.2.2.1 = 3) : ∀ (n : Nat) (S : zS) (x2 : Int32) , l_M_run_22 a1 P n S x2 → zV E (wR B) S 22 [(0, .ref (ad B 0)), (1, .int a1), (2, .int x2)] [] := by
  intro n
  induction n with
  | zero => intro S x2 h; exact h.elim
  | succ n ih =>
    intro S x2 h
    unfold l_M_run_22 at h
    refine z_aload_n C 0 rfl rfl d_M_run_22 ?_
    refine gf_M_thrown C (Or.inl tw_984) d_M_run_23 ?_
    refine z_if_ne (tgt := 51) C d_M_run_26 rfl (fun c => ?_) (fun c => ?_)
    · have h := h.2 c
      refine z_iload_n C 2 rfl rfl d_M_run_51 ?_
      exact z_ireturn C G hr h d_M_run_52
    · have h := h.1 c
      refine z_iload_n C 2 rfl rfl d_M_run_29 ?_
      refine z_iload_n C 1 rfl rfl d_M_run_30 ?_
      refine z_icmp_ge (tgt := 51) C d_M_run_31 rfl (fun c => ?_) (fun c => ?_)
      · have h := h.1 c
        refine z_iload_n C 2 rfl rfl d_M_run_51 ?_
        exact z_ireturn C G hr h d_M_run_52
      · have h := h.2 c
        refine z_aload_n C 0 rfl rfl d_M_run_34 ?_
        refine gf_M_state C (Or.inl tw_988) d_M_run_35 ?_
        refine z_if_ne (tgt := 51) C d_M_run_38 rfl (fun c => ?_) (fun c => ?_)
        · have h := h.2 c
          refine z_iload_n C 2 rfl rfl d_M_run_51 ?_
          exact z_ireturn C G hr h d_M_run_52
        · have h := h.1 c
          refine z_aload_n C 0 rfl rfl d_M_run_41 ?_
          refine z_callVv (rest := []) C q_M_step tw_1131 (c_M_step _ B S _ h) rc_M ⟨Nat.le_of_ble_eq_true rfl, Nat.le_of_ble_eq_true rfl⟩ rfl rfl (Nat.le_of_ble_eq_true rfl) d_M_run_42 (fun S1 h => ?_)
          refine z_iinc (v := x2 + (1 : Int32)) (L' := [(2, .int (x2 + (1 : Int32))), (0, .ref (ad B 0)), (1, .int a1)]) C hnl 2 rfl rfl (by decide) rfl d_M_run_45 ?_
          refine z_goto (tgt := 22) C d_M_run_48 rfl ?_
          exact z_sub [1, 2, 0] rfl (ih S1 (x2 + (1 : Int32)) h)
def j_M_run_17 (a1 : Int32) (P : zS → Int32 → Prop) (S : zS) (s1 : Int32) : Prop :=
  ∀ S1 : zS, S1 = sM S 0 0 s1 → ∃ n2 : Nat, l_M_run_22 a1 P n2 S1 (0 : Int32)
set_option maxRecDepth 20000 in
set_option maxHeartbeats 4000000 in
theorem vj_M_run_17 {E : zE} {B : zK} (C : zC E (wR B) prog_12_method_55_code "HostBenchModel" 8 184) (a1 : Int32) (P : zS → Int32 → Prop) (G : zGoal E (zQ (wR B) (zPi P)) (wR B)) (hr : zRt E (some .int)) (hnl : E.2.2.2.2.2.2.2.2.2.2.1 = 3) (S : zS) (s1 : Int32) (h : j_M_run_17 a1 P S s1) : zV E (wR B) S 17 [(0, .ref (ad B 0)), (1, .int a1)] [.int s1, .ref (ad B 0)] := by
  unfold j_M_run_17 at h
  refine pf_M_thrown C (Or.inl tw_984) d_M_run_17 ?_
  refine z_nS (fun S1 eS1 => ?_)
  have h := h S1 eS1
  refine z_iconst (v := (0 : Int32)) C rfl d_M_run_20 ?_
  refine z_istore_n (L' := [(2, .int (0 : Int32)), (0, .ref (ad B 0)), (1, .int a1)]) C hnl rfl (by decide) rfl d_M_run_21 ?_
  obtain ⟨n2, h⟩ := h
  exact z_sub [1, 2, 0] rfl (vl_M_run_22 C a1 P G hr hnl n2 S1 (0 : Int32) h)
def j_M_run_12 (a1 : Int32) (P : zS → Int32 → Prop) (S : zS) : Prop :=
  j_M_run_17 a1 P S (1 : Int32)
set_option maxRecDepth 20000 in
set_option maxHeartbeats 4000000 in
theorem vj_M_run_12 {E : zE} {B : zK} (C : zC E (wR B) prog_12_method_55_code "HostBenchModel" 8 184) (a1 : Int32) (P : zS → Int32 → Prop) (G : zGoal E (zQ (wR B) (zPi P)) (wR B)) (hr : zRt E (some .int)) (hnl : E.2.2.2.2.2.2.2.2.2.2.1 = 3) (S : zS) (h : j_M_run_12 a1 P S) : zV E (wR B) S 12 [(0, .ref (ad B 0)), (1, .int a1)] [.ref (ad B 0)] := by
  unfold j_M_run_12 at h
  refine z_iconst (v := (1 : Int32)) C rfl d_M_run_12 ?_
  refine z_goto (tgt := 17) C d_M_run_13 rfl ?_
  exact z_sub [0, 1] rfl (vj_M_run_17 C a1 P G hr hnl S (1 : Int32) h)
def w_M_run (a1 : Int32) (S : zS) (P : zS → Int32 → Prop) : Prop :=
  (a1 < 0 → (j_M_run_12 a1 P S)) ∧ (¬ a1 < 0 → ((a1 ≤ (5000 : Int32) → (j_M_run_17 a1 P S (0 : Int32))) ∧ (¬ a1 ≤ (5000 : Int32) → (j_M_run_12 a1 P S))))
set_option maxRecDepth 20000 in
set_option maxHeartbeats 4000000 in
theorem v_M_run {E : zE} {B : zK} (C : zC E (wR B) prog_12_method_55_code "HostBenchModel" 8 184) (a1 : Int32) (P : zS → Int32 → Prop) (G : zGoal E (zQ (wR B) (zPi P)) (wR B)) (hr : zRt E (some .int)) (hnl : E.2.2.2.2.2.2.2.2.2.2.1 = 3) (S : zS) (h : w_M_run a1 S P) : zV E (wR B) S 0 [(0, .ref (ad B 0)), (1, .int a1)] [] := by
  unfold w_M_run at h
  refine z_aload_n C 0 rfl rfl d_M_run_0 ?_
  refine z_iload_n C 1 rfl rfl d_M_run_1 ?_
  refine z_if_lt (tgt := 12) C d_M_run_2 rfl (fun c => ?_) (fun c => ?_)
  · have h := h.1 c
    exact z_sub [0, 1] rfl (vj_M_run_12 C a1 P G hr hnl S h)
  · have h := h.2 c
    refine z_iload_n C 1 rfl rfl d_M_run_5 ?_
    refine z_sipush (v := (5000 : Int32)) C rfl d_M_run_6 ?_
    refine z_icmp_le (tgt := 16) C d_M_run_9 rfl (fun c => ?_) (fun c => ?_)
    · have h := h.1 c
      refine z_iconst (v := (0 : Int32)) C rfl d_M_run_16 ?_
      exact z_sub [0, 1] rfl (vj_M_run_17 C a1 P G hr hnl S (0 : Int32) h)
    · have h := h.2 c
      exact z_sub [0, 1] rfl (vj_M_run_12 C a1 P G hr hnl S h)
theorem c_M_run (l : Launch) (B : zK) (a1 : Int32) (S : zS) (P : zS → Int32 → Prop) (h : w_M_run a1 S P) : Met l y_M_run (Cond.code y_M_run prog_12_method_55_code 3 (some FieldType.int) :: tT) (zRm 8 184) (zPc (wR B) [.ref (ad B 0), .int a1] S) (zQ (wR B) (zPi P)) 0 0 (wR B).2.2.2 :=
  z_met (by decide) (Nat.le_of_ble_eq_true rfl) (fun E C G hr _ hnl => v_M_run C a1 P G hr hnl S h)
theorem q_M_run : zQw y_M_run prog_12_method_55_code 3 (some FieldType.int) 1 := ⟨tw_1128, tw_1129, tw_87, tw_1130, by decide +kernel⟩
def w_M_state (S : zS) (P : zS → Int32 → Prop) : Prop :=
  ∀ S1 : zS, S1 = sM S 0 0 (0 : Int32) → P S1 (gM S1 0 4)
set_option maxRecDepth 20000 in
set_option maxHeartbeats 4000000 in
theorem v_M_state {E : zE} {B : zK} (C : zC E (wR B) prog_12_method_56_code "HostBenchModel" 0 0) (P : zS → Int32 → Prop) (G : zGoal E (zQ (wR B) (zPi P)) (wR B)) (hr : zRt E (some .int)) (hnl : E.2.2.2.2.2.2.2.2.2.2.1 = 1) (S : zS) (h : w_M_state S P) : zV E (wR B) S 0 [(0, .ref (ad B 0))] [] := by
  unfold w_M_state at h
  refine z_aload_n C 0 rfl rfl d_M_state_0 ?_
  refine z_iconst (v := (0 : Int32)) C rfl d_M_state_1 ?_
  refine pf_M_thrown C (Or.inl tw_984) d_M_state_2 ?_
  refine z_nS (fun S1 eS1 => ?_)
  have h := h S1 eS1
  refine z_aload_n C 0 rfl rfl d_M_state_5 ?_
  refine gf_M_state C (Or.inl tw_988) d_M_state_6 ?_
  exact z_ireturn C G hr h d_M_state_9
theorem c_M_state (l : Launch) (B : zK) (S : zS) (P : zS → Int32 → Prop) (h : w_M_state S P) : Met l y_M_state (Cond.code y_M_state prog_12_method_56_code 1 (some FieldType.int) :: tT) (zRm 0 0) (zPc (wR B) [.ref (ad B 0)] S) (zQ (wR B) (zPi P)) 0 0 (wR B).2.2.2 :=
  z_met (by decide) (Nat.le_of_ble_eq_true rfl) (fun E C G hr _ hnl => v_M_state C P G hr hnl S h)
theorem q_M_state : zQw y_M_state prog_12_method_56_code 1 (some FieldType.int) 0 := ⟨tw_1298, tw_1299, tw_87, tw_1300, by decide +kernel⟩
def j_M_look_16 (a1 : Int32) (P : zS → Int32 → Prop) (S : zS) (s1 : Int32) : Prop :=
  ∀ S1 : zS, S1 = sM S 0 0 s1 → (a1 = (0 : Int32) → (((gM S1 0 4) = (2 : Int32) → (P S1 (gM S1 0 5))) ∧ (¬ (gM S1 0 4) = (2 : Int32) → (P S1 (0 : Int32))))) ∧ (¬ a1 = (0 : Int32) → ((a1 = (1 : Int32) → (((gM S1 0 4) = (1 : Int32) → (P S1 (gM S1 0 6))) ∧ (¬ (gM S1 0 4) = (1 : Int32) → (P S1 (0 : Int32))))) ∧ (¬ a1 = (1 : Int32) → ((a1 = (2 : Int32) → (P S1 (gM S1 0 24))) ∧ (¬ a1 = (2 : Int32) → ((a1 = (3 : Int32) → (P S1 ((gJ S1).toInt32))) ∧ (¬ a1 = (3 : Int32) → ((a1 = (4 : Int32) → (P S1 (gM S1 0 8))) ∧ (¬ a1 = (4 : Int32) → ((a1 = (5 : Int32) → (P S1 (gM S1 0 9))) ∧ (¬ a1 = (5 : Int32) → ((a1 = (6 : Int32) → (P S1 (gM S1 0 20))) ∧ (¬ a1 = (6 : Int32) → ((a1 = (7 : Int32) → (P S1 (gM S1 0 27))) ∧ (¬ a1 = (7 : Int32) → ((a1 = (8 : Int32) → (P S1 (gM S1 0 26))) ∧ (¬ a1 = (8 : Int32) → (P S1 (0 : Int32)))))))))))))))))))
set_option maxRecDepth 20000 in
set_option maxHeartbeats 4000000 in
theorem vj_M_look_16 {E : zE} {B : zK} (C : zC E (wR B) prog_12_method_57_code "HostBenchModel" 0 0) (a1 : Int32) (P : zS → Int32 → Prop) (G : zGoal E (zQ (wR B) (zPi P)) (wR B)) (hr : zRt E (some .int)) (hnl : E.2.2.2.2.2.2.2.2.2.2.1 = 2) (S : zS) (s1 : Int32) (h : j_M_look_16 a1 P S s1) : zV E (wR B) S 16 [(0, .ref (ad B 0)), (1, .int a1)] [.int s1, .ref (ad B 0)] := by
  unfold j_M_look_16 at h
  refine pf_M_thrown C (Or.inl tw_984) d_M_look_16 ?_
  refine z_nS (fun S1 eS1 => ?_)
  have h := h S1 eS1
  refine z_iload_n C 1 rfl rfl d_M_look_19 ?_
  by_cases c0 : a1 = (0 : Int32)
  · have h := h.1 c0
    refine z_tableIn (off := 52) (tgt := 72) C d_M_look_20 c0 (by decide) rfl rfl ?_
    refine z_aload_n C 0 rfl rfl d_M_look_72 ?_
    refine gf_M_state C (Or.inl tw_988) d_M_look_73 ?_
    refine z_iconst (v := (2 : Int32)) C rfl d_M_look_76 ?_
    refine z_icmp_ne (tgt := 87) C d_M_look_77 rfl (fun c => ?_) (fun c => ?_)
    · have h := h.2 c
      refine z_iconst (v := (0 : Int32)) C rfl d_M_look_87 ?_
      exact z_ireturn C G hr h d_M_look_88
    · have h := h.1 c
      refine z_aload_n C 0 rfl rfl d_M_look_80 ?_
      refine gf_M_trap C (Or.inl tw_989) d_M_look_81 ?_
      refine z_goto (tgt := 88) C d_M_look_84 rfl ?_
      exact z_ireturn C G hr h d_M_look_88
  · have h := h.2 c0
    by_cases c1 : a1 = (1 : Int32)
    · have h := h.1 c1
      refine z_tableIn (off := 69) (tgt := 89) C d_M_look_20 c1 (by decide) rfl rfl ?_
      refine z_aload_n C 0 rfl rfl d_M_look_89 ?_
      refine gf_M_state C (Or.inl tw_988) d_M_look_90 ?_
      refine z_iconst (v := (1 : Int32)) C rfl d_M_look_93 ?_
      refine z_icmp_ne (tgt := 104) C d_M_look_94 rfl (fun c => ?_) (fun c => ?_)
      · have h := h.2 c
        refine z_iconst (v := (0 : Int32)) C rfl d_M_look_104 ?_
        exact z_ireturn C G hr h d_M_look_105
      · have h := h.1 c
        refine z_aload_n C 0 rfl rfl d_M_look_97 ?_
        refine gf_M_code C (Or.inl tw_990) d_M_look_98 ?_
        refine z_goto (tgt := 105) C d_M_look_101 rfl ?_
        exact z_ireturn C G hr h d_M_look_105
    · have h := h.2 c1
      by_cases c2 : a1 = (2 : Int32)
      · have h := h.1 c2
        refine z_tableIn (off := 86) (tgt := 106) C d_M_look_20 c2 (by decide) rfl rfl ?_
        refine z_aload_n C 0 rfl rfl d_M_look_106 ?_
        refine gf_M_errno C (Or.inl tw_1008) d_M_look_107 ?_
        exact z_ireturn C G hr h d_M_look_110
      · have h := h.2 c2
        by_cases c3 : a1 = (3 : Int32)
        · have h := h.1 c3
          refine z_tableIn (off := 91) (tgt := 111) C d_M_look_20 c3 (by decide) rfl rfl ?_
          refine z_aload_n C 0 rfl rfl d_M_look_111 ?_
          refine gf_M_steps C (Or.inl tw_991) d_M_look_112 ?_
          refine z_l2i C d_M_look_115 ?_
          exact z_ireturn C G hr h d_M_look_116
        · have h := h.2 c3
          by_cases c4 : a1 = (4 : Int32)
          · have h := h.1 c4
            refine z_tableIn (off := 97) (tgt := 117) C d_M_look_20 c4 (by decide) rfl rfl ?_
            refine z_aload_n C 0 rfl rfl d_M_look_117 ?_
            refine gf_M_calls C (Or.inl tw_992) d_M_look_118 ?_
            exact z_ireturn C G hr h d_M_look_121
          · have h := h.2 c4
            by_cases c5 : a1 = (5 : Int32)
            · have h := h.1 c5
              refine z_tableIn (off := 102) (tgt := 122) C d_M_look_20 c5 (by decide) rfl rfl ?_
              refine z_aload_n C 0 rfl rfl d_M_look_122 ?_
              refine gf_M_latest C (Or.inl tw_993) d_M_look_123 ?_
              exact z_ireturn C G hr h d_M_look_126
            · have h := h.2 c5
              by_cases c6 : a1 = (6 : Int32)
              · have h := h.1 c6
                refine z_tableIn (off := 107) (tgt := 127) C d_M_look_20 c6 (by decide) rfl rfl ?_
                refine z_aload_n C 0 rfl rfl d_M_look_127 ?_
                refine gf_M_waiting C (Or.inl tw_1004) d_M_look_128 ?_
                exact z_ireturn C G hr h d_M_look_131
              · have h := h.2 c6
                by_cases c7 : a1 = (7 : Int32)
                · have h := h.1 c7
                  refine z_tableIn (off := 112) (tgt := 132) C d_M_look_20 c7 (by decide) rfl rfl ?_
                  refine z_aload_n C 0 rfl rfl d_M_look_132 ?_
                  refine gf_M_clock C (Or.inl tw_1011) d_M_look_133 ?_
                  exact z_ireturn C G hr h d_M_look_136
                · have h := h.2 c7
                  by_cases c8 : a1 = (8 : Int32)
                  · have h := h.1 c8
                    refine z_tableIn (off := 117) (tgt := 137) C d_M_look_20 c8 (by decide) rfl rfl ?_
                    refine z_aload_n C 0 rfl rfl d_M_look_137 ?_
                    refine gf_M_commandSize C (Or.inl tw_1010) d_M_look_138 ?_
                    exact z_ireturn C G hr h d_M_look_141
                  · have h := h.2 c8
                    refine z_tableOut (tgt := 142) C d_M_look_20 (by have n0 := lv_neT (a := 0) c0 rfl; have n1 := lv_neT (a := 1) c1 rfl; have n2 := lv_neT (a := 2) c2 rfl; have n3 := lv_neT (a := 3) c3 rfl; have n4 := lv_neT (a := 4) c4 rfl; have n5 := lv_neT (a := 5) c5 rfl; have n6 := lv_neT (a := 6) c6 rfl; have n7 := lv_neT (a := 7) c7 rfl; have n8 := lv_neT (a := 8) c8 rfl; omega) rfl ?_
                    refine z_iconst (v := (0 : Int32)) C rfl d_M_look_142 ?_
                    exact z_ireturn C G hr h d_M_look_143
def j_M_look_11 (a1 : Int32) (P : zS → Int32 → Prop) (S : zS) : Prop :=
  j_M_look_16 a1 P S (1 : Int32)
set_option maxRecDepth 20000 in
set_option maxHeartbeats 4000000 in
theorem vj_M_look_11 {E : zE} {B : zK} (C : zC E (wR B) prog_12_method_57_code "HostBenchModel" 0 0) (a1 : Int32) (P : zS → Int32 → Prop) (G : zGoal E (zQ (wR B) (zPi P)) (wR B)) (hr : zRt E (some .int)) (hnl : E.2.2.2.2.2.2.2.2.2.2.1 = 2) (S : zS) (h : j_M_look_11 a1 P S) : zV E (wR B) S 11 [(0, .ref (ad B 0)), (1, .int a1)] [.ref (ad B 0)] := by
  unfold j_M_look_11 at h
  refine z_iconst (v := (1 : Int32)) C rfl d_M_look_11 ?_
  refine z_goto (tgt := 16) C d_M_look_12 rfl ?_
  exact z_sub [0, 1] rfl (vj_M_look_16 C a1 P G hr hnl S (1 : Int32) h)
def w_M_look (a1 : Int32) (S : zS) (P : zS → Int32 → Prop) : Prop :=
  (a1 < 0 → (j_M_look_11 a1 P S)) ∧ (¬ a1 < 0 → ((a1 ≤ (8 : Int32) → (j_M_look_16 a1 P S (0 : Int32))) ∧ (¬ a1 ≤ (8 : Int32) → (j_M_look_11 a1 P S))))
set_option maxRecDepth 20000 in
set_option maxHeartbeats 4000000 in
theorem v_M_look {E : zE} {B : zK} (C : zC E (wR B) prog_12_method_57_code "HostBenchModel" 0 0) (a1 : Int32) (P : zS → Int32 → Prop) (G : zGoal E (zQ (wR B) (zPi P)) (wR B)) (hr : zRt E (some .int)) (hnl : E.2.2.2.2.2.2.2.2.2.2.1 = 2) (S : zS) (h : w_M_look a1 S P) : zV E (wR B) S 0 [(0, .ref (ad B 0)), (1, .int a1)] [] := by
  unfold w_M_look at h
  refine z_aload_n C 0 rfl rfl d_M_look_0 ?_
  refine z_iload_n C 1 rfl rfl d_M_look_1 ?_
  refine z_if_lt (tgt := 11) C d_M_look_2 rfl (fun c => ?_) (fun c => ?_)
  · have h := h.1 c
    exact z_sub [0, 1] rfl (vj_M_look_11 C a1 P G hr hnl S h)
  · have h := h.2 c
    refine z_iload_n C 1 rfl rfl d_M_look_5 ?_
    refine z_bipush (v := (8 : Int32)) C rfl d_M_look_6 ?_
    refine z_icmp_le (tgt := 15) C d_M_look_8 rfl (fun c => ?_) (fun c => ?_)
    · have h := h.1 c
      refine z_iconst (v := (0 : Int32)) C rfl d_M_look_15 ?_
      exact z_sub [0, 1] rfl (vj_M_look_16 C a1 P G hr hnl S (0 : Int32) h)
    · have h := h.2 c
      exact z_sub [0, 1] rfl (vj_M_look_11 C a1 P G hr hnl S h)
theorem c_M_look (l : Launch) (B : zK) (a1 : Int32) (S : zS) (P : zS → Int32 → Prop) (h : w_M_look a1 S P) : Met l y_M_look (Cond.code y_M_look prog_12_method_57_code 2 (some FieldType.int) :: tT) (zRm 0 0) (zPc (wR B) [.ref (ad B 0), .int a1] S) (zQ (wR B) (zPi P)) 0 0 (wR B).2.2.2 :=
  z_met (by decide) (Nat.le_of_ble_eq_true rfl) (fun E C G hr _ hnl => v_M_look C a1 P G hr hnl S h)
theorem q_M_look : zQw y_M_look prog_12_method_57_code 2 (some FieldType.int) 1 := ⟨tw_1302, tw_1303, tw_87, tw_1304, by decide +kernel⟩
def j_M_register_16 (a1 : Int32) (P : zS → Int32 → Prop) (S : zS) (s1 : Int32) : Prop :=
  ∀ S1 : zS, S1 = sM S 0 0 s1 → ((gM S1 0 0) ≤ 0 → ((a1 = (32 : Int32) → (P S1 (gM S1 0 3))) ∧ (¬ a1 = (32 : Int32) → (vp_in a1 32 ∧ P S1 (gM S1 2 a1.toNatClampNeg))))) ∧ (¬ (gM S1 0 0) ≤ 0 → (P S1 (0 : Int32)))
set_option maxRecDepth 20000 in
set_option maxHeartbeats 4000000 in
theorem vj_M_register_16 {E : zE} {B : zK} (C : zC E (wR B) prog_12_method_58_code "HostBenchModel" 0 0) (a1 : Int32) (P : zS → Int32 → Prop) (G : zGoal E (zQ (wR B) (zPi P)) (wR B)) (hr : zRt E (some .int)) (hnl : E.2.2.2.2.2.2.2.2.2.2.1 = 2) (S : zS) (s1 : Int32) (h : j_M_register_16 a1 P S s1) : zV E (wR B) S 16 [(0, .ref (ad B 0)), (1, .int a1)] [.int s1, .ref (ad B 0)] := by
  unfold j_M_register_16 at h
  refine pf_M_thrown C (Or.inl tw_984) d_M_register_16 ?_
  refine z_nS (fun S1 eS1 => ?_)
  have h := h S1 eS1
  refine z_aload_n C 0 rfl rfl d_M_register_19 ?_
  refine gf_M_thrown C (Or.inl tw_984) d_M_register_20 ?_
  refine z_if_le (tgt := 30) C d_M_register_23 rfl (fun c => ?_) (fun c => ?_)
  · have h := h.1 c
    refine z_iload_n C 1 rfl rfl d_M_register_30 ?_
    refine z_bipush (v := (32 : Int32)) C rfl d_M_register_31 ?_
    refine z_icmp_ne (tgt := 43) C d_M_register_33 rfl (fun c => ?_) (fun c => ?_)
    · have h := h.2 c
      refine z_aload_n C 0 rfl rfl d_M_register_43 ?_
      refine gf_M_x C (Or.inl tw_986) d_M_register_44 ?_
      refine z_iload_n C 1 rfl rfl d_M_register_47 ?_
      obtain ⟨f2, h⟩ := h
      refine al_m_x C f2 d_M_register_48 ?_
      exact z_ireturn C G hr h d_M_register_49
    · have h := h.1 c
      refine z_aload_n C 0 rfl rfl d_M_register_36 ?_
      refine gf_M_pc C (Or.inl tw_987) d_M_register_37 ?_
      refine z_goto (tgt := 49) C d_M_register_40 rfl ?_
      exact z_ireturn C G hr h d_M_register_49
  · have h := h.2 c
    refine z_iconst (v := (0 : Int32)) C rfl d_M_register_26 ?_
    refine z_goto (tgt := 49) C d_M_register_27 rfl ?_
    exact z_ireturn C G hr h d_M_register_49
def j_M_register_11 (a1 : Int32) (P : zS → Int32 → Prop) (S : zS) : Prop :=
  j_M_register_16 a1 P S (1 : Int32)
set_option maxRecDepth 20000 in
set_option maxHeartbeats 4000000 in
theorem vj_M_register_11 {E : zE} {B : zK} (C : zC E (wR B) prog_12_method_58_code "HostBenchModel" 0 0) (a1 : Int32) (P : zS → Int32 → Prop) (G : zGoal E (zQ (wR B) (zPi P)) (wR B)) (hr : zRt E (some .int)) (hnl : E.2.2.2.2.2.2.2.2.2.2.1 = 2) (S : zS) (h : j_M_register_11 a1 P S) : zV E (wR B) S 11 [(0, .ref (ad B 0)), (1, .int a1)] [.ref (ad B 0)] := by
  unfold j_M_register_11 at h
  refine z_iconst (v := (1 : Int32)) C rfl d_M_register_11 ?_
  refine z_goto (tgt := 16) C d_M_register_12 rfl ?_
  exact z_sub [0, 1] rfl (vj_M_register_16 C a1 P G hr hnl S (1 : Int32) h)
def w_M_register (a1 : Int32) (S : zS) (P : zS → Int32 → Prop) : Prop :=
  (a1 < 0 → (j_M_register_11 a1 P S)) ∧ (¬ a1 < 0 → ((a1 ≤ (32 : Int32) → (j_M_register_16 a1 P S (0 : Int32))) ∧ (¬ a1 ≤ (32 : Int32) → (j_M_register_11 a1 P S))))
set_option maxRecDepth 20000 in
set_option maxHeartbeats 4000000 in
theorem v_M_register {E : zE} {B : zK} (C : zC E (wR B) prog_12_method_58_code "HostBenchModel" 0 0) (a1 : Int32) (P : zS → Int32 → Prop) (G : zGoal E (zQ (wR B) (zPi P)) (wR B)) (hr : zRt E (some .int)) (hnl : E.2.2.2.2.2.2.2.2.2.2.1 = 2) (S : zS) (h : w_M_register a1 S P) : zV E (wR B) S 0 [(0, .ref (ad B 0)), (1, .int a1)] [] := by
  unfold w_M_register at h
  refine z_aload_n C 0 rfl rfl d_M_register_0 ?_
  refine z_iload_n C 1 rfl rfl d_M_register_1 ?_
  refine z_if_lt (tgt := 11) C d_M_register_2 rfl (fun c => ?_) (fun c => ?_)
  · have h := h.1 c
    exact z_sub [0, 1] rfl (vj_M_register_11 C a1 P G hr hnl S h)
  · have h := h.2 c
    refine z_iload_n C 1 rfl rfl d_M_register_5 ?_
    refine z_bipush (v := (32 : Int32)) C rfl d_M_register_6 ?_
    refine z_icmp_le (tgt := 15) C d_M_register_8 rfl (fun c => ?_) (fun c => ?_)
    · have h := h.1 c
      refine z_iconst (v := (0 : Int32)) C rfl d_M_register_15 ?_
      exact z_sub [0, 1] rfl (vj_M_register_16 C a1 P G hr hnl S (0 : Int32) h)
    · have h := h.2 c
      exact z_sub [0, 1] rfl (vj_M_register_11 C a1 P G hr hnl S h)
theorem c_M_register (l : Launch) (B : zK) (a1 : Int32) (S : zS) (P : zS → Int32 → Prop) (h : w_M_register a1 S P) : Met l y_M_register (Cond.code y_M_register prog_12_method_58_code 2 (some FieldType.int) :: tT) (zRm 0 0) (zPc (wR B) [.ref (ad B 0), .int a1] S) (zQ (wR B) (zPi P)) 0 0 (wR B).2.2.2 :=
  z_met (by decide) (Nat.le_of_ble_eq_true rfl) (fun E C G hr _ hnl => v_M_register C a1 P G hr hnl S h)
theorem q_M_register : zQw y_M_register prog_12_method_58_code 2 (some FieldType.int) 1 := ⟨tw_1306, tw_1307, tw_87, tw_1308, by decide +kernel⟩
def w_M_set (a1 : Int32) (a2 : Int32) (S : zS) (P : zS → Int32 → Prop) : Prop :=
  ∀ S1 : zS, S1 = sM S 0 0 (0 : Int32) → (a1 < (1 : Int32) → (P S1 (0 : Int32))) ∧ (¬ a1 < (1 : Int32) → ((a1 ≤ (32 : Int32) → ((a1 = (32 : Int32) → (∀ S4 : zS, S4 = sM S1 0 3 a2 → P S4 (1 : Int32))) ∧ (¬ a1 = (32 : Int32) → (vp_in a1 32 ∧ ∀ S3 : zS, S3 = sM S1 2 a1.toNatClampNeg a2 → P S3 (1 : Int32))))) ∧ (¬ a1 ≤ (32 : Int32) → (P S1 (0 : Int32)))))
set_option maxRecDepth 20000 in
set_option maxHeartbeats 4000000 in
theorem v_M_set {E : zE} {B : zK} (C : zC E (wR B) prog_12_method_59_code "HostBenchModel" 0 0) (a1 : Int32) (a2 : Int32) (P : zS → Int32 → Prop) (G : zGoal E (zQ (wR B) (zPi P)) (wR B)) (hr : zRt E (some .boolean)) (hnl : E.2.2.2.2.2.2.2.2.2.2.1 = 3) (S : zS) (h : w_M_set a1 a2 S P) : zV E (wR B) S 0 [(0, .ref (ad B 0)), (1, .int a1), (2, .int a2)] [] := by
  unfold w_M_set at h
  refine z_aload_n C 0 rfl rfl d_M_set_0 ?_
  refine z_iconst (v := (0 : Int32)) C rfl d_M_set_1 ?_
  refine pf_M_thrown C (Or.inl tw_984) d_M_set_2 ?_
  refine z_nS (fun S1 eS1 => ?_)
  have h := h S1 eS1
  refine z_iload_n C 1 rfl rfl d_M_set_5 ?_
  refine z_iconst (v := (1 : Int32)) C rfl d_M_set_6 ?_
  refine z_icmp_lt (tgt := 16) C d_M_set_7 rfl (fun c => ?_) (fun c => ?_)
  · have h := h.1 c
    refine z_iconst (v := (0 : Int32)) C rfl d_M_set_16 ?_
    exact z_zreturn C G hr rfl h d_M_set_17
  · have h := h.2 c
    refine z_iload_n C 1 rfl rfl d_M_set_10 ?_
    refine z_bipush (v := (32 : Int32)) C rfl d_M_set_11 ?_
    refine z_icmp_le (tgt := 18) C d_M_set_13 rfl (fun c => ?_) (fun c => ?_)
    · have h := h.1 c
      refine z_iload_n C 1 rfl rfl d_M_set_18 ?_
      refine z_bipush (v := (32 : Int32)) C rfl d_M_set_19 ?_
      refine z_icmp_ne (tgt := 32) C d_M_set_21 rfl (fun c => ?_) (fun c => ?_)
      · have h := h.2 c
        refine z_aload_n C 0 rfl rfl d_M_set_32 ?_
        refine gf_M_x C (Or.inl tw_986) d_M_set_33 ?_
        refine z_iload_n C 1 rfl rfl d_M_set_36 ?_
        refine z_iload_n C 2 rfl rfl d_M_set_37 ?_
        obtain ⟨f2, h⟩ := h
        refine as_m_x C f2 d_M_set_38 ?_
        refine z_nS (fun S3 eS3 => ?_)
        have h := h S3 eS3
        refine z_iconst (v := (1 : Int32)) C rfl d_M_set_39 ?_
        exact z_zreturn C G hr rfl h d_M_set_40
      · have h := h.1 c
        refine z_aload_n C 0 rfl rfl d_M_set_24 ?_
        refine z_iload_n C 2 rfl rfl d_M_set_25 ?_
        refine pf_M_pc C (Or.inl tw_987) d_M_set_26 ?_
        refine z_nS (fun S4 eS4 => ?_)
        have h := h S4 eS4
        refine z_goto (tgt := 39) C d_M_set_29 rfl ?_
        refine z_iconst (v := (1 : Int32)) C rfl d_M_set_39 ?_
        exact z_zreturn C G hr rfl h d_M_set_40
    · have h := h.2 c
      refine z_iconst (v := (0 : Int32)) C rfl d_M_set_16 ?_
      exact z_zreturn C G hr rfl h d_M_set_17
theorem c_M_set (l : Launch) (B : zK) (a1 : Int32) (a2 : Int32) (S : zS) (P : zS → Int32 → Prop) (h : w_M_set a1 a2 S P) : Met l y_M_set (Cond.code y_M_set prog_12_method_59_code 3 (some FieldType.boolean) :: tT) (zRm 0 0) (zPc (wR B) [.ref (ad B 0), .int a1, .int a2] S) (zQ (wR B) (zPi P)) 0 0 (wR B).2.2.2 :=
  z_met (by decide) (Nat.le_of_ble_eq_true rfl) (fun E C G hr _ hnl => v_M_set C a1 a2 P G hr hnl S h)
theorem q_M_set : zQw y_M_set prog_12_method_59_code 3 (some FieldType.boolean) 2 := ⟨tw_1310, tw_1311, tw_87, tw_1312, by decide +kernel⟩
def j_M_peek_16 (a1 : Int32) (P : zS → Int32 → Prop) (S : zS) : Prop :=
  P S (-1 : Int32)
set_option maxRecDepth 20000 in
set_option maxHeartbeats 4000000 in
theorem vj_M_peek_16 {E : zE} {B : zK} (C : zC E (wR B) prog_12_method_60_code "HostBenchModel" 0 0) (a1 : Int32) (P : zS → Int32 → Prop) (G : zGoal E (zQ (wR B) (zPi P)) (wR B)) (hr : zRt E (some .int)) (hnl : E.2.2.2.2.2.2.2.2.2.2.1 = 2) (S : zS) (h : j_M_peek_16 a1 P S) : zV E (wR B) S 16 [] [] := by
  unfold j_M_peek_16 at h
  refine z_iconst (v := (-1 : Int32)) C rfl d_M_peek_16 ?_
  refine z_goto (tgt := 26) C d_M_peek_17 rfl ?_
  exact z_ireturn C G hr h d_M_peek_26
def w_M_peek (a1 : Int32) (S : zS) (P : zS → Int32 → Prop) : Prop :=
  ∀ S1 : zS, S1 = sM S 0 0 (0 : Int32) → (a1 < 0 → (j_M_peek_16 a1 P S1)) ∧ (¬ a1 < 0 → ((a1 < (16384 : Int32) → (vp_in a1 16384 ∧ P S1 (gM S1 1 a1.toNatClampNeg))) ∧ (¬ a1 < (16384 : Int32) → (j_M_peek_16 a1 P S1))))
set_option maxRecDepth 20000 in
set_option maxHeartbeats 4000000 in
theorem v_M_peek {E : zE} {B : zK} (C : zC E (wR B) prog_12_method_60_code "HostBenchModel" 0 0) (a1 : Int32) (P : zS → Int32 → Prop) (G : zGoal E (zQ (wR B) (zPi P)) (wR B)) (hr : zRt E (some .int)) (hnl : E.2.2.2.2.2.2.2.2.2.2.1 = 2) (S : zS) (h : w_M_peek a1 S P) : zV E (wR B) S 0 [(0, .ref (ad B 0)), (1, .int a1)] [] := by
  unfold w_M_peek at h
  refine z_aload_n C 0 rfl rfl d_M_peek_0 ?_
  refine z_iconst (v := (0 : Int32)) C rfl d_M_peek_1 ?_
  refine pf_M_thrown C (Or.inl tw_984) d_M_peek_2 ?_
  refine z_nS (fun S1 eS1 => ?_)
  have h := h S1 eS1
  refine z_iload_n C 1 rfl rfl d_M_peek_5 ?_
  refine z_if_lt (tgt := 16) C d_M_peek_6 rfl (fun c => ?_) (fun c => ?_)
  · have h := h.1 c
    exact z_sub [] rfl (vj_M_peek_16 C a1 P G hr hnl S1 h)
  · have h := h.2 c
    refine z_iload_n C 1 rfl rfl d_M_peek_9 ?_
    refine z_sipush (v := (16384 : Int32)) C rfl d_M_peek_10 ?_
    refine z_icmp_lt (tgt := 20) C d_M_peek_13 rfl (fun c => ?_) (fun c => ?_)
    · have h := h.1 c
      refine z_aload_n C 0 rfl rfl d_M_peek_20 ?_
      refine gf_M_memory C (Or.inl tw_985) d_M_peek_21 ?_
      refine z_iload_n C 1 rfl rfl d_M_peek_24 ?_
      obtain ⟨f2, h⟩ := h
      refine al_m_memory C f2 d_M_peek_25 ?_
      exact z_ireturn C G hr h d_M_peek_26
    · have h := h.2 c
      exact z_sub [] rfl (vj_M_peek_16 C a1 P G hr hnl S1 h)
theorem c_M_peek (l : Launch) (B : zK) (a1 : Int32) (S : zS) (P : zS → Int32 → Prop) (h : w_M_peek a1 S P) : Met l y_M_peek (Cond.code y_M_peek prog_12_method_60_code 2 (some FieldType.int) :: tT) (zRm 0 0) (zPc (wR B) [.ref (ad B 0), .int a1] S) (zQ (wR B) (zPi P)) 0 0 (wR B).2.2.2 :=
  z_met (by decide) (Nat.le_of_ble_eq_true rfl) (fun E C G hr _ hnl => v_M_peek C a1 P G hr hnl S h)
theorem q_M_peek : zQw y_M_peek prog_12_method_60_code 2 (some FieldType.int) 1 := ⟨tw_1314, tw_1315, tw_87, tw_1316, by decide +kernel⟩
def w_M_files (S : zS) (P : zS → Int32 → Prop) : Prop :=
  ∀ S1 : zS, S1 = sM S 0 0 (0 : Int32) → P S1 (gM S1 0 14)
set_option maxRecDepth 20000 in
set_option maxHeartbeats 4000000 in
theorem v_M_files {E : zE} {B : zK} (C : zC E (wR B) prog_12_method_61_code "HostBenchModel" 0 0) (P : zS → Int32 → Prop) (G : zGoal E (zQ (wR B) (zPi P)) (wR B)) (hr : zRt E (some .int)) (hnl : E.2.2.2.2.2.2.2.2.2.2.1 = 1) (S : zS) (h : w_M_files S P) : zV E (wR B) S 0 [(0, .ref (ad B 0))] [] := by
  unfold w_M_files at h
  refine z_aload_n C 0 rfl rfl d_M_files_0 ?_
  refine z_iconst (v := (0 : Int32)) C rfl d_M_files_1 ?_
  refine pf_M_thrown C (Or.inl tw_984) d_M_files_2 ?_
  refine z_nS (fun S1 eS1 => ?_)
  have h := h S1 eS1
  refine z_aload_n C 0 rfl rfl d_M_files_5 ?_
  refine gf_M_files C (Or.inl tw_998) d_M_files_6 ?_
  exact z_ireturn C G hr h d_M_files_9
theorem c_M_files (l : Launch) (B : zK) (S : zS) (P : zS → Int32 → Prop) (h : w_M_files S P) : Met l y_M_files (Cond.code y_M_files prog_12_method_61_code 1 (some FieldType.int) :: tT) (zRm 0 0) (zPc (wR B) [.ref (ad B 0)] S) (zQ (wR B) (zPi P)) 0 0 (wR B).2.2.2 :=
  z_met (by decide) (Nat.le_of_ble_eq_true rfl) (fun E C G hr _ hnl => v_M_files C P G hr hnl S h)
theorem q_M_files : zQw y_M_files prog_12_method_61_code 1 (some FieldType.int) 0 := ⟨tw_1318, tw_1319, tw_87, tw_1320, by decide +kernel⟩
def j_M_file_27 (a1 : Int32) (a2 : Int32) (P : zS → Int32 → Prop) (S : zS) (s1 : Int32) : Prop :=
  ∀ S1 : zS, S1 = sM S 0 0 s1 → ((gM S1 0 0) ≤ 0 → ((a2 = 0 → (vp_in a1 12 ∧ P S1 (gM S1 4 a1.toNatClampNeg))) ∧ (¬ a2 = 0 → ((a2 = (1 : Int32) → (vp_in a1 12 ∧ P S1 (gM S1 6 a1.toNatClampNeg))) ∧ (¬ a2 = (1 : Int32) → (w_M_openOf a1 S1 (fun S2 r3 => P S2 r3))))))) ∧ (¬ (gM S1 0 0) ≤ 0 → (P S1 (0 : Int32)))
set_option maxRecDepth 20000 in
set_option maxHeartbeats 4000000 in
theorem vj_M_file_27 {E : zE} {B : zK} (C : zC E (wR B) prog_12_method_62_code "HostBenchModel" 1 23) (a1 : Int32) (a2 : Int32) (P : zS → Int32 → Prop) (G : zGoal E (zQ (wR B) (zPi P)) (wR B)) (hr : zRt E (some .int)) (hnl : E.2.2.2.2.2.2.2.2.2.2.1 = 3) (S : zS) (s1 : Int32) (h : j_M_file_27 a1 a2 P S s1) : zV E (wR B) S 27 [(0, .ref (ad B 0)), (1, .int a1), (2, .int a2)] [.int s1, .ref (ad B 0)] := by
  unfold j_M_file_27 at h
  refine pf_M_thrown C (Or.inl tw_984) d_M_file_27 ?_
  refine z_nS (fun S1 eS1 => ?_)
  have h := h S1 eS1
  refine z_aload_n C 0 rfl rfl d_M_file_30 ?_
  refine gf_M_thrown C (Or.inl tw_984) d_M_file_31 ?_
  refine z_if_le (tgt := 39) C d_M_file_34 rfl (fun c => ?_) (fun c => ?_)
  · have h := h.1 c
    refine z_iload_n C 2 rfl rfl d_M_file_39 ?_
    refine z_if_ne (tgt := 52) C d_M_file_40 rfl (fun c => ?_) (fun c => ?_)
    · have h := h.2 c
      refine z_iload_n C 2 rfl rfl d_M_file_52 ?_
      refine z_iconst (v := (1 : Int32)) C rfl d_M_file_53 ?_
      refine z_icmp_ne (tgt := 66) C d_M_file_54 rfl (fun c => ?_) (fun c => ?_)
      · have h := h.2 c
        refine z_aload_n C 0 rfl rfl d_M_file_66 ?_
        refine z_iload_n C 1 rfl rfl d_M_file_67 ?_
        refine z_callVi (rest := []) C q_M_openOf tw_1107 (c_M_openOf _ B a1 S1 _ h) rc_M ⟨Nat.le_of_ble_eq_true rfl, Nat.le_of_ble_eq_true rfl⟩ rfl rfl (Nat.le_of_ble_eq_true rfl) d_M_file_68 (fun S2 r3 h => ?_)
        exact z_ireturn C G hr h d_M_file_71
      · have h := h.1 c
        refine z_aload_n C 0 rfl rfl d_M_file_57 ?_
        refine gf_M_nameSize C (Or.inl tw_997) d_M_file_58 ?_
        refine z_iload_n C 1 rfl rfl d_M_file_61 ?_
        obtain ⟨f4, h⟩ := h
        refine al_m_nameSize C f4 d_M_file_62 ?_
        refine z_goto (tgt := 71) C d_M_file_63 rfl ?_
        exact z_ireturn C G hr h d_M_file_71
    · have h := h.1 c
      refine z_aload_n C 0 rfl rfl d_M_file_43 ?_
      refine gf_M_size C (Or.inl tw_995) d_M_file_44 ?_
      refine z_iload_n C 1 rfl rfl d_M_file_47 ?_
      obtain ⟨f5, h⟩ := h
      refine al_m_size C f5 d_M_file_48 ?_
      refine z_goto (tgt := 71) C d_M_file_49 rfl ?_
      exact z_ireturn C G hr h d_M_file_71
  · have h := h.2 c
    refine z_iconst (v := (0 : Int32)) C rfl d_M_file_37 ?_
    exact z_ireturn C G hr h d_M_file_38
def j_M_file_22 (a1 : Int32) (a2 : Int32) (P : zS → Int32 → Prop) (S : zS) : Prop :=
  j_M_file_27 a1 a2 P S (1 : Int32)
set_option maxRecDepth 20000 in
set_option maxHeartbeats 4000000 in
theorem vj_M_file_22 {E : zE} {B : zK} (C : zC E (wR B) prog_12_method_62_code "HostBenchModel" 1 23) (a1 : Int32) (a2 : Int32) (P : zS → Int32 → Prop) (G : zGoal E (zQ (wR B) (zPi P)) (wR B)) (hr : zRt E (some .int)) (hnl : E.2.2.2.2.2.2.2.2.2.2.1 = 3) (S : zS) (h : j_M_file_22 a1 a2 P S) : zV E (wR B) S 22 [(0, .ref (ad B 0)), (1, .int a1), (2, .int a2)] [.ref (ad B 0)] := by
  unfold j_M_file_22 at h
  refine z_iconst (v := (1 : Int32)) C rfl d_M_file_22 ?_
  refine z_goto (tgt := 27) C d_M_file_23 rfl ?_
  exact z_sub [0, 1, 2] rfl (vj_M_file_27 C a1 a2 P G hr hnl S (1 : Int32) h)
def w_M_file (a1 : Int32) (a2 : Int32) (S : zS) (P : zS → Int32 → Prop) : Prop :=
  (a1 < 0 → (j_M_file_22 a1 a2 P S)) ∧ (¬ a1 < 0 → (((gM S 0 14) ≤ a1 → (j_M_file_22 a1 a2 P S)) ∧ (¬ (gM S 0 14) ≤ a1 → ((a2 < 0 → (j_M_file_22 a1 a2 P S)) ∧ (¬ a2 < 0 → ((a2 ≤ (2 : Int32) → (j_M_file_27 a1 a2 P S (0 : Int32))) ∧ (¬ a2 ≤ (2 : Int32) → (j_M_file_22 a1 a2 P S))))))))
set_option maxRecDepth 20000 in
set_option maxHeartbeats 4000000 in
theorem v_M_file {E : zE} {B : zK} (C : zC E (wR B) prog_12_method_62_code "HostBenchModel" 1 23) (a1 : Int32) (a2 : Int32) (P : zS → Int32 → Prop) (G : zGoal E (zQ (wR B) (zPi P)) (wR B)) (hr : zRt E (some .int)) (hnl : E.2.2.2.2.2.2.2.2.2.2.1 = 3) (S : zS) (h : w_M_file a1 a2 S P) : zV E (wR B) S 0 [(0, .ref (ad B 0)), (1, .int a1), (2, .int a2)] [] := by
  unfold w_M_file at h
  refine z_aload_n C 0 rfl rfl d_M_file_0 ?_
  refine z_iload_n C 1 rfl rfl d_M_file_1 ?_
  refine z_if_lt (tgt := 22) C d_M_file_2 rfl (fun c => ?_) (fun c => ?_)
  · have h := h.1 c
    exact z_sub [0, 1, 2] rfl (vj_M_file_22 C a1 a2 P G hr hnl S h)
  · have h := h.2 c
    refine z_iload_n C 1 rfl rfl d_M_file_5 ?_
    refine z_aload_n C 0 rfl rfl d_M_file_6 ?_
    refine gf_M_files C (Or.inl tw_998) d_M_file_7 ?_
    refine z_icmp_ge (tgt := 22) C d_M_file_10 rfl (fun c => ?_) (fun c => ?_)
    · have h := h.1 c
      exact z_sub [0, 1, 2] rfl (vj_M_file_22 C a1 a2 P G hr hnl S h)
    · have h := h.2 c
      refine z_iload_n C 2 rfl rfl d_M_file_13 ?_
      refine z_if_lt (tgt := 22) C d_M_file_14 rfl (fun c => ?_) (fun c => ?_)
      · have h := h.1 c
        exact z_sub [0, 1, 2] rfl (vj_M_file_22 C a1 a2 P G hr hnl S h)
      · have h := h.2 c
        refine z_iload_n C 2 rfl rfl d_M_file_17 ?_
        refine z_iconst (v := (2 : Int32)) C rfl d_M_file_18 ?_
        refine z_icmp_le (tgt := 26) C d_M_file_19 rfl (fun c => ?_) (fun c => ?_)
        · have h := h.1 c
          refine z_iconst (v := (0 : Int32)) C rfl d_M_file_26 ?_
          exact z_sub [0, 1, 2] rfl (vj_M_file_27 C a1 a2 P G hr hnl S (0 : Int32) h)
        · have h := h.2 c
          exact z_sub [0, 1, 2] rfl (vj_M_file_22 C a1 a2 P G hr hnl S h)
theorem c_M_file (l : Launch) (B : zK) (a1 : Int32) (a2 : Int32) (S : zS) (P : zS → Int32 → Prop) (h : w_M_file a1 a2 S P) : Met l y_M_file (Cond.code y_M_file prog_12_method_62_code 3 (some FieldType.int) :: tT) (zRm 1 23) (zPc (wR B) [.ref (ad B 0), .int a1, .int a2] S) (zQ (wR B) (zPi P)) 0 0 (wR B).2.2.2 :=
  z_met (by decide) (Nat.le_of_ble_eq_true rfl) (fun E C G hr _ hnl => v_M_file C a1 a2 P G hr hnl S h)
theorem q_M_file : zQw y_M_file prog_12_method_62_code 3 (some FieldType.int) 2 := ⟨tw_1322, tw_1323, tw_87, tw_1324, by decide +kernel⟩
def j_M_fileByte_41 (a1 : Int32) (a2 : Int32) (a3 : Int32) (P : zS → Int32 → Prop) (S : zS) (s0 : Int32) (s1 : Int32) : Prop :=
  (s0 < s1 → ((a3 = 0 → (vp_in (((2000 : Int32) * a1) + a2) 24000 ∧ P S (gM S 3 (((2000 : Int32) * a1) + a2).toNatClampNeg))) ∧ (¬ a3 = 0 → (vp_in (((24 : Int32) * a1) + a2) 288 ∧ P S (gM S 5 (((24 : Int32) * a1) + a2).toNatClampNeg))))) ∧ (¬ s0 < s1 → (P S (-1 : Int32)))
set_option maxRecDepth 20000 in
set_option maxHeartbeats 4000000 in
theorem vj_M_fileByte_41 {E : zE} {B : zK} (C : zC E (wR B) prog_12_method_63_code "HostBenchModel" 0 0) (a1 : Int32) (a2 : Int32) (a3 : Int32) (P : zS → Int32 → Prop) (G : zGoal E (zQ (wR B) (zPi P)) (wR B)) (hr : zRt E (some .int)) (hnl : E.2.2.2.2.2.2.2.2.2.2.1 = 4) (S : zS) (s0 : Int32) (s1 : Int32) (h : j_M_fileByte_41 a1 a2 a3 P S s0 s1) : zV E (wR B) S 41 [(0, .ref (ad B 0)), (1, .int a1), (2, .int a2), (3, .int a3)] [.int s1, .int s0] := by
  unfold j_M_fileByte_41 at h
  refine z_icmp_lt (tgt := 46) C d_M_fileByte_41 rfl (fun c => ?_) (fun c => ?_)
  · have h := h.1 c
    refine z_iload_n C 3 rfl rfl d_M_fileByte_46 ?_
    refine z_if_eq (tgt := 64) C d_M_fileByte_47 rfl (fun c => ?_) (fun c => ?_)
    · have h := h.1 c
      refine z_aload_n C 0 rfl rfl d_M_fileByte_64 ?_
      refine gf_M_data C (Or.inl tw_994) d_M_fileByte_65 ?_
      refine z_sipush (v := (2000 : Int32)) C rfl d_M_fileByte_68 ?_
      refine z_iload_n C 1 rfl rfl d_M_fileByte_71 ?_
      refine z_imul C d_M_fileByte_72 ?_
      refine z_iload_n C 2 rfl rfl d_M_fileByte_73 ?_
      refine z_iadd C d_M_fileByte_74 ?_
      obtain ⟨f1, h⟩ := h
      refine al_m_data C f1 d_M_fileByte_75 ?_
      exact z_ireturn C G hr h d_M_fileByte_76
    · have h := h.2 c
      refine z_aload_n C 0 rfl rfl d_M_fileByte_50 ?_
      refine gf_M_name C (Or.inl tw_996) d_M_fileByte_51 ?_
      refine z_bipush (v := (24 : Int32)) C rfl d_M_fileByte_54 ?_
      refine z_iload_n C 1 rfl rfl d_M_fileByte_56 ?_
      refine z_imul C d_M_fileByte_57 ?_
      refine z_iload_n C 2 rfl rfl d_M_fileByte_58 ?_
      refine z_iadd C d_M_fileByte_59 ?_
      obtain ⟨f2, h⟩ := h
      refine al_m_name C f2 d_M_fileByte_60 ?_
      refine z_goto (tgt := 76) C d_M_fileByte_61 rfl ?_
      exact z_ireturn C G hr h d_M_fileByte_76
  · have h := h.2 c
    refine z_iconst (v := (-1 : Int32)) C rfl d_M_fileByte_44 ?_
    exact z_ireturn C G hr h d_M_fileByte_45
def w_M_fileByte (a1 : Int32) (a2 : Int32) (a3 : Int32) (S : zS) (P : zS → Int32 → Prop) : Prop :=
  ∀ S1 : zS, S1 = sM S 0 0 (0 : Int32) → (a1 < 0 → (P S1 (-1 : Int32))) ∧ (¬ a1 < 0 → (((gM S1 0 14) ≤ a1 → (P S1 (-1 : Int32))) ∧ (¬ (gM S1 0 14) ≤ a1 → ((a2 < 0 → (P S1 (-1 : Int32))) ∧ (¬ a2 < 0 → ((a3 = 0 → (vp_in a1 12 ∧ j_M_fileByte_41 a1 a2 a3 P S1 a2 (gM S1 4 a1.toNatClampNeg))) ∧ (¬ a3 = 0 → (vp_in a1 12 ∧ j_M_fileByte_41 a1 a2 a3 P S1 a2 (gM S1 6 a1.toNatClampNeg)))))))))
set_option maxRecDepth 20000 in
set_option maxHeartbeats 4000000 in
theorem v_M_fileByte {E : zE} {B : zK} (C : zC E (wR B) prog_12_method_63_code "HostBenchModel" 0 0) (a1 : Int32) (a2 : Int32) (a3 : Int32) (P : zS → Int32 → Prop) (G : zGoal E (zQ (wR B) (zPi P)) (wR B)) (hr : zRt E (some .int)) (hnl : E.2.2.2.2.2.2.2.2.2.2.1 = 4) (S : zS) (h : w_M_fileByte a1 a2 a3 S P) : zV E (wR B) S 0 [(0, .ref (ad B 0)), (1, .int a1), (2, .int a2), (3, .int a3)] [] := by
  unfold w_M_fileByte at h
  refine z_aload_n C 0 rfl rfl d_M_fileByte_0 ?_
  refine z_iconst (v := (0 : Int32)) C rfl d_M_fileByte_1 ?_
  refine pf_M_thrown C (Or.inl tw_984) d_M_fileByte_2 ?_
  refine z_nS (fun S1 eS1 => ?_)
  have h := h S1 eS1
  refine z_iload_n C 1 rfl rfl d_M_fileByte_5 ?_
  refine z_if_lt (tgt := 44) C d_M_fileByte_6 rfl (fun c => ?_) (fun c => ?_)
  · have h := h.1 c
    refine z_iconst (v := (-1 : Int32)) C rfl d_M_fileByte_44 ?_
    exact z_ireturn C G hr h d_M_fileByte_45
  · have h := h.2 c
    refine z_iload_n C 1 rfl rfl d_M_fileByte_9 ?_
    refine z_aload_n C 0 rfl rfl d_M_fileByte_10 ?_
    refine gf_M_files C (Or.inl tw_998) d_M_fileByte_11 ?_
    refine z_icmp_ge (tgt := 44) C d_M_fileByte_14 rfl (fun c => ?_) (fun c => ?_)
    · have h := h.1 c
      refine z_iconst (v := (-1 : Int32)) C rfl d_M_fileByte_44 ?_
      exact z_ireturn C G hr h d_M_fileByte_45
    · have h := h.2 c
      refine z_iload_n C 2 rfl rfl d_M_fileByte_17 ?_
      refine z_if_lt (tgt := 44) C d_M_fileByte_18 rfl (fun c => ?_) (fun c => ?_)
      · have h := h.1 c
        refine z_iconst (v := (-1 : Int32)) C rfl d_M_fileByte_44 ?_
        exact z_ireturn C G hr h d_M_fileByte_45
      · have h := h.2 c
        refine z_iload_n C 2 rfl rfl d_M_fileByte_21 ?_
        refine z_iload_n C 3 rfl rfl d_M_fileByte_22 ?_
        refine z_if_eq (tgt := 35) C d_M_fileByte_23 rfl (fun c => ?_) (fun c => ?_)
        · have h := h.1 c
          refine z_aload_n C 0 rfl rfl d_M_fileByte_35 ?_
          refine gf_M_size C (Or.inl tw_995) d_M_fileByte_36 ?_
          refine z_iload_n C 1 rfl rfl d_M_fileByte_39 ?_
          obtain ⟨f2, h⟩ := h
          refine al_m_size C f2 d_M_fileByte_40 ?_
          exact z_sub [0, 1, 2, 3] rfl (vj_M_fileByte_41 C a1 a2 a3 P G hr hnl S1 a2 (gM S1 4 a1.toNatClampNeg) h)
        · have h := h.2 c
          refine z_aload_n C 0 rfl rfl d_M_fileByte_26 ?_
          refine gf_M_nameSize C (Or.inl tw_997) d_M_fileByte_27 ?_
          refine z_iload_n C 1 rfl rfl d_M_fileByte_30 ?_
          obtain ⟨f3, h⟩ := h
          refine al_m_nameSize C f3 d_M_fileByte_31 ?_
          refine z_goto (tgt := 41) C d_M_fileByte_32 rfl ?_
          exact z_sub [0, 1, 2, 3] rfl (vj_M_fileByte_41 C a1 a2 a3 P G hr hnl S1 a2 (gM S1 6 a1.toNatClampNeg) h)
theorem c_M_fileByte (l : Launch) (B : zK) (a1 : Int32) (a2 : Int32) (a3 : Int32) (S : zS) (P : zS → Int32 → Prop) (h : w_M_fileByte a1 a2 a3 S P) : Met l y_M_fileByte (Cond.code y_M_fileByte prog_12_method_63_code 4 (some FieldType.int) :: tT) (zRm 0 0) (zPc (wR B) [.ref (ad B 0), .int a1, .int a2, .int a3] S) (zQ (wR B) (zPi P)) 0 0 (wR B).2.2.2 :=
  z_met (by decide) (Nat.le_of_ble_eq_true rfl) (fun E C G hr _ hnl => v_M_fileByte C a1 a2 a3 P G hr hnl S h)
theorem q_M_fileByte : zQw y_M_fileByte prog_12_method_63_code 4 (some FieldType.int) 3 := ⟨tw_1326, tw_1327, tw_87, tw_1328, by decide +kernel⟩
def j_M_handle_26 (a1 : Int32) (a2 : Int32) (P : zS → Int32 → Prop) (S : zS) (s1 : Int32) : Prop :=
  ∀ S1 : zS, S1 = sM S 0 0 s1 → ((gM S1 0 0) ≤ 0 → ((a2 = 0 → (vp_in a1 11 ∧ P S1 (gM S1 7 a1.toNatClampNeg))) ∧ (¬ a2 = 0 → (vp_in a1 11 ∧ ((gM S1 7 a1.toNatClampNeg) = 0 → (P S1 (-1 : Int32))) ∧ (¬ (gM S1 7 a1.toNatClampNeg) = 0 → ((a2 = (1 : Int32) → (P S1 (gM S1 9 a1.toNatClampNeg))) ∧ (¬ a2 = (1 : Int32) → ((a2 = (2 : Int32) → (((gM S1 7 a1.toNatClampNeg) = (1 : Int32) → (P S1 (gM S1 8 a1.toNatClampNeg))) ∧ (¬ (gM S1 7 a1.toNatClampNeg) = (1 : Int32) → (P S1 (-1 : Int32))))) ∧ (¬ a2 = (2 : Int32) → (P S1 (gM S1 10 a1.toNatClampNeg))))))))))) ∧ (¬ (gM S1 0 0) ≤ 0 → (P S1 (0 : Int32)))
set_option maxRecDepth 20000 in
set_option maxHeartbeats 4000000 in
theorem vj_M_handle_26 {E : zE} {B : zK} (C : zC E (wR B) prog_12_method_64_code "HostBenchModel" 0 0) (a1 : Int32) (a2 : Int32) (P : zS → Int32 → Prop) (G : zGoal E (zQ (wR B) (zPi P)) (wR B)) (hr : zRt E (some .int)) (hnl : E.2.2.2.2.2.2.2.2.2.2.1 = 3) (S : zS) (s1 : Int32) (h : j_M_handle_26 a1 a2 P S s1) : zV E (wR B) S 26 [(0, .ref (ad B 0)), (1, .int a1), (2, .int a2)] [.int s1, .ref (ad B 0)] := by
  unfold j_M_handle_26 at h
  refine pf_M_thrown C (Or.inl tw_984) d_M_handle_26 ?_
  refine z_nS (fun S1 eS1 => ?_)
  have h := h S1 eS1
  refine z_aload_n C 0 rfl rfl d_M_handle_29 ?_
  refine gf_M_thrown C (Or.inl tw_984) d_M_handle_30 ?_
  refine z_if_le (tgt := 38) C d_M_handle_33 rfl (fun c => ?_) (fun c => ?_)
  · have h := h.1 c
    refine z_iload_n C 2 rfl rfl d_M_handle_38 ?_
    refine z_if_ne (tgt := 49) C d_M_handle_39 rfl (fun c => ?_) (fun c => ?_)
    · have h := h.2 c
      refine z_aload_n C 0 rfl rfl d_M_handle_49 ?_
      refine gf_M_kind C (Or.inl tw_999) d_M_handle_50 ?_
      refine z_iload_n C 1 rfl rfl d_M_handle_53 ?_
      obtain ⟨f2, h⟩ := h
      refine al_m_kind C f2 d_M_handle_54 ?_
      refine z_if_ne (tgt := 60) C d_M_handle_55 rfl (fun c => ?_) (fun c => ?_)
      · have h := h.2 c
        refine z_iload_n C 2 rfl rfl d_M_handle_60 ?_
        refine z_iconst (v := (1 : Int32)) C rfl d_M_handle_61 ?_
        refine z_icmp_ne (tgt := 74) C d_M_handle_62 rfl (fun c => ?_) (fun c => ?_)
        · have h := h.2 c
          refine z_iload_n C 2 rfl rfl d_M_handle_74 ?_
          refine z_iconst (v := (2 : Int32)) C rfl d_M_handle_75 ?_
          refine z_icmp_ne (tgt := 102) C d_M_handle_76 rfl (fun c => ?_) (fun c => ?_)
          · have h := h.2 c
            refine z_aload_n C 0 rfl rfl d_M_handle_102 ?_
            refine gf_M_may C (Or.inl tw_1002) d_M_handle_103 ?_
            refine z_iload_n C 1 rfl rfl d_M_handle_106 ?_
            refine al_m_may C f2 d_M_handle_107 ?_
            exact z_ireturn C G hr h d_M_handle_108
          · have h := h.1 c
            refine z_aload_n C 0 rfl rfl d_M_handle_79 ?_
            refine gf_M_kind C (Or.inl tw_999) d_M_handle_80 ?_
            refine z_iload_n C 1 rfl rfl d_M_handle_83 ?_
            refine al_m_kind C f2 d_M_handle_84 ?_
            refine z_iconst (v := (1 : Int32)) C rfl d_M_handle_85 ?_
            refine z_icmp_ne (tgt := 98) C d_M_handle_86 rfl (fun c => ?_) (fun c => ?_)
            · have h := h.2 c
              refine z_iconst (v := (-1 : Int32)) C rfl d_M_handle_98 ?_
              refine z_goto (tgt := 108) C d_M_handle_99 rfl ?_
              exact z_ireturn C G hr h d_M_handle_108
            · have h := h.1 c
              refine z_aload_n C 0 rfl rfl d_M_handle_89 ?_
              refine gf_M_its C (Or.inl tw_1000) d_M_handle_90 ?_
              refine z_iload_n C 1 rfl rfl d_M_handle_93 ?_
              refine al_m_its C f2 d_M_handle_94 ?_
              refine z_goto (tgt := 108) C d_M_handle_95 rfl ?_
              exact z_ireturn C G hr h d_M_handle_108
        · have h := h.1 c
          refine z_aload_n C 0 rfl rfl d_M_handle_65 ?_
          refine gf_M_place C (Or.inl tw_1001) d_M_handle_66 ?_
          refine z_iload_n C 1 rfl rfl d_M_handle_69 ?_
          refine al_m_place C f2 d_M_handle_70 ?_
          refine z_goto (tgt := 108) C d_M_handle_71 rfl ?_
          exact z_ireturn C G hr h d_M_handle_108
      · have h := h.1 c
        refine z_iconst (v := (-1 : Int32)) C rfl d_M_handle_58 ?_
        exact z_ireturn C G hr h d_M_handle_59
    · have h := h.1 c
      refine z_aload_n C 0 rfl rfl d_M_handle_42 ?_
      refine gf_M_kind C (Or.inl tw_999) d_M_handle_43 ?_
      refine z_iload_n C 1 rfl rfl d_M_handle_46 ?_
      obtain ⟨f3, h⟩ := h
      refine al_m_kind C f3 d_M_handle_47 ?_
      exact z_ireturn C G hr h d_M_handle_48
  · have h := h.2 c
    refine z_iconst (v := (0 : Int32)) C rfl d_M_handle_36 ?_
    exact z_ireturn C G hr h d_M_handle_37
def j_M_handle_21 (a1 : Int32) (a2 : Int32) (P : zS → Int32 → Prop) (S : zS) : Prop :=
  j_M_handle_26 a1 a2 P S (1 : Int32)
set_option maxRecDepth 20000 in
set_option maxHeartbeats 4000000 in
theorem vj_M_handle_21 {E : zE} {B : zK} (C : zC E (wR B) prog_12_method_64_code "HostBenchModel" 0 0) (a1 : Int32) (a2 : Int32) (P : zS → Int32 → Prop) (G : zGoal E (zQ (wR B) (zPi P)) (wR B)) (hr : zRt E (some .int)) (hnl : E.2.2.2.2.2.2.2.2.2.2.1 = 3) (S : zS) (h : j_M_handle_21 a1 a2 P S) : zV E (wR B) S 21 [(0, .ref (ad B 0)), (1, .int a1), (2, .int a2)] [.ref (ad B 0)] := by
  unfold j_M_handle_21 at h
  refine z_iconst (v := (1 : Int32)) C rfl d_M_handle_21 ?_
  refine z_goto (tgt := 26) C d_M_handle_22 rfl ?_
  exact z_sub [0, 1, 2] rfl (vj_M_handle_26 C a1 a2 P G hr hnl S (1 : Int32) h)
def w_M_handle (a1 : Int32) (a2 : Int32) (S : zS) (P : zS → Int32 → Prop) : Prop :=
  (a1 < (1 : Int32) → (j_M_handle_21 a1 a2 P S)) ∧ (¬ a1 < (1 : Int32) → (((10 : Int32) < a1 → (j_M_handle_21 a1 a2 P S)) ∧ (¬ (10 : Int32) < a1 → ((a2 < 0 → (j_M_handle_21 a1 a2 P S)) ∧ (¬ a2 < 0 → ((a2 ≤ (3 : Int32) → (j_M_handle_26 a1 a2 P S (0 : Int32))) ∧ (¬ a2 ≤ (3 : Int32) → (j_M_handle_21 a1 a2 P S))))))))
set_option maxRecDepth 20000 in
set_option maxHeartbeats 4000000 in
theorem v_M_handle {E : zE} {B : zK} (C : zC E (wR B) prog_12_method_64_code "HostBenchModel" 0 0) (a1 : Int32) (a2 : Int32) (P : zS → Int32 → Prop) (G : zGoal E (zQ (wR B) (zPi P)) (wR B)) (hr : zRt E (some .int)) (hnl : E.2.2.2.2.2.2.2.2.2.2.1 = 3) (S : zS) (h : w_M_handle a1 a2 S P) : zV E (wR B) S 0 [(0, .ref (ad B 0)), (1, .int a1), (2, .int a2)] [] := by
  unfold w_M_handle at h
  refine z_aload_n C 0 rfl rfl d_M_handle_0 ?_
  refine z_iload_n C 1 rfl rfl d_M_handle_1 ?_
  refine z_iconst (v := (1 : Int32)) C rfl d_M_handle_2 ?_
  refine z_icmp_lt (tgt := 21) C d_M_handle_3 rfl (fun c => ?_) (fun c => ?_)
  · have h := h.1 c
    exact z_sub [0, 1, 2] rfl (vj_M_handle_21 C a1 a2 P G hr hnl S h)
  · have h := h.2 c
    refine z_iload_n C 1 rfl rfl d_M_handle_6 ?_
    refine z_bipush (v := (10 : Int32)) C rfl d_M_handle_7 ?_
    refine z_icmp_gt (tgt := 21) C d_M_handle_9 rfl (fun c => ?_) (fun c => ?_)
    · have h := h.1 c
      exact z_sub [0, 1, 2] rfl (vj_M_handle_21 C a1 a2 P G hr hnl S h)
    · have h := h.2 c
      refine z_iload_n C 2 rfl rfl d_M_handle_12 ?_
      refine z_if_lt (tgt := 21) C d_M_handle_13 rfl (fun c => ?_) (fun c => ?_)
      · have h := h.1 c
        exact z_sub [0, 1, 2] rfl (vj_M_handle_21 C a1 a2 P G hr hnl S h)
      · have h := h.2 c
        refine z_iload_n C 2 rfl rfl d_M_handle_16 ?_
        refine z_iconst (v := (3 : Int32)) C rfl d_M_handle_17 ?_
        refine z_icmp_le (tgt := 25) C d_M_handle_18 rfl (fun c => ?_) (fun c => ?_)
        · have h := h.1 c
          refine z_iconst (v := (0 : Int32)) C rfl d_M_handle_25 ?_
          exact z_sub [0, 1, 2] rfl (vj_M_handle_26 C a1 a2 P G hr hnl S (0 : Int32) h)
        · have h := h.2 c
          exact z_sub [0, 1, 2] rfl (vj_M_handle_21 C a1 a2 P G hr hnl S h)
theorem c_M_handle (l : Launch) (B : zK) (a1 : Int32) (a2 : Int32) (S : zS) (P : zS → Int32 → Prop) (h : w_M_handle a1 a2 S P) : Met l y_M_handle (Cond.code y_M_handle prog_12_method_64_code 3 (some FieldType.int) :: tT) (zRm 0 0) (zPc (wR B) [.ref (ad B 0), .int a1, .int a2] S) (zQ (wR B) (zPi P)) 0 0 (wR B).2.2.2 :=
  z_met (by decide) (Nat.le_of_ble_eq_true rfl) (fun E C G hr _ hnl => v_M_handle C a1 a2 P G hr hnl S h)
theorem q_M_handle : zQw y_M_handle prog_12_method_64_code 3 (some FieldType.int) 2 := ⟨tw_1330, tw_1331, tw_87, tw_1332, by decide +kernel⟩
def j_M_printed_14 (a1 : Int32) (P : zS → Int32 → Prop) (S : zS) : Prop :=
  P S (-1 : Int32)
set_option maxRecDepth 20000 in
set_option maxHeartbeats 4000000 in
theorem vj_M_printed_14 {E : zE} {B : zK} (C : zC E (wR B) prog_12_method_65_code "HostBenchModel" 0 0) (a1 : Int32) (P : zS → Int32 → Prop) (G : zGoal E (zQ (wR B) (zPi P)) (wR B)) (hr : zRt E (some .int)) (hnl : E.2.2.2.2.2.2.2.2.2.2.1 = 2) (S : zS) (h : j_M_printed_14 a1 P S) : zV E (wR B) S 14 [] [] := by
  unfold j_M_printed_14 at h
  refine z_iconst (v := (-1 : Int32)) C rfl d_M_printed_14 ?_
  refine z_goto (tgt := 24) C d_M_printed_15 rfl ?_
  exact z_ireturn C G hr h d_M_printed_24
def w_M_printed (a1 : Int32) (S : zS) (P : zS → Int32 → Prop) : Prop :=
  ∀ S1 : zS, S1 = sM S 0 0 (0 : Int32) → (a1 < 0 → (j_M_printed_14 a1 P S1)) ∧ (¬ a1 < 0 → ((a1 ≤ (1 : Int32) → (vp_in a1 2 ∧ P S1 (gM S1 12 a1.toNatClampNeg))) ∧ (¬ a1 ≤ (1 : Int32) → (j_M_printed_14 a1 P S1))))
set_option maxRecDepth 20000 in
set_option maxHeartbeats 4000000 in
theorem v_M_printed {E : zE} {B : zK} (C : zC E (wR B) prog_12_method_65_code "HostBenchModel" 0 0) (a1 : Int32) (P : zS → Int32 → Prop) (G : zGoal E (zQ (wR B) (zPi P)) (wR B)) (hr : zRt E (some .int)) (hnl : E.2.2.2.2.2.2.2.2.2.2.1 = 2) (S : zS) (h : w_M_printed a1 S P) : zV E (wR B) S 0 [(0, .ref (ad B 0)), (1, .int a1)] [] := by
  unfold w_M_printed at h
  refine z_aload_n C 0 rfl rfl d_M_printed_0 ?_
  refine z_iconst (v := (0 : Int32)) C rfl d_M_printed_1 ?_
  refine pf_M_thrown C (Or.inl tw_984) d_M_printed_2 ?_
  refine z_nS (fun S1 eS1 => ?_)
  have h := h S1 eS1
  refine z_iload_n C 1 rfl rfl d_M_printed_5 ?_
  refine z_if_lt (tgt := 14) C d_M_printed_6 rfl (fun c => ?_) (fun c => ?_)
  · have h := h.1 c
    exact z_sub [] rfl (vj_M_printed_14 C a1 P G hr hnl S1 h)
  · have h := h.2 c
    refine z_iload_n C 1 rfl rfl d_M_printed_9 ?_
    refine z_iconst (v := (1 : Int32)) C rfl d_M_printed_10 ?_
    refine z_icmp_le (tgt := 18) C d_M_printed_11 rfl (fun c => ?_) (fun c => ?_)
    · have h := h.1 c
      refine z_aload_n C 0 rfl rfl d_M_printed_18 ?_
      refine gf_M_printed C (Or.inl tw_1005) d_M_printed_19 ?_
      refine z_iload_n C 1 rfl rfl d_M_printed_22 ?_
      obtain ⟨f2, h⟩ := h
      refine al_m_printed C f2 d_M_printed_23 ?_
      exact z_ireturn C G hr h d_M_printed_24
    · have h := h.2 c
      exact z_sub [] rfl (vj_M_printed_14 C a1 P G hr hnl S1 h)
theorem c_M_printed (l : Launch) (B : zK) (a1 : Int32) (S : zS) (P : zS → Int32 → Prop) (h : w_M_printed a1 S P) : Met l y_M_printed (Cond.code y_M_printed prog_12_method_65_code 2 (some FieldType.int) :: tT) (zRm 0 0) (zPc (wR B) [.ref (ad B 0), .int a1] S) (zQ (wR B) (zPi P)) 0 0 (wR B).2.2.2 :=
  z_met (by decide) (Nat.le_of_ble_eq_true rfl) (fun E C G hr _ hnl => v_M_printed C a1 P G hr hnl S h)
theorem q_M_printed : zQw y_M_printed prog_12_method_65_code 2 (some FieldType.int) 1 := ⟨tw_1334, tw_1335, tw_87, tw_1336, by decide +kernel⟩
def j_M_print_28 (a1 : Int32) (a2 : Int32) (P : zS → Int32 → Prop) (S : zS) : Prop :=
  P S (-1 : Int32)
set_option maxRecDepth 20000 in
set_option maxHeartbeats 4000000 in
theorem vj_M_print_28 {E : zE} {B : zK} (C : zC E (wR B) prog_12_method_66_code "HostBenchModel" 0 0) (a1 : Int32) (a2 : Int32) (P : zS → Int32 → Prop) (G : zGoal E (zQ (wR B) (zPi P)) (wR B)) (hr : zRt E (some .int)) (hnl : E.2.2.2.2.2.2.2.2.2.2.1 = 3) (S : zS) (h : j_M_print_28 a1 a2 P S) : zV E (wR B) S 28 [] [] := by
  unfold j_M_print_28 at h
  refine z_iconst (v := (-1 : Int32)) C rfl d_M_print_28 ?_
  refine z_goto (tgt := 44) C d_M_print_29 rfl ?_
  exact z_ireturn C G hr h d_M_print_44
def w_M_print (a1 : Int32) (a2 : Int32) (S : zS) (P : zS → Int32 → Prop) : Prop :=
  ∀ S1 : zS, S1 = sM S 0 0 (0 : Int32) → (a1 < 0 → (j_M_print_28 a1 a2 P S1)) ∧ (¬ a1 < 0 → (((1 : Int32) < a1 → (j_M_print_28 a1 a2 P S1)) ∧ (¬ (1 : Int32) < a1 → ((a2 < 0 → (j_M_print_28 a1 a2 P S1)) ∧ (¬ a2 < 0 → (vp_in a1 2 ∧ (a2 < (gM S1 13 a1.toNatClampNeg) → (vp_in (((2000 : Int32) * a1) + a2) 4000 ∧ P S1 (gM S1 14 (((2000 : Int32) * a1) + a2).toNatClampNeg))) ∧ (¬ a2 < (gM S1 13 a1.toNatClampNeg) → (j_M_print_28 a1 a2 P S1))))))))
set_option maxRecDepth 20000 in
set_option maxHeartbeats 4000000 in
theorem v_M_print {E : zE} {B : zK} (C : zC E (wR B) prog_12_method_66_code "HostBenchModel" 0 0) (a1 : Int32) (a2 : Int32) (P : zS → Int32 → Prop) (G : zGoal E (zQ (wR B) (zPi P)) (wR B)) (hr : zRt E (some .int)) (hnl : E.2.2.2.2.2.2.2.2.2.2.1 = 3) (S : zS) (h : w_M_print a1 a2 S P) : zV E (wR B) S 0 [(0, .ref (ad B 0)), (1, .int a1), (2, .int a2)] [] := by
  unfold w_M_print at h
  refine z_aload_n C 0 rfl rfl d_M_print_0 ?_
  refine z_iconst (v := (0 : Int32)) C rfl d_M_print_1 ?_
  refine pf_M_thrown C (Or.inl tw_984) d_M_print_2 ?_
  refine z_nS (fun S1 eS1 => ?_)
  have h := h S1 eS1
  refine z_iload_n C 1 rfl rfl d_M_print_5 ?_
  refine z_if_lt (tgt := 28) C d_M_print_6 rfl (fun c => ?_) (fun c => ?_)
  · have h := h.1 c
    exact z_sub [] rfl (vj_M_print_28 C a1 a2 P G hr hnl S1 h)
  · have h := h.2 c
    refine z_iload_n C 1 rfl rfl d_M_print_9 ?_
    refine z_iconst (v := (1 : Int32)) C rfl d_M_print_10 ?_
    refine z_icmp_gt (tgt := 28) C d_M_print_11 rfl (fun c => ?_) (fun c => ?_)
    · have h := h.1 c
      exact z_sub [] rfl (vj_M_print_28 C a1 a2 P G hr hnl S1 h)
    · have h := h.2 c
      refine z_iload_n C 2 rfl rfl d_M_print_14 ?_
      refine z_if_lt (tgt := 28) C d_M_print_15 rfl (fun c => ?_) (fun c => ?_)
      · have h := h.1 c
        exact z_sub [] rfl (vj_M_print_28 C a1 a2 P G hr hnl S1 h)
      · have h := h.2 c
        refine z_iload_n C 2 rfl rfl d_M_print_18 ?_
        refine z_aload_n C 0 rfl rfl d_M_print_19 ?_
        refine gf_M_kept C (Or.inl tw_1006) d_M_print_20 ?_
        refine z_iload_n C 1 rfl rfl d_M_print_23 ?_
        obtain ⟨f2, h⟩ := h
        refine al_m_kept C f2 d_M_print_24 ?_
        refine z_icmp_lt (tgt := 32) C d_M_print_25 rfl (fun c => ?_) (fun c => ?_)
        · have h := h.1 c
          refine z_aload_n C 0 rfl rfl d_M_print_32 ?_
          refine gf_M_prints C (Or.inl tw_1007) d_M_print_33 ?_
          refine z_sipush (v := (2000 : Int32)) C rfl d_M_print_36 ?_
          refine z_iload_n C 1 rfl rfl d_M_print_39 ?_
          refine z_imul C d_M_print_40 ?_
          refine z_iload_n C 2 rfl rfl d_M_print_41 ?_
          refine z_iadd C d_M_print_42 ?_
          obtain ⟨f3, h⟩ := h
          refine al_m_prints C f3 d_M_print_43 ?_
          exact z_ireturn C G hr h d_M_print_44
        · have h := h.2 c
          exact z_sub [] rfl (vj_M_print_28 C a1 a2 P G hr hnl S1 h)
theorem c_M_print (l : Launch) (B : zK) (a1 : Int32) (a2 : Int32) (S : zS) (P : zS → Int32 → Prop) (h : w_M_print a1 a2 S P) : Met l y_M_print (Cond.code y_M_print prog_12_method_66_code 3 (some FieldType.int) :: tT) (zRm 0 0) (zPc (wR B) [.ref (ad B 0), .int a1, .int a2] S) (zQ (wR B) (zPi P)) 0 0 (wR B).2.2.2 :=
  z_met (by decide) (Nat.le_of_ble_eq_true rfl) (fun E C G hr _ hnl => v_M_print C a1 a2 P G hr hnl S h)
theorem q_M_print : zQw y_M_print prog_12_method_66_code 3 (some FieldType.int) 2 := ⟨tw_1338, tw_1339, tw_87, tw_1340, by decide +kernel⟩
