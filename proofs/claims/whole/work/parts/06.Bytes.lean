def w_Bytes_size (j : Nat) (S : zS) (P : zS → Int32 → Prop) : Prop :=
  j < 32 ∧ P S (gM S 8 j)
set_option maxRecDepth 20000 in
set_option maxHeartbeats 4000000 in
theorem v_Bytes_size {E : zE} {B : zK} (C : zC E (wC B) prog_2_method_2_code "HostBench$Bytes" 0 0) (j : Nat) (P : zS → Int32 → Prop) (G : zGoal E (zQ (wC B) (zPi P)) (wC B)) (hr : zRt E (some .int)) (hnl : E.2.2.2.2.2.2.2.2.2.2.1 = 1) (S : zS) (h : w_Bytes_size j S P) : zV E (wC B) S 0 [(0, .ref (ad B (35 + j)))] [] := by
  unfold w_Bytes_size at h
  refine z_aload_n C 0 rfl rfl d_Bytes_size_0 ?_
  obtain ⟨f1, h⟩ := h
  refine gf_Bytes_size C f1 (Or.inl tw_114) d_Bytes_size_1 ?_
  exact z_ireturn C G hr h d_Bytes_size_4
theorem c_Bytes_size (l : Launch) (B : zK) (j : Nat) (S : zS) (P : zS → Int32 → Prop) (h : w_Bytes_size j S P) : Met l y_Bytes_size (Cond.code y_Bytes_size prog_2_method_2_code 1 (some FieldType.int) :: tT) (zRm 0 0) (zPc (wC B) [.ref (ad B (35 + j))] S) (zQ (wC B) (zPi P)) 0 0 (wC B).2.2.2 :=
  z_met (by decide) (Nat.le_of_ble_eq_true rfl) (fun E C G hr _ hnl => v_Bytes_size C j P G hr hnl S h)
theorem q_Bytes_size : zQw y_Bytes_size prog_2_method_2_code 1 (some FieldType.int) 0 := ⟨tw_367, tw_368, tw_77, tw_369, by decide +kernel⟩
def w_Bytes_spare (j : Nat) (S : zS) (P : zS → Int32 → Prop) : Prop :=
  j < 32 ∧ P S ((Int32.ofNat (capB j)) - (gM S 8 j))
set_option maxRecDepth 20000 in
set_option maxHeartbeats 4000000 in
theorem v_Bytes_spare {E : zE} {B : zK} (C : zC E (wC B) prog_2_method_3_code "HostBench$Bytes" 0 0) (j : Nat) (P : zS → Int32 → Prop) (G : zGoal E (zQ (wC B) (zPi P)) (wC B)) (hr : zRt E (some .int)) (hnl : E.2.2.2.2.2.2.2.2.2.2.1 = 1) (S : zS) (h : w_Bytes_spare j S P) : zV E (wC B) S 0 [(0, .ref (ad B (35 + j)))] [] := by
  unfold w_Bytes_spare at h
  refine z_aload_n C 0 rfl rfl d_Bytes_spare_0 ?_
  obtain ⟨f1, h⟩ := h
  refine gf_Bytes_room C f1 (Or.inl tw_113) d_Bytes_spare_1 ?_
  refine ln_room C f1 d_Bytes_spare_4 ?_
  refine z_aload_n C 0 rfl rfl d_Bytes_spare_5 ?_
  refine gf_Bytes_size C f1 (Or.inl tw_114) d_Bytes_spare_6 ?_
  refine z_isub C d_Bytes_spare_9 ?_
  exact z_ireturn C G hr h d_Bytes_spare_10
theorem c_Bytes_spare (l : Launch) (B : zK) (j : Nat) (S : zS) (P : zS → Int32 → Prop) (h : w_Bytes_spare j S P) : Met l y_Bytes_spare (Cond.code y_Bytes_spare prog_2_method_3_code 1 (some FieldType.int) :: tT) (zRm 0 0) (zPc (wC B) [.ref (ad B (35 + j))] S) (zQ (wC B) (zPi P)) 0 0 (wC B).2.2.2 :=
  z_met (by decide) (Nat.le_of_ble_eq_true rfl) (fun E C G hr _ hnl => v_Bytes_spare C j P G hr hnl S h)
theorem q_Bytes_spare : zQw y_Bytes_spare prog_2_method_3_code 1 (some FieldType.int) 0 := ⟨tw_359, tw_360, tw_77, tw_361, by decide +kernel⟩
def w_Bytes_at (j : Nat) (a1 : Int32) (S : zS) (P : zS → Int32 → Prop) : Prop :=
  (a1 < 0 → (P S (-1 : Int32))) ∧ (¬ a1 < 0 → (j < 32 ∧ ((gM S 8 j) ≤ a1 → (P S (-1 : Int32))) ∧ (¬ (gM S 8 j) ≤ a1 → (vp_in a1 (capB j) ∧ P S ((gR S j a1.toNatClampNeg) &&& (255 : Int32))))))
set_option maxRecDepth 20000 in
set_option maxHeartbeats 4000000 in
theorem v_Bytes_at {E : zE} {B : zK} (C : zC E (wC B) prog_2_method_4_code "HostBench$Bytes" 0 0) (j : Nat) (a1 : Int32) (P : zS → Int32 → Prop) (G : zGoal E (zQ (wC B) (zPi P)) (wC B)) (hr : zRt E (some .int)) (hnl : E.2.2.2.2.2.2.2.2.2.2.1 = 2) (S : zS) (h : w_Bytes_at j a1 S P) : zV E (wC B) S 0 [(0, .ref (ad B (35 + j))), (1, .int a1)] [] := by
  unfold w_Bytes_at at h
  refine z_iload_n C 1 rfl rfl d_Bytes_at_0 ?_
  refine z_if_lt (tgt := 25) C d_Bytes_at_1 rfl (fun c => ?_) (fun c => ?_)
  · have h := h.1 c
    refine z_iconst (v := (-1 : Int32)) C rfl d_Bytes_at_25 ?_
    exact z_ireturn C G hr h d_Bytes_at_26
  · have h := h.2 c
    refine z_iload_n C 1 rfl rfl d_Bytes_at_4 ?_
    refine z_aload_n C 0 rfl rfl d_Bytes_at_5 ?_
    obtain ⟨f1, h⟩ := h
    refine gf_Bytes_size C f1 (Or.inl tw_114) d_Bytes_at_6 ?_
    refine z_icmp_ge (tgt := 25) C d_Bytes_at_9 rfl (fun c => ?_) (fun c => ?_)
    · have h := h.1 c
      refine z_iconst (v := (-1 : Int32)) C rfl d_Bytes_at_25 ?_
      exact z_ireturn C G hr h d_Bytes_at_26
    · have h := h.2 c
      refine z_aload_n C 0 rfl rfl d_Bytes_at_12 ?_
      refine gf_Bytes_room C f1 (Or.inl tw_113) d_Bytes_at_13 ?_
      refine z_iload_n C 1 rfl rfl d_Bytes_at_16 ?_
      obtain ⟨f2, h⟩ := h
      refine al_room C f1 f2 d_Bytes_at_17 ?_
      refine z_sipush (v := (255 : Int32)) C rfl d_Bytes_at_18 ?_
      refine z_iand C d_Bytes_at_21 ?_
      refine z_goto (tgt := 26) C d_Bytes_at_22 rfl ?_
      exact z_ireturn C G hr h d_Bytes_at_26
theorem c_Bytes_at (l : Launch) (B : zK) (j : Nat) (a1 : Int32) (S : zS) (P : zS → Int32 → Prop) (h : w_Bytes_at j a1 S P) : Met l y_Bytes_at (Cond.code y_Bytes_at prog_2_method_4_code 2 (some FieldType.int) :: tT) (zRm 0 0) (zPc (wC B) [.ref (ad B (35 + j)), .int a1] S) (zQ (wC B) (zPi P)) 0 0 (wC B).2.2.2 :=
  z_met (by decide) (Nat.le_of_ble_eq_true rfl) (fun E C G hr _ hnl => v_Bytes_at C j a1 P G hr hnl S h)
theorem q_Bytes_at : zQw y_Bytes_at prog_2_method_4_code 2 (some FieldType.int) 1 := ⟨tw_423, tw_424, tw_77, tw_425, by decide +kernel⟩
def w_Bytes_add (j : Nat) (a1 : Int32) (S : zS) (P : zS → Prop) : Prop :=
  j < 32 ∧ ((Int32.ofNat (capB j)) ≤ (gM S 8 j) → (P S)) ∧ (¬ (Int32.ofNat (capB j)) ≤ (gM S 8 j) → (vp_in (gM S 8 j) (capB j) ∧ ∀ S3 : zS, S3 = sR S j (gM S 8 j).toNatClampNeg (vp_nar .byte a1.toInt8.toInt32) → ∀ S4 : zS, S4 = sM S3 8 j ((gM S3 8 j) + (1 : Int32)) → P S4))
set_option maxRecDepth 20000 in
set_option maxHeartbeats 4000000 in
theorem v_Bytes_add {E : zE} {B : zK} (C : zC E (wC B) prog_2_method_5_code "HostBench$Bytes" 0 0) (j : Nat) (a1 : Int32) (P : zS → Prop) (G : zGoal E (zQ (wC B) (zPv P)) (wC B)) (hr : zRt E (none)) (hnl : E.2.2.2.2.2.2.2.2.2.2.1 = 2) (S : zS) (h : w_Bytes_add j a1 S P) : zV E (wC B) S 0 [(0, .ref (ad B (35 + j))), (1, .int a1)] [] := by
  unfold w_Bytes_add at h
  refine z_aload_n C 0 rfl rfl d_Bytes_add_0 ?_
  obtain ⟨f1, h⟩ := h
  refine gf_Bytes_size C f1 (Or.inl tw_114) d_Bytes_add_1 ?_
  refine z_aload_n C 0 rfl rfl d_Bytes_add_4 ?_
  refine gf_Bytes_room C f1 (Or.inl tw_113) d_Bytes_add_5 ?_
  refine ln_room C f1 d_Bytes_add_8 ?_
  refine z_icmp_ge (tgt := 33) C d_Bytes_add_9 rfl (fun c => ?_) (fun c => ?_)
  · have h := h.1 c
    exact z_vreturn C G hr h d_Bytes_add_33
  · have h := h.2 c
    refine z_aload_n C 0 rfl rfl d_Bytes_add_12 ?_
    refine gf_Bytes_room C f1 (Or.inl tw_113) d_Bytes_add_13 ?_
    refine z_aload_n C 0 rfl rfl d_Bytes_add_16 ?_
    refine gf_Bytes_size C f1 (Or.inl tw_114) d_Bytes_add_17 ?_
    refine z_iload_n C 1 rfl rfl d_Bytes_add_20 ?_
    refine z_i2b C d_Bytes_add_21 ?_
    obtain ⟨f2, h⟩ := h
    refine as_room C f1 f2 d_Bytes_add_22 ?_
    refine z_nS (fun S3 eS3 => ?_)
    have h := h S3 eS3
    refine z_aload_n C 0 rfl rfl d_Bytes_add_23 ?_
    refine z_dup C rfl d_Bytes_add_24 ?_
    refine gf_Bytes_size C f1 (Or.inl tw_114) d_Bytes_add_25 ?_
    refine z_iconst (v := (1 : Int32)) C rfl d_Bytes_add_28 ?_
    refine z_iadd C d_Bytes_add_29 ?_
    refine pf_Bytes_size C f1 (Or.inl tw_114) d_Bytes_add_30 ?_
    refine z_nS (fun S4 eS4 => ?_)
    have h := h S4 eS4
    exact z_vreturn C G hr h d_Bytes_add_33
theorem c_Bytes_add (l : Launch) (B : zK) (j : Nat) (a1 : Int32) (S : zS) (P : zS → Prop) (h : w_Bytes_add j a1 S P) : Met l y_Bytes_add (Cond.code y_Bytes_add prog_2_method_5_code 2 none :: tT) (zRm 0 0) (zPc (wC B) [.ref (ad B (35 + j)), .int a1] S) (zQ (wC B) (zPv P)) 0 0 (wC B).2.2.2 :=
  z_met (by decide) (Nat.le_of_ble_eq_true rfl) (fun E C G hr _ hnl => v_Bytes_add C j a1 P G hr hnl S h)
theorem q_Bytes_add : zQw y_Bytes_add prog_2_method_5_code 2 none 1 := ⟨tw_363, tw_364, tw_77, tw_365, by decide +kernel⟩
def w_Bytes_change (j : Nat) (a1 : Int32) (a2 : Int32) (S : zS) (P : zS → Prop) : Prop :=
  (a1 < 0 → (P S)) ∧ (¬ a1 < 0 → (j < 32 ∧ ((gM S 8 j) ≤ a1 → (P S)) ∧ (¬ (gM S 8 j) ≤ a1 → (vp_in a1 (capB j) ∧ ∀ S3 : zS, S3 = sR S j a1.toNatClampNeg (vp_nar .byte a2.toInt8.toInt32) → P S3))))
set_option maxRecDepth 20000 in
set_option maxHeartbeats 4000000 in
theorem v_Bytes_change {E : zE} {B : zK} (C : zC E (wC B) prog_2_method_6_code "HostBench$Bytes" 0 0) (j : Nat) (a1 : Int32) (a2 : Int32) (P : zS → Prop) (G : zGoal E (zQ (wC B) (zPv P)) (wC B)) (hr : zRt E (none)) (hnl : E.2.2.2.2.2.2.2.2.2.2.1 = 3) (S : zS) (h : w_Bytes_change j a1 a2 S P) : zV E (wC B) S 0 [(0, .ref (ad B (35 + j))), (1, .int a1), (2, .int a2)] [] := by
  unfold w_Bytes_change at h
  refine z_iload_n C 1 rfl rfl d_Bytes_change_0 ?_
  refine z_if_lt (tgt := 20) C d_Bytes_change_1 rfl (fun c => ?_) (fun c => ?_)
  · have h := h.1 c
    exact z_vreturn C G hr h d_Bytes_change_20
  · have h := h.2 c
    refine z_iload_n C 1 rfl rfl d_Bytes_change_4 ?_
    refine z_aload_n C 0 rfl rfl d_Bytes_change_5 ?_
    obtain ⟨f1, h⟩ := h
    refine gf_Bytes_size C f1 (Or.inl tw_114) d_Bytes_change_6 ?_
    refine z_icmp_ge (tgt := 20) C d_Bytes_change_9 rfl (fun c => ?_) (fun c => ?_)
    · have h := h.1 c
      exact z_vreturn C G hr h d_Bytes_change_20
    · have h := h.2 c
      refine z_aload_n C 0 rfl rfl d_Bytes_change_12 ?_
      refine gf_Bytes_room C f1 (Or.inl tw_113) d_Bytes_change_13 ?_
      refine z_iload_n C 1 rfl rfl d_Bytes_change_16 ?_
      refine z_iload_n C 2 rfl rfl d_Bytes_change_17 ?_
      refine z_i2b C d_Bytes_change_18 ?_
      obtain ⟨f2, h⟩ := h
      refine as_room C f1 f2 d_Bytes_change_19 ?_
      refine z_nS (fun S3 eS3 => ?_)
      have h := h S3 eS3
      exact z_vreturn C G hr h d_Bytes_change_20
theorem c_Bytes_change (l : Launch) (B : zK) (j : Nat) (a1 : Int32) (a2 : Int32) (S : zS) (P : zS → Prop) (h : w_Bytes_change j a1 a2 S P) : Met l y_Bytes_change (Cond.code y_Bytes_change prog_2_method_6_code 3 none :: tT) (zRm 0 0) (zPc (wC B) [.ref (ad B (35 + j)), .int a1, .int a2] S) (zQ (wC B) (zPv P)) 0 0 (wC B).2.2.2 :=
  z_met (by decide) (Nat.le_of_ble_eq_true rfl) (fun E C G hr _ hnl => v_Bytes_change C j a1 a2 P G hr hnl S h)
theorem q_Bytes_change : zQw y_Bytes_change prog_2_method_6_code 3 none 2 := ⟨tw_835, tw_836, tw_77, tw_837, by decide +kernel⟩
def w_Bytes_cut (j : Nat) (a1 : Int32) (S : zS) (P : zS → Prop) : Prop :=
  (a1 < 0 → (P S)) ∧ (¬ a1 < 0 → (j < 32 ∧ ((gM S 8 j) ≤ a1 → (P S)) ∧ (¬ (gM S 8 j) ≤ a1 → (∀ S2 : zS, S2 = sM S 8 j a1 → P S2))))
set_option maxRecDepth 20000 in
set_option maxHeartbeats 4000000 in
theorem v_Bytes_cut {E : zE} {B : zK} (C : zC E (wC B) prog_2_method_7_code "HostBench$Bytes" 0 0) (j : Nat) (a1 : Int32) (P : zS → Prop) (G : zGoal E (zQ (wC B) (zPv P)) (wC B)) (hr : zRt E (none)) (hnl : E.2.2.2.2.2.2.2.2.2.2.1 = 2) (S : zS) (h : w_Bytes_cut j a1 S P) : zV E (wC B) S 0 [(0, .ref (ad B (35 + j))), (1, .int a1)] [] := by
  unfold w_Bytes_cut at h
  refine z_iload_n C 1 rfl rfl d_Bytes_cut_0 ?_
  refine z_if_lt (tgt := 17) C d_Bytes_cut_1 rfl (fun c => ?_) (fun c => ?_)
  · have h := h.1 c
    exact z_vreturn C G hr h d_Bytes_cut_17
  · have h := h.2 c
    refine z_iload_n C 1 rfl rfl d_Bytes_cut_4 ?_
    refine z_aload_n C 0 rfl rfl d_Bytes_cut_5 ?_
    obtain ⟨f1, h⟩ := h
    refine gf_Bytes_size C f1 (Or.inl tw_114) d_Bytes_cut_6 ?_
    refine z_icmp_ge (tgt := 17) C d_Bytes_cut_9 rfl (fun c => ?_) (fun c => ?_)
    · have h := h.1 c
      exact z_vreturn C G hr h d_Bytes_cut_17
    · have h := h.2 c
      refine z_aload_n C 0 rfl rfl d_Bytes_cut_12 ?_
      refine z_iload_n C 1 rfl rfl d_Bytes_cut_13 ?_
      refine pf_Bytes_size C f1 (Or.inl tw_114) d_Bytes_cut_14 ?_
      refine z_nS (fun S2 eS2 => ?_)
      have h := h S2 eS2
      exact z_vreturn C G hr h d_Bytes_cut_17
theorem c_Bytes_cut (l : Launch) (B : zK) (j : Nat) (a1 : Int32) (S : zS) (P : zS → Prop) (h : w_Bytes_cut j a1 S P) : Met l y_Bytes_cut (Cond.code y_Bytes_cut prog_2_method_7_code 2 none :: tT) (zRm 0 0) (zPc (wC B) [.ref (ad B (35 + j)), .int a1] S) (zQ (wC B) (zPv P)) 0 0 (wC B).2.2.2 :=
  z_met (by decide) (Nat.le_of_ble_eq_true rfl) (fun E C G hr _ hnl => v_Bytes_cut C j a1 P G hr hnl S h)
theorem q_Bytes_cut : zQw y_Bytes_cut prog_2_method_7_code 2 none 1 := ⟨tw_375, tw_376, tw_77, tw_377, by decide +kernel⟩
def l_Bytes_append_40 (j : Nat) (a1 : Nat) (a2 : Int32) (a3 : Int32) (P : zS → Prop) : Nat → zS → Int32 → Int32 → Int32 → Prop
  | 0, _, _, _, _ => False
  | n + 1, S, x4, x5, x6 =>
  (x5 ≤ x6 → (j < 32 ∧ ∀ S2 : zS, S2 = sM S 8 j ((gM S 8 j) + x5) → P S2)) ∧ (¬ x5 ≤ x6 → (j < 32 ∧ a1 < 32 ∧ vp_in (x4 + x6) (capB a1) ∧ vp_in ((gM S 8 j) + x6) (capB j) ∧ ∀ S7 : zS, S7 = sR S j ((gM S 8 j) + x6).toNatClampNeg (vp_nar .byte (gR S a1 (x4 + x6).toNatClampNeg)) → l_Bytes_append_40 j a1 a2 a3 P n S7 x4 x5 (x6 + (1 : Int32))))
set_option maxRecDepth 20000 in
set_option maxHeartbeats 4000000 in
theorem vl_Bytes_append_40 {E : zE} {B : zK} (C : zC E (wC B) prog_2_method_8_code "HostBench$Bytes" 1 15) (j : Nat) (a1 : Nat) (a2 : Int32) (a3 : Int32) (P : zS → Prop) (G : zGoal E (zQ (wC B) (zPv P)) (wC B)) (hr : zRt E (none)) (hnl : E.2.2.2.2.2.2.2.2.2.2.1 = 7) : ∀ (n : Nat) (S : zS) (x4 : Int32) (x5 : Int32) (x6 : Int32) , l_Bytes_append_40 j a1 a2 a3 P n S x4 x5 x6 → zV E (wC B) S 40 [(0, .ref (ad B (35 + j))), (1, .ref (ad B (35 + a1))), (4, .int x4), (5, .int x5), (6, .int x6)] [] := by
  intro n
  induction n with
  | zero => intro S x4 x5 x6 h; exact h.elim
  | succ n ih =>
    intro S x4 x5 x6 h
    unfold l_Bytes_append_40 at h
    refine z_iload C 4 rfl d_Bytes_append_40 ?_
    refine z_iload C 3 rfl d_Bytes_append_42 ?_
    refine z_icmp_ge (tgt := 75) C d_Bytes_append_44 rfl (fun c => ?_) (fun c => ?_)
    · have h := h.1 c
      refine z_aload_n C 0 rfl rfl d_Bytes_append_75 ?_
      refine z_dup C rfl d_Bytes_append_76 ?_
      obtain ⟨f1, h⟩ := h
      refine gf_Bytes_size C f1 (Or.inl tw_114) d_Bytes_append_77 ?_
      refine z_iload C 3 rfl d_Bytes_append_80 ?_
      refine z_iadd C d_Bytes_append_82 ?_
      refine pf_Bytes_size C f1 (Or.inl tw_114) d_Bytes_append_83 ?_
      refine z_nS (fun S2 eS2 => ?_)
      have h := h S2 eS2
      exact z_vreturn C G hr h d_Bytes_append_86
    · have h := h.2 c
      refine z_aload_n C 0 rfl rfl d_Bytes_append_47 ?_
      obtain ⟨f3, h⟩ := h
      refine gf_Bytes_room C f3 (Or.inl tw_113) d_Bytes_append_48 ?_
      refine z_aload_n C 0 rfl rfl d_Bytes_append_51 ?_
      refine gf_Bytes_size C f3 (Or.inl tw_114) d_Bytes_append_52 ?_
      refine z_iload C 4 rfl d_Bytes_append_55 ?_
      refine z_iadd C d_Bytes_append_57 ?_
      refine z_aload_n C 1 rfl rfl d_Bytes_append_58 ?_
      obtain ⟨f4, h⟩ := h
      refine gf_Bytes_room C f4 (Or.inl tw_113) d_Bytes_append_59 ?_
      refine z_iload C 2 rfl d_Bytes_append_62 ?_
      refine z_iload C 4 rfl d_Bytes_append_64 ?_
      refine z_iadd C d_Bytes_append_66 ?_
      obtain ⟨f5, h⟩ := h
      refine al_room C f4 f5 d_Bytes_append_67 ?_
      obtain ⟨f6, h⟩ := h
      refine as_room C f3 f6 d_Bytes_append_68 ?_
      refine z_nS (fun S7 eS7 => ?_)
      have h := h S7 eS7
      refine z_iinc (v := x6 + (1 : Int32)) (L' := [(6, .int (x6 + (1 : Int32))), (0, .ref (ad B (35 + j))), (1, .ref (ad B (35 + a1))), (4, .int x4), (5, .int x5)]) C hnl 4 rfl rfl (by decide) rfl d_Bytes_append_69 ?_
      refine z_goto (tgt := 40) C d_Bytes_append_72 rfl ?_
      exact z_sub [1, 2, 3, 4, 0] rfl (ih S7 x4 x5 (x6 + (1 : Int32)) h)
def w_Bytes_append (j : Nat) (a1 : Nat) (a2 : Int32) (a3 : Int32) (S : zS) (P : zS → Prop) : Prop :=
  ∀ v1 : Int32, v1 = (mxI (0 : Int32) a2) → a1 < 32 ∧ j < 32 ∧ ∀ v4 : Int32, v4 = (mxI (0 : Int32) (mnI a3 (mnI ((gM S 8 a1) - v1) ((Int32.ofNat (capB j)) - (gM S 8 j))))) → ∃ n5 : Nat, l_Bytes_append_40 j a1 a2 a3 P n5 S v1 v4 (0 : Int32)
set_option maxRecDepth 20000 in
set_option maxHeartbeats 4000000 in
theorem v_Bytes_append {E : zE} {B : zK} (C : zC E (wC B) prog_2_method_8_code "HostBench$Bytes" 1 15) (j : Nat) (a1 : Nat) (a2 : Int32) (a3 : Int32) (P : zS → Prop) (G : zGoal E (zQ (wC B) (zPv P)) (wC B)) (hr : zRt E (none)) (hnl : E.2.2.2.2.2.2.2.2.2.2.1 = 7) (S : zS) (h : w_Bytes_append j a1 a2 a3 S P) : zV E (wC B) S 0 [(0, .ref (ad B (35 + j))), (1, .ref (ad B (35 + a1))), (2, .int a2), (3, .int a3)] [] := by
  unfold w_Bytes_append at h
  refine z_iconst (v := (0 : Int32)) C rfl d_Bytes_append_0 ?_
  refine z_iload_n C 2 rfl rfl d_Bytes_append_1 ?_
  refine z_mmax C tw_110 tw_111 tw_78 tw_112 (Nat.le_of_ble_eq_true rfl) (Nat.le_of_ble_eq_true rfl) d_Bytes_append_2 ?_
  refine z_topi (fun v1 ev1 => ?_)
  have h := h v1 ev1
  refine z_istore (L' := [(4, .int v1), (0, .ref (ad B (35 + j))), (1, .ref (ad B (35 + a1))), (2, .int a2), (3, .int a3)]) C hnl (by decide) rfl d_Bytes_append_5 ?_
  refine z_iconst (v := (0 : Int32)) C rfl d_Bytes_append_7 ?_
  refine z_iload_n C 4 rfl rfl d_Bytes_append_8 ?_
  refine z_aload_n C 2 rfl rfl d_Bytes_append_9 ?_
  obtain ⟨f2, h⟩ := h
  refine gf_Bytes_size C f2 (Or.inl tw_114) d_Bytes_append_10 ?_
  refine z_iload C 0 rfl d_Bytes_append_13 ?_
  refine z_isub C d_Bytes_append_15 ?_
  refine z_aload_n C 1 rfl rfl d_Bytes_append_16 ?_
  obtain ⟨f3, h⟩ := h
  refine gf_Bytes_room C f3 (Or.inl tw_113) d_Bytes_append_17 ?_
  refine ln_room C f3 d_Bytes_append_20 ?_
  refine z_aload_n C 1 rfl rfl d_Bytes_append_21 ?_
  refine gf_Bytes_size C f3 (Or.inl tw_114) d_Bytes_append_22 ?_
  refine z_isub C d_Bytes_append_25 ?_
  refine z_mmin C tw_555 tw_556 tw_78 tw_557 (Nat.le_of_ble_eq_true rfl) (Nat.le_of_ble_eq_true rfl) d_Bytes_append_26 ?_
  refine z_mmin C tw_555 tw_556 tw_78 tw_557 (Nat.le_of_ble_eq_true rfl) (Nat.le_of_ble_eq_true rfl) d_Bytes_append_29 ?_
  refine z_mmax C tw_110 tw_111 tw_78 tw_112 (Nat.le_of_ble_eq_true rfl) (Nat.le_of_ble_eq_true rfl) d_Bytes_append_32 ?_
  refine z_topi (fun v4 ev4 => ?_)
  have h := h v4 ev4
  refine z_istore (L' := [(5, .int v4), (4, .int v1), (0, .ref (ad B (35 + j))), (1, .ref (ad B (35 + a1))), (2, .int a2), (3, .int a3)]) C hnl (by decide) rfl d_Bytes_append_35 ?_
  refine z_iconst (v := (0 : Int32)) C rfl d_Bytes_append_37 ?_
  refine z_istore (L' := [(6, .int (0 : Int32)), (5, .int v4), (4, .int v1), (0, .ref (ad B (35 + j))), (1, .ref (ad B (35 + a1))), (2, .int a2), (3, .int a3)]) C hnl (by decide) rfl d_Bytes_append_38 ?_
  obtain ⟨n5, h⟩ := h
  exact z_sub [3, 4, 2, 1, 0] rfl (vl_Bytes_append_40 C j a1 a2 a3 P G hr hnl n5 S v1 v4 (0 : Int32) h)
theorem c_Bytes_append (l : Launch) (B : zK) (j : Nat) (a1 : Nat) (a2 : Int32) (a3 : Int32) (S : zS) (P : zS → Prop) (h : w_Bytes_append j a1 a2 a3 S P) : Met l y_Bytes_append (Cond.code y_Bytes_append prog_2_method_8_code 7 none :: tT) (zRm 1 15) (zPc (wC B) [.ref (ad B (35 + j)), .ref (ad B (35 + a1)), .int a2, .int a3] S) (zQ (wC B) (zPv P)) 0 0 (wC B).2.2.2 :=
  z_met (by decide) (Nat.le_of_ble_eq_true rfl) (fun E C G hr _ hnl => v_Bytes_append C j a1 a2 a3 P G hr hnl S h)
theorem q_Bytes_append : zQw y_Bytes_append prog_2_method_8_code 7 none 3 := ⟨tw_552, tw_553, tw_77, tw_554, by decide +kernel⟩
def l_Bytes_dropFirst_25 (j : Nat) (a1 : Int32) (P : zS → Prop) : Nat → zS → Int32 → Int32 → Prop
  | 0, _, _, _ => False
  | n + 1, S, x2, x3 =>
  j < 32 ∧ ((gM S 8 j) ≤ x3 → (P S)) ∧ (¬ (gM S 8 j) ≤ x3 → (vp_in (x3 + x2) (capB j) ∧ vp_in x3 (capB j) ∧ ∀ S4 : zS, S4 = sR S j x3.toNatClampNeg (vp_nar .byte (gR S j (x3 + x2).toNatClampNeg)) → l_Bytes_dropFirst_25 j a1 P n S4 x2 (x3 + (1 : Int32))))
set_option maxRecDepth 20000 in
set_option maxHeartbeats 4000000 in
theorem vl_Bytes_dropFirst_25 {E : zE} {B : zK} (C : zC E (wC B) prog_2_method_9_code "HostBench$Bytes" 1 14) (j : Nat) (a1 : Int32) (P : zS → Prop) (G : zGoal E (zQ (wC B) (zPv P)) (wC B)) (hr : zRt E (none)) (hnl : E.2.2.2.2.2.2.2.2.2.2.1 = 4) : ∀ (n : Nat) (S : zS) (x2 : Int32) (x3 : Int32) , l_Bytes_dropFirst_25 j a1 P n S x2 x3 → zV E (wC B) S 25 [(0, .ref (ad B (35 + j))), (2, .int x2), (3, .int x3)] [] := by
  intro n
  induction n with
  | zero => intro S x2 x3 h; exact h.elim
  | succ n ih =>
    intro S x2 x3 h
    unfold l_Bytes_dropFirst_25 at h
    refine z_iload_n C 2 rfl rfl d_Bytes_dropFirst_25 ?_
    refine z_aload_n C 0 rfl rfl d_Bytes_dropFirst_26 ?_
    obtain ⟨f1, h⟩ := h
    refine gf_Bytes_size C f1 (Or.inl tw_114) d_Bytes_dropFirst_27 ?_
    refine z_icmp_ge (tgt := 53) C d_Bytes_dropFirst_30 rfl (fun c => ?_) (fun c => ?_)
    · have h := h.1 c
      exact z_vreturn C G hr h d_Bytes_dropFirst_53
    · have h := h.2 c
      refine z_aload_n C 0 rfl rfl d_Bytes_dropFirst_33 ?_
      refine gf_Bytes_room C f1 (Or.inl tw_113) d_Bytes_dropFirst_34 ?_
      refine z_iload_n C 2 rfl rfl d_Bytes_dropFirst_37 ?_
      refine z_aload_n C 0 rfl rfl d_Bytes_dropFirst_38 ?_
      refine gf_Bytes_room C f1 (Or.inl tw_113) d_Bytes_dropFirst_39 ?_
      refine z_iload_n C 2 rfl rfl d_Bytes_dropFirst_42 ?_
      refine z_iload_n C 1 rfl rfl d_Bytes_dropFirst_43 ?_
      refine z_iadd C d_Bytes_dropFirst_44 ?_
      obtain ⟨f2, h⟩ := h
      refine al_room C f1 f2 d_Bytes_dropFirst_45 ?_
      obtain ⟨f3, h⟩ := h
      refine as_room C f1 f3 d_Bytes_dropFirst_46 ?_
      refine z_nS (fun S4 eS4 => ?_)
      have h := h S4 eS4
      refine z_iinc (v := x3 + (1 : Int32)) (L' := [(3, .int (x3 + (1 : Int32))), (0, .ref (ad B (35 + j))), (2, .int x2)]) C hnl 2 rfl rfl (by decide) rfl d_Bytes_dropFirst_47 ?_
      refine z_goto (tgt := 25) C d_Bytes_dropFirst_50 rfl ?_
      exact z_sub [1, 2, 0] rfl (ih S4 x2 (x3 + (1 : Int32)) h)
def w_Bytes_dropFirst (j : Nat) (a1 : Int32) (S : zS) (P : zS → Prop) : Prop :=
  j < 32 ∧ ∀ v2 : Int32, v2 = (mxI (0 : Int32) (mnI a1 (gM S 8 j))) → ∀ S3 : zS, S3 = sM S 8 j ((gM S 8 j) - v2) → ∃ n4 : Nat, l_Bytes_dropFirst_25 j a1 P n4 S3 v2 (0 : Int32)
set_option maxRecDepth 20000 in
set_option maxHeartbeats 4000000 in
theorem v_Bytes_dropFirst {E : zE} {B : zK} (C : zC E (wC B) prog_2_method_9_code "HostBench$Bytes" 1 14) (j : Nat) (a1 : Int32) (P : zS → Prop) (G : zGoal E (zQ (wC B) (zPv P)) (wC B)) (hr : zRt E (none)) (hnl : E.2.2.2.2.2.2.2.2.2.2.1 = 4) (S : zS) (h : w_Bytes_dropFirst j a1 S P) : zV E (wC B) S 0 [(0, .ref (ad B (35 + j))), (1, .int a1)] [] := by
  unfold w_Bytes_dropFirst at h
  refine z_iconst (v := (0 : Int32)) C rfl d_Bytes_dropFirst_0 ?_
  refine z_iload_n C 1 rfl rfl d_Bytes_dropFirst_1 ?_
  refine z_aload_n C 0 rfl rfl d_Bytes_dropFirst_2 ?_
  obtain ⟨f1, h⟩ := h
  refine gf_Bytes_size C f1 (Or.inl tw_114) d_Bytes_dropFirst_3 ?_
  refine z_mmin C tw_555 tw_556 tw_78 tw_557 (Nat.le_of_ble_eq_true rfl) (Nat.le_of_ble_eq_true rfl) d_Bytes_dropFirst_6 ?_
  refine z_mmax C tw_110 tw_111 tw_78 tw_112 (Nat.le_of_ble_eq_true rfl) (Nat.le_of_ble_eq_true rfl) d_Bytes_dropFirst_9 ?_
  refine z_topi (fun v2 ev2 => ?_)
  have h := h v2 ev2
  refine z_istore_n (L' := [(2, .int v2), (0, .ref (ad B (35 + j))), (1, .int a1)]) C hnl rfl (by decide) rfl d_Bytes_dropFirst_12 ?_
  refine z_aload_n C 1 rfl rfl d_Bytes_dropFirst_13 ?_
  refine z_dup C rfl d_Bytes_dropFirst_14 ?_
  refine gf_Bytes_size C f1 (Or.inl tw_114) d_Bytes_dropFirst_15 ?_
  refine z_iload_n C 0 rfl rfl d_Bytes_dropFirst_18 ?_
  refine z_isub C d_Bytes_dropFirst_19 ?_
  refine pf_Bytes_size C f1 (Or.inl tw_114) d_Bytes_dropFirst_20 ?_
  refine z_nS (fun S3 eS3 => ?_)
  have h := h S3 eS3
  refine z_iconst (v := (0 : Int32)) C rfl d_Bytes_dropFirst_23 ?_
  refine z_istore_n (L' := [(3, .int (0 : Int32)), (2, .int v2), (0, .ref (ad B (35 + j))), (1, .int a1)]) C hnl rfl (by decide) rfl d_Bytes_dropFirst_24 ?_
  obtain ⟨n4, h⟩ := h
  exact z_sub [2, 1, 0] rfl (vl_Bytes_dropFirst_25 C j a1 P G hr hnl n4 S3 v2 (0 : Int32) h)
theorem c_Bytes_dropFirst (l : Launch) (B : zK) (j : Nat) (a1 : Int32) (S : zS) (P : zS → Prop) (h : w_Bytes_dropFirst j a1 S P) : Met l y_Bytes_dropFirst (Cond.code y_Bytes_dropFirst prog_2_method_9_code 4 none :: tT) (zRm 1 14) (zPc (wC B) [.ref (ad B (35 + j)), .int a1] S) (zQ (wC B) (zPv P)) 0 0 (wC B).2.2.2 :=
  z_met (by decide) (Nat.le_of_ble_eq_true rfl) (fun E C G hr _ hnl => v_Bytes_dropFirst C j a1 P G hr hnl S h)
theorem q_Bytes_dropFirst : zQw y_Bytes_dropFirst prog_2_method_9_code 4 none 1 := ⟨tw_848, tw_849, tw_77, tw_850, by decide +kernel⟩
def l_Bytes_firstZero_2 (j : Nat) (P : zS → Int32 → Prop) : Nat → zS → Int32 → Prop
  | 0, _, _ => False
  | n + 1, S, x1 =>
  j < 32 ∧ ((gM S 8 j) ≤ x1 → (P S (-1 : Int32))) ∧ (¬ (gM S 8 j) ≤ x1 → (vp_in x1 (capB j) ∧ ((gR S j x1.toNatClampNeg) = 0 → (P S x1)) ∧ (¬ (gR S j x1.toNatClampNeg) = 0 → (l_Bytes_firstZero_2 j P n S (x1 + (1 : Int32))))))
set_option maxRecDepth 20000 in
set_option maxHeartbeats 4000000 in
theorem vl_Bytes_firstZero_2 {E : zE} {B : zK} (C : zC E (wC B) prog_2_method_10_code "HostBench$Bytes" 0 0) (j : Nat) (P : zS → Int32 → Prop) (G : zGoal E (zQ (wC B) (zPi P)) (wC B)) (hr : zRt E (some .int)) (hnl : E.2.2.2.2.2.2.2.2.2.2.1 = 2) : ∀ (n : Nat) (S : zS) (x1 : Int32) , l_Bytes_firstZero_2 j P n S x1 → zV E (wC B) S 2 [(0, .ref (ad B (35 + j))), (1, .int x1)] [] := by
  intro n
  induction n with
  | zero => intro S x1 h; exact h.elim
  | succ n ih =>
    intro S x1 h
    unfold l_Bytes_firstZero_2 at h
    refine z_iload_n C 1 rfl rfl d_Bytes_firstZero_2 ?_
    refine z_aload_n C 0 rfl rfl d_Bytes_firstZero_3 ?_
    obtain ⟨f1, h⟩ := h
    refine gf_Bytes_size C f1 (Or.inl tw_114) d_Bytes_firstZero_4 ?_
    refine z_icmp_ge (tgt := 27) C d_Bytes_firstZero_7 rfl (fun c => ?_) (fun c => ?_)
    · have h := h.1 c
      refine z_iconst (v := (-1 : Int32)) C rfl d_Bytes_firstZero_27 ?_
      exact z_ireturn C G hr h d_Bytes_firstZero_28
    · have h := h.2 c
      refine z_aload_n C 0 rfl rfl d_Bytes_firstZero_10 ?_
      refine gf_Bytes_room C f1 (Or.inl tw_113) d_Bytes_firstZero_11 ?_
      refine z_iload_n C 1 rfl rfl d_Bytes_firstZero_14 ?_
      obtain ⟨f2, h⟩ := h
      refine al_room C f1 f2 d_Bytes_firstZero_15 ?_
      refine z_if_ne (tgt := 21) C d_Bytes_firstZero_16 rfl (fun c => ?_) (fun c => ?_)
      · have h := h.2 c
        refine z_iinc (v := x1 + (1 : Int32)) (L' := [(1, .int (x1 + (1 : Int32))), (0, .ref (ad B (35 + j)))]) C hnl 1 rfl rfl (by decide) rfl d_Bytes_firstZero_21 ?_
        refine z_goto (tgt := 2) C d_Bytes_firstZero_24 rfl ?_
        exact z_sub [1, 0] rfl (ih S (x1 + (1 : Int32)) h)
      · have h := h.1 c
        refine z_iload_n C 1 rfl rfl d_Bytes_firstZero_19 ?_
        exact z_ireturn C G hr h d_Bytes_firstZero_20
def w_Bytes_firstZero (j : Nat) (S : zS) (P : zS → Int32 → Prop) : Prop :=
  ∃ n1 : Nat, l_Bytes_firstZero_2 j P n1 S (0 : Int32)
set_option maxRecDepth 20000 in
set_option maxHeartbeats 4000000 in
theorem v_Bytes_firstZero {E : zE} {B : zK} (C : zC E (wC B) prog_2_method_10_code "HostBench$Bytes" 0 0) (j : Nat) (P : zS → Int32 → Prop) (G : zGoal E (zQ (wC B) (zPi P)) (wC B)) (hr : zRt E (some .int)) (hnl : E.2.2.2.2.2.2.2.2.2.2.1 = 2) (S : zS) (h : w_Bytes_firstZero j S P) : zV E (wC B) S 0 [(0, .ref (ad B (35 + j)))] [] := by
  unfold w_Bytes_firstZero at h
  refine z_iconst (v := (0 : Int32)) C rfl d_Bytes_firstZero_0 ?_
  refine z_istore_n (L' := [(1, .int (0 : Int32)), (0, .ref (ad B (35 + j)))]) C hnl rfl (by decide) rfl d_Bytes_firstZero_1 ?_
  obtain ⟨n1, h⟩ := h
  exact z_sub [1, 0] rfl (vl_Bytes_firstZero_2 C j P G hr hnl n1 S (0 : Int32) h)
theorem c_Bytes_firstZero (l : Launch) (B : zK) (j : Nat) (S : zS) (P : zS → Int32 → Prop) (h : w_Bytes_firstZero j S P) : Met l y_Bytes_firstZero (Cond.code y_Bytes_firstZero prog_2_method_10_code 2 (some FieldType.int) :: tT) (zRm 0 0) (zPc (wC B) [.ref (ad B (35 + j))] S) (zQ (wC B) (zPi P)) 0 0 (wC B).2.2.2 :=
  z_met (by decide) (Nat.le_of_ble_eq_true rfl) (fun E C G hr _ hnl => v_Bytes_firstZero C j P G hr hnl S h)
theorem q_Bytes_firstZero : zQw y_Bytes_firstZero prog_2_method_10_code 2 (some FieldType.int) 0 := ⟨tw_532, tw_533, tw_77, tw_534, by decide +kernel⟩
def l_Bytes_same_15 (j : Nat) (a1 : Nat) (P : zS → Int32 → Prop) : Nat → zS → Int32 → Prop
  | 0, _, _ => False
  | n + 1, S, x2 =>
  j < 32 ∧ ((gM S 8 j) ≤ x2 → (P S (1 : Int32))) ∧ (¬ (gM S 8 j) ≤ x2 → (vp_in x2 (capB j) ∧ a1 < 32 ∧ vp_in x2 (capB a1) ∧ ((gR S j x2.toNatClampNeg) = (gR S a1 x2.toNatClampNeg) → (l_Bytes_same_15 j a1 P n S (x2 + (1 : Int32)))) ∧ (¬ (gR S j x2.toNatClampNeg) = (gR S a1 x2.toNatClampNeg) → (P S (0 : Int32)))))
set_option maxRecDepth 20000 in
set_option maxHeartbeats 4000000 in
theorem vl_Bytes_same_15 {E : zE} {B : zK} (C : zC E (wC B) prog_2_method_11_code "HostBench$Bytes" 0 0) (j : Nat) (a1 : Nat) (P : zS → Int32 → Prop) (G : zGoal E (zQ (wC B) (zPi P)) (wC B)) (hr : zRt E (some .boolean)) (hnl : E.2.2.2.2.2.2.2.2.2.2.1 = 3) : ∀ (n : Nat) (S : zS) (x2 : Int32) , l_Bytes_same_15 j a1 P n S x2 → zV E (wC B) S 15 [(0, .ref (ad B (35 + j))), (1, .ref (ad B (35 + a1))), (2, .int x2)] [] := by
  intro n
  induction n with
  | zero => intro S x2 h; exact h.elim
  | succ n ih =>
    intro S x2 h
    unfold l_Bytes_same_15 at h
    refine z_iload_n C 2 rfl rfl d_Bytes_same_15 ?_
    refine z_aload_n C 0 rfl rfl d_Bytes_same_16 ?_
    obtain ⟨f1, h⟩ := h
    refine gf_Bytes_size C f1 (Or.inl tw_114) d_Bytes_same_17 ?_
    refine z_icmp_ge (tgt := 46) C d_Bytes_same_20 rfl (fun c => ?_) (fun c => ?_)
    · have h := h.1 c
      refine z_iconst (v := (1 : Int32)) C rfl d_Bytes_same_46 ?_
      exact z_zreturn C G hr rfl h d_Bytes_same_47
    · have h := h.2 c
      refine z_aload_n C 0 rfl rfl d_Bytes_same_23 ?_
      refine gf_Bytes_room C f1 (Or.inl tw_113) d_Bytes_same_24 ?_
      refine z_iload_n C 2 rfl rfl d_Bytes_same_27 ?_
      obtain ⟨f2, h⟩ := h
      refine al_room C f1 f2 d_Bytes_same_28 ?_
      refine z_aload_n C 1 rfl rfl d_Bytes_same_29 ?_
      obtain ⟨f3, h⟩ := h
      refine gf_Bytes_room C f3 (Or.inl tw_113) d_Bytes_same_30 ?_
      refine z_iload_n C 2 rfl rfl d_Bytes_same_33 ?_
      obtain ⟨f4, h⟩ := h
      refine al_room C f3 f4 d_Bytes_same_34 ?_
      refine z_icmp_eq (tgt := 40) C d_Bytes_same_35 rfl (fun c => ?_) (fun c => ?_)
      · have h := h.1 c
        refine z_iinc (v := x2 + (1 : Int32)) (L' := [(2, .int (x2 + (1 : Int32))), (0, .ref (ad B (35 + j))), (1, .ref (ad B (35 + a1)))]) C hnl 2 rfl rfl (by decide) rfl d_Bytes_same_40 ?_
        refine z_goto (tgt := 15) C d_Bytes_same_43 rfl ?_
        exact z_sub [1, 2, 0] rfl (ih S (x2 + (1 : Int32)) h)
      · have h := h.2 c
        refine z_iconst (v := (0 : Int32)) C rfl d_Bytes_same_38 ?_
        exact z_zreturn C G hr rfl h d_Bytes_same_39
def w_Bytes_same (j : Nat) (a1 : Nat) (S : zS) (P : zS → Int32 → Prop) : Prop :=
  j < 32 ∧ a1 < 32 ∧ ((gM S 8 j) = (gM S 8 a1) → (∃ n3 : Nat, l_Bytes_same_15 j a1 P n3 S (0 : Int32))) ∧ (¬ (gM S 8 j) = (gM S 8 a1) → (P S (0 : Int32)))
set_option maxRecDepth 20000 in
set_option maxHeartbeats 4000000 in
theorem v_Bytes_same {E : zE} {B : zK} (C : zC E (wC B) prog_2_method_11_code "HostBench$Bytes" 0 0) (j : Nat) (a1 : Nat) (P : zS → Int32 → Prop) (G : zGoal E (zQ (wC B) (zPi P)) (wC B)) (hr : zRt E (some .boolean)) (hnl : E.2.2.2.2.2.2.2.2.2.2.1 = 3) (S : zS) (h : w_Bytes_same j a1 S P) : zV E (wC B) S 0 [(0, .ref (ad B (35 + j))), (1, .ref (ad B (35 + a1)))] [] := by
  unfold w_Bytes_same at h
  refine z_aload_n C 0 rfl rfl d_Bytes_same_0 ?_
  obtain ⟨f1, h⟩ := h
  refine gf_Bytes_size C f1 (Or.inl tw_114) d_Bytes_same_1 ?_
  refine z_aload_n C 1 rfl rfl d_Bytes_same_4 ?_
  obtain ⟨f2, h⟩ := h
  refine gf_Bytes_size C f2 (Or.inl tw_114) d_Bytes_same_5 ?_
  refine z_icmp_eq (tgt := 13) C d_Bytes_same_8 rfl (fun c => ?_) (fun c => ?_)
  · have h := h.1 c
    refine z_iconst (v := (0 : Int32)) C rfl d_Bytes_same_13 ?_
    refine z_istore_n (L' := [(2, .int (0 : Int32)), (0, .ref (ad B (35 + j))), (1, .ref (ad B (35 + a1)))]) C hnl rfl (by decide) rfl d_Bytes_same_14 ?_
    obtain ⟨n3, h⟩ := h
    exact z_sub [1, 2, 0] rfl (vl_Bytes_same_15 C j a1 P G hr hnl n3 S (0 : Int32) h)
  · have h := h.2 c
    refine z_iconst (v := (0 : Int32)) C rfl d_Bytes_same_11 ?_
    exact z_zreturn C G hr rfl h d_Bytes_same_12
theorem c_Bytes_same (l : Launch) (B : zK) (j : Nat) (a1 : Nat) (S : zS) (P : zS → Int32 → Prop) (h : w_Bytes_same j a1 S P) : Met l y_Bytes_same (Cond.code y_Bytes_same prog_2_method_11_code 3 (some FieldType.boolean) :: tT) (zRm 0 0) (zPc (wC B) [.ref (ad B (35 + j)), .ref (ad B (35 + a1))] S) (zQ (wC B) (zPi P)) 0 0 (wC B).2.2.2 :=
  z_met (by decide) (Nat.le_of_ble_eq_true rfl) (fun E C G hr _ hnl => v_Bytes_same C j a1 P G hr hnl S h)
theorem q_Bytes_same : zQw y_Bytes_same prog_2_method_11_code 3 (some FieldType.boolean) 1 := ⟨tw_563, tw_564, tw_77, tw_565, by decide +kernel⟩
