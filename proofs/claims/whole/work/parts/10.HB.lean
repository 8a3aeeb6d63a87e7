def l_HB_feed_64 (a1 : Int32) (a2 : Int32) (a3 : Int32) (a4 : Int32) (a5 : Int32) (P : zS → Int32 → Prop) (K54 : zS → Int32 → Prop) : Nat → zS → Int32 → Int32 → Prop
  | 0, _, _, _ => False
  | n + 1, S, x6, x7 =>
  (x7 < 0 → (K54 S (x6 + (1 : Int32)))) ∧ (¬ x7 < 0 → (vp_in x6 5 ∧ 0 < 32 ∧ w_Bytes_add 0 (((gM S 1 x6.toNatClampNeg).toUInt32 >>> (x7.toUInt32 &&& Int32.toUInt32 31)).toInt32) S (fun S3 => l_HB_feed_64 a1 a2 a3 a4 a5 P K54 n S3 x6 (x7 + (-8 : Int32)))))
set_option maxRecDepth 20000 in
set_option maxHeartbeats 4000000 in
theorem vl_HB_feed_64 {E : zE} {B : zK} (C : zC E (wC B) prog_1_method_2_code "HostBench" 1 21) (a1 : Int32) (a2 : Int32) (a3 : Int32) (a4 : Int32) (a5 : Int32) (P : zS → Int32 → Prop) (G : zGoal E (zQ (wC B) (zPi P)) (wC B)) (hr : zRt E (some .int)) (hnl : E.2.2.2.2.2.2.2.2.2.2.1 = 8) (K54 : zS → Int32 → Prop) (hK54 : ∀ (S : zS) (x6 : Int32), K54 S x6 → zV E (wC B) S 54 [(0, .ref (ad B 0)), (6, .int x6)] []) : ∀ (n : Nat) (S : zS) (x6 : Int32) (x7 : Int32) , l_HB_feed_64 a1 a2 a3 a4 a5 P K54 n S x6 x7 → zV E (wC B) S 64 [(0, .ref (ad B 0)), (6, .int x6), (7, .int x7)] [] := by
  intro n
  induction n with
  | zero => intro S x6 x7 h; exact h.elim
  | succ n ih =>
    intro S x6 x7 h
    unfold l_HB_feed_64 at h
    refine z_iload C 2 rfl d_HB_feed_64 ?_
    refine z_if_lt (tgt := 92) C d_HB_feed_66 rfl (fun c => ?_) (fun c => ?_)
    · have h := h.1 c
      refine z_iinc (v := x6 + (1 : Int32)) (L' := [(6, .int (x6 + (1 : Int32))), (0, .ref (ad B 0)), (7, .int x7)]) C hnl 1 rfl rfl (by decide) rfl d_HB_feed_92 ?_
      refine z_goto (tgt := 54) C d_HB_feed_95 rfl ?_
      exact z_sub [1, 0] rfl (hK54 S (x6 + (1 : Int32)) h)
    · have h := h.2 c
      refine z_aload_n C 0 rfl rfl d_HB_feed_69 ?_
      refine gf_HB_tape C (Or.inl tw_329) d_HB_feed_70 ?_
      refine z_aload_n C 0 rfl rfl d_HB_feed_73 ?_
      refine gf_HB_fed C (Or.inl tw_331) d_HB_feed_74 ?_
      refine z_iload C 1 rfl d_HB_feed_77 ?_
      obtain ⟨f1, h⟩ := h
      refine al_fed C f1 d_HB_feed_79 ?_
      refine z_iload C 2 rfl d_HB_feed_80 ?_
      refine z_iushr C d_HB_feed_82 ?_
      obtain ⟨f2, h⟩ := h
      refine z_callVv (rest := []) C q_Bytes_add tw_362 (c_Bytes_add _ B 0 (((gM S 1 x6.toNatClampNeg).toUInt32 >>> (x7.toUInt32 &&& Int32.toUInt32 31)).toInt32) S _ h) (rc_Bytes f2) ⟨Nat.le_of_ble_eq_true rfl, Nat.le_of_ble_eq_true rfl⟩ rfl rfl (Nat.le_of_ble_eq_true rfl) d_HB_feed_83 (fun S3 h => ?_)
      refine z_iinc (v := x7 + (-8 : Int32)) (L' := [(7, .int (x7 + (-8 : Int32))), (0, .ref (ad B 0)), (6, .int x6)]) C hnl 2 rfl (congrArg (fun z => x7 + z) (by decide : Int32.ofInt (-8) = (-8 : Int32))) (by decide) rfl d_HB_feed_86 ?_
      refine z_goto (tgt := 64) C d_HB_feed_89 rfl ?_
      exact z_sub [1, 2, 0] rfl (ih S3 x6 (x7 + (-8 : Int32)) h)
def l_HB_feed_54 (a1 : Int32) (a2 : Int32) (a3 : Int32) (a4 : Int32) (a5 : Int32) (P : zS → Int32 → Prop) : Nat → zS → Int32 → Prop
  | 0, _, _ => False
  | n + 1, S, x6 =>
  ((5 : Int32) ≤ x6 → (0 < 32 ∧ w_Bytes_size 0 S (fun S2 r3 => P S2 r3))) ∧ (¬ (5 : Int32) ≤ x6 → (∃ n4 : Nat, l_HB_feed_64 a1 a2 a3 a4 a5 P (fun S x6 => l_HB_feed_54 a1 a2 a3 a4 a5 P n S x6) n4 S x6 (24 : Int32)))
set_option maxRecDepth 20000 in
set_option maxHeartbeats 4000000 in
theorem vl_HB_feed_54 {E : zE} {B : zK} (C : zC E (wC B) prog_1_method_2_code "HostBench" 1 21) (a1 : Int32) (a2 : Int32) (a3 : Int32) (a4 : Int32) (a5 : Int32) (P : zS → Int32 → Prop) (G : zGoal E (zQ (wC B) (zPi P)) (wC B)) (hr : zRt E (some .int)) (hnl : E.2.2.2.2.2.2.2.2.2.2.1 = 8) : ∀ (n : Nat) (S : zS) (x6 : Int32) , l_HB_feed_54 a1 a2 a3 a4 a5 P n S x6 → zV E (wC B) S 54 [(0, .ref (ad B 0)), (6, .int x6)] [] := by
  intro n
  induction n with
  | zero => intro S x6 h; exact h.elim
  | succ n ih =>
    intro S x6 h
    unfold l_HB_feed_54 at h
    refine z_iload C 1 rfl d_HB_feed_54 ?_
    refine z_iconst (v := (5 : Int32)) C rfl d_HB_feed_56 ?_
    refine z_icmp_ge (tgt := 98) C d_HB_feed_57 rfl (fun c => ?_) (fun c => ?_)
    · have h := h.1 c
      refine z_aload_n C 0 rfl rfl d_HB_feed_98 ?_
      refine gf_HB_tape C (Or.inl tw_329) d_HB_feed_99 ?_
      obtain ⟨f1, h⟩ := h
      refine z_callVi (rest := []) C q_Bytes_size tw_366 (c_Bytes_size _ B 0 S _ h) (rc_Bytes f1) ⟨Nat.le_of_ble_eq_true rfl, Nat.le_of_ble_eq_true rfl⟩ rfl rfl (Nat.le_of_ble_eq_true rfl) d_HB_feed_102 (fun S2 r3 h => ?_)
      exact z_ireturn C G hr h d_HB_feed_105
    · have h := h.2 c
      refine z_bipush (v := (24 : Int32)) C rfl d_HB_feed_60 ?_
      refine z_istore (L' := [(7, .int (24 : Int32)), (0, .ref (ad B 0)), (6, .int x6)]) C hnl (by decide) rfl d_HB_feed_62 ?_
      obtain ⟨n4, h⟩ := h
      exact z_sub [1, 2, 0] rfl (vl_HB_feed_64 C a1 a2 a3 a4 a5 P G hr hnl (fun S x6 => l_HB_feed_54 a1 a2 a3 a4 a5 P n S x6) ih n4 S x6 (24 : Int32) h)
def w_HB_feed (a1 : Int32) (a2 : Int32) (a3 : Int32) (a4 : Int32) (a5 : Int32) (S : zS) (P : zS → Int32 → Prop) : Prop :=
  0 < 32 ∧ w_Bytes_spare 0 S (fun S2 r3 => ((20 : Int32) ≤ r3 → (vp_in (0 : Int32) 5 ∧ ∀ S5 : zS, S5 = sM S2 1 (0 : Int32).toNatClampNeg a1 → vp_in (1 : Int32) 5 ∧ ∀ S7 : zS, S7 = sM S5 1 (1 : Int32).toNatClampNeg a2 → vp_in (2 : Int32) 5 ∧ ∀ S9 : zS, S9 = sM S7 1 (2 : Int32).toNatClampNeg a3 → vp_in (3 : Int32) 5 ∧ ∀ S11 : zS, S11 = sM S9 1 (3 : Int32).toNatClampNeg a4 → vp_in (4 : Int32) 5 ∧ ∀ S13 : zS, S13 = sM S11 1 (4 : Int32).toNatClampNeg a5 → ∃ n14 : Nat, l_HB_feed_54 a1 a2 a3 a4 a5 P n14 S13 (0 : Int32))) ∧ (¬ (20 : Int32) ≤ r3 → (P S2 (-1 : Int32))))
set_option maxRecDepth 20000 in
set_option maxHeartbeats 4000000 in
theorem v_HB_feed {E : zE} {B : zK} (C : zC E (wC B) prog_1_method_2_code "HostBench" 1 21) (a1 : Int32) (a2 : Int32) (a3 : Int32) (a4 : Int32) (a5 : Int32) (P : zS → Int32 → Prop) (G : zGoal E (zQ (wC B) (zPi P)) (wC B)) (hr : zRt E (some .int)) (hnl : E.2.2.2.2.2.2.2.2.2.2.1 = 8) (S : zS) (h : w_HB_feed a1 a2 a3 a4 a5 S P) : zV E (wC B) S 0 [(0, .ref (ad B 0)), (1, .int a1), (2, .int a2), (3, .int a3), (4, .int a4), (5, .int a5)] [] := by
  unfold w_HB_feed at h
  refine z_aload_n C 0 rfl rfl d_HB_feed_0 ?_
  refine gf_HB_tape C (Or.inl tw_329) d_HB_feed_1 ?_
  obtain ⟨f1, h⟩ := h
  refine z_callVi (rest := []) C q_Bytes_spare tw_358 (c_Bytes_spare _ B 0 S _ h) (rc_Bytes f1) ⟨Nat.le_of_ble_eq_true rfl, Nat.le_of_ble_eq_true rfl⟩ rfl rfl (Nat.le_of_ble_eq_true rfl) d_HB_feed_4 (fun S2 r3 h => ?_)
  refine z_bipush (v := (20 : Int32)) C rfl d_HB_feed_7 ?_
  refine z_icmp_ge (tgt := 14) C d_HB_feed_9 rfl (fun c => ?_) (fun c => ?_)
  · have h := h.1 c
    refine z_aload_n C 0 rfl rfl d_HB_feed_14 ?_
    refine gf_HB_fed C (Or.inl tw_331) d_HB_feed_15 ?_
    refine z_iconst (v := (0 : Int32)) C rfl d_HB_feed_18 ?_
    refine z_iload_n C 1 rfl rfl d_HB_feed_19 ?_
    obtain ⟨f4, h⟩ := h
    refine as_fed C f4 d_HB_feed_20 ?_
    refine z_nS (fun S5 eS5 => ?_)
    have h := h S5 eS5
    refine z_aload_n C 0 rfl rfl d_HB_feed_21 ?_
    refine gf_HB_fed C (Or.inl tw_331) d_HB_feed_22 ?_
    refine z_iconst (v := (1 : Int32)) C rfl d_HB_feed_25 ?_
    refine z_iload_n C 2 rfl rfl d_HB_feed_26 ?_
    obtain ⟨f6, h⟩ := h
    refine as_fed C f6 d_HB_feed_27 ?_
    refine z_nS (fun S7 eS7 => ?_)
    have h := h S7 eS7
    refine z_aload_n C 0 rfl rfl d_HB_feed_28 ?_
    refine gf_HB_fed C (Or.inl tw_331) d_HB_feed_29 ?_
    refine z_iconst (v := (2 : Int32)) C rfl d_HB_feed_32 ?_
    refine z_iload_n C 3 rfl rfl d_HB_feed_33 ?_
    obtain ⟨f8, h⟩ := h
    refine as_fed C f8 d_HB_feed_34 ?_
    refine z_nS (fun S9 eS9 => ?_)
    have h := h S9 eS9
    refine z_aload_n C 0 rfl rfl d_HB_feed_35 ?_
    refine gf_HB_fed C (Or.inl tw_331) d_HB_feed_36 ?_
    refine z_iconst (v := (3 : Int32)) C rfl d_HB_feed_39 ?_
    refine z_iload C 4 rfl d_HB_feed_40 ?_
    obtain ⟨f10, h⟩ := h
    refine as_fed C f10 d_HB_feed_42 ?_
    refine z_nS (fun S11 eS11 => ?_)
    have h := h S11 eS11
    refine z_aload_n C 0 rfl rfl d_HB_feed_43 ?_
    refine gf_HB_fed C (Or.inl tw_331) d_HB_feed_44 ?_
    refine z_iconst (v := (4 : Int32)) C rfl d_HB_feed_47 ?_
    refine z_iload C 5 rfl d_HB_feed_48 ?_
    obtain ⟨f12, h⟩ := h
    refine as_fed C f12 d_HB_feed_50 ?_
    refine z_nS (fun S13 eS13 => ?_)
    have h := h S13 eS13
    refine z_iconst (v := (0 : Int32)) C rfl d_HB_feed_51 ?_
    refine z_istore (L' := [(6, .int (0 : Int32)), (0, .ref (ad B 0)), (1, .int a1), (2, .int a2), (3, .int a3), (4, .int a4), (5, .int a5)]) C hnl (by decide) rfl d_HB_feed_52 ?_
    obtain ⟨n14, h⟩ := h
    exact z_sub [1, 0] rfl (vl_HB_feed_54 C a1 a2 a3 a4 a5 P G hr hnl n14 S13 (0 : Int32) h)
  · have h := h.2 c
    refine z_iconst (v := (-1 : Int32)) C rfl d_HB_feed_12 ?_
    exact z_ireturn C G hr h d_HB_feed_13
theorem c_HB_feed (l : Launch) (B : zK) (a1 : Int32) (a2 : Int32) (a3 : Int32) (a4 : Int32) (a5 : Int32) (S : zS) (P : zS → Int32 → Prop) (h : w_HB_feed a1 a2 a3 a4 a5 S P) : Met l y_HB_feed (Cond.code y_HB_feed prog_1_method_2_code 8 (some FieldType.int) :: tT) (zRm 1 21) (zPc (wC B) [.ref (ad B 0), .int a1, .int a2, .int a3, .int a4, .int a5] S) (zQ (wC B) (zPi P)) 0 0 (wC B).2.2.2 :=
  z_met (by decide) (Nat.le_of_ble_eq_true rfl) (fun E C G hr _ hnl => v_HB_feed C a1 a2 a3 a4 a5 P G hr hnl S h)
theorem q_HB_feed : zQw y_HB_feed prog_1_method_2_code 8 (some FieldType.int) 5 := ⟨tw_355, tw_356, tw_76, tw_357, by decide +kernel⟩
def w_HB_end (a1 : Int32) (S : zS) (P : zS → Int32 → Prop) : Prop :=
  (a1 < 0 → (P S (0 : Int32))) ∧ (¬ a1 < 0 → (0 < 32 ∧ w_Bytes_size 0 S (fun S2 r3 => (a1 ≤ r3 → (w_Bytes_cut 0 a1 S2 (fun S4 => P S4 (1 : Int32)))) ∧ (¬ a1 ≤ r3 → (P S2 (0 : Int32))))))
set_option maxRecDepth 20000 in
set_option maxHeartbeats 4000000 in
theorem v_HB_end {E : zE} {B : zK} (C : zC E (wC B) prog_1_method_3_code "HostBench" 1 21) (a1 : Int32) (P : zS → Int32 → Prop) (G : zGoal E (zQ (wC B) (zPi P)) (wC B)) (hr : zRt E (some .boolean)) (hnl : E.2.2.2.2.2.2.2.2.2.2.1 = 2) (S : zS) (h : w_HB_end a1 S P) : zV E (wC B) S 0 [(0, .ref (ad B 0)), (1, .int a1)] [] := by
  unfold w_HB_end at h
  refine z_iload_n C 1 rfl rfl d_HB_end_0 ?_
  refine z_if_lt (tgt := 15) C d_HB_end_1 rfl (fun c => ?_) (fun c => ?_)
  · have h := h.1 c
    refine z_iconst (v := (0 : Int32)) C rfl d_HB_end_15 ?_
    exact z_zreturn C G hr rfl h d_HB_end_16
  · have h := h.2 c
    refine z_iload_n C 1 rfl rfl d_HB_end_4 ?_
    refine z_aload_n C 0 rfl rfl d_HB_end_5 ?_
    refine gf_HB_tape C (Or.inl tw_329) d_HB_end_6 ?_
    obtain ⟨f1, h⟩ := h
    refine z_callVi (rest := [.int a1]) C q_Bytes_size tw_366 (c_Bytes_size _ B 0 S _ h) (rc_Bytes f1) ⟨Nat.le_of_ble_eq_true rfl, Nat.le_of_ble_eq_true rfl⟩ rfl rfl (Nat.le_of_ble_eq_true rfl) d_HB_end_9 (fun S2 r3 h => ?_)
    refine z_icmp_le (tgt := 17) C d_HB_end_12 rfl (fun c => ?_) (fun c => ?_)
    · have h := h.1 c
      refine z_aload_n C 0 rfl rfl d_HB_end_17 ?_
      refine gf_HB_tape C (Or.inl tw_329) d_HB_end_18 ?_
      refine z_iload_n C 1 rfl rfl d_HB_end_21 ?_
      refine z_callVv (rest := []) C q_Bytes_cut tw_374 (c_Bytes_cut _ B 0 a1 S2 _ h) (rc_Bytes f1) ⟨Nat.le_of_ble_eq_true rfl, Nat.le_of_ble_eq_true rfl⟩ rfl rfl (Nat.le_of_ble_eq_true rfl) d_HB_end_22 (fun S4 h => ?_)
      refine z_iconst (v := (1 : Int32)) C rfl d_HB_end_25 ?_
      exact z_zreturn C G hr rfl h d_HB_end_26
    · have h := h.2 c
      refine z_iconst (v := (0 : Int32)) C rfl d_HB_end_15 ?_
      exact z_zreturn C G hr rfl h d_HB_end_16
theorem c_HB_end (l : Launch) (B : zK) (a1 : Int32) (S : zS) (P : zS → Int32 → Prop) (h : w_HB_end a1 S P) : Met l y_HB_end (Cond.code y_HB_end prog_1_method_3_code 2 (some FieldType.boolean) :: tT) (zRm 1 21) (zPc (wC B) [.ref (ad B 0), .int a1] S) (zQ (wC B) (zPi P)) 0 0 (wC B).2.2.2 :=
  z_met (by decide) (Nat.le_of_ble_eq_true rfl) (fun E C G hr _ hnl => v_HB_end C a1 P G hr hnl S h)
theorem q_HB_end : zQw y_HB_end prog_1_method_3_code 2 (some FieldType.boolean) 1 := ⟨tw_371, tw_372, tw_76, tw_373, by decide +kernel⟩
def w_HB_clock (a1 : Int32) (S : zS) (P : zS → Prop) : Prop :=
  ∀ S1 : zS, S1 = sM S 0 7 a1 → P S1
set_option maxRecDepth 20000 in
set_option maxHeartbeats 4000000 in
theorem v_HB_clock {E : zE} {B : zK} (C : zC E (wC B) prog_1_method_8_code "HostBench" 0 0) (a1 : Int32) (P : zS → Prop) (G : zGoal E (zQ (wC B) (zPv P)) (wC B)) (hr : zRt E (none)) (hnl : E.2.2.2.2.2.2.2.2.2.2.1 = 2) (S : zS) (h : w_HB_clock a1 S P) : zV E (wC B) S 0 [(0, .ref (ad B 0)), (1, .int a1)] [] := by
  unfold w_HB_clock at h
  refine z_aload_n C 0 rfl rfl d_HB_clock_0 ?_
  refine gf_HB_host C (Or.inl tw_332) d_HB_clock_1 ?_
  refine z_iload_n C 1 rfl rfl d_HB_clock_4 ?_
  refine pf_Host_seconds C (Or.inr (List.mem_of_getElem? (i := 35) rfl)) d_HB_clock_5 ?_
  refine z_nS (fun S1 eS1 => ?_)
  have h := h S1 eS1
  exact z_vreturn C G hr h d_HB_clock_8
theorem c_HB_clock (l : Launch) (B : zK) (a1 : Int32) (S : zS) (P : zS → Prop) (h : w_HB_clock a1 S P) : Met l y_HB_clock (Cond.code y_HB_clock prog_1_method_8_code 2 none :: tT) (zRm 0 0) (zPc (wC B) [.ref (ad B 0), .int a1] S) (zQ (wC B) (zPv P)) 0 0 (wC B).2.2.2 :=
  z_met (by decide) (Nat.le_of_ble_eq_true rfl) (fun E C G hr _ hnl => v_HB_clock C a1 P G hr hnl S h)
theorem q_HB_clock : zQw y_HB_clock prog_1_method_8_code 2 none 1 := ⟨tw_379, tw_380, tw_76, tw_381, by decide +kernel⟩
def w_HB_begin (S : zS) (P : zS → Prop) : Prop :=
  w_Guest_restart S (fun S1 => P S1)
set_option maxRecDepth 20000 in
set_option maxHeartbeats 4000000 in
theorem v_HB_begin {E : zE} {B : zK} (C : zC E (wC B) prog_1_method_9_code "HostBench" 1 21) (P : zS → Prop) (G : zGoal E (zQ (wC B) (zPv P)) (wC B)) (hr : zRt E (none)) (hnl : E.2.2.2.2.2.2.2.2.2.2.1 = 1) (S : zS) (h : w_HB_begin S P) : zV E (wC B) S 0 [(0, .ref (ad B 0))] [] := by
  unfold w_HB_begin at h
  refine z_aload_n C 0 rfl rfl d_HB_begin_0 ?_
  refine gf_HB_guest C (Or.inl tw_335) d_HB_begin_1 ?_
  refine z_callVv (rest := []) C q_Guest_restart tw_386 (c_Guest_restart _ B S _ h) rc_Guest ⟨Nat.le_of_ble_eq_true rfl, Nat.le_of_ble_eq_true rfl⟩ rfl rfl (Nat.le_of_ble_eq_true rfl) d_HB_begin_4 (fun S1 h => ?_)
  exact z_vreturn C G hr h d_HB_begin_7
theorem c_HB_begin (l : Launch) (B : zK) (S : zS) (P : zS → Prop) (h : w_HB_begin S P) : Met l y_HB_begin (Cond.code y_HB_begin prog_1_method_9_code 1 none :: tT) (zRm 1 21) (zPc (wC B) [.ref (ad B 0)] S) (zQ (wC B) (zPv P)) 0 0 (wC B).2.2.2 :=
  z_met (by decide) (Nat.le_of_ble_eq_true rfl) (fun E C G hr _ hnl => v_HB_begin C P G hr hnl S h)
theorem q_HB_begin : zQw y_HB_begin prog_1_method_9_code 1 none 0 := ⟨tw_383, tw_384, tw_76, tw_385, by decide +kernel⟩
def w_HB_state (S : zS) (P : zS → Int32 → Prop) : Prop :=
  P S (gM S 0 2)
set_option maxRecDepth 20000 in
set_option maxHeartbeats 4000000 in
theorem v_HB_state {E : zE} {B : zK} (C : zC E (wC B) prog_1_method_11_code "HostBench" 0 0) (P : zS → Int32 → Prop) (G : zGoal E (zQ (wC B) (zPi P)) (wC B)) (hr : zRt E (some .int)) (hnl : E.2.2.2.2.2.2.2.2.2.2.1 = 1) (S : zS) (h : w_HB_state S P) : zV E (wC B) S 0 [(0, .ref (ad B 0))] [] := by
  unfold w_HB_state at h
  refine z_aload_n C 0 rfl rfl d_HB_state_0 ?_
  refine gf_HB_guest C (Or.inl tw_335) d_HB_state_1 ?_
  refine gf_Guest_state C (Or.inr (List.mem_of_getElem? (i := 4) rfl)) d_HB_state_4 ?_
  exact z_ireturn C G hr h d_HB_state_7
theorem c_HB_state (l : Launch) (B : zK) (S : zS) (P : zS → Int32 → Prop) (h : w_HB_state S P) : Met l y_HB_state (Cond.code y_HB_state prog_1_method_11_code 1 (some FieldType.int) :: tT) (zRm 0 0) (zPc (wC B) [.ref (ad B 0)] S) (zQ (wC B) (zPi P)) 0 0 (wC B).2.2.2 :=
  z_met (by decide) (Nat.le_of_ble_eq_true rfl) (fun E C G hr _ hnl => v_HB_state C P G hr hnl S h)
theorem q_HB_state : zQw y_HB_state prog_1_method_11_code 1 (some FieldType.int) 0 := ⟨tw_391, tw_392, tw_76, tw_393, by decide +kernel⟩
def w_HB_set (a1 : Int32) (a2 : Int32) (S : zS) (P : zS → Int32 → Prop) : Prop :=
  (a1 < (1 : Int32) → (P S (0 : Int32))) ∧ (¬ a1 < (1 : Int32) → ((a1 ≤ (32 : Int32) → ((a1 = (32 : Int32) → (∀ S2 : zS, S2 = sM S 0 0 a2 → P S2 (1 : Int32))) ∧ (¬ a1 = (32 : Int32) → (w_Guest_assign a1 a2 S (fun S1 => P S1 (1 : Int32)))))) ∧ (¬ a1 ≤ (32 : Int32) → (P S (0 : Int32)))))
set_option maxRecDepth 20000 in
set_option maxHeartbeats 4000000 in
theorem v_HB_set {E : zE} {B : zK} (C : zC E (wC B) prog_1_method_14_code "HostBench" 1 22) (a1 : Int32) (a2 : Int32) (P : zS → Int32 → Prop) (G : zGoal E (zQ (wC B) (zPi P)) (wC B)) (hr : zRt E (some .boolean)) (hnl : E.2.2.2.2.2.2.2.2.2.2.1 = 3) (S : zS) (h : w_HB_set a1 a2 S P) : zV E (wC B) S 0 [(0, .ref (ad B 0)), (1, .int a1), (2, .int a2)] [] := by
  unfold w_HB_set at h
  refine z_iload_n C 1 rfl rfl d_HB_set_0 ?_
  refine z_iconst (v := (1 : Int32)) C rfl d_HB_set_1 ?_
  refine z_icmp_lt (tgt := 11) C d_HB_set_2 rfl (fun c => ?_) (fun c => ?_)
  · have h := h.1 c
    refine z_iconst (v := (0 : Int32)) C rfl d_HB_set_11 ?_
    exact z_zreturn C G hr rfl h d_HB_set_12
  · have h := h.2 c
    refine z_iload_n C 1 rfl rfl d_HB_set_5 ?_
    refine z_bipush (v := (32 : Int32)) C rfl d_HB_set_6 ?_
    refine z_icmp_le (tgt := 13) C d_HB_set_8 rfl (fun c => ?_) (fun c => ?_)
    · have h := h.1 c
      refine z_iload_n C 1 rfl rfl d_HB_set_13 ?_
      refine z_bipush (v := (32 : Int32)) C rfl d_HB_set_14 ?_
      refine z_icmp_ne (tgt := 30) C d_HB_set_16 rfl (fun c => ?_) (fun c => ?_)
      · have h := h.2 c
        refine z_aload_n C 0 rfl rfl d_HB_set_30 ?_
        refine gf_HB_guest C (Or.inl tw_335) d_HB_set_31 ?_
        refine z_iload_n C 1 rfl rfl d_HB_set_34 ?_
        refine z_iload_n C 2 rfl rfl d_HB_set_35 ?_
        refine z_callVv (rest := []) C q_Guest_assign tw_398 (c_Guest_assign _ B a1 a2 S _ h) rc_Guest ⟨Nat.le_of_ble_eq_true rfl, Nat.le_of_ble_eq_true rfl⟩ rfl rfl (Nat.le_of_ble_eq_true rfl) d_HB_set_36 (fun S1 h => ?_)
        refine z_iconst (v := (1 : Int32)) C rfl d_HB_set_39 ?_
        exact z_zreturn C G hr rfl h d_HB_set_40
      · have h := h.1 c
        refine z_aload_n C 0 rfl rfl d_HB_set_19 ?_
        refine gf_HB_guest C (Or.inl tw_335) d_HB_set_20 ?_
        refine z_iload_n C 2 rfl rfl d_HB_set_23 ?_
        refine pf_Guest_pc C (Or.inr (List.mem_of_getElem? (i := 2) rfl)) d_HB_set_24 ?_
        refine z_nS (fun S2 eS2 => ?_)
        have h := h S2 eS2
        refine z_goto (tgt := 39) C d_HB_set_27 rfl ?_
        refine z_iconst (v := (1 : Int32)) C rfl d_HB_set_39 ?_
        exact z_zreturn C G hr rfl h d_HB_set_40
    · have h := h.2 c
      refine z_iconst (v := (0 : Int32)) C rfl d_HB_set_11 ?_
      exact z_zreturn C G hr rfl h d_HB_set_12
theorem c_HB_set (l : Launch) (B : zK) (a1 : Int32) (a2 : Int32) (S : zS) (P : zS → Int32 → Prop) (h : w_HB_set a1 a2 S P) : Met l y_HB_set (Cond.code y_HB_set prog_1_method_14_code 3 (some FieldType.boolean) :: tT) (zRm 1 22) (zPc (wC B) [.ref (ad B 0), .int a1, .int a2] S) (zQ (wC B) (zPi P)) 0 0 (wC B).2.2.2 :=
  z_met (by decide) (Nat.le_of_ble_eq_true rfl) (fun E C G hr _ hnl => v_HB_set C a1 a2 P G hr hnl S h)
theorem q_HB_set : zQw y_HB_set prog_1_method_14_code 3 (some FieldType.boolean) 2 := ⟨tw_395, tw_396, tw_76, tw_397, by decide +kernel⟩
def w_HB_peek (a1 : Int32) (S : zS) (P : zS → Int32 → Prop) : Prop :=
  w_Memory_byteAt a1 S (fun S1 r2 => P S1 r2)
set_option maxRecDepth 20000 in
set_option maxHeartbeats 4000000 in
theorem v_HB_peek {E : zE} {B : zK} (C : zC E (wC B) prog_1_method_15_code "HostBench" 1 21) (a1 : Int32) (P : zS → Int32 → Prop) (G : zGoal E (zQ (wC B) (zPi P)) (wC B)) (hr : zRt E (some .int)) (hnl : E.2.2.2.2.2.2.2.2.2.2.1 = 2) (S : zS) (h : w_HB_peek a1 S P) : zV E (wC B) S 0 [(0, .ref (ad B 0)), (1, .int a1)] [] := by
  unfold w_HB_peek at h
  refine z_aload_n C 0 rfl rfl d_HB_peek_0 ?_
  refine gf_HB_memory C (Or.inl tw_336) d_HB_peek_1 ?_
  refine z_iload_n C 1 rfl rfl d_HB_peek_4 ?_
  refine z_callVi (rest := []) C q_Memory_byteAt tw_406 (c_Memory_byteAt _ B a1 S _ h) rc_Memory ⟨Nat.le_of_ble_eq_true rfl, Nat.le_of_ble_eq_true rfl⟩ rfl rfl (Nat.le_of_ble_eq_true rfl) d_HB_peek_5 (fun S1 r2 h => ?_)
  exact z_ireturn C G hr h d_HB_peek_8
theorem c_HB_peek (l : Launch) (B : zK) (a1 : Int32) (S : zS) (P : zS → Int32 → Prop) (h : w_HB_peek a1 S P) : Met l y_HB_peek (Cond.code y_HB_peek prog_1_method_15_code 2 (some FieldType.int) :: tT) (zRm 1 21) (zPc (wC B) [.ref (ad B 0), .int a1] S) (zQ (wC B) (zPi P)) 0 0 (wC B).2.2.2 :=
  z_met (by decide) (Nat.le_of_ble_eq_true rfl) (fun E C G hr _ hnl => v_HB_peek C a1 P G hr hnl S h)
theorem q_HB_peek : zQw y_HB_peek prog_1_method_15_code 2 (some FieldType.int) 1 := ⟨tw_403, tw_404, tw_76, tw_405, by decide +kernel⟩
def w_HB_files (S : zS) (P : zS → Int32 → Prop) : Prop :=
  P S (gM S 0 10)
set_option maxRecDepth 20000 in
set_option maxHeartbeats 4000000 in
theorem v_HB_files {E : zE} {B : zK} (C : zC E (wC B) prog_1_method_16_code "HostBench" 0 0) (P : zS → Int32 → Prop) (G : zGoal E (zQ (wC B) (zPi P)) (wC B)) (hr : zRt E (some .int)) (hnl : E.2.2.2.2.2.2.2.2.2.2.1 = 1) (S : zS) (h : w_HB_files S P) : zV E (wC B) S 0 [(0, .ref (ad B 0))] [] := by
  unfold w_HB_files at h
  refine z_aload_n C 0 rfl rfl d_HB_files_0 ?_
  refine gf_HB_folder C (Or.inl tw_333) d_HB_files_1 ?_
  refine gf_Folder_count C (Or.inr (List.mem_of_getElem? (i := 15) rfl)) d_HB_files_4 ?_
  exact z_ireturn C G hr h d_HB_files_7
theorem c_HB_files (l : Launch) (B : zK) (S : zS) (P : zS → Int32 → Prop) (h : w_HB_files S P) : Met l y_HB_files (Cond.code y_HB_files prog_1_method_16_code 1 (some FieldType.int) :: tT) (zRm 0 0) (zPc (wC B) [.ref (ad B 0)] S) (zQ (wC B) (zPi P)) 0 0 (wC B).2.2.2 :=
  z_met (by decide) (Nat.le_of_ble_eq_true rfl) (fun E C G hr _ hnl => v_HB_files C P G hr hnl S h)
theorem q_HB_files : zQw y_HB_files prog_1_method_16_code 1 (some FieldType.int) 0 := ⟨tw_411, tw_412, tw_76, tw_413, by decide +kernel⟩
def w_HB_fileByte (a1 : Int32) (a2 : Int32) (a3 : Int32) (S : zS) (P : zS → Int32 → Prop) : Prop :=
  w_Folder_get a1 S (fun S1 o2 => (o2 = none → (P S1 (-1 : Int32))) ∧ (∀ k3 : Nat, o2 = some k3 → ((a3 = 0 → (k3 < 12 ∧ (3 + 2 * k3) < 32 ∧ w_Bytes_at (3 + 2 * k3) a2 S1 (fun S6 r7 => P S6 r7))) ∧ (¬ a3 = 0 → (k3 < 12 ∧ (2 + 2 * k3) < 32 ∧ w_Bytes_at (2 + 2 * k3) a2 S1 (fun S10 r11 => P S10 r11))))))
set_option maxRecDepth 20000 in
set_option maxHeartbeats 4000000 in
theorem v_HB_fileByte {E : zE} {B : zK} (C : zC E (wC B) prog_1_method_18_code "HostBench" 1 21) (a1 : Int32) (a2 : Int32) (a3 : Int32) (P : zS → Int32 → Prop) (G : zGoal E (zQ (wC B) (zPi P)) (wC B)) (hr : zRt E (some .int)) (hnl : E.2.2.2.2.2.2.2.2.2.2.1 = 5) (S : zS) (h : w_HB_fileByte a1 a2 a3 S P) : zV E (wC B) S 0 [(0, .ref (ad B 0)), (1, .int a1), (2, .int a2), (3, .int a3)] [] := by
  unfold w_HB_fileByte at h
  refine z_aload_n C 0 rfl rfl d_HB_fileByte_0 ?_
  refine gf_HB_folder C (Or.inl tw_333) d_HB_fileByte_1 ?_
  refine z_iload_n C 1 rfl rfl d_HB_fileByte_4 ?_
  refine z_callVq (rest := []) C q_Folder_get tw_418 (c_Folder_get _ B a1 S _ h) rc_Folder ⟨Nat.le_of_ble_eq_true rfl, Nat.le_of_ble_eq_true rfl⟩ rfl rfl (Nat.le_of_ble_eq_true rfl) d_HB_fileByte_5 (fun S1 o2 h => ?_)
  refine z_astoreq (x := (o2).map (fun k => ad B (13 + k))) (L' := [(4, va_rf ((o2).map (fun k => ad B (13 + k)))), (0, .ref (ad B 0)), (1, .int a1), (2, .int a2), (3, .int a3)]) C hnl (by decide) rfl d_HB_fileByte_8 ?_
  refine z_aloadq (x := (o2).map (fun k => ad B (13 + k))) C 0 rfl d_HB_fileByte_10 ?_
  cases o2 with
  | none =>
    have h := h.1 rfl
    show zV E (wC B) S1 12 [(4, .null), (0, .ref (ad B 0)), (1, .int a1), (2, .int a2), (3, .int a3)] [.null]
    refine z_ifnonnullN (tgt := 17) C d_HB_fileByte_12 rfl ?_
    refine z_iconst (v := (-1 : Int32)) C rfl d_HB_fileByte_15 ?_
    exact z_ireturn C G hr h d_HB_fileByte_16
  | some k3 =>
    have h := h.2 k3 rfl
    show zV E (wC B) S1 12 [(4, .ref (ad B (13 + k3))), (0, .ref (ad B 0)), (1, .int a1), (2, .int a2), (3, .int a3)] [.ref (ad B (13 + k3))]
    refine z_ifnonnull (tgt := 17) C d_HB_fileByte_12 rfl ?_
    refine z_iload_n C 4 rfl rfl d_HB_fileByte_17 ?_
    refine z_if_eq (tgt := 33) C d_HB_fileByte_18 rfl (fun c => ?_) (fun c => ?_)
    · have h := h.1 c
      refine z_aload C 0 rfl d_HB_fileByte_33 ?_
      obtain ⟨f4, h⟩ := h
      refine gf_HostFile_content C f4 (Or.inr (List.mem_of_getElem? (i := 13) rfl)) d_HB_fileByte_35 ?_
      refine z_iload_n C 3 rfl rfl d_HB_fileByte_38 ?_
      obtain ⟨f5, h⟩ := h
      refine z_callVi (rest := []) C q_Bytes_at tw_422 (c_Bytes_at _ B (3 + 2 * k3) a2 S1 _ h) (rc_Bytes f5) ⟨Nat.le_of_ble_eq_true rfl, Nat.le_of_ble_eq_true rfl⟩ rfl rfl (Nat.le_of_ble_eq_true rfl) d_HB_fileByte_39 (fun S6 r7 h => ?_)
      exact z_ireturn C G hr h d_HB_fileByte_42
    · have h := h.2 c
      refine z_aload C 0 rfl d_HB_fileByte_21 ?_
      obtain ⟨f8, h⟩ := h
      refine gf_HostFile_name C f8 (Or.inr (List.mem_of_getElem? (i := 10) rfl)) d_HB_fileByte_23 ?_
      refine z_iload_n C 3 rfl rfl d_HB_fileByte_26 ?_
      obtain ⟨f9, h⟩ := h
      refine z_callVi (rest := []) C q_Bytes_at tw_422 (c_Bytes_at _ B (2 + 2 * k3) a2 S1 _ h) (rc_Bytes f9) ⟨Nat.le_of_ble_eq_true rfl, Nat.le_of_ble_eq_true rfl⟩ rfl rfl (Nat.le_of_ble_eq_true rfl) d_HB_fileByte_27 (fun S10 r11 h => ?_)
      refine z_goto (tgt := 42) C d_HB_fileByte_30 rfl ?_
      exact z_ireturn C G hr h d_HB_fileByte_42
theorem c_HB_fileByte (l : Launch) (B : zK) (a1 : Int32) (a2 : Int32) (a3 : Int32) (S : zS) (P : zS → Int32 → Prop) (h : w_HB_fileByte a1 a2 a3 S P) : Met l y_HB_fileByte (Cond.code y_HB_fileByte prog_1_method_18_code 5 (some FieldType.int) :: tT) (zRm 1 21) (zPc (wC B) [.ref (ad B 0), .int a1, .int a2, .int a3] S) (zQ (wC B) (zPi P)) 0 0 (wC B).2.2.2 :=
  z_met (by decide) (Nat.le_of_ble_eq_true rfl) (fun E C G hr _ hnl => v_HB_fileByte C a1 a2 a3 P G hr hnl S h)
theorem q_HB_fileByte : zQw y_HB_fileByte prog_1_method_18_code 5 (some FieldType.int) 3 := ⟨tw_415, tw_416, tw_76, tw_417, by decide +kernel⟩
def w_HB_printed (a1 : Int32) (S : zS) (P : zS → Int32 → Prop) : Prop :=
  (a1 = 0 → (0 < 2 ∧ P S (gM S 7 0))) ∧ (¬ a1 = 0 → ((a1 = (1 : Int32) → (1 < 2 ∧ P S (gM S 7 1))) ∧ (¬ a1 = (1 : Int32) → (P S (-1 : Int32)))))
set_option maxRecDepth 20000 in
set_option maxHeartbeats 4000000 in
theorem v_HB_printed {E : zE} {B : zK} (C : zC E (wC B) prog_1_method_20_code "HostBench" 0 0) (a1 : Int32) (P : zS → Int32 → Prop) (G : zGoal E (zQ (wC B) (zPi P)) (wC B)) (hr : zRt E (some .int)) (hnl : E.2.2.2.2.2.2.2.2.2.2.1 = 2) (S : zS) (h : w_HB_printed a1 S P) : zV E (wC B) S 0 [(0, .ref (ad B 0)), (1, .int a1)] [] := by
  unfold w_HB_printed at h
  refine z_iload_n C 1 rfl rfl d_HB_printed_0 ?_
  refine z_if_ne (tgt := 15) C d_HB_printed_1 rfl (fun c => ?_) (fun c => ?_)
  · have h := h.2 c
    refine z_iload_n C 1 rfl rfl d_HB_printed_15 ?_
    refine z_iconst (v := (1 : Int32)) C rfl d_HB_printed_16 ?_
    refine z_icmp_ne (tgt := 33) C d_HB_printed_17 rfl (fun c => ?_) (fun c => ?_)
    · have h := h.2 c
      refine z_iconst (v := (-1 : Int32)) C rfl d_HB_printed_33 ?_
      exact z_ireturn C G hr h d_HB_printed_34
    · have h := h.1 c
      refine z_aload_n C 0 rfl rfl d_HB_printed_20 ?_
      refine gf_HB_host C (Or.inl tw_332) d_HB_printed_21 ?_
      refine gf_Host_err C (Or.inr (List.mem_of_getElem? (i := 32) rfl)) d_HB_printed_24 ?_
      obtain ⟨f1, h⟩ := h
      refine gf_Output_total C f1 (Or.inr (List.mem_of_getElem? (i := 26) rfl)) d_HB_printed_27 ?_
      refine z_goto (tgt := 34) C d_HB_printed_30 rfl ?_
      exact z_ireturn C G hr h d_HB_printed_34
  · have h := h.1 c
    refine z_aload_n C 0 rfl rfl d_HB_printed_4 ?_
    refine gf_HB_host C (Or.inl tw_332) d_HB_printed_5 ?_
    refine gf_Host_out C (Or.inr (List.mem_of_getElem? (i := 31) rfl)) d_HB_printed_8 ?_
    obtain ⟨f2, h⟩ := h
    refine gf_Output_total C f2 (Or.inr (List.mem_of_getElem? (i := 26) rfl)) d_HB_printed_11 ?_
    exact z_ireturn C G hr h d_HB_printed_14
theorem c_HB_printed (l : Launch) (B : zK) (a1 : Int32) (S : zS) (P : zS → Int32 → Prop) (h : w_HB_printed a1 S P) : Met l y_HB_printed (Cond.code y_HB_printed prog_1_method_20_code 2 (some FieldType.int) :: tT) (zRm 0 0) (zPc (wC B) [.ref (ad B 0), .int a1] S) (zQ (wC B) (zPi P)) 0 0 (wC B).2.2.2 :=
  z_met (by decide) (Nat.le_of_ble_eq_true rfl) (fun E C G hr _ hnl => v_HB_printed C a1 P G hr hnl S h)
theorem q_HB_printed : zQw y_HB_printed prog_1_method_20_code 2 (some FieldType.int) 1 := ⟨tw_427, tw_428, tw_76, tw_429, by decide +kernel⟩
def w_HB_print (a1 : Int32) (a2 : Int32) (S : zS) (P : zS → Int32 → Prop) : Prop :=
  (a1 = 0 → (0 < 2 ∧ (27 + 0) < 32 ∧ w_Bytes_at (27 + 0) a2 S (fun S7 r8 => P S7 r8))) ∧ (¬ a1 = 0 → ((a1 = (1 : Int32) → (1 < 2 ∧ (27 + 1) < 32 ∧ w_Bytes_at (27 + 1) a2 S (fun S3 r4 => P S3 r4))) ∧ (¬ a1 = (1 : Int32) → (P S (-1 : Int32)))))
set_option maxRecDepth 20000 in
set_option maxHeartbeats 4000000 in
theorem v_HB_print {E : zE} {B : zK} (C : zC E (wC B) prog_1_method_21_code "HostBench" 1 21) (a1 : Int32) (a2 : Int32) (P : zS → Int32 → Prop) (G : zGoal E (zQ (wC B) (zPi P)) (wC B)) (hr : zRt E (some .int)) (hnl : E.2.2.2.2.2.2.2.2.2.2.1 = 3) (S : zS) (h : w_HB_print a1 a2 S P) : zV E (wC B) S 0 [(0, .ref (ad B 0)), (1, .int a1), (2, .int a2)] [] := by
  unfold w_HB_print at h
  refine z_iload_n C 1 rfl rfl d_HB_print_0 ?_
  refine z_if_ne (tgt := 19) C d_HB_print_1 rfl (fun c => ?_) (fun c => ?_)
  · have h := h.2 c
    refine z_iload_n C 1 rfl rfl d_HB_print_19 ?_
    refine z_iconst (v := (1 : Int32)) C rfl d_HB_print_20 ?_
    refine z_icmp_ne (tgt := 41) C d_HB_print_21 rfl (fun c => ?_) (fun c => ?_)
    · have h := h.2 c
      refine z_iconst (v := (-1 : Int32)) C rfl d_HB_print_41 ?_
      exact z_ireturn C G hr h d_HB_print_42
    · have h := h.1 c
      refine z_aload_n C 0 rfl rfl d_HB_print_24 ?_
      refine gf_HB_host C (Or.inl tw_332) d_HB_print_25 ?_
      refine gf_Host_err C (Or.inr (List.mem_of_getElem? (i := 32) rfl)) d_HB_print_28 ?_
      obtain ⟨f1, h⟩ := h
      refine gf_Output_kept C f1 (Or.inr (List.mem_of_getElem? (i := 25) rfl)) d_HB_print_31 ?_
      refine z_iload_n C 2 rfl rfl d_HB_print_34 ?_
      obtain ⟨f2, h⟩ := h
      refine z_callVi (rest := []) C q_Bytes_at tw_422 (c_Bytes_at _ B (27 + 1) a2 S _ h) (rc_Bytes f2) ⟨Nat.le_of_ble_eq_true rfl, Nat.le_of_ble_eq_true rfl⟩ rfl rfl (Nat.le_of_ble_eq_true rfl) d_HB_print_35 (fun S3 r4 h => ?_)
      refine z_goto (tgt := 42) C d_HB_print_38 rfl ?_
      exact z_ireturn C G hr h d_HB_print_42
  · have h := h.1 c
    refine z_aload_n C 0 rfl rfl d_HB_print_4 ?_
    refine gf_HB_host C (Or.inl tw_332) d_HB_print_5 ?_
    refine gf_Host_out C (Or.inr (List.mem_of_getElem? (i := 31) rfl)) d_HB_print_8 ?_
    obtain ⟨f5, h⟩ := h
    refine gf_Output_kept C f5 (Or.inr (List.mem_of_getElem? (i := 25) rfl)) d_HB_print_11 ?_
    refine z_iload_n C 2 rfl rfl d_HB_print_14 ?_
    obtain ⟨f6, h⟩ := h
    refine z_callVi (rest := []) C q_Bytes_at tw_422 (c_Bytes_at _ B (27 + 0) a2 S _ h) (rc_Bytes f6) ⟨Nat.le_of_ble_eq_true rfl, Nat.le_of_ble_eq_true rfl⟩ rfl rfl (Nat.le_of_ble_eq_true rfl) d_HB_print_15 (fun S7 r8 h => ?_)
    exact z_ireturn C G hr h d_HB_print_18
theorem c_HB_print (l : Launch) (B : zK) (a1 : Int32) (a2 : Int32) (S : zS) (P : zS → Int32 → Prop) (h : w_HB_print a1 a2 S P) : Met l y_HB_print (Cond.code y_HB_print prog_1_method_21_code 3 (some FieldType.int) :: tT) (zRm 1 21) (zPc (wC B) [.ref (ad B 0), .int a1, .int a2] S) (zQ (wC B) (zPi P)) 0 0 (wC B).2.2.2 :=
  z_met (by decide) (Nat.le_of_ble_eq_true rfl) (fun E C G hr _ hnl => v_HB_print C a1 a2 P G hr hnl S h)
theorem q_HB_print : zQw y_HB_print prog_1_method_21_code 3 (some FieldType.int) 2 := ⟨tw_431, tw_432, tw_76, tw_433, by decide +kernel⟩
