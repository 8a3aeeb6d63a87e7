def j_HB_put_24 (a1 : Int32) (P : zS → Int32 → Prop) (X : String → zS → Prop) (S : zS) : Prop :=
  0 < 32 ∧ w_Bytes_cut 0 (0 : Int32) S (fun S2 => X "java/lang/IndexOutOfBoundsException" S2)
set_option maxRecDepth 20000 in
set_option maxHeartbeats 4000000 in
theorem vj_HB_put_24 {E : zE} {B : zK} (C : zC E (wC B) prog_1_method_4_code "HostBench" 6 82) (a1 : Int32) (P : zS → Int32 → Prop) (X : String → zS → Prop) (G : zGoalX E (zQ (wC B) (zPi P)) (wC B) X) (hr : zRt E (some .int)) (hnl : E.2.2.2.2.2.2.2.2.2.2.1 = 4) (S : zS) (h : j_HB_put_24 a1 P X S) : zV E (wC B) S 24 [(0, .ref (ad B 0))] [] := by
  unfold j_HB_put_24 at h
  refine z_aload_n C 0 rfl rfl d_HB_put_24 ?_
  refine gf_HB_tape C (Or.inl tw_329) d_HB_put_25 ?_
  refine z_iconst (v := (0 : Int32)) C rfl d_HB_put_28 ?_
  obtain ⟨f1, h⟩ := h
  refine z_callVv (rest := []) C q_Bytes_cut tw_374 (c_Bytes_cut _ B 0 (0 : Int32) S _ h) (rc_Bytes f1) ⟨Nat.le_of_ble_eq_true rfl, Nat.le_of_ble_eq_true rfl⟩ rfl rfl (Nat.le_of_ble_eq_true rfl) d_HB_put_29 (fun S2 h => ?_)
  exact z_throwS (text := "the bytes would not all be in the memory") C G tw_448 tw_91 (List.mem_of_getElem? (i := 0) rfl) (List.mem_of_getElem? (i := 0) rfl) at_IndexOutOfBoundsException gd_IndexOutOfBoundsException (by decide +kernel) (Nat.le_of_ble_eq_true rfl) (Nat.le_of_ble_eq_true rfl) d_HB_put_32 d_HB_put_35 d_HB_put_36 d_HB_put_38 d_HB_put_41 h
def l_HB_put_44 (a1 : Int32) (P : zS → Int32 → Prop) (X : String → zS → Prop) : Nat → zS → Int32 → Int32 → Prop
  | 0, _, _, _ => False
  | n + 1, S, x2, x3 =>
  (x2 ≤ x3 → (0 < 32 ∧ w_Bytes_cut 0 (0 : Int32) S (fun S2 => P S2 x2))) ∧ (¬ x2 ≤ x3 → (0 < 32 ∧ w_Bytes_at 0 x3 S (fun S4 r5 => w_Memory_storeByte (a1 + x3) r5 S4 (fun S6 => l_HB_put_44 a1 P X n S6 x2 (x3 + (1 : Int32))))))
set_option maxRecDepth 20000 in
set_option maxHeartbeats 4000000 in
theorem vl_HB_put_44 {E : zE} {B : zK} (C : zC E (wC B) prog_1_method_4_code "HostBench" 6 82) (a1 : Int32) (P : zS → Int32 → Prop) (X : String → zS → Prop) (G : zGoalX E (zQ (wC B) (zPi P)) (wC B) X) (hr : zRt E (some .int)) (hnl : E.2.2.2.2.2.2.2.2.2.2.1 = 4) : ∀ (n : Nat) (S : zS) (x2 : Int32) (x3 : Int32) , l_HB_put_44 a1 P X n S x2 x3 → zV E (wC B) S 44 [(0, .ref (ad B 0)), (1, .int a1), (2, .int x2), (3, .int x3)] [] := by
  intro n
  induction n with
  | zero => intro S x2 x3 h; exact h.elim
  | succ n ih =>
    intro S x2 x3 h
    unfold l_HB_put_44 at h
    refine z_iload_n C 3 rfl rfl d_HB_put_44 ?_
    refine z_iload_n C 2 rfl rfl d_HB_put_45 ?_
    refine z_icmp_ge (tgt := 73) C d_HB_put_46 rfl (fun c => ?_) (fun c => ?_)
    · have h := h.1 c
      refine z_aload_n C 0 rfl rfl d_HB_put_73 ?_
      refine gf_HB_tape C (Or.inl tw_329) d_HB_put_74 ?_
      refine z_iconst (v := (0 : Int32)) C rfl d_HB_put_77 ?_
      obtain ⟨f1, h⟩ := h
      refine z_callVv (rest := []) C q_Bytes_cut tw_374 (c_Bytes_cut _ B 0 (0 : Int32) S _ h) (rc_Bytes f1) ⟨Nat.le_of_ble_eq_true rfl, Nat.le_of_ble_eq_true rfl⟩ rfl rfl (Nat.le_of_ble_eq_true rfl) d_HB_put_78 (fun S2 h => ?_)
      refine z_iload_n C 2 rfl rfl d_HB_put_81 ?_
      exact z_ireturnX C G hr h d_HB_put_82
    · have h := h.2 c
      refine z_aload_n C 0 rfl rfl d_HB_put_49 ?_
      refine gf_HB_memory C (Or.inl tw_336) d_HB_put_50 ?_
      refine z_iload_n C 1 rfl rfl d_HB_put_53 ?_
      refine z_iload_n C 3 rfl rfl d_HB_put_54 ?_
      refine z_iadd C d_HB_put_55 ?_
      refine z_aload_n C 0 rfl rfl d_HB_put_56 ?_
      refine gf_HB_tape C (Or.inl tw_329) d_HB_put_57 ?_
      refine z_iload_n C 3 rfl rfl d_HB_put_60 ?_
      obtain ⟨f3, h⟩ := h
      refine z_callVi (rest := [.int (a1 + x3), .ref (ad B 5)]) C q_Bytes_at tw_422 (c_Bytes_at _ B 0 x3 S _ h) (rc_Bytes f3) ⟨Nat.le_of_ble_eq_true rfl, Nat.le_of_ble_eq_true rfl⟩ rfl rfl (Nat.le_of_ble_eq_true rfl) d_HB_put_61 (fun S4 r5 h => ?_)
      refine z_callVv (rest := []) C q_Memory_storeByte tw_517 (c_Memory_storeByte _ B (a1 + x3) r5 S4 _ h) rc_Memory ⟨Nat.le_of_ble_eq_true rfl, Nat.le_of_ble_eq_true rfl⟩ rfl rfl (Nat.le_of_ble_eq_true rfl) d_HB_put_64 (fun S6 h => ?_)
      refine z_iinc (v := x3 + (1 : Int32)) (L' := [(3, .int (x3 + (1 : Int32))), (0, .ref (ad B 0)), (1, .int a1), (2, .int x2)]) C hnl 3 rfl rfl (by decide) rfl d_HB_put_67 ?_
      refine z_goto (tgt := 44) C d_HB_put_70 rfl ?_
      exact z_sub [1, 2, 3, 0] rfl (ih S6 x2 (x3 + (1 : Int32)) h)
def w_HB_put (a1 : Int32) (S : zS) (P : zS → Int32 → Prop) (X : String → zS → Prop) : Prop :=
  0 < 32 ∧ w_Bytes_size 0 S (fun S2 r3 => (a1 < 0 → (j_HB_put_24 a1 P X S2)) ∧ (¬ a1 < 0 → (w_Memory_hasArea a1 r3 S2 (fun S4 r5 => (r5 = 0 → (j_HB_put_24 a1 P X S4)) ∧ (¬ r5 = 0 → (∃ n6 : Nat, l_HB_put_44 a1 P X n6 S4 r3 (0 : Int32)))))))
set_option maxRecDepth 20000 in
set_option maxHeartbeats 4000000 in
theorem v_HB_put {E : zE} {B : zK} (C : zC E (wC B) prog_1_method_4_code "HostBench" 6 82) (a1 : Int32) (P : zS → Int32 → Prop) (X : String → zS → Prop) (G : zGoalX E (zQ (wC B) (zPi P)) (wC B) X) (hr : zRt E (some .int)) (hnl : E.2.2.2.2.2.2.2.2.2.2.1 = 4) (S : zS) (h : w_HB_put a1 S P X) : zV E (wC B) S 0 [(0, .ref (ad B 0)), (1, .int a1)] [] := by
  unfold w_HB_put at h
  refine z_aload_n C 0 rfl rfl d_HB_put_0 ?_
  refine gf_HB_tape C (Or.inl tw_329) d_HB_put_1 ?_
  obtain ⟨f1, h⟩ := h
  refine z_callVi (rest := []) C q_Bytes_size tw_366 (c_Bytes_size _ B 0 S _ h) (rc_Bytes f1) ⟨Nat.le_of_ble_eq_true rfl, Nat.le_of_ble_eq_true rfl⟩ rfl rfl (Nat.le_of_ble_eq_true rfl) d_HB_put_4 (fun S2 r3 h => ?_)
  refine z_istore_n (L' := [(2, .int r3), (0, .ref (ad B 0)), (1, .int a1)]) C hnl rfl (by decide) rfl d_HB_put_7 ?_
  refine z_iload_n C 2 rfl rfl d_HB_put_8 ?_
  refine z_if_lt (tgt := 24) C d_HB_put_9 rfl (fun c => ?_) (fun c => ?_)
  · have h := h.1 c
    exact z_sub [1] rfl (vj_HB_put_24 C a1 P X G hr hnl S2 h)
  · have h := h.2 c
    refine z_aload_n C 1 rfl rfl d_HB_put_12 ?_
    refine gf_HB_memory C (Or.inl tw_336) d_HB_put_13 ?_
    refine z_iload_n C 2 rfl rfl d_HB_put_16 ?_
    refine z_iload_n C 0 rfl rfl d_HB_put_17 ?_
    refine z_callVi (rest := []) C q_Memory_hasArea tw_442 (c_Memory_hasArea _ B a1 r3 S2 _ h) rc_Memory ⟨Nat.le_of_ble_eq_true rfl, Nat.le_of_ble_eq_true rfl⟩ rfl rfl (Nat.le_of_ble_eq_true rfl) d_HB_put_18 (fun S4 r5 h => ?_)
    refine z_if_ne (tgt := 42) C d_HB_put_21 rfl (fun c => ?_) (fun c => ?_)
    · have h := h.2 c
      refine z_iconst (v := (0 : Int32)) C rfl d_HB_put_42 ?_
      refine z_istore_n (L' := [(3, .int (0 : Int32)), (2, .int r3), (0, .ref (ad B 0)), (1, .int a1)]) C hnl rfl (by decide) rfl d_HB_put_43 ?_
      obtain ⟨n6, h⟩ := h
      exact z_sub [2, 3, 1, 0] rfl (vl_HB_put_44 C a1 P X G hr hnl n6 S4 r3 (0 : Int32) h)
    · have h := h.1 c
      exact z_sub [1] rfl (vj_HB_put_24 C a1 P X G hr hnl S4 h)
theorem c_HB_put (l : Launch) (hst : l.stackTraces = false) (B : zK) (a1 : Int32) (S : zS) (P : zS → Int32 → Prop) (X : String → zS → Prop) (h : w_HB_put a1 S P X) : vx_Met l y_HB_put (Cond.code y_HB_put prog_1_method_4_code 4 (some FieldType.int) :: tT) (zRmX 6 82) (zPc (wC B) [.ref (ad B 0), .int a1] S) (zQ (wC B) (zPi P)) (zXc (wC B) X) 1 6 (wC B).2.2.2 :=
  z_metX hst (by decide) (Nat.le_of_ble_eq_true rfl) (fun E C G hr hnl => v_HB_put C a1 P X G hr hnl S h)
theorem q_HB_put : zQw y_HB_put prog_1_method_4_code 4 (some FieldType.int) 1 := ⟨tw_439, tw_440, tw_76, tw_441, by decide +kernel⟩
def j_HB_lay_38 (P : zS → Int32 → Prop) (X : String → zS → Prop) (S : zS) : Prop :=
  0 < 32 ∧ w_Bytes_cut 0 (0 : Int32) S (fun S2 => X "java/lang/IllegalArgumentException" S2)
set_option maxRecDepth 20000 in
set_option maxHeartbeats 4000000 in
theorem vj_HB_lay_38 {E : zE} {B : zK} (C : zC E (wC B) prog_1_method_5_code "HostBench" 6 82) (P : zS → Int32 → Prop) (X : String → zS → Prop) (G : zGoalX E (zQ (wC B) (zPi P)) (wC B) X) (hr : zRt E (some .int)) (hnl : E.2.2.2.2.2.2.2.2.2.2.1 = 4) (S : zS) (h : j_HB_lay_38 P X S) : zV E (wC B) S 38 [(0, .ref (ad B 0))] [] := by
  unfold j_HB_lay_38 at h
  refine z_aload_n C 0 rfl rfl d_HB_lay_38 ?_
  refine gf_HB_tape C (Or.inl tw_329) d_HB_lay_39 ?_
  refine z_iconst (v := (0 : Int32)) C rfl d_HB_lay_42 ?_
  obtain ⟨f1, h⟩ := h
  refine z_callVv (rest := []) C q_Bytes_cut tw_374 (c_Bytes_cut _ B 0 (0 : Int32) S _ h) (rc_Bytes f1) ⟨Nat.le_of_ble_eq_true rfl, Nat.le_of_ble_eq_true rfl⟩ rfl rfl (Nat.le_of_ble_eq_true rfl) d_HB_lay_43 (fun S2 h => ?_)
  exact z_throwS (text := "no name, or too many bytes") C G tw_535 tw_92 (List.mem_of_getElem? (i := 1) rfl) (List.mem_of_getElem? (i := 1) rfl) at_IllegalArgumentException gd_IllegalArgumentException (by decide +kernel) (Nat.le_of_ble_eq_true rfl) (Nat.le_of_ble_eq_true rfl) d_HB_lay_46 d_HB_lay_49 d_HB_lay_50 d_HB_lay_52 d_HB_lay_55 h
def j_HB_lay_138 (P : zS → Int32 → Prop) (X : String → zS → Prop) (S : zS) (x1 : Int32) (x2 : Int32) (x3 : Option Nat) : Prop :=
  (x3 = none → (0 < 32 ∧ w_Bytes_cut 0 (0 : Int32) S (fun S3 => X "java/lang/UnsupportedOperationException" S3))) ∧ (∀ k1 : Nat, x3 = some k1 → (k1 < 12 ∧ (3 + 2 * k1) < 32 ∧ w_Bytes_cut (3 + 2 * k1) (0 : Int32) S (fun S6 => w_Bytes_append (3 + 2 * k1) 0 (x1 + (1 : Int32)) x2 S6 (fun S7 => 0 < 32 ∧ w_Bytes_cut 0 (0 : Int32) S7 (fun S9 => P S9 x2)))))
set_option maxRecDepth 20000 in
set_option maxHeartbeats 4000000 in
theorem vj_HB_lay_138 {E : zE} {B : zK} (C : zC E (wC B) prog_1_method_5_code "HostBench" 6 82) (P : zS → Int32 → Prop) (X : String → zS → Prop) (G : zGoalX E (zQ (wC B) (zPi P)) (wC B) X) (hr : zRt E (some .int)) (hnl : E.2.2.2.2.2.2.2.2.2.2.1 = 4) (S : zS) (x1 : Int32) (x2 : Int32) (x3 : Option Nat) (h : j_HB_lay_138 P X S x1 x2 x3) : zV E (wC B) S 138 [(0, .ref (ad B 0)), (1, .int x1), (2, .int x2), (3, va_rf ((x3).map (fun k => ad B (13 + k))))] [] := by
  unfold j_HB_lay_138 at h
  refine z_aload_nq (x := (x3).map (fun k => ad B (13 + k))) C 3 rfl rfl d_HB_lay_138 ?_
  cases x3 with
  | none =>
    have h := h.1 rfl
    show zV E (wC B) S 139 [(0, .ref (ad B 0)), (1, .int x1), (2, .int x2), (3, .null)] [.null]
    refine z_ifnonnullN (tgt := 160) C d_HB_lay_139 rfl ?_
    refine z_aload_n C 0 rfl rfl d_HB_lay_142 ?_
    refine gf_HB_tape C (Or.inl tw_329) d_HB_lay_143 ?_
    refine z_iconst (v := (0 : Int32)) C rfl d_HB_lay_146 ?_
    obtain ⟨f2, h⟩ := h
    refine z_callVv (rest := []) C q_Bytes_cut tw_374 (c_Bytes_cut _ B 0 (0 : Int32) S _ h) (rc_Bytes f2) ⟨Nat.le_of_ble_eq_true rfl, Nat.le_of_ble_eq_true rfl⟩ rfl rfl (Nat.le_of_ble_eq_true rfl) d_HB_lay_147 (fun S3 h => ?_)
    exact z_throwS (text := "there are as many files as there may be") C G tw_593 tw_94 (List.mem_of_getElem? (i := 3) rfl) (List.mem_of_getElem? (i := 3) rfl) at_UnsupportedOperationException gd_UnsupportedOperationException (by decide +kernel) (Nat.le_of_ble_eq_true rfl) (Nat.le_of_ble_eq_true rfl) d_HB_lay_150 d_HB_lay_153 d_HB_lay_154 d_HB_lay_156 d_HB_lay_159 h
  | some k1 =>
    have h := h.2 k1 rfl
    show zV E (wC B) S 139 [(0, .ref (ad B 0)), (1, .int x1), (2, .int x2), (3, .ref (ad B (13 + k1)))] [.ref (ad B (13 + k1))]
    refine z_ifnonnull (tgt := 160) C d_HB_lay_139 rfl ?_
    refine z_aload_n C 3 rfl rfl d_HB_lay_160 ?_
    obtain ⟨f4, h⟩ := h
    refine gf_HostFile_content C f4 (Or.inr (List.mem_of_getElem? (i := 13) rfl)) d_HB_lay_161 ?_
    refine z_iconst (v := (0 : Int32)) C rfl d_HB_lay_164 ?_
    obtain ⟨f5, h⟩ := h
    refine z_callVv (rest := []) C q_Bytes_cut tw_374 (c_Bytes_cut _ B (3 + 2 * k1) (0 : Int32) S _ h) (rc_Bytes f5) ⟨Nat.le_of_ble_eq_true rfl, Nat.le_of_ble_eq_true rfl⟩ rfl rfl (Nat.le_of_ble_eq_true rfl) d_HB_lay_165 (fun S6 h => ?_)
    refine z_aload_n C 3 rfl rfl d_HB_lay_168 ?_
    refine gf_HostFile_content C f4 (Or.inr (List.mem_of_getElem? (i := 13) rfl)) d_HB_lay_169 ?_
    refine z_aload_n C 0 rfl rfl d_HB_lay_172 ?_
    refine gf_HB_tape C (Or.inl tw_329) d_HB_lay_173 ?_
    refine z_iload_n C 1 rfl rfl d_HB_lay_176 ?_
    refine z_iconst (v := (1 : Int32)) C rfl d_HB_lay_177 ?_
    refine z_iadd C d_HB_lay_178 ?_
    refine z_iload_n C 2 rfl rfl d_HB_lay_179 ?_
    refine z_callVv (rest := []) C q_Bytes_append tw_551 (c_Bytes_append _ B (3 + 2 * k1) 0 (x1 + (1 : Int32)) x2 S6 _ h) (rc_Bytes f5) ⟨Nat.le_of_ble_eq_true rfl, Nat.le_of_ble_eq_true rfl⟩ rfl rfl (Nat.le_of_ble_eq_true rfl) d_HB_lay_180 (fun S7 h => ?_)
    refine z_aload_n C 0 rfl rfl d_HB_lay_183 ?_
    refine gf_HB_tape C (Or.inl tw_329) d_HB_lay_184 ?_
    refine z_iconst (v := (0 : Int32)) C rfl d_HB_lay_187 ?_
    obtain ⟨f8, h⟩ := h
    refine z_callVv (rest := []) C q_Bytes_cut tw_374 (c_Bytes_cut _ B 0 (0 : Int32) S7 _ h) (rc_Bytes f8) ⟨Nat.le_of_ble_eq_true rfl, Nat.le_of_ble_eq_true rfl⟩ rfl rfl (Nat.le_of_ble_eq_true rfl) d_HB_lay_188 (fun S9 h => ?_)
    refine z_iload_n C 2 rfl rfl d_HB_lay_191 ?_
    exact z_ireturnX C G hr h d_HB_lay_192
def j_HB_lay_122 (P : zS → Int32 → Prop) (X : String → zS → Prop) (S : zS) (x1 : Int32) (x2 : Int32) (x3 : Option Nat) : Prop :=
  (x3 = none → (w_Folder_make 1 S (fun S2 o3 => j_HB_lay_138 P X S2 x1 x2 o3))) ∧ (∀ k1 : Nat, x3 = some k1 → (j_HB_lay_138 P X S x1 x2 (some k1)))
set_option maxRecDepth 20000 in
set_option maxHeartbeats 4000000 in
theorem vj_HB_lay_122 {E : zE} {B : zK} (C : zC E (wC B) prog_1_method_5_code "HostBench" 6 82) (P : zS → Int32 → Prop) (X : String → zS → Prop) (G : zGoalX E (zQ (wC B) (zPi P)) (wC B) X) (hr : zRt E (some .int)) (hnl : E.2.2.2.2.2.2.2.2.2.2.1 = 4) (S : zS) (x1 : Int32) (x2 : Int32) (x3 : Option Nat) (h : j_HB_lay_122 P X S x1 x2 x3) : zV E (wC B) S 122 [(0, .ref (ad B 0)), (1, .int x1), (2, .int x2), (3, va_rf ((x3).map (fun k => ad B (13 + k))))] [] := by
  unfold j_HB_lay_122 at h
  refine z_aload_nq (x := (x3).map (fun k => ad B (13 + k))) C 3 rfl rfl d_HB_lay_122 ?_
  cases x3 with
  | none =>
    have h := h.1 rfl
    show zV E (wC B) S 123 [(0, .ref (ad B 0)), (1, .int x1), (2, .int x2), (3, .null)] [.null]
    refine z_ifnonnullN (tgt := 138) C d_HB_lay_123 rfl ?_
    refine z_aload_n C 0 rfl rfl d_HB_lay_126 ?_
    refine gf_HB_folder C (Or.inl tw_333) d_HB_lay_127 ?_
    refine z_aload_n C 0 rfl rfl d_HB_lay_130 ?_
    refine gf_HB_laidName C (Or.inl tw_330) d_HB_lay_131 ?_
    refine z_callVq (rest := []) C q_Folder_make tw_586 (c_Folder_make _ B 1 S _ h) rc_Folder ⟨Nat.le_of_ble_eq_true rfl, Nat.le_of_ble_eq_true rfl⟩ rfl rfl (Nat.le_of_ble_eq_true rfl) d_HB_lay_134 (fun S2 o3 h => ?_)
    refine z_astore_nq (x := (o3).map (fun k => ad B (13 + k))) (L' := [(3, va_rf ((o3).map (fun k => ad B (13 + k)))), (0, .ref (ad B 0)), (1, .int x1), (2, .int x2)]) C hnl rfl (by decide) rfl d_HB_lay_137 ?_
    exact z_sub [1, 2, 3, 0] rfl (vj_HB_lay_138 C P X G hr hnl S2 x1 x2 o3 h)
  | some k1 =>
    have h := h.2 k1 rfl
    show zV E (wC B) S 123 [(0, .ref (ad B 0)), (1, .int x1), (2, .int x2), (3, .ref (ad B (13 + k1)))] [.ref (ad B (13 + k1))]
    refine z_ifnonnull (tgt := 138) C d_HB_lay_123 rfl ?_
    exact z_sub [0, 1, 2, 3] rfl (vj_HB_lay_138 C P X G hr hnl S x1 x2 (some k1) h)
def w_HB_lay (S : zS) (P : zS → Int32 → Prop) (X : String → zS → Prop) : Prop :=
  0 < 32 ∧ w_Bytes_firstZero 0 S (fun S2 r3 => w_Bytes_size 0 S2 (fun S4 r5 => ∀ v6 : Int32, v6 = ((r5 - r3) - (1 : Int32)) → (r3 < (1 : Int32) → (j_HB_lay_38 P X S4)) ∧ (¬ r3 < (1 : Int32) → (((24 : Int32) < r3 → (j_HB_lay_38 P X S4)) ∧ (¬ (24 : Int32) < r3 → ((v6 ≤ (2000 : Int32) → (1 < 32 ∧ w_Bytes_cut 1 (0 : Int32) S4 (fun S8 => w_Bytes_append 1 0 (0 : Int32) r3 S8 (fun S9 => w_Folder_find 1 S9 (fun S10 o11 => (o11 = none → (j_HB_lay_122 P X S10 r3 v6 none)) ∧ (∀ k12 : Nat, o11 = some k12 → (w_Desk_openOn k12 S10 (fun S13 r14 => (r14 ≤ 0 → (j_HB_lay_122 P X S13 r3 v6 (some k12))) ∧ (¬ r14 ≤ 0 → (w_Bytes_cut 0 (0 : Int32) S13 (fun S15 => X "java/lang/IllegalStateException" S15))))))))))) ∧ (¬ v6 ≤ (2000 : Int32) → (j_HB_lay_38 P X S4))))))))
set_option maxRecDepth 20000 in
set_option maxHeartbeats 4000000 in
theorem v_HB_lay {E : zE} {B : zK} (C : zC E (wC B) prog_1_method_5_code "HostBench" 6 82) (P : zS → Int32 → Prop) (X : String → zS → Prop) (G : zGoalX E (zQ (wC B) (zPi P)) (wC B) X) (hr : zRt E (some .int)) (hnl : E.2.2.2.2.2.2.2.2.2.2.1 = 4) (S : zS) (h : w_HB_lay S P X) : zV E (wC B) S 0 [(0, .ref (ad B 0))] [] := by
  unfold w_HB_lay at h
  refine z_aload_n C 0 rfl rfl d_HB_lay_0 ?_
  refine gf_HB_tape C (Or.inl tw_329) d_HB_lay_1 ?_
  obtain ⟨f1, h⟩ := h
  refine z_callVi (rest := []) C q_Bytes_firstZero tw_531 (c_Bytes_firstZero _ B 0 S _ h) (rc_Bytes f1) ⟨Nat.le_of_ble_eq_true rfl, Nat.le_of_ble_eq_true rfl⟩ rfl rfl (Nat.le_of_ble_eq_true rfl) d_HB_lay_4 (fun S2 r3 h => ?_)
  refine z_istore_n (L' := [(1, .int r3), (0, .ref (ad B 0))]) C hnl rfl (by decide) rfl d_HB_lay_7 ?_
  refine z_aload_n C 1 rfl rfl d_HB_lay_8 ?_
  refine gf_HB_tape C (Or.inl tw_329) d_HB_lay_9 ?_
  refine z_callVi (rest := []) C q_Bytes_size tw_366 (c_Bytes_size _ B 0 S2 _ h) (rc_Bytes f1) ⟨Nat.le_of_ble_eq_true rfl, Nat.le_of_ble_eq_true rfl⟩ rfl rfl (Nat.le_of_ble_eq_true rfl) d_HB_lay_12 (fun S4 r5 h => ?_)
  refine z_iload_n C 0 rfl rfl d_HB_lay_15 ?_
  refine z_isub C d_HB_lay_16 ?_
  refine z_iconst (v := (1 : Int32)) C rfl d_HB_lay_17 ?_
  refine z_isub C d_HB_lay_18 ?_
  refine z_topi (fun v6 ev6 => ?_)
  have h := h v6 ev6
  refine z_istore_n (L' := [(2, .int v6), (1, .int r3), (0, .ref (ad B 0))]) C hnl rfl (by decide) rfl d_HB_lay_19 ?_
  refine z_iload_n C 1 rfl rfl d_HB_lay_20 ?_
  refine z_iconst (v := (1 : Int32)) C rfl d_HB_lay_21 ?_
  refine z_icmp_lt (tgt := 38) C d_HB_lay_22 rfl (fun c => ?_) (fun c => ?_)
  · have h := h.1 c
    exact z_sub [2] rfl (vj_HB_lay_38 C P X G hr hnl S4 h)
  · have h := h.2 c
    refine z_iload_n C 1 rfl rfl d_HB_lay_25 ?_
    refine z_bipush (v := (24 : Int32)) C rfl d_HB_lay_26 ?_
    refine z_icmp_gt (tgt := 38) C d_HB_lay_28 rfl (fun c => ?_) (fun c => ?_)
    · have h := h.1 c
      exact z_sub [2] rfl (vj_HB_lay_38 C P X G hr hnl S4 h)
    · have h := h.2 c
      refine z_iload_n C 0 rfl rfl d_HB_lay_31 ?_
      refine z_sipush (v := (2000 : Int32)) C rfl d_HB_lay_32 ?_
      refine z_icmp_le (tgt := 56) C d_HB_lay_35 rfl (fun c => ?_) (fun c => ?_)
      · have h := h.1 c
        refine z_aload_n C 2 rfl rfl d_HB_lay_56 ?_
        refine gf_HB_laidName C (Or.inl tw_330) d_HB_lay_57 ?_
        refine z_iconst (v := (0 : Int32)) C rfl d_HB_lay_60 ?_
        obtain ⟨f7, h⟩ := h
        refine z_callVv (rest := []) C q_Bytes_cut tw_374 (c_Bytes_cut _ B 1 (0 : Int32) S4 _ h) (rc_Bytes f7) ⟨Nat.le_of_ble_eq_true rfl, Nat.le_of_ble_eq_true rfl⟩ rfl rfl (Nat.le_of_ble_eq_true rfl) d_HB_lay_61 (fun S8 h => ?_)
        refine z_aload_n C 2 rfl rfl d_HB_lay_64 ?_
        refine gf_HB_laidName C (Or.inl tw_330) d_HB_lay_65 ?_
        refine z_aload_n C 2 rfl rfl d_HB_lay_68 ?_
        refine gf_HB_tape C (Or.inl tw_329) d_HB_lay_69 ?_
        refine z_iconst (v := (0 : Int32)) C rfl d_HB_lay_72 ?_
        refine z_iload_n C 1 rfl rfl d_HB_lay_73 ?_
        refine z_callVv (rest := []) C q_Bytes_append tw_551 (c_Bytes_append _ B 1 0 (0 : Int32) r3 S8 _ h) (rc_Bytes f7) ⟨Nat.le_of_ble_eq_true rfl, Nat.le_of_ble_eq_true rfl⟩ rfl rfl (Nat.le_of_ble_eq_true rfl) d_HB_lay_74 (fun S9 h => ?_)
        refine z_aload_n C 2 rfl rfl d_HB_lay_77 ?_
        refine gf_HB_folder C (Or.inl tw_333) d_HB_lay_78 ?_
        refine z_aload_n C 2 rfl rfl d_HB_lay_81 ?_
        refine gf_HB_laidName C (Or.inl tw_330) d_HB_lay_82 ?_
        refine z_callVq (rest := []) C q_Folder_find tw_558 (c_Folder_find _ B 1 S9 _ h) rc_Folder ⟨Nat.le_of_ble_eq_true rfl, Nat.le_of_ble_eq_true rfl⟩ rfl rfl (Nat.le_of_ble_eq_true rfl) d_HB_lay_85 (fun S10 o11 h => ?_)
        refine z_astore_nq (x := (o11).map (fun k => ad B (13 + k))) (L' := [(3, va_rf ((o11).map (fun k => ad B (13 + k)))), (2, .int v6), (1, .int r3), (0, .ref (ad B 0))]) C hnl rfl (by decide) rfl d_HB_lay_88 ?_
        refine z_aload_nq (x := (o11).map (fun k => ad B (13 + k))) C 0 rfl rfl d_HB_lay_89 ?_
        cases o11 with
        | none =>
          have h := h.1 rfl
          show zV E (wC B) S10 90 [(3, .null), (2, .int v6), (1, .int r3), (0, .ref (ad B 0))] [.null]
          refine z_ifnullN (tgt := 122) C d_HB_lay_90 rfl ?_
          exact z_sub [3, 2, 1, 0] rfl (vj_HB_lay_122 C P X G hr hnl S10 r3 v6 none h)
        | some k12 =>
          have h := h.2 k12 rfl
          show zV E (wC B) S10 90 [(3, .ref (ad B (13 + k12))), (2, .int v6), (1, .int r3), (0, .ref (ad B 0))] [.ref (ad B (13 + k12))]
          refine z_ifnull (tgt := 122) C d_HB_lay_90 rfl ?_
          refine z_aload_n C 3 rfl rfl d_HB_lay_93 ?_
          refine gf_HB_desk C (Or.inl tw_334) d_HB_lay_94 ?_
          refine z_aload_n C 0 rfl rfl d_HB_lay_97 ?_
          refine z_callVi (rest := []) C q_Desk_openOn tw_566 (c_Desk_openOn _ B k12 S10 _ h) rc_Desk ⟨Nat.le_of_ble_eq_true rfl, Nat.le_of_ble_eq_true rfl⟩ rfl rfl (Nat.le_of_ble_eq_true rfl) d_HB_lay_98 (fun S13 r14 h => ?_)
          refine z_if_le (tgt := 122) C d_HB_lay_101 rfl (fun c => ?_) (fun c => ?_)
          · have h := h.1 c
            exact z_sub [3, 2, 1, 0] rfl (vj_HB_lay_122 C P X G hr hnl S13 r3 v6 (some k12) h)
          · have h := h.2 c
            refine z_aload_n C 3 rfl rfl d_HB_lay_104 ?_
            refine gf_HB_tape C (Or.inl tw_329) d_HB_lay_105 ?_
            refine z_iconst (v := (0 : Int32)) C rfl d_HB_lay_108 ?_
            refine z_callVv (rest := []) C q_Bytes_cut tw_374 (c_Bytes_cut _ B 0 (0 : Int32) S13 _ h) (rc_Bytes f1) ⟨Nat.le_of_ble_eq_true rfl, Nat.le_of_ble_eq_true rfl⟩ rfl rfl (Nat.le_of_ble_eq_true rfl) d_HB_lay_109 (fun S15 h => ?_)
            exact z_throwS (text := "an open handle has that file") C G tw_570 tw_93 (List.mem_of_getElem? (i := 2) rfl) (List.mem_of_getElem? (i := 2) rfl) at_IllegalStateException gd_IllegalStateException (by decide +kernel) (Nat.le_of_ble_eq_true rfl) (Nat.le_of_ble_eq_true rfl) d_HB_lay_112 d_HB_lay_115 d_HB_lay_116 d_HB_lay_118 d_HB_lay_121 h
      · have h := h.2 c
        exact z_sub [2] rfl (vj_HB_lay_38 C P X G hr hnl S4 h)
theorem c_HB_lay (l : Launch) (hst : l.stackTraces = false) (B : zK) (S : zS) (P : zS → Int32 → Prop) (X : String → zS → Prop) (h : w_HB_lay S P X) : vx_Met l y_HB_lay (Cond.code y_HB_lay prog_1_method_5_code 4 (some FieldType.int) :: tT) (zRmX 6 82) (zPc (wC B) [.ref (ad B 0)] S) (zQ (wC B) (zPi P)) (zXc (wC B) X) 1 6 (wC B).2.2.2 :=
  z_metX hst (by decide) (Nat.le_of_ble_eq_true rfl) (fun E C G hr hnl => v_HB_lay C P X G hr hnl S h)
theorem q_HB_lay : zQw y_HB_lay prog_1_method_5_code 4 (some FieldType.int) 0 := ⟨tw_528, tw_529, tw_76, tw_530, by decide +kernel⟩
def w_HB_type (S : zS) (P : zS → Int32 → Prop) (X : String → zS → Prop) : Prop :=
  0 < 32 ∧ w_Bytes_size 0 S (fun S2 r3 => 26 < 32 ∧ w_Bytes_spare 26 S2 (fun S5 r6 => (r3 ≤ r6 → (w_Bytes_append 26 0 (0 : Int32) r3 S5 (fun S7 => w_Bytes_cut 0 (0 : Int32) S7 (fun S8 => w_Bytes_size 26 S8 (fun S9 r10 => P S9 r10))))) ∧ (¬ r3 ≤ r6 → (w_Bytes_cut 0 (0 : Int32) S5 (fun S11 => X "java/lang/IllegalStateException" S11)))))
set_option maxRecDepth 20000 in
set_option maxHeartbeats 4000000 in
theorem v_HB_type {E : zE} {B : zK} (C : zC E (wC B) prog_1_method_6_code "HostBench" 6 82) (P : zS → Int32 → Prop) (X : String → zS → Prop) (G : zGoalX E (zQ (wC B) (zPi P)) (wC B) X) (hr : zRt E (some .int)) (hnl : E.2.2.2.2.2.2.2.2.2.2.1 = 2) (S : zS) (h : w_HB_type S P X) : zV E (wC B) S 0 [(0, .ref (ad B 0))] [] := by
  unfold w_HB_type at h
  refine z_aload_n C 0 rfl rfl d_HB_type_0 ?_
  refine gf_HB_tape C (Or.inl tw_329) d_HB_type_1 ?_
  obtain ⟨f1, h⟩ := h
  refine z_callVi (rest := []) C q_Bytes_size tw_366 (c_Bytes_size _ B 0 S _ h) (rc_Bytes f1) ⟨Nat.le_of_ble_eq_true rfl, Nat.le_of_ble_eq_true rfl⟩ rfl rfl (Nat.le_of_ble_eq_true rfl) d_HB_type_4 (fun S2 r3 h => ?_)
  refine z_istore_n (L' := [(1, .int r3), (0, .ref (ad B 0))]) C hnl rfl (by decide) rfl d_HB_type_7 ?_
  refine z_iload_n C 0 rfl rfl d_HB_type_8 ?_
  refine z_aload_n C 1 rfl rfl d_HB_type_9 ?_
  refine gf_HB_host C (Or.inl tw_332) d_HB_type_10 ?_
  refine gf_Host_input C (Or.inr (List.mem_of_getElem? (i := 30) rfl)) d_HB_type_13 ?_
  obtain ⟨f4, h⟩ := h
  refine z_callVi (rest := [.int r3]) C q_Bytes_spare tw_358 (c_Bytes_spare _ B 26 S2 _ h) (rc_Bytes f4) ⟨Nat.le_of_ble_eq_true rfl, Nat.le_of_ble_eq_true rfl⟩ rfl rfl (Nat.le_of_ble_eq_true rfl) d_HB_type_16 (fun S5 r6 h => ?_)
  refine z_icmp_le (tgt := 40) C d_HB_type_19 rfl (fun c => ?_) (fun c => ?_)
  · have h := h.1 c
    refine z_aload_n C 1 rfl rfl d_HB_type_40 ?_
    refine gf_HB_host C (Or.inl tw_332) d_HB_type_41 ?_
    refine gf_Host_input C (Or.inr (List.mem_of_getElem? (i := 30) rfl)) d_HB_type_44 ?_
    refine z_aload_n C 1 rfl rfl d_HB_type_47 ?_
    refine gf_HB_tape C (Or.inl tw_329) d_HB_type_48 ?_
    refine z_iconst (v := (0 : Int32)) C rfl d_HB_type_51 ?_
    refine z_iload_n C 0 rfl rfl d_HB_type_52 ?_
    refine z_callVv (rest := []) C q_Bytes_append tw_551 (c_Bytes_append _ B 26 0 (0 : Int32) r3 S5 _ h) (rc_Bytes f4) ⟨Nat.le_of_ble_eq_true rfl, Nat.le_of_ble_eq_true rfl⟩ rfl rfl (Nat.le_of_ble_eq_true rfl) d_HB_type_53 (fun S7 h => ?_)
    refine z_aload_n C 1 rfl rfl d_HB_type_56 ?_
    refine gf_HB_tape C (Or.inl tw_329) d_HB_type_57 ?_
    refine z_iconst (v := (0 : Int32)) C rfl d_HB_type_60 ?_
    refine z_callVv (rest := []) C q_Bytes_cut tw_374 (c_Bytes_cut _ B 0 (0 : Int32) S7 _ h) (rc_Bytes f1) ⟨Nat.le_of_ble_eq_true rfl, Nat.le_of_ble_eq_true rfl⟩ rfl rfl (Nat.le_of_ble_eq_true rfl) d_HB_type_61 (fun S8 h => ?_)
    refine z_aload_n C 1 rfl rfl d_HB_type_64 ?_
    refine gf_HB_host C (Or.inl tw_332) d_HB_type_65 ?_
    refine gf_Host_input C (Or.inr (List.mem_of_getElem? (i := 30) rfl)) d_HB_type_68 ?_
    refine z_callVi (rest := []) C q_Bytes_size tw_366 (c_Bytes_size _ B 26 S8 _ h) (rc_Bytes f4) ⟨Nat.le_of_ble_eq_true rfl, Nat.le_of_ble_eq_true rfl⟩ rfl rfl (Nat.le_of_ble_eq_true rfl) d_HB_type_71 (fun S9 r10 h => ?_)
    exact z_ireturnX C G hr h d_HB_type_74
  · have h := h.2 c
    refine z_aload_n C 1 rfl rfl d_HB_type_22 ?_
    refine gf_HB_tape C (Or.inl tw_329) d_HB_type_23 ?_
    refine z_iconst (v := (0 : Int32)) C rfl d_HB_type_26 ?_
    refine z_callVv (rest := []) C q_Bytes_cut tw_374 (c_Bytes_cut _ B 0 (0 : Int32) S5 _ h) (rc_Bytes f1) ⟨Nat.le_of_ble_eq_true rfl, Nat.le_of_ble_eq_true rfl⟩ rfl rfl (Nat.le_of_ble_eq_true rfl) d_HB_type_27 (fun S11 h => ?_)
    exact z_throwS (text := "too many bytes would wait") C G tw_570 tw_93 (List.mem_of_getElem? (i := 4) rfl) (List.mem_of_getElem? (i := 2) rfl) at_IllegalStateException gd_IllegalStateException (by decide +kernel) (Nat.le_of_ble_eq_true rfl) (Nat.le_of_ble_eq_true rfl) d_HB_type_30 d_HB_type_33 d_HB_type_34 d_HB_type_36 d_HB_type_39 h
theorem c_HB_type (l : Launch) (hst : l.stackTraces = false) (B : zK) (S : zS) (P : zS → Int32 → Prop) (X : String → zS → Prop) (h : w_HB_type S P X) : vx_Met l y_HB_type (Cond.code y_HB_type prog_1_method_6_code 2 (some FieldType.int) :: tT) (zRmX 6 82) (zPc (wC B) [.ref (ad B 0)] S) (zQ (wC B) (zPi P)) (zXc (wC B) X) 1 6 (wC B).2.2.2 :=
  z_metX hst (by decide) (Nat.le_of_ble_eq_true rfl) (fun E C G hr hnl => v_HB_type C P X G hr hnl S h)
theorem q_HB_type : zQw y_HB_type prog_1_method_6_code 2 (some FieldType.int) 0 := ⟨tw_613, tw_614, tw_76, tw_615, by decide +kernel⟩
def j_HB_command_25 (P : zS → Int32 → Prop) (X : String → zS → Prop) (S : zS) : Prop :=
  0 < 32 ∧ w_Bytes_cut 0 (0 : Int32) S (fun S2 => X "java/lang/IllegalArgumentException" S2)
set_option maxRecDepth 20000 in
set_option maxHeartbeats 4000000 in
theorem vj_HB_command_25 {E : zE} {B : zK} (C : zC E (wC B) prog_1_method_7_code "HostBench" 6 82) (P : zS → Int32 → Prop) (X : String → zS → Prop) (G : zGoalX E (zQ (wC B) (zPi P)) (wC B) X) (hr : zRt E (some .int)) (hnl : E.2.2.2.2.2.2.2.2.2.2.1 = 2) (S : zS) (h : j_HB_command_25 P X S) : zV E (wC B) S 25 [(0, .ref (ad B 0))] [] := by
  unfold j_HB_command_25 at h
  refine z_aload_n C 0 rfl rfl d_HB_command_25 ?_
  refine gf_HB_tape C (Or.inl tw_329) d_HB_command_26 ?_
  refine z_iconst (v := (0 : Int32)) C rfl d_HB_command_29 ?_
  obtain ⟨f1, h⟩ := h
  refine z_callVv (rest := []) C q_Bytes_cut tw_374 (c_Bytes_cut _ B 0 (0 : Int32) S _ h) (rc_Bytes f1) ⟨Nat.le_of_ble_eq_true rfl, Nat.le_of_ble_eq_true rfl⟩ rfl rfl (Nat.le_of_ble_eq_true rfl) d_HB_command_30 (fun S2 h => ?_)
  exact z_throwS (text := "too many bytes, or a 0 among them") C G tw_535 tw_92 (List.mem_of_getElem? (i := 5) rfl) (List.mem_of_getElem? (i := 1) rfl) at_IllegalArgumentException gd_IllegalArgumentException (by decide +kernel) (Nat.le_of_ble_eq_true rfl) (Nat.le_of_ble_eq_true rfl) d_HB_command_33 d_HB_command_36 d_HB_command_37 d_HB_command_39 d_HB_command_42 h
def w_HB_command (S : zS) (P : zS → Int32 → Prop) (X : String → zS → Prop) : Prop :=
  0 < 32 ∧ w_Bytes_size 0 S (fun S2 r3 => ((80 : Int32) < r3 → (j_HB_command_25 P X S2)) ∧ (¬ (80 : Int32) < r3 → (w_Bytes_firstZero 0 S2 (fun S4 r5 => (r5 = (-1 : Int32) → (29 < 32 ∧ w_Bytes_cut 29 (0 : Int32) S4 (fun S7 => w_Bytes_append 29 0 (0 : Int32) r3 S7 (fun S8 => w_Bytes_cut 0 (0 : Int32) S8 (fun S9 => P S9 r3))))) ∧ (¬ r5 = (-1 : Int32) → (j_HB_command_25 P X S4))))))
set_option maxRecDepth 20000 in
set_option maxHeartbeats 4000000 in
theorem v_HB_command {E : zE} {B : zK} (C : zC E (wC B) prog_1_method_7_code "HostBench" 6 82) (P : zS → Int32 → Prop) (X : String → zS → Prop) (G : zGoalX E (zQ (wC B) (zPi P)) (wC B) X) (hr : zRt E (some .int)) (hnl : E.2.2.2.2.2.2.2.2.2.2.1 = 2) (S : zS) (h : w_HB_command S P X) : zV E (wC B) S 0 [(0, .ref (ad B 0))] [] := by
  unfold w_HB_command at h
  refine z_aload_n C 0 rfl rfl d_HB_command_0 ?_
  refine gf_HB_tape C (Or.inl tw_329) d_HB_command_1 ?_
  obtain ⟨f1, h⟩ := h
  refine z_callVi (rest := []) C q_Bytes_size tw_366 (c_Bytes_size _ B 0 S _ h) (rc_Bytes f1) ⟨Nat.le_of_ble_eq_true rfl, Nat.le_of_ble_eq_true rfl⟩ rfl rfl (Nat.le_of_ble_eq_true rfl) d_HB_command_4 (fun S2 r3 h => ?_)
  refine z_istore_n (L' := [(1, .int r3), (0, .ref (ad B 0))]) C hnl rfl (by decide) rfl d_HB_command_7 ?_
  refine z_iload_n C 0 rfl rfl d_HB_command_8 ?_
  refine z_bipush (v := (80 : Int32)) C rfl d_HB_command_9 ?_
  refine z_icmp_gt (tgt := 25) C d_HB_command_11 rfl (fun c => ?_) (fun c => ?_)
  · have h := h.1 c
    exact z_sub [1] rfl (vj_HB_command_25 C P X G hr hnl S2 h)
  · have h := h.2 c
    refine z_aload_n C 1 rfl rfl d_HB_command_14 ?_
    refine gf_HB_tape C (Or.inl tw_329) d_HB_command_15 ?_
    refine z_callVi (rest := []) C q_Bytes_firstZero tw_531 (c_Bytes_firstZero _ B 0 S2 _ h) (rc_Bytes f1) ⟨Nat.le_of_ble_eq_true rfl, Nat.le_of_ble_eq_true rfl⟩ rfl rfl (Nat.le_of_ble_eq_true rfl) d_HB_command_18 (fun S4 r5 h => ?_)
    refine z_iconst (v := (-1 : Int32)) C rfl d_HB_command_21 ?_
    refine z_icmp_eq (tgt := 43) C d_HB_command_22 rfl (fun c => ?_) (fun c => ?_)
    · have h := h.1 c
      refine z_aload_n C 1 rfl rfl d_HB_command_43 ?_
      refine gf_HB_host C (Or.inl tw_332) d_HB_command_44 ?_
      refine gf_Host_command C (Or.inr (List.mem_of_getElem? (i := 33) rfl)) d_HB_command_47 ?_
      refine z_iconst (v := (0 : Int32)) C rfl d_HB_command_50 ?_
      obtain ⟨f6, h⟩ := h
      refine z_callVv (rest := []) C q_Bytes_cut tw_374 (c_Bytes_cut _ B 29 (0 : Int32) S4 _ h) (rc_Bytes f6) ⟨Nat.le_of_ble_eq_true rfl, Nat.le_of_ble_eq_true rfl⟩ rfl rfl (Nat.le_of_ble_eq_true rfl) d_HB_command_51 (fun S7 h => ?_)
      refine z_aload_n C 1 rfl rfl d_HB_command_54 ?_
      refine gf_HB_host C (Or.inl tw_332) d_HB_command_55 ?_
      refine gf_Host_command C (Or.inr (List.mem_of_getElem? (i := 33) rfl)) d_HB_command_58 ?_
      refine z_aload_n C 1 rfl rfl d_HB_command_61 ?_
      refine gf_HB_tape C (Or.inl tw_329) d_HB_command_62 ?_
      refine z_iconst (v := (0 : Int32)) C rfl d_HB_command_65 ?_
      refine z_iload_n C 0 rfl rfl d_HB_command_66 ?_
      refine z_callVv (rest := []) C q_Bytes_append tw_551 (c_Bytes_append _ B 29 0 (0 : Int32) r3 S7 _ h) (rc_Bytes f6) ⟨Nat.le_of_ble_eq_true rfl, Nat.le_of_ble_eq_true rfl⟩ rfl rfl (Nat.le_of_ble_eq_true rfl) d_HB_command_67 (fun S8 h => ?_)
      refine z_aload_n C 1 rfl rfl d_HB_command_70 ?_
      refine gf_HB_tape C (Or.inl tw_329) d_HB_command_71 ?_
      refine z_iconst (v := (0 : Int32)) C rfl d_HB_command_74 ?_
      refine z_callVv (rest := []) C q_Bytes_cut tw_374 (c_Bytes_cut _ B 0 (0 : Int32) S8 _ h) (rc_Bytes f1) ⟨Nat.le_of_ble_eq_true rfl, Nat.le_of_ble_eq_true rfl⟩ rfl rfl (Nat.le_of_ble_eq_true rfl) d_HB_command_75 (fun S9 h => ?_)
      refine z_iload_n C 0 rfl rfl d_HB_command_78 ?_
      exact z_ireturnX C G hr h d_HB_command_79
    · have h := h.2 c
      exact z_sub [1] rfl (vj_HB_command_25 C P X G hr hnl S4 h)
theorem c_HB_command (l : Launch) (hst : l.stackTraces = false) (B : zK) (S : zS) (P : zS → Int32 → Prop) (X : String → zS → Prop) (h : w_HB_command S P X) : vx_Met l y_HB_command (Cond.code y_HB_command prog_1_method_7_code 2 (some FieldType.int) :: tT) (zRmX 6 82) (zPc (wC B) [.ref (ad B 0)] S) (zQ (wC B) (zPi P)) (zXc (wC B) X) 1 6 (wC B).2.2.2 :=
  z_metX hst (by decide) (Nat.le_of_ble_eq_true rfl) (fun E C G hr hnl => v_HB_command C P X G hr hnl S h)
theorem q_HB_command : zQw y_HB_command prog_1_method_7_code 2 (some FieldType.int) 0 := ⟨tw_621, tw_622, tw_76, tw_623, by decide +kernel⟩
def j_HB_run_11 (a1 : Int32) (P : zS → Int32 → Prop) (X : String → zS → Prop) (S : zS) : Prop :=
  X "java/lang/IllegalArgumentException" S
set_option maxRecDepth 20000 in
set_option maxHeartbeats 4000000 in
theorem vj_HB_run_11 {E : zE} {B : zK} (C : zC E (wC B) prog_1_method_10_code "HostBench" 7 155) (a1 : Int32) (P : zS → Int32 → Prop) (X : String → zS → Prop) (G : zGoalX E (zQ (wC B) (zPi P)) (wC B) X) (hr : zRt E (some .int)) (hnl : E.2.2.2.2.2.2.2.2.2.2.1 = 3) (S : zS) (h : j_HB_run_11 a1 P X S) : zV E (wC B) S 11 [] [] := by
  unfold j_HB_run_11 at h
  exact z_throwS (text := "not a number of steps that may be run") C G tw_535 tw_92 (List.mem_of_getElem? (i := 6) rfl) (List.mem_of_getElem? (i := 1) rfl) at_IllegalArgumentException gd_IllegalArgumentException (by decide +kernel) (Nat.le_of_ble_eq_true rfl) (Nat.le_of_ble_eq_true rfl) d_HB_run_11 d_HB_run_14 d_HB_run_15 d_HB_run_17 d_HB_run_20 h
def l_HB_run_23 (a1 : Int32) (P : zS → Int32 → Prop) (X : String → zS → Prop) : Nat → zS → Int32 → Prop
  | 0, _, _ => False
  | n + 1, S, x2 =>
  (a1 ≤ x2 → (P S x2)) ∧ (¬ a1 ≤ x2 → (((gM S 0 2) = 0 → (w_Guest_step S (fun S1 r2 => (r2 = 0 → (l_HB_run_23 a1 P X n S1 (x2 + (1 : Int32)))) ∧ (¬ r2 = 0 → (w_Host_answerCall S1 (fun S3 => l_HB_run_23 a1 P X n S3 (x2 + (1 : Int32)))))))) ∧ (¬ (gM S 0 2) = 0 → (P S x2))))
set_option maxRecDepth 20000 in
set_option maxHeartbeats 4000000 in
theorem vl_HB_run_23 {E : zE} {B : zK} (C : zC E (wC B) prog_1_method_10_code "HostBench" 7 155) (a1 : Int32) (P : zS → Int32 → Prop) (X : String → zS → Prop) (G : zGoalX E (zQ (wC B) (zPi P)) (wC B) X) (hr : zRt E (some .int)) (hnl : E.2.2.2.2.2.2.2.2.2.2.1 = 3) : ∀ (n : Nat) (S : zS) (x2 : Int32) , l_HB_run_23 a1 P X n S x2 → zV E (wC B) S 23 [(0, .ref (ad B 0)), (1, .int a1), (2, .int x2)] [] := by
  intro n
  induction n with
  | zero => intro S x2 h; exact h.elim
  | succ n ih =>
    intro S x2 h
    unfold l_HB_run_23 at h
    refine z_iload_n C 2 rfl rfl d_HB_run_23 ?_
    refine z_iload_n C 1 rfl rfl d_HB_run_24 ?_
    refine z_icmp_ge (tgt := 61) C d_HB_run_25 rfl (fun c => ?_) (fun c => ?_)
    · have h := h.1 c
      refine z_iload_n C 2 rfl rfl d_HB_run_61 ?_
      exact z_ireturnX C G hr h d_HB_run_62
    · have h := h.2 c
      refine z_aload_n C 0 rfl rfl d_HB_run_28 ?_
      refine gf_HB_guest C (Or.inl tw_335) d_HB_run_29 ?_
      refine gf_Guest_state C (Or.inr (List.mem_of_getElem? (i := 4) rfl)) d_HB_run_32 ?_
      refine z_if_ne (tgt := 61) C d_HB_run_35 rfl (fun c => ?_) (fun c => ?_)
      · have h := h.2 c
        refine z_iload_n C 2 rfl rfl d_HB_run_61 ?_
        exact z_ireturnX C G hr h d_HB_run_62
      · have h := h.1 c
        refine z_iinc (v := x2 + (1 : Int32)) (L' := [(2, .int (x2 + (1 : Int32))), (0, .ref (ad B 0)), (1, .int a1)]) C hnl 2 rfl rfl (by decide) rfl d_HB_run_38 ?_
        refine z_aload_n C 1 rfl rfl d_HB_run_41 ?_
        refine gf_HB_guest C (Or.inl tw_335) d_HB_run_42 ?_
        refine z_callVi (rest := []) C q_Guest_step tw_633 (c_Guest_step _ B S _ h) rc_Guest ⟨Nat.le_of_ble_eq_true rfl, Nat.le_of_ble_eq_true rfl⟩ rfl rfl (Nat.le_of_ble_eq_true rfl) d_HB_run_45 (fun S1 r2 h => ?_)
        refine z_if_eq (tgt := 23) C d_HB_run_48 rfl (fun c => ?_) (fun c => ?_)
        · have h := h.1 c
          exact z_sub [1, 2, 0] rfl (ih S1 (x2 + (1 : Int32)) h)
        · have h := h.2 c
          refine z_aload_n C 1 rfl rfl d_HB_run_51 ?_
          refine gf_HB_host C (Or.inl tw_332) d_HB_run_52 ?_
          refine z_callVv (rest := []) C q_Host_answerCall tw_726 (c_Host_answerCall _ B S1 _ h) rc_Host ⟨Nat.le_of_ble_eq_true rfl, Nat.le_of_ble_eq_true rfl⟩ rfl rfl (Nat.le_of_ble_eq_true rfl) d_HB_run_55 (fun S3 h => ?_)
          refine z_goto (tgt := 23) C d_HB_run_58 rfl ?_
          exact z_sub [1, 2, 0] rfl (ih S3 (x2 + (1 : Int32)) h)
def w_HB_run (a1 : Int32) (S : zS) (P : zS → Int32 → Prop) (X : String → zS → Prop) : Prop :=
  (a1 < 0 → (j_HB_run_11 a1 P X S)) ∧ (¬ a1 < 0 → ((a1 ≤ (5000 : Int32) → (∃ n1 : Nat, l_HB_run_23 a1 P X n1 S (0 : Int32))) ∧ (¬ a1 ≤ (5000 : Int32) → (j_HB_run_11 a1 P X S))))
set_option maxRecDepth 20000 in
set_option maxHeartbeats 4000000 in
theorem v_HB_run {E : zE} {B : zK} (C : zC E (wC B) prog_1_method_10_code "HostBench" 7 155) (a1 : Int32) (P : zS → Int32 → Prop) (X : String → zS → Prop) (G : zGoalX E (zQ (wC B) (zPi P)) (wC B) X) (hr : zRt E (some .int)) (hnl : E.2.2.2.2.2.2.2.2.2.2.1 = 3) (S : zS) (h : w_HB_run a1 S P X) : zV E (wC B) S 0 [(0, .ref (ad B 0)), (1, .int a1)] [] := by
  unfold w_HB_run at h
  refine z_iload_n C 1 rfl rfl d_HB_run_0 ?_
  refine z_if_lt (tgt := 11) C d_HB_run_1 rfl (fun c => ?_) (fun c => ?_)
  · have h := h.1 c
    exact z_sub [] rfl (vj_HB_run_11 C a1 P X G hr hnl S h)
  · have h := h.2 c
    refine z_iload_n C 1 rfl rfl d_HB_run_4 ?_
    refine z_sipush (v := (5000 : Int32)) C rfl d_HB_run_5 ?_
    refine z_icmp_le (tgt := 21) C d_HB_run_8 rfl (fun c => ?_) (fun c => ?_)
    · have h := h.1 c
      refine z_iconst (v := (0 : Int32)) C rfl d_HB_run_21 ?_
      refine z_istore_n (L' := [(2, .int (0 : Int32)), (0, .ref (ad B 0)), (1, .int a1)]) C hnl rfl (by decide) rfl d_HB_run_22 ?_
      obtain ⟨n1, h⟩ := h
      exact z_sub [1, 2, 0] rfl (vl_HB_run_23 C a1 P X G hr hnl n1 S (0 : Int32) h)
    · have h := h.2 c
      exact z_sub [] rfl (vj_HB_run_11 C a1 P X G hr hnl S h)
theorem c_HB_run (l : Launch) (hst : l.stackTraces = false) (B : zK) (a1 : Int32) (S : zS) (P : zS → Int32 → Prop) (X : String → zS → Prop) (h : w_HB_run a1 S P X) : vx_Met l y_HB_run (Cond.code y_HB_run prog_1_method_10_code 3 (some FieldType.int) :: tT) (zRmX 7 155) (zPc (wC B) [.ref (ad B 0), .int a1] S) (zQ (wC B) (zPi P)) (zXc (wC B) X) 1 6 (wC B).2.2.2 :=
  z_metX hst (by decide) (Nat.le_of_ble_eq_true rfl) (fun E C G hr hnl => v_HB_run C a1 P X G hr hnl S h)
theorem q_HB_run : zQw y_HB_run prog_1_method_10_code 3 (some FieldType.int) 1 := ⟨tw_629, tw_630, tw_76, tw_631, by decide +kernel⟩
def w_HB_look (a1 : Int32) (S : zS) (P : zS → Int32 → Prop) (X : String → zS → Prop) : Prop :=
  (a1 = (0 : Int32) → (P S (gM S 0 3))) ∧ (¬ a1 = (0 : Int32) → ((a1 = (1 : Int32) → (P S (gM S 0 4))) ∧ (¬ a1 = (1 : Int32) → ((a1 = (2 : Int32) → (P S (gM S 0 6))) ∧ (¬ a1 = (2 : Int32) → ((a1 = (3 : Int32) → (P S ((gJ S).toInt32))) ∧ (¬ a1 = (3 : Int32) → ((a1 = (4 : Int32) → (P S (gM S 0 8))) ∧ (¬ a1 = (4 : Int32) → ((a1 = (5 : Int32) → (P S (gM S 0 9))) ∧ (¬ a1 = (5 : Int32) → ((a1 = (6 : Int32) → (26 < 32 ∧ w_Bytes_size 26 S (fun S2 r3 => P S2 r3))) ∧ (¬ a1 = (6 : Int32) → ((a1 = (7 : Int32) → (P S (gM S 0 7))) ∧ (¬ a1 = (7 : Int32) → ((a1 = (8 : Int32) → (29 < 32 ∧ w_Bytes_size 29 S (fun S5 r6 => P S5 r6))) ∧ (¬ a1 = (8 : Int32) → (X "java/util/NoSuchElementException" S))))))))))))))))))
set_option maxRecDepth 20000 in
set_option maxHeartbeats 4000000 in
theorem v_HB_look {E : zE} {B : zK} (C : zC E (wC B) prog_1_method_12_code "HostBench" 6 82) (a1 : Int32) (P : zS → Int32 → Prop) (X : String → zS → Prop) (G : zGoalX E (zQ (wC B) (zPi P)) (wC B) X) (hr : zRt E (some .int)) (hnl : E.2.2.2.2.2.2.2.2.2.2.1 = 2) (S : zS) (h : w_HB_look a1 S P X) : zV E (wC B) S 0 [(0, .ref (ad B 0)), (1, .int a1)] [] := by
  unfold w_HB_look at h
  refine z_iload_n C 1 rfl rfl d_HB_look_0 ?_
  by_cases c0 : a1 = (0 : Int32)
  · have h := h.1 c0
    refine z_tableIn (off := 51) (tgt := 52) C d_HB_look_1 c0 (by decide) rfl rfl ?_
    refine z_aload_n C 0 rfl rfl d_HB_look_52 ?_
    refine gf_HB_guest C (Or.inl tw_335) d_HB_look_53 ?_
    refine gf_Guest_trap C (Or.inr (List.mem_of_getElem? (i := 5) rfl)) d_HB_look_56 ?_
    exact z_ireturnX C G hr h d_HB_look_59
  · have h := h.2 c0
    by_cases c1 : a1 = (1 : Int32)
    · have h := h.1 c1
      refine z_tableIn (off := 59) (tgt := 60) C d_HB_look_1 c1 (by decide) rfl rfl ?_
      refine z_aload_n C 0 rfl rfl d_HB_look_60 ?_
      refine gf_HB_guest C (Or.inl tw_335) d_HB_look_61 ?_
      refine gf_Guest_code C (Or.inr (List.mem_of_getElem? (i := 6) rfl)) d_HB_look_64 ?_
      exact z_ireturnX C G hr h d_HB_look_67
    · have h := h.2 c1
      by_cases c2 : a1 = (2 : Int32)
      · have h := h.1 c2
        refine z_tableIn (off := 67) (tgt := 68) C d_HB_look_1 c2 (by decide) rfl rfl ?_
        refine z_aload_n C 0 rfl rfl d_HB_look_68 ?_
        refine gf_HB_host C (Or.inl tw_332) d_HB_look_69 ?_
        refine gf_Host_errno C (Or.inr (List.mem_of_getElem? (i := 34) rfl)) d_HB_look_72 ?_
        exact z_ireturnX C G hr h d_HB_look_75
      · have h := h.2 c2
        by_cases c3 : a1 = (3 : Int32)
        · have h := h.1 c3
          refine z_tableIn (off := 75) (tgt := 76) C d_HB_look_1 c3 (by decide) rfl rfl ?_
          refine z_aload_n C 0 rfl rfl d_HB_look_76 ?_
          refine gf_HB_guest C (Or.inl tw_335) d_HB_look_77 ?_
          refine gf_Guest_steps C (Or.inr (List.mem_of_getElem? (i := 8) rfl)) d_HB_look_80 ?_
          refine z_l2i C d_HB_look_83 ?_
          exact z_ireturnX C G hr h d_HB_look_84
        · have h := h.2 c3
          by_cases c4 : a1 = (4 : Int32)
          · have h := h.1 c4
            refine z_tableIn (off := 84) (tgt := 85) C d_HB_look_1 c4 (by decide) rfl rfl ?_
            refine z_aload_n C 0 rfl rfl d_HB_look_85 ?_
            refine gf_HB_host C (Or.inl tw_332) d_HB_look_86 ?_
            refine gf_Host_calls C (Or.inr (List.mem_of_getElem? (i := 36) rfl)) d_HB_look_89 ?_
            exact z_ireturnX C G hr h d_HB_look_92
          · have h := h.2 c4
            by_cases c5 : a1 = (5 : Int32)
            · have h := h.1 c5
              refine z_tableIn (off := 92) (tgt := 93) C d_HB_look_1 c5 (by decide) rfl rfl ?_
              refine z_aload_n C 0 rfl rfl d_HB_look_93 ?_
              refine gf_HB_host C (Or.inl tw_332) d_HB_look_94 ?_
              refine gf_Host_latest C (Or.inr (List.mem_of_getElem? (i := 37) rfl)) d_HB_look_97 ?_
              exact z_ireturnX C G hr h d_HB_look_100
            · have h := h.2 c5
              by_cases c6 : a1 = (6 : Int32)
              · have h := h.1 c6
                refine z_tableIn (off := 100) (tgt := 101) C d_HB_look_1 c6 (by decide) rfl rfl ?_
                refine z_aload_n C 0 rfl rfl d_HB_look_101 ?_
                refine gf_HB_host C (Or.inl tw_332) d_HB_look_102 ?_
                refine gf_Host_input C (Or.inr (List.mem_of_getElem? (i := 30) rfl)) d_HB_look_105 ?_
                obtain ⟨f1, h⟩ := h
                refine z_callVi (rest := []) C q_Bytes_size tw_366 (c_Bytes_size _ B 26 S _ h) (rc_Bytes f1) ⟨Nat.le_of_ble_eq_true rfl, Nat.le_of_ble_eq_true rfl⟩ rfl rfl (Nat.le_of_ble_eq_true rfl) d_HB_look_108 (fun S2 r3 h => ?_)
                exact z_ireturnX C G hr h d_HB_look_111
              · have h := h.2 c6
                by_cases c7 : a1 = (7 : Int32)
                · have h := h.1 c7
                  refine z_tableIn (off := 111) (tgt := 112) C d_HB_look_1 c7 (by decide) rfl rfl ?_
                  refine z_aload_n C 0 rfl rfl d_HB_look_112 ?_
                  refine gf_HB_host C (Or.inl tw_332) d_HB_look_113 ?_
                  refine gf_Host_seconds C (Or.inr (List.mem_of_getElem? (i := 35) rfl)) d_HB_look_116 ?_
                  exact z_ireturnX C G hr h d_HB_look_119
                · have h := h.2 c7
                  by_cases c8 : a1 = (8 : Int32)
                  · have h := h.1 c8
                    refine z_tableIn (off := 119) (tgt := 120) C d_HB_look_1 c8 (by decide) rfl rfl ?_
                    refine z_aload_n C 0 rfl rfl d_HB_look_120 ?_
                    refine gf_HB_host C (Or.inl tw_332) d_HB_look_121 ?_
                    refine gf_Host_command C (Or.inr (List.mem_of_getElem? (i := 33) rfl)) d_HB_look_124 ?_
                    obtain ⟨f4, h⟩ := h
                    refine z_callVi (rest := []) C q_Bytes_size tw_366 (c_Bytes_size _ B 29 S _ h) (rc_Bytes f4) ⟨Nat.le_of_ble_eq_true rfl, Nat.le_of_ble_eq_true rfl⟩ rfl rfl (Nat.le_of_ble_eq_true rfl) d_HB_look_127 (fun S5 r6 h => ?_)
                    exact z_ireturnX C G hr h d_HB_look_130
                  · have h := h.2 c8
                    refine z_tableOut (tgt := 131) C d_HB_look_1 (by have n0 := lv_neT (a := 0) c0 rfl; have n1 := lv_neT (a := 1) c1 rfl; have n2 := lv_neT (a := 2) c2 rfl; have n3 := lv_neT (a := 3) c3 rfl; have n4 := lv_neT (a := 4) c4 rfl; have n5 := lv_neT (a := 5) c5 rfl; have n6 := lv_neT (a := 6) c6 rfl; have n7 := lv_neT (a := 7) c7 rfl; have n8 := lv_neT (a := 8) c8 rfl; omega) rfl ?_
                    exact z_throwNS (text := "there is nothing such to look at") C G tw_935 tw_95 (List.mem_of_getElem? (i := 7) rfl) (List.mem_of_getElem? (i := 4) rfl) at_NoSuchElementException gd_NoSuchElementException (by decide +kernel) (Nat.le_of_ble_eq_true rfl) (Nat.le_of_ble_eq_true rfl) d_HB_look_131 d_HB_look_134 d_HB_look_135 d_HB_look_137 d_HB_look_140 h
theorem c_HB_look (l : Launch) (hst : l.stackTraces = false) (B : zK) (a1 : Int32) (S : zS) (P : zS → Int32 → Prop) (X : String → zS → Prop) (h : w_HB_look a1 S P X) : vx_Met l y_HB_look (Cond.code y_HB_look prog_1_method_12_code 2 (some FieldType.int) :: tT) (zRmX 6 82) (zPc (wC B) [.ref (ad B 0), .int a1] S) (zQ (wC B) (zPi P)) (zXc (wC B) X) 1 6 (wC B).2.2.2 :=
  z_metX hst (by decide) (Nat.le_of_ble_eq_true rfl) (fun E C G hr hnl => v_HB_look C a1 P X G hr hnl S h)
theorem q_HB_look : zQw y_HB_look prog_1_method_12_code 2 (some FieldType.int) 1 := ⟨tw_932, tw_933, tw_76, tw_934, by decide +kernel⟩
def j_HB_register_10 (a1 : Int32) (P : zS → Int32 → Prop) (X : String → zS → Prop) (S : zS) : Prop :=
  X "java/util/NoSuchElementException" S
set_option maxRecDepth 20000 in
set_option maxHeartbeats 4000000 in
theorem vj_HB_register_10 {E : zE} {B : zK} (C : zC E (wC B) prog_1_method_13_code "HostBench" 6 82) (a1 : Int32) (P : zS → Int32 → Prop) (X : String → zS → Prop) (G : zGoalX E (zQ (wC B) (zPi P)) (wC B) X) (hr : zRt E (some .int)) (hnl : E.2.2.2.2.2.2.2.2.2.2.1 = 2) (S : zS) (h : j_HB_register_10 a1 P X S) : zV E (wC B) S 10 [] [] := by
  unfold j_HB_register_10 at h
  exact z_throwNS (text := "no such register") C G tw_935 tw_95 (List.mem_of_getElem? (i := 8) rfl) (List.mem_of_getElem? (i := 4) rfl) at_NoSuchElementException gd_NoSuchElementException (by decide +kernel) (Nat.le_of_ble_eq_true rfl) (Nat.le_of_ble_eq_true rfl) d_HB_register_10 d_HB_register_13 d_HB_register_14 d_HB_register_16 d_HB_register_19 h
def w_HB_register (a1 : Int32) (S : zS) (P : zS → Int32 → Prop) (X : String → zS → Prop) : Prop :=
  (a1 < 0 → (j_HB_register_10 a1 P X S)) ∧ (¬ a1 < 0 → ((a1 ≤ (32 : Int32) → ((a1 = (32 : Int32) → (P S (gM S 0 0))) ∧ (¬ a1 = (32 : Int32) → (w_Guest_value a1 S (fun S1 r2 => P S1 r2))))) ∧ (¬ a1 ≤ (32 : Int32) → (j_HB_register_10 a1 P X S))))
set_option maxRecDepth 20000 in
set_option maxHeartbeats 4000000 in
theorem v_HB_register {E : zE} {B : zK} (C : zC E (wC B) prog_1_method_13_code "HostBench" 6 82) (a1 : Int32) (P : zS → Int32 → Prop) (X : String → zS → Prop) (G : zGoalX E (zQ (wC B) (zPi P)) (wC B) X) (hr : zRt E (some .int)) (hnl : E.2.2.2.2.2.2.2.2.2.2.1 = 2) (S : zS) (h : w_HB_register a1 S P X) : zV E (wC B) S 0 [(0, .ref (ad B 0)), (1, .int a1)] [] := by
  unfold w_HB_register at h
  refine z_iload_n C 1 rfl rfl d_HB_register_0 ?_
  refine z_if_lt (tgt := 10) C d_HB_register_1 rfl (fun c => ?_) (fun c => ?_)
  · have h := h.1 c
    exact z_sub [] rfl (vj_HB_register_10 C a1 P X G hr hnl S h)
  · have h := h.2 c
    refine z_iload_n C 1 rfl rfl d_HB_register_4 ?_
    refine z_bipush (v := (32 : Int32)) C rfl d_HB_register_5 ?_
    refine z_icmp_le (tgt := 20) C d_HB_register_7 rfl (fun c => ?_) (fun c => ?_)
    · have h := h.1 c
      refine z_iload_n C 1 rfl rfl d_HB_register_20 ?_
      refine z_bipush (v := (32 : Int32)) C rfl d_HB_register_21 ?_
      refine z_icmp_ne (tgt := 36) C d_HB_register_23 rfl (fun c => ?_) (fun c => ?_)
      · have h := h.2 c
        refine z_aload_n C 0 rfl rfl d_HB_register_36 ?_
        refine gf_HB_guest C (Or.inl tw_335) d_HB_register_37 ?_
        refine z_iload_n C 1 rfl rfl d_HB_register_40 ?_
        refine z_callVi (rest := []) C q_Guest_value tw_959 (c_Guest_value _ B a1 S _ h) rc_Guest ⟨Nat.le_of_ble_eq_true rfl, Nat.le_of_ble_eq_true rfl⟩ rfl rfl (Nat.le_of_ble_eq_true rfl) d_HB_register_41 (fun S1 r2 h => ?_)
        exact z_ireturnX C G hr h d_HB_register_44
      · have h := h.1 c
        refine z_aload_n C 0 rfl rfl d_HB_register_26 ?_
        refine gf_HB_guest C (Or.inl tw_335) d_HB_register_27 ?_
        refine gf_Guest_pc C (Or.inr (List.mem_of_getElem? (i := 2) rfl)) d_HB_register_30 ?_
        refine z_goto (tgt := 44) C d_HB_register_33 rfl ?_
        exact z_ireturnX C G hr h d_HB_register_44
    · have h := h.2 c
      exact z_sub [] rfl (vj_HB_register_10 C a1 P X G hr hnl S h)
theorem c_HB_register (l : Launch) (hst : l.stackTraces = false) (B : zK) (a1 : Int32) (S : zS) (P : zS → Int32 → Prop) (X : String → zS → Prop) (h : w_HB_register a1 S P X) : vx_Met l y_HB_register (Cond.code y_HB_register prog_1_method_13_code 2 (some FieldType.int) :: tT) (zRmX 6 82) (zPc (wC B) [.ref (ad B 0), .int a1] S) (zQ (wC B) (zPi P)) (zXc (wC B) X) 1 6 (wC B).2.2.2 :=
  z_metX hst (by decide) (Nat.le_of_ble_eq_true rfl) (fun E C G hr hnl => v_HB_register C a1 P X G hr hnl S h)
theorem q_HB_register : zQw y_HB_register prog_1_method_13_code 2 (some FieldType.int) 1 := ⟨tw_955, tw_956, tw_76, tw_957, by decide +kernel⟩
def j_HB_file_22 (a1 : Int32) (a2 : Int32) (P : zS → Int32 → Prop) (X : String → zS → Prop) (S : zS) : Prop :=
  X "java/util/NoSuchElementException" S
set_option maxRecDepth 20000 in
set_option maxHeartbeats 4000000 in
theorem vj_HB_file_22 {E : zE} {B : zK} (C : zC E (wC B) prog_1_method_17_code "HostBench" 6 82) (a1 : Int32) (a2 : Int32) (P : zS → Int32 → Prop) (X : String → zS → Prop) (G : zGoalX E (zQ (wC B) (zPi P)) (wC B) X) (hr : zRt E (some .int)) (hnl : E.2.2.2.2.2.2.2.2.2.2.1 = 4) (S : zS) (h : j_HB_file_22 a1 a2 P X S) : zV E (wC B) S 22 [] [] := by
  unfold j_HB_file_22 at h
  exact z_throwNS (text := "no such file, or nothing such of it") C G tw_935 tw_95 (List.mem_of_getElem? (i := 9) rfl) (List.mem_of_getElem? (i := 4) rfl) at_NoSuchElementException gd_NoSuchElementException (by decide +kernel) (Nat.le_of_ble_eq_true rfl) (Nat.le_of_ble_eq_true rfl) d_HB_file_22 d_HB_file_25 d_HB_file_26 d_HB_file_28 d_HB_file_31 h
def w_HB_file (a1 : Int32) (a2 : Int32) (S : zS) (P : zS → Int32 → Prop) (X : String → zS → Prop) : Prop :=
  w_Folder_get a1 S (fun S1 o2 => (o2 = none → (j_HB_file_22 a1 a2 P X S1)) ∧ (∀ k3 : Nat, o2 = some k3 → ((a2 < 0 → (j_HB_file_22 a1 a2 P X S1)) ∧ (¬ a2 < 0 → ((a2 ≤ (2 : Int32) → ((a2 = 0 → (k3 < 12 ∧ (3 + 2 * k3) < 32 ∧ w_Bytes_size (3 + 2 * k3) S1 (fun S12 r13 => P S12 r13))) ∧ (¬ a2 = 0 → ((a2 = (1 : Int32) → (k3 < 12 ∧ (2 + 2 * k3) < 32 ∧ w_Bytes_size (2 + 2 * k3) S1 (fun S8 r9 => P S8 r9))) ∧ (¬ a2 = (1 : Int32) → (w_Desk_openOn k3 S1 (fun S4 r5 => P S4 r5))))))) ∧ (¬ a2 ≤ (2 : Int32) → (j_HB_file_22 a1 a2 P X S1)))))))
set_option maxRecDepth 20000 in
set_option maxHeartbeats 4000000 in
theorem v_HB_file {E : zE} {B : zK} (C : zC E (wC B) prog_1_method_17_code "HostBench" 6 82) (a1 : Int32) (a2 : Int32) (P : zS → Int32 → Prop) (X : String → zS → Prop) (G : zGoalX E (zQ (wC B) (zPi P)) (wC B) X) (hr : zRt E (some .int)) (hnl : E.2.2.2.2.2.2.2.2.2.2.1 = 4) (S : zS) (h : w_HB_file a1 a2 S P X) : zV E (wC B) S 0 [(0, .ref (ad B 0)), (1, .int a1), (2, .int a2)] [] := by
  unfold w_HB_file at h
  refine z_aload_n C 0 rfl rfl d_HB_file_0 ?_
  refine gf_HB_folder C (Or.inl tw_333) d_HB_file_1 ?_
  refine z_iload_n C 1 rfl rfl d_HB_file_4 ?_
  refine z_callVq (rest := []) C q_Folder_get tw_418 (c_Folder_get _ B a1 S _ h) rc_Folder ⟨Nat.le_of_ble_eq_true rfl, Nat.le_of_ble_eq_true rfl⟩ rfl rfl (Nat.le_of_ble_eq_true rfl) d_HB_file_5 (fun S1 o2 h => ?_)
  refine z_astore_nq (x := (o2).map (fun k => ad B (13 + k))) (L' := [(3, va_rf ((o2).map (fun k => ad B (13 + k)))), (0, .ref (ad B 0)), (1, .int a1), (2, .int a2)]) C hnl rfl (by decide) rfl d_HB_file_8 ?_
  refine z_aload_nq (x := (o2).map (fun k => ad B (13 + k))) C 0 rfl rfl d_HB_file_9 ?_
  cases o2 with
  | none =>
    have h := h.1 rfl
    show zV E (wC B) S1 10 [(3, .null), (0, .ref (ad B 0)), (1, .int a1), (2, .int a2)] [.null]
    refine z_ifnullN (tgt := 22) C d_HB_file_10 rfl ?_
    exact z_sub [] rfl (vj_HB_file_22 C a1 a2 P X G hr hnl S1 h)
  | some k3 =>
    have h := h.2 k3 rfl
    show zV E (wC B) S1 10 [(3, .ref (ad B (13 + k3))), (0, .ref (ad B 0)), (1, .int a1), (2, .int a2)] [.ref (ad B (13 + k3))]
    refine z_ifnull (tgt := 22) C d_HB_file_10 rfl ?_
    refine z_iload_n C 3 rfl rfl d_HB_file_13 ?_
    refine z_if_lt (tgt := 22) C d_HB_file_14 rfl (fun c => ?_) (fun c => ?_)
    · have h := h.1 c
      exact z_sub [] rfl (vj_HB_file_22 C a1 a2 P X G hr hnl S1 h)
    · have h := h.2 c
      refine z_iload_n C 3 rfl rfl d_HB_file_17 ?_
      refine z_iconst (v := (2 : Int32)) C rfl d_HB_file_18 ?_
      refine z_icmp_le (tgt := 32) C d_HB_file_19 rfl (fun c => ?_) (fun c => ?_)
      · have h := h.1 c
        refine z_iload_n C 3 rfl rfl d_HB_file_32 ?_
        refine z_if_ne (tgt := 44) C d_HB_file_33 rfl (fun c => ?_) (fun c => ?_)
        · have h := h.2 c
          refine z_iload_n C 3 rfl rfl d_HB_file_44 ?_
          refine z_iconst (v := (1 : Int32)) C rfl d_HB_file_45 ?_
          refine z_icmp_ne (tgt := 59) C d_HB_file_46 rfl (fun c => ?_) (fun c => ?_)
          · have h := h.2 c
            refine z_aload_n C 1 rfl rfl d_HB_file_59 ?_
            refine gf_HB_desk C (Or.inl tw_334) d_HB_file_60 ?_
            refine z_aload_n C 0 rfl rfl d_HB_file_63 ?_
            refine z_callVi (rest := []) C q_Desk_openOn tw_566 (c_Desk_openOn _ B k3 S1 _ h) rc_Desk ⟨Nat.le_of_ble_eq_true rfl, Nat.le_of_ble_eq_true rfl⟩ rfl rfl (Nat.le_of_ble_eq_true rfl) d_HB_file_64 (fun S4 r5 h => ?_)
            exact z_ireturnX C G hr h d_HB_file_67
          · have h := h.1 c
            refine z_aload_n C 0 rfl rfl d_HB_file_49 ?_
            obtain ⟨f6, h⟩ := h
            refine gf_HostFile_name C f6 (Or.inr (List.mem_of_getElem? (i := 10) rfl)) d_HB_file_50 ?_
            obtain ⟨f7, h⟩ := h
            refine z_callVi (rest := []) C q_Bytes_size tw_366 (c_Bytes_size _ B (2 + 2 * k3) S1 _ h) (rc_Bytes f7) ⟨Nat.le_of_ble_eq_true rfl, Nat.le_of_ble_eq_true rfl⟩ rfl rfl (Nat.le_of_ble_eq_true rfl) d_HB_file_53 (fun S8 r9 h => ?_)
            refine z_goto (tgt := 67) C d_HB_file_56 rfl ?_
            exact z_ireturnX C G hr h d_HB_file_67
        · have h := h.1 c
          refine z_aload_n C 0 rfl rfl d_HB_file_36 ?_
          obtain ⟨f10, h⟩ := h
          refine gf_HostFile_content C f10 (Or.inr (List.mem_of_getElem? (i := 13) rfl)) d_HB_file_37 ?_
          obtain ⟨f11, h⟩ := h
          refine z_callVi (rest := []) C q_Bytes_size tw_366 (c_Bytes_size _ B (3 + 2 * k3) S1 _ h) (rc_Bytes f11) ⟨Nat.le_of_ble_eq_true rfl, Nat.le_of_ble_eq_true rfl⟩ rfl rfl (Nat.le_of_ble_eq_true rfl) d_HB_file_40 (fun S12 r13 h => ?_)
          exact z_ireturnX C G hr h d_HB_file_43
      · have h := h.2 c
        exact z_sub [] rfl (vj_HB_file_22 C a1 a2 P X G hr hnl S1 h)
theorem c_HB_file (l : Launch) (hst : l.stackTraces = false) (B : zK) (a1 : Int32) (a2 : Int32) (S : zS) (P : zS → Int32 → Prop) (X : String → zS → Prop) (h : w_HB_file a1 a2 S P X) : vx_Met l y_HB_file (Cond.code y_HB_file prog_1_method_17_code 4 (some FieldType.int) :: tT) (zRmX 6 82) (zPc (wC B) [.ref (ad B 0), .int a1, .int a2] S) (zQ (wC B) (zPi P)) (zXc (wC B) X) 1 6 (wC B).2.2.2 :=
  z_metX hst (by decide) (Nat.le_of_ble_eq_true rfl) (fun E C G hr hnl => v_HB_file C a1 a2 P X G hr hnl S h)
theorem q_HB_file : zQw y_HB_file prog_1_method_17_code 4 (some FieldType.int) 2 := ⟨tw_964, tw_965, tw_76, tw_966, by decide +kernel⟩
def j_HB_handle_22 (a1 : Int32) (a2 : Int32) (P : zS → Int32 → Prop) (X : String → zS → Prop) (S : zS) : Prop :=
  X "java/util/NoSuchElementException" S
set_option maxRecDepth 20000 in
set_option maxHeartbeats 4000000 in
theorem vj_HB_handle_22 {E : zE} {B : zK} (C : zC E (wC B) prog_1_method_19_code "HostBench" 6 82) (a1 : Int32) (a2 : Int32) (P : zS → Int32 → Prop) (X : String → zS → Prop) (G : zGoalX E (zQ (wC B) (zPi P)) (wC B) X) (hr : zRt E (some .int)) (hnl : E.2.2.2.2.2.2.2.2.2.2.1 = 4) (S : zS) (h : j_HB_handle_22 a1 a2 P X S) : zV E (wC B) S 22 [] [] := by
  unfold j_HB_handle_22 at h
  exact z_throwNS (text := "no such handle, or nothing such of it") C G tw_935 tw_95 (List.mem_of_getElem? (i := 10) rfl) (List.mem_of_getElem? (i := 4) rfl) at_NoSuchElementException gd_NoSuchElementException (by decide +kernel) (Nat.le_of_ble_eq_true rfl) (Nat.le_of_ble_eq_true rfl) d_HB_handle_22 d_HB_handle_25 d_HB_handle_26 d_HB_handle_28 d_HB_handle_31 h
def w_HB_handle (a1 : Int32) (a2 : Int32) (S : zS) (P : zS → Int32 → Prop) (X : String → zS → Prop) : Prop :=
  w_Desk_get a1 S (fun S1 o2 => (o2 = none → (j_HB_handle_22 a1 a2 P X S1)) ∧ (∀ k3 : Nat, o2 = some k3 → ((a2 < 0 → (j_HB_handle_22 a1 a2 P X S1)) ∧ (¬ a2 < 0 → ((a2 ≤ (3 : Int32) → ((a2 = 0 → (k3 < 10 ∧ P S1 (gM S1 4 k3))) ∧ (¬ a2 = 0 → (k3 < 10 ∧ ((gM S1 4 k3) = 0 → (P S1 (-1 : Int32))) ∧ (¬ (gM S1 4 k3) = 0 → ((a2 = (1 : Int32) → (P S1 (gM S1 5 k3))) ∧ (¬ a2 = (1 : Int32) → ((a2 = (2 : Int32) → (∀ o5 : Option Nat, o5 = gH S1 k3 → w_Folder_numberOf o5 S1 (fun S6 r7 => P S6 r7))) ∧ (¬ a2 = (2 : Int32) → (P S1 (gM S1 6 k3))))))))))) ∧ (¬ a2 ≤ (3 : Int32) → (j_HB_handle_22 a1 a2 P X S1)))))))
set_option maxRecDepth 20000 in
set_option maxHeartbeats 4000000 in
theorem v_HB_handle {E : zE} {B : zK} (C : zC E (wC B) prog_1_method_19_code "HostBench" 6 82) (a1 : Int32) (a2 : Int32) (P : zS → Int32 → Prop) (X : String → zS → Prop) (G : zGoalX E (zQ (wC B) (zPi P)) (wC B) X) (hr : zRt E (some .int)) (hnl : E.2.2.2.2.2.2.2.2.2.2.1 = 4) (S : zS) (h : w_HB_handle a1 a2 S P X) : zV E (wC B) S 0 [(0, .ref (ad B 0)), (1, .int a1), (2, .int a2)] [] := by
  unfold w_HB_handle at h
  refine z_aload_n C 0 rfl rfl d_HB_handle_0 ?_
  refine gf_HB_desk C (Or.inl tw_334) d_HB_handle_1 ?_
  refine z_iload_n C 1 rfl rfl d_HB_handle_4 ?_
  refine z_callVq (rest := []) C q_Desk_get tw_975 (c_Desk_get _ B a1 S _ h) rc_Desk ⟨Nat.le_of_ble_eq_true rfl, Nat.le_of_ble_eq_true rfl⟩ rfl rfl (Nat.le_of_ble_eq_true rfl) d_HB_handle_5 (fun S1 o2 h => ?_)
  refine z_astore_nq (x := (o2).map (fun k => ad B (25 + k))) (L' := [(3, va_rf ((o2).map (fun k => ad B (25 + k)))), (0, .ref (ad B 0)), (1, .int a1), (2, .int a2)]) C hnl rfl (by decide) rfl d_HB_handle_8 ?_
  refine z_aload_nq (x := (o2).map (fun k => ad B (25 + k))) C 0 rfl rfl d_HB_handle_9 ?_
  cases o2 with
  | none =>
    have h := h.1 rfl
    show zV E (wC B) S1 10 [(3, .null), (0, .ref (ad B 0)), (1, .int a1), (2, .int a2)] [.null]
    refine z_ifnullN (tgt := 22) C d_HB_handle_10 rfl ?_
    exact z_sub [] rfl (vj_HB_handle_22 C a1 a2 P X G hr hnl S1 h)
  | some k3 =>
    have h := h.2 k3 rfl
    show zV E (wC B) S1 10 [(3, .ref (ad B (25 + k3))), (0, .ref (ad B 0)), (1, .int a1), (2, .int a2)] [.ref (ad B (25 + k3))]
    refine z_ifnull (tgt := 22) C d_HB_handle_10 rfl ?_
    refine z_iload_n C 3 rfl rfl d_HB_handle_13 ?_
    refine z_if_lt (tgt := 22) C d_HB_handle_14 rfl (fun c => ?_) (fun c => ?_)
    · have h := h.1 c
      exact z_sub [] rfl (vj_HB_handle_22 C a1 a2 P X G hr hnl S1 h)
    · have h := h.2 c
      refine z_iload_n C 3 rfl rfl d_HB_handle_17 ?_
      refine z_iconst (v := (3 : Int32)) C rfl d_HB_handle_18 ?_
      refine z_icmp_le (tgt := 32) C d_HB_handle_19 rfl (fun c => ?_) (fun c => ?_)
      · have h := h.1 c
        refine z_iload_n C 3 rfl rfl d_HB_handle_32 ?_
        refine z_if_ne (tgt := 41) C d_HB_handle_33 rfl (fun c => ?_) (fun c => ?_)
        · have h := h.2 c
          refine z_aload_n C 0 rfl rfl d_HB_handle_41 ?_
          obtain ⟨f4, h⟩ := h
          refine gf_Handle_kind C f4 (Or.inr (List.mem_of_getElem? (i := 18) rfl)) d_HB_handle_42 ?_
          refine z_if_ne (tgt := 50) C d_HB_handle_45 rfl (fun c => ?_) (fun c => ?_)
          · have h := h.2 c
            refine z_iload_n C 3 rfl rfl d_HB_handle_50 ?_
            refine z_iconst (v := (1 : Int32)) C rfl d_HB_handle_51 ?_
            refine z_icmp_ne (tgt := 60) C d_HB_handle_52 rfl (fun c => ?_) (fun c => ?_)
            · have h := h.2 c
              refine z_iload_n C 3 rfl rfl d_HB_handle_60 ?_
              refine z_iconst (v := (2 : Int32)) C rfl d_HB_handle_61 ?_
              refine z_icmp_ne (tgt := 79) C d_HB_handle_62 rfl (fun c => ?_) (fun c => ?_)
              · have h := h.2 c
                refine z_aload_n C 0 rfl rfl d_HB_handle_79 ?_
                refine gf_Handle_rights C f4 (Or.inr (List.mem_of_getElem? (i := 24) rfl)) d_HB_handle_80 ?_
                exact z_ireturnX C G hr h d_HB_handle_83
              · have h := h.1 c
                refine z_aload_n C 1 rfl rfl d_HB_handle_65 ?_
                refine gf_HB_folder C (Or.inl tw_333) d_HB_handle_66 ?_
                refine z_aload_n C 0 rfl rfl d_HB_handle_69 ?_
                refine gf_Handle_file C f4 (Or.inr (List.mem_of_getElem? (i := 21) rfl)) d_HB_handle_70 ?_
                refine z_topq (f := fun k => ad B (13 + k)) (fun o5 eo5 => ?_)
                have h := h o5 eo5
                refine z_callVi (rest := []) C q_Folder_numberOf tw_977 (c_Folder_numberOf _ B o5 S1 _ h) rc_Folder ⟨Nat.le_of_ble_eq_true rfl, Nat.le_of_ble_eq_true rfl⟩ rfl rfl (Nat.le_of_ble_eq_true rfl) d_HB_handle_73 (fun S6 r7 h => ?_)
                refine z_goto (tgt := 83) C d_HB_handle_76 rfl ?_
                exact z_ireturnX C G hr h d_HB_handle_83
            · have h := h.1 c
              refine z_aload_n C 0 rfl rfl d_HB_handle_55 ?_
              refine gf_Handle_place C f4 (Or.inr (List.mem_of_getElem? (i := 23) rfl)) d_HB_handle_56 ?_
              exact z_ireturnX C G hr h d_HB_handle_59
          · have h := h.1 c
            refine z_iconst (v := (-1 : Int32)) C rfl d_HB_handle_48 ?_
            exact z_ireturnX C G hr h d_HB_handle_49
        · have h := h.1 c
          refine z_aload_n C 0 rfl rfl d_HB_handle_36 ?_
          obtain ⟨f8, h⟩ := h
          refine gf_Handle_kind C f8 (Or.inr (List.mem_of_getElem? (i := 18) rfl)) d_HB_handle_37 ?_
          exact z_ireturnX C G hr h d_HB_handle_40
      · have h := h.2 c
        exact z_sub [] rfl (vj_HB_handle_22 C a1 a2 P X G hr hnl S1 h)
theorem c_HB_handle (l : Launch) (hst : l.stackTraces = false) (B : zK) (a1 : Int32) (a2 : Int32) (S : zS) (P : zS → Int32 → Prop) (X : String → zS → Prop) (h : w_HB_handle a1 a2 S P X) : vx_Met l y_HB_handle (Cond.code y_HB_handle prog_1_method_19_code 4 (some FieldType.int) :: tT) (zRmX 6 82) (zPc (wC B) [.ref (ad B 0), .int a1, .int a2] S) (zQ (wC B) (zPi P)) (zXc (wC B) X) 1 6 (wC B).2.2.2 :=
  z_metX hst (by decide) (Nat.le_of_ble_eq_true rfl) (fun E C G hr hnl => v_HB_handle C a1 a2 P X G hr hnl S h)
theorem q_HB_handle : zQw y_HB_handle prog_1_method_19_code 4 (some FieldType.int) 2 := ⟨tw_972, tw_973, tw_76, tw_974, by decide +kernel⟩
