def w_Host_fieldsOf (a1 : Int32) (S : zS) (P : zS → Int32 → Prop) : Prop :=
  (a1 = (1 : Int32) → (P S (3 : Int32))) ∧ (¬ a1 = (1 : Int32) → ((a1 = (2 : Int32) → (P S (1 : Int32))) ∧ (¬ a1 = (2 : Int32) → ((a1 = (5 : Int32) → (P S (3 : Int32))) ∧ (¬ a1 = (5 : Int32) → ((a1 = (6 : Int32) → (P S (3 : Int32))) ∧ (¬ a1 = (6 : Int32) → ((a1 = (8 : Int32) → (P S (1 : Int32))) ∧ (¬ a1 = (8 : Int32) → ((a1 = (9 : Int32) → (P S (1 : Int32))) ∧ (¬ a1 = (9 : Int32) → ((a1 = (10 : Int32) → (P S (2 : Int32))) ∧ (¬ a1 = (10 : Int32) → ((a1 = (12 : Int32) → (P S (1 : Int32))) ∧ (¬ a1 = (12 : Int32) → ((a1 = (13 : Int32) → (P S (3 : Int32))) ∧ (¬ a1 = (13 : Int32) → ((a1 = (14 : Int32) → (P S (2 : Int32))) ∧ (¬ a1 = (14 : Int32) → ((a1 = (15 : Int32) → (P S (4 : Int32))) ∧ (¬ a1 = (15 : Int32) → ((a1 = (18 : Int32) → (P S (2 : Int32))) ∧ (¬ a1 = (18 : Int32) → ((a1 = (21 : Int32) → (P S (2 : Int32))) ∧ (¬ a1 = (21 : Int32) → ((a1 = (22 : Int32) → (P S (1 : Int32))) ∧ (¬ a1 = (22 : Int32) → ((a1 = (32 : Int32) → (P S (2 : Int32))) ∧ (¬ a1 = (32 : Int32) → (P S (0 : Int32)))))))))))))))))))))))))))))))
set_option maxRecDepth 20000 in
set_option maxHeartbeats 4000000 in
theorem v_Host_fieldsOf {E : zE} {B : zK} (C : zC E (wC B) prog_7_method_3_code "HostBench$Host" 0 0) (a1 : Int32) (P : zS → Int32 → Prop) (G : zGoal E (zQ (wC B) (zPi P)) (wC B)) (hr : zRt E (some .int)) (hnl : E.2.2.2.2.2.2.2.2.2.2.1 = 1) (S : zS) (h : w_Host_fieldsOf a1 S P) : zV E (wC B) S 0 [(0, .int a1)] [] := by
  unfold w_Host_fieldsOf at h
  refine z_iload_n C 0 rfl rfl d_Host_fieldsOf_0 ?_
  by_cases c0 : a1 = (1 : Int32)
  · have h := h.1 c0
    refine z_tableIn (off := 147) (tgt := 148) C d_Host_fieldsOf_1 c0 (by decide) rfl rfl ?_
    refine z_iconst (v := (3 : Int32)) C rfl d_Host_fieldsOf_148 ?_
    exact z_ireturn C G hr h d_Host_fieldsOf_149
  · have h := h.2 c0
    by_cases c1 : a1 = (2 : Int32)
    · have h := h.1 c1
      refine z_tableIn (off := 143) (tgt := 144) C d_Host_fieldsOf_1 c1 (by decide) rfl rfl ?_
      refine z_iconst (v := (1 : Int32)) C rfl d_Host_fieldsOf_144 ?_
      exact z_ireturn C G hr h d_Host_fieldsOf_145
    · have h := h.2 c1
      by_cases c2 : a1 = (5 : Int32)
      · have h := h.1 c2
        refine z_tableIn (off := 147) (tgt := 148) C d_Host_fieldsOf_1 c2 (by decide) rfl rfl ?_
        refine z_iconst (v := (3 : Int32)) C rfl d_Host_fieldsOf_148 ?_
        exact z_ireturn C G hr h d_Host_fieldsOf_149
      · have h := h.2 c2
        by_cases c3 : a1 = (6 : Int32)
        · have h := h.1 c3
          refine z_tableIn (off := 147) (tgt := 148) C d_Host_fieldsOf_1 c3 (by decide) rfl rfl ?_
          refine z_iconst (v := (3 : Int32)) C rfl d_Host_fieldsOf_148 ?_
          exact z_ireturn C G hr h d_Host_fieldsOf_149
        · have h := h.2 c3
          by_cases c4 : a1 = (8 : Int32)
          · have h := h.1 c4
            refine z_tableIn (off := 143) (tgt := 144) C d_Host_fieldsOf_1 c4 (by decide) rfl rfl ?_
            refine z_iconst (v := (1 : Int32)) C rfl d_Host_fieldsOf_144 ?_
            exact z_ireturn C G hr h d_Host_fieldsOf_145
          · have h := h.2 c4
            by_cases c5 : a1 = (9 : Int32)
            · have h := h.1 c5
              refine z_tableIn (off := 143) (tgt := 144) C d_Host_fieldsOf_1 c5 (by decide) rfl rfl ?_
              refine z_iconst (v := (1 : Int32)) C rfl d_Host_fieldsOf_144 ?_
              exact z_ireturn C G hr h d_Host_fieldsOf_145
            · have h := h.2 c5
              by_cases c6 : a1 = (10 : Int32)
              · have h := h.1 c6
                refine z_tableIn (off := 145) (tgt := 146) C d_Host_fieldsOf_1 c6 (by decide) rfl rfl ?_
                refine z_iconst (v := (2 : Int32)) C rfl d_Host_fieldsOf_146 ?_
                exact z_ireturn C G hr h d_Host_fieldsOf_147
              · have h := h.2 c6
                by_cases c7 : a1 = (12 : Int32)
                · have h := h.1 c7
                  refine z_tableIn (off := 143) (tgt := 144) C d_Host_fieldsOf_1 c7 (by decide) rfl rfl ?_
                  refine z_iconst (v := (1 : Int32)) C rfl d_Host_fieldsOf_144 ?_
                  exact z_ireturn C G hr h d_Host_fieldsOf_145
                · have h := h.2 c7
                  by_cases c8 : a1 = (13 : Int32)
                  · have h := h.1 c8
                    refine z_tableIn (off := 147) (tgt := 148) C d_Host_fieldsOf_1 c8 (by decide) rfl rfl ?_
                    refine z_iconst (v := (3 : Int32)) C rfl d_Host_fieldsOf_148 ?_
                    exact z_ireturn C G hr h d_Host_fieldsOf_149
                  · have h := h.2 c8
                    by_cases c9 : a1 = (14 : Int32)
                    · have h := h.1 c9
                      refine z_tableIn (off := 145) (tgt := 146) C d_Host_fieldsOf_1 c9 (by decide) rfl rfl ?_
                      refine z_iconst (v := (2 : Int32)) C rfl d_Host_fieldsOf_146 ?_
                      exact z_ireturn C G hr h d_Host_fieldsOf_147
                    · have h := h.2 c9
                      by_cases c10 : a1 = (15 : Int32)
                      · have h := h.1 c10
                        refine z_tableIn (off := 149) (tgt := 150) C d_Host_fieldsOf_1 c10 (by decide) rfl rfl ?_
                        refine z_iconst (v := (4 : Int32)) C rfl d_Host_fieldsOf_150 ?_
                        exact z_ireturn C G hr h d_Host_fieldsOf_151
                      · have h := h.2 c10
                        by_cases c11 : a1 = (18 : Int32)
                        · have h := h.1 c11
                          refine z_tableIn (off := 145) (tgt := 146) C d_Host_fieldsOf_1 c11 (by decide) rfl rfl ?_
                          refine z_iconst (v := (2 : Int32)) C rfl d_Host_fieldsOf_146 ?_
                          exact z_ireturn C G hr h d_Host_fieldsOf_147
                        · have h := h.2 c11
                          by_cases c12 : a1 = (21 : Int32)
                          · have h := h.1 c12
                            refine z_tableIn (off := 145) (tgt := 146) C d_Host_fieldsOf_1 c12 (by decide) rfl rfl ?_
                            refine z_iconst (v := (2 : Int32)) C rfl d_Host_fieldsOf_146 ?_
                            exact z_ireturn C G hr h d_Host_fieldsOf_147
                          · have h := h.2 c12
                            by_cases c13 : a1 = (22 : Int32)
                            · have h := h.1 c13
                              refine z_tableIn (off := 143) (tgt := 144) C d_Host_fieldsOf_1 c13 (by decide) rfl rfl ?_
                              refine z_iconst (v := (1 : Int32)) C rfl d_Host_fieldsOf_144 ?_
                              exact z_ireturn C G hr h d_Host_fieldsOf_145
                            · have h := h.2 c13
                              by_cases c14 : a1 = (32 : Int32)
                              · have h := h.1 c14
                                refine z_tableIn (off := 145) (tgt := 146) C d_Host_fieldsOf_1 c14 (by decide) rfl rfl ?_
                                refine z_iconst (v := (2 : Int32)) C rfl d_Host_fieldsOf_146 ?_
                                exact z_ireturn C G hr h d_Host_fieldsOf_147
                              · have h := h.2 c14
                                by_cases m3 : a1 = (3 : Int32)
                                · refine z_tableIn (off := 151) (tgt := 152) C d_Host_fieldsOf_1 m3 (by decide) rfl rfl ?_
                                  refine z_iconst (v := (0 : Int32)) C rfl d_Host_fieldsOf_152 ?_
                                  exact z_ireturn C G hr h d_Host_fieldsOf_153
                                by_cases m4 : a1 = (4 : Int32)
                                · refine z_tableIn (off := 151) (tgt := 152) C d_Host_fieldsOf_1 m4 (by decide) rfl rfl ?_
                                  refine z_iconst (v := (0 : Int32)) C rfl d_Host_fieldsOf_152 ?_
                                  exact z_ireturn C G hr h d_Host_fieldsOf_153
                                by_cases m7 : a1 = (7 : Int32)
                                · refine z_tableIn (off := 151) (tgt := 152) C d_Host_fieldsOf_1 m7 (by decide) rfl rfl ?_
                                  refine z_iconst (v := (0 : Int32)) C rfl d_Host_fieldsOf_152 ?_
                                  exact z_ireturn C G hr h d_Host_fieldsOf_153
                                by_cases m11 : a1 = (11 : Int32)
                                · refine z_tableIn (off := 151) (tgt := 152) C d_Host_fieldsOf_1 m11 (by decide) rfl rfl ?_
                                  refine z_iconst (v := (0 : Int32)) C rfl d_Host_fieldsOf_152 ?_
                                  exact z_ireturn C G hr h d_Host_fieldsOf_153
                                by_cases m16 : a1 = (16 : Int32)
                                · refine z_tableIn (off := 151) (tgt := 152) C d_Host_fieldsOf_1 m16 (by decide) rfl rfl ?_
                                  refine z_iconst (v := (0 : Int32)) C rfl d_Host_fieldsOf_152 ?_
                                  exact z_ireturn C G hr h d_Host_fieldsOf_153
                                by_cases m17 : a1 = (17 : Int32)
                                · refine z_tableIn (off := 151) (tgt := 152) C d_Host_fieldsOf_1 m17 (by decide) rfl rfl ?_
                                  refine z_iconst (v := (0 : Int32)) C rfl d_Host_fieldsOf_152 ?_
                                  exact z_ireturn C G hr h d_Host_fieldsOf_153
                                by_cases m19 : a1 = (19 : Int32)
                                · refine z_tableIn (off := 151) (tgt := 152) C d_Host_fieldsOf_1 m19 (by decide) rfl rfl ?_
                                  refine z_iconst (v := (0 : Int32)) C rfl d_Host_fieldsOf_152 ?_
                                  exact z_ireturn C G hr h d_Host_fieldsOf_153
                                by_cases m20 : a1 = (20 : Int32)
                                · refine z_tableIn (off := 151) (tgt := 152) C d_Host_fieldsOf_1 m20 (by decide) rfl rfl ?_
                                  refine z_iconst (v := (0 : Int32)) C rfl d_Host_fieldsOf_152 ?_
                                  exact z_ireturn C G hr h d_Host_fieldsOf_153
                                by_cases m23 : a1 = (23 : Int32)
                                · refine z_tableIn (off := 151) (tgt := 152) C d_Host_fieldsOf_1 m23 (by decide) rfl rfl ?_
                                  refine z_iconst (v := (0 : Int32)) C rfl d_Host_fieldsOf_152 ?_
                                  exact z_ireturn C G hr h d_Host_fieldsOf_153
                                by_cases m24 : a1 = (24 : Int32)
                                · refine z_tableIn (off := 151) (tgt := 152) C d_Host_fieldsOf_1 m24 (by decide) rfl rfl ?_
                                  refine z_iconst (v := (0 : Int32)) C rfl d_Host_fieldsOf_152 ?_
                                  exact z_ireturn C G hr h d_Host_fieldsOf_153
                                by_cases m25 : a1 = (25 : Int32)
                                · refine z_tableIn (off := 151) (tgt := 152) C d_Host_fieldsOf_1 m25 (by decide) rfl rfl ?_
                                  refine z_iconst (v := (0 : Int32)) C rfl d_Host_fieldsOf_152 ?_
                                  exact z_ireturn C G hr h d_Host_fieldsOf_153
                                by_cases m26 : a1 = (26 : Int32)
                                · refine z_tableIn (off := 151) (tgt := 152) C d_Host_fieldsOf_1 m26 (by decide) rfl rfl ?_
                                  refine z_iconst (v := (0 : Int32)) C rfl d_Host_fieldsOf_152 ?_
                                  exact z_ireturn C G hr h d_Host_fieldsOf_153
                                by_cases m27 : a1 = (27 : Int32)
                                · refine z_tableIn (off := 151) (tgt := 152) C d_Host_fieldsOf_1 m27 (by decide) rfl rfl ?_
                                  refine z_iconst (v := (0 : Int32)) C rfl d_Host_fieldsOf_152 ?_
                                  exact z_ireturn C G hr h d_Host_fieldsOf_153
                                by_cases m28 : a1 = (28 : Int32)
                                · refine z_tableIn (off := 151) (tgt := 152) C d_Host_fieldsOf_1 m28 (by decide) rfl rfl ?_
                                  refine z_iconst (v := (0 : Int32)) C rfl d_Host_fieldsOf_152 ?_
                                  exact z_ireturn C G hr h d_Host_fieldsOf_153
                                by_cases m29 : a1 = (29 : Int32)
                                · refine z_tableIn (off := 151) (tgt := 152) C d_Host_fieldsOf_1 m29 (by decide) rfl rfl ?_
                                  refine z_iconst (v := (0 : Int32)) C rfl d_Host_fieldsOf_152 ?_
                                  exact z_ireturn C G hr h d_Host_fieldsOf_153
                                by_cases m30 : a1 = (30 : Int32)
                                · refine z_tableIn (off := 151) (tgt := 152) C d_Host_fieldsOf_1 m30 (by decide) rfl rfl ?_
                                  refine z_iconst (v := (0 : Int32)) C rfl d_Host_fieldsOf_152 ?_
                                  exact z_ireturn C G hr h d_Host_fieldsOf_153
                                by_cases m31 : a1 = (31 : Int32)
                                · refine z_tableIn (off := 151) (tgt := 152) C d_Host_fieldsOf_1 m31 (by decide) rfl rfl ?_
                                  refine z_iconst (v := (0 : Int32)) C rfl d_Host_fieldsOf_152 ?_
                                  exact z_ireturn C G hr h d_Host_fieldsOf_153
                                refine z_tableOut (tgt := 152) C d_Host_fieldsOf_1 (by have n0 := lv_neT (a := 1) c0 rfl; have n1 := lv_neT (a := 2) c1 rfl; have n2 := lv_neT (a := 5) c2 rfl; have n3 := lv_neT (a := 6) c3 rfl; have n4 := lv_neT (a := 8) c4 rfl; have n5 := lv_neT (a := 9) c5 rfl; have n6 := lv_neT (a := 10) c6 rfl; have n7 := lv_neT (a := 12) c7 rfl; have n8 := lv_neT (a := 13) c8 rfl; have n9 := lv_neT (a := 14) c9 rfl; have n10 := lv_neT (a := 15) c10 rfl; have n11 := lv_neT (a := 18) c11 rfl; have n12 := lv_neT (a := 21) c12 rfl; have n13 := lv_neT (a := 22) c13 rfl; have n14 := lv_neT (a := 32) c14 rfl; have o3 := lv_neT (a := 3) m3 rfl; have o4 := lv_neT (a := 4) m4 rfl; have o7 := lv_neT (a := 7) m7 rfl; have o11 := lv_neT (a := 11) m11 rfl; have o16 := lv_neT (a := 16) m16 rfl; have o17 := lv_neT (a := 17) m17 rfl; have o19 := lv_neT (a := 19) m19 rfl; have o20 := lv_neT (a := 20) m20 rfl; have o23 := lv_neT (a := 23) m23 rfl; have o24 := lv_neT (a := 24) m24 rfl; have o25 := lv_neT (a := 25) m25 rfl; have o26 := lv_neT (a := 26) m26 rfl; have o27 := lv_neT (a := 27) m27 rfl; have o28 := lv_neT (a := 28) m28 rfl; have o29 := lv_neT (a := 29) m29 rfl; have o30 := lv_neT (a := 30) m30 rfl; have o31 := lv_neT (a := 31) m31 rfl; omega) rfl ?_
                                refine z_iconst (v := (0 : Int32)) C rfl d_Host_fieldsOf_152 ?_
                                exact z_ireturn C G hr h d_Host_fieldsOf_153
theorem c_Host_fieldsOf (l : Launch) (B : zK) (a1 : Int32) (S : zS) (P : zS → Int32 → Prop) (h : w_Host_fieldsOf a1 S P) : Met l y_Host_fieldsOf (Cond.code y_Host_fieldsOf prog_7_method_3_code 1 (some FieldType.int) :: tT) (zRm 0 0) (zPc (wC B) [.int a1] S) (zQ (wC B) (zPi P)) 0 0 (wC B).2.2.2 :=
  z_met (by decide) (Nat.le_of_ble_eq_true rfl) (fun E C G hr _ hnl => v_Host_fieldsOf C a1 P G hr hnl S h)
theorem q_Host_fieldsOf : zQs y_Host_fieldsOf prog_7_method_3_code 1 (some FieldType.int) 1 := ⟨tw_732, tw_79, tw_733, by decide +kernel⟩
def j_Host_hasFields_30 (a1 : Int32) (P : zS → Int32 → Prop) (S : zS) : Prop :=
  P S (1 : Int32)
set_option maxRecDepth 20000 in
set_option maxHeartbeats 4000000 in
theorem vj_Host_hasFields_30 {E : zE} {B : zK} (C : zC E (wC B) prog_7_method_4_code "HostBench$Host" 1 22) (a1 : Int32) (P : zS → Int32 → Prop) (G : zGoal E (zQ (wC B) (zPi P)) (wC B)) (hr : zRt E (some .boolean)) (hnl : E.2.2.2.2.2.2.2.2.2.2.1 = 2) (S : zS) (h : j_Host_hasFields_30 a1 P S) : zV E (wC B) S 30 [] [] := by
  unfold j_Host_hasFields_30 at h
  refine z_iconst (v := (1 : Int32)) C rfl d_Host_hasFields_30 ?_
  refine z_goto (tgt := 35) C d_Host_hasFields_31 rfl ?_
  exact z_zreturn C G hr rfl h d_Host_hasFields_35
def w_Host_hasFields (a1 : Int32) (S : zS) (P : zS → Int32 → Prop) : Prop :=
  (a1 = 0 → (j_Host_hasFields_30 a1 P S)) ∧ (¬ a1 = 0 → ((((gM S 0 5) &&& (3 : Int32)) = 0 → (w_Memory_hasArea (gM S 0 5) ((4 : Int32) * a1) S (fun S1 r2 => (r2 = 0 → (P S1 (0 : Int32))) ∧ (¬ r2 = 0 → (j_Host_hasFields_30 a1 P S1))))) ∧ (¬ ((gM S 0 5) &&& (3 : Int32)) = 0 → (P S (0 : Int32)))))
set_option maxRecDepth 20000 in
set_option maxHeartbeats 4000000 in
theorem v_Host_hasFields {E : zE} {B : zK} (C : zC E (wC B) prog_7_method_4_code "HostBench$Host" 1 22) (a1 : Int32) (P : zS → Int32 → Prop) (G : zGoal E (zQ (wC B) (zPi P)) (wC B)) (hr : zRt E (some .boolean)) (hnl : E.2.2.2.2.2.2.2.2.2.2.1 = 2) (S : zS) (h : w_Host_hasFields a1 S P) : zV E (wC B) S 0 [(0, .ref (ad B 2)), (1, .int a1)] [] := by
  unfold w_Host_hasFields at h
  refine z_iload_n C 1 rfl rfl d_Host_hasFields_0 ?_
  refine z_if_eq (tgt := 30) C d_Host_hasFields_1 rfl (fun c => ?_) (fun c => ?_)
  · have h := h.1 c
    exact z_sub [] rfl (vj_Host_hasFields_30 C a1 P G hr hnl S h)
  · have h := h.2 c
    refine z_aload_n C 0 rfl rfl d_Host_hasFields_4 ?_
    refine gf_Host_block C (Or.inl tw_289) d_Host_hasFields_5 ?_
    refine z_iconst (v := (3 : Int32)) C rfl d_Host_hasFields_8 ?_
    refine z_iand C d_Host_hasFields_9 ?_
    refine z_if_ne (tgt := 34) C d_Host_hasFields_10 rfl (fun c => ?_) (fun c => ?_)
    · have h := h.2 c
      refine z_iconst (v := (0 : Int32)) C rfl d_Host_hasFields_34 ?_
      exact z_zreturn C G hr rfl h d_Host_hasFields_35
    · have h := h.1 c
      refine z_aload_n C 0 rfl rfl d_Host_hasFields_13 ?_
      refine gf_Host_memory C (Or.inl tw_274) d_Host_hasFields_14 ?_
      refine z_aload_n C 0 rfl rfl d_Host_hasFields_17 ?_
      refine gf_Host_block C (Or.inl tw_289) d_Host_hasFields_18 ?_
      refine z_iconst (v := (4 : Int32)) C rfl d_Host_hasFields_21 ?_
      refine z_iload_n C 1 rfl rfl d_Host_hasFields_22 ?_
      refine z_imul C d_Host_hasFields_23 ?_
      refine z_callVi (rest := []) C q_Memory_hasArea tw_738 (c_Memory_hasArea _ B (gM S 0 5) ((4 : Int32) * a1) S _ h) rc_Memory ⟨Nat.le_of_ble_eq_true rfl, Nat.le_of_ble_eq_true rfl⟩ rfl rfl (Nat.le_of_ble_eq_true rfl) d_Host_hasFields_24 (fun S1 r2 h => ?_)
      refine z_if_eq (tgt := 34) C d_Host_hasFields_27 rfl (fun c => ?_) (fun c => ?_)
      · have h := h.1 c
        refine z_iconst (v := (0 : Int32)) C rfl d_Host_hasFields_34 ?_
        exact z_zreturn C G hr rfl h d_Host_hasFields_35
      · have h := h.2 c
        exact z_sub [] rfl (vj_Host_hasFields_30 C a1 P G hr hnl S1 h)
theorem c_Host_hasFields (l : Launch) (B : zK) (a1 : Int32) (S : zS) (P : zS → Int32 → Prop) (h : w_Host_hasFields a1 S P) : Met l y_Host_hasFields (Cond.code y_Host_hasFields prog_7_method_4_code 2 (some FieldType.boolean) :: tT) (zRm 1 22) (zPc (wC B) [.ref (ad B 2), .int a1] S) (zQ (wC B) (zPi P)) 0 0 (wC B).2.2.2 :=
  z_met (by decide) (Nat.le_of_ble_eq_true rfl) (fun E C G hr _ hnl => v_Host_hasFields C a1 P G hr hnl S h)
theorem q_Host_hasFields : zQw y_Host_hasFields prog_7_method_4_code 2 (some FieldType.boolean) 1 := ⟨tw_736, tw_11, tw_79, tw_737, by decide +kernel⟩
def w_Host_field (a1 : Int32) (S : zS) (P : zS → Int32 → Prop) : Prop :=
  w_Memory_wordAt ((gM S 0 5) + ((4 : Int32) * a1)) S (fun S1 r2 => P S1 r2)
set_option maxRecDepth 20000 in
set_option maxHeartbeats 4000000 in
theorem v_Host_field {E : zE} {B : zK} (C : zC E (wC B) prog_7_method_5_code "HostBench$Host" 2 43) (a1 : Int32) (P : zS → Int32 → Prop) (G : zGoal E (zQ (wC B) (zPi P)) (wC B)) (hr : zRt E (some .int)) (hnl : E.2.2.2.2.2.2.2.2.2.2.1 = 2) (S : zS) (h : w_Host_field a1 S P) : zV E (wC B) S 0 [(0, .ref (ad B 2)), (1, .int a1)] [] := by
  unfold w_Host_field at h
  refine z_aload_n C 0 rfl rfl d_Host_field_0 ?_
  refine gf_Host_memory C (Or.inl tw_274) d_Host_field_1 ?_
  refine z_aload_n C 0 rfl rfl d_Host_field_4 ?_
  refine gf_Host_block C (Or.inl tw_289) d_Host_field_5 ?_
  refine z_iconst (v := (4 : Int32)) C rfl d_Host_field_8 ?_
  refine z_iload_n C 1 rfl rfl d_Host_field_9 ?_
  refine z_imul C d_Host_field_10 ?_
  refine z_iadd C d_Host_field_11 ?_
  refine z_callVi (rest := []) C q_Memory_wordAt tw_747 (c_Memory_wordAt _ B ((gM S 0 5) + ((4 : Int32) * a1)) S _ h) rc_Memory ⟨Nat.le_of_ble_eq_true rfl, Nat.le_of_ble_eq_true rfl⟩ rfl rfl (Nat.le_of_ble_eq_true rfl) d_Host_field_12 (fun S1 r2 h => ?_)
  exact z_ireturn C G hr h d_Host_field_15
theorem c_Host_field (l : Launch) (B : zK) (a1 : Int32) (S : zS) (P : zS → Int32 → Prop) (h : w_Host_field a1 S P) : Met l y_Host_field (Cond.code y_Host_field prog_7_method_5_code 2 (some FieldType.int) :: tT) (zRm 2 43) (zPc (wC B) [.ref (ad B 2), .int a1] S) (zQ (wC B) (zPi P)) 0 0 (wC B).2.2.2 :=
  z_met (by decide) (Nat.le_of_ble_eq_true rfl) (fun E C G hr _ hnl => v_Host_field C a1 P G hr hnl S h)
theorem q_Host_field : zQw y_Host_field prog_7_method_5_code 2 (some FieldType.int) 1 := ⟨tw_745, tw_13, tw_79, tw_746, by decide +kernel⟩
def w_Host_fail (a1 : Int32) (S : zS) (P : zS → Int32 → Prop) : Prop :=
  ∀ S1 : zS, S1 = sM S 0 6 a1 → P S1 (-1 : Int32)
set_option maxRecDepth 20000 in
set_option maxHeartbeats 4000000 in
theorem v_Host_fail {E : zE} {B : zK} (C : zC E (wC B) prog_7_method_6_code "HostBench$Host" 0 0) (a1 : Int32) (P : zS → Int32 → Prop) (G : zGoal E (zQ (wC B) (zPi P)) (wC B)) (hr : zRt E (some .int)) (hnl : E.2.2.2.2.2.2.2.2.2.2.1 = 2) (S : zS) (h : w_Host_fail a1 S P) : zV E (wC B) S 0 [(0, .ref (ad B 2)), (1, .int a1)] [] := by
  unfold w_Host_fail at h
  refine z_aload_n C 0 rfl rfl d_Host_fail_0 ?_
  refine z_iload_n C 1 rfl rfl d_Host_fail_1 ?_
  refine pf_Host_errno C (Or.inl tw_290) d_Host_fail_2 ?_
  refine z_nS (fun S1 eS1 => ?_)
  have h := h S1 eS1
  refine z_iconst (v := (-1 : Int32)) C rfl d_Host_fail_5 ?_
  exact z_ireturn C G hr h d_Host_fail_6
theorem c_Host_fail (l : Launch) (B : zK) (a1 : Int32) (S : zS) (P : zS → Int32 → Prop) (h : w_Host_fail a1 S P) : Met l y_Host_fail (Cond.code y_Host_fail prog_7_method_6_code 2 (some FieldType.int) :: tT) (zRm 0 0) (zPc (wC B) [.ref (ad B 2), .int a1] S) (zQ (wC B) (zPi P)) 0 0 (wC B).2.2.2 :=
  z_met (by decide) (Nat.le_of_ble_eq_true rfl) (fun E C G hr _ hnl => v_Host_fail C a1 P G hr hnl S h)
theorem q_Host_fail : zQw y_Host_fail prog_7_method_6_code 2 (some FieldType.int) 1 := ⟨tw_754, tw_15, tw_79, tw_755, by decide +kernel⟩
def l_Host_bringName_37 (a1 : Nat) (a2 : Int32) (a3 : Int32) (P : zS → Int32 → Prop) : Nat → zS → Int32 → Prop
  | 0, _, _ => False
  | n + 1, S, x4 =>
  (a3 ≤ x4 → (a1 < 32 ∧ w_Bytes_firstZero a1 S (fun S2 r3 => (r3 = (-1 : Int32) → (P S2 (0 : Int32))) ∧ (¬ r3 = (-1 : Int32) → (P S2 (22 : Int32)))))) ∧ (¬ a3 ≤ x4 → (w_Memory_byteAt (a2 + x4) S (fun S4 r5 => a1 < 32 ∧ w_Bytes_add a1 r5 S4 (fun S7 => l_Host_bringName_37 a1 a2 a3 P n S7 (x4 + (1 : Int32))))))
set_option maxRecDepth 20000 in
set_option maxHeartbeats 4000000 in
theorem vl_Host_bringName_37 {E : zE} {B : zK} (C : zC E (wC B) prog_7_method_9_code "HostBench$Host" 1 22) (a1 : Nat) (a2 : Int32) (a3 : Int32) (P : zS → Int32 → Prop) (G : zGoal E (zQ (wC B) (zPi P)) (wC B)) (hr : zRt E (some .int)) (hnl : E.2.2.2.2.2.2.2.2.2.2.1 = 5) : ∀ (n : Nat) (S : zS) (x4 : Int32) , l_Host_bringName_37 a1 a2 a3 P n S x4 → zV E (wC B) S 37 [(0, .ref (ad B 2)), (1, .ref (ad B (35 + a1))), (2, .int a2), (3, .int a3), (4, .int x4)] [] := by
  intro n
  induction n with
  | zero => intro S x4 h; exact h.elim
  | succ n ih =>
    intro S x4 h
    unfold l_Host_bringName_37 at h
    refine z_iload C 4 rfl d_Host_bringName_37 ?_
    refine z_iload_n C 3 rfl rfl d_Host_bringName_39 ?_
    refine z_icmp_ge (tgt := 64) C d_Host_bringName_40 rfl (fun c => ?_) (fun c => ?_)
    · have h := h.1 c
      refine z_aload_n C 1 rfl rfl d_Host_bringName_64 ?_
      obtain ⟨f1, h⟩ := h
      refine z_callVi (rest := []) C q_Bytes_firstZero tw_763 (c_Bytes_firstZero _ B a1 S _ h) (rc_Bytes f1) ⟨Nat.le_of_ble_eq_true rfl, Nat.le_of_ble_eq_true rfl⟩ rfl rfl (Nat.le_of_ble_eq_true rfl) d_Host_bringName_65 (fun S2 r3 h => ?_)
      refine z_iconst (v := (-1 : Int32)) C rfl d_Host_bringName_68 ?_
      refine z_icmp_ne (tgt := 76) C d_Host_bringName_69 rfl (fun c => ?_) (fun c => ?_)
      · have h := h.2 c
        refine z_bipush (v := (22 : Int32)) C rfl d_Host_bringName_76 ?_
        exact z_ireturn C G hr h d_Host_bringName_78
      · have h := h.1 c
        refine z_iconst (v := (0 : Int32)) C rfl d_Host_bringName_72 ?_
        refine z_goto (tgt := 78) C d_Host_bringName_73 rfl ?_
        exact z_ireturn C G hr h d_Host_bringName_78
    · have h := h.2 c
      refine z_aload_n C 1 rfl rfl d_Host_bringName_43 ?_
      refine z_aload_n C 0 rfl rfl d_Host_bringName_44 ?_
      refine gf_Host_memory C (Or.inl tw_274) d_Host_bringName_45 ?_
      refine z_iload_n C 2 rfl rfl d_Host_bringName_48 ?_
      refine z_iload C 4 rfl d_Host_bringName_49 ?_
      refine z_iadd C d_Host_bringName_51 ?_
      refine z_callVi (rest := [.ref (ad B (35 + a1))]) C q_Memory_byteAt tw_761 (c_Memory_byteAt _ B (a2 + x4) S _ h) rc_Memory ⟨Nat.le_of_ble_eq_true rfl, Nat.le_of_ble_eq_true rfl⟩ rfl rfl (Nat.le_of_ble_eq_true rfl) d_Host_bringName_52 (fun S4 r5 h => ?_)
      obtain ⟨f6, h⟩ := h
      refine z_callVv (rest := []) C q_Bytes_add tw_762 (c_Bytes_add _ B a1 r5 S4 _ h) (rc_Bytes f6) ⟨Nat.le_of_ble_eq_true rfl, Nat.le_of_ble_eq_true rfl⟩ rfl rfl (Nat.le_of_ble_eq_true rfl) d_Host_bringName_55 (fun S7 h => ?_)
      refine z_iinc (v := x4 + (1 : Int32)) (L' := [(4, .int (x4 + (1 : Int32))), (0, .ref (ad B 2)), (1, .ref (ad B (35 + a1))), (2, .int a2), (3, .int a3)]) C hnl 4 rfl rfl (by decide) rfl d_Host_bringName_58 ?_
      refine z_goto (tgt := 37) C d_Host_bringName_61 rfl ?_
      exact z_sub [1, 2, 3, 4, 0] rfl (ih S7 (x4 + (1 : Int32)) h)
def w_Host_bringName (a1 : Nat) (a2 : Int32) (a3 : Int32) (S : zS) (P : zS → Int32 → Prop) : Prop :=
  (a3 < (1 : Int32) → (P S (36 : Int32))) ∧ (¬ a3 < (1 : Int32) → ((a3 ≤ (24 : Int32) → (w_Memory_hasArea a2 a3 S (fun S1 r2 => (r2 = 0 → (P S1 (14 : Int32))) ∧ (¬ r2 = 0 → (a1 < 32 ∧ w_Bytes_cut a1 (0 : Int32) S1 (fun S4 => ∃ n5 : Nat, l_Host_bringName_37 a1 a2 a3 P n5 S4 (0 : Int32))))))) ∧ (¬ a3 ≤ (24 : Int32) → (P S (36 : Int32)))))
set_option maxRecDepth 20000 in
set_option maxHeartbeats 4000000 in
theorem v_Host_bringName {E : zE} {B : zK} (C : zC E (wC B) prog_7_method_9_code "HostBench$Host" 1 22) (a1 : Nat) (a2 : Int32) (a3 : Int32) (P : zS → Int32 → Prop) (G : zGoal E (zQ (wC B) (zPi P)) (wC B)) (hr : zRt E (some .int)) (hnl : E.2.2.2.2.2.2.2.2.2.2.1 = 5) (S : zS) (h : w_Host_bringName a1 a2 a3 S P) : zV E (wC B) S 0 [(0, .ref (ad B 2)), (1, .ref (ad B (35 + a1))), (2, .int a2), (3, .int a3)] [] := by
  unfold w_Host_bringName at h
  refine z_iload_n C 3 rfl rfl d_Host_bringName_0 ?_
  refine z_iconst (v := (1 : Int32)) C rfl d_Host_bringName_1 ?_
  refine z_icmp_lt (tgt := 11) C d_Host_bringName_2 rfl (fun c => ?_) (fun c => ?_)
  · have h := h.1 c
    refine z_bipush (v := (36 : Int32)) C rfl d_Host_bringName_11 ?_
    exact z_ireturn C G hr h d_Host_bringName_13
  · have h := h.2 c
    refine z_iload_n C 3 rfl rfl d_Host_bringName_5 ?_
    refine z_bipush (v := (24 : Int32)) C rfl d_Host_bringName_6 ?_
    refine z_icmp_le (tgt := 14) C d_Host_bringName_8 rfl (fun c => ?_) (fun c => ?_)
    · have h := h.1 c
      refine z_aload_n C 0 rfl rfl d_Host_bringName_14 ?_
      refine gf_Host_memory C (Or.inl tw_274) d_Host_bringName_15 ?_
      refine z_iload_n C 2 rfl rfl d_Host_bringName_18 ?_
      refine z_iload_n C 3 rfl rfl d_Host_bringName_19 ?_
      refine z_callVi (rest := []) C q_Memory_hasArea tw_738 (c_Memory_hasArea _ B a2 a3 S _ h) rc_Memory ⟨Nat.le_of_ble_eq_true rfl, Nat.le_of_ble_eq_true rfl⟩ rfl rfl (Nat.le_of_ble_eq_true rfl) d_Host_bringName_20 (fun S1 r2 h => ?_)
      refine z_if_ne (tgt := 29) C d_Host_bringName_23 rfl (fun c => ?_) (fun c => ?_)
      · have h := h.2 c
        refine z_aload_n C 1 rfl rfl d_Host_bringName_29 ?_
        refine z_iconst (v := (0 : Int32)) C rfl d_Host_bringName_30 ?_
        obtain ⟨f3, h⟩ := h
        refine z_callVv (rest := []) C q_Bytes_cut tw_760 (c_Bytes_cut _ B a1 (0 : Int32) S1 _ h) (rc_Bytes f3) ⟨Nat.le_of_ble_eq_true rfl, Nat.le_of_ble_eq_true rfl⟩ rfl rfl (Nat.le_of_ble_eq_true rfl) d_Host_bringName_31 (fun S4 h => ?_)
        refine z_iconst (v := (0 : Int32)) C rfl d_Host_bringName_34 ?_
        refine z_istore (L' := [(4, .int (0 : Int32)), (0, .ref (ad B 2)), (1, .ref (ad B (35 + a1))), (2, .int a2), (3, .int a3)]) C hnl (by decide) rfl d_Host_bringName_35 ?_
        obtain ⟨n5, h⟩ := h
        exact z_sub [1, 2, 3, 4, 0] rfl (vl_Host_bringName_37 C a1 a2 a3 P G hr hnl n5 S4 (0 : Int32) h)
      · have h := h.1 c
        refine z_bipush (v := (14 : Int32)) C rfl d_Host_bringName_26 ?_
        exact z_ireturn C G hr h d_Host_bringName_28
    · have h := h.2 c
      refine z_bipush (v := (36 : Int32)) C rfl d_Host_bringName_11 ?_
      exact z_ireturn C G hr h d_Host_bringName_13
theorem c_Host_bringName (l : Launch) (B : zK) (a1 : Nat) (a2 : Int32) (a3 : Int32) (S : zS) (P : zS → Int32 → Prop) (h : w_Host_bringName a1 a2 a3 S P) : Met l y_Host_bringName (Cond.code y_Host_bringName prog_7_method_9_code 5 (some FieldType.int) :: tT) (zRm 1 22) (zPc (wC B) [.ref (ad B 2), .ref (ad B (35 + a1)), .int a2, .int a3] S) (zQ (wC B) (zPi P)) 0 0 (wC B).2.2.2 :=
  z_met (by decide) (Nat.le_of_ble_eq_true rfl) (fun E C G hr _ hnl => v_Host_bringName C a1 a2 a3 P G hr hnl S h)
theorem q_Host_bringName : zQw y_Host_bringName prog_7_method_9_code 5 (some FieldType.int) 3 := ⟨tw_758, tw_16, tw_79, tw_759, by decide +kernel⟩
def w_Host_namesConsole (a1 : Nat) (S : zS) (P : zS → Int32 → Prop) : Prop :=
  a1 < 32 ∧ w_Bytes_size a1 S (fun S2 r3 => (r3 = (3 : Int32) → (w_Bytes_at a1 (0 : Int32) S2 (fun S4 r5 => (r5 = (58 : Int32) → (w_Bytes_at a1 (1 : Int32) S4 (fun S6 r7 => (r7 = (116 : Int32) → (w_Bytes_at a1 (2 : Int32) S6 (fun S8 r9 => (r9 = (116 : Int32) → (P S8 (1 : Int32))) ∧ (¬ r9 = (116 : Int32) → (P S8 (0 : Int32)))))) ∧ (¬ r7 = (116 : Int32) → (P S6 (0 : Int32)))))) ∧ (¬ r5 = (58 : Int32) → (P S4 (0 : Int32)))))) ∧ (¬ r3 = (3 : Int32) → (P S2 (0 : Int32))))
set_option maxRecDepth 20000 in
set_option maxHeartbeats 4000000 in
theorem v_Host_namesConsole {E : zE} {B : zK} (C : zC E (wC B) prog_7_method_10_code "HostBench$Host" 1 21) (a1 : Nat) (P : zS → Int32 → Prop) (G : zGoal E (zQ (wC B) (zPi P)) (wC B)) (hr : zRt E (some .boolean)) (hnl : E.2.2.2.2.2.2.2.2.2.2.1 = 1) (S : zS) (h : w_Host_namesConsole a1 S P) : zV E (wC B) S 0 [(0, .ref (ad B (35 + a1)))] [] := by
  unfold w_Host_namesConsole at h
  refine z_aload_n C 0 rfl rfl d_Host_namesConsole_0 ?_
  obtain ⟨f1, h⟩ := h
  refine z_callVi (rest := []) C q_Bytes_size tw_775 (c_Bytes_size _ B a1 S _ h) (rc_Bytes f1) ⟨Nat.le_of_ble_eq_true rfl, Nat.le_of_ble_eq_true rfl⟩ rfl rfl (Nat.le_of_ble_eq_true rfl) d_Host_namesConsole_1 (fun S2 r3 h => ?_)
  refine z_iconst (v := (3 : Int32)) C rfl d_Host_namesConsole_4 ?_
  refine z_icmp_ne (tgt := 42) C d_Host_namesConsole_5 rfl (fun c => ?_) (fun c => ?_)
  · have h := h.2 c
    refine z_iconst (v := (0 : Int32)) C rfl d_Host_namesConsole_42 ?_
    exact z_zreturn C G hr rfl h d_Host_namesConsole_43
  · have h := h.1 c
    refine z_aload_n C 0 rfl rfl d_Host_namesConsole_8 ?_
    refine z_iconst (v := (0 : Int32)) C rfl d_Host_namesConsole_9 ?_
    refine z_callVi (rest := []) C q_Bytes_at tw_776 (c_Bytes_at _ B a1 (0 : Int32) S2 _ h) (rc_Bytes f1) ⟨Nat.le_of_ble_eq_true rfl, Nat.le_of_ble_eq_true rfl⟩ rfl rfl (Nat.le_of_ble_eq_true rfl) d_Host_namesConsole_10 (fun S4 r5 h => ?_)
    refine z_bipush (v := (58 : Int32)) C rfl d_Host_namesConsole_13 ?_
    refine z_icmp_ne (tgt := 42) C d_Host_namesConsole_15 rfl (fun c => ?_) (fun c => ?_)
    · have h := h.2 c
      refine z_iconst (v := (0 : Int32)) C rfl d_Host_namesConsole_42 ?_
      exact z_zreturn C G hr rfl h d_Host_namesConsole_43
    · have h := h.1 c
      refine z_aload_n C 0 rfl rfl d_Host_namesConsole_18 ?_
      refine z_iconst (v := (1 : Int32)) C rfl d_Host_namesConsole_19 ?_
      refine z_callVi (rest := []) C q_Bytes_at tw_776 (c_Bytes_at _ B a1 (1 : Int32) S4 _ h) (rc_Bytes f1) ⟨Nat.le_of_ble_eq_true rfl, Nat.le_of_ble_eq_true rfl⟩ rfl rfl (Nat.le_of_ble_eq_true rfl) d_Host_namesConsole_20 (fun S6 r7 h => ?_)
      refine z_bipush (v := (116 : Int32)) C rfl d_Host_namesConsole_23 ?_
      refine z_icmp_ne (tgt := 42) C d_Host_namesConsole_25 rfl (fun c => ?_) (fun c => ?_)
      · have h := h.2 c
        refine z_iconst (v := (0 : Int32)) C rfl d_Host_namesConsole_42 ?_
        exact z_zreturn C G hr rfl h d_Host_namesConsole_43
      · have h := h.1 c
        refine z_aload_n C 0 rfl rfl d_Host_namesConsole_28 ?_
        refine z_iconst (v := (2 : Int32)) C rfl d_Host_namesConsole_29 ?_
        refine z_callVi (rest := []) C q_Bytes_at tw_776 (c_Bytes_at _ B a1 (2 : Int32) S6 _ h) (rc_Bytes f1) ⟨Nat.le_of_ble_eq_true rfl, Nat.le_of_ble_eq_true rfl⟩ rfl rfl (Nat.le_of_ble_eq_true rfl) d_Host_namesConsole_30 (fun S8 r9 h => ?_)
        refine z_bipush (v := (116 : Int32)) C rfl d_Host_namesConsole_33 ?_
        refine z_icmp_ne (tgt := 42) C d_Host_namesConsole_35 rfl (fun c => ?_) (fun c => ?_)
        · have h := h.2 c
          refine z_iconst (v := (0 : Int32)) C rfl d_Host_namesConsole_42 ?_
          exact z_zreturn C G hr rfl h d_Host_namesConsole_43
        · have h := h.1 c
          refine z_iconst (v := (1 : Int32)) C rfl d_Host_namesConsole_38 ?_
          refine z_goto (tgt := 43) C d_Host_namesConsole_39 rfl ?_
          exact z_zreturn C G hr rfl h d_Host_namesConsole_43
theorem c_Host_namesConsole (l : Launch) (B : zK) (a1 : Nat) (S : zS) (P : zS → Int32 → Prop) (h : w_Host_namesConsole a1 S P) : Met l y_Host_namesConsole (Cond.code y_Host_namesConsole prog_7_method_10_code 1 (some FieldType.boolean) :: tT) (zRm 1 21) (zPc (wC B) [.ref (ad B (35 + a1))] S) (zQ (wC B) (zPi P)) 0 0 (wC B).2.2.2 :=
  z_met (by decide) (Nat.le_of_ble_eq_true rfl) (fun E C G hr _ hnl => v_Host_namesConsole C a1 P G hr hnl S h)
theorem q_Host_namesConsole : zQs y_Host_namesConsole prog_7_method_10_code 1 (some FieldType.boolean) 1 := ⟨tw_773, tw_79, tw_774, by decide +kernel⟩
def j_Host_openFile_77 (a1 : Nat) (a2 : Int32) (P : zS → Int32 → Prop) (S : zS) (x3 : Option Nat) : Prop :=
  a1 < 10 ∧ ∃ k2 : Nat, x3 = some k2 ∧ w_Handle_openFile a1 k2 a2 S (fun S3 => P S3 (1 : Int32))
set_option maxRecDepth 20000 in
set_option maxHeartbeats 4000000 in
theorem vj_Host_openFile_77 {E : zE} {B : zK} (C : zC E (wC B) prog_7_method_12_code "HostBench$Host" 3 63) (a1 : Nat) (a2 : Int32) (P : zS → Int32 → Prop) (G : zGoal E (zQ (wC B) (zPi P)) (wC B)) (hr : zRt E (some .boolean)) (hnl : E.2.2.2.2.2.2.2.2.2.2.1 = 4) (S : zS) (x3 : Option Nat) (h : j_Host_openFile_77 a1 a2 P S x3) : zV E (wC B) S 77 [(1, .ref (ad B (25 + a1))), (2, .int a2), (3, va_rf ((x3).map (fun k => ad B (13 + k))))] [] := by
  unfold j_Host_openFile_77 at h
  refine z_aload_n C 0 rfl rfl d_Host_openFile_77 ?_
  refine z_aload_nq (x := (x3).map (fun k => ad B (13 + k))) C 2 rfl rfl d_Host_openFile_78 ?_
  refine z_iload_n C 1 rfl rfl d_Host_openFile_79 ?_
  obtain ⟨f1, h⟩ := h
  obtain ⟨k2, rfl, h⟩ := h
  show zV E (wC B) S 80 [(1, .ref (ad B (25 + a1))), (2, .int a2), (3, .ref (ad B (13 + k2)))] [.int a2, .ref (ad B (13 + k2)), .ref (ad B (25 + a1))]
  refine z_callVv (rest := []) C q_Handle_openFile tw_787 (c_Handle_openFile _ B a1 k2 a2 S _ h) (rc_Handle f1) ⟨Nat.le_of_ble_eq_true rfl, Nat.le_of_ble_eq_true rfl⟩ rfl rfl (Nat.le_of_ble_eq_true rfl) d_Host_openFile_80 (fun S3 h => ?_)
  refine z_iconst (v := (1 : Int32)) C rfl d_Host_openFile_83 ?_
  exact z_zreturn C G hr rfl h d_Host_openFile_84
def j_Host_openFile_45 (a1 : Nat) (a2 : Int32) (P : zS → Int32 → Prop) (S : zS) (x3 : Option Nat) : Prop :=
  (x3 = none → (w_Host_fail (28 : Int32) S (fun S2 r3 => P S2 (0 : Int32)))) ∧ (∀ k1 : Nat, x3 = some k1 → ((a2 < (4 : Int32) → (j_Host_openFile_77 a1 a2 P S (some k1))) ∧ (¬ a2 < (4 : Int32) → (((8 : Int32) ≤ a2 → (j_Host_openFile_77 a1 a2 P S (some k1))) ∧ (¬ (8 : Int32) ≤ a2 → (k1 < 12 ∧ (3 + 2 * k1) < 32 ∧ w_Bytes_cut (3 + 2 * k1) (0 : Int32) S (fun S6 => j_Host_openFile_77 a1 a2 P S6 (some k1))))))))
set_option maxRecDepth 20000 in
set_option maxHeartbeats 4000000 in
theorem vj_Host_openFile_45 {E : zE} {B : zK} (C : zC E (wC B) prog_7_method_12_code "HostBench$Host" 3 63) (a1 : Nat) (a2 : Int32) (P : zS → Int32 → Prop) (G : zGoal E (zQ (wC B) (zPi P)) (wC B)) (hr : zRt E (some .boolean)) (hnl : E.2.2.2.2.2.2.2.2.2.2.1 = 4) (S : zS) (x3 : Option Nat) (h : j_Host_openFile_45 a1 a2 P S x3) : zV E (wC B) S 45 [(0, .ref (ad B 2)), (1, .ref (ad B (25 + a1))), (2, .int a2), (3, va_rf ((x3).map (fun k => ad B (13 + k))))] [] := by
  unfold j_Host_openFile_45 at h
  refine z_aload_nq (x := (x3).map (fun k => ad B (13 + k))) C 3 rfl rfl d_Host_openFile_45 ?_
  cases x3 with
  | none =>
    have h := h.1 rfl
    show zV E (wC B) S 46 [(0, .ref (ad B 2)), (1, .ref (ad B (25 + a1))), (2, .int a2), (3, .null)] [.null]
    refine z_ifnonnullN (tgt := 58) C d_Host_openFile_46 rfl ?_
    refine z_aload_n C 0 rfl rfl d_Host_openFile_49 ?_
    refine z_bipush (v := (28 : Int32)) C rfl d_Host_openFile_50 ?_
    refine z_callVi (rest := []) C q_Host_fail tw_752 (c_Host_fail _ B (28 : Int32) S _ h) rc_Host ⟨Nat.le_of_ble_eq_true rfl, Nat.le_of_ble_eq_true rfl⟩ rfl rfl (Nat.le_of_ble_eq_true rfl) d_Host_openFile_52 (fun S2 r3 h => ?_)
    refine z_pop C rfl d_Host_openFile_55 ?_
    refine z_iconst (v := (0 : Int32)) C rfl d_Host_openFile_56 ?_
    exact z_zreturn C G hr rfl h d_Host_openFile_57
  | some k1 =>
    have h := h.2 k1 rfl
    show zV E (wC B) S 46 [(0, .ref (ad B 2)), (1, .ref (ad B (25 + a1))), (2, .int a2), (3, .ref (ad B (13 + k1)))] [.ref (ad B (13 + k1))]
    refine z_ifnonnull (tgt := 58) C d_Host_openFile_46 rfl ?_
    refine z_iload_n C 2 rfl rfl d_Host_openFile_58 ?_
    refine z_iconst (v := (4 : Int32)) C rfl d_Host_openFile_59 ?_
    refine z_icmp_lt (tgt := 77) C d_Host_openFile_60 rfl (fun c => ?_) (fun c => ?_)
    · have h := h.1 c
      exact z_sub [1, 2, 3] rfl (vj_Host_openFile_77 C a1 a2 P G hr hnl S (some k1) h)
    · have h := h.2 c
      refine z_iload_n C 2 rfl rfl d_Host_openFile_63 ?_
      refine z_bipush (v := (8 : Int32)) C rfl d_Host_openFile_64 ?_
      refine z_icmp_ge (tgt := 77) C d_Host_openFile_66 rfl (fun c => ?_) (fun c => ?_)
      · have h := h.1 c
        exact z_sub [1, 2, 3] rfl (vj_Host_openFile_77 C a1 a2 P G hr hnl S (some k1) h)
      · have h := h.2 c
        refine z_aload_n C 3 rfl rfl d_Host_openFile_69 ?_
        obtain ⟨f4, h⟩ := h
        refine gf_HostFile_content C f4 (Or.inr (List.mem_of_getElem? (i := 14) rfl)) d_Host_openFile_70 ?_
        refine z_iconst (v := (0 : Int32)) C rfl d_Host_openFile_73 ?_
        obtain ⟨f5, h⟩ := h
        refine z_callVv (rest := []) C q_Bytes_cut tw_760 (c_Bytes_cut _ B (3 + 2 * k1) (0 : Int32) S _ h) (rc_Bytes f5) ⟨Nat.le_of_ble_eq_true rfl, Nat.le_of_ble_eq_true rfl⟩ rfl rfl (Nat.le_of_ble_eq_true rfl) d_Host_openFile_74 (fun S6 h => ?_)
        exact z_sub [1, 2, 3] rfl (vj_Host_openFile_77 C a1 a2 P G hr hnl S6 (some k1) h)
def j_Host_openFile_29 (a1 : Nat) (a2 : Int32) (P : zS → Int32 → Prop) (S : zS) (x3 : Option Nat) : Prop :=
  (x3 = none → (w_Folder_make 30 S (fun S2 o3 => j_Host_openFile_45 a1 a2 P S2 o3))) ∧ (∀ k1 : Nat, x3 = some k1 → (j_Host_openFile_45 a1 a2 P S (some k1)))
set_option maxRecDepth 20000 in
set_option maxHeartbeats 4000000 in
theorem vj_Host_openFile_29 {E : zE} {B : zK} (C : zC E (wC B) prog_7_method_12_code "HostBench$Host" 3 63) (a1 : Nat) (a2 : Int32) (P : zS → Int32 → Prop) (G : zGoal E (zQ (wC B) (zPi P)) (wC B)) (hr : zRt E (some .boolean)) (hnl : E.2.2.2.2.2.2.2.2.2.2.1 = 4) (S : zS) (x3 : Option Nat) (h : j_Host_openFile_29 a1 a2 P S x3) : zV E (wC B) S 29 [(0, .ref (ad B 2)), (1, .ref (ad B (25 + a1))), (2, .int a2), (3, va_rf ((x3).map (fun k => ad B (13 + k))))] [] := by
  unfold j_Host_openFile_29 at h
  refine z_aload_nq (x := (x3).map (fun k => ad B (13 + k))) C 3 rfl rfl d_Host_openFile_29 ?_
  cases x3 with
  | none =>
    have h := h.1 rfl
    show zV E (wC B) S 30 [(0, .ref (ad B 2)), (1, .ref (ad B (25 + a1))), (2, .int a2), (3, .null)] [.null]
    refine z_ifnonnullN (tgt := 45) C d_Host_openFile_30 rfl ?_
    refine z_aload_n C 0 rfl rfl d_Host_openFile_33 ?_
    refine gf_Host_folder C (Or.inl tw_275) d_Host_openFile_34 ?_
    refine z_aload_n C 0 rfl rfl d_Host_openFile_37 ?_
    refine gf_Host_firstName C (Or.inl tw_287) d_Host_openFile_38 ?_
    refine z_callVq (rest := []) C q_Folder_make tw_786 (c_Folder_make _ B 30 S _ h) rc_Folder ⟨Nat.le_of_ble_eq_true rfl, Nat.le_of_ble_eq_true rfl⟩ rfl rfl (Nat.le_of_ble_eq_true rfl) d_Host_openFile_41 (fun S2 o3 h => ?_)
    refine z_astore_nq (x := (o3).map (fun k => ad B (13 + k))) (L' := [(3, va_rf ((o3).map (fun k => ad B (13 + k)))), (0, .ref (ad B 2)), (1, .ref (ad B (25 + a1))), (2, .int a2)]) C hnl rfl (by decide) rfl d_Host_openFile_44 ?_
    exact z_sub [1, 2, 3, 0] rfl (vj_Host_openFile_45 C a1 a2 P G hr hnl S2 o3 h)
  | some k1 =>
    have h := h.2 k1 rfl
    show zV E (wC B) S 30 [(0, .ref (ad B 2)), (1, .ref (ad B (25 + a1))), (2, .int a2), (3, .ref (ad B (13 + k1)))] [.ref (ad B (13 + k1))]
    refine z_ifnonnull (tgt := 45) C d_Host_openFile_30 rfl ?_
    exact z_sub [0, 1, 2, 3] rfl (vj_Host_openFile_45 C a1 a2 P G hr hnl S (some k1) h)
def w_Host_openFile (a1 : Nat) (a2 : Int32) (S : zS) (P : zS → Int32 → Prop) : Prop :=
  w_Folder_find 30 S (fun S1 o2 => (o2 = none → (((4 : Int32) ≤ a2 → (j_Host_openFile_29 a1 a2 P S1 none)) ∧ (¬ (4 : Int32) ≤ a2 → (w_Host_fail (2 : Int32) S1 (fun S4 r5 => P S4 (0 : Int32)))))) ∧ (∀ k3 : Nat, o2 = some k3 → (j_Host_openFile_29 a1 a2 P S1 (some k3))))
set_option maxRecDepth 20000 in
set_option maxHeartbeats 4000000 in
theorem v_Host_openFile {E : zE} {B : zK} (C : zC E (wC B) prog_7_method_12_code "HostBench$Host" 3 63) (a1 : Nat) (a2 : Int32) (P : zS → Int32 → Prop) (G : zGoal E (zQ (wC B) (zPi P)) (wC B)) (hr : zRt E (some .boolean)) (hnl : E.2.2.2.2.2.2.2.2.2.2.1 = 4) (S : zS) (h : w_Host_openFile a1 a2 S P) : zV E (wC B) S 0 [(0, .ref (ad B 2)), (1, .ref (ad B (25 + a1))), (2, .int a2)] [] := by
  unfold w_Host_openFile at h
  refine z_aload_n C 0 rfl rfl d_Host_openFile_0 ?_
  refine gf_Host_folder C (Or.inl tw_275) d_Host_openFile_1 ?_
  refine z_aload_n C 0 rfl rfl d_Host_openFile_4 ?_
  refine gf_Host_firstName C (Or.inl tw_287) d_Host_openFile_5 ?_
  refine z_callVq (rest := []) C q_Folder_find tw_785 (c_Folder_find _ B 30 S _ h) rc_Folder ⟨Nat.le_of_ble_eq_true rfl, Nat.le_of_ble_eq_true rfl⟩ rfl rfl (Nat.le_of_ble_eq_true rfl) d_Host_openFile_8 (fun S1 o2 h => ?_)
  refine z_astore_nq (x := (o2).map (fun k => ad B (13 + k))) (L' := [(3, va_rf ((o2).map (fun k => ad B (13 + k)))), (0, .ref (ad B 2)), (1, .ref (ad B (25 + a1))), (2, .int a2)]) C hnl rfl (by decide) rfl d_Host_openFile_11 ?_
  refine z_aload_nq (x := (o2).map (fun k => ad B (13 + k))) C 0 rfl rfl d_Host_openFile_12 ?_
  cases o2 with
  | none =>
    have h := h.1 rfl
    show zV E (wC B) S1 13 [(3, .null), (0, .ref (ad B 2)), (1, .ref (ad B (25 + a1))), (2, .int a2)] [.null]
    refine z_ifnonnullN (tgt := 29) C d_Host_openFile_13 rfl ?_
    refine z_iload_n C 3 rfl rfl d_Host_openFile_16 ?_
    refine z_iconst (v := (4 : Int32)) C rfl d_Host_openFile_17 ?_
    refine z_icmp_ge (tgt := 29) C d_Host_openFile_18 rfl (fun c => ?_) (fun c => ?_)
    · have h := h.1 c
      exact z_sub [1, 2, 3, 0] rfl (vj_Host_openFile_29 C a1 a2 P G hr hnl S1 none h)
    · have h := h.2 c
      refine z_aload_n C 1 rfl rfl d_Host_openFile_21 ?_
      refine z_iconst (v := (2 : Int32)) C rfl d_Host_openFile_22 ?_
      refine z_callVi (rest := []) C q_Host_fail tw_752 (c_Host_fail _ B (2 : Int32) S1 _ h) rc_Host ⟨Nat.le_of_ble_eq_true rfl, Nat.le_of_ble_eq_true rfl⟩ rfl rfl (Nat.le_of_ble_eq_true rfl) d_Host_openFile_23 (fun S4 r5 h => ?_)
      refine z_pop C rfl d_Host_openFile_26 ?_
      refine z_iconst (v := (0 : Int32)) C rfl d_Host_openFile_27 ?_
      exact z_zreturn C G hr rfl h d_Host_openFile_28
  | some k3 =>
    have h := h.2 k3 rfl
    show zV E (wC B) S1 13 [(3, .ref (ad B (13 + k3))), (0, .ref (ad B 2)), (1, .ref (ad B (25 + a1))), (2, .int a2)] [.ref (ad B (13 + k3))]
    refine z_ifnonnull (tgt := 29) C d_Host_openFile_13 rfl ?_
    exact z_sub [1, 2, 3, 0] rfl (vj_Host_openFile_29 C a1 a2 P G hr hnl S1 (some k3) h)
theorem c_Host_openFile (l : Launch) (B : zK) (a1 : Nat) (a2 : Int32) (S : zS) (P : zS → Int32 → Prop) (h : w_Host_openFile a1 a2 S P) : Met l y_Host_openFile (Cond.code y_Host_openFile prog_7_method_12_code 4 (some FieldType.boolean) :: tT) (zRm 3 63) (zPc (wC B) [.ref (ad B 2), .ref (ad B (25 + a1)), .int a2] S) (zQ (wC B) (zPi P)) 0 0 (wC B).2.2.2 :=
  z_met (by decide) (Nat.le_of_ble_eq_true rfl) (fun E C G hr _ hnl => v_Host_openFile C a1 a2 P G hr hnl S h)
theorem q_Host_openFile : zQw y_Host_openFile prog_7_method_12_code 4 (some FieldType.boolean) 2 := ⟨tw_783, tw_17, tw_79, tw_784, by decide +kernel⟩
def j_Host_open_10 (a1 : Int32) (a2 : Int32) (a3 : Int32) (P : zS → Int32 → Prop) (S : zS) : Prop :=
  w_Host_fail (22 : Int32) S (fun S1 r2 => P S1 r2)
set_option maxRecDepth 20000 in
set_option maxHeartbeats 4000000 in
theorem vj_Host_open_10 {E : zE} {B : zK} (C : zC E (wC B) prog_7_method_11_code "HostBench$Host" 4 86) (a1 : Int32) (a2 : Int32) (a3 : Int32) (P : zS → Int32 → Prop) (G : zGoal E (zQ (wC B) (zPi P)) (wC B)) (hr : zRt E (some .int)) (hnl : E.2.2.2.2.2.2.2.2.2.2.1 = 7) (S : zS) (h : j_Host_open_10 a1 a2 a3 P S) : zV E (wC B) S 10 [(0, .ref (ad B 2))] [] := by
  unfold j_Host_open_10 at h
  refine z_aload_n C 0 rfl rfl d_Host_open_10 ?_
  refine z_bipush (v := (22 : Int32)) C rfl d_Host_open_11 ?_
  refine z_callVi (rest := []) C q_Host_fail tw_752 (c_Host_fail _ B (22 : Int32) S _ h) rc_Host ⟨Nat.le_of_ble_eq_true rfl, Nat.le_of_ble_eq_true rfl⟩ rfl rfl (Nat.le_of_ble_eq_true rfl) d_Host_open_13 (fun S1 r2 h => ?_)
  exact z_ireturn C G hr h d_Host_open_16
def w_Host_open (a1 : Int32) (a2 : Int32) (a3 : Int32) (S : zS) (P : zS → Int32 → Prop) : Prop :=
  (a2 < 0 → (j_Host_open_10 a1 a2 a3 P S)) ∧ (¬ a2 < 0 → ((a2 ≤ (11 : Int32) → (w_Host_bringName 30 a1 a3 S (fun S1 r2 => (r2 = 0 → (w_Desk_leastShut S1 (fun S3 r4 => w_Desk_get r4 S3 (fun S5 o6 => (o6 = none → (w_Host_fail (24 : Int32) S5 (fun S8 r9 => P S8 r9))) ∧ (∀ k7 : Nat, o6 = some k7 → (w_Host_namesConsole 30 S5 (fun S10 r11 => (r11 = 0 → (w_Host_openFile k7 a2 S10 (fun S12 r13 => (r13 = 0 → (P S12 (-1 : Int32))) ∧ (¬ r13 = 0 → (P S12 r4))))) ∧ (¬ r11 = 0 → (k7 < 10 ∧ w_Handle_openConsole k7 a2 S10 (fun S15 => P S15 r4)))))))))) ∧ (¬ r2 = 0 → (w_Host_fail r2 S1 (fun S16 r17 => P S16 r17)))))) ∧ (¬ a2 ≤ (11 : Int32) → (j_Host_open_10 a1 a2 a3 P S))))
set_option maxRecDepth 20000 in
set_option maxHeartbeats 4000000 in
theorem v_Host_open {E : zE} {B : zK} (C : zC E (wC B) prog_7_method_11_code "HostBench$Host" 4 86) (a1 : Int32) (a2 : Int32) (a3 : Int32) (P : zS → Int32 → Prop) (G : zGoal E (zQ (wC B) (zPi P)) (wC B)) (hr : zRt E (some .int)) (hnl : E.2.2.2.2.2.2.2.2.2.2.1 = 7) (S : zS) (h : w_Host_open a1 a2 a3 S P) : zV E (wC B) S 0 [(0, .ref (ad B 2)), (1, .int a1), (2, .int a2), (3, .int a3)] [] := by
  unfold w_Host_open at h
  refine z_iload_n C 2 rfl rfl d_Host_open_0 ?_
  refine z_if_lt (tgt := 10) C d_Host_open_1 rfl (fun c => ?_) (fun c => ?_)
  · have h := h.1 c
    exact z_sub [0] rfl (vj_Host_open_10 C a1 a2 a3 P G hr hnl S h)
  · have h := h.2 c
    refine z_iload_n C 2 rfl rfl d_Host_open_4 ?_
    refine z_bipush (v := (11 : Int32)) C rfl d_Host_open_5 ?_
    refine z_icmp_le (tgt := 17) C d_Host_open_7 rfl (fun c => ?_) (fun c => ?_)
    · have h := h.1 c
      refine z_aload_n C 0 rfl rfl d_Host_open_17 ?_
      refine z_aload_n C 0 rfl rfl d_Host_open_18 ?_
      refine gf_Host_firstName C (Or.inl tw_287) d_Host_open_19 ?_
      refine z_iload_n C 1 rfl rfl d_Host_open_22 ?_
      refine z_iload_n C 3 rfl rfl d_Host_open_23 ?_
      refine z_callVi (rest := []) C q_Host_bringName tw_756 (c_Host_bringName _ B 30 a1 a3 S _ h) rc_Host ⟨Nat.le_of_ble_eq_true rfl, Nat.le_of_ble_eq_true rfl⟩ rfl rfl (Nat.le_of_ble_eq_true rfl) d_Host_open_24 (fun S1 r2 h => ?_)
      refine z_istore (L' := [(4, .int r2), (0, .ref (ad B 2)), (1, .int a1), (2, .int a2), (3, .int a3)]) C hnl (by decide) rfl d_Host_open_27 ?_
      refine z_iload C 0 rfl d_Host_open_29 ?_
      refine z_if_eq (tgt := 41) C d_Host_open_31 rfl (fun c => ?_) (fun c => ?_)
      · have h := h.1 c
        refine z_aload_n C 1 rfl rfl d_Host_open_41 ?_
        refine gf_Host_desk C (Or.inl tw_277) d_Host_open_42 ?_
        refine z_callVi (rest := []) C q_Desk_leastShut tw_764 (c_Desk_leastShut _ B S1 _ h) rc_Desk ⟨Nat.le_of_ble_eq_true rfl, Nat.le_of_ble_eq_true rfl⟩ rfl rfl (Nat.le_of_ble_eq_true rfl) d_Host_open_45 (fun S3 r4 h => ?_)
        refine z_istore (L' := [(5, .int r4), (4, .int r2), (0, .ref (ad B 2)), (1, .int a1), (2, .int a2), (3, .int a3)]) C hnl (by decide) rfl d_Host_open_48 ?_
        refine z_aload_n C 2 rfl rfl d_Host_open_50 ?_
        refine gf_Host_desk C (Or.inl tw_277) d_Host_open_51 ?_
        refine z_iload C 0 rfl d_Host_open_54 ?_
        refine z_callVq (rest := []) C q_Desk_get tw_768 (c_Desk_get _ B r4 S3 _ h) rc_Desk ⟨Nat.le_of_ble_eq_true rfl, Nat.le_of_ble_eq_true rfl⟩ rfl rfl (Nat.le_of_ble_eq_true rfl) d_Host_open_56 (fun S5 o6 h => ?_)
        refine z_astoreq (x := (o6).map (fun k => ad B (25 + k))) (L' := [(6, va_rf ((o6).map (fun k => ad B (25 + k)))), (5, .int r4), (4, .int r2), (0, .ref (ad B 2)), (1, .int a1), (2, .int a2), (3, .int a3)]) C hnl (by decide) rfl d_Host_open_59 ?_
        refine z_aloadq (x := (o6).map (fun k => ad B (25 + k))) C 0 rfl d_Host_open_61 ?_
        cases o6 with
        | none =>
          have h := h.1 rfl
          show zV E (wC B) S5 63 [(6, .null), (5, .int r4), (4, .int r2), (0, .ref (ad B 2)), (1, .int a1), (2, .int a2), (3, .int a3)] [.null]
          refine z_ifnonnullN (tgt := 73) C d_Host_open_63 rfl ?_
          refine z_aload_n C 3 rfl rfl d_Host_open_66 ?_
          refine z_bipush (v := (24 : Int32)) C rfl d_Host_open_67 ?_
          refine z_callVi (rest := []) C q_Host_fail tw_752 (c_Host_fail _ B (24 : Int32) S5 _ h) rc_Host ⟨Nat.le_of_ble_eq_true rfl, Nat.le_of_ble_eq_true rfl⟩ rfl rfl (Nat.le_of_ble_eq_true rfl) d_Host_open_69 (fun S8 r9 h => ?_)
          exact z_ireturn C G hr h d_Host_open_72
        | some k7 =>
          have h := h.2 k7 rfl
          show zV E (wC B) S5 63 [(6, .ref (ad B (25 + k7))), (5, .int r4), (4, .int r2), (0, .ref (ad B 2)), (1, .int a1), (2, .int a2), (3, .int a3)] [.ref (ad B (25 + k7))]
          refine z_ifnonnull (tgt := 73) C d_Host_open_63 rfl ?_
          refine z_aload_n C 3 rfl rfl d_Host_open_73 ?_
          refine gf_Host_firstName C (Or.inl tw_287) d_Host_open_74 ?_
          refine z_callSi (rest := []) C q_Host_namesConsole rfl tw_772 (c_Host_namesConsole _ B 30 S5 _ h) ⟨Nat.le_of_ble_eq_true rfl, Nat.le_of_ble_eq_true rfl⟩ rfl rfl (Nat.le_of_ble_eq_true rfl) d_Host_open_77 (fun S10 r11 h => ?_)
          refine z_if_eq (tgt := 92) C d_Host_open_80 rfl (fun c => ?_) (fun c => ?_)
          · have h := h.1 c
            refine z_aload_n C 3 rfl rfl d_Host_open_92 ?_
            refine z_aload C 0 rfl d_Host_open_93 ?_
            refine z_iload_n C 5 rfl rfl d_Host_open_95 ?_
            refine z_callVi (rest := []) C q_Host_openFile tw_781 (c_Host_openFile _ B k7 a2 S10 _ h) rc_Host ⟨Nat.le_of_ble_eq_true rfl, Nat.le_of_ble_eq_true rfl⟩ rfl rfl (Nat.le_of_ble_eq_true rfl) d_Host_open_96 (fun S12 r13 h => ?_)
            refine z_if_eq (tgt := 107) C d_Host_open_99 rfl (fun c => ?_) (fun c => ?_)
            · have h := h.1 c
              refine z_iconst (v := (-1 : Int32)) C rfl d_Host_open_107 ?_
              exact z_ireturn C G hr h d_Host_open_108
            · have h := h.2 c
              refine z_iload C 1 rfl d_Host_open_102 ?_
              refine z_goto (tgt := 108) C d_Host_open_104 rfl ?_
              exact z_ireturn C G hr h d_Host_open_108
          · have h := h.2 c
            refine z_aload C 0 rfl d_Host_open_83 ?_
            refine z_iload_n C 5 rfl rfl d_Host_open_85 ?_
            obtain ⟨f14, h⟩ := h
            refine z_callVv (rest := []) C q_Handle_openConsole tw_777 (c_Handle_openConsole _ B k7 a2 S10 _ h) (rc_Handle f14) ⟨Nat.le_of_ble_eq_true rfl, Nat.le_of_ble_eq_true rfl⟩ rfl rfl (Nat.le_of_ble_eq_true rfl) d_Host_open_86 (fun S15 h => ?_)
            refine z_iload C 1 rfl d_Host_open_89 ?_
            exact z_ireturn C G hr h d_Host_open_91
      · have h := h.2 c
        refine z_aload_n C 1 rfl rfl d_Host_open_34 ?_
        refine z_iload C 0 rfl d_Host_open_35 ?_
        refine z_callVi (rest := []) C q_Host_fail tw_752 (c_Host_fail _ B r2 S1 _ h) rc_Host ⟨Nat.le_of_ble_eq_true rfl, Nat.le_of_ble_eq_true rfl⟩ rfl rfl (Nat.le_of_ble_eq_true rfl) d_Host_open_37 (fun S16 r17 h => ?_)
        exact z_ireturn C G hr h d_Host_open_40
    · have h := h.2 c
      exact z_sub [0] rfl (vj_Host_open_10 C a1 a2 a3 P G hr hnl S h)
theorem c_Host_open (l : Launch) (B : zK) (a1 : Int32) (a2 : Int32) (a3 : Int32) (S : zS) (P : zS → Int32 → Prop) (h : w_Host_open a1 a2 a3 S P) : Met l y_Host_open (Cond.code y_Host_open prog_7_method_11_code 7 (some FieldType.int) :: tT) (zRm 4 86) (zPc (wC B) [.ref (ad B 2), .int a1, .int a2, .int a3] S) (zQ (wC B) (zPi P)) 0 0 (wC B).2.2.2 :=
  z_met (by decide) (Nat.le_of_ble_eq_true rfl) (fun E C G hr _ hnl => v_Host_open C a1 a2 a3 P G hr hnl S h)
theorem q_Host_open : zQw y_Host_open prog_7_method_11_code 7 (some FieldType.int) 3 := ⟨tw_750, tw_14, tw_79, tw_751, by decide +kernel⟩
def w_Host_close (a1 : Int32) (S : zS) (P : zS → Int32 → Prop) : Prop :=
  w_Desk_getOpen a1 S (fun S1 o2 => (o2 = none → (w_Host_fail (9 : Int32) S1 (fun S4 r5 => P S4 r5))) ∧ (∀ k3 : Nat, o2 = some k3 → (k3 < 10 ∧ w_Handle_shut k3 S1 (fun S7 => P S7 (0 : Int32)))))
set_option maxRecDepth 20000 in
set_option maxHeartbeats 4000000 in
theorem v_Host_close {E : zE} {B : zK} (C : zC E (wC B) prog_7_method_13_code "HostBench$Host" 2 43) (a1 : Int32) (P : zS → Int32 → Prop) (G : zGoal E (zQ (wC B) (zPi P)) (wC B)) (hr : zRt E (some .int)) (hnl : E.2.2.2.2.2.2.2.2.2.2.1 = 3) (S : zS) (h : w_Host_close a1 S P) : zV E (wC B) S 0 [(0, .ref (ad B 2)), (1, .int a1)] [] := by
  unfold w_Host_close at h
  refine z_aload_n C 0 rfl rfl d_Host_close_0 ?_
  refine gf_Host_desk C (Or.inl tw_277) d_Host_close_1 ?_
  refine z_iload_n C 1 rfl rfl d_Host_close_4 ?_
  refine z_callVq (rest := []) C q_Desk_getOpen tw_795 (c_Desk_getOpen _ B a1 S _ h) rc_Desk ⟨Nat.le_of_ble_eq_true rfl, Nat.le_of_ble_eq_true rfl⟩ rfl rfl (Nat.le_of_ble_eq_true rfl) d_Host_close_5 (fun S1 o2 h => ?_)
  refine z_astore_nq (x := (o2).map (fun k => ad B (25 + k))) (L' := [(2, va_rf ((o2).map (fun k => ad B (25 + k)))), (0, .ref (ad B 2)), (1, .int a1)]) C hnl rfl (by decide) rfl d_Host_close_8 ?_
  refine z_aload_nq (x := (o2).map (fun k => ad B (25 + k))) C 0 rfl rfl d_Host_close_9 ?_
  cases o2 with
  | none =>
    have h := h.1 rfl
    show zV E (wC B) S1 10 [(2, .null), (0, .ref (ad B 2)), (1, .int a1)] [.null]
    refine z_ifnonnullN (tgt := 20) C d_Host_close_10 rfl ?_
    refine z_aload_n C 1 rfl rfl d_Host_close_13 ?_
    refine z_bipush (v := (9 : Int32)) C rfl d_Host_close_14 ?_
    refine z_callVi (rest := []) C q_Host_fail tw_752 (c_Host_fail _ B (9 : Int32) S1 _ h) rc_Host ⟨Nat.le_of_ble_eq_true rfl, Nat.le_of_ble_eq_true rfl⟩ rfl rfl (Nat.le_of_ble_eq_true rfl) d_Host_close_16 (fun S4 r5 h => ?_)
    exact z_ireturn C G hr h d_Host_close_19
  | some k3 =>
    have h := h.2 k3 rfl
    show zV E (wC B) S1 10 [(2, .ref (ad B (25 + k3))), (0, .ref (ad B 2)), (1, .int a1)] [.ref (ad B (25 + k3))]
    refine z_ifnonnull (tgt := 20) C d_Host_close_10 rfl ?_
    refine z_aload_n C 0 rfl rfl d_Host_close_20 ?_
    obtain ⟨f6, h⟩ := h
    refine z_callVv (rest := []) C q_Handle_shut tw_800 (c_Handle_shut _ B k3 S1 _ h) (rc_Handle f6) ⟨Nat.le_of_ble_eq_true rfl, Nat.le_of_ble_eq_true rfl⟩ rfl rfl (Nat.le_of_ble_eq_true rfl) d_Host_close_21 (fun S7 h => ?_)
    refine z_iconst (v := (0 : Int32)) C rfl d_Host_close_24 ?_
    exact z_ireturn C G hr h d_Host_close_25
theorem c_Host_close (l : Launch) (B : zK) (a1 : Int32) (S : zS) (P : zS → Int32 → Prop) (h : w_Host_close a1 S P) : Met l y_Host_close (Cond.code y_Host_close prog_7_method_13_code 3 (some FieldType.int) :: tT) (zRm 2 43) (zPc (wC B) [.ref (ad B 2), .int a1] S) (zQ (wC B) (zPi P)) 0 0 (wC B).2.2.2 :=
  z_met (by decide) (Nat.le_of_ble_eq_true rfl) (fun E C G hr _ hnl => v_Host_close C a1 P G hr hnl S h)
theorem q_Host_close : zQw y_Host_close prog_7_method_13_code 3 (some FieldType.int) 1 := ⟨tw_793, tw_18, tw_79, tw_794, by decide +kernel⟩
def w_Host_writeText (a1 : Int32) (S : zS) (P : zS → Int32 → Prop) : Prop :=
  (a1 = (-1 : Int32) → (w_Host_fail (14 : Int32) S (fun S3 r4 => P S3 r4))) ∧ (¬ a1 = (-1 : Int32) → (0 < 2 ∧ w_Output_receive 0 (gM S 0 5) a1 S (fun S2 => P S2 (0 : Int32))))
set_option maxRecDepth 20000 in
set_option maxHeartbeats 4000000 in
theorem v_Host_writeText {E : zE} {B : zK} (C : zC E (wC B) prog_7_method_14_code "HostBench$Host" 2 46) (a1 : Int32) (P : zS → Int32 → Prop) (G : zGoal E (zQ (wC B) (zPi P)) (wC B)) (hr : zRt E (some .int)) (hnl : E.2.2.2.2.2.2.2.2.2.2.1 = 2) (S : zS) (h : w_Host_writeText a1 S P) : zV E (wC B) S 0 [(0, .ref (ad B 2)), (1, .int a1)] [] := by
  unfold w_Host_writeText at h
  refine z_iload_n C 1 rfl rfl d_Host_writeText_0 ?_
  refine z_iconst (v := (-1 : Int32)) C rfl d_Host_writeText_1 ?_
  refine z_icmp_ne (tgt := 12) C d_Host_writeText_2 rfl (fun c => ?_) (fun c => ?_)
  · have h := h.2 c
    refine z_aload_n C 0 rfl rfl d_Host_writeText_12 ?_
    refine gf_Host_out C (Or.inl tw_281) d_Host_writeText_13 ?_
    refine z_aload_n C 0 rfl rfl d_Host_writeText_16 ?_
    refine gf_Host_memory C (Or.inl tw_274) d_Host_writeText_17 ?_
    refine z_aload_n C 0 rfl rfl d_Host_writeText_20 ?_
    refine gf_Host_block C (Or.inl tw_289) d_Host_writeText_21 ?_
    refine z_iload_n C 1 rfl rfl d_Host_writeText_24 ?_
    obtain ⟨f1, h⟩ := h
    refine z_callVv (rest := []) C q_Output_receive tw_808 (c_Output_receive _ B 0 (gM S 0 5) a1 S _ h) (rc_Output f1) ⟨Nat.le_of_ble_eq_true rfl, Nat.le_of_ble_eq_true rfl⟩ rfl rfl (Nat.le_of_ble_eq_true rfl) d_Host_writeText_25 (fun S2 h => ?_)
    refine z_iconst (v := (0 : Int32)) C rfl d_Host_writeText_28 ?_
    exact z_ireturn C G hr h d_Host_writeText_29
  · have h := h.1 c
    refine z_aload_n C 0 rfl rfl d_Host_writeText_5 ?_
    refine z_bipush (v := (14 : Int32)) C rfl d_Host_writeText_6 ?_
    refine z_callVi (rest := []) C q_Host_fail tw_752 (c_Host_fail _ B (14 : Int32) S _ h) rc_Host ⟨Nat.le_of_ble_eq_true rfl, Nat.le_of_ble_eq_true rfl⟩ rfl rfl (Nat.le_of_ble_eq_true rfl) d_Host_writeText_8 (fun S3 r4 h => ?_)
    exact z_ireturn C G hr h d_Host_writeText_11
theorem c_Host_writeText (l : Launch) (B : zK) (a1 : Int32) (S : zS) (P : zS → Int32 → Prop) (h : w_Host_writeText a1 S P) : Met l y_Host_writeText (Cond.code y_Host_writeText prog_7_method_14_code 2 (some FieldType.int) :: tT) (zRm 2 46) (zPc (wC B) [.ref (ad B 2), .int a1] S) (zQ (wC B) (zPi P)) 0 0 (wC B).2.2.2 :=
  z_met (by decide) (Nat.le_of_ble_eq_true rfl) (fun E C G hr _ hnl => v_Host_writeText C a1 P G hr hnl S h)
theorem q_Host_writeText : zQw y_Host_writeText prog_7_method_14_code 2 (some FieldType.int) 1 := ⟨tw_806, tw_19, tw_79, tw_807, by decide +kernel⟩
def j_Host_writeFile_135 (a1 : Nat) (a2 : Nat) (a3 : Int32) (a4 : Int32) (P : zS → Int32 → Prop) (K80 : zS → Nat → Int32 → Int32 → Int32 → Prop) (S : zS) (x5 : Nat) (x6 : Int32) (x7 : Int32) (x8 : Int32) : Prop :=
  K80 S x5 x6 x7 (x8 + (1 : Int32))
set_option maxRecDepth 20000 in
set_option maxHeartbeats 4000000 in
theorem vj_Host_writeFile_135 {E : zE} {B : zK} (C : zC E (wC B) prog_7_method_16_code "HostBench$Host" 1 22) (a1 : Nat) (a2 : Nat) (a3 : Int32) (a4 : Int32) (P : zS → Int32 → Prop) (G : zGoal E (zQ (wC B) (zPi P)) (wC B)) (hr : zRt E (some .int)) (hnl : E.2.2.2.2.2.2.2.2.2.2.1 = 10) (K80 : zS → Nat → Int32 → Int32 → Int32 → Prop) (hK80 : ∀ (S : zS) (x5 : Nat) (x6 : Int32) (x7 : Int32) (x8 : Int32), K80 S x5 x6 x7 x8 → zV E (wC B) S 80 [(0, .ref (ad B 2)), (1, .ref (ad B (25 + a1))), (3, .int a3), (4, .int a4), (5, .ref (ad B (35 + x5))), (6, .int x6), (7, .int x7), (8, .int x8)] []) (S : zS) (x5 : Nat) (x6 : Int32) (x7 : Int32) (x8 : Int32) (h : j_Host_writeFile_135 a1 a2 a3 a4 P K80 S x5 x6 x7 x8) : zV E (wC B) S 135 [(0, .ref (ad B 2)), (1, .ref (ad B (25 + a1))), (3, .int a3), (4, .int a4), (5, .ref (ad B (35 + x5))), (6, .int x6), (7, .int x7), (8, .int x8)] [] := by
  unfold j_Host_writeFile_135 at h
  refine z_iinc (v := x8 + (1 : Int32)) (L' := [(8, .int (x8 + (1 : Int32))), (0, .ref (ad B 2)), (1, .ref (ad B (25 + a1))), (3, .int a3), (4, .int a4), (5, .ref (ad B (35 + x5))), (6, .int x6), (7, .int x7)]) C hnl 7 rfl rfl (by decide) rfl d_Host_writeFile_135 ?_
  refine z_goto (tgt := 80) C d_Host_writeFile_138 rfl ?_
  exact z_sub [1, 2, 3, 4, 5, 6, 7, 0] rfl (hK80 S x5 x6 x7 (x8 + (1 : Int32)) h)
def j_Host_writeFile_163 (a1 : Nat) (a2 : Nat) (a3 : Int32) (a4 : Int32) (P : zS → Int32 → Prop) (S : zS) (x7 : Int32) : Prop :=
  P S (a4 - x7)
set_option maxRecDepth 20000 in
set_option maxHeartbeats 4000000 in
theorem vj_Host_writeFile_163 {E : zE} {B : zK} (C : zC E (wC B) prog_7_method_16_code "HostBench$Host" 1 22) (a1 : Nat) (a2 : Nat) (a3 : Int32) (a4 : Int32) (P : zS → Int32 → Prop) (G : zGoal E (zQ (wC B) (zPi P)) (wC B)) (hr : zRt E (some .int)) (hnl : E.2.2.2.2.2.2.2.2.2.2.1 = 10) (S : zS) (x7 : Int32) (h : j_Host_writeFile_163 a1 a2 a3 a4 P S x7) : zV E (wC B) S 163 [(4, .int a4), (7, .int x7)] [] := by
  unfold j_Host_writeFile_163 at h
  refine z_iload C 0 rfl d_Host_writeFile_163 ?_
  refine z_iload C 1 rfl d_Host_writeFile_165 ?_
  refine z_isub C d_Host_writeFile_167 ?_
  exact z_ireturn C G hr h d_Host_writeFile_168
def l_Host_writeFile_80 (a1 : Nat) (a2 : Nat) (a3 : Int32) (a4 : Int32) (P : zS → Int32 → Prop) : Nat → zS → Nat → Int32 → Int32 → Int32 → Prop
  | 0, _, _, _, _, _ => False
  | n + 1, S, x5, x6, x7, x8 =>
  (x7 ≤ x8 → (a1 < 10 ∧ ∀ S2 : zS, S2 = sM S 5 a1 (x6 + x7) → (a4 ≤ x7 → (j_Host_writeFile_163 a1 a2 a3 a4 P S2 x7)) ∧ (¬ a4 ≤ x7 → (∀ S3 : zS, S3 = sM S2 0 6 (28 : Int32) → j_Host_writeFile_163 a1 a2 a3 a4 P S3 x7)))) ∧ (¬ x7 ≤ x8 → (w_Memory_byteAt (a3 + x8) S (fun S4 r5 => x5 < 32 ∧ w_Bytes_size x5 S4 (fun S7 r8 => (r8 ≤ (x6 + x8) → (w_Bytes_add x5 r5 S7 (fun S9 => j_Host_writeFile_135 a1 a2 a3 a4 P (fun S x5 x6 x7 x8 => l_Host_writeFile_80 a1 a2 a3 a4 P n S x5 x6 x7 x8) S9 x5 x6 x7 x8))) ∧ (¬ r8 ≤ (x6 + x8) → (w_Bytes_change x5 (x6 + x8) r5 S7 (fun S10 => j_Host_writeFile_135 a1 a2 a3 a4 P (fun S x5 x6 x7 x8 => l_Host_writeFile_80 a1 a2 a3 a4 P n S x5 x6 x7 x8) S10 x5 x6 x7 x8)))))))
set_option maxRecDepth 20000 in
set_option maxHeartbeats 4000000 in
theorem vl_Host_writeFile_80 {E : zE} {B : zK} (C : zC E (wC B) prog_7_method_16_code "HostBench$Host" 1 22) (a1 : Nat) (a2 : Nat) (a3 : Int32) (a4 : Int32) (P : zS → Int32 → Prop) (G : zGoal E (zQ (wC B) (zPi P)) (wC B)) (hr : zRt E (some .int)) (hnl : E.2.2.2.2.2.2.2.2.2.2.1 = 10) : ∀ (n : Nat) (S : zS) (x5 : Nat) (x6 : Int32) (x7 : Int32) (x8 : Int32) , l_Host_writeFile_80 a1 a2 a3 a4 P n S x5 x6 x7 x8 → zV E (wC B) S 80 [(0, .ref (ad B 2)), (1, .ref (ad B (25 + a1))), (3, .int a3), (4, .int a4), (5, .ref (ad B (35 + x5))), (6, .int x6), (7, .int x7), (8, .int x8)] [] := by
  intro n
  induction n with
  | zero => intro S x5 x6 x7 x8 h; exact h.elim
  | succ n ih =>
    intro S x5 x6 x7 x8 h
    unfold l_Host_writeFile_80 at h
    refine z_iload C 7 rfl d_Host_writeFile_80 ?_
    refine z_iload C 6 rfl d_Host_writeFile_82 ?_
    refine z_icmp_ge (tgt := 141) C d_Host_writeFile_84 rfl (fun c => ?_) (fun c => ?_)
    · have h := h.1 c
      refine z_aload_n C 1 rfl rfl d_Host_writeFile_141 ?_
      refine z_iload C 5 rfl d_Host_writeFile_142 ?_
      refine z_iload C 6 rfl d_Host_writeFile_144 ?_
      refine z_iadd C d_Host_writeFile_146 ?_
      obtain ⟨f1, h⟩ := h
      refine pf_Handle_place C f1 (Or.inr (List.mem_of_getElem? (i := 22) rfl)) d_Host_writeFile_147 ?_
      refine z_nS (fun S2 eS2 => ?_)
      have h := h S2 eS2
      refine z_iload C 6 rfl d_Host_writeFile_150 ?_
      refine z_iload C 3 rfl d_Host_writeFile_152 ?_
      refine z_icmp_ge (tgt := 163) C d_Host_writeFile_154 rfl (fun c => ?_) (fun c => ?_)
      · have h := h.1 c
        exact z_sub [3, 6] rfl (vj_Host_writeFile_163 C a1 a2 a3 a4 P G hr hnl S2 x7 h)
      · have h := h.2 c
        refine z_aload_n C 0 rfl rfl d_Host_writeFile_157 ?_
        refine z_bipush (v := (28 : Int32)) C rfl d_Host_writeFile_158 ?_
        refine pf_Host_errno C (Or.inl tw_290) d_Host_writeFile_160 ?_
        refine z_nS (fun S3 eS3 => ?_)
        have h := h S3 eS3
        exact z_sub [3, 6] rfl (vj_Host_writeFile_163 C a1 a2 a3 a4 P G hr hnl S3 x7 h)
    · have h := h.2 c
      refine z_aload_n C 0 rfl rfl d_Host_writeFile_87 ?_
      refine gf_Host_memory C (Or.inl tw_274) d_Host_writeFile_88 ?_
      refine z_iload_n C 2 rfl rfl d_Host_writeFile_91 ?_
      refine z_iload C 7 rfl d_Host_writeFile_92 ?_
      refine z_iadd C d_Host_writeFile_94 ?_
      refine z_callVi (rest := []) C q_Memory_byteAt tw_761 (c_Memory_byteAt _ B (a3 + x8) S _ h) rc_Memory ⟨Nat.le_of_ble_eq_true rfl, Nat.le_of_ble_eq_true rfl⟩ rfl rfl (Nat.le_of_ble_eq_true rfl) d_Host_writeFile_95 (fun S4 r5 h => ?_)
      refine z_istore (L' := [(9, .int r5), (0, .ref (ad B 2)), (1, .ref (ad B (25 + a1))), (3, .int a3), (4, .int a4), (5, .ref (ad B (35 + x5))), (6, .int x6), (7, .int x7), (8, .int x8)]) C hnl (by decide) rfl d_Host_writeFile_98 ?_
      refine z_iload C 6 rfl d_Host_writeFile_100 ?_
      refine z_iload C 8 rfl d_Host_writeFile_102 ?_
      refine z_iadd C d_Host_writeFile_104 ?_
      refine z_aload C 5 rfl d_Host_writeFile_105 ?_
      obtain ⟨f6, h⟩ := h
      refine z_callVi (rest := [.int (x6 + x8)]) C q_Bytes_size tw_775 (c_Bytes_size _ B x5 S4 _ h) (rc_Bytes f6) ⟨Nat.le_of_ble_eq_true rfl, Nat.le_of_ble_eq_true rfl⟩ rfl rfl (Nat.le_of_ble_eq_true rfl) d_Host_writeFile_107 (fun S7 r8 h => ?_)
      refine z_icmp_ge (tgt := 128) C d_Host_writeFile_110 rfl (fun c => ?_) (fun c => ?_)
      · have h := h.1 c
        refine z_aload C 5 rfl d_Host_writeFile_128 ?_
        refine z_iload C 0 rfl d_Host_writeFile_130 ?_
        refine z_callVv (rest := []) C q_Bytes_add tw_762 (c_Bytes_add _ B x5 r5 S7 _ h) (rc_Bytes f6) ⟨Nat.le_of_ble_eq_true rfl, Nat.le_of_ble_eq_true rfl⟩ rfl rfl (Nat.le_of_ble_eq_true rfl) d_Host_writeFile_132 (fun S9 h => ?_)
        exact z_sub [1, 2, 3, 4, 5, 6, 7, 8] rfl (vj_Host_writeFile_135 C a1 a2 a3 a4 P G hr hnl (fun S x5 x6 x7 x8 => l_Host_writeFile_80 a1 a2 a3 a4 P n S x5 x6 x7 x8) ih S9 x5 x6 x7 x8 h)
      · have h := h.2 c
        refine z_aload C 5 rfl d_Host_writeFile_113 ?_
        refine z_iload C 6 rfl d_Host_writeFile_115 ?_
        refine z_iload C 8 rfl d_Host_writeFile_117 ?_
        refine z_iadd C d_Host_writeFile_119 ?_
        refine z_iload C 0 rfl d_Host_writeFile_120 ?_
        refine z_callVv (rest := []) C q_Bytes_change tw_834 (c_Bytes_change _ B x5 (x6 + x8) r5 S7 _ h) (rc_Bytes f6) ⟨Nat.le_of_ble_eq_true rfl, Nat.le_of_ble_eq_true rfl⟩ rfl rfl (Nat.le_of_ble_eq_true rfl) d_Host_writeFile_122 (fun S10 h => ?_)
        refine z_goto (tgt := 135) C d_Host_writeFile_125 rfl ?_
        exact z_sub [1, 2, 3, 4, 5, 6, 7, 8] rfl (vj_Host_writeFile_135 C a1 a2 a3 a4 P G hr hnl (fun S x5 x6 x7 x8 => l_Host_writeFile_80 a1 a2 a3 a4 P n S x5 x6 x7 x8) ih S10 x5 x6 x7 x8 h)
def j_Host_writeFile_77 (a1 : Nat) (a2 : Nat) (a3 : Int32) (a4 : Int32) (P : zS → Int32 → Prop) (S : zS) (x5 : Nat) (x6 : Int32) (x7 : Int32) : Prop :=
  ∃ n1 : Nat, l_Host_writeFile_80 a1 a2 a3 a4 P n1 S x5 x6 x7 (0 : Int32)
set_option maxRecDepth 20000 in
set_option maxHeartbeats 4000000 in
theorem vj_Host_writeFile_77 {E : zE} {B : zK} (C : zC E (wC B) prog_7_method_16_code "HostBench$Host" 1 22) (a1 : Nat) (a2 : Nat) (a3 : Int32) (a4 : Int32) (P : zS → Int32 → Prop) (G : zGoal E (zQ (wC B) (zPi P)) (wC B)) (hr : zRt E (some .int)) (hnl : E.2.2.2.2.2.2.2.2.2.2.1 = 10) (S : zS) (x5 : Nat) (x6 : Int32) (x7 : Int32) (h : j_Host_writeFile_77 a1 a2 a3 a4 P S x5 x6 x7) : zV E (wC B) S 77 [(0, .ref (ad B 2)), (1, .ref (ad B (25 + a1))), (3, .int a3), (4, .int a4), (5, .ref (ad B (35 + x5))), (6, .int x6), (7, .int x7)] [] := by
  unfold j_Host_writeFile_77 at h
  refine z_iconst (v := (0 : Int32)) C rfl d_Host_writeFile_77 ?_
  refine z_istore (L' := [(8, .int (0 : Int32)), (0, .ref (ad B 2)), (1, .ref (ad B (25 + a1))), (3, .int a3), (4, .int a4), (5, .ref (ad B (35 + x5))), (6, .int x6), (7, .int x7)]) C hnl (by decide) rfl d_Host_writeFile_78 ?_
  obtain ⟨n1, h⟩ := h
  exact z_sub [1, 2, 3, 4, 5, 6, 7, 0] rfl (vl_Host_writeFile_80 C a1 a2 a3 a4 P G hr hnl n1 S x5 x6 x7 (0 : Int32) h)
def l_Host_writeFile_58 (a1 : Nat) (a2 : Nat) (a3 : Int32) (a4 : Int32) (P : zS → Int32 → Prop) : Nat → zS → Nat → Int32 → Int32 → Int32 → Prop
  | 0, _, _, _, _, _ => False
  | n + 1, S, x5, x6, x7, x8 =>
  (x6 ≤ x8 → (j_Host_writeFile_77 a1 a2 a3 a4 P S x5 x6 x7)) ∧ (¬ x6 ≤ x8 → (x5 < 32 ∧ w_Bytes_add x5 (0 : Int32) S (fun S2 => l_Host_writeFile_58 a1 a2 a3 a4 P n S2 x5 x6 x7 (x8 + (1 : Int32)))))
set_option maxRecDepth 20000 in
set_option maxHeartbeats 4000000 in
theorem vl_Host_writeFile_58 {E : zE} {B : zK} (C : zC E (wC B) prog_7_method_16_code "HostBench$Host" 1 22) (a1 : Nat) (a2 : Nat) (a3 : Int32) (a4 : Int32) (P : zS → Int32 → Prop) (G : zGoal E (zQ (wC B) (zPi P)) (wC B)) (hr : zRt E (some .int)) (hnl : E.2.2.2.2.2.2.2.2.2.2.1 = 10) : ∀ (n : Nat) (S : zS) (x5 : Nat) (x6 : Int32) (x7 : Int32) (x8 : Int32) , l_Host_writeFile_58 a1 a2 a3 a4 P n S x5 x6 x7 x8 → zV E (wC B) S 58 [(0, .ref (ad B 2)), (1, .ref (ad B (25 + a1))), (3, .int a3), (4, .int a4), (5, .ref (ad B (35 + x5))), (6, .int x6), (7, .int x7), (8, .int x8)] [] := by
  intro n
  induction n with
  | zero => intro S x5 x6 x7 x8 h; exact h.elim
  | succ n ih =>
    intro S x5 x6 x7 x8 h
    unfold l_Host_writeFile_58 at h
    refine z_iload C 7 rfl d_Host_writeFile_58 ?_
    refine z_iload C 5 rfl d_Host_writeFile_60 ?_
    refine z_icmp_ge (tgt := 77) C d_Host_writeFile_62 rfl (fun c => ?_) (fun c => ?_)
    · have h := h.1 c
      exact z_sub [0, 1, 2, 3, 4, 5, 6] rfl (vj_Host_writeFile_77 C a1 a2 a3 a4 P G hr hnl S x5 x6 x7 h)
    · have h := h.2 c
      refine z_aload C 4 rfl d_Host_writeFile_65 ?_
      refine z_iconst (v := (0 : Int32)) C rfl d_Host_writeFile_67 ?_
      obtain ⟨f1, h⟩ := h
      refine z_callVv (rest := []) C q_Bytes_add tw_762 (c_Bytes_add _ B x5 (0 : Int32) S _ h) (rc_Bytes f1) ⟨Nat.le_of_ble_eq_true rfl, Nat.le_of_ble_eq_true rfl⟩ rfl rfl (Nat.le_of_ble_eq_true rfl) d_Host_writeFile_68 (fun S2 h => ?_)
      refine z_iinc (v := x8 + (1 : Int32)) (L' := [(8, .int (x8 + (1 : Int32))), (0, .ref (ad B 2)), (1, .ref (ad B (25 + a1))), (3, .int a3), (4, .int a4), (5, .ref (ad B (35 + x5))), (6, .int x6), (7, .int x7)]) C hnl 7 rfl rfl (by decide) rfl d_Host_writeFile_71 ?_
      refine z_goto (tgt := 58) C d_Host_writeFile_74 rfl ?_
      exact z_sub [1, 2, 3, 4, 5, 6, 7, 0] rfl (ih S2 x5 x6 x7 (x8 + (1 : Int32)) h)
def j_Host_writeFile_23 (a1 : Nat) (a2 : Nat) (a3 : Int32) (a4 : Int32) (P : zS → Int32 → Prop) (S : zS) (x5 : Nat) : Prop :=
  a1 < 10 ∧ ∀ v2 : Int32, v2 = (gM S 5 a1) → ∀ v3 : Int32, v3 = (mxI (0 : Int32) (mnI a4 ((2000 : Int32) - v2))) → (v3 ≤ 0 → (j_Host_writeFile_77 a1 a2 a3 a4 P S x5 v2 v3)) ∧ (¬ v3 ≤ 0 → (x5 < 32 ∧ w_Bytes_size x5 S (fun S5 r6 => ∃ n7 : Nat, l_Host_writeFile_58 a1 a2 a3 a4 P n7 S5 x5 v2 v3 r6)))
set_option maxRecDepth 20000 in
set_option maxHeartbeats 4000000 in
theorem vj_Host_writeFile_23 {E : zE} {B : zK} (C : zC E (wC B) prog_7_method_16_code "HostBench$Host" 1 22) (a1 : Nat) (a2 : Nat) (a3 : Int32) (a4 : Int32) (P : zS → Int32 → Prop) (G : zGoal E (zQ (wC B) (zPi P)) (wC B)) (hr : zRt E (some .int)) (hnl : E.2.2.2.2.2.2.2.2.2.2.1 = 10) (S : zS) (x5 : Nat) (h : j_Host_writeFile_23 a1 a2 a3 a4 P S x5) : zV E (wC B) S 23 [(0, .ref (ad B 2)), (1, .ref (ad B (25 + a1))), (3, .int a3), (4, .int a4), (5, .ref (ad B (35 + x5)))] [] := by
  unfold j_Host_writeFile_23 at h
  refine z_aload_n C 1 rfl rfl d_Host_writeFile_23 ?_
  obtain ⟨f1, h⟩ := h
  refine gf_Handle_place C f1 (Or.inr (List.mem_of_getElem? (i := 22) rfl)) d_Host_writeFile_24 ?_
  refine z_topi (fun v2 ev2 => ?_)
  have h := h v2 ev2
  refine z_istore (L' := [(6, .int v2), (0, .ref (ad B 2)), (1, .ref (ad B (25 + a1))), (3, .int a3), (4, .int a4), (5, .ref (ad B (35 + x5)))]) C hnl (by decide) rfl d_Host_writeFile_27 ?_
  refine z_iconst (v := (0 : Int32)) C rfl d_Host_writeFile_29 ?_
  refine z_iload C 4 rfl d_Host_writeFile_30 ?_
  refine z_sipush (v := (2000 : Int32)) C rfl d_Host_writeFile_32 ?_
  refine z_iload C 0 rfl d_Host_writeFile_35 ?_
  refine z_isub C d_Host_writeFile_37 ?_
  refine z_mmin C tw_832 tw_556 tw_78 tw_557 (Nat.le_of_ble_eq_true rfl) (Nat.le_of_ble_eq_true rfl) d_Host_writeFile_38 ?_
  refine z_mmax C tw_833 tw_111 tw_78 tw_112 (Nat.le_of_ble_eq_true rfl) (Nat.le_of_ble_eq_true rfl) d_Host_writeFile_41 ?_
  refine z_topi (fun v3 ev3 => ?_)
  have h := h v3 ev3
  refine z_istore (L' := [(7, .int v3), (6, .int v2), (0, .ref (ad B 2)), (1, .ref (ad B (25 + a1))), (3, .int a3), (4, .int a4), (5, .ref (ad B (35 + x5)))]) C hnl (by decide) rfl d_Host_writeFile_44 ?_
  refine z_iload C 0 rfl d_Host_writeFile_46 ?_
  refine z_if_le (tgt := 77) C d_Host_writeFile_48 rfl (fun c => ?_) (fun c => ?_)
  · have h := h.1 c
    exact z_sub [2, 3, 4, 5, 6, 1, 0] rfl (vj_Host_writeFile_77 C a1 a2 a3 a4 P G hr hnl S x5 v2 v3 h)
  · have h := h.2 c
    refine z_aload C 6 rfl d_Host_writeFile_51 ?_
    obtain ⟨f4, h⟩ := h
    refine z_callVi (rest := []) C q_Bytes_size tw_775 (c_Bytes_size _ B x5 S _ h) (rc_Bytes f4) ⟨Nat.le_of_ble_eq_true rfl, Nat.le_of_ble_eq_true rfl⟩ rfl rfl (Nat.le_of_ble_eq_true rfl) d_Host_writeFile_53 (fun S5 r6 h => ?_)
    refine z_istore (L' := [(8, .int r6), (7, .int v3), (6, .int v2), (0, .ref (ad B 2)), (1, .ref (ad B (25 + a1))), (3, .int a3), (4, .int a4), (5, .ref (ad B (35 + x5)))]) C hnl (by decide) rfl d_Host_writeFile_56 ?_
    obtain ⟨n7, h⟩ := h
    exact z_sub [3, 4, 5, 6, 7, 2, 1, 0] rfl (vl_Host_writeFile_58 C a1 a2 a3 a4 P G hr hnl n7 S5 x5 v2 v3 r6 h)
def w_Host_writeFile (a1 : Nat) (a2 : Nat) (a3 : Int32) (a4 : Int32) (S : zS) (P : zS → Int32 → Prop) : Prop :=
  a2 < 12 ∧ a1 < 10 ∧ w_Handle_may a1 (4 : Int32) S (fun S3 r4 => (r4 = 0 → (j_Host_writeFile_23 a1 a2 a3 a4 P S3 (3 + 2 * a2))) ∧ (¬ r4 = 0 → ((3 + 2 * a2) < 32 ∧ w_Bytes_size (3 + 2 * a2) S3 (fun S6 r7 => ∀ S8 : zS, S8 = sM S6 5 a1 r7 → j_Host_writeFile_23 a1 a2 a3 a4 P S8 (3 + 2 * a2)))))
set_option maxRecDepth 20000 in
set_option maxHeartbeats 4000000 in
theorem v_Host_writeFile {E : zE} {B : zK} (C : zC E (wC B) prog_7_method_16_code "HostBench$Host" 1 22) (a1 : Nat) (a2 : Nat) (a3 : Int32) (a4 : Int32) (P : zS → Int32 → Prop) (G : zGoal E (zQ (wC B) (zPi P)) (wC B)) (hr : zRt E (some .int)) (hnl : E.2.2.2.2.2.2.2.2.2.2.1 = 10) (S : zS) (h : w_Host_writeFile a1 a2 a3 a4 S P) : zV E (wC B) S 0 [(0, .ref (ad B 2)), (1, .ref (ad B (25 + a1))), (2, .ref (ad B (13 + a2))), (3, .int a3), (4, .int a4)] [] := by
  unfold w_Host_writeFile at h
  refine z_aload_n C 2 rfl rfl d_Host_writeFile_0 ?_
  obtain ⟨f1, h⟩ := h
  refine gf_HostFile_content C f1 (Or.inr (List.mem_of_getElem? (i := 14) rfl)) d_Host_writeFile_1 ?_
  refine z_astore (L' := [(5, .ref (ad B (35 + (3 + 2 * a2)))), (0, .ref (ad B 2)), (1, .ref (ad B (25 + a1))), (2, .ref (ad B (13 + a2))), (3, .int a3), (4, .int a4)]) C hnl (by decide) rfl d_Host_writeFile_4 ?_
  refine z_aload_n C 2 rfl rfl d_Host_writeFile_6 ?_
  refine z_iconst (v := (4 : Int32)) C rfl d_Host_writeFile_7 ?_
  obtain ⟨f2, h⟩ := h
  refine z_callVi (rest := []) C q_Handle_may tw_824 (c_Handle_may _ B a1 (4 : Int32) S _ h) (rc_Handle f2) ⟨Nat.le_of_ble_eq_true rfl, Nat.le_of_ble_eq_true rfl⟩ rfl rfl (Nat.le_of_ble_eq_true rfl) d_Host_writeFile_8 (fun S3 r4 h => ?_)
  refine z_if_eq (tgt := 23) C d_Host_writeFile_11 rfl (fun c => ?_) (fun c => ?_)
  · have h := h.1 c
    exact z_sub [1, 2, 4, 5, 0] rfl (vj_Host_writeFile_23 C a1 a2 a3 a4 P G hr hnl S3 (3 + 2 * a2) h)
  · have h := h.2 c
    refine z_aload_n C 2 rfl rfl d_Host_writeFile_14 ?_
    refine z_aload C 0 rfl d_Host_writeFile_15 ?_
    obtain ⟨f5, h⟩ := h
    refine z_callVi (rest := [.ref (ad B (25 + a1))]) C q_Bytes_size tw_775 (c_Bytes_size _ B (3 + 2 * a2) S3 _ h) (rc_Bytes f5) ⟨Nat.le_of_ble_eq_true rfl, Nat.le_of_ble_eq_true rfl⟩ rfl rfl (Nat.le_of_ble_eq_true rfl) d_Host_writeFile_17 (fun S6 r7 h => ?_)
    refine pf_Handle_place C f2 (Or.inr (List.mem_of_getElem? (i := 22) rfl)) d_Host_writeFile_20 ?_
    refine z_nS (fun S8 eS8 => ?_)
    have h := h S8 eS8
    exact z_sub [1, 2, 4, 5, 0] rfl (vj_Host_writeFile_23 C a1 a2 a3 a4 P G hr hnl S8 (3 + 2 * a2) h)
theorem c_Host_writeFile (l : Launch) (B : zK) (a1 : Nat) (a2 : Nat) (a3 : Int32) (a4 : Int32) (S : zS) (P : zS → Int32 → Prop) (h : w_Host_writeFile a1 a2 a3 a4 S P) : Met l y_Host_writeFile (Cond.code y_Host_writeFile prog_7_method_16_code 10 (some FieldType.int) :: tT) (zRm 1 22) (zPc (wC B) [.ref (ad B 2), .ref (ad B (25 + a1)), .ref (ad B (13 + a2)), .int a3, .int a4] S) (zQ (wC B) (zPi P)) 0 0 (wC B).2.2.2 :=
  z_met (by decide) (Nat.le_of_ble_eq_true rfl) (fun E C G hr _ hnl => v_Host_writeFile C a1 a2 a3 a4 P G hr hnl S h)
theorem q_Host_writeFile : zQw y_Host_writeFile prog_7_method_16_code 10 (some FieldType.int) 4 := ⟨tw_830, tw_21, tw_79, tw_831, by decide +kernel⟩
def j_Host_write_24 (a1 : Int32) (a2 : Int32) (a3 : Int32) (P : zS → Int32 → Prop) (S : zS) : Prop :=
  ∀ S1 : zS, S1 = sM S 0 6 (9 : Int32) → P S1 a3
set_option maxRecDepth 20000 in
set_option maxHeartbeats 4000000 in
theorem vj_Host_write_24 {E : zE} {B : zK} (C : zC E (wC B) prog_7_method_15_code "HostBench$Host" 2 51) (a1 : Int32) (a2 : Int32) (a3 : Int32) (P : zS → Int32 → Prop) (G : zGoal E (zQ (wC B) (zPi P)) (wC B)) (hr : zRt E (some .int)) (hnl : E.2.2.2.2.2.2.2.2.2.2.1 = 7) (S : zS) (h : j_Host_write_24 a1 a2 a3 P S) : zV E (wC B) S 24 [(0, .ref (ad B 2)), (3, .int a3)] [] := by
  unfold j_Host_write_24 at h
  refine z_aload_n C 0 rfl rfl d_Host_write_24 ?_
  refine z_bipush (v := (9 : Int32)) C rfl d_Host_write_25 ?_
  refine pf_Host_errno C (Or.inl tw_290) d_Host_write_27 ?_
  refine z_nS (fun S1 eS1 => ?_)
  have h := h S1 eS1
  refine z_iload_n C 1 rfl rfl d_Host_write_30 ?_
  exact z_ireturn C G hr h d_Host_write_31
def j_Host_write_95 (a1 : Int32) (a2 : Int32) (a3 : Int32) (P : zS → Int32 → Prop) (S : zS) (s0 : Nat) : Prop :=
  s0 < 2 ∧ w_Output_receive s0 a2 a3 S (fun S2 => P S2 (0 : Int32))
set_option maxRecDepth 20000 in
set_option maxHeartbeats 4000000 in
theorem vj_Host_write_95 {E : zE} {B : zK} (C : zC E (wC B) prog_7_method_15_code "HostBench$Host" 2 51) (a1 : Int32) (a2 : Int32) (a3 : Int32) (P : zS → Int32 → Prop) (G : zGoal E (zQ (wC B) (zPi P)) (wC B)) (hr : zRt E (some .int)) (hnl : E.2.2.2.2.2.2.2.2.2.2.1 = 7) (S : zS) (s0 : Nat) (h : j_Host_write_95 a1 a2 a3 P S s0) : zV E (wC B) S 95 [(0, .ref (ad B 2)), (2, .int a2), (3, .int a3)] [.ref (ad B (11 + s0))] := by
  unfold j_Host_write_95 at h
  refine z_astore (L' := [(6, .ref (ad B (11 + s0))), (0, .ref (ad B 2)), (2, .int a2), (3, .int a3)]) C hnl (by decide) rfl d_Host_write_95 ?_
  refine z_aload C 0 rfl d_Host_write_97 ?_
  refine z_aload_n C 1 rfl rfl d_Host_write_99 ?_
  refine gf_Host_memory C (Or.inl tw_274) d_Host_write_100 ?_
  refine z_iload_n C 2 rfl rfl d_Host_write_103 ?_
  refine z_iload_n C 3 rfl rfl d_Host_write_104 ?_
  obtain ⟨f1, h⟩ := h
  refine z_callVv (rest := []) C q_Output_receive tw_808 (c_Output_receive _ B s0 a2 a3 S _ h) (rc_Output f1) ⟨Nat.le_of_ble_eq_true rfl, Nat.le_of_ble_eq_true rfl⟩ rfl rfl (Nat.le_of_ble_eq_true rfl) d_Host_write_105 (fun S2 h => ?_)
  refine z_iconst (v := (0 : Int32)) C rfl d_Host_write_108 ?_
  exact z_ireturn C G hr h d_Host_write_109
def w_Host_write (a1 : Int32) (a2 : Int32) (a3 : Int32) (S : zS) (P : zS → Int32 → Prop) : Prop :=
  w_Desk_getOpen a1 S (fun S1 o2 => (o2 = none → (j_Host_write_24 a1 a2 a3 P S1)) ∧ (∀ k3 : Nat, o2 = some k3 → (k3 < 10 ∧ w_Handle_may k3 (2 : Int32) S1 (fun S5 r6 => (r6 = 0 → (j_Host_write_24 a1 a2 a3 P S5)) ∧ (¬ r6 = 0 → (w_Memory_hasArea a2 a3 S5 (fun S7 r8 => (r8 = 0 → (∀ S13 : zS, S13 = sM S7 0 6 (14 : Int32) → P S13 a3)) ∧ (¬ r8 = 0 → (∀ o9 : Option Nat, o9 = gH S7 k3 → (o9 = none → (((gM S7 4 k3) = (4 : Int32) → (j_Host_write_95 a1 a2 a3 P S7 1)) ∧ (¬ (gM S7 4 k3) = (4 : Int32) → (j_Host_write_95 a1 a2 a3 P S7 0)))) ∧ (∀ k10 : Nat, o9 = some k10 → (w_Host_writeFile k3 k10 a2 a3 S7 (fun S11 r12 => P S11 r12))))))))))))
set_option maxRecDepth 20000 in
set_option maxHeartbeats 4000000 in
theorem v_Host_write {E : zE} {B : zK} (C : zC E (wC B) prog_7_method_15_code "HostBench$Host" 2 51) (a1 : Int32) (a2 : Int32) (a3 : Int32) (P : zS → Int32 → Prop) (G : zGoal E (zQ (wC B) (zPi P)) (wC B)) (hr : zRt E (some .int)) (hnl : E.2.2.2.2.2.2.2.2.2.2.1 = 7) (S : zS) (h : w_Host_write a1 a2 a3 S P) : zV E (wC B) S 0 [(0, .ref (ad B 2)), (1, .int a1), (2, .int a2), (3, .int a3)] [] := by
  unfold w_Host_write at h
  refine z_aload_n C 0 rfl rfl d_Host_write_0 ?_
  refine gf_Host_desk C (Or.inl tw_277) d_Host_write_1 ?_
  refine z_iload_n C 1 rfl rfl d_Host_write_4 ?_
  refine z_callVq (rest := []) C q_Desk_getOpen tw_795 (c_Desk_getOpen _ B a1 S _ h) rc_Desk ⟨Nat.le_of_ble_eq_true rfl, Nat.le_of_ble_eq_true rfl⟩ rfl rfl (Nat.le_of_ble_eq_true rfl) d_Host_write_5 (fun S1 o2 h => ?_)
  refine z_astoreq (x := (o2).map (fun k => ad B (25 + k))) (L' := [(4, va_rf ((o2).map (fun k => ad B (25 + k)))), (0, .ref (ad B 2)), (1, .int a1), (2, .int a2), (3, .int a3)]) C hnl (by decide) rfl d_Host_write_8 ?_
  refine z_aloadq (x := (o2).map (fun k => ad B (25 + k))) C 0 rfl d_Host_write_10 ?_
  cases o2 with
  | none =>
    have h := h.1 rfl
    show zV E (wC B) S1 12 [(4, .null), (0, .ref (ad B 2)), (1, .int a1), (2, .int a2), (3, .int a3)] [.null]
    refine z_ifnullN (tgt := 24) C d_Host_write_12 rfl ?_
    exact z_sub [1, 4] rfl (vj_Host_write_24 C a1 a2 a3 P G hr hnl S1 h)
  | some k3 =>
    have h := h.2 k3 rfl
    show zV E (wC B) S1 12 [(4, .ref (ad B (25 + k3))), (0, .ref (ad B 2)), (1, .int a1), (2, .int a2), (3, .int a3)] [.ref (ad B (25 + k3))]
    refine z_ifnull (tgt := 24) C d_Host_write_12 rfl ?_
    refine z_aload C 0 rfl d_Host_write_15 ?_
    refine z_iconst (v := (2 : Int32)) C rfl d_Host_write_17 ?_
    obtain ⟨f4, h⟩ := h
    refine z_callVi (rest := []) C q_Handle_may tw_824 (c_Handle_may _ B k3 (2 : Int32) S1 _ h) (rc_Handle f4) ⟨Nat.le_of_ble_eq_true rfl, Nat.le_of_ble_eq_true rfl⟩ rfl rfl (Nat.le_of_ble_eq_true rfl) d_Host_write_18 (fun S5 r6 h => ?_)
    refine z_if_ne (tgt := 32) C d_Host_write_21 rfl (fun c => ?_) (fun c => ?_)
    · have h := h.2 c
      refine z_aload_n C 1 rfl rfl d_Host_write_32 ?_
      refine gf_Host_memory C (Or.inl tw_274) d_Host_write_33 ?_
      refine z_iload_n C 3 rfl rfl d_Host_write_36 ?_
      refine z_iload_n C 4 rfl rfl d_Host_write_37 ?_
      refine z_callVi (rest := []) C q_Memory_hasArea tw_738 (c_Memory_hasArea _ B a2 a3 S5 _ h) rc_Memory ⟨Nat.le_of_ble_eq_true rfl, Nat.le_of_ble_eq_true rfl⟩ rfl rfl (Nat.le_of_ble_eq_true rfl) d_Host_write_38 (fun S7 r8 h => ?_)
      refine z_if_ne (tgt := 52) C d_Host_write_41 rfl (fun c => ?_) (fun c => ?_)
      · have h := h.2 c
        refine z_aload C 0 rfl d_Host_write_52 ?_
        refine gf_Handle_file C f4 (Or.inr (List.mem_of_getElem? (i := 20) rfl)) d_Host_write_54 ?_
        refine z_topq (f := fun k => ad B (13 + k)) (fun o9 eo9 => ?_)
        have h := h o9 eo9
        refine z_astoreq (x := (o9).map (fun k => ad B (13 + k))) (L' := [(5, va_rf ((o9).map (fun k => ad B (13 + k)))), (4, .ref (ad B (25 + k3))), (0, .ref (ad B 2)), (1, .int a1), (2, .int a2), (3, .int a3)]) C hnl (by decide) rfl d_Host_write_57 ?_
        refine z_aloadq (x := (o9).map (fun k => ad B (13 + k))) C 0 rfl d_Host_write_59 ?_
        cases o9 with
        | none =>
          have h := h.1 rfl
          show zV E (wC B) S7 61 [(5, .null), (4, .ref (ad B (25 + k3))), (0, .ref (ad B 2)), (1, .int a1), (2, .int a2), (3, .int a3)] [.null]
          refine z_ifnullN (tgt := 75) C d_Host_write_61 rfl ?_
          refine z_aload C 1 rfl d_Host_write_75 ?_
          refine gf_Handle_kind C f4 (Or.inr (List.mem_of_getElem? (i := 17) rfl)) d_Host_write_77 ?_
          refine z_iconst (v := (4 : Int32)) C rfl d_Host_write_80 ?_
          refine z_icmp_ne (tgt := 91) C d_Host_write_81 rfl (fun c => ?_) (fun c => ?_)
          · have h := h.2 c
            refine z_aload_n C 2 rfl rfl d_Host_write_91 ?_
            refine gf_Host_out C (Or.inl tw_281) d_Host_write_92 ?_
            exact z_sub [2, 4, 5] rfl (vj_Host_write_95 C a1 a2 a3 P G hr hnl S7 0 h)
          · have h := h.1 c
            refine z_aload_n C 2 rfl rfl d_Host_write_84 ?_
            refine gf_Host_err C (Or.inl tw_283) d_Host_write_85 ?_
            refine z_goto (tgt := 95) C d_Host_write_88 rfl ?_
            exact z_sub [2, 4, 5] rfl (vj_Host_write_95 C a1 a2 a3 P G hr hnl S7 1 h)
        | some k10 =>
          have h := h.2 k10 rfl
          show zV E (wC B) S7 61 [(5, .ref (ad B (13 + k10))), (4, .ref (ad B (25 + k3))), (0, .ref (ad B 2)), (1, .int a1), (2, .int a2), (3, .int a3)] [.ref (ad B (13 + k10))]
          refine z_ifnull (tgt := 75) C d_Host_write_61 rfl ?_
          refine z_aload_n C 2 rfl rfl d_Host_write_64 ?_
          refine z_aload C 1 rfl d_Host_write_65 ?_
          refine z_aload C 0 rfl d_Host_write_67 ?_
          refine z_iload_n C 4 rfl rfl d_Host_write_69 ?_
          refine z_iload_n C 5 rfl rfl d_Host_write_70 ?_
          refine z_callVi (rest := []) C q_Host_writeFile tw_828 (c_Host_writeFile _ B k3 k10 a2 a3 S7 _ h) rc_Host ⟨Nat.le_of_ble_eq_true rfl, Nat.le_of_ble_eq_true rfl⟩ rfl rfl (Nat.le_of_ble_eq_true rfl) d_Host_write_71 (fun S11 r12 h => ?_)
          exact z_ireturn C G hr h d_Host_write_74
      · have h := h.1 c
        refine z_aload_n C 1 rfl rfl d_Host_write_44 ?_
        refine z_bipush (v := (14 : Int32)) C rfl d_Host_write_45 ?_
        refine pf_Host_errno C (Or.inl tw_290) d_Host_write_47 ?_
        refine z_nS (fun S13 eS13 => ?_)
        have h := h S13 eS13
        refine z_iload_n C 4 rfl rfl d_Host_write_50 ?_
        exact z_ireturn C G hr h d_Host_write_51
    · have h := h.1 c
      exact z_sub [1, 4] rfl (vj_Host_write_24 C a1 a2 a3 P G hr hnl S5 h)
theorem c_Host_write (l : Launch) (B : zK) (a1 : Int32) (a2 : Int32) (a3 : Int32) (S : zS) (P : zS → Int32 → Prop) (h : w_Host_write a1 a2 a3 S P) : Met l y_Host_write (Cond.code y_Host_write prog_7_method_15_code 7 (some FieldType.int) :: tT) (zRm 2 51) (zPc (wC B) [.ref (ad B 2), .int a1, .int a2, .int a3] S) (zQ (wC B) (zPi P)) 0 0 (wC B).2.2.2 :=
  z_met (by decide) (Nat.le_of_ble_eq_true rfl) (fun E C G hr _ hnl => v_Host_write C a1 a2 a3 P G hr hnl S h)
theorem q_Host_write : zQw y_Host_write prog_7_method_15_code 7 (some FieldType.int) 3 := ⟨tw_822, tw_20, tw_79, tw_823, by decide +kernel⟩
def l_Host_bringBytes_20 (a1 : Nat) (a2 : Int32) (a3 : Int32) (a4 : Int32) (P : zS → Int32 → Prop) : Nat → zS → Int32 → Int32 → Prop
  | 0, _, _, _ => False
  | n + 1, S, x5, x6 =>
  (x5 ≤ x6 → (P S x5)) ∧ (¬ x5 ≤ x6 → (a1 < 32 ∧ w_Bytes_at a1 (a2 + x6) S (fun S2 r3 => w_Memory_storeByte (a3 + x6) r3 S2 (fun S4 => l_Host_bringBytes_20 a1 a2 a3 a4 P n S4 x5 (x6 + (1 : Int32))))))
set_option maxRecDepth 20000 in
set_option maxHeartbeats 4000000 in
theorem vl_Host_bringBytes_20 {E : zE} {B : zK} (C : zC E (wC B) prog_7_method_18_code "HostBench$Host" 1 22) (a1 : Nat) (a2 : Int32) (a3 : Int32) (a4 : Int32) (P : zS → Int32 → Prop) (G : zGoal E (zQ (wC B) (zPi P)) (wC B)) (hr : zRt E (some .int)) (hnl : E.2.2.2.2.2.2.2.2.2.2.1 = 7) : ∀ (n : Nat) (S : zS) (x5 : Int32) (x6 : Int32) , l_Host_bringBytes_20 a1 a2 a3 a4 P n S x5 x6 → zV E (wC B) S 20 [(0, .ref (ad B 2)), (1, .ref (ad B (35 + a1))), (2, .int a2), (3, .int a3), (5, .int x5), (6, .int x6)] [] := by
  intro n
  induction n with
  | zero => intro S x5 x6 h; exact h.elim
  | succ n ih =>
    intro S x5 x6 h
    unfold l_Host_bringBytes_20 at h
    refine z_iload C 5 rfl d_Host_bringBytes_20 ?_
    refine z_iload C 4 rfl d_Host_bringBytes_22 ?_
    refine z_icmp_ge (tgt := 52) C d_Host_bringBytes_24 rfl (fun c => ?_) (fun c => ?_)
    · have h := h.1 c
      refine z_iload C 4 rfl d_Host_bringBytes_52 ?_
      exact z_ireturn C G hr h d_Host_bringBytes_54
    · have h := h.2 c
      refine z_aload_n C 0 rfl rfl d_Host_bringBytes_27 ?_
      refine gf_Host_memory C (Or.inl tw_274) d_Host_bringBytes_28 ?_
      refine z_iload_n C 3 rfl rfl d_Host_bringBytes_31 ?_
      refine z_iload C 5 rfl d_Host_bringBytes_32 ?_
      refine z_iadd C d_Host_bringBytes_34 ?_
      refine z_aload_n C 1 rfl rfl d_Host_bringBytes_35 ?_
      refine z_iload_n C 2 rfl rfl d_Host_bringBytes_36 ?_
      refine z_iload C 5 rfl d_Host_bringBytes_37 ?_
      refine z_iadd C d_Host_bringBytes_39 ?_
      obtain ⟨f1, h⟩ := h
      refine z_callVi (rest := [.int (a3 + x6), .ref (ad B 5)]) C q_Bytes_at tw_776 (c_Bytes_at _ B a1 (a2 + x6) S _ h) (rc_Bytes f1) ⟨Nat.le_of_ble_eq_true rfl, Nat.le_of_ble_eq_true rfl⟩ rfl rfl (Nat.le_of_ble_eq_true rfl) d_Host_bringBytes_40 (fun S2 r3 h => ?_)
      refine z_callVv (rest := []) C q_Memory_storeByte tw_846 (c_Memory_storeByte _ B (a3 + x6) r3 S2 _ h) rc_Memory ⟨Nat.le_of_ble_eq_true rfl, Nat.le_of_ble_eq_true rfl⟩ rfl rfl (Nat.le_of_ble_eq_true rfl) d_Host_bringBytes_43 (fun S4 h => ?_)
      refine z_iinc (v := x6 + (1 : Int32)) (L' := [(6, .int (x6 + (1 : Int32))), (0, .ref (ad B 2)), (1, .ref (ad B (35 + a1))), (2, .int a2), (3, .int a3), (5, .int x5)]) C hnl 5 rfl rfl (by decide) rfl d_Host_bringBytes_46 ?_
      refine z_goto (tgt := 20) C d_Host_bringBytes_49 rfl ?_
      exact z_sub [1, 2, 3, 4, 5, 0] rfl (ih S4 x5 (x6 + (1 : Int32)) h)
def w_Host_bringBytes (a1 : Nat) (a2 : Int32) (a3 : Int32) (a4 : Int32) (S : zS) (P : zS → Int32 → Prop) : Prop :=
  a1 < 32 ∧ w_Bytes_size a1 S (fun S2 r3 => ∀ v4 : Int32, v4 = (mxI (0 : Int32) (mnI a4 (r3 - a2))) → ∃ n5 : Nat, l_Host_bringBytes_20 a1 a2 a3 a4 P n5 S2 v4 (0 : Int32))
set_option maxRecDepth 20000 in
set_option maxHeartbeats 4000000 in
theorem v_Host_bringBytes {E : zE} {B : zK} (C : zC E (wC B) prog_7_method_18_code "HostBench$Host" 1 22) (a1 : Nat) (a2 : Int32) (a3 : Int32) (a4 : Int32) (P : zS → Int32 → Prop) (G : zGoal E (zQ (wC B) (zPi P)) (wC B)) (hr : zRt E (some .int)) (hnl : E.2.2.2.2.2.2.2.2.2.2.1 = 7) (S : zS) (h : w_Host_bringBytes a1 a2 a3 a4 S P) : zV E (wC B) S 0 [(0, .ref (ad B 2)), (1, .ref (ad B (35 + a1))), (2, .int a2), (3, .int a3), (4, .int a4)] [] := by
  unfold w_Host_bringBytes at h
  refine z_iconst (v := (0 : Int32)) C rfl d_Host_bringBytes_0 ?_
  refine z_iload C 4 rfl d_Host_bringBytes_1 ?_
  refine z_aload_n C 1 rfl rfl d_Host_bringBytes_3 ?_
  obtain ⟨f1, h⟩ := h
  refine z_callVi (rest := [.int a4, .int (0 : Int32)]) C q_Bytes_size tw_775 (c_Bytes_size _ B a1 S _ h) (rc_Bytes f1) ⟨Nat.le_of_ble_eq_true rfl, Nat.le_of_ble_eq_true rfl⟩ rfl rfl (Nat.le_of_ble_eq_true rfl) d_Host_bringBytes_4 (fun S2 r3 h => ?_)
  refine z_iload_n C 2 rfl rfl d_Host_bringBytes_7 ?_
  refine z_isub C d_Host_bringBytes_8 ?_
  refine z_mmin C tw_832 tw_556 tw_78 tw_557 (Nat.le_of_ble_eq_true rfl) (Nat.le_of_ble_eq_true rfl) d_Host_bringBytes_9 ?_
  refine z_mmax C tw_833 tw_111 tw_78 tw_112 (Nat.le_of_ble_eq_true rfl) (Nat.le_of_ble_eq_true rfl) d_Host_bringBytes_12 ?_
  refine z_topi (fun v4 ev4 => ?_)
  have h := h v4 ev4
  refine z_istore (L' := [(5, .int v4), (0, .ref (ad B 2)), (1, .ref (ad B (35 + a1))), (2, .int a2), (3, .int a3), (4, .int a4)]) C hnl (by decide) rfl d_Host_bringBytes_15 ?_
  refine z_iconst (v := (0 : Int32)) C rfl d_Host_bringBytes_17 ?_
  refine z_istore (L' := [(6, .int (0 : Int32)), (5, .int v4), (0, .ref (ad B 2)), (1, .ref (ad B (35 + a1))), (2, .int a2), (3, .int a3), (4, .int a4)]) C hnl (by decide) rfl d_Host_bringBytes_18 ?_
  obtain ⟨n5, h⟩ := h
  exact z_sub [2, 3, 4, 5, 1, 0] rfl (vl_Host_bringBytes_20 C a1 a2 a3 a4 P G hr hnl n5 S2 v4 (0 : Int32) h)
theorem c_Host_bringBytes (l : Launch) (B : zK) (a1 : Nat) (a2 : Int32) (a3 : Int32) (a4 : Int32) (S : zS) (P : zS → Int32 → Prop) (h : w_Host_bringBytes a1 a2 a3 a4 S P) : Met l y_Host_bringBytes (Cond.code y_Host_bringBytes prog_7_method_18_code 7 (some FieldType.int) :: tT) (zRm 1 22) (zPc (wC B) [.ref (ad B 2), .ref (ad B (35 + a1)), .int a2, .int a3, .int a4] S) (zQ (wC B) (zPi P)) 0 0 (wC B).2.2.2 :=
  z_met (by decide) (Nat.le_of_ble_eq_true rfl) (fun E C G hr _ hnl => v_Host_bringBytes C a1 a2 a3 a4 P G hr hnl S h)
theorem q_Host_bringBytes : zQw y_Host_bringBytes prog_7_method_18_code 7 (some FieldType.int) 4 := ⟨tw_844, tw_23, tw_79, tw_845, by decide +kernel⟩
def j_Host_read_24 (a1 : Int32) (a2 : Int32) (a3 : Int32) (P : zS → Int32 → Prop) (S : zS) : Prop :=
  ∀ S1 : zS, S1 = sM S 0 6 (9 : Int32) → P S1 a3
set_option maxRecDepth 20000 in
set_option maxHeartbeats 4000000 in
theorem vj_Host_read_24 {E : zE} {B : zK} (C : zC E (wC B) prog_7_method_17_code "HostBench$Host" 2 48) (a1 : Int32) (a2 : Int32) (a3 : Int32) (P : zS → Int32 → Prop) (G : zGoal E (zQ (wC B) (zPi P)) (wC B)) (hr : zRt E (some .int)) (hnl : E.2.2.2.2.2.2.2.2.2.2.1 = 7) (S : zS) (h : j_Host_read_24 a1 a2 a3 P S) : zV E (wC B) S 24 [(0, .ref (ad B 2)), (3, .int a3)] [] := by
  unfold j_Host_read_24 at h
  refine z_aload_n C 0 rfl rfl d_Host_read_24 ?_
  refine z_bipush (v := (9 : Int32)) C rfl d_Host_read_25 ?_
  refine pf_Host_errno C (Or.inl tw_290) d_Host_read_27 ?_
  refine z_nS (fun S1 eS1 => ?_)
  have h := h S1 eS1
  refine z_iload_n C 1 rfl rfl d_Host_read_30 ?_
  exact z_ireturn C G hr h d_Host_read_31
def w_Host_read (a1 : Int32) (a2 : Int32) (a3 : Int32) (S : zS) (P : zS → Int32 → Prop) : Prop :=
  w_Desk_getOpen a1 S (fun S1 o2 => (o2 = none → (j_Host_read_24 a1 a2 a3 P S1)) ∧ (∀ k3 : Nat, o2 = some k3 → (k3 < 10 ∧ w_Handle_may k3 (1 : Int32) S1 (fun S5 r6 => (r6 = 0 → (j_Host_read_24 a1 a2 a3 P S5)) ∧ (¬ r6 = 0 → (w_Memory_hasArea a2 a3 S5 (fun S7 r8 => (r8 = 0 → (∀ S19 : zS, S19 = sM S7 0 6 (14 : Int32) → P S19 a3)) ∧ (¬ r8 = 0 → (∀ o9 : Option Nat, o9 = gH S7 k3 → (o9 = none → (w_Host_bringBytes 26 (0 : Int32) a2 a3 S7 (fun S11 r12 => 26 < 32 ∧ w_Bytes_dropFirst 26 r12 S11 (fun S14 => P S14 (a3 - r12))))) ∧ (∀ k10 : Nat, o9 = some k10 → (k10 < 12 ∧ w_Host_bringBytes (3 + 2 * k10) (gM S7 5 k3) a2 a3 S7 (fun S16 r17 => ∀ S18 : zS, S18 = sM S16 5 k3 ((gM S16 5 k3) + r17) → P S18 (a3 - r17)))))))))))))
set_option maxRecDepth 20000 in
set_option maxHeartbeats 4000000 in
theorem v_Host_read {E : zE} {B : zK} (C : zC E (wC B) prog_7_method_17_code "HostBench$Host" 2 48) (a1 : Int32) (a2 : Int32) (a3 : Int32) (P : zS → Int32 → Prop) (G : zGoal E (zQ (wC B) (zPi P)) (wC B)) (hr : zRt E (some .int)) (hnl : E.2.2.2.2.2.2.2.2.2.2.1 = 7) (S : zS) (h : w_Host_read a1 a2 a3 S P) : zV E (wC B) S 0 [(0, .ref (ad B 2)), (1, .int a1), (2, .int a2), (3, .int a3)] [] := by
  unfold w_Host_read at h
  refine z_aload_n C 0 rfl rfl d_Host_read_0 ?_
  refine gf_Host_desk C (Or.inl tw_277) d_Host_read_1 ?_
  refine z_iload_n C 1 rfl rfl d_Host_read_4 ?_
  refine z_callVq (rest := []) C q_Desk_getOpen tw_795 (c_Desk_getOpen _ B a1 S _ h) rc_Desk ⟨Nat.le_of_ble_eq_true rfl, Nat.le_of_ble_eq_true rfl⟩ rfl rfl (Nat.le_of_ble_eq_true rfl) d_Host_read_5 (fun S1 o2 h => ?_)
  refine z_astoreq (x := (o2).map (fun k => ad B (25 + k))) (L' := [(4, va_rf ((o2).map (fun k => ad B (25 + k)))), (0, .ref (ad B 2)), (1, .int a1), (2, .int a2), (3, .int a3)]) C hnl (by decide) rfl d_Host_read_8 ?_
  refine z_aloadq (x := (o2).map (fun k => ad B (25 + k))) C 0 rfl d_Host_read_10 ?_
  cases o2 with
  | none =>
    have h := h.1 rfl
    show zV E (wC B) S1 12 [(4, .null), (0, .ref (ad B 2)), (1, .int a1), (2, .int a2), (3, .int a3)] [.null]
    refine z_ifnullN (tgt := 24) C d_Host_read_12 rfl ?_
    exact z_sub [1, 4] rfl (vj_Host_read_24 C a1 a2 a3 P G hr hnl S1 h)
  | some k3 =>
    have h := h.2 k3 rfl
    show zV E (wC B) S1 12 [(4, .ref (ad B (25 + k3))), (0, .ref (ad B 2)), (1, .int a1), (2, .int a2), (3, .int a3)] [.ref (ad B (25 + k3))]
    refine z_ifnull (tgt := 24) C d_Host_read_12 rfl ?_
    refine z_aload C 0 rfl d_Host_read_15 ?_
    refine z_iconst (v := (1 : Int32)) C rfl d_Host_read_17 ?_
    obtain ⟨f4, h⟩ := h
    refine z_callVi (rest := []) C q_Handle_may tw_824 (c_Handle_may _ B k3 (1 : Int32) S1 _ h) (rc_Handle f4) ⟨Nat.le_of_ble_eq_true rfl, Nat.le_of_ble_eq_true rfl⟩ rfl rfl (Nat.le_of_ble_eq_true rfl) d_Host_read_18 (fun S5 r6 h => ?_)
    refine z_if_ne (tgt := 32) C d_Host_read_21 rfl (fun c => ?_) (fun c => ?_)
    · have h := h.2 c
      refine z_aload_n C 1 rfl rfl d_Host_read_32 ?_
      refine gf_Host_memory C (Or.inl tw_274) d_Host_read_33 ?_
      refine z_iload_n C 3 rfl rfl d_Host_read_36 ?_
      refine z_iload_n C 4 rfl rfl d_Host_read_37 ?_
      refine z_callVi (rest := []) C q_Memory_hasArea tw_738 (c_Memory_hasArea _ B a2 a3 S5 _ h) rc_Memory ⟨Nat.le_of_ble_eq_true rfl, Nat.le_of_ble_eq_true rfl⟩ rfl rfl (Nat.le_of_ble_eq_true rfl) d_Host_read_38 (fun S7 r8 h => ?_)
      refine z_if_ne (tgt := 52) C d_Host_read_41 rfl (fun c => ?_) (fun c => ?_)
      · have h := h.2 c
        refine z_aload C 0 rfl d_Host_read_52 ?_
        refine gf_Handle_file C f4 (Or.inr (List.mem_of_getElem? (i := 20) rfl)) d_Host_read_54 ?_
        refine z_topq (f := fun k => ad B (13 + k)) (fun o9 eo9 => ?_)
        have h := h o9 eo9
        refine z_astoreq (x := (o9).map (fun k => ad B (13 + k))) (L' := [(5, va_rf ((o9).map (fun k => ad B (13 + k)))), (4, .ref (ad B (25 + k3))), (0, .ref (ad B 2)), (1, .int a1), (2, .int a2), (3, .int a3)]) C hnl (by decide) rfl d_Host_read_57 ?_
        refine z_aloadq (x := (o9).map (fun k => ad B (13 + k))) C 0 rfl d_Host_read_59 ?_
        cases o9 with
        | none =>
          have h := h.1 rfl
          show zV E (wC B) S7 61 [(5, .null), (4, .ref (ad B (25 + k3))), (0, .ref (ad B 2)), (1, .int a1), (2, .int a2), (3, .int a3)] [.null]
          refine z_ifnonnullN (tgt := 91) C d_Host_read_61 rfl ?_
          refine z_aload_n C 2 rfl rfl d_Host_read_64 ?_
          refine z_aload_n C 2 rfl rfl d_Host_read_65 ?_
          refine gf_Host_input C (Or.inl tw_279) d_Host_read_66 ?_
          refine z_iconst (v := (0 : Int32)) C rfl d_Host_read_69 ?_
          refine z_iload_n C 4 rfl rfl d_Host_read_70 ?_
          refine z_iload_n C 5 rfl rfl d_Host_read_71 ?_
          refine z_callVi (rest := []) C q_Host_bringBytes tw_842 (c_Host_bringBytes _ B 26 (0 : Int32) a2 a3 S7 _ h) rc_Host ⟨Nat.le_of_ble_eq_true rfl, Nat.le_of_ble_eq_true rfl⟩ rfl rfl (Nat.le_of_ble_eq_true rfl) d_Host_read_72 (fun S11 r12 h => ?_)
          refine z_istore (L' := [(6, .int r12), (5, .null), (4, .ref (ad B (25 + k3))), (0, .ref (ad B 2)), (1, .int a1), (2, .int a2), (3, .int a3)]) C hnl (by decide) rfl d_Host_read_75 ?_
          refine z_aload_n C 3 rfl rfl d_Host_read_77 ?_
          refine gf_Host_input C (Or.inl tw_279) d_Host_read_78 ?_
          refine z_iload C 0 rfl d_Host_read_81 ?_
          obtain ⟨f13, h⟩ := h
          refine z_callVv (rest := []) C q_Bytes_dropFirst tw_847 (c_Bytes_dropFirst _ B 26 r12 S11 _ h) (rc_Bytes f13) ⟨Nat.le_of_ble_eq_true rfl, Nat.le_of_ble_eq_true rfl⟩ rfl rfl (Nat.le_of_ble_eq_true rfl) d_Host_read_83 (fun S14 h => ?_)
          refine z_iload_n C 6 rfl rfl d_Host_read_86 ?_
          refine z_iload C 0 rfl d_Host_read_87 ?_
          refine z_isub C d_Host_read_89 ?_
          exact z_ireturn C G hr h d_Host_read_90
        | some k10 =>
          have h := h.2 k10 rfl
          show zV E (wC B) S7 61 [(5, .ref (ad B (13 + k10))), (4, .ref (ad B (25 + k3))), (0, .ref (ad B 2)), (1, .int a1), (2, .int a2), (3, .int a3)] [.ref (ad B (13 + k10))]
          refine z_ifnonnull (tgt := 91) C d_Host_read_61 rfl ?_
          refine z_aload_n C 2 rfl rfl d_Host_read_91 ?_
          refine z_aload C 0 rfl d_Host_read_92 ?_
          obtain ⟨f15, h⟩ := h
          refine gf_HostFile_content C f15 (Or.inr (List.mem_of_getElem? (i := 14) rfl)) d_Host_read_94 ?_
          refine z_aload C 1 rfl d_Host_read_97 ?_
          refine gf_Handle_place C f4 (Or.inr (List.mem_of_getElem? (i := 22) rfl)) d_Host_read_99 ?_
          refine z_iload_n C 4 rfl rfl d_Host_read_102 ?_
          refine z_iload_n C 5 rfl rfl d_Host_read_103 ?_
          refine z_callVi (rest := []) C q_Host_bringBytes tw_842 (c_Host_bringBytes _ B (3 + 2 * k10) (gM S7 5 k3) a2 a3 S7 _ h) rc_Host ⟨Nat.le_of_ble_eq_true rfl, Nat.le_of_ble_eq_true rfl⟩ rfl rfl (Nat.le_of_ble_eq_true rfl) d_Host_read_104 (fun S16 r17 h => ?_)
          refine z_istore (L' := [(6, .int r17), (5, .ref (ad B (13 + k10))), (4, .ref (ad B (25 + k3))), (0, .ref (ad B 2)), (1, .int a1), (2, .int a2), (3, .int a3)]) C hnl (by decide) rfl d_Host_read_107 ?_
          refine z_aload C 2 rfl d_Host_read_109 ?_
          refine z_dup C rfl d_Host_read_111 ?_
          refine gf_Handle_place C f4 (Or.inr (List.mem_of_getElem? (i := 22) rfl)) d_Host_read_112 ?_
          refine z_iload C 0 rfl d_Host_read_115 ?_
          refine z_iadd C d_Host_read_117 ?_
          refine pf_Handle_place C f4 (Or.inr (List.mem_of_getElem? (i := 22) rfl)) d_Host_read_118 ?_
          refine z_nS (fun S18 eS18 => ?_)
          have h := h S18 eS18
          refine z_iload_n C 6 rfl rfl d_Host_read_121 ?_
          refine z_iload C 0 rfl d_Host_read_122 ?_
          refine z_isub C d_Host_read_124 ?_
          exact z_ireturn C G hr h d_Host_read_125
      · have h := h.1 c
        refine z_aload_n C 1 rfl rfl d_Host_read_44 ?_
        refine z_bipush (v := (14 : Int32)) C rfl d_Host_read_45 ?_
        refine pf_Host_errno C (Or.inl tw_290) d_Host_read_47 ?_
        refine z_nS (fun S19 eS19 => ?_)
        have h := h S19 eS19
        refine z_iload_n C 4 rfl rfl d_Host_read_50 ?_
        exact z_ireturn C G hr h d_Host_read_51
    · have h := h.1 c
      exact z_sub [1, 4] rfl (vj_Host_read_24 C a1 a2 a3 P G hr hnl S5 h)
theorem c_Host_read (l : Launch) (B : zK) (a1 : Int32) (a2 : Int32) (a3 : Int32) (S : zS) (P : zS → Int32 → Prop) (h : w_Host_read a1 a2 a3 S P) : Met l y_Host_read (Cond.code y_Host_read prog_7_method_17_code 7 (some FieldType.int) :: tT) (zRm 2 48) (zPc (wC B) [.ref (ad B 2), .int a1, .int a2, .int a3] S) (zQ (wC B) (zPi P)) 0 0 (wC B).2.2.2 :=
  z_met (by decide) (Nat.le_of_ble_eq_true rfl) (fun E C G hr _ hnl => v_Host_read C a1 a2 a3 P G hr hnl S h)
theorem q_Host_read : zQw y_Host_read prog_7_method_17_code 7 (some FieldType.int) 3 := ⟨tw_840, tw_22, tw_79, tw_841, by decide +kernel⟩
def w_Host_readByte (S : zS) (P : zS → Int32 → Prop) : Prop :=
  26 < 32 ∧ w_Bytes_at 26 (0 : Int32) S (fun S2 r3 => w_Bytes_dropFirst 26 (1 : Int32) S2 (fun S4 => P S4 r3))
set_option maxRecDepth 20000 in
set_option maxHeartbeats 4000000 in
theorem v_Host_readByte {E : zE} {B : zK} (C : zC E (wC B) prog_7_method_19_code "HostBench$Host" 2 37) (P : zS → Int32 → Prop) (G : zGoal E (zQ (wC B) (zPi P)) (wC B)) (hr : zRt E (some .int)) (hnl : E.2.2.2.2.2.2.2.2.2.2.1 = 2) (S : zS) (h : w_Host_readByte S P) : zV E (wC B) S 0 [(0, .ref (ad B 2))] [] := by
  unfold w_Host_readByte at h
  refine z_aload_n C 0 rfl rfl d_Host_readByte_0 ?_
  refine gf_Host_input C (Or.inl tw_279) d_Host_readByte_1 ?_
  refine z_iconst (v := (0 : Int32)) C rfl d_Host_readByte_4 ?_
  obtain ⟨f1, h⟩ := h
  refine z_callVi (rest := []) C q_Bytes_at tw_776 (c_Bytes_at _ B 26 (0 : Int32) S _ h) (rc_Bytes f1) ⟨Nat.le_of_ble_eq_true rfl, Nat.le_of_ble_eq_true rfl⟩ rfl rfl (Nat.le_of_ble_eq_true rfl) d_Host_readByte_5 (fun S2 r3 h => ?_)
  refine z_istore_n (L' := [(1, .int r3), (0, .ref (ad B 2))]) C hnl rfl (by decide) rfl d_Host_readByte_8 ?_
  refine z_aload_n C 1 rfl rfl d_Host_readByte_9 ?_
  refine gf_Host_input C (Or.inl tw_279) d_Host_readByte_10 ?_
  refine z_iconst (v := (1 : Int32)) C rfl d_Host_readByte_13 ?_
  refine z_callVv (rest := []) C q_Bytes_dropFirst tw_847 (c_Bytes_dropFirst _ B 26 (1 : Int32) S2 _ h) (rc_Bytes f1) ⟨Nat.le_of_ble_eq_true rfl, Nat.le_of_ble_eq_true rfl⟩ rfl rfl (Nat.le_of_ble_eq_true rfl) d_Host_readByte_14 (fun S4 h => ?_)
  refine z_iload_n C 0 rfl rfl d_Host_readByte_17 ?_
  exact z_ireturn C G hr h d_Host_readByte_18
theorem c_Host_readByte (l : Launch) (B : zK) (S : zS) (P : zS → Int32 → Prop) (h : w_Host_readByte S P) : Met l y_Host_readByte (Cond.code y_Host_readByte prog_7_method_19_code 2 (some FieldType.int) :: tT) (zRm 2 37) (zPc (wC B) [.ref (ad B 2)] S) (zQ (wC B) (zPi P)) 0 0 (wC B).2.2.2 :=
  z_met (by decide) (Nat.le_of_ble_eq_true rfl) (fun E C G hr _ hnl => v_Host_readByte C P G hr hnl S h)
theorem q_Host_readByte : zQw y_Host_readByte prog_7_method_19_code 2 (some FieldType.int) 0 := ⟨tw_853, tw_24, tw_79, tw_854, by decide +kernel⟩
def w_Host_isConsole (a1 : Int32) (S : zS) (P : zS → Int32 → Prop) : Prop :=
  w_Desk_getOpen a1 S (fun S1 o2 => (o2 = none → (w_Host_fail (9 : Int32) S1 (fun S4 r5 => P S4 r5))) ∧ (∀ k3 : Nat, o2 = some k3 → (k3 < 10 ∧ ∀ o7 : Option Nat, o7 = gH S1 k3 → (o7 = none → (P S1 (1 : Int32))) ∧ (∀ k8 : Nat, o7 = some k8 → (P S1 (0 : Int32))))))
set_option maxRecDepth 20000 in
set_option maxHeartbeats 4000000 in
theorem v_Host_isConsole {E : zE} {B : zK} (C : zC E (wC B) prog_7_method_20_code "HostBench$Host" 2 43) (a1 : Int32) (P : zS → Int32 → Prop) (G : zGoal E (zQ (wC B) (zPi P)) (wC B)) (hr : zRt E (some .int)) (hnl : E.2.2.2.2.2.2.2.2.2.2.1 = 3) (S : zS) (h : w_Host_isConsole a1 S P) : zV E (wC B) S 0 [(0, .ref (ad B 2)), (1, .int a1)] [] := by
  unfold w_Host_isConsole at h
  refine z_aload_n C 0 rfl rfl d_Host_isConsole_0 ?_
  refine gf_Host_desk C (Or.inl tw_277) d_Host_isConsole_1 ?_
  refine z_iload_n C 1 rfl rfl d_Host_isConsole_4 ?_
  refine z_callVq (rest := []) C q_Desk_getOpen tw_795 (c_Desk_getOpen _ B a1 S _ h) rc_Desk ⟨Nat.le_of_ble_eq_true rfl, Nat.le_of_ble_eq_true rfl⟩ rfl rfl (Nat.le_of_ble_eq_true rfl) d_Host_isConsole_5 (fun S1 o2 h => ?_)
  refine z_astore_nq (x := (o2).map (fun k => ad B (25 + k))) (L' := [(2, va_rf ((o2).map (fun k => ad B (25 + k)))), (0, .ref (ad B 2)), (1, .int a1)]) C hnl rfl (by decide) rfl d_Host_isConsole_8 ?_
  refine z_aload_nq (x := (o2).map (fun k => ad B (25 + k))) C 0 rfl rfl d_Host_isConsole_9 ?_
  cases o2 with
  | none =>
    have h := h.1 rfl
    show zV E (wC B) S1 10 [(2, .null), (0, .ref (ad B 2)), (1, .int a1)] [.null]
    refine z_ifnonnullN (tgt := 20) C d_Host_isConsole_10 rfl ?_
    refine z_aload_n C 1 rfl rfl d_Host_isConsole_13 ?_
    refine z_bipush (v := (9 : Int32)) C rfl d_Host_isConsole_14 ?_
    refine z_callVi (rest := []) C q_Host_fail tw_752 (c_Host_fail _ B (9 : Int32) S1 _ h) rc_Host ⟨Nat.le_of_ble_eq_true rfl, Nat.le_of_ble_eq_true rfl⟩ rfl rfl (Nat.le_of_ble_eq_true rfl) d_Host_isConsole_16 (fun S4 r5 h => ?_)
    exact z_ireturn C G hr h d_Host_isConsole_19
  | some k3 =>
    have h := h.2 k3 rfl
    show zV E (wC B) S1 10 [(2, .ref (ad B (25 + k3))), (0, .ref (ad B 2)), (1, .int a1)] [.ref (ad B (25 + k3))]
    refine z_ifnonnull (tgt := 20) C d_Host_isConsole_10 rfl ?_
    refine z_aload_n C 0 rfl rfl d_Host_isConsole_20 ?_
    obtain ⟨f6, h⟩ := h
    refine gf_Handle_file C f6 (Or.inr (List.mem_of_getElem? (i := 20) rfl)) d_Host_isConsole_21 ?_
    refine z_topq (f := fun k => ad B (13 + k)) (fun o7 eo7 => ?_)
    have h := h o7 eo7
    cases o7 with
    | none =>
      have h := h.1 rfl
      show zV E (wC B) S1 24 [(2, .ref (ad B (25 + k3))), (0, .ref (ad B 2)), (1, .int a1)] [.null]
      refine z_ifnonnullN (tgt := 31) C d_Host_isConsole_24 rfl ?_
      refine z_iconst (v := (1 : Int32)) C rfl d_Host_isConsole_27 ?_
      refine z_goto (tgt := 32) C d_Host_isConsole_28 rfl ?_
      exact z_ireturn C G hr h d_Host_isConsole_32
    | some k8 =>
      have h := h.2 k8 rfl
      show zV E (wC B) S1 24 [(2, .ref (ad B (25 + k3))), (0, .ref (ad B 2)), (1, .int a1)] [.ref (ad B (13 + k8))]
      refine z_ifnonnull (tgt := 31) C d_Host_isConsole_24 rfl ?_
      refine z_iconst (v := (0 : Int32)) C rfl d_Host_isConsole_31 ?_
      exact z_ireturn C G hr h d_Host_isConsole_32
theorem c_Host_isConsole (l : Launch) (B : zK) (a1 : Int32) (S : zS) (P : zS → Int32 → Prop) (h : w_Host_isConsole a1 S P) : Met l y_Host_isConsole (Cond.code y_Host_isConsole prog_7_method_20_code 3 (some FieldType.int) :: tT) (zRm 2 43) (zPc (wC B) [.ref (ad B 2), .int a1] S) (zQ (wC B) (zPi P)) 0 0 (wC B).2.2.2 :=
  z_met (by decide) (Nat.le_of_ble_eq_true rfl) (fun E C G hr _ hnl => v_Host_isConsole C a1 P G hr hnl S h)
theorem q_Host_isConsole : zQw y_Host_isConsole prog_7_method_20_code 3 (some FieldType.int) 1 := ⟨tw_857, tw_25, tw_79, tw_858, by decide +kernel⟩
def j_Host_seek_47 (a1 : Int32) (a2 : Int32) (P : zS → Int32 → Prop) (S : zS) : Prop :=
  w_Host_fail (22 : Int32) S (fun S1 r2 => P S1 r2)
set_option maxRecDepth 20000 in
set_option maxHeartbeats 4000000 in
theorem vj_Host_seek_47 {E : zE} {B : zK} (C : zC E (wC B) prog_7_method_21_code "HostBench$Host" 2 43) (a1 : Int32) (a2 : Int32) (P : zS → Int32 → Prop) (G : zGoal E (zQ (wC B) (zPi P)) (wC B)) (hr : zRt E (some .int)) (hnl : E.2.2.2.2.2.2.2.2.2.2.1 = 5) (S : zS) (h : j_Host_seek_47 a1 a2 P S) : zV E (wC B) S 47 [(0, .ref (ad B 2))] [] := by
  unfold j_Host_seek_47 at h
  refine z_aload_n C 0 rfl rfl d_Host_seek_47 ?_
  refine z_bipush (v := (22 : Int32)) C rfl d_Host_seek_48 ?_
  refine z_callVi (rest := []) C q_Host_fail tw_752 (c_Host_fail _ B (22 : Int32) S _ h) rc_Host ⟨Nat.le_of_ble_eq_true rfl, Nat.le_of_ble_eq_true rfl⟩ rfl rfl (Nat.le_of_ble_eq_true rfl) d_Host_seek_50 (fun S1 r2 h => ?_)
  exact z_ireturn C G hr h d_Host_seek_53
def w_Host_seek (a1 : Int32) (a2 : Int32) (S : zS) (P : zS → Int32 → Prop) : Prop :=
  w_Desk_getOpen a1 S (fun S1 o2 => (o2 = none → (w_Host_fail (9 : Int32) S1 (fun S4 r5 => P S4 r5))) ∧ (∀ k3 : Nat, o2 = some k3 → (k3 < 10 ∧ ∀ o7 : Option Nat, o7 = gH S1 k3 → (o7 = none → (j_Host_seek_47 a1 a2 P S1)) ∧ (∀ k8 : Nat, o7 = some k8 → ((a2 < 0 → (j_Host_seek_47 a1 a2 P S1)) ∧ (¬ a2 < 0 → (k8 < 12 ∧ (3 + 2 * k8) < 32 ∧ w_Bytes_size (3 + 2 * k8) S1 (fun S11 r12 => (a2 ≤ r12 → (∀ S13 : zS, S13 = sM S11 5 k3 a2 → P S13 (0 : Int32))) ∧ (¬ a2 ≤ r12 → (j_Host_seek_47 a1 a2 P S11))))))))))
set_option maxRecDepth 20000 in
set_option maxHeartbeats 4000000 in
theorem v_Host_seek {E : zE} {B : zK} (C : zC E (wC B) prog_7_method_21_code "HostBench$Host" 2 43) (a1 : Int32) (a2 : Int32) (P : zS → Int32 → Prop) (G : zGoal E (zQ (wC B) (zPi P)) (wC B)) (hr : zRt E (some .int)) (hnl : E.2.2.2.2.2.2.2.2.2.2.1 = 5) (S : zS) (h : w_Host_seek a1 a2 S P) : zV E (wC B) S 0 [(0, .ref (ad B 2)), (1, .int a1), (2, .int a2)] [] := by
  unfold w_Host_seek at h
  refine z_aload_n C 0 rfl rfl d_Host_seek_0 ?_
  refine gf_Host_desk C (Or.inl tw_277) d_Host_seek_1 ?_
  refine z_iload_n C 1 rfl rfl d_Host_seek_4 ?_
  refine z_callVq (rest := []) C q_Desk_getOpen tw_795 (c_Desk_getOpen _ B a1 S _ h) rc_Desk ⟨Nat.le_of_ble_eq_true rfl, Nat.le_of_ble_eq_true rfl⟩ rfl rfl (Nat.le_of_ble_eq_true rfl) d_Host_seek_5 (fun S1 o2 h => ?_)
  refine z_astore_nq (x := (o2).map (fun k => ad B (25 + k))) (L' := [(3, va_rf ((o2).map (fun k => ad B (25 + k)))), (0, .ref (ad B 2)), (1, .int a1), (2, .int a2)]) C hnl rfl (by decide) rfl d_Host_seek_8 ?_
  refine z_aload_nq (x := (o2).map (fun k => ad B (25 + k))) C 0 rfl rfl d_Host_seek_9 ?_
  cases o2 with
  | none =>
    have h := h.1 rfl
    show zV E (wC B) S1 10 [(3, .null), (0, .ref (ad B 2)), (1, .int a1), (2, .int a2)] [.null]
    refine z_ifnonnullN (tgt := 20) C d_Host_seek_10 rfl ?_
    refine z_aload_n C 1 rfl rfl d_Host_seek_13 ?_
    refine z_bipush (v := (9 : Int32)) C rfl d_Host_seek_14 ?_
    refine z_callVi (rest := []) C q_Host_fail tw_752 (c_Host_fail _ B (9 : Int32) S1 _ h) rc_Host ⟨Nat.le_of_ble_eq_true rfl, Nat.le_of_ble_eq_true rfl⟩ rfl rfl (Nat.le_of_ble_eq_true rfl) d_Host_seek_16 (fun S4 r5 h => ?_)
    exact z_ireturn C G hr h d_Host_seek_19
  | some k3 =>
    have h := h.2 k3 rfl
    show zV E (wC B) S1 10 [(3, .ref (ad B (25 + k3))), (0, .ref (ad B 2)), (1, .int a1), (2, .int a2)] [.ref (ad B (25 + k3))]
    refine z_ifnonnull (tgt := 20) C d_Host_seek_10 rfl ?_
    refine z_aload_n C 0 rfl rfl d_Host_seek_20 ?_
    obtain ⟨f6, h⟩ := h
    refine gf_Handle_file C f6 (Or.inr (List.mem_of_getElem? (i := 20) rfl)) d_Host_seek_21 ?_
    refine z_topq (f := fun k => ad B (13 + k)) (fun o7 eo7 => ?_)
    have h := h o7 eo7
    refine z_astoreq (x := (o7).map (fun k => ad B (13 + k))) (L' := [(4, va_rf ((o7).map (fun k => ad B (13 + k)))), (3, .ref (ad B (25 + k3))), (0, .ref (ad B 2)), (1, .int a1), (2, .int a2)]) C hnl (by decide) rfl d_Host_seek_24 ?_
    refine z_aloadq (x := (o7).map (fun k => ad B (13 + k))) C 0 rfl d_Host_seek_26 ?_
    cases o7 with
    | none =>
      have h := h.1 rfl
      show zV E (wC B) S1 28 [(4, .null), (3, .ref (ad B (25 + k3))), (0, .ref (ad B 2)), (1, .int a1), (2, .int a2)] [.null]
      refine z_ifnullN (tgt := 47) C d_Host_seek_28 rfl ?_
      exact z_sub [2] rfl (vj_Host_seek_47 C a1 a2 P G hr hnl S1 h)
    | some k8 =>
      have h := h.2 k8 rfl
      show zV E (wC B) S1 28 [(4, .ref (ad B (13 + k8))), (3, .ref (ad B (25 + k3))), (0, .ref (ad B 2)), (1, .int a1), (2, .int a2)] [.ref (ad B (13 + k8))]
      refine z_ifnull (tgt := 47) C d_Host_seek_28 rfl ?_
      refine z_iload_n C 4 rfl rfl d_Host_seek_31 ?_
      refine z_if_lt (tgt := 47) C d_Host_seek_32 rfl (fun c => ?_) (fun c => ?_)
      · have h := h.1 c
        exact z_sub [2] rfl (vj_Host_seek_47 C a1 a2 P G hr hnl S1 h)
      · have h := h.2 c
        refine z_iload_n C 4 rfl rfl d_Host_seek_35 ?_
        refine z_aload C 0 rfl d_Host_seek_36 ?_
        obtain ⟨f9, h⟩ := h
        refine gf_HostFile_content C f9 (Or.inr (List.mem_of_getElem? (i := 14) rfl)) d_Host_seek_38 ?_
        obtain ⟨f10, h⟩ := h
        refine z_callVi (rest := [.int a2]) C q_Bytes_size tw_775 (c_Bytes_size _ B (3 + 2 * k8) S1 _ h) (rc_Bytes f10) ⟨Nat.le_of_ble_eq_true rfl, Nat.le_of_ble_eq_true rfl⟩ rfl rfl (Nat.le_of_ble_eq_true rfl) d_Host_seek_41 (fun S11 r12 h => ?_)
        refine z_icmp_le (tgt := 54) C d_Host_seek_44 rfl (fun c => ?_) (fun c => ?_)
        · have h := h.1 c
          refine z_aload_n C 1 rfl rfl d_Host_seek_54 ?_
          refine z_iload_n C 4 rfl rfl d_Host_seek_55 ?_
          refine pf_Handle_place C f6 (Or.inr (List.mem_of_getElem? (i := 22) rfl)) d_Host_seek_56 ?_
          refine z_nS (fun S13 eS13 => ?_)
          have h := h S13 eS13
          refine z_iconst (v := (0 : Int32)) C rfl d_Host_seek_59 ?_
          exact z_ireturn C G hr h d_Host_seek_60
        · have h := h.2 c
          exact z_sub [2] rfl (vj_Host_seek_47 C a1 a2 P G hr hnl S11 h)
theorem c_Host_seek (l : Launch) (B : zK) (a1 : Int32) (a2 : Int32) (S : zS) (P : zS → Int32 → Prop) (h : w_Host_seek a1 a2 S P) : Met l y_Host_seek (Cond.code y_Host_seek prog_7_method_21_code 5 (some FieldType.int) :: tT) (zRm 2 43) (zPc (wC B) [.ref (ad B 2), .int a1, .int a2] S) (zQ (wC B) (zPi P)) 0 0 (wC B).2.2.2 :=
  z_met (by decide) (Nat.le_of_ble_eq_true rfl) (fun E C G hr _ hnl => v_Host_seek C a1 a2 P G hr hnl S h)
theorem q_Host_seek : zQw y_Host_seek prog_7_method_21_code 5 (some FieldType.int) 2 := ⟨tw_861, tw_26, tw_79, tw_862, by decide +kernel⟩
def w_Host_length (a1 : Int32) (S : zS) (P : zS → Int32 → Prop) : Prop :=
  w_Desk_getOpen a1 S (fun S1 o2 => (o2 = none → (w_Host_fail (9 : Int32) S1 (fun S4 r5 => P S4 r5))) ∧ (∀ k3 : Nat, o2 = some k3 → (k3 < 10 ∧ ∀ o7 : Option Nat, o7 = gH S1 k3 → (o7 = none → (P S1 (0 : Int32))) ∧ (∀ k8 : Nat, o7 = some k8 → (k8 < 12 ∧ (3 + 2 * k8) < 32 ∧ w_Bytes_size (3 + 2 * k8) S1 (fun S11 r12 => P S11 r12))))))
set_option maxRecDepth 20000 in
set_option maxHeartbeats 4000000 in
theorem v_Host_length {E : zE} {B : zK} (C : zC E (wC B) prog_7_method_22_code "HostBench$Host" 2 43) (a1 : Int32) (P : zS → Int32 → Prop) (G : zGoal E (zQ (wC B) (zPi P)) (wC B)) (hr : zRt E (some .int)) (hnl : E.2.2.2.2.2.2.2.2.2.2.1 = 4) (S : zS) (h : w_Host_length a1 S P) : zV E (wC B) S 0 [(0, .ref (ad B 2)), (1, .int a1)] [] := by
  unfold w_Host_length at h
  refine z_aload_n C 0 rfl rfl d_Host_length_0 ?_
  refine gf_Host_desk C (Or.inl tw_277) d_Host_length_1 ?_
  refine z_iload_n C 1 rfl rfl d_Host_length_4 ?_
  refine z_callVq (rest := []) C q_Desk_getOpen tw_795 (c_Desk_getOpen _ B a1 S _ h) rc_Desk ⟨Nat.le_of_ble_eq_true rfl, Nat.le_of_ble_eq_true rfl⟩ rfl rfl (Nat.le_of_ble_eq_true rfl) d_Host_length_5 (fun S1 o2 h => ?_)
  refine z_astore_nq (x := (o2).map (fun k => ad B (25 + k))) (L' := [(2, va_rf ((o2).map (fun k => ad B (25 + k)))), (0, .ref (ad B 2)), (1, .int a1)]) C hnl rfl (by decide) rfl d_Host_length_8 ?_
  refine z_aload_nq (x := (o2).map (fun k => ad B (25 + k))) C 0 rfl rfl d_Host_length_9 ?_
  cases o2 with
  | none =>
    have h := h.1 rfl
    show zV E (wC B) S1 10 [(2, .null), (0, .ref (ad B 2)), (1, .int a1)] [.null]
    refine z_ifnonnullN (tgt := 20) C d_Host_length_10 rfl ?_
    refine z_aload_n C 1 rfl rfl d_Host_length_13 ?_
    refine z_bipush (v := (9 : Int32)) C rfl d_Host_length_14 ?_
    refine z_callVi (rest := []) C q_Host_fail tw_752 (c_Host_fail _ B (9 : Int32) S1 _ h) rc_Host ⟨Nat.le_of_ble_eq_true rfl, Nat.le_of_ble_eq_true rfl⟩ rfl rfl (Nat.le_of_ble_eq_true rfl) d_Host_length_16 (fun S4 r5 h => ?_)
    exact z_ireturn C G hr h d_Host_length_19
  | some k3 =>
    have h := h.2 k3 rfl
    show zV E (wC B) S1 10 [(2, .ref (ad B (25 + k3))), (0, .ref (ad B 2)), (1, .int a1)] [.ref (ad B (25 + k3))]
    refine z_ifnonnull (tgt := 20) C d_Host_length_10 rfl ?_
    refine z_aload_n C 0 rfl rfl d_Host_length_20 ?_
    obtain ⟨f6, h⟩ := h
    refine gf_Handle_file C f6 (Or.inr (List.mem_of_getElem? (i := 20) rfl)) d_Host_length_21 ?_
    refine z_topq (f := fun k => ad B (13 + k)) (fun o7 eo7 => ?_)
    have h := h o7 eo7
    refine z_astore_nq (x := (o7).map (fun k => ad B (13 + k))) (L' := [(3, va_rf ((o7).map (fun k => ad B (13 + k)))), (2, .ref (ad B (25 + k3))), (0, .ref (ad B 2)), (1, .int a1)]) C hnl rfl (by decide) rfl d_Host_length_24 ?_
    refine z_aload_nq (x := (o7).map (fun k => ad B (13 + k))) C 0 rfl rfl d_Host_length_25 ?_
    cases o7 with
    | none =>
      have h := h.1 rfl
      show zV E (wC B) S1 26 [(3, .null), (2, .ref (ad B (25 + k3))), (0, .ref (ad B 2)), (1, .int a1)] [.null]
      refine z_ifnonnullN (tgt := 33) C d_Host_length_26 rfl ?_
      refine z_iconst (v := (0 : Int32)) C rfl d_Host_length_29 ?_
      refine z_goto (tgt := 40) C d_Host_length_30 rfl ?_
      exact z_ireturn C G hr h d_Host_length_40
    | some k8 =>
      have h := h.2 k8 rfl
      show zV E (wC B) S1 26 [(3, .ref (ad B (13 + k8))), (2, .ref (ad B (25 + k3))), (0, .ref (ad B 2)), (1, .int a1)] [.ref (ad B (13 + k8))]
      refine z_ifnonnull (tgt := 33) C d_Host_length_26 rfl ?_
      refine z_aload_n C 0 rfl rfl d_Host_length_33 ?_
      obtain ⟨f9, h⟩ := h
      refine gf_HostFile_content C f9 (Or.inr (List.mem_of_getElem? (i := 14) rfl)) d_Host_length_34 ?_
      obtain ⟨f10, h⟩ := h
      refine z_callVi (rest := []) C q_Bytes_size tw_775 (c_Bytes_size _ B (3 + 2 * k8) S1 _ h) (rc_Bytes f10) ⟨Nat.le_of_ble_eq_true rfl, Nat.le_of_ble_eq_true rfl⟩ rfl rfl (Nat.le_of_ble_eq_true rfl) d_Host_length_37 (fun S11 r12 h => ?_)
      exact z_ireturn C G hr h d_Host_length_40
theorem c_Host_length (l : Launch) (B : zK) (a1 : Int32) (S : zS) (P : zS → Int32 → Prop) (h : w_Host_length a1 S P) : Met l y_Host_length (Cond.code y_Host_length prog_7_method_22_code 4 (some FieldType.int) :: tT) (zRm 2 43) (zPc (wC B) [.ref (ad B 2), .int a1] S) (zQ (wC B) (zPi P)) 0 0 (wC B).2.2.2 :=
  z_met (by decide) (Nat.le_of_ble_eq_true rfl) (fun E C G hr _ hnl => v_Host_length C a1 P G hr hnl S h)
theorem q_Host_length : zQw y_Host_length prog_7_method_22_code 4 (some FieldType.int) 1 := ⟨tw_865, tw_27, tw_79, tw_866, by decide +kernel⟩
def j_Host_temporaryName_21 (a1 : Int32) (a2 : Int32) (a3 : Int32) (P : zS → Int32 → Prop) (S : zS) : Prop :=
  w_Host_fail (22 : Int32) S (fun S1 r2 => P S1 r2)
set_option maxRecDepth 20000 in
set_option maxHeartbeats 4000000 in
theorem vj_Host_temporaryName_21 {E : zE} {B : zK} (C : zC E (wC B) prog_7_method_23_code "HostBench$Host" 1 22) (a1 : Int32) (a2 : Int32) (a3 : Int32) (P : zS → Int32 → Prop) (G : zGoal E (zQ (wC B) (zPi P)) (wC B)) (hr : zRt E (some .int)) (hnl : E.2.2.2.2.2.2.2.2.2.2.1 = 4) (S : zS) (h : j_Host_temporaryName_21 a1 a2 a3 P S) : zV E (wC B) S 21 [(0, .ref (ad B 2))] [] := by
  unfold j_Host_temporaryName_21 at h
  refine z_aload_n C 0 rfl rfl d_Host_temporaryName_21 ?_
  refine z_bipush (v := (22 : Int32)) C rfl d_Host_temporaryName_22 ?_
  refine z_callVi (rest := []) C q_Host_fail tw_752 (c_Host_fail _ B (22 : Int32) S _ h) rc_Host ⟨Nat.le_of_ble_eq_true rfl, Nat.le_of_ble_eq_true rfl⟩ rfl rfl (Nat.le_of_ble_eq_true rfl) d_Host_temporaryName_24 (fun S1 r2 h => ?_)
  exact z_ireturn C G hr h d_Host_temporaryName_27
def j_Host_temporaryName_28 (a1 : Int32) (a2 : Int32) (a3 : Int32) (P : zS → Int32 → Prop) (S : zS) : Prop :=
  w_Memory_hasArea a1 (7 : Int32) S (fun S1 r2 => (r2 = 0 → (w_Host_fail (14 : Int32) S1 (fun S10 r11 => P S10 r11))) ∧ (¬ r2 = 0 → (w_Memory_storeByte a1 (116 : Int32) S1 (fun S3 => w_Memory_storeByte (a1 + (1 : Int32)) (109 : Int32) S3 (fun S4 => w_Memory_storeByte (a1 + (2 : Int32)) (112 : Int32) S4 (fun S5 => w_Memory_storeByte (a1 + (3 : Int32)) ((48 : Int32) + (a2 / (100 : Int32))) S5 (fun S6 => w_Memory_storeByte (a1 + (4 : Int32)) ((48 : Int32) + ((a2 / (10 : Int32)) - (a2 / (10 : Int32)) / (10 : Int32) * (10 : Int32))) S6 (fun S7 => w_Memory_storeByte (a1 + (5 : Int32)) ((48 : Int32) + (a2 - a2 / (10 : Int32) * (10 : Int32))) S7 (fun S8 => w_Memory_storeByte (a1 + (6 : Int32)) (0 : Int32) S8 (fun S9 => P S9 (0 : Int32)))))))))))
set_option maxRecDepth 20000 in
set_option maxHeartbeats 4000000 in
theorem vj_Host_temporaryName_28 {E : zE} {B : zK} (C : zC E (wC B) prog_7_method_23_code "HostBench$Host" 1 22) (a1 : Int32) (a2 : Int32) (a3 : Int32) (P : zS → Int32 → Prop) (G : zGoal E (zQ (wC B) (zPi P)) (wC B)) (hr : zRt E (some .int)) (hnl : E.2.2.2.2.2.2.2.2.2.2.1 = 4) (S : zS) (h : j_Host_temporaryName_28 a1 a2 a3 P S) : zV E (wC B) S 28 [(0, .ref (ad B 2)), (1, .int a1), (2, .int a2)] [] := by
  unfold j_Host_temporaryName_28 at h
  refine z_aload_n C 0 rfl rfl d_Host_temporaryName_28 ?_
  refine gf_Host_memory C (Or.inl tw_274) d_Host_temporaryName_29 ?_
  refine z_iload_n C 1 rfl rfl d_Host_temporaryName_32 ?_
  refine z_bipush (v := (7 : Int32)) C rfl d_Host_temporaryName_33 ?_
  refine z_callVi (rest := []) C q_Memory_hasArea tw_738 (c_Memory_hasArea _ B a1 (7 : Int32) S _ h) rc_Memory ⟨Nat.le_of_ble_eq_true rfl, Nat.le_of_ble_eq_true rfl⟩ rfl rfl (Nat.le_of_ble_eq_true rfl) d_Host_temporaryName_35 (fun S1 r2 h => ?_)
  refine z_if_ne (tgt := 48) C d_Host_temporaryName_38 rfl (fun c => ?_) (fun c => ?_)
  · have h := h.2 c
    refine z_aload_n C 0 rfl rfl d_Host_temporaryName_48 ?_
    refine gf_Host_memory C (Or.inl tw_274) d_Host_temporaryName_49 ?_
    refine z_iload_n C 1 rfl rfl d_Host_temporaryName_52 ?_
    refine z_bipush (v := (116 : Int32)) C rfl d_Host_temporaryName_53 ?_
    refine z_callVv (rest := []) C q_Memory_storeByte tw_846 (c_Memory_storeByte _ B a1 (116 : Int32) S1 _ h) rc_Memory ⟨Nat.le_of_ble_eq_true rfl, Nat.le_of_ble_eq_true rfl⟩ rfl rfl (Nat.le_of_ble_eq_true rfl) d_Host_temporaryName_55 (fun S3 h => ?_)
    refine z_aload_n C 0 rfl rfl d_Host_temporaryName_58 ?_
    refine gf_Host_memory C (Or.inl tw_274) d_Host_temporaryName_59 ?_
    refine z_iload_n C 1 rfl rfl d_Host_temporaryName_62 ?_
    refine z_iconst (v := (1 : Int32)) C rfl d_Host_temporaryName_63 ?_
    refine z_iadd C d_Host_temporaryName_64 ?_
    refine z_bipush (v := (109 : Int32)) C rfl d_Host_temporaryName_65 ?_
    refine z_callVv (rest := []) C q_Memory_storeByte tw_846 (c_Memory_storeByte _ B (a1 + (1 : Int32)) (109 : Int32) S3 _ h) rc_Memory ⟨Nat.le_of_ble_eq_true rfl, Nat.le_of_ble_eq_true rfl⟩ rfl rfl (Nat.le_of_ble_eq_true rfl) d_Host_temporaryName_67 (fun S4 h => ?_)
    refine z_aload_n C 0 rfl rfl d_Host_temporaryName_70 ?_
    refine gf_Host_memory C (Or.inl tw_274) d_Host_temporaryName_71 ?_
    refine z_iload_n C 1 rfl rfl d_Host_temporaryName_74 ?_
    refine z_iconst (v := (2 : Int32)) C rfl d_Host_temporaryName_75 ?_
    refine z_iadd C d_Host_temporaryName_76 ?_
    refine z_bipush (v := (112 : Int32)) C rfl d_Host_temporaryName_77 ?_
    refine z_callVv (rest := []) C q_Memory_storeByte tw_846 (c_Memory_storeByte _ B (a1 + (2 : Int32)) (112 : Int32) S4 _ h) rc_Memory ⟨Nat.le_of_ble_eq_true rfl, Nat.le_of_ble_eq_true rfl⟩ rfl rfl (Nat.le_of_ble_eq_true rfl) d_Host_temporaryName_79 (fun S5 h => ?_)
    refine z_aload_n C 0 rfl rfl d_Host_temporaryName_82 ?_
    refine gf_Host_memory C (Or.inl tw_274) d_Host_temporaryName_83 ?_
    refine z_iload_n C 1 rfl rfl d_Host_temporaryName_86 ?_
    refine z_iconst (v := (3 : Int32)) C rfl d_Host_temporaryName_87 ?_
    refine z_iadd C d_Host_temporaryName_88 ?_
    refine z_bipush (v := (48 : Int32)) C rfl d_Host_temporaryName_89 ?_
    refine z_iload_n C 2 rfl rfl d_Host_temporaryName_91 ?_
    refine z_bipush (v := (100 : Int32)) C rfl d_Host_temporaryName_92 ?_
    refine z_idiv C (by decide) d_Host_temporaryName_94 ?_
    refine z_iadd C d_Host_temporaryName_95 ?_
    refine z_callVv (rest := []) C q_Memory_storeByte tw_846 (c_Memory_storeByte _ B (a1 + (3 : Int32)) ((48 : Int32) + (a2 / (100 : Int32))) S5 _ h) rc_Memory ⟨Nat.le_of_ble_eq_true rfl, Nat.le_of_ble_eq_true rfl⟩ rfl rfl (Nat.le_of_ble_eq_true rfl) d_Host_temporaryName_96 (fun S6 h => ?_)
    refine z_aload_n C 0 rfl rfl d_Host_temporaryName_99 ?_
    refine gf_Host_memory C (Or.inl tw_274) d_Host_temporaryName_100 ?_
    refine z_iload_n C 1 rfl rfl d_Host_temporaryName_103 ?_
    refine z_iconst (v := (4 : Int32)) C rfl d_Host_temporaryName_104 ?_
    refine z_iadd C d_Host_temporaryName_105 ?_
    refine z_bipush (v := (48 : Int32)) C rfl d_Host_temporaryName_106 ?_
    refine z_iload_n C 2 rfl rfl d_Host_temporaryName_108 ?_
    refine z_bipush (v := (10 : Int32)) C rfl d_Host_temporaryName_109 ?_
    refine z_idiv C (by decide) d_Host_temporaryName_111 ?_
    refine z_bipush (v := (10 : Int32)) C rfl d_Host_temporaryName_112 ?_
    refine z_irem C (by decide) d_Host_temporaryName_114 ?_
    refine z_iadd C d_Host_temporaryName_115 ?_
    refine z_callVv (rest := []) C q_Memory_storeByte tw_846 (c_Memory_storeByte _ B (a1 + (4 : Int32)) ((48 : Int32) + ((a2 / (10 : Int32)) - (a2 / (10 : Int32)) / (10 : Int32) * (10 : Int32))) S6 _ h) rc_Memory ⟨Nat.le_of_ble_eq_true rfl, Nat.le_of_ble_eq_true rfl⟩ rfl rfl (Nat.le_of_ble_eq_true rfl) d_Host_temporaryName_116 (fun S7 h => ?_)
    refine z_aload_n C 0 rfl rfl d_Host_temporaryName_119 ?_
    refine gf_Host_memory C (Or.inl tw_274) d_Host_temporaryName_120 ?_
    refine z_iload_n C 1 rfl rfl d_Host_temporaryName_123 ?_
    refine z_iconst (v := (5 : Int32)) C rfl d_Host_temporaryName_124 ?_
    refine z_iadd C d_Host_temporaryName_125 ?_
    refine z_bipush (v := (48 : Int32)) C rfl d_Host_temporaryName_126 ?_
    refine z_iload_n C 2 rfl rfl d_Host_temporaryName_128 ?_
    refine z_bipush (v := (10 : Int32)) C rfl d_Host_temporaryName_129 ?_
    refine z_irem C (by decide) d_Host_temporaryName_131 ?_
    refine z_iadd C d_Host_temporaryName_132 ?_
    refine z_callVv (rest := []) C q_Memory_storeByte tw_846 (c_Memory_storeByte _ B (a1 + (5 : Int32)) ((48 : Int32) + (a2 - a2 / (10 : Int32) * (10 : Int32))) S7 _ h) rc_Memory ⟨Nat.le_of_ble_eq_true rfl, Nat.le_of_ble_eq_true rfl⟩ rfl rfl (Nat.le_of_ble_eq_true rfl) d_Host_temporaryName_133 (fun S8 h => ?_)
    refine z_aload_n C 0 rfl rfl d_Host_temporaryName_136 ?_
    refine gf_Host_memory C (Or.inl tw_274) d_Host_temporaryName_137 ?_
    refine z_iload_n C 1 rfl rfl d_Host_temporaryName_140 ?_
    refine z_bipush (v := (6 : Int32)) C rfl d_Host_temporaryName_141 ?_
    refine z_iadd C d_Host_temporaryName_143 ?_
    refine z_iconst (v := (0 : Int32)) C rfl d_Host_temporaryName_144 ?_
    refine z_callVv (rest := []) C q_Memory_storeByte tw_846 (c_Memory_storeByte _ B (a1 + (6 : Int32)) (0 : Int32) S8 _ h) rc_Memory ⟨Nat.le_of_ble_eq_true rfl, Nat.le_of_ble_eq_true rfl⟩ rfl rfl (Nat.le_of_ble_eq_true rfl) d_Host_temporaryName_145 (fun S9 h => ?_)
    refine z_iconst (v := (0 : Int32)) C rfl d_Host_temporaryName_148 ?_
    exact z_ireturn C G hr h d_Host_temporaryName_149
  · have h := h.1 c
    refine z_aload_n C 0 rfl rfl d_Host_temporaryName_41 ?_
    refine z_bipush (v := (14 : Int32)) C rfl d_Host_temporaryName_42 ?_
    refine z_callVi (rest := []) C q_Host_fail tw_752 (c_Host_fail _ B (14 : Int32) S1 _ h) rc_Host ⟨Nat.le_of_ble_eq_true rfl, Nat.le_of_ble_eq_true rfl⟩ rfl rfl (Nat.le_of_ble_eq_true rfl) d_Host_temporaryName_44 (fun S10 r11 h => ?_)
    exact z_ireturn C G hr h d_Host_temporaryName_47
def w_Host_temporaryName (a1 : Int32) (a2 : Int32) (a3 : Int32) (S : zS) (P : zS → Int32 → Prop) : Prop :=
  (a2 < 0 → (j_Host_temporaryName_21 a1 a2 a3 P S)) ∧ (¬ a2 < 0 → (((255 : Int32) < a2 → (j_Host_temporaryName_21 a1 a2 a3 P S)) ∧ (¬ (255 : Int32) < a2 → ((a3 < 0 → (j_Host_temporaryName_28 a1 a2 a3 P S)) ∧ (¬ a3 < 0 → (((7 : Int32) ≤ a3 → (j_Host_temporaryName_28 a1 a2 a3 P S)) ∧ (¬ (7 : Int32) ≤ a3 → (j_Host_temporaryName_21 a1 a2 a3 P S))))))))
set_option maxRecDepth 20000 in
set_option maxHeartbeats 4000000 in
theorem v_Host_temporaryName {E : zE} {B : zK} (C : zC E (wC B) prog_7_method_23_code "HostBench$Host" 1 22) (a1 : Int32) (a2 : Int32) (a3 : Int32) (P : zS → Int32 → Prop) (G : zGoal E (zQ (wC B) (zPi P)) (wC B)) (hr : zRt E (some .int)) (hnl : E.2.2.2.2.2.2.2.2.2.2.1 = 4) (S : zS) (h : w_Host_temporaryName a1 a2 a3 S P) : zV E (wC B) S 0 [(0, .ref (ad B 2)), (1, .int a1), (2, .int a2), (3, .int a3)] [] := by
  unfold w_Host_temporaryName at h
  refine z_iload_n C 2 rfl rfl d_Host_temporaryName_0 ?_
  refine z_if_lt (tgt := 21) C d_Host_temporaryName_1 rfl (fun c => ?_) (fun c => ?_)
  · have h := h.1 c
    exact z_sub [0] rfl (vj_Host_temporaryName_21 C a1 a2 a3 P G hr hnl S h)
  · have h := h.2 c
    refine z_iload_n C 2 rfl rfl d_Host_temporaryName_4 ?_
    refine z_sipush (v := (255 : Int32)) C rfl d_Host_temporaryName_5 ?_
    refine z_icmp_gt (tgt := 21) C d_Host_temporaryName_8 rfl (fun c => ?_) (fun c => ?_)
    · have h := h.1 c
      exact z_sub [0] rfl (vj_Host_temporaryName_21 C a1 a2 a3 P G hr hnl S h)
    · have h := h.2 c
      refine z_iload_n C 3 rfl rfl d_Host_temporaryName_11 ?_
      refine z_if_lt (tgt := 28) C d_Host_temporaryName_12 rfl (fun c => ?_) (fun c => ?_)
      · have h := h.1 c
        exact z_sub [0, 1, 2] rfl (vj_Host_temporaryName_28 C a1 a2 a3 P G hr hnl S h)
      · have h := h.2 c
        refine z_iload_n C 3 rfl rfl d_Host_temporaryName_15 ?_
        refine z_bipush (v := (7 : Int32)) C rfl d_Host_temporaryName_16 ?_
        refine z_icmp_ge (tgt := 28) C d_Host_temporaryName_18 rfl (fun c => ?_) (fun c => ?_)
        · have h := h.1 c
          exact z_sub [0, 1, 2] rfl (vj_Host_temporaryName_28 C a1 a2 a3 P G hr hnl S h)
        · have h := h.2 c
          exact z_sub [0] rfl (vj_Host_temporaryName_21 C a1 a2 a3 P G hr hnl S h)
theorem c_Host_temporaryName (l : Launch) (B : zK) (a1 : Int32) (a2 : Int32) (a3 : Int32) (S : zS) (P : zS → Int32 → Prop) (h : w_Host_temporaryName a1 a2 a3 S P) : Met l y_Host_temporaryName (Cond.code y_Host_temporaryName prog_7_method_23_code 4 (some FieldType.int) :: tT) (zRm 1 22) (zPc (wC B) [.ref (ad B 2), .int a1, .int a2, .int a3] S) (zQ (wC B) (zPi P)) 0 0 (wC B).2.2.2 :=
  z_met (by decide) (Nat.le_of_ble_eq_true rfl) (fun E C G hr _ hnl => v_Host_temporaryName C a1 a2 a3 P G hr hnl S h)
theorem q_Host_temporaryName : zQw y_Host_temporaryName prog_7_method_23_code 4 (some FieldType.int) 3 := ⟨tw_869, tw_28, tw_79, tw_870, by decide +kernel⟩
def w_Host_remove (a1 : Int32) (a2 : Int32) (S : zS) (P : zS → Int32 → Prop) : Prop :=
  w_Host_bringName 30 a1 a2 S (fun S1 r2 => (r2 = 0 → (w_Folder_find 30 S1 (fun S3 o4 => (o4 = none → (w_Host_fail (2 : Int32) S3 (fun S6 r7 => P S6 r7))) ∧ (∀ k5 : Nat, o4 = some k5 → (w_Desk_openOn k5 S3 (fun S8 r9 => (r9 ≤ 0 → (w_Folder_remove k5 S8 (fun S10 => P S10 (0 : Int32)))) ∧ (¬ r9 ≤ 0 → (w_Host_fail (16 : Int32) S8 (fun S11 r12 => P S11 r12))))))))) ∧ (¬ r2 = 0 → (w_Host_fail r2 S1 (fun S13 r14 => P S13 r14))))
set_option maxRecDepth 20000 in
set_option maxHeartbeats 4000000 in
theorem v_Host_remove {E : zE} {B : zK} (C : zC E (wC B) prog_7_method_24_code "HostBench$Host" 2 46) (a1 : Int32) (a2 : Int32) (P : zS → Int32 → Prop) (G : zGoal E (zQ (wC B) (zPi P)) (wC B)) (hr : zRt E (some .int)) (hnl : E.2.2.2.2.2.2.2.2.2.2.1 = 5) (S : zS) (h : w_Host_remove a1 a2 S P) : zV E (wC B) S 0 [(0, .ref (ad B 2)), (1, .int a1), (2, .int a2)] [] := by
  unfold w_Host_remove at h
  refine z_aload_n C 0 rfl rfl d_Host_remove_0 ?_
  refine z_aload_n C 0 rfl rfl d_Host_remove_1 ?_
  refine gf_Host_firstName C (Or.inl tw_287) d_Host_remove_2 ?_
  refine z_iload_n C 1 rfl rfl d_Host_remove_5 ?_
  refine z_iload_n C 2 rfl rfl d_Host_remove_6 ?_
  refine z_callVi (rest := []) C q_Host_bringName tw_756 (c_Host_bringName _ B 30 a1 a2 S _ h) rc_Host ⟨Nat.le_of_ble_eq_true rfl, Nat.le_of_ble_eq_true rfl⟩ rfl rfl (Nat.le_of_ble_eq_true rfl) d_Host_remove_7 (fun S1 r2 h => ?_)
  refine z_istore_n (L' := [(3, .int r2), (0, .ref (ad B 2)), (1, .int a1), (2, .int a2)]) C hnl rfl (by decide) rfl d_Host_remove_10 ?_
  refine z_iload_n C 0 rfl rfl d_Host_remove_11 ?_
  refine z_if_eq (tgt := 21) C d_Host_remove_12 rfl (fun c => ?_) (fun c => ?_)
  · have h := h.1 c
    refine z_aload_n C 1 rfl rfl d_Host_remove_21 ?_
    refine gf_Host_folder C (Or.inl tw_275) d_Host_remove_22 ?_
    refine z_aload_n C 1 rfl rfl d_Host_remove_25 ?_
    refine gf_Host_firstName C (Or.inl tw_287) d_Host_remove_26 ?_
    refine z_callVq (rest := []) C q_Folder_find tw_785 (c_Folder_find _ B 30 S1 _ h) rc_Folder ⟨Nat.le_of_ble_eq_true rfl, Nat.le_of_ble_eq_true rfl⟩ rfl rfl (Nat.le_of_ble_eq_true rfl) d_Host_remove_29 (fun S3 o4 h => ?_)
    refine z_astoreq (x := (o4).map (fun k => ad B (13 + k))) (L' := [(4, va_rf ((o4).map (fun k => ad B (13 + k)))), (3, .int r2), (0, .ref (ad B 2)), (1, .int a1), (2, .int a2)]) C hnl (by decide) rfl d_Host_remove_32 ?_
    refine z_aloadq (x := (o4).map (fun k => ad B (13 + k))) C 0 rfl d_Host_remove_34 ?_
    cases o4 with
    | none =>
      have h := h.1 rfl
      show zV E (wC B) S3 36 [(4, .null), (3, .int r2), (0, .ref (ad B 2)), (1, .int a1), (2, .int a2)] [.null]
      refine z_ifnonnullN (tgt := 45) C d_Host_remove_36 rfl ?_
      refine z_aload_n C 2 rfl rfl d_Host_remove_39 ?_
      refine z_iconst (v := (2 : Int32)) C rfl d_Host_remove_40 ?_
      refine z_callVi (rest := []) C q_Host_fail tw_752 (c_Host_fail _ B (2 : Int32) S3 _ h) rc_Host ⟨Nat.le_of_ble_eq_true rfl, Nat.le_of_ble_eq_true rfl⟩ rfl rfl (Nat.le_of_ble_eq_true rfl) d_Host_remove_41 (fun S6 r7 h => ?_)
      exact z_ireturn C G hr h d_Host_remove_44
    | some k5 =>
      have h := h.2 k5 rfl
      show zV E (wC B) S3 36 [(4, .ref (ad B (13 + k5))), (3, .int r2), (0, .ref (ad B 2)), (1, .int a1), (2, .int a2)] [.ref (ad B (13 + k5))]
      refine z_ifnonnull (tgt := 45) C d_Host_remove_36 rfl ?_
      refine z_aload_n C 2 rfl rfl d_Host_remove_45 ?_
      refine gf_Host_desk C (Or.inl tw_277) d_Host_remove_46 ?_
      refine z_aload C 0 rfl d_Host_remove_49 ?_
      refine z_callVi (rest := []) C q_Desk_openOn tw_875 (c_Desk_openOn _ B k5 S3 _ h) rc_Desk ⟨Nat.le_of_ble_eq_true rfl, Nat.le_of_ble_eq_true rfl⟩ rfl rfl (Nat.le_of_ble_eq_true rfl) d_Host_remove_51 (fun S8 r9 h => ?_)
      refine z_if_le (tgt := 64) C d_Host_remove_54 rfl (fun c => ?_) (fun c => ?_)
      · have h := h.1 c
        refine z_aload_n C 2 rfl rfl d_Host_remove_64 ?_
        refine gf_Host_folder C (Or.inl tw_275) d_Host_remove_65 ?_
        refine z_aload C 0 rfl d_Host_remove_68 ?_
        refine z_callVv (rest := []) C q_Folder_remove tw_876 (c_Folder_remove _ B k5 S8 _ h) rc_Folder ⟨Nat.le_of_ble_eq_true rfl, Nat.le_of_ble_eq_true rfl⟩ rfl rfl (Nat.le_of_ble_eq_true rfl) d_Host_remove_70 (fun S10 h => ?_)
        refine z_iconst (v := (0 : Int32)) C rfl d_Host_remove_73 ?_
        exact z_ireturn C G hr h d_Host_remove_74
      · have h := h.2 c
        refine z_aload_n C 2 rfl rfl d_Host_remove_57 ?_
        refine z_bipush (v := (16 : Int32)) C rfl d_Host_remove_58 ?_
        refine z_callVi (rest := []) C q_Host_fail tw_752 (c_Host_fail _ B (16 : Int32) S8 _ h) rc_Host ⟨Nat.le_of_ble_eq_true rfl, Nat.le_of_ble_eq_true rfl⟩ rfl rfl (Nat.le_of_ble_eq_true rfl) d_Host_remove_60 (fun S11 r12 h => ?_)
        exact z_ireturn C G hr h d_Host_remove_63
  · have h := h.2 c
    refine z_aload_n C 1 rfl rfl d_Host_remove_15 ?_
    refine z_iload_n C 0 rfl rfl d_Host_remove_16 ?_
    refine z_callVi (rest := []) C q_Host_fail tw_752 (c_Host_fail _ B r2 S1 _ h) rc_Host ⟨Nat.le_of_ble_eq_true rfl, Nat.le_of_ble_eq_true rfl⟩ rfl rfl (Nat.le_of_ble_eq_true rfl) d_Host_remove_17 (fun S13 r14 h => ?_)
    exact z_ireturn C G hr h d_Host_remove_20
theorem c_Host_remove (l : Launch) (B : zK) (a1 : Int32) (a2 : Int32) (S : zS) (P : zS → Int32 → Prop) (h : w_Host_remove a1 a2 S P) : Met l y_Host_remove (Cond.code y_Host_remove prog_7_method_24_code 5 (some FieldType.int) :: tT) (zRm 2 46) (zPc (wC B) [.ref (ad B 2), .int a1, .int a2] S) (zQ (wC B) (zPi P)) 0 0 (wC B).2.2.2 :=
  z_met (by decide) (Nat.le_of_ble_eq_true rfl) (fun E C G hr _ hnl => v_Host_remove C a1 a2 P G hr hnl S h)
theorem q_Host_remove : zQw y_Host_remove prog_7_method_24_code 5 (some FieldType.int) 2 := ⟨tw_873, tw_29, tw_79, tw_874, by decide +kernel⟩
def j_Host_rename_120 (P : zS → Int32 → Prop) (S : zS) (x2 : Option Nat) : Prop :=
  ∃ k1 : Nat, x2 = some k1 ∧ k1 < 12 ∧ (2 + 2 * k1) < 32 ∧ w_Bytes_cut (2 + 2 * k1) (0 : Int32) S (fun S4 => 31 < 32 ∧ w_Bytes_size 31 S4 (fun S6 r7 => w_Bytes_append (2 + 2 * k1) 31 (0 : Int32) r7 S6 (fun S8 => P S8 (0 : Int32))))
set_option maxRecDepth 20000 in
set_option maxHeartbeats 4000000 in
theorem vj_Host_rename_120 {E : zE} {B : zK} (C : zC E (wC B) prog_7_method_25_code "HostBench$Host" 3 64) (P : zS → Int32 → Prop) (G : zGoal E (zQ (wC B) (zPi P)) (wC B)) (hr : zRt E (some .int)) (hnl : E.2.2.2.2.2.2.2.2.2.2.1 = 4) (S : zS) (x2 : Option Nat) (h : j_Host_rename_120 P S x2) : zV E (wC B) S 120 [(0, .ref (ad B 2)), (2, va_rf ((x2).map (fun k => ad B (13 + k))))] [] := by
  unfold j_Host_rename_120 at h
  refine z_aload_nq (x := (x2).map (fun k => ad B (13 + k))) C 1 rfl rfl d_Host_rename_120 ?_
  obtain ⟨k1, rfl, h⟩ := h
  show zV E (wC B) S 121 [(0, .ref (ad B 2)), (2, .ref (ad B (13 + k1)))] [.ref (ad B (13 + k1))]
  obtain ⟨f2, h⟩ := h
  refine gf_HostFile_name C f2 (Or.inr (List.mem_of_getElem? (i := 11) rfl)) d_Host_rename_121 ?_
  refine z_iconst (v := (0 : Int32)) C rfl d_Host_rename_124 ?_
  obtain ⟨f3, h⟩ := h
  refine z_callVv (rest := []) C q_Bytes_cut tw_760 (c_Bytes_cut _ B (2 + 2 * k1) (0 : Int32) S _ h) (rc_Bytes f3) ⟨Nat.le_of_ble_eq_true rfl, Nat.le_of_ble_eq_true rfl⟩ rfl rfl (Nat.le_of_ble_eq_true rfl) d_Host_rename_125 (fun S4 h => ?_)
  refine z_aload_n C 1 rfl rfl d_Host_rename_128 ?_
  refine gf_HostFile_name C f2 (Or.inr (List.mem_of_getElem? (i := 11) rfl)) d_Host_rename_129 ?_
  refine z_aload_n C 0 rfl rfl d_Host_rename_132 ?_
  refine gf_Host_secondName C (Or.inl tw_288) d_Host_rename_133 ?_
  refine z_iconst (v := (0 : Int32)) C rfl d_Host_rename_136 ?_
  refine z_aload_n C 0 rfl rfl d_Host_rename_137 ?_
  refine gf_Host_secondName C (Or.inl tw_288) d_Host_rename_138 ?_
  obtain ⟨f5, h⟩ := h
  refine z_callVi (rest := [.int (0 : Int32), .ref (ad B (35 + 31)), .ref (ad B (35 + (2 + 2 * k1)))]) C q_Bytes_size tw_775 (c_Bytes_size _ B 31 S4 _ h) (rc_Bytes f5) ⟨Nat.le_of_ble_eq_true rfl, Nat.le_of_ble_eq_true rfl⟩ rfl rfl (Nat.le_of_ble_eq_true rfl) d_Host_rename_141 (fun S6 r7 h => ?_)
  refine z_callVv (rest := []) C q_Bytes_append tw_888 (c_Bytes_append _ B (2 + 2 * k1) 31 (0 : Int32) r7 S6 _ h) (rc_Bytes f3) ⟨Nat.le_of_ble_eq_true rfl, Nat.le_of_ble_eq_true rfl⟩ rfl rfl (Nat.le_of_ble_eq_true rfl) d_Host_rename_144 (fun S8 h => ?_)
  refine z_iconst (v := (0 : Int32)) C rfl d_Host_rename_147 ?_
  exact z_ireturn C G hr h d_Host_rename_148
def j_Host_rename_42 (P : zS → Int32 → Prop) (S : zS) (x1 : Int32) : Prop :=
  (x1 = 0 → (w_Folder_find 30 S (fun S1 o2 => (o2 = none → (w_Host_fail (2 : Int32) S1 (fun S4 r5 => P S4 r5))) ∧ (∀ k3 : Nat, o2 = some k3 → (w_Desk_openOn k3 S1 (fun S6 r7 => (r7 ≤ 0 → (w_Folder_find 31 S6 (fun S8 o9 => (o9 = none → (j_Host_rename_120 P S8 (some k3))) ∧ (∀ k10 : Nat, o9 = some k10 → (((some k10) = (some k3) → (j_Host_rename_120 P S8 (some k3))) ∧ (¬ (some k10) = (some k3) → (w_Host_fail (17 : Int32) S8 (fun S11 r12 => P S11 r12)))))))) ∧ (¬ r7 ≤ 0 → (w_Host_fail (16 : Int32) S6 (fun S13 r14 => P S13 r14))))))))) ∧ (¬ x1 = 0 → (w_Host_fail x1 S (fun S15 r16 => P S15 r16)))
set_option maxRecDepth 20000 in
set_option maxHeartbeats 4000000 in
theorem vj_Host_rename_42 {E : zE} {B : zK} (C : zC E (wC B) prog_7_method_25_code "HostBench$Host" 3 64) (P : zS → Int32 → Prop) (G : zGoal E (zQ (wC B) (zPi P)) (wC B)) (hr : zRt E (some .int)) (hnl : E.2.2.2.2.2.2.2.2.2.2.1 = 4) (S : zS) (x1 : Int32) (h : j_Host_rename_42 P S x1) : zV E (wC B) S 42 [(0, .ref (ad B 2)), (1, .int x1)] [] := by
  unfold j_Host_rename_42 at h
  refine z_iload_n C 1 rfl rfl d_Host_rename_42 ?_
  refine z_if_eq (tgt := 52) C d_Host_rename_43 rfl (fun c => ?_) (fun c => ?_)
  · have h := h.1 c
    refine z_aload_n C 0 rfl rfl d_Host_rename_52 ?_
    refine gf_Host_folder C (Or.inl tw_275) d_Host_rename_53 ?_
    refine z_aload_n C 0 rfl rfl d_Host_rename_56 ?_
    refine gf_Host_firstName C (Or.inl tw_287) d_Host_rename_57 ?_
    refine z_callVq (rest := []) C q_Folder_find tw_785 (c_Folder_find _ B 30 S _ h) rc_Folder ⟨Nat.le_of_ble_eq_true rfl, Nat.le_of_ble_eq_true rfl⟩ rfl rfl (Nat.le_of_ble_eq_true rfl) d_Host_rename_60 (fun S1 o2 h => ?_)
    refine z_astore_nq (x := (o2).map (fun k => ad B (13 + k))) (L' := [(2, va_rf ((o2).map (fun k => ad B (13 + k)))), (0, .ref (ad B 2)), (1, .int x1)]) C hnl rfl (by decide) rfl d_Host_rename_63 ?_
    refine z_aload_nq (x := (o2).map (fun k => ad B (13 + k))) C 0 rfl rfl d_Host_rename_64 ?_
    cases o2 with
    | none =>
      have h := h.1 rfl
      show zV E (wC B) S1 65 [(2, .null), (0, .ref (ad B 2)), (1, .int x1)] [.null]
      refine z_ifnonnullN (tgt := 74) C d_Host_rename_65 rfl ?_
      refine z_aload_n C 1 rfl rfl d_Host_rename_68 ?_
      refine z_iconst (v := (2 : Int32)) C rfl d_Host_rename_69 ?_
      refine z_callVi (rest := []) C q_Host_fail tw_752 (c_Host_fail _ B (2 : Int32) S1 _ h) rc_Host ⟨Nat.le_of_ble_eq_true rfl, Nat.le_of_ble_eq_true rfl⟩ rfl rfl (Nat.le_of_ble_eq_true rfl) d_Host_rename_70 (fun S4 r5 h => ?_)
      exact z_ireturn C G hr h d_Host_rename_73
    | some k3 =>
      have h := h.2 k3 rfl
      show zV E (wC B) S1 65 [(2, .ref (ad B (13 + k3))), (0, .ref (ad B 2)), (1, .int x1)] [.ref (ad B (13 + k3))]
      refine z_ifnonnull (tgt := 74) C d_Host_rename_65 rfl ?_
      refine z_aload_n C 1 rfl rfl d_Host_rename_74 ?_
      refine gf_Host_desk C (Or.inl tw_277) d_Host_rename_75 ?_
      refine z_aload_n C 0 rfl rfl d_Host_rename_78 ?_
      refine z_callVi (rest := []) C q_Desk_openOn tw_875 (c_Desk_openOn _ B k3 S1 _ h) rc_Desk ⟨Nat.le_of_ble_eq_true rfl, Nat.le_of_ble_eq_true rfl⟩ rfl rfl (Nat.le_of_ble_eq_true rfl) d_Host_rename_79 (fun S6 r7 h => ?_)
      refine z_if_le (tgt := 92) C d_Host_rename_82 rfl (fun c => ?_) (fun c => ?_)
      · have h := h.1 c
        refine z_aload_n C 1 rfl rfl d_Host_rename_92 ?_
        refine gf_Host_folder C (Or.inl tw_275) d_Host_rename_93 ?_
        refine z_aload_n C 1 rfl rfl d_Host_rename_96 ?_
        refine gf_Host_secondName C (Or.inl tw_288) d_Host_rename_97 ?_
        refine z_callVq (rest := []) C q_Folder_find tw_785 (c_Folder_find _ B 31 S6 _ h) rc_Folder ⟨Nat.le_of_ble_eq_true rfl, Nat.le_of_ble_eq_true rfl⟩ rfl rfl (Nat.le_of_ble_eq_true rfl) d_Host_rename_100 (fun S8 o9 h => ?_)
        refine z_astore_nq (x := (o9).map (fun k => ad B (13 + k))) (L' := [(3, va_rf ((o9).map (fun k => ad B (13 + k)))), (2, .ref (ad B (13 + k3))), (0, .ref (ad B 2)), (1, .int x1)]) C hnl rfl (by decide) rfl d_Host_rename_103 ?_
        refine z_aload_nq (x := (o9).map (fun k => ad B (13 + k))) C 0 rfl rfl d_Host_rename_104 ?_
        cases o9 with
        | none =>
          have h := h.1 rfl
          show zV E (wC B) S8 105 [(3, .null), (2, .ref (ad B (13 + k3))), (0, .ref (ad B 2)), (1, .int x1)] [.null]
          refine z_ifnullN (tgt := 120) C d_Host_rename_105 rfl ?_
          exact z_sub [2, 1] rfl (vj_Host_rename_120 C P G hr hnl S8 (some k3) h)
        | some k10 =>
          have h := h.2 k10 rfl
          show zV E (wC B) S8 105 [(3, .ref (ad B (13 + k10))), (2, .ref (ad B (13 + k3))), (0, .ref (ad B 2)), (1, .int x1)] [.ref (ad B (13 + k10))]
          refine z_ifnull (tgt := 120) C d_Host_rename_105 rfl ?_
          refine z_aload_n C 0 rfl rfl d_Host_rename_108 ?_
          refine z_aload_n C 1 rfl rfl d_Host_rename_109 ?_
          refine z_acmpF_eq (x := (some k10)) (y := (some k3)) (tgt := 120) C d_Host_rename_110 rfl (fun c => ?_) (fun c => ?_)
          · have h := h.1 c
            exact z_sub [2, 1] rfl (vj_Host_rename_120 C P G hr hnl S8 (some k3) h)
          · have h := h.2 c
            refine z_aload_n C 2 rfl rfl d_Host_rename_113 ?_
            refine z_bipush (v := (17 : Int32)) C rfl d_Host_rename_114 ?_
            refine z_callVi (rest := []) C q_Host_fail tw_752 (c_Host_fail _ B (17 : Int32) S8 _ h) rc_Host ⟨Nat.le_of_ble_eq_true rfl, Nat.le_of_ble_eq_true rfl⟩ rfl rfl (Nat.le_of_ble_eq_true rfl) d_Host_rename_116 (fun S11 r12 h => ?_)
            exact z_ireturn C G hr h d_Host_rename_119
      · have h := h.2 c
        refine z_aload_n C 1 rfl rfl d_Host_rename_85 ?_
        refine z_bipush (v := (16 : Int32)) C rfl d_Host_rename_86 ?_
        refine z_callVi (rest := []) C q_Host_fail tw_752 (c_Host_fail _ B (16 : Int32) S6 _ h) rc_Host ⟨Nat.le_of_ble_eq_true rfl, Nat.le_of_ble_eq_true rfl⟩ rfl rfl (Nat.le_of_ble_eq_true rfl) d_Host_rename_88 (fun S13 r14 h => ?_)
        exact z_ireturn C G hr h d_Host_rename_91
  · have h := h.2 c
    refine z_aload_n C 0 rfl rfl d_Host_rename_46 ?_
    refine z_iload_n C 1 rfl rfl d_Host_rename_47 ?_
    refine z_callVi (rest := []) C q_Host_fail tw_752 (c_Host_fail _ B x1 S _ h) rc_Host ⟨Nat.le_of_ble_eq_true rfl, Nat.le_of_ble_eq_true rfl⟩ rfl rfl (Nat.le_of_ble_eq_true rfl) d_Host_rename_48 (fun S15 r16 h => ?_)
    exact z_ireturn C G hr h d_Host_rename_51
def w_Host_rename (S : zS) (P : zS → Int32 → Prop) : Prop :=
  w_Host_field (0 : Int32) S (fun S1 r2 => w_Host_field (1 : Int32) S1 (fun S3 r4 => w_Host_bringName 30 r2 r4 S3 (fun S5 r6 => (r6 = 0 → (w_Host_field (2 : Int32) S5 (fun S7 r8 => w_Host_field (3 : Int32) S7 (fun S9 r10 => w_Host_bringName 31 r8 r10 S9 (fun S11 r12 => j_Host_rename_42 P S11 r12))))) ∧ (¬ r6 = 0 → (j_Host_rename_42 P S5 r6)))))
set_option maxRecDepth 20000 in
set_option maxHeartbeats 4000000 in
theorem v_Host_rename {E : zE} {B : zK} (C : zC E (wC B) prog_7_method_25_code "HostBench$Host" 3 64) (P : zS → Int32 → Prop) (G : zGoal E (zQ (wC B) (zPi P)) (wC B)) (hr : zRt E (some .int)) (hnl : E.2.2.2.2.2.2.2.2.2.2.1 = 4) (S : zS) (h : w_Host_rename S P) : zV E (wC B) S 0 [(0, .ref (ad B 2))] [] := by
  unfold w_Host_rename at h
  refine z_aload_n C 0 rfl rfl d_Host_rename_0 ?_
  refine z_aload_n C 0 rfl rfl d_Host_rename_1 ?_
  refine gf_Host_firstName C (Or.inl tw_287) d_Host_rename_2 ?_
  refine z_aload_n C 0 rfl rfl d_Host_rename_5 ?_
  refine z_iconst (v := (0 : Int32)) C rfl d_Host_rename_6 ?_
  refine z_callVi (rest := [.ref (ad B (35 + 30)), .ref (ad B 2)]) C q_Host_field tw_743 (c_Host_field _ B (0 : Int32) S _ h) rc_Host ⟨Nat.le_of_ble_eq_true rfl, Nat.le_of_ble_eq_true rfl⟩ rfl rfl (Nat.le_of_ble_eq_true rfl) d_Host_rename_7 (fun S1 r2 h => ?_)
  refine z_aload_n C 0 rfl rfl d_Host_rename_10 ?_
  refine z_iconst (v := (1 : Int32)) C rfl d_Host_rename_11 ?_
  refine z_callVi (rest := [.int r2, .ref (ad B (35 + 30)), .ref (ad B 2)]) C q_Host_field tw_743 (c_Host_field _ B (1 : Int32) S1 _ h) rc_Host ⟨Nat.le_of_ble_eq_true rfl, Nat.le_of_ble_eq_true rfl⟩ rfl rfl (Nat.le_of_ble_eq_true rfl) d_Host_rename_12 (fun S3 r4 h => ?_)
  refine z_callVi (rest := []) C q_Host_bringName tw_756 (c_Host_bringName _ B 30 r2 r4 S3 _ h) rc_Host ⟨Nat.le_of_ble_eq_true rfl, Nat.le_of_ble_eq_true rfl⟩ rfl rfl (Nat.le_of_ble_eq_true rfl) d_Host_rename_15 (fun S5 r6 h => ?_)
  refine z_istore_n (L' := [(1, .int r6), (0, .ref (ad B 2))]) C hnl rfl (by decide) rfl d_Host_rename_18 ?_
  refine z_iload_n C 0 rfl rfl d_Host_rename_19 ?_
  refine z_if_ne (tgt := 42) C d_Host_rename_20 rfl (fun c => ?_) (fun c => ?_)
  · have h := h.2 c
    exact z_sub [1, 0] rfl (vj_Host_rename_42 C P G hr hnl S5 r6 h)
  · have h := h.1 c
    refine z_aload_n C 1 rfl rfl d_Host_rename_23 ?_
    refine z_aload_n C 1 rfl rfl d_Host_rename_24 ?_
    refine gf_Host_secondName C (Or.inl tw_288) d_Host_rename_25 ?_
    refine z_aload_n C 1 rfl rfl d_Host_rename_28 ?_
    refine z_iconst (v := (2 : Int32)) C rfl d_Host_rename_29 ?_
    refine z_callVi (rest := [.ref (ad B (35 + 31)), .ref (ad B 2)]) C q_Host_field tw_743 (c_Host_field _ B (2 : Int32) S5 _ h) rc_Host ⟨Nat.le_of_ble_eq_true rfl, Nat.le_of_ble_eq_true rfl⟩ rfl rfl (Nat.le_of_ble_eq_true rfl) d_Host_rename_30 (fun S7 r8 h => ?_)
    refine z_aload_n C 1 rfl rfl d_Host_rename_33 ?_
    refine z_iconst (v := (3 : Int32)) C rfl d_Host_rename_34 ?_
    refine z_callVi (rest := [.int r8, .ref (ad B (35 + 31)), .ref (ad B 2)]) C q_Host_field tw_743 (c_Host_field _ B (3 : Int32) S7 _ h) rc_Host ⟨Nat.le_of_ble_eq_true rfl, Nat.le_of_ble_eq_true rfl⟩ rfl rfl (Nat.le_of_ble_eq_true rfl) d_Host_rename_35 (fun S9 r10 h => ?_)
    refine z_callVi (rest := []) C q_Host_bringName tw_756 (c_Host_bringName _ B 31 r8 r10 S9 _ h) rc_Host ⟨Nat.le_of_ble_eq_true rfl, Nat.le_of_ble_eq_true rfl⟩ rfl rfl (Nat.le_of_ble_eq_true rfl) d_Host_rename_38 (fun S11 r12 h => ?_)
    refine z_istore_n (L' := [(1, .int r12), (0, .ref (ad B 2))]) C hnl rfl (by decide) rfl d_Host_rename_41 ?_
    exact z_sub [1, 0] rfl (vj_Host_rename_42 C P G hr hnl S11 r12 h)
theorem c_Host_rename (l : Launch) (B : zK) (S : zS) (P : zS → Int32 → Prop) (h : w_Host_rename S P) : Met l y_Host_rename (Cond.code y_Host_rename prog_7_method_25_code 4 (some FieldType.int) :: tT) (zRm 3 64) (zPc (wC B) [.ref (ad B 2)] S) (zQ (wC B) (zPi P)) 0 0 (wC B).2.2.2 :=
  z_met (by decide) (Nat.le_of_ble_eq_true rfl) (fun E C G hr _ hnl => v_Host_rename C P G hr hnl S h)
theorem q_Host_rename : zQw y_Host_rename prog_7_method_25_code 4 (some FieldType.int) 0 := ⟨tw_886, tw_30, tw_79, tw_887, by decide +kernel⟩
def j_Host_tellCommand_26 (a1 : Int32) (a2 : Int32) (P : zS → Int32 → Prop) (S : zS) (x3 : Int32) : Prop :=
  w_Memory_hasArea a1 (x3 + (1 : Int32)) S (fun S1 r2 => (r2 = 0 → (w_Host_fail (14 : Int32) S1 (fun S7 r8 => P S7 r8))) ∧ (¬ r2 = 0 → (w_Host_bringBytes 29 (0 : Int32) a1 x3 S1 (fun S3 r4 => w_Memory_storeByte (a1 + x3) (0 : Int32) S3 (fun S5 => w_Memory_storeWord ((gM S5 0 5) + (4 : Int32)) x3 S5 (fun S6 => P S6 (0 : Int32)))))))
set_option maxRecDepth 20000 in
set_option maxHeartbeats 4000000 in
theorem vj_Host_tellCommand_26 {E : zE} {B : zK} (C : zC E (wC B) prog_7_method_26_code "HostBench$Host" 2 48) (a1 : Int32) (a2 : Int32) (P : zS → Int32 → Prop) (G : zGoal E (zQ (wC B) (zPi P)) (wC B)) (hr : zRt E (some .int)) (hnl : E.2.2.2.2.2.2.2.2.2.2.1 = 4) (S : zS) (x3 : Int32) (h : j_Host_tellCommand_26 a1 a2 P S x3) : zV E (wC B) S 26 [(0, .ref (ad B 2)), (1, .int a1), (3, .int x3)] [] := by
  unfold j_Host_tellCommand_26 at h
  refine z_aload_n C 0 rfl rfl d_Host_tellCommand_26 ?_
  refine gf_Host_memory C (Or.inl tw_274) d_Host_tellCommand_27 ?_
  refine z_iload_n C 1 rfl rfl d_Host_tellCommand_30 ?_
  refine z_iload_n C 2 rfl rfl d_Host_tellCommand_31 ?_
  refine z_iconst (v := (1 : Int32)) C rfl d_Host_tellCommand_32 ?_
  refine z_iadd C d_Host_tellCommand_33 ?_
  refine z_callVi (rest := []) C q_Memory_hasArea tw_738 (c_Memory_hasArea _ B a1 (x3 + (1 : Int32)) S _ h) rc_Memory ⟨Nat.le_of_ble_eq_true rfl, Nat.le_of_ble_eq_true rfl⟩ rfl rfl (Nat.le_of_ble_eq_true rfl) d_Host_tellCommand_34 (fun S1 r2 h => ?_)
  refine z_if_ne (tgt := 47) C d_Host_tellCommand_37 rfl (fun c => ?_) (fun c => ?_)
  · have h := h.2 c
    refine z_aload_n C 0 rfl rfl d_Host_tellCommand_47 ?_
    refine z_aload_n C 0 rfl rfl d_Host_tellCommand_48 ?_
    refine gf_Host_command C (Or.inl tw_285) d_Host_tellCommand_49 ?_
    refine z_iconst (v := (0 : Int32)) C rfl d_Host_tellCommand_52 ?_
    refine z_iload_n C 1 rfl rfl d_Host_tellCommand_53 ?_
    refine z_iload_n C 2 rfl rfl d_Host_tellCommand_54 ?_
    refine z_callVi (rest := []) C q_Host_bringBytes tw_842 (c_Host_bringBytes _ B 29 (0 : Int32) a1 x3 S1 _ h) rc_Host ⟨Nat.le_of_ble_eq_true rfl, Nat.le_of_ble_eq_true rfl⟩ rfl rfl (Nat.le_of_ble_eq_true rfl) d_Host_tellCommand_55 (fun S3 r4 h => ?_)
    refine z_pop C rfl d_Host_tellCommand_58 ?_
    refine z_aload_n C 0 rfl rfl d_Host_tellCommand_59 ?_
    refine gf_Host_memory C (Or.inl tw_274) d_Host_tellCommand_60 ?_
    refine z_iload_n C 1 rfl rfl d_Host_tellCommand_63 ?_
    refine z_iload_n C 2 rfl rfl d_Host_tellCommand_64 ?_
    refine z_iadd C d_Host_tellCommand_65 ?_
    refine z_iconst (v := (0 : Int32)) C rfl d_Host_tellCommand_66 ?_
    refine z_callVv (rest := []) C q_Memory_storeByte tw_846 (c_Memory_storeByte _ B (a1 + x3) (0 : Int32) S3 _ h) rc_Memory ⟨Nat.le_of_ble_eq_true rfl, Nat.le_of_ble_eq_true rfl⟩ rfl rfl (Nat.le_of_ble_eq_true rfl) d_Host_tellCommand_67 (fun S5 h => ?_)
    refine z_aload_n C 0 rfl rfl d_Host_tellCommand_70 ?_
    refine gf_Host_memory C (Or.inl tw_274) d_Host_tellCommand_71 ?_
    refine z_aload_n C 0 rfl rfl d_Host_tellCommand_74 ?_
    refine gf_Host_block C (Or.inl tw_289) d_Host_tellCommand_75 ?_
    refine z_iconst (v := (4 : Int32)) C rfl d_Host_tellCommand_78 ?_
    refine z_iadd C d_Host_tellCommand_79 ?_
    refine z_iload_n C 2 rfl rfl d_Host_tellCommand_80 ?_
    refine z_callVv (rest := []) C q_Memory_storeWord tw_899 (c_Memory_storeWord _ B ((gM S5 0 5) + (4 : Int32)) x3 S5 _ h) rc_Memory ⟨Nat.le_of_ble_eq_true rfl, Nat.le_of_ble_eq_true rfl⟩ rfl rfl (Nat.le_of_ble_eq_true rfl) d_Host_tellCommand_81 (fun S6 h => ?_)
    refine z_iconst (v := (0 : Int32)) C rfl d_Host_tellCommand_84 ?_
    exact z_ireturn C G hr h d_Host_tellCommand_85
  · have h := h.1 c
    refine z_aload_n C 0 rfl rfl d_Host_tellCommand_40 ?_
    refine z_bipush (v := (14 : Int32)) C rfl d_Host_tellCommand_41 ?_
    refine z_callVi (rest := []) C q_Host_fail tw_752 (c_Host_fail _ B (14 : Int32) S1 _ h) rc_Host ⟨Nat.le_of_ble_eq_true rfl, Nat.le_of_ble_eq_true rfl⟩ rfl rfl (Nat.le_of_ble_eq_true rfl) d_Host_tellCommand_43 (fun S7 r8 h => ?_)
    exact z_ireturn C G hr h d_Host_tellCommand_46
def w_Host_tellCommand (a1 : Int32) (a2 : Int32) (S : zS) (P : zS → Int32 → Prop) : Prop :=
  29 < 32 ∧ w_Bytes_size 29 S (fun S2 r3 => (a2 < 0 → (j_Host_tellCommand_26 a1 a2 P S2 r3)) ∧ (¬ a2 < 0 → (((r3 + (1 : Int32)) ≤ a2 → (j_Host_tellCommand_26 a1 a2 P S2 r3)) ∧ (¬ (r3 + (1 : Int32)) ≤ a2 → (w_Host_fail (22 : Int32) S2 (fun S4 r5 => P S4 r5))))))
set_option maxRecDepth 20000 in
set_option maxHeartbeats 4000000 in
theorem v_Host_tellCommand {E : zE} {B : zK} (C : zC E (wC B) prog_7_method_26_code "HostBench$Host" 2 48) (a1 : Int32) (a2 : Int32) (P : zS → Int32 → Prop) (G : zGoal E (zQ (wC B) (zPi P)) (wC B)) (hr : zRt E (some .int)) (hnl : E.2.2.2.2.2.2.2.2.2.2.1 = 4) (S : zS) (h : w_Host_tellCommand a1 a2 S P) : zV E (wC B) S 0 [(0, .ref (ad B 2)), (1, .int a1), (2, .int a2)] [] := by
  unfold w_Host_tellCommand at h
  refine z_aload_n C 0 rfl rfl d_Host_tellCommand_0 ?_
  refine gf_Host_command C (Or.inl tw_285) d_Host_tellCommand_1 ?_
  obtain ⟨f1, h⟩ := h
  refine z_callVi (rest := []) C q_Bytes_size tw_775 (c_Bytes_size _ B 29 S _ h) (rc_Bytes f1) ⟨Nat.le_of_ble_eq_true rfl, Nat.le_of_ble_eq_true rfl⟩ rfl rfl (Nat.le_of_ble_eq_true rfl) d_Host_tellCommand_4 (fun S2 r3 h => ?_)
  refine z_istore_n (L' := [(3, .int r3), (0, .ref (ad B 2)), (1, .int a1), (2, .int a2)]) C hnl rfl (by decide) rfl d_Host_tellCommand_7 ?_
  refine z_iload_n C 3 rfl rfl d_Host_tellCommand_8 ?_
  refine z_if_lt (tgt := 26) C d_Host_tellCommand_9 rfl (fun c => ?_) (fun c => ?_)
  · have h := h.1 c
    exact z_sub [1, 2, 0] rfl (vj_Host_tellCommand_26 C a1 a2 P G hr hnl S2 r3 h)
  · have h := h.2 c
    refine z_iload_n C 3 rfl rfl d_Host_tellCommand_12 ?_
    refine z_iload_n C 0 rfl rfl d_Host_tellCommand_13 ?_
    refine z_iconst (v := (1 : Int32)) C rfl d_Host_tellCommand_14 ?_
    refine z_iadd C d_Host_tellCommand_15 ?_
    refine z_icmp_ge (tgt := 26) C d_Host_tellCommand_16 rfl (fun c => ?_) (fun c => ?_)
    · have h := h.1 c
      exact z_sub [1, 2, 0] rfl (vj_Host_tellCommand_26 C a1 a2 P G hr hnl S2 r3 h)
    · have h := h.2 c
      refine z_aload_n C 1 rfl rfl d_Host_tellCommand_19 ?_
      refine z_bipush (v := (22 : Int32)) C rfl d_Host_tellCommand_20 ?_
      refine z_callVi (rest := []) C q_Host_fail tw_752 (c_Host_fail _ B (22 : Int32) S2 _ h) rc_Host ⟨Nat.le_of_ble_eq_true rfl, Nat.le_of_ble_eq_true rfl⟩ rfl rfl (Nat.le_of_ble_eq_true rfl) d_Host_tellCommand_22 (fun S4 r5 h => ?_)
      exact z_ireturn C G hr h d_Host_tellCommand_25
theorem c_Host_tellCommand (l : Launch) (B : zK) (a1 : Int32) (a2 : Int32) (S : zS) (P : zS → Int32 → Prop) (h : w_Host_tellCommand a1 a2 S P) : Met l y_Host_tellCommand (Cond.code y_Host_tellCommand prog_7_method_26_code 4 (some FieldType.int) :: tT) (zRm 2 48) (zPc (wC B) [.ref (ad B 2), .int a1, .int a2] S) (zQ (wC B) (zPi P)) 0 0 (wC B).2.2.2 :=
  z_met (by decide) (Nat.le_of_ble_eq_true rfl) (fun E C G hr _ hnl => v_Host_tellCommand C a1 a2 P G hr hnl S h)
theorem q_Host_tellCommand : zQw y_Host_tellCommand prog_7_method_26_code 4 (some FieldType.int) 2 := ⟨tw_897, tw_32, tw_79, tw_898, by decide +kernel⟩
def j_Host_tellHeap_23 (a1 : Int32) (P : zS → Int32 → Prop) (S : zS) : Prop :=
  w_Host_fail (14 : Int32) S (fun S1 r2 => P S1 r2)
set_option maxRecDepth 20000 in
set_option maxHeartbeats 4000000 in
theorem vj_Host_tellHeap_23 {E : zE} {B : zK} (C : zC E (wC B) prog_7_method_27_code "HostBench$Host" 2 45) (a1 : Int32) (P : zS → Int32 → Prop) (G : zGoal E (zQ (wC B) (zPi P)) (wC B)) (hr : zRt E (some .int)) (hnl : E.2.2.2.2.2.2.2.2.2.2.1 = 3) (S : zS) (h : j_Host_tellHeap_23 a1 P S) : zV E (wC B) S 23 [(0, .ref (ad B 2))] [] := by
  unfold j_Host_tellHeap_23 at h
  refine z_aload_n C 0 rfl rfl d_Host_tellHeap_23 ?_
  refine z_bipush (v := (14 : Int32)) C rfl d_Host_tellHeap_24 ?_
  refine z_callVi (rest := []) C q_Host_fail tw_752 (c_Host_fail _ B (14 : Int32) S _ h) rc_Host ⟨Nat.le_of_ble_eq_true rfl, Nat.le_of_ble_eq_true rfl⟩ rfl rfl (Nat.le_of_ble_eq_true rfl) d_Host_tellHeap_26 (fun S1 r2 h => ?_)
  exact z_ireturn C G hr h d_Host_tellHeap_29
def l_Host_tellHeap_32 (a1 : Int32) (P : zS → Int32 → Prop) : Nat → zS → Int32 → Prop
  | 0, _, _ => False
  | n + 1, S, x2 =>
  ((4 : Int32) ≤ x2 → (P S (0 : Int32))) ∧ (¬ (4 : Int32) ≤ x2 → (vp_in x2 4 ∧ w_Memory_storeWord (a1 + ((4 : Int32) * x2)) (zHp x2.toNatClampNeg) S (fun S4 => l_Host_tellHeap_32 a1 P n S4 (x2 + (1 : Int32)))))
set_option maxRecDepth 20000 in
set_option maxHeartbeats 4000000 in
theorem vl_Host_tellHeap_32 {E : zE} {B : zK} (C : zC E (wC B) prog_7_method_27_code "HostBench$Host" 2 45) (a1 : Int32) (P : zS → Int32 → Prop) (G : zGoal E (zQ (wC B) (zPi P)) (wC B)) (hr : zRt E (some .int)) (hnl : E.2.2.2.2.2.2.2.2.2.2.1 = 3) : ∀ (n : Nat) (S : zS) (x2 : Int32) , l_Host_tellHeap_32 a1 P n S x2 → zV E (wC B) S 32 [(0, .ref (ad B 2)), (1, .int a1), (2, .int x2)] [] := by
  intro n
  induction n with
  | zero => intro S x2 h; exact h.elim
  | succ n ih =>
    intro S x2 h
    unfold l_Host_tellHeap_32 at h
    refine z_iload_n C 2 rfl rfl d_Host_tellHeap_32 ?_
    refine z_getHp C tw_908 d_Host_tellHeap_33 (fun t1 ht1 => ?_)
    refine z_lenHp C ht1 d_Host_tellHeap_36 ?_
    refine z_icmp_ge (tgt := 63) C d_Host_tellHeap_37 rfl (fun c => ?_) (fun c => ?_)
    · have h := h.1 c
      refine z_iconst (v := (0 : Int32)) C rfl d_Host_tellHeap_63 ?_
      exact z_ireturn C G hr h d_Host_tellHeap_64
    · have h := h.2 c
      refine z_aload_n C 0 rfl rfl d_Host_tellHeap_40 ?_
      refine gf_Host_memory C (Or.inl tw_274) d_Host_tellHeap_41 ?_
      refine z_iload_n C 1 rfl rfl d_Host_tellHeap_44 ?_
      refine z_iconst (v := (4 : Int32)) C rfl d_Host_tellHeap_45 ?_
      refine z_iload_n C 2 rfl rfl d_Host_tellHeap_46 ?_
      refine z_imul C d_Host_tellHeap_47 ?_
      refine z_iadd C d_Host_tellHeap_48 ?_
      refine z_getHp C tw_908 d_Host_tellHeap_49 (fun t2 ht2 => ?_)
      refine z_iload_n C 2 rfl rfl d_Host_tellHeap_52 ?_
      obtain ⟨f3, h⟩ := h
      refine z_aldHp C ht2 f3 d_Host_tellHeap_53 ?_
      refine z_callVv (rest := []) C q_Memory_storeWord tw_899 (c_Memory_storeWord _ B (a1 + ((4 : Int32) * x2)) (zHp x2.toNatClampNeg) S _ h) rc_Memory ⟨Nat.le_of_ble_eq_true rfl, Nat.le_of_ble_eq_true rfl⟩ rfl rfl (Nat.le_of_ble_eq_true rfl) d_Host_tellHeap_54 (fun S4 h => ?_)
      refine z_iinc (v := x2 + (1 : Int32)) (L' := [(2, .int (x2 + (1 : Int32))), (0, .ref (ad B 2)), (1, .int a1)]) C hnl 2 rfl rfl (by decide) rfl d_Host_tellHeap_57 ?_
      refine z_goto (tgt := 32) C d_Host_tellHeap_60 rfl ?_
      exact z_sub [1, 2, 0] rfl (ih S4 (x2 + (1 : Int32)) h)
def w_Host_tellHeap (a1 : Int32) (S : zS) (P : zS → Int32 → Prop) : Prop :=
  ((a1 &&& (3 : Int32)) = 0 → (w_Memory_hasArea a1 ((4 : Int32) * (4 : Int32)) S (fun S2 r3 => (r3 = 0 → (j_Host_tellHeap_23 a1 P S2)) ∧ (¬ r3 = 0 → (∃ n4 : Nat, l_Host_tellHeap_32 a1 P n4 S2 (0 : Int32)))))) ∧ (¬ (a1 &&& (3 : Int32)) = 0 → (j_Host_tellHeap_23 a1 P S))
set_option maxRecDepth 20000 in
set_option maxHeartbeats 4000000 in
theorem v_Host_tellHeap {E : zE} {B : zK} (C : zC E (wC B) prog_7_method_27_code "HostBench$Host" 2 45) (a1 : Int32) (P : zS → Int32 → Prop) (G : zGoal E (zQ (wC B) (zPi P)) (wC B)) (hr : zRt E (some .int)) (hnl : E.2.2.2.2.2.2.2.2.2.2.1 = 3) (S : zS) (h : w_Host_tellHeap a1 S P) : zV E (wC B) S 0 [(0, .ref (ad B 2)), (1, .int a1)] [] := by
  unfold w_Host_tellHeap at h
  refine z_iload_n C 1 rfl rfl d_Host_tellHeap_0 ?_
  refine z_iconst (v := (3 : Int32)) C rfl d_Host_tellHeap_1 ?_
  refine z_iand C d_Host_tellHeap_2 ?_
  refine z_if_ne (tgt := 23) C d_Host_tellHeap_3 rfl (fun c => ?_) (fun c => ?_)
  · have h := h.2 c
    exact z_sub [0] rfl (vj_Host_tellHeap_23 C a1 P G hr hnl S h)
  · have h := h.1 c
    refine z_aload_n C 0 rfl rfl d_Host_tellHeap_6 ?_
    refine gf_Host_memory C (Or.inl tw_274) d_Host_tellHeap_7 ?_
    refine z_iload_n C 1 rfl rfl d_Host_tellHeap_10 ?_
    refine z_iconst (v := (4 : Int32)) C rfl d_Host_tellHeap_11 ?_
    refine z_getHp C tw_908 d_Host_tellHeap_12 (fun t1 ht1 => ?_)
    refine z_lenHp C ht1 d_Host_tellHeap_15 ?_
    refine z_imul C d_Host_tellHeap_16 ?_
    refine z_callVi (rest := []) C q_Memory_hasArea tw_738 (c_Memory_hasArea _ B a1 ((4 : Int32) * (4 : Int32)) S _ h) rc_Memory ⟨Nat.le_of_ble_eq_true rfl, Nat.le_of_ble_eq_true rfl⟩ rfl rfl (Nat.le_of_ble_eq_true rfl) d_Host_tellHeap_17 (fun S2 r3 h => ?_)
    refine z_if_ne (tgt := 30) C d_Host_tellHeap_20 rfl (fun c => ?_) (fun c => ?_)
    · have h := h.2 c
      refine z_iconst (v := (0 : Int32)) C rfl d_Host_tellHeap_30 ?_
      refine z_istore_n (L' := [(2, .int (0 : Int32)), (0, .ref (ad B 2)), (1, .int a1)]) C hnl rfl (by decide) rfl d_Host_tellHeap_31 ?_
      obtain ⟨n4, h⟩ := h
      exact z_sub [1, 2, 0] rfl (vl_Host_tellHeap_32 C a1 P G hr hnl n4 S2 (0 : Int32) h)
    · have h := h.1 c
      exact z_sub [0] rfl (vj_Host_tellHeap_23 C a1 P G hr hnl S2 h)
theorem c_Host_tellHeap (l : Launch) (B : zK) (a1 : Int32) (S : zS) (P : zS → Int32 → Prop) (h : w_Host_tellHeap a1 S P) : Met l y_Host_tellHeap (Cond.code y_Host_tellHeap prog_7_method_27_code 3 (some FieldType.int) :: tT) (zRm 2 45) (zPc (wC B) [.ref (ad B 2), .int a1] S) (zQ (wC B) (zPi P)) 0 0 (wC B).2.2.2 :=
  z_met (by decide) (Nat.le_of_ble_eq_true rfl) (fun E C G hr _ hnl => v_Host_tellHeap C a1 P G hr hnl S h)
theorem q_Host_tellHeap : zQw y_Host_tellHeap prog_7_method_27_code 3 (some FieldType.int) 1 := ⟨tw_906, tw_33, tw_79, tw_907, by decide +kernel⟩
def j_Host_exit_16 (a1 : Int32) (a2 : Int32) (P : zS → Int32 → Prop) (S : zS) (s1 : Int32) : Prop :=
  w_Guest_exit s1 S (fun S1 => P S1 (0 : Int32))
set_option maxRecDepth 20000 in
set_option maxHeartbeats 4000000 in
theorem vj_Host_exit_16 {E : zE} {B : zK} (C : zC E (wC B) prog_7_method_28_code "HostBench$Host" 1 21) (a1 : Int32) (a2 : Int32) (P : zS → Int32 → Prop) (G : zGoal E (zQ (wC B) (zPi P)) (wC B)) (hr : zRt E (some .int)) (hnl : E.2.2.2.2.2.2.2.2.2.2.1 = 3) (S : zS) (s1 : Int32) (h : j_Host_exit_16 a1 a2 P S s1) : zV E (wC B) S 16 [] [.int s1, .ref (ad B 3)] := by
  unfold j_Host_exit_16 at h
  refine z_callVv (rest := []) C q_Guest_exit tw_915 (c_Guest_exit _ B s1 S _ h) rc_Guest ⟨Nat.le_of_ble_eq_true rfl, Nat.le_of_ble_eq_true rfl⟩ rfl rfl (Nat.le_of_ble_eq_true rfl) d_Host_exit_16 (fun S1 h => ?_)
  refine z_iconst (v := (0 : Int32)) C rfl d_Host_exit_19 ?_
  exact z_ireturn C G hr h d_Host_exit_20
def w_Host_exit (a1 : Int32) (a2 : Int32) (S : zS) (P : zS → Int32 → Prop) : Prop :=
  (a1 = (131110 : Int32) → (j_Host_exit_16 a1 a2 P S a2)) ∧ (¬ a1 = (131110 : Int32) → (j_Host_exit_16 a1 a2 P S (1 : Int32)))
set_option maxRecDepth 20000 in
set_option maxHeartbeats 4000000 in
theorem v_Host_exit {E : zE} {B : zK} (C : zC E (wC B) prog_7_method_28_code "HostBench$Host" 1 21) (a1 : Int32) (a2 : Int32) (P : zS → Int32 → Prop) (G : zGoal E (zQ (wC B) (zPi P)) (wC B)) (hr : zRt E (some .int)) (hnl : E.2.2.2.2.2.2.2.2.2.2.1 = 3) (S : zS) (h : w_Host_exit a1 a2 S P) : zV E (wC B) S 0 [(0, .ref (ad B 2)), (1, .int a1), (2, .int a2)] [] := by
  unfold w_Host_exit at h
  refine z_aload_n C 0 rfl rfl d_Host_exit_0 ?_
  refine gf_Host_guest C (Or.inl tw_272) d_Host_exit_1 ?_
  refine z_iload_n C 1 rfl rfl d_Host_exit_4 ?_
  refine z_ldc_w (v := (131110 : Int32)) C tw_914 d_Host_exit_5 ?_
  refine z_icmp_ne (tgt := 15) C d_Host_exit_8 rfl (fun c => ?_) (fun c => ?_)
  · have h := h.2 c
    refine z_iconst (v := (1 : Int32)) C rfl d_Host_exit_15 ?_
    exact z_sub [] rfl (vj_Host_exit_16 C a1 a2 P G hr hnl S (1 : Int32) h)
  · have h := h.1 c
    refine z_iload_n C 2 rfl rfl d_Host_exit_11 ?_
    refine z_goto (tgt := 16) C d_Host_exit_12 rfl ?_
    exact z_sub [] rfl (vj_Host_exit_16 C a1 a2 P G hr hnl S a2 h)
theorem c_Host_exit (l : Launch) (B : zK) (a1 : Int32) (a2 : Int32) (S : zS) (P : zS → Int32 → Prop) (h : w_Host_exit a1 a2 S P) : Met l y_Host_exit (Cond.code y_Host_exit prog_7_method_28_code 3 (some FieldType.int) :: tT) (zRm 1 21) (zPc (wC B) [.ref (ad B 2), .int a1, .int a2] S) (zQ (wC B) (zPi P)) 0 0 (wC B).2.2.2 :=
  z_met (by decide) (Nat.le_of_ble_eq_true rfl) (fun E C G hr _ hnl => v_Host_exit C a1 a2 P G hr hnl S h)
theorem q_Host_exit : zQw y_Host_exit prog_7_method_28_code 3 (some FieldType.int) 2 := ⟨tw_912, tw_34, tw_79, tw_913, by decide +kernel⟩
def j_Host_tellSteps_25 (P : zS → Int32 → Prop) (S : zS) : Prop :=
  w_Host_fail (14 : Int32) S (fun S1 r2 => P S1 r2)
set_option maxRecDepth 20000 in
set_option maxHeartbeats 4000000 in
theorem vj_Host_tellSteps_25 {E : zE} {B : zK} (C : zC E (wC B) prog_7_method_29_code "HostBench$Host" 2 45) (P : zS → Int32 → Prop) (G : zGoal E (zQ (wC B) (zPi P)) (wC B)) (hr : zRt E (some .int)) (hnl : E.2.2.2.2.2.2.2.2.2.2.1 = 1) (S : zS) (h : j_Host_tellSteps_25 P S) : zV E (wC B) S 25 [(0, .ref (ad B 2))] [] := by
  unfold j_Host_tellSteps_25 at h
  refine z_aload_n C 0 rfl rfl d_Host_tellSteps_25 ?_
  refine z_bipush (v := (14 : Int32)) C rfl d_Host_tellSteps_26 ?_
  refine z_callVi (rest := []) C q_Host_fail tw_752 (c_Host_fail _ B (14 : Int32) S _ h) rc_Host ⟨Nat.le_of_ble_eq_true rfl, Nat.le_of_ble_eq_true rfl⟩ rfl rfl (Nat.le_of_ble_eq_true rfl) d_Host_tellSteps_28 (fun S1 r2 h => ?_)
  exact z_ireturn C G hr h d_Host_tellSteps_31
def w_Host_tellSteps (S : zS) (P : zS → Int32 → Prop) : Prop :=
  (((gM S 0 5) &&& (3 : Int32)) = 0 → (w_Memory_hasArea (gM S 0 5) (8 : Int32) S (fun S1 r2 => (r2 = 0 → (j_Host_tellSteps_25 P S1)) ∧ (¬ r2 = 0 → (w_Memory_storeWord (gM S1 0 5) ((gJ S1).toInt32) S1 (fun S3 => w_Memory_storeWord ((gM S3 0 5) + (4 : Int32)) ((((gJ S3).toUInt64 >>> ((32 : Int32).toInt64.toUInt64 &&& Int64.toUInt64 63)).toInt64).toInt32) S3 (fun S4 => P S4 (0 : Int32)))))))) ∧ (¬ ((gM S 0 5) &&& (3 : Int32)) = 0 → (j_Host_tellSteps_25 P S))
set_option maxRecDepth 20000 in
set_option maxHeartbeats 4000000 in
theorem v_Host_tellSteps {E : zE} {B : zK} (C : zC E (wC B) prog_7_method_29_code "HostBench$Host" 2 45) (P : zS → Int32 → Prop) (G : zGoal E (zQ (wC B) (zPi P)) (wC B)) (hr : zRt E (some .int)) (hnl : E.2.2.2.2.2.2.2.2.2.2.1 = 1) (S : zS) (h : w_Host_tellSteps S P) : zV E (wC B) S 0 [(0, .ref (ad B 2))] [] := by
  unfold w_Host_tellSteps at h
  refine z_aload_n C 0 rfl rfl d_Host_tellSteps_0 ?_
  refine gf_Host_block C (Or.inl tw_289) d_Host_tellSteps_1 ?_
  refine z_iconst (v := (3 : Int32)) C rfl d_Host_tellSteps_4 ?_
  refine z_iand C d_Host_tellSteps_5 ?_
  refine z_if_ne (tgt := 25) C d_Host_tellSteps_6 rfl (fun c => ?_) (fun c => ?_)
  · have h := h.2 c
    exact z_sub [0] rfl (vj_Host_tellSteps_25 C P G hr hnl S h)
  · have h := h.1 c
    refine z_aload_n C 0 rfl rfl d_Host_tellSteps_9 ?_
    refine gf_Host_memory C (Or.inl tw_274) d_Host_tellSteps_10 ?_
    refine z_aload_n C 0 rfl rfl d_Host_tellSteps_13 ?_
    refine gf_Host_block C (Or.inl tw_289) d_Host_tellSteps_14 ?_
    refine z_bipush (v := (8 : Int32)) C rfl d_Host_tellSteps_17 ?_
    refine z_callVi (rest := []) C q_Memory_hasArea tw_738 (c_Memory_hasArea _ B (gM S 0 5) (8 : Int32) S _ h) rc_Memory ⟨Nat.le_of_ble_eq_true rfl, Nat.le_of_ble_eq_true rfl⟩ rfl rfl (Nat.le_of_ble_eq_true rfl) d_Host_tellSteps_19 (fun S1 r2 h => ?_)
    refine z_if_ne (tgt := 32) C d_Host_tellSteps_22 rfl (fun c => ?_) (fun c => ?_)
    · have h := h.2 c
      refine z_aload_n C 0 rfl rfl d_Host_tellSteps_32 ?_
      refine gf_Host_memory C (Or.inl tw_274) d_Host_tellSteps_33 ?_
      refine z_aload_n C 0 rfl rfl d_Host_tellSteps_36 ?_
      refine gf_Host_block C (Or.inl tw_289) d_Host_tellSteps_37 ?_
      refine z_aload_n C 0 rfl rfl d_Host_tellSteps_40 ?_
      refine gf_Host_guest C (Or.inl tw_272) d_Host_tellSteps_41 ?_
      refine gf_Guest_steps C (Or.inr (List.mem_of_getElem? (i := 7) rfl)) d_Host_tellSteps_44 ?_
      refine z_l2i C d_Host_tellSteps_47 ?_
      refine z_callVv (rest := []) C q_Memory_storeWord tw_899 (c_Memory_storeWord _ B (gM S1 0 5) ((gJ S1).toInt32) S1 _ h) rc_Memory ⟨Nat.le_of_ble_eq_true rfl, Nat.le_of_ble_eq_true rfl⟩ rfl rfl (Nat.le_of_ble_eq_true rfl) d_Host_tellSteps_48 (fun S3 h => ?_)
      refine z_aload_n C 0 rfl rfl d_Host_tellSteps_51 ?_
      refine gf_Host_memory C (Or.inl tw_274) d_Host_tellSteps_52 ?_
      refine z_aload_n C 0 rfl rfl d_Host_tellSteps_55 ?_
      refine gf_Host_block C (Or.inl tw_289) d_Host_tellSteps_56 ?_
      refine z_iconst (v := (4 : Int32)) C rfl d_Host_tellSteps_59 ?_
      refine z_iadd C d_Host_tellSteps_60 ?_
      refine z_aload_n C 0 rfl rfl d_Host_tellSteps_61 ?_
      refine gf_Host_guest C (Or.inl tw_272) d_Host_tellSteps_62 ?_
      refine gf_Guest_steps C (Or.inr (List.mem_of_getElem? (i := 7) rfl)) d_Host_tellSteps_65 ?_
      refine z_bipush (v := (32 : Int32)) C rfl d_Host_tellSteps_68 ?_
      refine z_lushr C d_Host_tellSteps_70 ?_
      refine z_l2i C d_Host_tellSteps_71 ?_
      refine z_callVv (rest := []) C q_Memory_storeWord tw_899 (c_Memory_storeWord _ B ((gM S3 0 5) + (4 : Int32)) ((((gJ S3).toUInt64 >>> ((32 : Int32).toInt64.toUInt64 &&& Int64.toUInt64 63)).toInt64).toInt32) S3 _ h) rc_Memory ⟨Nat.le_of_ble_eq_true rfl, Nat.le_of_ble_eq_true rfl⟩ rfl rfl (Nat.le_of_ble_eq_true rfl) d_Host_tellSteps_72 (fun S4 h => ?_)
      refine z_iconst (v := (0 : Int32)) C rfl d_Host_tellSteps_75 ?_
      exact z_ireturn C G hr h d_Host_tellSteps_76
    · have h := h.1 c
      exact z_sub [0] rfl (vj_Host_tellSteps_25 C P G hr hnl S1 h)
theorem c_Host_tellSteps (l : Launch) (B : zK) (S : zS) (P : zS → Int32 → Prop) (h : w_Host_tellSteps S P) : Met l y_Host_tellSteps (Cond.code y_Host_tellSteps prog_7_method_29_code 1 (some FieldType.int) :: tT) (zRm 2 45) (zPc (wC B) [.ref (ad B 2)] S) (zQ (wC B) (zPi P)) 0 0 (wC B).2.2.2 :=
  z_met (by decide) (Nat.le_of_ble_eq_true rfl) (fun E C G hr _ hnl => v_Host_tellSteps C P G hr hnl S h)
theorem q_Host_tellSteps : zQw y_Host_tellSteps prog_7_method_29_code 1 (some FieldType.int) 0 := ⟨tw_921, tw_35, tw_79, tw_922, by decide +kernel⟩
def w_Host_performOther (a1 : Int32) (S : zS) (P : zS → Int32 → Prop) : Prop :=
  (a1 = (16 : Int32) → (P S ((((gJ S) &&& (4294967295 : Int64)) / (100 : Int64)).toInt32))) ∧ (¬ a1 = (16 : Int32) → ((a1 = (17 : Int32) → (P S (gM S 0 7))) ∧ (¬ a1 = (17 : Int32) → ((a1 = (19 : Int32) → (P S (gM S 0 6))) ∧ (¬ a1 = (19 : Int32) → ((a1 = (21 : Int32) → (w_Host_field (0 : Int32) S (fun S3 r4 => w_Host_field (1 : Int32) S3 (fun S5 r6 => w_Host_tellCommand r4 r6 S5 (fun S7 r8 => P S7 r8))))) ∧ (¬ a1 = (21 : Int32) → ((a1 = (22 : Int32) → (w_Host_field (0 : Int32) S (fun S9 r10 => w_Host_tellHeap r10 S9 (fun S11 r12 => P S11 r12)))) ∧ (¬ a1 = (22 : Int32) → ((a1 = (24 : Int32) → (w_Host_exit (gM S 0 5) (0 : Int32) S (fun S13 r14 => P S13 r14))) ∧ (¬ a1 = (24 : Int32) → ((a1 = (32 : Int32) → (w_Host_field (0 : Int32) S (fun S15 r16 => w_Host_field (1 : Int32) S15 (fun S17 r18 => w_Host_exit r16 r18 S17 (fun S19 r20 => P S19 r20))))) ∧ (¬ a1 = (32 : Int32) → ((a1 = (48 : Int32) → (w_Host_tellSteps S (fun S21 r22 => P S21 r22))) ∧ (¬ a1 = (48 : Int32) → ((a1 = (49 : Int32) → (P S (1000 : Int32))) ∧ (¬ a1 = (49 : Int32) → (w_Host_fail (38 : Int32) S (fun S1 r2 => P S1 r2)))))))))))))))))))
set_option maxRecDepth 20000 in
set_option maxHeartbeats 4000000 in
theorem v_Host_performOther {E : zE} {B : zK} (C : zC E (wC B) prog_7_method_8_code "HostBench$Host" 3 71) (a1 : Int32) (P : zS → Int32 → Prop) (G : zGoal E (zQ (wC B) (zPi P)) (wC B)) (hr : zRt E (some .int)) (hnl : E.2.2.2.2.2.2.2.2.2.2.1 = 2) (S : zS) (h : w_Host_performOther a1 S P) : zV E (wC B) S 0 [(0, .ref (ad B 2)), (1, .int a1)] [] := by
  unfold w_Host_performOther at h
  refine z_iload_n C 1 rfl rfl d_Host_performOther_0 ?_
  by_cases c0 : a1 = (16 : Int32)
  · have h := h.1 c0
    refine z_tableIn (off := 151) (tgt := 152) C d_Host_performOther_1 c0 (by decide) rfl rfl ?_
    refine z_aload_n C 0 rfl rfl d_Host_performOther_152 ?_
    refine gf_Host_guest C (Or.inl tw_272) d_Host_performOther_153 ?_
    refine gf_Guest_steps C (Or.inr (List.mem_of_getElem? (i := 7) rfl)) d_Host_performOther_156 ?_
    refine z_ldc2 (v := (4294967295 : Int64)) C tw_893 d_Host_performOther_159 ?_
    refine z_land C d_Host_performOther_162 ?_
    refine z_ldc2 (v := (100 : Int64)) C tw_894 d_Host_performOther_163 ?_
    refine z_ldiv C (by decide) d_Host_performOther_166 ?_
    refine z_l2i C d_Host_performOther_167 ?_
    exact z_ireturn C G hr h d_Host_performOther_168
  · have h := h.2 c0
    by_cases c1 : a1 = (17 : Int32)
    · have h := h.1 c1
      refine z_tableIn (off := 168) (tgt := 169) C d_Host_performOther_1 c1 (by decide) rfl rfl ?_
      refine z_aload_n C 0 rfl rfl d_Host_performOther_169 ?_
      refine gf_Host_seconds C (Or.inl tw_292) d_Host_performOther_170 ?_
      exact z_ireturn C G hr h d_Host_performOther_173
    · have h := h.2 c1
      by_cases c2 : a1 = (19 : Int32)
      · have h := h.1 c2
        refine z_tableIn (off := 173) (tgt := 174) C d_Host_performOther_1 c2 (by decide) rfl rfl ?_
        refine z_aload_n C 0 rfl rfl d_Host_performOther_174 ?_
        refine gf_Host_errno C (Or.inl tw_290) d_Host_performOther_175 ?_
        exact z_ireturn C G hr h d_Host_performOther_178
      · have h := h.2 c2
        by_cases c3 : a1 = (21 : Int32)
        · have h := h.1 c3
          refine z_tableIn (off := 178) (tgt := 179) C d_Host_performOther_1 c3 (by decide) rfl rfl ?_
          refine z_aload_n C 0 rfl rfl d_Host_performOther_179 ?_
          refine z_aload_n C 0 rfl rfl d_Host_performOther_180 ?_
          refine z_iconst (v := (0 : Int32)) C rfl d_Host_performOther_181 ?_
          refine z_callVi (rest := [.ref (ad B 2)]) C q_Host_field tw_743 (c_Host_field _ B (0 : Int32) S _ h) rc_Host ⟨Nat.le_of_ble_eq_true rfl, Nat.le_of_ble_eq_true rfl⟩ rfl rfl (Nat.le_of_ble_eq_true rfl) d_Host_performOther_182 (fun S3 r4 h => ?_)
          refine z_aload_n C 0 rfl rfl d_Host_performOther_185 ?_
          refine z_iconst (v := (1 : Int32)) C rfl d_Host_performOther_186 ?_
          refine z_callVi (rest := [.int r4, .ref (ad B 2)]) C q_Host_field tw_743 (c_Host_field _ B (1 : Int32) S3 _ h) rc_Host ⟨Nat.le_of_ble_eq_true rfl, Nat.le_of_ble_eq_true rfl⟩ rfl rfl (Nat.le_of_ble_eq_true rfl) d_Host_performOther_187 (fun S5 r6 h => ?_)
          refine z_callVi (rest := []) C q_Host_tellCommand tw_895 (c_Host_tellCommand _ B r4 r6 S5 _ h) rc_Host ⟨Nat.le_of_ble_eq_true rfl, Nat.le_of_ble_eq_true rfl⟩ rfl rfl (Nat.le_of_ble_eq_true rfl) d_Host_performOther_190 (fun S7 r8 h => ?_)
          exact z_ireturn C G hr h d_Host_performOther_193
        · have h := h.2 c3
          by_cases c4 : a1 = (22 : Int32)
          · have h := h.1 c4
            refine z_tableIn (off := 193) (tgt := 194) C d_Host_performOther_1 c4 (by decide) rfl rfl ?_
            refine z_aload_n C 0 rfl rfl d_Host_performOther_194 ?_
            refine z_aload_n C 0 rfl rfl d_Host_performOther_195 ?_
            refine z_iconst (v := (0 : Int32)) C rfl d_Host_performOther_196 ?_
            refine z_callVi (rest := [.ref (ad B 2)]) C q_Host_field tw_743 (c_Host_field _ B (0 : Int32) S _ h) rc_Host ⟨Nat.le_of_ble_eq_true rfl, Nat.le_of_ble_eq_true rfl⟩ rfl rfl (Nat.le_of_ble_eq_true rfl) d_Host_performOther_197 (fun S9 r10 h => ?_)
            refine z_callVi (rest := []) C q_Host_tellHeap tw_904 (c_Host_tellHeap _ B r10 S9 _ h) rc_Host ⟨Nat.le_of_ble_eq_true rfl, Nat.le_of_ble_eq_true rfl⟩ rfl rfl (Nat.le_of_ble_eq_true rfl) d_Host_performOther_200 (fun S11 r12 h => ?_)
            exact z_ireturn C G hr h d_Host_performOther_203
          · have h := h.2 c4
            by_cases c5 : a1 = (24 : Int32)
            · have h := h.1 c5
              refine z_tableIn (off := 203) (tgt := 204) C d_Host_performOther_1 c5 (by decide) rfl rfl ?_
              refine z_aload_n C 0 rfl rfl d_Host_performOther_204 ?_
              refine z_aload_n C 0 rfl rfl d_Host_performOther_205 ?_
              refine gf_Host_block C (Or.inl tw_289) d_Host_performOther_206 ?_
              refine z_iconst (v := (0 : Int32)) C rfl d_Host_performOther_209 ?_
              refine z_callVi (rest := []) C q_Host_exit tw_910 (c_Host_exit _ B (gM S 0 5) (0 : Int32) S _ h) rc_Host ⟨Nat.le_of_ble_eq_true rfl, Nat.le_of_ble_eq_true rfl⟩ rfl rfl (Nat.le_of_ble_eq_true rfl) d_Host_performOther_210 (fun S13 r14 h => ?_)
              exact z_ireturn C G hr h d_Host_performOther_213
            · have h := h.2 c5
              by_cases c6 : a1 = (32 : Int32)
              · have h := h.1 c6
                refine z_tableIn (off := 213) (tgt := 214) C d_Host_performOther_1 c6 (by decide) rfl rfl ?_
                refine z_aload_n C 0 rfl rfl d_Host_performOther_214 ?_
                refine z_aload_n C 0 rfl rfl d_Host_performOther_215 ?_
                refine z_iconst (v := (0 : Int32)) C rfl d_Host_performOther_216 ?_
                refine z_callVi (rest := [.ref (ad B 2)]) C q_Host_field tw_743 (c_Host_field _ B (0 : Int32) S _ h) rc_Host ⟨Nat.le_of_ble_eq_true rfl, Nat.le_of_ble_eq_true rfl⟩ rfl rfl (Nat.le_of_ble_eq_true rfl) d_Host_performOther_217 (fun S15 r16 h => ?_)
                refine z_aload_n C 0 rfl rfl d_Host_performOther_220 ?_
                refine z_iconst (v := (1 : Int32)) C rfl d_Host_performOther_221 ?_
                refine z_callVi (rest := [.int r16, .ref (ad B 2)]) C q_Host_field tw_743 (c_Host_field _ B (1 : Int32) S15 _ h) rc_Host ⟨Nat.le_of_ble_eq_true rfl, Nat.le_of_ble_eq_true rfl⟩ rfl rfl (Nat.le_of_ble_eq_true rfl) d_Host_performOther_222 (fun S17 r18 h => ?_)
                refine z_callVi (rest := []) C q_Host_exit tw_910 (c_Host_exit _ B r16 r18 S17 _ h) rc_Host ⟨Nat.le_of_ble_eq_true rfl, Nat.le_of_ble_eq_true rfl⟩ rfl rfl (Nat.le_of_ble_eq_true rfl) d_Host_performOther_225 (fun S19 r20 h => ?_)
                exact z_ireturn C G hr h d_Host_performOther_228
              · have h := h.2 c6
                by_cases c7 : a1 = (48 : Int32)
                · have h := h.1 c7
                  refine z_tableIn (off := 228) (tgt := 229) C d_Host_performOther_1 c7 (by decide) rfl rfl ?_
                  refine z_aload_n C 0 rfl rfl d_Host_performOther_229 ?_
                  refine z_callVi (rest := []) C q_Host_tellSteps tw_919 (c_Host_tellSteps _ B S _ h) rc_Host ⟨Nat.le_of_ble_eq_true rfl, Nat.le_of_ble_eq_true rfl⟩ rfl rfl (Nat.le_of_ble_eq_true rfl) d_Host_performOther_230 (fun S21 r22 h => ?_)
                  exact z_ireturn C G hr h d_Host_performOther_233
                · have h := h.2 c7
                  by_cases c8 : a1 = (49 : Int32)
                  · have h := h.1 c8
                    refine z_tableIn (off := 233) (tgt := 234) C d_Host_performOther_1 c8 (by decide) rfl rfl ?_
                    refine z_sipush (v := (1000 : Int32)) C rfl d_Host_performOther_234 ?_
                    exact z_ireturn C G hr h d_Host_performOther_237
                  · have h := h.2 c8
                    by_cases m18 : a1 = (18 : Int32)
                    · refine z_tableIn (off := 237) (tgt := 238) C d_Host_performOther_1 m18 (by decide) rfl rfl ?_
                      refine z_aload_n C 0 rfl rfl d_Host_performOther_238 ?_
                      refine z_bipush (v := (38 : Int32)) C rfl d_Host_performOther_239 ?_
                      refine z_callVi (rest := []) C q_Host_fail tw_752 (c_Host_fail _ B (38 : Int32) S _ h) rc_Host ⟨Nat.le_of_ble_eq_true rfl, Nat.le_of_ble_eq_true rfl⟩ rfl rfl (Nat.le_of_ble_eq_true rfl) d_Host_performOther_241 (fun S1 r2 h => ?_)
                      exact z_ireturn C G hr h d_Host_performOther_244
                    by_cases m20 : a1 = (20 : Int32)
                    · refine z_tableIn (off := 237) (tgt := 238) C d_Host_performOther_1 m20 (by decide) rfl rfl ?_
                      refine z_aload_n C 0 rfl rfl d_Host_performOther_238 ?_
                      refine z_bipush (v := (38 : Int32)) C rfl d_Host_performOther_239 ?_
                      refine z_callVi (rest := []) C q_Host_fail tw_752 (c_Host_fail _ B (38 : Int32) S _ h) rc_Host ⟨Nat.le_of_ble_eq_true rfl, Nat.le_of_ble_eq_true rfl⟩ rfl rfl (Nat.le_of_ble_eq_true rfl) d_Host_performOther_241 (fun S1 r2 h => ?_)
                      exact z_ireturn C G hr h d_Host_performOther_244
                    by_cases m23 : a1 = (23 : Int32)
                    · refine z_tableIn (off := 237) (tgt := 238) C d_Host_performOther_1 m23 (by decide) rfl rfl ?_
                      refine z_aload_n C 0 rfl rfl d_Host_performOther_238 ?_
                      refine z_bipush (v := (38 : Int32)) C rfl d_Host_performOther_239 ?_
                      refine z_callVi (rest := []) C q_Host_fail tw_752 (c_Host_fail _ B (38 : Int32) S _ h) rc_Host ⟨Nat.le_of_ble_eq_true rfl, Nat.le_of_ble_eq_true rfl⟩ rfl rfl (Nat.le_of_ble_eq_true rfl) d_Host_performOther_241 (fun S1 r2 h => ?_)
                      exact z_ireturn C G hr h d_Host_performOther_244
                    by_cases m25 : a1 = (25 : Int32)
                    · refine z_tableIn (off := 237) (tgt := 238) C d_Host_performOther_1 m25 (by decide) rfl rfl ?_
                      refine z_aload_n C 0 rfl rfl d_Host_performOther_238 ?_
                      refine z_bipush (v := (38 : Int32)) C rfl d_Host_performOther_239 ?_
                      refine z_callVi (rest := []) C q_Host_fail tw_752 (c_Host_fail _ B (38 : Int32) S _ h) rc_Host ⟨Nat.le_of_ble_eq_true rfl, Nat.le_of_ble_eq_true rfl⟩ rfl rfl (Nat.le_of_ble_eq_true rfl) d_Host_performOther_241 (fun S1 r2 h => ?_)
                      exact z_ireturn C G hr h d_Host_performOther_244
                    by_cases m26 : a1 = (26 : Int32)
                    · refine z_tableIn (off := 237) (tgt := 238) C d_Host_performOther_1 m26 (by decide) rfl rfl ?_
                      refine z_aload_n C 0 rfl rfl d_Host_performOther_238 ?_
                      refine z_bipush (v := (38 : Int32)) C rfl d_Host_performOther_239 ?_
                      refine z_callVi (rest := []) C q_Host_fail tw_752 (c_Host_fail _ B (38 : Int32) S _ h) rc_Host ⟨Nat.le_of_ble_eq_true rfl, Nat.le_of_ble_eq_true rfl⟩ rfl rfl (Nat.le_of_ble_eq_true rfl) d_Host_performOther_241 (fun S1 r2 h => ?_)
                      exact z_ireturn C G hr h d_Host_performOther_244
                    by_cases m27 : a1 = (27 : Int32)
                    · refine z_tableIn (off := 237) (tgt := 238) C d_Host_performOther_1 m27 (by decide) rfl rfl ?_
                      refine z_aload_n C 0 rfl rfl d_Host_performOther_238 ?_
                      refine z_bipush (v := (38 : Int32)) C rfl d_Host_performOther_239 ?_
                      refine z_callVi (rest := []) C q_Host_fail tw_752 (c_Host_fail _ B (38 : Int32) S _ h) rc_Host ⟨Nat.le_of_ble_eq_true rfl, Nat.le_of_ble_eq_true rfl⟩ rfl rfl (Nat.le_of_ble_eq_true rfl) d_Host_performOther_241 (fun S1 r2 h => ?_)
                      exact z_ireturn C G hr h d_Host_performOther_244
                    by_cases m28 : a1 = (28 : Int32)
                    · refine z_tableIn (off := 237) (tgt := 238) C d_Host_performOther_1 m28 (by decide) rfl rfl ?_
                      refine z_aload_n C 0 rfl rfl d_Host_performOther_238 ?_
                      refine z_bipush (v := (38 : Int32)) C rfl d_Host_performOther_239 ?_
                      refine z_callVi (rest := []) C q_Host_fail tw_752 (c_Host_fail _ B (38 : Int32) S _ h) rc_Host ⟨Nat.le_of_ble_eq_true rfl, Nat.le_of_ble_eq_true rfl⟩ rfl rfl (Nat.le_of_ble_eq_true rfl) d_Host_performOther_241 (fun S1 r2 h => ?_)
                      exact z_ireturn C G hr h d_Host_performOther_244
                    by_cases m29 : a1 = (29 : Int32)
                    · refine z_tableIn (off := 237) (tgt := 238) C d_Host_performOther_1 m29 (by decide) rfl rfl ?_
                      refine z_aload_n C 0 rfl rfl d_Host_performOther_238 ?_
                      refine z_bipush (v := (38 : Int32)) C rfl d_Host_performOther_239 ?_
                      refine z_callVi (rest := []) C q_Host_fail tw_752 (c_Host_fail _ B (38 : Int32) S _ h) rc_Host ⟨Nat.le_of_ble_eq_true rfl, Nat.le_of_ble_eq_true rfl⟩ rfl rfl (Nat.le_of_ble_eq_true rfl) d_Host_performOther_241 (fun S1 r2 h => ?_)
                      exact z_ireturn C G hr h d_Host_performOther_244
                    by_cases m30 : a1 = (30 : Int32)
                    · refine z_tableIn (off := 237) (tgt := 238) C d_Host_performOther_1 m30 (by decide) rfl rfl ?_
                      refine z_aload_n C 0 rfl rfl d_Host_performOther_238 ?_
                      refine z_bipush (v := (38 : Int32)) C rfl d_Host_performOther_239 ?_
                      refine z_callVi (rest := []) C q_Host_fail tw_752 (c_Host_fail _ B (38 : Int32) S _ h) rc_Host ⟨Nat.le_of_ble_eq_true rfl, Nat.le_of_ble_eq_true rfl⟩ rfl rfl (Nat.le_of_ble_eq_true rfl) d_Host_performOther_241 (fun S1 r2 h => ?_)
                      exact z_ireturn C G hr h d_Host_performOther_244
                    by_cases m31 : a1 = (31 : Int32)
                    · refine z_tableIn (off := 237) (tgt := 238) C d_Host_performOther_1 m31 (by decide) rfl rfl ?_
                      refine z_aload_n C 0 rfl rfl d_Host_performOther_238 ?_
                      refine z_bipush (v := (38 : Int32)) C rfl d_Host_performOther_239 ?_
                      refine z_callVi (rest := []) C q_Host_fail tw_752 (c_Host_fail _ B (38 : Int32) S _ h) rc_Host ⟨Nat.le_of_ble_eq_true rfl, Nat.le_of_ble_eq_true rfl⟩ rfl rfl (Nat.le_of_ble_eq_true rfl) d_Host_performOther_241 (fun S1 r2 h => ?_)
                      exact z_ireturn C G hr h d_Host_performOther_244
                    by_cases m33 : a1 = (33 : Int32)
                    · refine z_tableIn (off := 237) (tgt := 238) C d_Host_performOther_1 m33 (by decide) rfl rfl ?_
                      refine z_aload_n C 0 rfl rfl d_Host_performOther_238 ?_
                      refine z_bipush (v := (38 : Int32)) C rfl d_Host_performOther_239 ?_
                      refine z_callVi (rest := []) C q_Host_fail tw_752 (c_Host_fail _ B (38 : Int32) S _ h) rc_Host ⟨Nat.le_of_ble_eq_true rfl, Nat.le_of_ble_eq_true rfl⟩ rfl rfl (Nat.le_of_ble_eq_true rfl) d_Host_performOther_241 (fun S1 r2 h => ?_)
                      exact z_ireturn C G hr h d_Host_performOther_244
                    by_cases m34 : a1 = (34 : Int32)
                    · refine z_tableIn (off := 237) (tgt := 238) C d_Host_performOther_1 m34 (by decide) rfl rfl ?_
                      refine z_aload_n C 0 rfl rfl d_Host_performOther_238 ?_
                      refine z_bipush (v := (38 : Int32)) C rfl d_Host_performOther_239 ?_
                      refine z_callVi (rest := []) C q_Host_fail tw_752 (c_Host_fail _ B (38 : Int32) S _ h) rc_Host ⟨Nat.le_of_ble_eq_true rfl, Nat.le_of_ble_eq_true rfl⟩ rfl rfl (Nat.le_of_ble_eq_true rfl) d_Host_performOther_241 (fun S1 r2 h => ?_)
                      exact z_ireturn C G hr h d_Host_performOther_244
                    by_cases m35 : a1 = (35 : Int32)
                    · refine z_tableIn (off := 237) (tgt := 238) C d_Host_performOther_1 m35 (by decide) rfl rfl ?_
                      refine z_aload_n C 0 rfl rfl d_Host_performOther_238 ?_
                      refine z_bipush (v := (38 : Int32)) C rfl d_Host_performOther_239 ?_
                      refine z_callVi (rest := []) C q_Host_fail tw_752 (c_Host_fail _ B (38 : Int32) S _ h) rc_Host ⟨Nat.le_of_ble_eq_true rfl, Nat.le_of_ble_eq_true rfl⟩ rfl rfl (Nat.le_of_ble_eq_true rfl) d_Host_performOther_241 (fun S1 r2 h => ?_)
                      exact z_ireturn C G hr h d_Host_performOther_244
                    by_cases m36 : a1 = (36 : Int32)
                    · refine z_tableIn (off := 237) (tgt := 238) C d_Host_performOther_1 m36 (by decide) rfl rfl ?_
                      refine z_aload_n C 0 rfl rfl d_Host_performOther_238 ?_
                      refine z_bipush (v := (38 : Int32)) C rfl d_Host_performOther_239 ?_
                      refine z_callVi (rest := []) C q_Host_fail tw_752 (c_Host_fail _ B (38 : Int32) S _ h) rc_Host ⟨Nat.le_of_ble_eq_true rfl, Nat.le_of_ble_eq_true rfl⟩ rfl rfl (Nat.le_of_ble_eq_true rfl) d_Host_performOther_241 (fun S1 r2 h => ?_)
                      exact z_ireturn C G hr h d_Host_performOther_244
                    by_cases m37 : a1 = (37 : Int32)
                    · refine z_tableIn (off := 237) (tgt := 238) C d_Host_performOther_1 m37 (by decide) rfl rfl ?_
                      refine z_aload_n C 0 rfl rfl d_Host_performOther_238 ?_
                      refine z_bipush (v := (38 : Int32)) C rfl d_Host_performOther_239 ?_
                      refine z_callVi (rest := []) C q_Host_fail tw_752 (c_Host_fail _ B (38 : Int32) S _ h) rc_Host ⟨Nat.le_of_ble_eq_true rfl, Nat.le_of_ble_eq_true rfl⟩ rfl rfl (Nat.le_of_ble_eq_true rfl) d_Host_performOther_241 (fun S1 r2 h => ?_)
                      exact z_ireturn C G hr h d_Host_performOther_244
                    by_cases m38 : a1 = (38 : Int32)
                    · refine z_tableIn (off := 237) (tgt := 238) C d_Host_performOther_1 m38 (by decide) rfl rfl ?_
                      refine z_aload_n C 0 rfl rfl d_Host_performOther_238 ?_
                      refine z_bipush (v := (38 : Int32)) C rfl d_Host_performOther_239 ?_
                      refine z_callVi (rest := []) C q_Host_fail tw_752 (c_Host_fail _ B (38 : Int32) S _ h) rc_Host ⟨Nat.le_of_ble_eq_true rfl, Nat.le_of_ble_eq_true rfl⟩ rfl rfl (Nat.le_of_ble_eq_true rfl) d_Host_performOther_241 (fun S1 r2 h => ?_)
                      exact z_ireturn C G hr h d_Host_performOther_244
                    by_cases m39 : a1 = (39 : Int32)
                    · refine z_tableIn (off := 237) (tgt := 238) C d_Host_performOther_1 m39 (by decide) rfl rfl ?_
                      refine z_aload_n C 0 rfl rfl d_Host_performOther_238 ?_
                      refine z_bipush (v := (38 : Int32)) C rfl d_Host_performOther_239 ?_
                      refine z_callVi (rest := []) C q_Host_fail tw_752 (c_Host_fail _ B (38 : Int32) S _ h) rc_Host ⟨Nat.le_of_ble_eq_true rfl, Nat.le_of_ble_eq_true rfl⟩ rfl rfl (Nat.le_of_ble_eq_true rfl) d_Host_performOther_241 (fun S1 r2 h => ?_)
                      exact z_ireturn C G hr h d_Host_performOther_244
                    by_cases m40 : a1 = (40 : Int32)
                    · refine z_tableIn (off := 237) (tgt := 238) C d_Host_performOther_1 m40 (by decide) rfl rfl ?_
                      refine z_aload_n C 0 rfl rfl d_Host_performOther_238 ?_
                      refine z_bipush (v := (38 : Int32)) C rfl d_Host_performOther_239 ?_
                      refine z_callVi (rest := []) C q_Host_fail tw_752 (c_Host_fail _ B (38 : Int32) S _ h) rc_Host ⟨Nat.le_of_ble_eq_true rfl, Nat.le_of_ble_eq_true rfl⟩ rfl rfl (Nat.le_of_ble_eq_true rfl) d_Host_performOther_241 (fun S1 r2 h => ?_)
                      exact z_ireturn C G hr h d_Host_performOther_244
                    by_cases m41 : a1 = (41 : Int32)
                    · refine z_tableIn (off := 237) (tgt := 238) C d_Host_performOther_1 m41 (by decide) rfl rfl ?_
                      refine z_aload_n C 0 rfl rfl d_Host_performOther_238 ?_
                      refine z_bipush (v := (38 : Int32)) C rfl d_Host_performOther_239 ?_
                      refine z_callVi (rest := []) C q_Host_fail tw_752 (c_Host_fail _ B (38 : Int32) S _ h) rc_Host ⟨Nat.le_of_ble_eq_true rfl, Nat.le_of_ble_eq_true rfl⟩ rfl rfl (Nat.le_of_ble_eq_true rfl) d_Host_performOther_241 (fun S1 r2 h => ?_)
                      exact z_ireturn C G hr h d_Host_performOther_244
                    by_cases m42 : a1 = (42 : Int32)
                    · refine z_tableIn (off := 237) (tgt := 238) C d_Host_performOther_1 m42 (by decide) rfl rfl ?_
                      refine z_aload_n C 0 rfl rfl d_Host_performOther_238 ?_
                      refine z_bipush (v := (38 : Int32)) C rfl d_Host_performOther_239 ?_
                      refine z_callVi (rest := []) C q_Host_fail tw_752 (c_Host_fail _ B (38 : Int32) S _ h) rc_Host ⟨Nat.le_of_ble_eq_true rfl, Nat.le_of_ble_eq_true rfl⟩ rfl rfl (Nat.le_of_ble_eq_true rfl) d_Host_performOther_241 (fun S1 r2 h => ?_)
                      exact z_ireturn C G hr h d_Host_performOther_244
                    by_cases m43 : a1 = (43 : Int32)
                    · refine z_tableIn (off := 237) (tgt := 238) C d_Host_performOther_1 m43 (by decide) rfl rfl ?_
                      refine z_aload_n C 0 rfl rfl d_Host_performOther_238 ?_
                      refine z_bipush (v := (38 : Int32)) C rfl d_Host_performOther_239 ?_
                      refine z_callVi (rest := []) C q_Host_fail tw_752 (c_Host_fail _ B (38 : Int32) S _ h) rc_Host ⟨Nat.le_of_ble_eq_true rfl, Nat.le_of_ble_eq_true rfl⟩ rfl rfl (Nat.le_of_ble_eq_true rfl) d_Host_performOther_241 (fun S1 r2 h => ?_)
                      exact z_ireturn C G hr h d_Host_performOther_244
                    by_cases m44 : a1 = (44 : Int32)
                    · refine z_tableIn (off := 237) (tgt := 238) C d_Host_performOther_1 m44 (by decide) rfl rfl ?_
                      refine z_aload_n C 0 rfl rfl d_Host_performOther_238 ?_
                      refine z_bipush (v := (38 : Int32)) C rfl d_Host_performOther_239 ?_
                      refine z_callVi (rest := []) C q_Host_fail tw_752 (c_Host_fail _ B (38 : Int32) S _ h) rc_Host ⟨Nat.le_of_ble_eq_true rfl, Nat.le_of_ble_eq_true rfl⟩ rfl rfl (Nat.le_of_ble_eq_true rfl) d_Host_performOther_241 (fun S1 r2 h => ?_)
                      exact z_ireturn C G hr h d_Host_performOther_244
                    by_cases m45 : a1 = (45 : Int32)
                    · refine z_tableIn (off := 237) (tgt := 238) C d_Host_performOther_1 m45 (by decide) rfl rfl ?_
                      refine z_aload_n C 0 rfl rfl d_Host_performOther_238 ?_
                      refine z_bipush (v := (38 : Int32)) C rfl d_Host_performOther_239 ?_
                      refine z_callVi (rest := []) C q_Host_fail tw_752 (c_Host_fail _ B (38 : Int32) S _ h) rc_Host ⟨Nat.le_of_ble_eq_true rfl, Nat.le_of_ble_eq_true rfl⟩ rfl rfl (Nat.le_of_ble_eq_true rfl) d_Host_performOther_241 (fun S1 r2 h => ?_)
                      exact z_ireturn C G hr h d_Host_performOther_244
                    by_cases m46 : a1 = (46 : Int32)
                    · refine z_tableIn (off := 237) (tgt := 238) C d_Host_performOther_1 m46 (by decide) rfl rfl ?_
                      refine z_aload_n C 0 rfl rfl d_Host_performOther_238 ?_
                      refine z_bipush (v := (38 : Int32)) C rfl d_Host_performOther_239 ?_
                      refine z_callVi (rest := []) C q_Host_fail tw_752 (c_Host_fail _ B (38 : Int32) S _ h) rc_Host ⟨Nat.le_of_ble_eq_true rfl, Nat.le_of_ble_eq_true rfl⟩ rfl rfl (Nat.le_of_ble_eq_true rfl) d_Host_performOther_241 (fun S1 r2 h => ?_)
                      exact z_ireturn C G hr h d_Host_performOther_244
                    by_cases m47 : a1 = (47 : Int32)
                    · refine z_tableIn (off := 237) (tgt := 238) C d_Host_performOther_1 m47 (by decide) rfl rfl ?_
                      refine z_aload_n C 0 rfl rfl d_Host_performOther_238 ?_
                      refine z_bipush (v := (38 : Int32)) C rfl d_Host_performOther_239 ?_
                      refine z_callVi (rest := []) C q_Host_fail tw_752 (c_Host_fail _ B (38 : Int32) S _ h) rc_Host ⟨Nat.le_of_ble_eq_true rfl, Nat.le_of_ble_eq_true rfl⟩ rfl rfl (Nat.le_of_ble_eq_true rfl) d_Host_performOther_241 (fun S1 r2 h => ?_)
                      exact z_ireturn C G hr h d_Host_performOther_244
                    refine z_tableOut (tgt := 238) C d_Host_performOther_1 (by have n0 := lv_neT (a := 16) c0 rfl; have n1 := lv_neT (a := 17) c1 rfl; have n2 := lv_neT (a := 19) c2 rfl; have n3 := lv_neT (a := 21) c3 rfl; have n4 := lv_neT (a := 22) c4 rfl; have n5 := lv_neT (a := 24) c5 rfl; have n6 := lv_neT (a := 32) c6 rfl; have n7 := lv_neT (a := 48) c7 rfl; have n8 := lv_neT (a := 49) c8 rfl; have o18 := lv_neT (a := 18) m18 rfl; have o20 := lv_neT (a := 20) m20 rfl; have o23 := lv_neT (a := 23) m23 rfl; have o25 := lv_neT (a := 25) m25 rfl; have o26 := lv_neT (a := 26) m26 rfl; have o27 := lv_neT (a := 27) m27 rfl; have o28 := lv_neT (a := 28) m28 rfl; have o29 := lv_neT (a := 29) m29 rfl; have o30 := lv_neT (a := 30) m30 rfl; have o31 := lv_neT (a := 31) m31 rfl; have o33 := lv_neT (a := 33) m33 rfl; have o34 := lv_neT (a := 34) m34 rfl; have o35 := lv_neT (a := 35) m35 rfl; have o36 := lv_neT (a := 36) m36 rfl; have o37 := lv_neT (a := 37) m37 rfl; have o38 := lv_neT (a := 38) m38 rfl; have o39 := lv_neT (a := 39) m39 rfl; have o40 := lv_neT (a := 40) m40 rfl; have o41 := lv_neT (a := 41) m41 rfl; have o42 := lv_neT (a := 42) m42 rfl; have o43 := lv_neT (a := 43) m43 rfl; have o44 := lv_neT (a := 44) m44 rfl; have o45 := lv_neT (a := 45) m45 rfl; have o46 := lv_neT (a := 46) m46 rfl; have o47 := lv_neT (a := 47) m47 rfl; omega) rfl ?_
                    refine z_aload_n C 0 rfl rfl d_Host_performOther_238 ?_
                    refine z_bipush (v := (38 : Int32)) C rfl d_Host_performOther_239 ?_
                    refine z_callVi (rest := []) C q_Host_fail tw_752 (c_Host_fail _ B (38 : Int32) S _ h) rc_Host ⟨Nat.le_of_ble_eq_true rfl, Nat.le_of_ble_eq_true rfl⟩ rfl rfl (Nat.le_of_ble_eq_true rfl) d_Host_performOther_241 (fun S1 r2 h => ?_)
                    exact z_ireturn C G hr h d_Host_performOther_244
theorem c_Host_performOther (l : Launch) (B : zK) (a1 : Int32) (S : zS) (P : zS → Int32 → Prop) (h : w_Host_performOther a1 S P) : Met l y_Host_performOther (Cond.code y_Host_performOther prog_7_method_8_code 2 (some FieldType.int) :: tT) (zRm 3 71) (zPc (wC B) [.ref (ad B 2), .int a1] S) (zQ (wC B) (zPi P)) 0 0 (wC B).2.2.2 :=
  z_met (by decide) (Nat.le_of_ble_eq_true rfl) (fun E C G hr _ hnl => v_Host_performOther C a1 P G hr hnl S h)
theorem q_Host_performOther : zQw y_Host_performOther prog_7_method_8_code 2 (some FieldType.int) 1 := ⟨tw_891, tw_31, tw_79, tw_892, by decide +kernel⟩
def j_Host_perform_127 (a1 : Int32) (P : zS → Int32 → Prop) (S : zS) (s1 : Int32) : Prop :=
  w_Host_writeText s1 S (fun S1 r2 => P S1 r2)
set_option maxRecDepth 20000 in
set_option maxHeartbeats 4000000 in
theorem vj_Host_perform_127 {E : zE} {B : zK} (C : zC E (wC B) prog_7_method_7_code "HostBench$Host" 5 112) (a1 : Int32) (P : zS → Int32 → Prop) (G : zGoal E (zQ (wC B) (zPi P)) (wC B)) (hr : zRt E (some .int)) (hnl : E.2.2.2.2.2.2.2.2.2.2.1 = 2) (S : zS) (s1 : Int32) (h : j_Host_perform_127 a1 P S s1) : zV E (wC B) S 127 [] [.int s1, .ref (ad B 2)] := by
  unfold j_Host_perform_127 at h
  refine z_callVi (rest := []) C q_Host_writeText tw_804 (c_Host_writeText _ B s1 S _ h) rc_Host ⟨Nat.le_of_ble_eq_true rfl, Nat.le_of_ble_eq_true rfl⟩ rfl rfl (Nat.le_of_ble_eq_true rfl) d_Host_perform_127 (fun S1 r2 h => ?_)
  exact z_ireturn C G hr h d_Host_perform_130
def w_Host_perform (a1 : Int32) (S : zS) (P : zS → Int32 → Prop) : Prop :=
  (a1 = (1 : Int32) → (w_Host_field (0 : Int32) S (fun S3 r4 => w_Host_field (1 : Int32) S3 (fun S5 r6 => w_Host_field (2 : Int32) S5 (fun S7 r8 => w_Host_open r4 r6 r8 S7 (fun S9 r10 => P S9 r10)))))) ∧ (¬ a1 = (1 : Int32) → ((a1 = (2 : Int32) → (w_Host_field (0 : Int32) S (fun S11 r12 => w_Host_close r12 S11 (fun S13 r14 => P S13 r14)))) ∧ (¬ a1 = (2 : Int32) → ((a1 = (3 : Int32) → (w_Memory_hasArea (gM S 0 5) (1 : Int32) S (fun S15 r16 => (r16 = 0 → (j_Host_perform_127 a1 P S15 (-1 : Int32))) ∧ (¬ r16 = 0 → (j_Host_perform_127 a1 P S15 (1 : Int32)))))) ∧ (¬ a1 = (3 : Int32) → ((a1 = (4 : Int32) → (w_Memory_lengthUpToZero (gM S 0 5) S (fun S17 r18 => w_Host_writeText r18 S17 (fun S19 r20 => P S19 r20)))) ∧ (¬ a1 = (4 : Int32) → ((a1 = (5 : Int32) → (w_Host_field (0 : Int32) S (fun S21 r22 => w_Host_field (1 : Int32) S21 (fun S23 r24 => w_Host_field (2 : Int32) S23 (fun S25 r26 => w_Host_write r22 r24 r26 S25 (fun S27 r28 => P S27 r28)))))) ∧ (¬ a1 = (5 : Int32) → ((a1 = (6 : Int32) → (w_Host_field (0 : Int32) S (fun S29 r30 => w_Host_field (1 : Int32) S29 (fun S31 r32 => w_Host_field (2 : Int32) S31 (fun S33 r34 => w_Host_read r30 r32 r34 S33 (fun S35 r36 => P S35 r36)))))) ∧ (¬ a1 = (6 : Int32) → ((a1 = (7 : Int32) → (w_Host_readByte S (fun S37 r38 => P S37 r38))) ∧ (¬ a1 = (7 : Int32) → ((a1 = (8 : Int32) → (w_Host_field (0 : Int32) S (fun S39 r40 => P S39 ((r40.toUInt32 >>> ((31 : Int32).toUInt32 &&& Int32.toUInt32 31)).toInt32)))) ∧ (¬ a1 = (8 : Int32) → ((a1 = (9 : Int32) → (w_Host_field (0 : Int32) S (fun S41 r42 => w_Host_isConsole r42 S41 (fun S43 r44 => P S43 r44)))) ∧ (¬ a1 = (9 : Int32) → ((a1 = (10 : Int32) → (w_Host_field (0 : Int32) S (fun S45 r46 => w_Host_field (1 : Int32) S45 (fun S47 r48 => w_Host_seek r46 r48 S47 (fun S49 r50 => P S49 r50))))) ∧ (¬ a1 = (10 : Int32) → ((a1 = (12 : Int32) → (w_Host_field (0 : Int32) S (fun S51 r52 => w_Host_length r52 S51 (fun S53 r54 => P S53 r54)))) ∧ (¬ a1 = (12 : Int32) → ((a1 = (13 : Int32) → (w_Host_field (0 : Int32) S (fun S55 r56 => w_Host_field (1 : Int32) S55 (fun S57 r58 => w_Host_field (2 : Int32) S57 (fun S59 r60 => w_Host_temporaryName r56 r58 r60 S59 (fun S61 r62 => P S61 r62)))))) ∧ (¬ a1 = (13 : Int32) → ((a1 = (14 : Int32) → (w_Host_field (0 : Int32) S (fun S63 r64 => w_Host_field (1 : Int32) S63 (fun S65 r66 => w_Host_remove r64 r66 S65 (fun S67 r68 => P S67 r68))))) ∧ (¬ a1 = (14 : Int32) → ((a1 = (15 : Int32) → (w_Host_rename S (fun S69 r70 => P S69 r70))) ∧ (¬ a1 = (15 : Int32) → (w_Host_performOther a1 S (fun S1 r2 => P S1 r2)))))))))))))))))))))))))))))
set_option maxRecDepth 20000 in
set_option maxHeartbeats 4000000 in
theorem v_Host_perform {E : zE} {B : zK} (C : zC E (wC B) prog_7_method_7_code "HostBench$Host" 5 112) (a1 : Int32) (P : zS → Int32 → Prop) (G : zGoal E (zQ (wC B) (zPi P)) (wC B)) (hr : zRt E (some .int)) (hnl : E.2.2.2.2.2.2.2.2.2.2.1 = 2) (S : zS) (h : w_Host_perform a1 S P) : zV E (wC B) S 0 [(0, .ref (ad B 2)), (1, .int a1)] [] := by
  unfold w_Host_perform at h
  refine z_iload_n C 1 rfl rfl d_Host_perform_0 ?_
  by_cases c0 : a1 = (1 : Int32)
  · have h := h.1 c0
    refine z_tableIn (off := 75) (tgt := 76) C d_Host_perform_1 c0 (by decide) rfl rfl ?_
    refine z_aload_n C 0 rfl rfl d_Host_perform_76 ?_
    refine z_aload_n C 0 rfl rfl d_Host_perform_77 ?_
    refine z_iconst (v := (0 : Int32)) C rfl d_Host_perform_78 ?_
    refine z_callVi (rest := [.ref (ad B 2)]) C q_Host_field tw_743 (c_Host_field _ B (0 : Int32) S _ h) rc_Host ⟨Nat.le_of_ble_eq_true rfl, Nat.le_of_ble_eq_true rfl⟩ rfl rfl (Nat.le_of_ble_eq_true rfl) d_Host_perform_79 (fun S3 r4 h => ?_)
    refine z_aload_n C 0 rfl rfl d_Host_perform_82 ?_
    refine z_iconst (v := (1 : Int32)) C rfl d_Host_perform_83 ?_
    refine z_callVi (rest := [.int r4, .ref (ad B 2)]) C q_Host_field tw_743 (c_Host_field _ B (1 : Int32) S3 _ h) rc_Host ⟨Nat.le_of_ble_eq_true rfl, Nat.le_of_ble_eq_true rfl⟩ rfl rfl (Nat.le_of_ble_eq_true rfl) d_Host_perform_84 (fun S5 r6 h => ?_)
    refine z_aload_n C 0 rfl rfl d_Host_perform_87 ?_
    refine z_iconst (v := (2 : Int32)) C rfl d_Host_perform_88 ?_
    refine z_callVi (rest := [.int r6, .int r4, .ref (ad B 2)]) C q_Host_field tw_743 (c_Host_field _ B (2 : Int32) S5 _ h) rc_Host ⟨Nat.le_of_ble_eq_true rfl, Nat.le_of_ble_eq_true rfl⟩ rfl rfl (Nat.le_of_ble_eq_true rfl) d_Host_perform_89 (fun S7 r8 h => ?_)
    refine z_callVi (rest := []) C q_Host_open tw_748 (c_Host_open _ B r4 r6 r8 S7 _ h) rc_Host ⟨Nat.le_of_ble_eq_true rfl, Nat.le_of_ble_eq_true rfl⟩ rfl rfl (Nat.le_of_ble_eq_true rfl) d_Host_perform_92 (fun S9 r10 h => ?_)
    exact z_ireturn C G hr h d_Host_perform_95
  · have h := h.2 c0
    by_cases c1 : a1 = (2 : Int32)
    · have h := h.1 c1
      refine z_tableIn (off := 95) (tgt := 96) C d_Host_perform_1 c1 (by decide) rfl rfl ?_
      refine z_aload_n C 0 rfl rfl d_Host_perform_96 ?_
      refine z_aload_n C 0 rfl rfl d_Host_perform_97 ?_
      refine z_iconst (v := (0 : Int32)) C rfl d_Host_perform_98 ?_
      refine z_callVi (rest := [.ref (ad B 2)]) C q_Host_field tw_743 (c_Host_field _ B (0 : Int32) S _ h) rc_Host ⟨Nat.le_of_ble_eq_true rfl, Nat.le_of_ble_eq_true rfl⟩ rfl rfl (Nat.le_of_ble_eq_true rfl) d_Host_perform_99 (fun S11 r12 h => ?_)
      refine z_callVi (rest := []) C q_Host_close tw_791 (c_Host_close _ B r12 S11 _ h) rc_Host ⟨Nat.le_of_ble_eq_true rfl, Nat.le_of_ble_eq_true rfl⟩ rfl rfl (Nat.le_of_ble_eq_true rfl) d_Host_perform_102 (fun S13 r14 h => ?_)
      exact z_ireturn C G hr h d_Host_perform_105
    · have h := h.2 c1
      by_cases c2 : a1 = (3 : Int32)
      · have h := h.1 c2
        refine z_tableIn (off := 105) (tgt := 106) C d_Host_perform_1 c2 (by decide) rfl rfl ?_
        refine z_aload_n C 0 rfl rfl d_Host_perform_106 ?_
        refine z_aload_n C 0 rfl rfl d_Host_perform_107 ?_
        refine gf_Host_memory C (Or.inl tw_274) d_Host_perform_108 ?_
        refine z_aload_n C 0 rfl rfl d_Host_perform_111 ?_
        refine gf_Host_block C (Or.inl tw_289) d_Host_perform_112 ?_
        refine z_iconst (v := (1 : Int32)) C rfl d_Host_perform_115 ?_
        refine z_callVi (rest := [.ref (ad B 2)]) C q_Memory_hasArea tw_738 (c_Memory_hasArea _ B (gM S 0 5) (1 : Int32) S _ h) rc_Memory ⟨Nat.le_of_ble_eq_true rfl, Nat.le_of_ble_eq_true rfl⟩ rfl rfl (Nat.le_of_ble_eq_true rfl) d_Host_perform_116 (fun S15 r16 h => ?_)
        refine z_if_eq (tgt := 126) C d_Host_perform_119 rfl (fun c => ?_) (fun c => ?_)
        · have h := h.1 c
          refine z_iconst (v := (-1 : Int32)) C rfl d_Host_perform_126 ?_
          exact z_sub [] rfl (vj_Host_perform_127 C a1 P G hr hnl S15 (-1 : Int32) h)
        · have h := h.2 c
          refine z_iconst (v := (1 : Int32)) C rfl d_Host_perform_122 ?_
          refine z_goto (tgt := 127) C d_Host_perform_123 rfl ?_
          exact z_sub [] rfl (vj_Host_perform_127 C a1 P G hr hnl S15 (1 : Int32) h)
      · have h := h.2 c2
        by_cases c3 : a1 = (4 : Int32)
        · have h := h.1 c3
          refine z_tableIn (off := 130) (tgt := 131) C d_Host_perform_1 c3 (by decide) rfl rfl ?_
          refine z_aload_n C 0 rfl rfl d_Host_perform_131 ?_
          refine z_aload_n C 0 rfl rfl d_Host_perform_132 ?_
          refine gf_Host_memory C (Or.inl tw_274) d_Host_perform_133 ?_
          refine z_aload_n C 0 rfl rfl d_Host_perform_136 ?_
          refine gf_Host_block C (Or.inl tw_289) d_Host_perform_137 ?_
          refine z_callVi (rest := [.ref (ad B 2)]) C q_Memory_lengthUpToZero tw_816 (c_Memory_lengthUpToZero _ B (gM S 0 5) S _ h) rc_Memory ⟨Nat.le_of_ble_eq_true rfl, Nat.le_of_ble_eq_true rfl⟩ rfl rfl (Nat.le_of_ble_eq_true rfl) d_Host_perform_140 (fun S17 r18 h => ?_)
          refine z_callVi (rest := []) C q_Host_writeText tw_804 (c_Host_writeText _ B r18 S17 _ h) rc_Host ⟨Nat.le_of_ble_eq_true rfl, Nat.le_of_ble_eq_true rfl⟩ rfl rfl (Nat.le_of_ble_eq_true rfl) d_Host_perform_143 (fun S19 r20 h => ?_)
          exact z_ireturn C G hr h d_Host_perform_146
        · have h := h.2 c3
          by_cases c4 : a1 = (5 : Int32)
          · have h := h.1 c4
            refine z_tableIn (off := 146) (tgt := 147) C d_Host_perform_1 c4 (by decide) rfl rfl ?_
            refine z_aload_n C 0 rfl rfl d_Host_perform_147 ?_
            refine z_aload_n C 0 rfl rfl d_Host_perform_148 ?_
            refine z_iconst (v := (0 : Int32)) C rfl d_Host_perform_149 ?_
            refine z_callVi (rest := [.ref (ad B 2)]) C q_Host_field tw_743 (c_Host_field _ B (0 : Int32) S _ h) rc_Host ⟨Nat.le_of_ble_eq_true rfl, Nat.le_of_ble_eq_true rfl⟩ rfl rfl (Nat.le_of_ble_eq_true rfl) d_Host_perform_150 (fun S21 r22 h => ?_)
            refine z_aload_n C 0 rfl rfl d_Host_perform_153 ?_
            refine z_iconst (v := (1 : Int32)) C rfl d_Host_perform_154 ?_
            refine z_callVi (rest := [.int r22, .ref (ad B 2)]) C q_Host_field tw_743 (c_Host_field _ B (1 : Int32) S21 _ h) rc_Host ⟨Nat.le_of_ble_eq_true rfl, Nat.le_of_ble_eq_true rfl⟩ rfl rfl (Nat.le_of_ble_eq_true rfl) d_Host_perform_155 (fun S23 r24 h => ?_)
            refine z_aload_n C 0 rfl rfl d_Host_perform_158 ?_
            refine z_iconst (v := (2 : Int32)) C rfl d_Host_perform_159 ?_
            refine z_callVi (rest := [.int r24, .int r22, .ref (ad B 2)]) C q_Host_field tw_743 (c_Host_field _ B (2 : Int32) S23 _ h) rc_Host ⟨Nat.le_of_ble_eq_true rfl, Nat.le_of_ble_eq_true rfl⟩ rfl rfl (Nat.le_of_ble_eq_true rfl) d_Host_perform_160 (fun S25 r26 h => ?_)
            refine z_callVi (rest := []) C q_Host_write tw_820 (c_Host_write _ B r22 r24 r26 S25 _ h) rc_Host ⟨Nat.le_of_ble_eq_true rfl, Nat.le_of_ble_eq_true rfl⟩ rfl rfl (Nat.le_of_ble_eq_true rfl) d_Host_perform_163 (fun S27 r28 h => ?_)
            exact z_ireturn C G hr h d_Host_perform_166
          · have h := h.2 c4
            by_cases c5 : a1 = (6 : Int32)
            · have h := h.1 c5
              refine z_tableIn (off := 166) (tgt := 167) C d_Host_perform_1 c5 (by decide) rfl rfl ?_
              refine z_aload_n C 0 rfl rfl d_Host_perform_167 ?_
              refine z_aload_n C 0 rfl rfl d_Host_perform_168 ?_
              refine z_iconst (v := (0 : Int32)) C rfl d_Host_perform_169 ?_
              refine z_callVi (rest := [.ref (ad B 2)]) C q_Host_field tw_743 (c_Host_field _ B (0 : Int32) S _ h) rc_Host ⟨Nat.le_of_ble_eq_true rfl, Nat.le_of_ble_eq_true rfl⟩ rfl rfl (Nat.le_of_ble_eq_true rfl) d_Host_perform_170 (fun S29 r30 h => ?_)
              refine z_aload_n C 0 rfl rfl d_Host_perform_173 ?_
              refine z_iconst (v := (1 : Int32)) C rfl d_Host_perform_174 ?_
              refine z_callVi (rest := [.int r30, .ref (ad B 2)]) C q_Host_field tw_743 (c_Host_field _ B (1 : Int32) S29 _ h) rc_Host ⟨Nat.le_of_ble_eq_true rfl, Nat.le_of_ble_eq_true rfl⟩ rfl rfl (Nat.le_of_ble_eq_true rfl) d_Host_perform_175 (fun S31 r32 h => ?_)
              refine z_aload_n C 0 rfl rfl d_Host_perform_178 ?_
              refine z_iconst (v := (2 : Int32)) C rfl d_Host_perform_179 ?_
              refine z_callVi (rest := [.int r32, .int r30, .ref (ad B 2)]) C q_Host_field tw_743 (c_Host_field _ B (2 : Int32) S31 _ h) rc_Host ⟨Nat.le_of_ble_eq_true rfl, Nat.le_of_ble_eq_true rfl⟩ rfl rfl (Nat.le_of_ble_eq_true rfl) d_Host_perform_180 (fun S33 r34 h => ?_)
              refine z_callVi (rest := []) C q_Host_read tw_838 (c_Host_read _ B r30 r32 r34 S33 _ h) rc_Host ⟨Nat.le_of_ble_eq_true rfl, Nat.le_of_ble_eq_true rfl⟩ rfl rfl (Nat.le_of_ble_eq_true rfl) d_Host_perform_183 (fun S35 r36 h => ?_)
              exact z_ireturn C G hr h d_Host_perform_186
            · have h := h.2 c5
              by_cases c6 : a1 = (7 : Int32)
              · have h := h.1 c6
                refine z_tableIn (off := 186) (tgt := 187) C d_Host_perform_1 c6 (by decide) rfl rfl ?_
                refine z_aload_n C 0 rfl rfl d_Host_perform_187 ?_
                refine z_callVi (rest := []) C q_Host_readByte tw_851 (c_Host_readByte _ B S _ h) rc_Host ⟨Nat.le_of_ble_eq_true rfl, Nat.le_of_ble_eq_true rfl⟩ rfl rfl (Nat.le_of_ble_eq_true rfl) d_Host_perform_188 (fun S37 r38 h => ?_)
                exact z_ireturn C G hr h d_Host_perform_191
              · have h := h.2 c6
                by_cases c7 : a1 = (8 : Int32)
                · have h := h.1 c7
                  refine z_tableIn (off := 191) (tgt := 192) C d_Host_perform_1 c7 (by decide) rfl rfl ?_
                  refine z_aload_n C 0 rfl rfl d_Host_perform_192 ?_
                  refine z_iconst (v := (0 : Int32)) C rfl d_Host_perform_193 ?_
                  refine z_callVi (rest := []) C q_Host_field tw_743 (c_Host_field _ B (0 : Int32) S _ h) rc_Host ⟨Nat.le_of_ble_eq_true rfl, Nat.le_of_ble_eq_true rfl⟩ rfl rfl (Nat.le_of_ble_eq_true rfl) d_Host_perform_194 (fun S39 r40 h => ?_)
                  refine z_bipush (v := (31 : Int32)) C rfl d_Host_perform_197 ?_
                  refine z_iushr C d_Host_perform_199 ?_
                  exact z_ireturn C G hr h d_Host_perform_200
                · have h := h.2 c7
                  by_cases c8 : a1 = (9 : Int32)
                  · have h := h.1 c8
                    refine z_tableIn (off := 200) (tgt := 201) C d_Host_perform_1 c8 (by decide) rfl rfl ?_
                    refine z_aload_n C 0 rfl rfl d_Host_perform_201 ?_
                    refine z_aload_n C 0 rfl rfl d_Host_perform_202 ?_
                    refine z_iconst (v := (0 : Int32)) C rfl d_Host_perform_203 ?_
                    refine z_callVi (rest := [.ref (ad B 2)]) C q_Host_field tw_743 (c_Host_field _ B (0 : Int32) S _ h) rc_Host ⟨Nat.le_of_ble_eq_true rfl, Nat.le_of_ble_eq_true rfl⟩ rfl rfl (Nat.le_of_ble_eq_true rfl) d_Host_perform_204 (fun S41 r42 h => ?_)
                    refine z_callVi (rest := []) C q_Host_isConsole tw_855 (c_Host_isConsole _ B r42 S41 _ h) rc_Host ⟨Nat.le_of_ble_eq_true rfl, Nat.le_of_ble_eq_true rfl⟩ rfl rfl (Nat.le_of_ble_eq_true rfl) d_Host_perform_207 (fun S43 r44 h => ?_)
                    exact z_ireturn C G hr h d_Host_perform_210
                  · have h := h.2 c8
                    by_cases c9 : a1 = (10 : Int32)
                    · have h := h.1 c9
                      refine z_tableIn (off := 210) (tgt := 211) C d_Host_perform_1 c9 (by decide) rfl rfl ?_
                      refine z_aload_n C 0 rfl rfl d_Host_perform_211 ?_
                      refine z_aload_n C 0 rfl rfl d_Host_perform_212 ?_
                      refine z_iconst (v := (0 : Int32)) C rfl d_Host_perform_213 ?_
                      refine z_callVi (rest := [.ref (ad B 2)]) C q_Host_field tw_743 (c_Host_field _ B (0 : Int32) S _ h) rc_Host ⟨Nat.le_of_ble_eq_true rfl, Nat.le_of_ble_eq_true rfl⟩ rfl rfl (Nat.le_of_ble_eq_true rfl) d_Host_perform_214 (fun S45 r46 h => ?_)
                      refine z_aload_n C 0 rfl rfl d_Host_perform_217 ?_
                      refine z_iconst (v := (1 : Int32)) C rfl d_Host_perform_218 ?_
                      refine z_callVi (rest := [.int r46, .ref (ad B 2)]) C q_Host_field tw_743 (c_Host_field _ B (1 : Int32) S45 _ h) rc_Host ⟨Nat.le_of_ble_eq_true rfl, Nat.le_of_ble_eq_true rfl⟩ rfl rfl (Nat.le_of_ble_eq_true rfl) d_Host_perform_219 (fun S47 r48 h => ?_)
                      refine z_callVi (rest := []) C q_Host_seek tw_859 (c_Host_seek _ B r46 r48 S47 _ h) rc_Host ⟨Nat.le_of_ble_eq_true rfl, Nat.le_of_ble_eq_true rfl⟩ rfl rfl (Nat.le_of_ble_eq_true rfl) d_Host_perform_222 (fun S49 r50 h => ?_)
                      exact z_ireturn C G hr h d_Host_perform_225
                    · have h := h.2 c9
                      by_cases c10 : a1 = (12 : Int32)
                      · have h := h.1 c10
                        refine z_tableIn (off := 225) (tgt := 226) C d_Host_perform_1 c10 (by decide) rfl rfl ?_
                        refine z_aload_n C 0 rfl rfl d_Host_perform_226 ?_
                        refine z_aload_n C 0 rfl rfl d_Host_perform_227 ?_
                        refine z_iconst (v := (0 : Int32)) C rfl d_Host_perform_228 ?_
                        refine z_callVi (rest := [.ref (ad B 2)]) C q_Host_field tw_743 (c_Host_field _ B (0 : Int32) S _ h) rc_Host ⟨Nat.le_of_ble_eq_true rfl, Nat.le_of_ble_eq_true rfl⟩ rfl rfl (Nat.le_of_ble_eq_true rfl) d_Host_perform_229 (fun S51 r52 h => ?_)
                        refine z_callVi (rest := []) C q_Host_length tw_863 (c_Host_length _ B r52 S51 _ h) rc_Host ⟨Nat.le_of_ble_eq_true rfl, Nat.le_of_ble_eq_true rfl⟩ rfl rfl (Nat.le_of_ble_eq_true rfl) d_Host_perform_232 (fun S53 r54 h => ?_)
                        exact z_ireturn C G hr h d_Host_perform_235
                      · have h := h.2 c10
                        by_cases c11 : a1 = (13 : Int32)
                        · have h := h.1 c11
                          refine z_tableIn (off := 235) (tgt := 236) C d_Host_perform_1 c11 (by decide) rfl rfl ?_
                          refine z_aload_n C 0 rfl rfl d_Host_perform_236 ?_
                          refine z_aload_n C 0 rfl rfl d_Host_perform_237 ?_
                          refine z_iconst (v := (0 : Int32)) C rfl d_Host_perform_238 ?_
                          refine z_callVi (rest := [.ref (ad B 2)]) C q_Host_field tw_743 (c_Host_field _ B (0 : Int32) S _ h) rc_Host ⟨Nat.le_of_ble_eq_true rfl, Nat.le_of_ble_eq_true rfl⟩ rfl rfl (Nat.le_of_ble_eq_true rfl) d_Host_perform_239 (fun S55 r56 h => ?_)
                          refine z_aload_n C 0 rfl rfl d_Host_perform_242 ?_
                          refine z_iconst (v := (1 : Int32)) C rfl d_Host_perform_243 ?_
                          refine z_callVi (rest := [.int r56, .ref (ad B 2)]) C q_Host_field tw_743 (c_Host_field _ B (1 : Int32) S55 _ h) rc_Host ⟨Nat.le_of_ble_eq_true rfl, Nat.le_of_ble_eq_true rfl⟩ rfl rfl (Nat.le_of_ble_eq_true rfl) d_Host_perform_244 (fun S57 r58 h => ?_)
                          refine z_aload_n C 0 rfl rfl d_Host_perform_247 ?_
                          refine z_iconst (v := (2 : Int32)) C rfl d_Host_perform_248 ?_
                          refine z_callVi (rest := [.int r58, .int r56, .ref (ad B 2)]) C q_Host_field tw_743 (c_Host_field _ B (2 : Int32) S57 _ h) rc_Host ⟨Nat.le_of_ble_eq_true rfl, Nat.le_of_ble_eq_true rfl⟩ rfl rfl (Nat.le_of_ble_eq_true rfl) d_Host_perform_249 (fun S59 r60 h => ?_)
                          refine z_callVi (rest := []) C q_Host_temporaryName tw_867 (c_Host_temporaryName _ B r56 r58 r60 S59 _ h) rc_Host ⟨Nat.le_of_ble_eq_true rfl, Nat.le_of_ble_eq_true rfl⟩ rfl rfl (Nat.le_of_ble_eq_true rfl) d_Host_perform_252 (fun S61 r62 h => ?_)
                          exact z_ireturn C G hr h d_Host_perform_255
                        · have h := h.2 c11
                          by_cases c12 : a1 = (14 : Int32)
                          · have h := h.1 c12
                            refine z_tableIn (off := 255) (tgt := 256) C d_Host_perform_1 c12 (by decide) rfl rfl ?_
                            refine z_aload_n C 0 rfl rfl d_Host_perform_256 ?_
                            refine z_aload_n C 0 rfl rfl d_Host_perform_257 ?_
                            refine z_iconst (v := (0 : Int32)) C rfl d_Host_perform_258 ?_
                            refine z_callVi (rest := [.ref (ad B 2)]) C q_Host_field tw_743 (c_Host_field _ B (0 : Int32) S _ h) rc_Host ⟨Nat.le_of_ble_eq_true rfl, Nat.le_of_ble_eq_true rfl⟩ rfl rfl (Nat.le_of_ble_eq_true rfl) d_Host_perform_259 (fun S63 r64 h => ?_)
                            refine z_aload_n C 0 rfl rfl d_Host_perform_262 ?_
                            refine z_iconst (v := (1 : Int32)) C rfl d_Host_perform_263 ?_
                            refine z_callVi (rest := [.int r64, .ref (ad B 2)]) C q_Host_field tw_743 (c_Host_field _ B (1 : Int32) S63 _ h) rc_Host ⟨Nat.le_of_ble_eq_true rfl, Nat.le_of_ble_eq_true rfl⟩ rfl rfl (Nat.le_of_ble_eq_true rfl) d_Host_perform_264 (fun S65 r66 h => ?_)
                            refine z_callVi (rest := []) C q_Host_remove tw_871 (c_Host_remove _ B r64 r66 S65 _ h) rc_Host ⟨Nat.le_of_ble_eq_true rfl, Nat.le_of_ble_eq_true rfl⟩ rfl rfl (Nat.le_of_ble_eq_true rfl) d_Host_perform_267 (fun S67 r68 h => ?_)
                            exact z_ireturn C G hr h d_Host_perform_270
                          · have h := h.2 c12
                            by_cases c13 : a1 = (15 : Int32)
                            · have h := h.1 c13
                              refine z_tableIn (off := 270) (tgt := 271) C d_Host_perform_1 c13 (by decide) rfl rfl ?_
                              refine z_aload_n C 0 rfl rfl d_Host_perform_271 ?_
                              refine z_callVi (rest := []) C q_Host_rename tw_884 (c_Host_rename _ B S _ h) rc_Host ⟨Nat.le_of_ble_eq_true rfl, Nat.le_of_ble_eq_true rfl⟩ rfl rfl (Nat.le_of_ble_eq_true rfl) d_Host_perform_272 (fun S69 r70 h => ?_)
                              exact z_ireturn C G hr h d_Host_perform_275
                            · have h := h.2 c13
                              by_cases m11 : a1 = (11 : Int32)
                              · refine z_tableIn (off := 275) (tgt := 276) C d_Host_perform_1 m11 (by decide) rfl rfl ?_
                                refine z_aload_n C 0 rfl rfl d_Host_perform_276 ?_
                                refine z_iload_n C 1 rfl rfl d_Host_perform_277 ?_
                                refine z_callVi (rest := []) C q_Host_performOther tw_889 (c_Host_performOther _ B a1 S _ h) rc_Host ⟨Nat.le_of_ble_eq_true rfl, Nat.le_of_ble_eq_true rfl⟩ rfl rfl (Nat.le_of_ble_eq_true rfl) d_Host_perform_278 (fun S1 r2 h => ?_)
                                exact z_ireturn C G hr h d_Host_perform_281
                              refine z_tableOut (tgt := 276) C d_Host_perform_1 (by have n0 := lv_neT (a := 1) c0 rfl; have n1 := lv_neT (a := 2) c1 rfl; have n2 := lv_neT (a := 3) c2 rfl; have n3 := lv_neT (a := 4) c3 rfl; have n4 := lv_neT (a := 5) c4 rfl; have n5 := lv_neT (a := 6) c5 rfl; have n6 := lv_neT (a := 7) c6 rfl; have n7 := lv_neT (a := 8) c7 rfl; have n8 := lv_neT (a := 9) c8 rfl; have n9 := lv_neT (a := 10) c9 rfl; have n10 := lv_neT (a := 12) c10 rfl; have n11 := lv_neT (a := 13) c11 rfl; have n12 := lv_neT (a := 14) c12 rfl; have n13 := lv_neT (a := 15) c13 rfl; have o11 := lv_neT (a := 11) m11 rfl; omega) rfl ?_
                              refine z_aload_n C 0 rfl rfl d_Host_perform_276 ?_
                              refine z_iload_n C 1 rfl rfl d_Host_perform_277 ?_
                              refine z_callVi (rest := []) C q_Host_performOther tw_889 (c_Host_performOther _ B a1 S _ h) rc_Host ⟨Nat.le_of_ble_eq_true rfl, Nat.le_of_ble_eq_true rfl⟩ rfl rfl (Nat.le_of_ble_eq_true rfl) d_Host_perform_278 (fun S1 r2 h => ?_)
                              exact z_ireturn C G hr h d_Host_perform_281
theorem c_Host_perform (l : Launch) (B : zK) (a1 : Int32) (S : zS) (P : zS → Int32 → Prop) (h : w_Host_perform a1 S P) : Met l y_Host_perform (Cond.code y_Host_perform prog_7_method_7_code 2 (some FieldType.int) :: tT) (zRm 5 112) (zPc (wC B) [.ref (ad B 2), .int a1] S) (zQ (wC B) (zPi P)) 0 0 (wC B).2.2.2 :=
  z_met (by decide) (Nat.le_of_ble_eq_true rfl) (fun E C G hr _ hnl => v_Host_perform C a1 P G hr hnl S h)
theorem q_Host_perform : zQw y_Host_perform prog_7_method_7_code 2 (some FieldType.int) 1 := ⟨tw_741, tw_12, tw_79, tw_742, by decide +kernel⟩
def j_Host_answerCall_63 (P : zS → Prop) (S : zS) (s0 : Int32) : Prop :=
  ((gM S 0 2) = 0 → (w_Guest_goOnBehindCall s0 S (fun S1 => P S1))) ∧ (¬ (gM S 0 2) = 0 → (P S))
set_option maxRecDepth 20000 in
set_option maxHeartbeats 4000000 in
theorem vj_Host_answerCall_63 {E : zE} {B : zK} (C : zC E (wC B) prog_7_method_2_code "HostBench$Host" 6 133) (P : zS → Prop) (G : zGoal E (zQ (wC B) (zPv P)) (wC B)) (hr : zRt E (none)) (hnl : E.2.2.2.2.2.2.2.2.2.2.1 = 3) (S : zS) (s0 : Int32) (h : j_Host_answerCall_63 P S s0) : zV E (wC B) S 63 [(0, .ref (ad B 2))] [.int s0] := by
  unfold j_Host_answerCall_63 at h
  refine z_istore_n (L' := [(2, .int s0), (0, .ref (ad B 2))]) C hnl rfl (by decide) rfl d_Host_answerCall_63 ?_
  refine z_aload_n C 1 rfl rfl d_Host_answerCall_64 ?_
  refine gf_Host_guest C (Or.inl tw_272) d_Host_answerCall_65 ?_
  refine gf_Guest_state C (Or.inr (List.mem_of_getElem? (i := 3) rfl)) d_Host_answerCall_68 ?_
  refine z_if_ne (tgt := 82) C d_Host_answerCall_71 rfl (fun c => ?_) (fun c => ?_)
  · have h := h.2 c
    exact z_vreturn C G hr h d_Host_answerCall_82
  · have h := h.1 c
    refine z_aload_n C 1 rfl rfl d_Host_answerCall_74 ?_
    refine gf_Host_guest C (Or.inl tw_272) d_Host_answerCall_75 ?_
    refine z_iload_n C 0 rfl rfl d_Host_answerCall_78 ?_
    refine z_callVv (rest := []) C q_Guest_goOnBehindCall tw_923 (c_Guest_goOnBehindCall _ B s0 S _ h) rc_Guest ⟨Nat.le_of_ble_eq_true rfl, Nat.le_of_ble_eq_true rfl⟩ rfl rfl (Nat.le_of_ble_eq_true rfl) d_Host_answerCall_79 (fun S1 h => ?_)
    exact z_vreturn C G hr h d_Host_answerCall_82
def w_Host_answerCall (S : zS) (P : zS → Prop) : Prop :=
  w_Guest_value (10 : Int32) S (fun S1 r2 => w_Guest_value (11 : Int32) S1 (fun S3 r4 => ∀ S5 : zS, S5 = sM S3 0 5 r4 → ∀ S6 : zS, S6 = sM S5 0 8 ((gM S5 0 8) + (1 : Int32)) → ∀ S7 : zS, S7 = sM S6 0 9 r2 → w_Host_fieldsOf r2 S7 (fun S8 r9 => w_Host_hasFields r9 S8 (fun S10 r11 => (r11 = 0 → (w_Host_fail (14 : Int32) S10 (fun S12 r13 => j_Host_answerCall_63 P S12 r13))) ∧ (¬ r11 = 0 → (w_Host_perform r2 S10 (fun S14 r15 => j_Host_answerCall_63 P S14 r15)))))))
set_option maxRecDepth 20000 in
set_option maxHeartbeats 4000000 in
theorem v_Host_answerCall {E : zE} {B : zK} (C : zC E (wC B) prog_7_method_2_code "HostBench$Host" 6 133) (P : zS → Prop) (G : zGoal E (zQ (wC B) (zPv P)) (wC B)) (hr : zRt E (none)) (hnl : E.2.2.2.2.2.2.2.2.2.2.1 = 3) (S : zS) (h : w_Host_answerCall S P) : zV E (wC B) S 0 [(0, .ref (ad B 2))] [] := by
  unfold w_Host_answerCall at h
  refine z_aload_n C 0 rfl rfl d_Host_answerCall_0 ?_
  refine gf_Host_guest C (Or.inl tw_272) d_Host_answerCall_1 ?_
  refine z_bipush (v := (10 : Int32)) C rfl d_Host_answerCall_4 ?_
  refine z_callVi (rest := []) C q_Guest_value tw_730 (c_Guest_value _ B (10 : Int32) S _ h) rc_Guest ⟨Nat.le_of_ble_eq_true rfl, Nat.le_of_ble_eq_true rfl⟩ rfl rfl (Nat.le_of_ble_eq_true rfl) d_Host_answerCall_6 (fun S1 r2 h => ?_)
  refine z_istore_n (L' := [(1, .int r2), (0, .ref (ad B 2))]) C hnl rfl (by decide) rfl d_Host_answerCall_9 ?_
  refine z_aload_n C 1 rfl rfl d_Host_answerCall_10 ?_
  refine z_aload_n C 1 rfl rfl d_Host_answerCall_11 ?_
  refine gf_Host_guest C (Or.inl tw_272) d_Host_answerCall_12 ?_
  refine z_bipush (v := (11 : Int32)) C rfl d_Host_answerCall_15 ?_
  refine z_callVi (rest := [.ref (ad B 2)]) C q_Guest_value tw_730 (c_Guest_value _ B (11 : Int32) S1 _ h) rc_Guest ⟨Nat.le_of_ble_eq_true rfl, Nat.le_of_ble_eq_true rfl⟩ rfl rfl (Nat.le_of_ble_eq_true rfl) d_Host_answerCall_17 (fun S3 r4 h => ?_)
  refine pf_Host_block C (Or.inl tw_289) d_Host_answerCall_20 ?_
  refine z_nS (fun S5 eS5 => ?_)
  have h := h S5 eS5
  refine z_aload_n C 1 rfl rfl d_Host_answerCall_23 ?_
  refine z_dup C rfl d_Host_answerCall_24 ?_
  refine gf_Host_calls C (Or.inl tw_294) d_Host_answerCall_25 ?_
  refine z_iconst (v := (1 : Int32)) C rfl d_Host_answerCall_28 ?_
  refine z_iadd C d_Host_answerCall_29 ?_
  refine pf_Host_calls C (Or.inl tw_294) d_Host_answerCall_30 ?_
  refine z_nS (fun S6 eS6 => ?_)
  have h := h S6 eS6
  refine z_aload_n C 1 rfl rfl d_Host_answerCall_33 ?_
  refine z_iload_n C 0 rfl rfl d_Host_answerCall_34 ?_
  refine pf_Host_latest C (Or.inl tw_296) d_Host_answerCall_35 ?_
  refine z_nS (fun S7 eS7 => ?_)
  have h := h S7 eS7
  refine z_aload_n C 1 rfl rfl d_Host_answerCall_38 ?_
  refine z_iload_n C 0 rfl rfl d_Host_answerCall_39 ?_
  refine z_callSi (rest := [.ref (ad B 2)]) C q_Host_fieldsOf rfl tw_731 (c_Host_fieldsOf _ B r2 S7 _ h) ⟨Nat.le_of_ble_eq_true rfl, Nat.le_of_ble_eq_true rfl⟩ rfl rfl (Nat.le_of_ble_eq_true rfl) d_Host_answerCall_40 (fun S8 r9 h => ?_)
  refine z_callVi (rest := []) C q_Host_hasFields tw_734 (c_Host_hasFields _ B r9 S8 _ h) rc_Host ⟨Nat.le_of_ble_eq_true rfl, Nat.le_of_ble_eq_true rfl⟩ rfl rfl (Nat.le_of_ble_eq_true rfl) d_Host_answerCall_43 (fun S10 r11 h => ?_)
  refine z_if_eq (tgt := 57) C d_Host_answerCall_46 rfl (fun c => ?_) (fun c => ?_)
  · have h := h.1 c
    refine z_aload_n C 1 rfl rfl d_Host_answerCall_57 ?_
    refine z_bipush (v := (14 : Int32)) C rfl d_Host_answerCall_58 ?_
    refine z_callVi (rest := []) C q_Host_fail tw_752 (c_Host_fail _ B (14 : Int32) S10 _ h) rc_Host ⟨Nat.le_of_ble_eq_true rfl, Nat.le_of_ble_eq_true rfl⟩ rfl rfl (Nat.le_of_ble_eq_true rfl) d_Host_answerCall_60 (fun S12 r13 h => ?_)
    exact z_sub [1] rfl (vj_Host_answerCall_63 C P G hr hnl S12 r13 h)
  · have h := h.2 c
    refine z_aload_n C 1 rfl rfl d_Host_answerCall_49 ?_
    refine z_iload_n C 0 rfl rfl d_Host_answerCall_50 ?_
    refine z_callVi (rest := []) C q_Host_perform tw_739 (c_Host_perform _ B r2 S10 _ h) rc_Host ⟨Nat.le_of_ble_eq_true rfl, Nat.le_of_ble_eq_true rfl⟩ rfl rfl (Nat.le_of_ble_eq_true rfl) d_Host_answerCall_51 (fun S14 r15 h => ?_)
    refine z_goto (tgt := 63) C d_Host_answerCall_54 rfl ?_
    exact z_sub [1] rfl (vj_Host_answerCall_63 C P G hr hnl S14 r15 h)
theorem c_Host_answerCall (l : Launch) (B : zK) (S : zS) (P : zS → Prop) (h : w_Host_answerCall S P) : Met l y_Host_answerCall (Cond.code y_Host_answerCall prog_7_method_2_code 3 none :: tT) (zRm 6 133) (zPc (wC B) [.ref (ad B 2)] S) (zQ (wC B) (zPv P)) 0 0 (wC B).2.2.2 :=
  z_met (by decide) (Nat.le_of_ble_eq_true rfl) (fun E C G hr _ hnl => v_Host_answerCall C P G hr hnl S h)
theorem q_Host_answerCall : zQw y_Host_answerCall prog_7_method_2_code 3 none 0 := ⟨tw_727, tw_728, tw_79, tw_729, by decide +kernel⟩
