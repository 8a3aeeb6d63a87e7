/-! the constructors -/
theorem mxI_r {cap : Nat} (h : cap < 2 ^ 31) : mxI (nI cap) 0 = nI cap := by
  unfold mxI
  rw [if_neg (nI_pos h)]
def xBytes (cB : ClassId) (cap h : Nat) : va_W := [(h, .inr (0, [.ref (h + 1), .int 0])), (h + 1, .inl (cB, cap, .inl (fun _ => 0)))]
def xMemory (cB : ClassId) (h : Nat) : va_W := [(h, .inr (7, [.ref (h + 1)])), (h + 1, .inl (cB, 16384, .inl (fun _ => 0)))]
def xHandle (h : Nat) : va_W := [(h, .inr (4, [.int 0, .null, .int 0, .int 0]))]
def xOutput (cB : ClassId) (h : Nat) : va_W := [(h, .inr (8, [.ref (h + 1), .int 0]))] ++ xBytes cB 2000 (h + 1)
def xHostFile (cB : ClassId) (h : Nat) : va_W := ([(h, .inr (6, [.ref (h + 1), .ref (h + 3)]))] ++ xBytes cB 24 (h + 1)) ++ xBytes cB 2000 (h + 3)
def xGuest (cB cI : ClassId) (h : Nat) : va_W := ([(h, .inr (3, [.ref (h + 1), .ref (h + 3), .int 0, .int 0, .int 0, .int 0, .int 0, .long 0]))] ++ xMemory cB (h + 1)) ++ [(h + 3, .inl (cI, 32, .inl (fun _ => 0)))]
theorem s_Bytes (cB : ClassId) (cap : Nat) : ∀ g, seqW g (xBytes cB cap g) := fun g => (seqW.one g _).app (seqW.one (g + 1) _)
theorem s_Memory (cB : ClassId) : ∀ g, seqW g (xMemory cB g) := fun g => (seqW.one g _).app (seqW.one (g + 1) _)
theorem s_Handle : ∀ g, seqW g (xHandle g) := fun g => seqW.one g _
theorem s_Output (cB : ClassId) : ∀ g, seqW g (xOutput cB g) := fun g => (seqW.one g _).app (s_Bytes cB 2000 (g + 1))
theorem s_HostFile (cB : ClassId) : ∀ g, seqW g (xHostFile cB g) := fun g => ((seqW.one g _).app (s_Bytes cB 24 (g + 1))).app (s_Bytes cB 2000 (g + 3))
theorem s_Guest (cB cI : ClassId) : ∀ g, seqW g (xGuest cB cI g) := fun g => ((seqW.one g _).app (s_Memory cB (g + 1))).app (seqW.one (g + 3) _)
set_option maxRecDepth 8000 in
theorem c_Bytes_init (l : Launch) (D : va_G) (tys : List (ClassId × FieldType)) {cB : ClassId} (ht0 : tys[0]? = some (cB, .byte)) {cap : Nat} (hc : cap ≤ 2100) : gMet l D tys y_Bytes_init prog_2_method_1_code 2 1 40 1 cap [.int (nI cap)] 0 [.null, .int 0] (xBytes cB cap) := by
  refine g_met rfl rfl (fun h => Nat.le_of_ble_eq_true rfl) ?_
  intro h E G Z hl9 hn9
  show zV _ (gw D tys h) (⟨[(h, .inr (0, [.null, .int 0]))], _⟩ : gs h) 0 [(0, .ref h), (1, .int (nI cap))] []
  refine z_aload_n G.C 0 rfl rfl d_Bytes_init_0 ?_
  refine z_obj G.C tw_109 tw_102 tw_103 (by decide) (by decide) (Nat.le_of_ble_eq_true rfl) d_Bytes_init_1 ?_
  refine z_aload_n G.C 0 rfl rfl d_Bytes_init_4 ?_
  refine z_iload_n G.C 1 rfl rfl d_Bytes_init_5 ?_
  refine z_iconst (v := 0) G.C (by decide) d_Bytes_init_6 ?_
  refine z_mmax G.C tw_110 tw_111 tw_78 tw_112 (by decide) (Nat.le_of_ble_eq_true rfl) d_Bytes_init_7 ?_
  rw [mxI_r (by omega)]
  refine g_newa (atype := .byte) (N := cap) (a0 := (cap, .inl (fun _ => 0))) (t0 := 0) (ty := .byte) (cB := cB) G rfl (by first | decide | omega) (by first | decide | omega) tw_120 rfl ht0 (fun _ => rfl) (nI_pos (by omega)) (nI_clamp (by omega)) (by first | decide | (show cap * 1 ≤ 536870912; omega)) d_Bytes_init_10 (fun G => ?_)
  rw [Nat.zero_add, Nat.zero_add] at G
  have Z := Z.ad 1 cap
  show zV _ (gw D tys h) (⟨([(h, .inr (0, [.null, .int 0]))] ++ [(h + 1, .inl (cB, cap, .inl (fun _ => 0)))]), _⟩ : gs h) 12 [(0, .ref h), (1, .int (nI cap))] [.ref (h + 1), .ref h]
  refine g_putF (ci := 0) (N := 2) (ty0 := tyX0) (ty := .array .byte) G.C Z.nm 0 rfl inX0 tyX0_ok nmX0 rfl 0 (by decide) tw_113 rfl rfl rfl rfl rfl (Nat.le_of_ble_eq_true rfl) d_Bytes_init_12 ?_
  show zV _ (gw D tys h) (⟨([(h, .inr (0, [.ref (h + 1), .int 0]))] ++ [(h + 1, .inl (cB, cap, .inl (fun _ => 0)))]), _⟩ : gs h) 15 [(0, .ref h), (1, .int (nI cap))] []
  refine z_aload_n G.C 0 rfl rfl d_Bytes_init_15 ?_
  refine z_iconst (v := 0) G.C (by decide) d_Bytes_init_16 ?_
  refine g_put (ci := 0) (N := 2) (ty0 := tyX0) (ty := .int) G.C 0 rfl inX0 tyX0_ok nmX0 rfl 1 (by decide) tw_114 rfl rfl rfl rfl (Nat.le_of_ble_eq_true rfl) d_Bytes_init_17 ?_
  show zV _ (gw D tys h) (⟨([(h, .inr (0, [.ref (h + 1), .int 0]))] ++ [(h + 1, .inl (cB, cap, .inl (fun _ => 0)))]), _⟩ : gs h) 20 [(0, .ref h), (1, .int (nI cap))] []
  exact g_ret G Z rfl d_Bytes_init_20
set_option maxRecDepth 8000 in
theorem c_Memory_init (l : Launch) (D : va_G) (tys : List (ClassId × FieldType)) {cB : ClassId} (ht0 : tys[0]? = some (cB, .byte)) : gMet l D tys y_Memory_init prog_9_method_1_code 1 1 40 1 16384 [] 7 [.null] (xMemory cB) := by
  refine g_met rfl rfl (fun h => Nat.le_of_ble_eq_true rfl) ?_
  intro h E G Z hl9 hn9
  show zV _ (gw D tys h) (⟨[(h, .inr (7, [.null]))], _⟩ : gs h) 0 [(0, .ref h)] []
  refine z_aload_n G.C 0 rfl rfl d_Memory_init_0 ?_
  refine z_obj G.C tw_138 tw_102 tw_103 (by decide) (by decide) (Nat.le_of_ble_eq_true rfl) d_Memory_init_1 ?_
  refine z_aload_n G.C 0 rfl rfl d_Memory_init_4 ?_
  refine z_sipush (v := 16384) G.C (by decide) d_Memory_init_5 ?_
  refine g_newa (atype := .byte) (N := 16384) (a0 := (16384, .inl (fun _ => 0))) (t0 := 0) (ty := .byte) (cB := cB) G rfl (by first | decide | omega) (by first | decide | omega) tw_120 rfl ht0 (fun _ => rfl) (by decide) (by decide) (by first | decide | (show cap * 1 ≤ 536870912; omega)) d_Memory_init_8 (fun G => ?_)
  have Z := Z.ad 1 16384
  show zV _ (gw D tys h) (⟨([(h, .inr (7, [.null]))] ++ [(h + 1, .inl (cB, 16384, .inl (fun _ => 0)))]), _⟩ : gs h) 10 [(0, .ref h)] [.ref (h + 1), .ref h]
  refine g_putF (ci := 7) (N := 1) (ty0 := tyX7) (ty := .array .byte) G.C Z.nm 0 rfl inX7 tyX7_ok nmX7 rfl 0 (by decide) tw_139 rfl rfl rfl rfl rfl (Nat.le_of_ble_eq_true rfl) d_Memory_init_10 ?_
  show zV _ (gw D tys h) (⟨([(h, .inr (7, [.ref (h + 1)]))] ++ [(h + 1, .inl (cB, 16384, .inl (fun _ => 0)))]), _⟩ : gs h) 13 [(0, .ref h)] []
  exact g_ret G Z rfl d_Memory_init_13
set_option maxRecDepth 8000 in
theorem c_Handle_init (l : Launch) (D : va_G) (tys : List (ClassId × FieldType)) : gMet l D tys y_Handle_init prog_6_method_1_code 1 1 40 0 0 [] 4 [.int 0, .null, .int 0, .int 0] (xHandle) := by
  refine g_met rfl rfl (fun h => Nat.le_of_ble_eq_true rfl) ?_
  intro h E G Z hl9 hn9
  show zV _ (gw D tys h) (⟨[(h, .inr (4, [.int 0, .null, .int 0, .int 0]))], _⟩ : gs h) 0 [(0, .ref h)] []
  refine z_aload_n G.C 0 rfl rfl d_Handle_init_0 ?_
  refine z_obj G.C tw_226 tw_102 tw_103 (by decide) (by decide) (Nat.le_of_ble_eq_true rfl) d_Handle_init_1 ?_
  refine z_aload_n G.C 0 rfl rfl d_Handle_init_4 ?_
  refine z_iconst (v := 0) G.C (by decide) d_Handle_init_5 ?_
  refine g_put (ci := 4) (N := 4) (ty0 := tyX4) (ty := .int) G.C 0 rfl inX4 tyX4_ok nmX4 rfl 0 (by decide) tw_227 rfl rfl rfl rfl (Nat.le_of_ble_eq_true rfl) d_Handle_init_6 ?_
  show zV _ (gw D tys h) (⟨[(h, .inr (4, [.int 0, .null, .int 0, .int 0]))], _⟩ : gs h) 9 [(0, .ref h)] []
  refine z_aload_n G.C 0 rfl rfl d_Handle_init_9 ?_
  refine z_null G.C d_Handle_init_10 ?_
  refine g_put (ci := 4) (N := 4) (ty0 := tyX4) (ty := .object "HostBench$HostFile") G.C 0 rfl inX4 tyX4_ok nmX4 rfl 1 (by decide) tw_231 rfl rfl rfl rfl (Nat.le_of_ble_eq_true rfl) d_Handle_init_11 ?_
  show zV _ (gw D tys h) (⟨[(h, .inr (4, [.int 0, .null, .int 0, .int 0]))], _⟩ : gs h) 14 [(0, .ref h)] []
  refine z_aload_n G.C 0 rfl rfl d_Handle_init_14 ?_
  refine z_iconst (v := 0) G.C (by decide) d_Handle_init_15 ?_
  refine g_put (ci := 4) (N := 4) (ty0 := tyX4) (ty := .int) G.C 0 rfl inX4 tyX4_ok nmX4 rfl 2 (by decide) tw_235 rfl rfl rfl rfl (Nat.le_of_ble_eq_true rfl) d_Handle_init_16 ?_
  show zV _ (gw D tys h) (⟨[(h, .inr (4, [.int 0, .null, .int 0, .int 0]))], _⟩ : gs h) 19 [(0, .ref h)] []
  refine z_aload_n G.C 0 rfl rfl d_Handle_init_19 ?_
  refine z_iconst (v := 0) G.C (by decide) d_Handle_init_20 ?_
  refine g_put (ci := 4) (N := 4) (ty0 := tyX4) (ty := .int) G.C 0 rfl inX4 tyX4_ok nmX4 rfl 3 (by decide) tw_238 rfl rfl rfl rfl (Nat.le_of_ble_eq_true rfl) d_Handle_init_21 ?_
  show zV _ (gw D tys h) (⟨[(h, .inr (4, [.int 0, .null, .int 0, .int 0]))], _⟩ : gs h) 24 [(0, .ref h)] []
  exact g_ret G Z rfl d_Handle_init_24
set_option maxRecDepth 8000 in
theorem c_Output_init (l : Launch) (D : va_G) (tys : List (ClassId × FieldType)) {cB : ClassId} (ht0 : tys[0]? = some (cB, .byte)) : gMet l D tys y_Output_init prog_10_method_1_code 1 2 61 2 2002 [] 8 [.null, .int 0] (xOutput cB) := by
  refine g_met rfl rfl (fun h => Nat.le_of_ble_eq_true rfl) ?_
  intro h E G Z hl9 hn9
  show zV _ (gw D tys h) (⟨[(h, .inr (8, [.null, .int 0]))], _⟩ : gs h) 0 [(0, .ref h)] []
  refine z_aload_n G.C 0 rfl rfl d_Output_init_0 ?_
  refine z_obj G.C tw_260 tw_102 tw_103 (by decide) (by decide) (Nat.le_of_ble_eq_true rfl) d_Output_init_1 ?_
  refine z_aload_n G.C 0 rfl rfl d_Output_init_4 ?_
  refine g_new (ci := 0) (fs := [.null, .int 0]) (ty := tyX0) G rfl (by decide) (by decide) inX0 tyX0_ok tw_261 tw_105 tw_77 rfl (fun j hj => by match j, hj with | 0, _ => rfl | 1, _ => rfl | j + 2, hj => exact absurd hj (by omega)) d_Output_init_5 (fun G => ?_)
  have Z := Z.ad 1 2
  show zV _ (gw D tys h) (⟨([(h, .inr (8, [.null, .int 0]))] ++ [(h + 1, .inr (0, [.null, .int 0]))]), _⟩ : gs h) 8 [(0, .ref h)] [.ref (h + 1), .ref h]
  refine z_dup G.C rfl d_Output_init_8 ?_
  refine z_sipush (v := 2000) G.C (by decide) d_Output_init_9 ?_
  refine g_init (ws := [(h, .inr (8, [.null, .int 0]))]) (As := [.int (nI 2000)]) (rest := [.ref (h + 1), .ref h]) (X := xBytes cB 2000) (k9 := 1) (mc' := 1) (ms' := 2000) G rfl (by decide) (by decide) (by simp only [eAd_l, hl9]; exact c_Bytes_init (cap := 2000) l D tys ht0 (by decide)) (s_Bytes cB 2000) tw_107 tw_77 tw_108 rfl ⟨by decide, by decide, by decide +kernel⟩ tw_262 ⟨by decide, by decide⟩ rfl rfl (Nat.le_of_ble_eq_true rfl) d_Output_init_12 (fun G => ?_)
  have Z := Z.ad 1 2000
  show zV _ (gw D tys h) (⟨([(h, .inr (8, [.null, .int 0]))] ++ xBytes cB 2000 (h + 1)), _⟩ : gs h) 15 [(0, .ref h)] [.ref (h + 1), .ref h]
  refine g_putF (ci := 8) (N := 2) (ty0 := tyX8) (ty := .object "HostBench$Bytes") G.C Z.nm 0 rfl inX8 tyX8_ok nmX8 rfl 0 (by decide) tw_263 rfl rfl rfl rfl rfl (Nat.le_of_ble_eq_true rfl) d_Output_init_15 ?_
  show zV _ (gw D tys h) (⟨([(h, .inr (8, [.ref (h + 1), .int 0]))] ++ xBytes cB 2000 (h + 1)), _⟩ : gs h) 18 [(0, .ref h)] []
  refine z_aload_n G.C 0 rfl rfl d_Output_init_18 ?_
  refine z_iconst (v := 0) G.C (by decide) d_Output_init_19 ?_
  refine g_put (ci := 8) (N := 2) (ty0 := tyX8) (ty := .int) G.C 0 rfl inX8 tyX8_ok nmX8 rfl 1 (by decide) tw_265 rfl rfl rfl rfl (Nat.le_of_ble_eq_true rfl) d_Output_init_20 ?_
  show zV _ (gw D tys h) (⟨([(h, .inr (8, [.ref (h + 1), .int 0]))] ++ xBytes cB 2000 (h + 1)), _⟩ : gs h) 23 [(0, .ref h)] []
  exact g_ret G Z rfl d_Output_init_23
set_option maxRecDepth 8000 in
theorem c_HostFile_init (l : Launch) (D : va_G) (tys : List (ClassId × FieldType)) {cB : ClassId} (ht0 : tys[0]? = some (cB, .byte)) : gMet l D tys y_HostFile_init prog_8_method_1_code 1 2 61 4 2028 [] 6 [.null, .null] (xHostFile cB) := by
  refine g_met rfl rfl (fun h => Nat.le_of_ble_eq_true rfl) ?_
  intro h E G Z hl9 hn9
  show zV _ (gw D tys h) (⟨[(h, .inr (6, [.null, .null]))], _⟩ : gs h) 0 [(0, .ref h)] []
  refine z_aload_n G.C 0 rfl rfl d_HostFile_init_0 ?_
  refine z_obj G.C tw_190 tw_102 tw_103 (by decide) (by decide) (Nat.le_of_ble_eq_true rfl) d_HostFile_init_1 ?_
  refine z_aload_n G.C 0 rfl rfl d_HostFile_init_4 ?_
  refine g_new (ci := 0) (fs := [.null, .int 0]) (ty := tyX0) G rfl (by decide) (by decide) inX0 tyX0_ok tw_191 tw_105 tw_77 rfl (fun j hj => by match j, hj with | 0, _ => rfl | 1, _ => rfl | j + 2, hj => exact absurd hj (by omega)) d_HostFile_init_5 (fun G => ?_)
  have Z := Z.ad 1 2
  show zV _ (gw D tys h) (⟨([(h, .inr (6, [.null, .null]))] ++ [(h + 1, .inr (0, [.null, .int 0]))]), _⟩ : gs h) 8 [(0, .ref h)] [.ref (h + 1), .ref h]
  refine z_dup G.C rfl d_HostFile_init_8 ?_
  refine z_bipush (v := 24) G.C (by decide) d_HostFile_init_9 ?_
  refine g_init (ws := [(h, .inr (6, [.null, .null]))]) (As := [.int (nI 24)]) (rest := [.ref (h + 1), .ref h]) (X := xBytes cB 24) (k9 := 1) (mc' := 1) (ms' := 24) G rfl (by decide) (by decide) (by simp only [eAd_l, hl9]; exact c_Bytes_init (cap := 24) l D tys ht0 (by decide)) (s_Bytes cB 24) tw_107 tw_77 tw_108 rfl ⟨by decide, by decide, by decide +kernel⟩ tw_192 ⟨by decide, by decide⟩ rfl rfl (Nat.le_of_ble_eq_true rfl) d_HostFile_init_11 (fun G => ?_)
  have Z := Z.ad 1 24
  show zV _ (gw D tys h) (⟨([(h, .inr (6, [.null, .null]))] ++ xBytes cB 24 (h + 1)), _⟩ : gs h) 14 [(0, .ref h)] [.ref (h + 1), .ref h]
  refine g_putF (ci := 6) (N := 2) (ty0 := tyX6) (ty := .object "HostBench$Bytes") G.C Z.nm 0 rfl inX6 tyX6_ok nmX6 rfl 0 (by decide) tw_193 rfl rfl rfl rfl rfl (Nat.le_of_ble_eq_true rfl) d_HostFile_init_14 ?_
  show zV _ (gw D tys h) (⟨([(h, .inr (6, [.ref (h + 1), .null]))] ++ xBytes cB 24 (h + 1)), _⟩ : gs h) 17 [(0, .ref h)] []
  refine z_aload_n G.C 0 rfl rfl d_HostFile_init_17 ?_
  refine g_new (ci := 0) (fs := [.null, .int 0]) (ty := tyX0) G rfl (by decide) (by decide) inX0 tyX0_ok tw_191 tw_105 tw_77 rfl (fun j hj => by match j, hj with | 0, _ => rfl | 1, _ => rfl | j + 2, hj => exact absurd hj (by omega)) d_HostFile_init_18 (fun G => ?_)
  have Z := Z.ad 1 2
  show zV _ (gw D tys h) (⟨(([(h, .inr (6, [.ref (h + 1), .null]))] ++ xBytes cB 24 (h + 1)) ++ [(h + 3, .inr (0, [.null, .int 0]))]), _⟩ : gs h) 21 [(0, .ref h)] [.ref (h + 3), .ref h]
  refine z_dup G.C rfl d_HostFile_init_21 ?_
  refine z_sipush (v := 2000) G.C (by decide) d_HostFile_init_22 ?_
  refine g_init (ws := ([(h, .inr (6, [.ref (h + 1), .null]))] ++ xBytes cB 24 (h + 1))) (As := [.int (nI 2000)]) (rest := [.ref (h + 3), .ref h]) (X := xBytes cB 2000) (k9 := 1) (mc' := 1) (ms' := 2000) G rfl (by decide) (by decide) (by simp only [eAd_l, hl9]; exact c_Bytes_init (cap := 2000) l D tys ht0 (by decide)) (s_Bytes cB 2000) tw_107 tw_77 tw_108 rfl ⟨by decide, by decide, by decide +kernel⟩ tw_192 ⟨by decide, by decide⟩ rfl rfl (Nat.le_of_ble_eq_true rfl) d_HostFile_init_25 (fun G => ?_)
  have Z := Z.ad 1 2000
  show zV _ (gw D tys h) (⟨(([(h, .inr (6, [.ref (h + 1), .null]))] ++ xBytes cB 24 (h + 1)) ++ xBytes cB 2000 (h + 3)), _⟩ : gs h) 28 [(0, .ref h)] [.ref (h + 3), .ref h]
  refine g_putF (ci := 6) (N := 2) (ty0 := tyX6) (ty := .object "HostBench$Bytes") G.C Z.nm 0 rfl inX6 tyX6_ok nmX6 rfl 1 (by decide) tw_197 rfl rfl rfl rfl rfl (Nat.le_of_ble_eq_true rfl) d_HostFile_init_28 ?_
  show zV _ (gw D tys h) (⟨(([(h, .inr (6, [.ref (h + 1), .ref (h + 3)]))] ++ xBytes cB 24 (h + 1)) ++ xBytes cB 2000 (h + 3)), _⟩ : gs h) 31 [(0, .ref h)] []
  exact g_ret G Z rfl d_HostFile_init_31
set_option maxRecDepth 8000 in
theorem c_Guest_init (l : Launch) (D : va_G) (tys : List (ClassId × FieldType)) {cB : ClassId} (ht0 : tys[0]? = some (cB, .byte)) {cI : ClassId} (ht1 : tys[1]? = some (cI, .int)) : gMet l D tys y_Guest_init prog_5_method_1_code 1 2 61 3 16417 [] 3 [.null, .null, .int 0, .int 0, .int 0, .int 0, .int 0, .long 0] (xGuest cB cI) := by
  refine g_met rfl rfl (fun h => Nat.le_of_ble_eq_true rfl) ?_
  intro h E G Z hl9 hn9
  show zV _ (gw D tys h) (⟨[(h, .inr (3, [.null, .null, .int 0, .int 0, .int 0, .int 0, .int 0, .long 0]))], _⟩ : gs h) 0 [(0, .ref h)] []
  refine z_aload_n G.C 0 rfl rfl d_Guest_init_0 ?_
  refine z_obj G.C tw_132 tw_102 tw_103 (by decide) (by decide) (Nat.le_of_ble_eq_true rfl) d_Guest_init_1 ?_
  refine z_aload_n G.C 0 rfl rfl d_Guest_init_4 ?_
  refine g_new (ci := 7) (fs := [.null]) (ty := tyX7) G rfl (by decide) (by decide) inX7 tyX7_ok tw_133 tw_134 tw_81 rfl (fun j hj => by match j, hj with | 0, _ => rfl | j + 1, hj => exact absurd hj (by omega)) d_Guest_init_5 (fun G => ?_)
  have Z := Z.ad 1 1
  show zV _ (gw D tys h) (⟨([(h, .inr (3, [.null, .null, .int 0, .int 0, .int 0, .int 0, .int 0, .long 0]))] ++ [(h + 1, .inr (7, [.null]))]), _⟩ : gs h) 8 [(0, .ref h)] [.ref (h + 1), .ref h]
  refine z_dup G.C rfl d_Guest_init_8 ?_
  refine g_init (ws := [(h, .inr (3, [.null, .null, .int 0, .int 0, .int 0, .int 0, .int 0, .long 0]))]) (As := []) (rest := [.ref (h + 1), .ref h]) (X := xMemory cB) (k9 := 0) (mc' := 1) (ms' := 16384) G rfl (by decide) (by decide) (by simp only [eAd_l, hl9]; exact c_Memory_init l D tys ht0) (s_Memory cB) tw_136 tw_81 tw_137 rfl ⟨by decide, by decide, by decide +kernel⟩ tw_135 ⟨by decide, by decide⟩ rfl rfl (Nat.le_of_ble_eq_true rfl) d_Guest_init_9 (fun G => ?_)
  have Z := Z.ad 1 16384
  show zV _ (gw D tys h) (⟨([(h, .inr (3, [.null, .null, .int 0, .int 0, .int 0, .int 0, .int 0, .long 0]))] ++ xMemory cB (h + 1)), _⟩ : gs h) 12 [(0, .ref h)] [.ref (h + 1), .ref h]
  refine g_putF (ci := 3) (N := 8) (ty0 := tyX3) (ty := .object "HostBench$Memory") G.C Z.nm 0 rfl inX3 tyX3_ok nmX3 rfl 0 (by decide) tw_144 rfl rfl rfl rfl rfl (Nat.le_of_ble_eq_true rfl) d_Guest_init_12 ?_
  show zV _ (gw D tys h) (⟨([(h, .inr (3, [.ref (h + 1), .null, .int 0, .int 0, .int 0, .int 0, .int 0, .long 0]))] ++ xMemory cB (h + 1)), _⟩ : gs h) 15 [(0, .ref h)] []
  refine z_aload_n G.C 0 rfl rfl d_Guest_init_15 ?_
  refine z_bipush (v := 32) G.C (by decide) d_Guest_init_16 ?_
  refine g_newa (atype := .int) (N := 32) (a0 := (32, .inl (fun _ => 0))) (t0 := 1) (ty := .int) (cB := cI) G rfl (by first | decide | omega) (by first | decide | omega) tw_143 rfl ht1 (fun _ => rfl) (by decide) (by decide) (by first | decide | (show cap * 1 ≤ 536870912; omega)) d_Guest_init_18 (fun G => ?_)
  have Z := Z.ad 1 32
  show zV _ (gw D tys h) (⟨(([(h, .inr (3, [.ref (h + 1), .null, .int 0, .int 0, .int 0, .int 0, .int 0, .long 0]))] ++ xMemory cB (h + 1)) ++ [(h + 3, .inl (cI, 32, .inl (fun _ => 0)))]), _⟩ : gs h) 20 [(0, .ref h)] [.ref (h + 3), .ref h]
  refine g_putF (ci := 3) (N := 8) (ty0 := tyX3) (ty := .array .int) G.C Z.nm 0 rfl inX3 tyX3_ok nmX3 rfl 1 (by decide) tw_147 rfl rfl rfl rfl rfl (Nat.le_of_ble_eq_true rfl) d_Guest_init_20 ?_
  show zV _ (gw D tys h) (⟨(([(h, .inr (3, [.ref (h + 1), .ref (h + 3), .int 0, .int 0, .int 0, .int 0, .int 0, .long 0]))] ++ xMemory cB (h + 1)) ++ [(h + 3, .inl (cI, 32, .inl (fun _ => 0)))]), _⟩ : gs h) 23 [(0, .ref h)] []
  refine z_aload_n G.C 0 rfl rfl d_Guest_init_23 ?_
  refine z_iconst (v := 0) G.C (by decide) d_Guest_init_24 ?_
  refine g_put (ci := 3) (N := 8) (ty0 := tyX3) (ty := .int) G.C 0 rfl inX3 tyX3_ok nmX3 rfl 2 (by decide) tw_148 rfl rfl rfl rfl (Nat.le_of_ble_eq_true rfl) d_Guest_init_25 ?_
  show zV _ (gw D tys h) (⟨(([(h, .inr (3, [.ref (h + 1), .ref (h + 3), .int 0, .int 0, .int 0, .int 0, .int 0, .long 0]))] ++ xMemory cB (h + 1)) ++ [(h + 3, .inl (cI, 32, .inl (fun _ => 0)))]), _⟩ : gs h) 28 [(0, .ref h)] []
  refine z_aload_n G.C 0 rfl rfl d_Guest_init_28 ?_
  refine z_iconst (v := 0) G.C (by decide) d_Guest_init_29 ?_
  refine g_put (ci := 3) (N := 8) (ty0 := tyX3) (ty := .int) G.C 0 rfl inX3 tyX3_ok nmX3 rfl 3 (by decide) tw_150 rfl rfl rfl rfl (Nat.le_of_ble_eq_true rfl) d_Guest_init_30 ?_
  show zV _ (gw D tys h) (⟨(([(h, .inr (3, [.ref (h + 1), .ref (h + 3), .int 0, .int 0, .int 0, .int 0, .int 0, .long 0]))] ++ xMemory cB (h + 1)) ++ [(h + 3, .inl (cI, 32, .inl (fun _ => 0)))]), _⟩ : gs h) 33 [(0, .ref h)] []
  refine z_aload_n G.C 0 rfl rfl d_Guest_init_33 ?_
  refine z_iconst (v := 0) G.C (by decide) d_Guest_init_34 ?_
  refine g_put (ci := 3) (N := 8) (ty0 := tyX3) (ty := .int) G.C 0 rfl inX3 tyX3_ok nmX3 rfl 4 (by decide) tw_151 rfl rfl rfl rfl (Nat.le_of_ble_eq_true rfl) d_Guest_init_35 ?_
  show zV _ (gw D tys h) (⟨(([(h, .inr (3, [.ref (h + 1), .ref (h + 3), .int 0, .int 0, .int 0, .int 0, .int 0, .long 0]))] ++ xMemory cB (h + 1)) ++ [(h + 3, .inl (cI, 32, .inl (fun _ => 0)))]), _⟩ : gs h) 38 [(0, .ref h)] []
  refine z_aload_n G.C 0 rfl rfl d_Guest_init_38 ?_
  refine z_iconst (v := 0) G.C (by decide) d_Guest_init_39 ?_
  refine g_put (ci := 3) (N := 8) (ty0 := tyX3) (ty := .int) G.C 0 rfl inX3 tyX3_ok nmX3 rfl 5 (by decide) tw_154 rfl rfl rfl rfl (Nat.le_of_ble_eq_true rfl) d_Guest_init_40 ?_
  show zV _ (gw D tys h) (⟨(([(h, .inr (3, [.ref (h + 1), .ref (h + 3), .int 0, .int 0, .int 0, .int 0, .int 0, .long 0]))] ++ xMemory cB (h + 1)) ++ [(h + 3, .inl (cI, 32, .inl (fun _ => 0)))]), _⟩ : gs h) 43 [(0, .ref h)] []
  refine z_aload_n G.C 0 rfl rfl d_Guest_init_43 ?_
  refine z_iconst (v := 0) G.C (by decide) d_Guest_init_44 ?_
  refine g_put (ci := 3) (N := 8) (ty0 := tyX3) (ty := .int) G.C 0 rfl inX3 tyX3_ok nmX3 rfl 6 (by decide) tw_156 rfl rfl rfl rfl (Nat.le_of_ble_eq_true rfl) d_Guest_init_45 ?_
  show zV _ (gw D tys h) (⟨(([(h, .inr (3, [.ref (h + 1), .ref (h + 3), .int 0, .int 0, .int 0, .int 0, .int 0, .long 0]))] ++ xMemory cB (h + 1)) ++ [(h + 3, .inl (cI, 32, .inl (fun _ => 0)))]), _⟩ : gs h) 48 [(0, .ref h)] []
  refine z_aload_n G.C 0 rfl rfl d_Guest_init_48 ?_
  refine z_lconst (v := 0) G.C rfl d_Guest_init_49 ?_
  refine g_put (ci := 3) (N := 8) (ty0 := tyX3) (ty := .long) G.C 0 rfl inX3 tyX3_ok nmX3 rfl 7 (by decide) tw_158 rfl rfl rfl rfl (Nat.le_of_ble_eq_true rfl) d_Guest_init_50 ?_
  show zV _ (gw D tys h) (⟨(([(h, .inr (3, [.ref (h + 1), .ref (h + 3), .int 0, .int 0, .int 0, .int 0, .int 0, .long 0]))] ++ xMemory cB (h + 1)) ++ [(h + 3, .inl (cI, 32, .inl (fun _ => 0)))]), _⟩ : gs h) 53 [(0, .ref h)] []
  exact g_ret G Z rfl d_Guest_init_53
