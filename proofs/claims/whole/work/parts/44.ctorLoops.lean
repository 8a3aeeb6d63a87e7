/-! the constructors with a loop -/
theorem g_eq {E : zE} {D : va_G} {tys : List (ClassId × FieldType)} {h : Nat} {S S' : gs h} {pc : Nat} {L : List (Nat × Value)} {st : List Value} (e : S.1 = S'.1) (k : zV E (gw D tys h) S' pc L st) : zV E (gw D tys h) S pc L st := by
  have := Subtype.ext e
  rw [this]; exact k
theorem g_aast {E : zE} {D : va_G} {tys : List (ClassId × FieldType)} {h : Nat} {cc : ByteArray} {own : String} {fr lo : Nat} {ws : va_W} {hs : seqW h ws} {pc pc' : Nat} {L : List (Nat × Value)} {st : List Value} {t0 qk ci a n v : Nat} {cA : ClassId} {r : vw_C} {vs : List Value} {f : Nat → Option Nat} {i : Int32} (C : zC E (gw D tys h) cc own fr lo) (q0 : Nat) (he : ws[q0]? = some (a, .inl (cA, n, .inr (.inr (.inr (.inr f)))))) (ht : tys[t0]? = some (cA, .object r.1)) (hv : ws[qk]? = some (v, .inr (ci, vs))) (hc : vwCl[ci]? = some r) (hi : vp_in i n) (d : zD cc pc .aastore 1 pc') (k : zV E (gw D tys h) ⟨ws.set q0 (a, .inl (cA, n, .inr (.inr (.inr (.inr (va_up f i.toNatClampNeg (some v))))))), hs.set he⟩ pc' L st) : zV E (gw D tys h) ⟨ws, hs⟩ pc L (.ref v :: .int i :: .ref a :: st) := z_aast (q0 := q0) C he ht hv hc hi rfl d k
def hsDesk  (h : Nat) : Nat → va_W
  | 0 => []
  | i + 1 => hsDesk  h i ++ xHandle  (h + (2 + 1 * i))
def fnDesk (h i : Nat) : Nat → Option Nat := fun j => if j < i then some (h + (2 + 1 * j)) else none
def wDesk (cH : ClassId) (h i : Nat) : va_W := (h, .inr (1, [.ref (h + 1)])) :: (h + 1, .inl (cH, 10, .inr (.inr (.inr (.inr (fnDesk h i)))))) :: hsDesk  h i
def xDesk (cH : ClassId) (h : Nat) : va_W := wDesk cH h 10
theorem hsDesk_len  (h : Nat) : ∀ i, (hsDesk  h i).length = 1 * i := by
  intro i
  induction i with
  | zero => rfl
  | succ i ih =>
    show (hsDesk  h i ++ xHandle  (h + (2 + 1 * i))).length = _
    rw [List.length_append, ih]
    show 1 * i + 1 = _
    omega
theorem wDesk_len (cH : ClassId) (h i : Nat) : (wDesk cH h i).length = 2 + 1 * i := by
  show (hsDesk  h i).length + 1 + 1 = _
  rw [hsDesk_len]; omega
theorem qDesk (cH : ClassId) (h : Nat) : ∀ i, seqW h (wDesk cH h i) := by
  intro i
  have hh : ∀ i, seqW (h + 2) (hsDesk  h i) := by
    intro i
    induction i with
    | zero => exact seqW.nil _
    | succ i ih =>
      refine ih.app ?_
      rw [hsDesk_len, Nat.add_assoc]
      exact s_Handle  _
  exact ((seqW.one h _).app (seqW.one (h + 1) _)).app (hh i)
theorem s_Desk (cH : ClassId) : ∀ g, seqW g (xDesk cH g) := fun g => qDesk cH g 10
theorem upDesk (h i : Nat) (hi : i < 10) : va_up (fnDesk h i) (nI i).toNatClampNeg (some (h + (2 + 1 * i))) = fnDesk h (i + 1) := by
  rw [nI_clamp (by omega)]
  funext j
  unfold va_up fnDesk
  by_cases e : j = i
  · subst e
    rw [if_pos rfl, if_pos (by omega)]
  · rw [if_neg e]
    by_cases z : j < i
    · rw [if_pos z, if_pos (by omega)]
    · rw [if_neg z, if_neg (by omega)]
set_option maxRecDepth 8000 in
theorem lDesk (l : Launch) (D : va_G) (tys : List (ClassId × FieldType)) {cH : ClassId} (ht2 : tys[2]? = some (cH, .object "HostBench$Handle")) (h : Nat) : ∀ (r i : Nat) (E : zE), r + i = 10 → gG E D tys h prog_3_method_1_code "HostBench$Desk" 2 61 1 11 50 (1 + 1 * i) (10 + 4 * i) → gZ E D h (xDesk cH) 11 50 → E.2.1 = l → E.2.2.2.2.2.2.2.2.2.2.1 = 2 → zV E (gw D tys h) ⟨wDesk cH h i, qDesk cH h i⟩ 15 [(1, .int (nI i)), (0, .ref h)] [] := by
  intro r
  induction r with
  | zero =>
    intro i E hi G Z hl9 hn9
    have hi : i = 10 := by omega
    subst hi
    refine z_iload_n G.C 0 rfl rfl d_Desk_init_15 ?_
    refine z_bipush (v := 10) G.C (by decide) d_Desk_init_16 ?_
    refine z_icmp_ge (tgt := 40) G.C d_Desk_init_18 rfl (fun _ => ?_) (fun c => absurd (show (10 : Int32) ≤ nI 10 by decide) c)
    · skip
      exact g_ret G Z rfl d_Desk_init_40
  | succ r ih =>
    intro i E hi G Z hl9 hn9
    refine z_iload_n G.C 0 rfl rfl d_Desk_init_15 ?_
    refine z_bipush (v := 10) G.C (by decide) d_Desk_init_16 ?_
    refine z_icmp_ge (tgt := 40) G.C d_Desk_init_18 rfl (fun c => ?_) (fun _ => ?_)
    · rw [show (10 : Int32) = nI 10 from rfl, nI_leI (by decide) (by omega)] at c
      omega
    refine z_aload_n G.C 1 rfl rfl d_Desk_init_21 ?_
    refine z_get (q0 := 0) (ci := 1) (N := 1) (v := .ref (h + 1)) G.C rfl inX1 rfl 0 (by decide) (Or.inl tw_249) rfl d_Desk_init_22 ?_
    refine z_iload_n G.C 0 rfl rfl d_Desk_init_25 ?_
    refine g_new (ci := 4) (fs := [.int 0, .null, .int 0, .int 0]) (ty := tyX4) G (by rw [wDesk_len]; omega) (by omega) (by omega) inX4 tyX4_ok tw_220 tw_222 tw_85 rfl (fun j hj => by match j, hj with | 0, _ => rfl | 1, _ => rfl | 2, _ => rfl | 3, _ => rfl | j + 4, hj => exact absurd hj (by omega)) d_Desk_init_26 (fun G => ?_)
    have Z := Z.ad 1 4
    refine z_dup G.C rfl d_Desk_init_29 ?_
    refine g_init (ws := wDesk cH h i) (As := []) (rest := [.ref (h + (wDesk cH h i).length), .int (nI i), .ref (h + 1)]) (X := xHandle ) (k9 := 0) (mc' := 0) (ms' := 0) G (by rw [wDesk_len]; omega) (by omega) (by omega) (by simp only [eAd_l, hl9]; exact c_Handle_init l D tys) (s_Handle ) tw_224 tw_85 tw_225 rfl ⟨by decide, by decide, by decide +kernel⟩ tw_223 ⟨by decide, by decide⟩ rfl rfl (Nat.le_of_ble_eq_true rfl) d_Desk_init_30 (fun G => ?_)
    have Z := Z.ad 0 0
    refine g_aast (t0 := 2) (qk := (wDesk cH h i).length) (ci := 4) (r := ("HostBench$Handle", TX4, 4)) G.C 1 rfl ht2 (by rw [List.getElem?_append_right (Nat.le_refl _), Nat.sub_self]; rfl) rfl (vp_in_nI (by omega) (by decide)) d_Desk_init_33 ?_
    refine z_iinc (n := 1) (nl := 2) (v := nI (i + 1)) G.C (by rw [eAd_n, eAd_n]; exact hn9) 0 rfl (show nI i + Int32.ofInt 1 = nI (i + 1) from nI_1 i) (by decide) rfl d_Desk_init_34 ?_
    refine z_goto (tgt := 15) G.C d_Desk_init_37 rfl ?_
    refine g_eq (S' := ⟨wDesk cH h (i + 1), qDesk cH h (i + 1)⟩) ?_ (ih (i + 1) _ (by omega) ?_ Z (by rw [eAd_l, eAd_l]; exact hl9) (by rw [eAd_n, eAd_n]; exact hn9))
    · show (wDesk cH h i ++ xHandle  (h + (wDesk cH h i).length)).set 1 (h + 1, .inl (cH, 10, .inr (.inr (.inr (.inr (va_up (fnDesk h i) (nI i).toNatClampNeg (some (h + (wDesk cH h i).length)))))))) = wDesk cH h (i + 1)
      rw [wDesk_len, upDesk h i (by omega)]
      rfl
    · have e1 : 1 + 1 * i + 1 + 0 = 1 + 1 * (i + 1) := by omega
      have e2 : 10 + 4 * i + 4 + 0 = 10 + 4 * (i + 1) := by omega
      rw [e1, e2] at G
      exact G
set_option maxRecDepth 8000 in
theorem c_Desk_init (l : Launch) (D : va_G) (tys : List (ClassId × FieldType)) {cH : ClassId} (ht2 : tys[2]? = some (cH, .object "HostBench$Handle")) : gMet l D tys y_Desk_init prog_3_method_1_code 2 2 61 11 50 [] 1 [.null] (xDesk cH) := by
  refine g_met rfl rfl (fun h => Nat.le_of_ble_eq_true rfl) ?_
  intro h E G Z hl9 hn9
  show zV _ (gw D tys h) (⟨[(h, .inr (1, [.null]))], _⟩ : gs h) 0 [(0, .ref h)] []
  refine z_aload_n G.C 0 rfl rfl d_Desk_init_0 ?_
  refine z_obj G.C tw_219 tw_102 tw_103 (by decide) (by decide) (Nat.le_of_ble_eq_true rfl) d_Desk_init_1 ?_
  refine z_aload_n G.C 0 rfl rfl d_Desk_init_4 ?_
  refine z_bipush (v := 10) G.C (by decide) d_Desk_init_5 ?_
  refine g_newq (N := 10) (t0 := 2) (cB := cH) G rfl (by decide) (by decide) tw_220 (Or.inl rfl) ht2 (by decide) (by decide) (by decide) d_Desk_init_7 (fun G => ?_)
  have Z := Z.ad 1 10
  refine g_putF (ci := 1) (N := 1) (ty0 := tyX1) (ty := .array (.object "HostBench$Handle")) G.C Z.nm 0 rfl inX1 tyX1_ok nmX1 rfl 0 (by decide) tw_249 rfl rfl rfl rfl rfl (Nat.le_of_ble_eq_true rfl) d_Desk_init_10 ?_
  refine z_iconst (v := 0) G.C (by decide) d_Desk_init_13 ?_
  refine z_istore_n (nl := 2) (i := 1) G.C (by rw [eAd_n]; exact hn9) rfl (by decide) rfl d_Desk_init_14 ?_
  refine g_eq (S' := ⟨wDesk cH h 0, qDesk cH h 0⟩) ?_ (lDesk l D tys  ht2 h 10 0 _ rfl G Z (by rw [eAd_l]; exact hl9) (by rw [eAd_n]; exact hn9))
  show [(h, _), (h + 1, _)] = [(h, _), (h + 1, _)]
  rfl
def hsFolder (cB : ClassId) (h : Nat) : Nat → va_W
  | 0 => []
  | i + 1 => hsFolder cB h i ++ xHostFile cB (h + (2 + 5 * i))
def fnFolder (h i : Nat) : Nat → Option Nat := fun j => if j < i then some (h + (2 + 5 * j)) else none
def wFolder (cB cF : ClassId) (h i : Nat) : va_W := (h, .inr (2, [.ref (h + 1), .int 0])) :: (h + 1, .inl (cF, 12, .inr (.inr (.inr (.inr (fnFolder h i)))))) :: hsFolder cB h i
def xFolder (cB cF : ClassId) (h : Nat) : va_W := wFolder cB cF h 12
theorem hsFolder_len (cB : ClassId) (h : Nat) : ∀ i, (hsFolder cB h i).length = 5 * i := by
  intro i
  induction i with
  | zero => rfl
  | succ i ih =>
    show (hsFolder cB h i ++ xHostFile cB (h + (2 + 5 * i))).length = _
    rw [List.length_append, ih]
    show 5 * i + 5 = _
    omega
theorem wFolder_len (cB cF : ClassId) (h i : Nat) : (wFolder cB cF h i).length = 2 + 5 * i := by
  show (hsFolder cB h i).length + 1 + 1 = _
  rw [hsFolder_len]; omega
theorem qFolder (cB cF : ClassId) (h : Nat) : ∀ i, seqW h (wFolder cB cF h i) := by
  intro i
  have hh : ∀ i, seqW (h + 2) (hsFolder cB h i) := by
    intro i
    induction i with
    | zero => exact seqW.nil _
    | succ i ih =>
      refine ih.app ?_
      rw [hsFolder_len, Nat.add_assoc]
      exact s_HostFile cB _
  exact ((seqW.one h _).app (seqW.one (h + 1) _)).app (hh i)
theorem s_Folder (cB cF : ClassId) : ∀ g, seqW g (xFolder cB cF g) := fun g => qFolder cB cF g 12
theorem upFolder (h i : Nat) (hi : i < 12) : va_up (fnFolder h i) (nI i).toNatClampNeg (some (h + (2 + 5 * i))) = fnFolder h (i + 1) := by
  rw [nI_clamp (by omega)]
  funext j
  unfold va_up fnFolder
  by_cases e : j = i
  · subst e
    rw [if_pos rfl, if_pos (by omega)]
  · rw [if_neg e]
    by_cases z : j < i
    · rw [if_pos z, if_pos (by omega)]
    · rw [if_neg z, if_neg (by omega)]
set_option maxRecDepth 8000 in
theorem lFolder (l : Launch) (D : va_G) (tys : List (ClassId × FieldType)) {cB cF : ClassId} (ht0 : tys[0]? = some (cB, .byte)) (ht3 : tys[3]? = some (cF, .object "HostBench$HostFile")) (h : Nat) : ∀ (r i : Nat) (E : zE), r + i = 12 → gG E D tys h prog_4_method_1_code "HostBench$Folder" 3 81 1 61 24372 (1 + 5 * i) (12 + 2030 * i) → gZ E D h (xFolder cB cF) 61 24372 → E.2.1 = l → E.2.2.2.2.2.2.2.2.2.2.1 = 2 → zV E (gw D tys h) ⟨wFolder cB cF h i, qFolder cB cF h i⟩ 15 [(1, .int (nI i)), (0, .ref h)] [] := by
  intro r
  induction r with
  | zero =>
    intro i E hi G Z hl9 hn9
    have hi : i = 12 := by omega
    subst hi
    refine z_iload_n G.C 0 rfl rfl d_Folder_init_15 ?_
    refine z_bipush (v := 12) G.C (by decide) d_Folder_init_16 ?_
    refine z_icmp_ge (tgt := 40) G.C d_Folder_init_18 rfl (fun _ => ?_) (fun c => absurd (show (12 : Int32) ≤ nI 12 by decide) c)
    · skip
      refine z_aload_n G.C 1 rfl rfl d_Folder_init_40 ?_
      refine z_iconst (v := 0) G.C (by decide) d_Folder_init_41 ?_
      refine g_put (ci := 2) (N := 2) (ty0 := tyX2) (ty := .int) G.C 0 rfl inX2 tyX2_ok nmX2 rfl 1 (by decide) tw_207 rfl rfl rfl rfl (Nat.le_of_ble_eq_true rfl) d_Folder_init_42 ?_
      exact g_ret G Z rfl d_Folder_init_45
  | succ r ih =>
    intro i E hi G Z hl9 hn9
    refine z_iload_n G.C 0 rfl rfl d_Folder_init_15 ?_
    refine z_bipush (v := 12) G.C (by decide) d_Folder_init_16 ?_
    refine z_icmp_ge (tgt := 40) G.C d_Folder_init_18 rfl (fun c => ?_) (fun _ => ?_)
    · rw [show (12 : Int32) = nI 12 from rfl, nI_leI (by decide) (by omega)] at c
      omega
    refine z_aload_n G.C 1 rfl rfl d_Folder_init_21 ?_
    refine z_get (q0 := 0) (ci := 2) (N := 2) (v := .ref (h + 1)) G.C rfl inX2 rfl 0 (by decide) (Or.inl tw_206) rfl d_Folder_init_22 ?_
    refine z_iload_n G.C 0 rfl rfl d_Folder_init_25 ?_
    refine g_new (ci := 6) (fs := [.null, .null]) (ty := tyX6) G (by rw [wFolder_len]; omega) (by omega) (by omega) inX6 tyX6_ok tw_184 tw_186 tw_83 rfl (fun j hj => by match j, hj with | 0, _ => rfl | 1, _ => rfl | j + 2, hj => exact absurd hj (by omega)) d_Folder_init_26 (fun G => ?_)
    have Z := Z.ad 1 2
    refine z_dup G.C rfl d_Folder_init_29 ?_
    refine g_init (ws := wFolder cB cF h i) (As := []) (rest := [.ref (h + (wFolder cB cF h i).length), .int (nI i), .ref (h + 1)]) (X := xHostFile cB) (k9 := 0) (mc' := 4) (ms' := 2028) G (by rw [wFolder_len]; omega) (by omega) (by omega) (by simp only [eAd_l, hl9]; exact c_HostFile_init l D tys ht0) (s_HostFile cB) tw_188 tw_83 tw_189 rfl ⟨by decide, by decide, by decide +kernel⟩ tw_187 ⟨by decide, by decide⟩ rfl rfl (Nat.le_of_ble_eq_true rfl) d_Folder_init_30 (fun G => ?_)
    have Z := Z.ad 4 2028
    refine g_aast (t0 := 3) (qk := (wFolder cB cF h i).length) (ci := 6) (r := ("HostBench$HostFile", TX6, 2)) G.C 1 rfl ht3 (by rw [List.getElem?_append_right (Nat.le_refl _), Nat.sub_self]; rfl) rfl (vp_in_nI (by omega) (by decide)) d_Folder_init_33 ?_
    refine z_iinc (n := 1) (nl := 2) (v := nI (i + 1)) G.C (by rw [eAd_n, eAd_n]; exact hn9) 0 rfl (show nI i + Int32.ofInt 1 = nI (i + 1) from nI_1 i) (by decide) rfl d_Folder_init_34 ?_
    refine z_goto (tgt := 15) G.C d_Folder_init_37 rfl ?_
    refine g_eq (S' := ⟨wFolder cB cF h (i + 1), qFolder cB cF h (i + 1)⟩) ?_ (ih (i + 1) _ (by omega) ?_ Z (by rw [eAd_l, eAd_l]; exact hl9) (by rw [eAd_n, eAd_n]; exact hn9))
    · show (wFolder cB cF h i ++ xHostFile cB (h + (wFolder cB cF h i).length)).set 1 (h + 1, .inl (cF, 12, .inr (.inr (.inr (.inr (va_up (fnFolder h i) (nI i).toNatClampNeg (some (h + (wFolder cB cF h i).length)))))))) = wFolder cB cF h (i + 1)
      rw [wFolder_len, upFolder h i (by omega)]
      rfl
    · have e1 : 1 + 5 * i + 1 + 4 = 1 + 5 * (i + 1) := by omega
      have e2 : 12 + 2030 * i + 2 + 2028 = 12 + 2030 * (i + 1) := by omega
      rw [e1, e2] at G
      exact G
set_option maxRecDepth 8000 in
theorem c_Folder_init (l : Launch) (D : va_G) (tys : List (ClassId × FieldType)) {cB cF : ClassId} (ht0 : tys[0]? = some (cB, .byte)) (ht3 : tys[3]? = some (cF, .object "HostBench$HostFile")) : gMet l D tys y_Folder_init prog_4_method_1_code 2 3 81 61 24372 [] 2 [.null, .int 0] (xFolder cB cF) := by
  refine g_met rfl rfl (fun h => Nat.le_of_ble_eq_true rfl) ?_
  intro h E G Z hl9 hn9
  show zV _ (gw D tys h) (⟨[(h, .inr (2, [.null, .int 0]))], _⟩ : gs h) 0 [(0, .ref h)] []
  refine z_aload_n G.C 0 rfl rfl d_Folder_init_0 ?_
  refine z_obj G.C tw_183 tw_102 tw_103 (by decide) (by decide) (Nat.le_of_ble_eq_true rfl) d_Folder_init_1 ?_
  refine z_aload_n G.C 0 rfl rfl d_Folder_init_4 ?_
  refine z_bipush (v := 12) G.C (by decide) d_Folder_init_5 ?_
  refine g_newq (N := 12) (t0 := 3) (cB := cF) G rfl (by decide) (by decide) tw_184 (Or.inr rfl) ht3 (by decide) (by decide) (by decide) d_Folder_init_7 (fun G => ?_)
  have Z := Z.ad 1 12
  refine g_putF (ci := 2) (N := 2) (ty0 := tyX2) (ty := .array (.object "HostBench$HostFile")) G.C Z.nm 0 rfl inX2 tyX2_ok nmX2 rfl 0 (by decide) tw_206 rfl rfl rfl rfl rfl (Nat.le_of_ble_eq_true rfl) d_Folder_init_10 ?_
  refine z_iconst (v := 0) G.C (by decide) d_Folder_init_13 ?_
  refine z_istore_n (nl := 2) (i := 1) G.C (by rw [eAd_n]; exact hn9) rfl (by decide) rfl d_Folder_init_14 ?_
  refine g_eq (S' := ⟨wFolder cB cF h 0, qFolder cB cF h 0⟩) ?_ (lFolder l D tys ht0 ht3 h 12 0 _ rfl G Z (by rw [eAd_l]; exact hl9) (by rw [eAd_n]; exact hn9))
  show [(h, _), (h + 1, _)] = [(h, _), (h + 1, _)]
  rfl
