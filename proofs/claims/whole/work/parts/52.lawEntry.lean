/-! the law's entry -/
theorem aL {a b : Cond} {A : Array Value} {s : State} (h : (Cond.and a b).before A s = true) : a.before A s = true := by
  rw [Cond.before_and, Bool.and_eq_true] at h
  exact h.1
theorem aR {a b : Cond} {A : Array Value} {s : State} (h : (Cond.and a b).before A s = true) : b.before A s = true := by
  rw [Cond.before_and, Bool.and_eq_true] at h
  exact h.2
theorem nr_0 {A : Array Value} {s : State} (h : (Cond.and given_1 narrow_1).before A s = true) : (Cond.not (Cond.castable "java/lang/IllegalStateException" "java/lang/IllegalArgumentException")).before A s = true := (aR (aL (aR (aL (aL (aR (aL (aL (aL (aR h))))))))))
theorem nr_1 {A : Array Value} {s : State} (h : (Cond.and given_1 narrow_1).before A s = true) : (Cond.not (Cond.castable "java/lang/UnsupportedOperationException" "java/lang/IllegalArgumentException")).before A s = true := (aL (aR (aR (aL (aL (aR (aL (aL (aL (aR h))))))))))
theorem nr_2 {A : Array Value} {s : State} (h : (Cond.and given_1 narrow_1).before A s = true) : (Cond.not (Cond.castable "java/lang/UnsupportedOperationException" "java/lang/IllegalStateException")).before A s = true := (aR (aL (aR (aL (aR (aR (aL (aL (aL (aR h))))))))))
theorem nr_3 {A : Array Value} {s : State} (h : (Cond.and given_1 narrow_1).before A s = true) : (Cond.isRef (Term.static "java/lang/Throwable" "UNASSIGNED_STACK" "[Ljava/lang/StackTraceElement;")).before A s = true := (aL (aR (aL (aL (aL (aL (aL (aL (aL (aR h))))))))))
theorem nr_4 {A : Array Value} {s : State} (h : (Cond.and given_1 narrow_1).before A s = true) : (Cond.isRef (Term.static "java/lang/Throwable" "SUPPRESSED_SENTINEL" "Ljava/util/List;")).before A s = true := (aR (aR (aL (aL (aL (aL (aL (aL (aL (aR h))))))))))
theorem nr_5 {A : Array Value} {s : State} (h : (Cond.and given_1 narrow_1).before A s = true) : (Cond.arrayOf (Term.static "HostBench$Host" "HEAP" "[I") FieldType.int).before A s = true := (aR (aL (aR (aL (aL (aL (aL (aL (aL (aR h))))))))))
theorem nr_6 {A : Array Value} {s : State} (h : (Cond.and given_1 narrow_1).before A s = true) : (Cond.eq (Term.length (Term.static "HostBench$Host" "HEAP" "[I")) (Term.int (4 : Int32))).before A s = true := (aL (aR (aR (aL (aL (aL (aL (aL (aL (aR h))))))))))
theorem nr_7 {A : Array Value} {s : State} (h : (Cond.and given_1 narrow_1).before A s = true) : (Cond.eq (Term.elem (Term.static "HostBench$Host" "HEAP" "[I") (Term.int (0 : Int32))) (Term.int (8192 : Int32))).before A s = true := (aR (aR (aR (aL (aL (aL (aL (aL (aL (aR h))))))))))
theorem nr_8 {A : Array Value} {s : State} (h : (Cond.and given_1 narrow_1).before A s = true) : (Cond.eq (Term.elem (Term.static "HostBench$Host" "HEAP" "[I") (Term.int (1 : Int32))) (Term.int (12288 : Int32))).before A s = true := (aL (aL (aL (aR (aL (aL (aL (aL (aL (aR h))))))))))
theorem nr_9 {A : Array Value} {s : State} (h : (Cond.and given_1 narrow_1).before A s = true) : (Cond.eq (Term.elem (Term.static "HostBench$Host" "HEAP" "[I") (Term.int (2 : Int32))) (Term.int (16384 : Int32))).before A s = true := (aR (aL (aL (aR (aL (aL (aL (aL (aL (aR h))))))))))
theorem nr_10 {A : Array Value} {s : State} (h : (Cond.and given_1 narrow_1).before A s = true) : (Cond.eq (Term.elem (Term.static "HostBench$Host" "HEAP" "[I") (Term.int (3 : Int32))) (Term.int (12288 : Int32))).before A s = true := (aL (aR (aL (aR (aL (aL (aL (aL (aL (aR h))))))))))
theorem nr_11 {A : Array Value} {s : State} (h : (Cond.and given_1 narrow_1).before A s = true) : (Cond.exactly (Term.string "HostBench" (75 : Nat)) "java/lang/String").before A s = true := (aL (aL (aR (aL (aR (aL (aR (aL (aL (aR h))))))))))
theorem nr_12 {A : Array Value} {s : State} (h : (Cond.and given_1 narrow_1).before A s = true) : (Cond.exactly (Term.string "HostBench" (93 : Nat)) "java/lang/String").before A s = true := (aL (aR (aR (aR (aR (aR (aR (aL (aL (aR h))))))))))
theorem nr_13 {A : Array Value} {s : State} (h : (Cond.and given_1 narrow_1).before A s = true) : (Cond.exactly (Term.string "HostBench" (114 : Nat)) "java/lang/String").before A s = true := (aL (aL (aR (aR (aR (aL (aL (aR (aL (aR h))))))))))
theorem nr_14 {A : Array Value} {s : State} (h : (Cond.and given_1 narrow_1).before A s = true) : (Cond.exactly (Term.string "HostBench" (122 : Nat)) "java/lang/String").before A s = true := (aL (aL (aR (aR (aR (aR (aL (aR (aL (aR h))))))))))
theorem nr_15 {A : Array Value} {s : State} (h : (Cond.and given_1 narrow_1).before A s = true) : (Cond.exactly (Term.string "HostBench" (133 : Nat)) "java/lang/String").before A s = true := (aL (aL (aL (aR (aL (aR (aR (aR (aL (aR h))))))))))
theorem nr_16 {A : Array Value} {s : State} (h : (Cond.and given_1 narrow_1).before A s = true) : (Cond.exactly (Term.string "HostBench" (135 : Nat)) "java/lang/String").before A s = true := (aR (aR (aR (aL (aL (aL (aL (aL (aR (aR h))))))))))
theorem nr_17 {A : Array Value} {s : State} (h : (Cond.and given_1 narrow_1).before A s = true) : (Cond.exactly (Term.string "HostBench" (147 : Nat)) "java/lang/String").before A s = true := (aL (aL (aL (aL (aR (aR (aL (aL (aR (aR h))))))))))
theorem nr_18 {A : Array Value} {s : State} (h : (Cond.and given_1 narrow_1).before A s = true) : (Cond.exactly (Term.string "HostBench" (180 : Nat)) "java/lang/String").before A s = true := (aL (aR (aR (aR (aR (aL (aR (aL (aR (aR h))))))))))
theorem nr_19 {A : Array Value} {s : State} (h : (Cond.and given_1 narrow_1).before A s = true) : (Cond.exactly (Term.string "HostBench" (183 : Nat)) "java/lang/String").before A s = true := (aL (aR (aR (aL (aL (aL (aL (aR (aR (aR h))))))))))
theorem nr_20 {A : Array Value} {s : State} (h : (Cond.and given_1 narrow_1).before A s = true) : (Cond.exactly (Term.string "HostBench" (204 : Nat)) "java/lang/String").before A s = true := (aR (aL (aL (aL (aL (aR (aL (aR (aR (aR h))))))))))
theorem nr_21 {A : Array Value} {s : State} (h : (Cond.and given_1 narrow_1).before A s = true) : (Cond.exactly (Term.string "HostBench" (212 : Nat)) "java/lang/String").before A s = true := (aR (aR (aR (aR (aL (aL (aR (aR (aR (aR h))))))))))
theorem e_tx {A : Array Value} {s : State} {k : Nat} {tx : String} (h1 : (Cond.stringRef "HostBench" k tx).before A s = true) (h2 : (Cond.exactly (Term.string "HostBench" k) "java/lang/String").before A s = true) : ∃ a, vk_R "HostBench" k tx a s := by
  obtain ⟨a, -, -, -, ha, -⟩ := Cond.exactly_spec h2
  exact ⟨a, vk_R.of h1 ha⟩
theorem e_arr {A : Array Value} {s : State} {ty : FieldType} (h : (Cond.arrayClass ty).before A s = true) (hp : ∀ C, ty ≠ .object C) : ∃ c : ClassId, ArrOfT s c ty ∧ va_RA s c ty := by
  obtain ⟨cA, kA, comp, hf, hk, hkind⟩ := Cond.arrayClass_spec h
  refine ⟨cA, fun n z => ⟨fun k h => (by cases h), kA, hk, comp, hkind⟩, ?_⟩
  cases ty with
  | object C => exact absurd rfl (hp C)
  | _ => exact hf
theorem e_ovr {s : State} {C : String} (h : va_AO C s) : ∃ c : ClassId, ArrOfT s c (.object C) ∧ va_RA s c (.object C) := by
  obtain ⟨comp, c, k, h1, h2, h3, h4, h5⟩ := Cond.arrayOver_spec h
  exact ⟨c, fun n z => ⟨fun k h => (by cases h), k, h3, comp, h4⟩, k, comp, h3, h4, h1, h5⟩
theorem e_el {A : Array Value} {s : State} {T : Term} {t : Nat} {cell : Cell} {k : Int32} {v : Int32} (ht : T.eval A s none [] s = some (.ref t)) (ha : s.arrayAt? t = some cell) (hk : ¬ k < 0) (h : (Cond.eq (Term.elem T (Term.int k)) (Term.int v)).before A s = true) : cell.slots[k.toNatClampNeg]? = some (.int v) := by
  obtain ⟨y, h1, h2⟩ := Cond.eq_one h
  have h2 : some (Value.int v) = some y := h2
  cases h2
  have h3 : (Term.int k).eval A s none [] s = some (.int k) := rfl
  simpa [Term.eval, ht, ha, hk] using h1
theorem e_len {A : Array Value} {s : State} {T : Term} (h : (Cond.eq (Term.length T) (Term.int 4)).before A s = true) : ∃ (t : Nat) (cell : Cell), T.eval A s none [] s = some (.ref t) ∧ s.arrayAt? t = some cell ∧ cell.slots.size = 4 := by
  obtain ⟨y, h1, h2⟩ := Cond.eq_one h
  have h2 : some (Value.int 4) = some y := h2
  cases h2
  obtain ⟨t, cell, ht, ha, hv⟩ := Term.length_spec h1
  refine ⟨t, cell, ht, ha, ?_⟩
  have hv : (4 : Int32) = cell.slots.size.toInt32 := Value.int.inj hv
  by_cases z : cell.slots.size < 2 ^ 31
  · have hv : nI 4 = nI cell.slots.size := hv
    exact ((nI_eq (by decide) z).mp hv).symm
  · exfalso
    simp [Term.eval, ht, ha, z] at h1
theorem e_heap {A : Array Value} {s : State} (h : (Cond.and given_1 narrow_1).before A s = true) : ∃ t : Nat, (Term.static "HostBench$Host" "HEAP" "[I").eval A s none [] s = some (.ref t) ∧ va_X t 4 zHp s s.heap ∧ t < s.heap.size := by
  obtain ⟨t, cell, ht, ha, hs⟩ := e_len (nr_6 h)
  obtain ⟨hc, -, -, -⟩ := State.arrayAt?_spec ha
  have hlt : t < s.heap.size := (Array.getElem?_eq_some_iff.mp hc).1
  have hz := Cond.arrayOf_spec (nr_5 h) ht hc
  have e0 := e_el ht ha (by decide) (nr_7 h)
  have e1 := e_el ht ha (by decide) (nr_8 h)
  have e2 := e_el ht ha (by decide) (nr_9 h)
  have e3 := e_el ht ha (by decide) (nr_10 h)
  refine ⟨t, ht, ⟨cell, hc, hz.1, hz.2, hs, fun j hj => ?_⟩, hlt⟩
  match j, hj with
  | 0, _ => exact e0
  | 1, _ => exact e1
  | 2, _ => exact e2
  | 3, _ => exact e3
  | j + 4, hj => exact absurd hj (by omega)
theorem e_txs {A : Array Value} {s : State} (hts : ∀ w ∈ lw_tbl, w.before A s = true) (h : (Cond.and given_1 narrow_1).before A s = true) : ∀ q ∈ zTx, ∃ a, vk_R "HostBench" q.1 q.2 a s := List.forall_mem_cons.mpr ⟨e_tx (hts _ (List.mem_append_right _ (tl2 176 rfl))) (nr_11 h), List.forall_mem_cons.mpr ⟨e_tx (hts _ (List.mem_append_right _ (tl2 229 rfl))) (nr_12 h), List.forall_mem_cons.mpr ⟨e_tx (hts _ (List.mem_append_right _ (tl3 24 rfl))) (nr_13 h), List.forall_mem_cons.mpr ⟨e_tx (hts _ (List.mem_append_right _ (tl3 47 rfl))) (nr_14 h), List.forall_mem_cons.mpr ⟨e_tx (hts _ (List.mem_append_right _ (tl3 61 rfl))) (nr_15 h), List.forall_mem_cons.mpr ⟨e_tx (hts _ (List.mem_append_right _ (tl3 69 rfl))) (nr_16 h), List.forall_mem_cons.mpr ⟨e_tx (hts _ (List.mem_append_right _ (tl3 77 rfl))) (nr_17 h), List.forall_mem_cons.mpr ⟨e_tx (hts _ (List.mem_append_right _ (tl4 149 rfl))) (nr_18 h), List.forall_mem_cons.mpr ⟨e_tx (hts _ (List.mem_append_right _ (tl4 163 rfl))) (nr_19 h), List.forall_mem_cons.mpr ⟨e_tx (hts _ (List.mem_append_right _ (tl4 172 rfl))) (nr_20 h), List.forall_mem_cons.mpr ⟨e_tx (hts _ (List.mem_append_right _ (tl4 181 rfl))) (nr_21 h), fun _ z => absurd z List.not_mem_nil⟩⟩⟩⟩⟩⟩⟩⟩⟩⟩⟩
theorem e_xs {A : Array Value} {s : State} (hts : ∀ w ∈ lw_tbl, w.before A s = true) : ∀ x ∈ zXs, va_Nw (.castable x x) s := List.forall_mem_cons.mpr ⟨va_Nw.of rfl (hts _ (List.mem_append_right _ (tl2 135 rfl))), List.forall_mem_cons.mpr ⟨va_Nw.of rfl (hts _ (List.mem_append_right _ (tl2 222 rfl))), List.forall_mem_cons.mpr ⟨va_Nw.of rfl (hts _ (List.mem_append_right _ (tl3 17 rfl))), List.forall_mem_cons.mpr ⟨va_Nw.of rfl (hts _ (List.mem_append_right _ (tl3 40 rfl))), List.forall_mem_cons.mpr ⟨va_Nw.of rfl (hts _ (List.mem_append_right _ (tl4 142 rfl))), fun _ z => absurd z List.not_mem_nil⟩⟩⟩⟩⟩
theorem e_ds {A : Array Value} {s : State} (hts : ∀ w ∈ lw_tbl, w.before A s = true) : ∀ x ∈ zDs, va_Nw (.declares ⟨x, "<init>", "(Ljava/lang/String;)V"⟩) s := List.forall_mem_cons.mpr ⟨va_Nw.of rfl (hts _ (List.mem_append_right _ (tl2 137 rfl))), List.forall_mem_cons.mpr ⟨va_Nw.of rfl (hts _ (List.mem_append_right _ (tl2 139 rfl))), List.forall_mem_cons.mpr ⟨va_Nw.of rfl (hts _ (List.mem_append_right _ (tl2 141 rfl))), fun _ z => absurd z List.not_mem_nil⟩⟩⟩
theorem e_cls {A : Array Value} {s : State} (hts : ∀ w ∈ tT, w.before A s = true) : ∃ D : va_G, ∀ (c : Nat) (q : vw_C), vwCl[c]? = some q → u_Kn s q.1 q.2.1 q.2.2 (D.1 c) (D.2 c) := by
  obtain ⟨c0, i0, h0⟩ := u_known (n := 2) hts inX0 (hts _ tw_105)
  obtain ⟨c1, i1, h1⟩ := u_known (n := 1) hts inX1 (hts _ tw_215)
  obtain ⟨c2, i2, h2⟩ := u_known (n := 2) hts inX2 (hts _ tw_179)
  obtain ⟨c3, i3, h3⟩ := u_known (n := 8) hts inX3 (hts _ tw_128)
  obtain ⟨c4, i4, h4⟩ := u_known (n := 4) hts inX4 (hts _ tw_222)
  obtain ⟨c5, i5, h5⟩ := u_known (n := 15) hts inX5 (hts _ tw_122)
  obtain ⟨c6, i6, h6⟩ := u_known (n := 2) hts inX6 (hts _ tw_186)
  obtain ⟨c7, i7, h7⟩ := u_known (n := 1) hts inX7 (hts _ tw_134)
  obtain ⟨c8, i8, h8⟩ := u_known (n := 2) hts inX8 (hts _ tw_256)
  obtain ⟨c9, i9, h9⟩ := u_known (n := 8) hts inX9 (hts _ tw_97)
  obtain ⟨c10, i10, h10⟩ := u_known (n := 30) hts inX10 (hts _ tw_979)
  refine ⟨(fun k => if k = 0 then c0 else if k = 1 then c1 else if k = 2 then c2 else if k = 3 then c3 else if k = 4 then c4 else if k = 5 then c5 else if k = 6 then c6 else if k = 7 then c7 else if k = 8 then c8 else if k = 9 then c9 else c10, fun k => if k = 0 then i0 else if k = 1 then i1 else if k = 2 then i2 else if k = 3 then i3 else if k = 4 then i4 else if k = 5 then i5 else if k = 6 then i6 else if k = 7 then i7 else if k = 8 then i8 else if k = 9 then i9 else i10), ?_⟩
  intro k q hq
  match k, hq with
  | 0, hq => cases hq; exact h0
  | 1, hq => cases hq; exact h1
  | 2, hq => cases hq; exact h2
  | 3, hq => cases hq; exact h3
  | 4, hq => cases hq; exact h4
  | 5, hq => cases hq; exact h5
  | 6, hq => cases hq; exact h6
  | 7, hq => cases hq; exact h7
  | 8, hq => cases hq; exact h8
  | 9, hq => cases hq; exact h9
  | 10, hq => cases hq; exact h10
  | k + 11, hq => exact absurd (List.getElem?_eq_some_iff.mp hq).1 (Nat.not_lt.mpr (Nat.le_add_left 11 k))
theorem e_world {s : State} {b : Nat} (hts : ∀ w ∈ lw_tbl, w.before #[Value.ref b] s = true) (h : (Cond.and given_1 narrow_1).before #[Value.ref b] s = true) : ∃ (D : va_G) (cB cI cH cF cL : ClassId), zO (gw D [(cB, .byte), (cI, .int), (cH, .object "HostBench$Handle"), (cF, .object "HostBench$HostFile"), (cL, .long)] s.heap.size) s ∧ va_AO "HostBench$Handle" s ∧ va_AO "HostBench$HostFile" s ∧ ncs s := by
  have ht2 : ∀ w ∈ tT, w.before #[Value.ref b] s = true := fun w hw => hts w (tT_in hw).1
  have o1 : va_AO "HostBench$Handle" s := va_AO.of (hts _ (List.mem_append_right _ (tl1 146 rfl)))
  have o2 : va_AO "HostBench$HostFile" s := va_AO.of (hts _ (List.mem_append_right _ (tl1 110 rfl)))
  obtain ⟨D, hD⟩ := e_cls ht2
  obtain ⟨cB, aB⟩ := e_arr (hts (.arrayClass .byte) (List.mem_append_right _ (tl1 45 rfl))) (fun C z => by cases z)
  obtain ⟨cI, aI⟩ := e_arr (hts (.arrayClass .int) (List.mem_append_right _ (tl1 68 rfl))) (fun C z => by cases z)
  obtain ⟨cL, aJ⟩ := e_arr (hts (.arrayClass .long) (List.mem_append_right _ (tl6 66 rfl))) (fun C z => by cases z)
  obtain ⟨cH, aH⟩ := e_ovr o1
  obtain ⟨cF, aF⟩ := e_ovr o2
  have hn : ∀ a : Nat, a < s.heap.size → ¬ s.heap.size ≤ a := fun a z => Nat.not_le.mpr z
  obtain ⟨t, e1, e2, e3⟩ := e_heap h
  refine ⟨D, cB, cI, cH, cF, cL, ⟨⟨hD, fun k q hq => ?_⟩, fun q hq => va_Nw.of rfl (hts _ (zNl_in q hq)), fun S => S.2.D, e_xs hts, e_ds hts, e_txs hts h, vx_Zqof (hts _ (List.mem_append_right _ (tl2 160 rfl))) (ht2 _ tw_88) (nr_3 h) hn, vx_Zqof (hts _ (List.mem_append_right _ (tl2 162 rfl))) (ht2 _ tw_88) (nr_4 h) hn, t, va_Zof (hts _ (List.mem_append_right _ (tl4 114 rfl))) (ht2 _ tw_79) e1 hn, e2, e3, hn t e3⟩, o1, o2, va_Nc.of (nr_0 h), va_Nc.of (nr_1 h), va_Nc.of (nr_2 h)⟩
  match k, hq with
  | 0, hq => cases hq; exact aB
  | 1, hq => cases hq; exact aI
  | 2, hq => cases hq; exact aH
  | 3, hq => cases hq; exact aF
  | 4, hq => cases hq; exact aJ
  | k + 5, hq => exact absurd (List.getElem?_eq_some_iff.mp hq).1 (Nat.not_lt.mpr (Nat.le_add_left 5 k))
