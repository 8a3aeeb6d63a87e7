/-- what surrounds a walk: machine, launch, surroundings, room, start, method, arguments, frames below, method, code, number of locals, goal, cells and slots made so far -/
abbrev zE : Type := Program × Launch × Env × Room × State × MethodId × Array Value × List Frame × Method × Code × Nat × (State → Prop) × Nat × Nat
/-- the numbers of a system: by kind and place; by row and place; which file stands where; which file a handle has; the steps -/
abbrev zS : Type := (Nat → Nat → Int32) × (Nat → Nat → Int32) × (Nat → Nat) × (Nat → Option Nat) × Int64
/-- a system's cells out of its numbers, the classes' numbers, the array classes, the addresses -/
abbrev zW (σ : Type) : Type := (σ → va_W) × va_G × List (ClassId × FieldType) × (Nat → Prop)
def gM (S : zS) (c i : Nat) : Int32 := S.1 c i
def gR (S : zS) (b i : Nat) : Int32 := S.2.1 b i
def gF (S : zS) (i : Nat) : Nat := S.2.2.1 i
def gH (S : zS) (h : Nat) : Option Nat := S.2.2.2.1 h
def gJ (S : zS) : Int64 := S.2.2.2.2
def sM (S : zS) (c i : Nat) (v : Int32) : zS := (fun b j => if b = c then (if j = i then v else S.1 b j) else S.1 b j, S.2)
def sR (S : zS) (c i : Nat) (v : Int32) : zS := (S.1, fun b j => if b = c then (if j = i then v else S.2.1 b j) else S.2.1 b j, S.2.2)
def sF (S : zS) (i v : Nat) : zS := (S.1, S.2.1, fun j => if j = i then v else S.2.2.1 j, S.2.2.2)
def sH (S : zS) (h : Nat) (v : Option Nat) : zS := (S.1, S.2.1, S.2.2.1, fun j => if j = h then v else S.2.2.2.1 j, S.2.2.2.2)
def sJ (S : zS) (v : Int64) : zS := (S.1, S.2.1, S.2.2.1, S.2.2.2.1, v)
/-- a field's entry: told by the tables, of the own class or of a nest mate's -/
def zLk (own : String) (idx : Nat) (ref name desc : String) : Prop := Cond.fieldLink own idx ref name desc ∈ tT ∨ (own, idx, ref, name, desc, "HostBench") ∈ zNl
/-- the four words of the heap -/
def zHp : Nat → Int32 := fun i => if i = 0 then 8192 else if i = 1 then 12288 else if i = 2 then 16384 else 12288
/-- the statics that are read: those of Throwable, and the row of the heap's words; none lies in A -/
def zZ (A : Nat → Prop) (U : State) (H : Heap) : Prop := vx_Zq Bundle.tN "UNASSIGNED_STACK" Bundle.steD A U H ∧ vx_Zq Bundle.tN "SUPPRESSED_SENTINEL" Bundle.listD A U H ∧ ∃ t : Nat, va_Z "HostBench$Host" "HEAP" "[I" (.ref t) A U H ∧ va_X t 4 zHp U H ∧ t < H.size ∧ ¬ A t
theorem zZ.moved {A : Nat → Prop} {u U : State} {H : Heap} (hvm : u.vm.Alike U.vm) (h : zZ A u H) : zZ A U H := by
  obtain ⟨h1, h2, t, h3, h4, h5⟩ := h
  exact ⟨h1.moved hvm, h2.moved hvm, t, va_Z.moved hvm h3, va_X.moved hvm h4, h5⟩
theorem zZ.kept {A : Nat → Prop} {U : State} {H H1 : Heap} (hs : H.size ≤ H1.size) (hq : ∀ a : Nat, a < H.size → ¬ A a → H1[a]? = H[a]?) (h : zZ A U H) : zZ A U H1 := by
  obtain ⟨h1, h2, t, h3, h4, h5, h6⟩ := h
  exact ⟨h1.kept hq, h2.kept hq, t, va_Z.kept h3 hq, va_X.kept h4 (hq t h5 h6), Nat.lt_of_lt_of_le h5 hs, h6⟩
/-- the exceptions that are thrown -/
def zXs : List String := ["java/lang/IndexOutOfBoundsException", "java/lang/IllegalArgumentException", "java/lang/IllegalStateException", "java/lang/UnsupportedOperationException", "java/util/NoSuchElementException"]
def zDs : List String := ["java/lang/RuntimeException", "java/lang/Exception", "java/lang/Throwable"]
/-- the texts: entry of HostBench's file, text -/
def zTx : List (Nat × String) := [(75, "the bytes would not all be in the memory"), (93, "no name, or too many bytes"), (114, "an open handle has that file"), (122, "there are as many files as there may be"), (133, "too many bytes would wait"), (135, "too many bytes, or a 0 among them"), (147, "not a number of steps that may be run"), (180, "there is nothing such to look at"), (183, "no such register"), (204, "no such file, or nothing such of it"), (212, "no such handle, or nothing such of it")]
/-- what holds at a method's start, beside its words -/
def zO {σ : Type} (w : zW σ) (U : State) : Prop := va_K w.2.1 vwCl w.2.2.1 U ∧ (∀ q ∈ zNl, va_Nw (.fieldLinkNest q.1 q.2.1 q.2.2.1 q.2.2.2.1 q.2.2.2.2.1 q.2.2.2.2.2) U) ∧ (∀ S, va_D w.2.2.2 (w.1 S)) ∧ (∀ x ∈ zXs, va_Nw (.castable x x) U) ∧ (∀ x ∈ zDs, va_Nw (.declares ⟨x, "<init>", "(Ljava/lang/String;)V"⟩) U) ∧ (∀ q ∈ zTx, ∃ a, vk_R "HostBench" q.1 q.2 a U) ∧ zZ w.2.2.2 U U.heap
theorem zO.warm {σ : Type} {w : zW σ} {s U : State} {locs : List Loc} (hW : s.WarmedH U.vm) (hS : va_S w.2.2.2 s.heap U.heap locs) (h : zO w s) : zO w U := by
  obtain ⟨h1, h2, h3, h4, h7, h5, h6⟩ := h
  exact ⟨va_K.moved hW.alike h1, fun q hq => va_Nw.warmF hW (h2 q hq), h3, fun x hx => va_Nw.warmC hW (h4 x hx), fun x hx => va_Nw.warmD hW (h7 x hx), fun q hq => by obtain ⟨a, ha⟩ := h5 q hq; exact ⟨a, ha.warm hW⟩, (h6.moved hW.alike).kept hS.1 hS.2.1⟩
theorem zO.call {σ : Type} {w : zW σ} {U : State} (g : JFrame) (mk : MethodId) (a : Array Value) (h : zO w U) : zO w (U.calling g mk a) := by
  obtain ⟨h1, h2, h3, h4, h7, h5, h6⟩ := h
  exact ⟨va_K.moved (u := U) (U := U.calling g mk a) (Vm.Alike.refl U.vm) h1, fun q hq => va_Nw.same rfl (u := U) (U := U.calling g mk a) rfl (h2 q hq), h3, fun x hx => va_Nw.same rfl (u := U) (U := U.calling g mk a) rfl (h4 x hx), fun x hx => va_Nw.same rfl (u := U) (U := U.calling g mk a) rfl (h7 x hx), fun q hq => by obtain ⟨b, hb⟩ := h5 q hq; exact ⟨b, vk_R.same (u := U) (U := U.calling g mk a) rfl hb⟩, zZ.moved (u := U) (U := U.calling g mk a) (Vm.Alike.refl U.vm) h6⟩
/-- from here the walk comes to its goal, whatever the heap is that holds the numbers S -/
def zV {σ : Type} (E : zE) (w : zW σ) (S : σ) (pc : Nat) (L : List (Nat × Value)) (st : List Value) : Prop :=
  match E with
  | (p, l, e, R, s, m, args, below, meth, c, nL, Q, kk9, nn9) => ∀ (H : Heap) (locs : List Loc) (ls : Array Slot), va_P w.2.1 vwCl (w.1 S) H → va_S w.2.2.2 s.heap H locs → lv_has ls nL L → W p l e R s m args below meth c H locs kk9 nn9 Q (F0 m pc ls st)
/-- what the walk may use -/
def zC {σ : Type} (E : zE) (w : zW σ) (cc : ByteArray) (own : String) (fr lo : Nat) : Prop :=
  match E with
  | (p, _, _, R, s, m, args, _, meth, c, nL, _, kk9, nn9) => p.tables.exec = Jvm.exec ∧ c.code = cc ∧ c.maxLocals = nL ∧ s.vm.findClass own = some m.cls ∧ (∀ w ∈ tT, w.before args s = true) ∧ zO w s ∧ fr ≤ R.frames ∧ lo ≤ R.locals ∧ meth.locks = false ∧ kk9 ≤ R.cells ∧ nn9 ≤ R.slots
def zPc {σ : Type} (w : zW σ) (av : List Value) (S : σ) : Array Value → State → Prop := va_Pc av (fun U => zO w U ∧ va_P w.2.1 vwCl (w.1 S) U.heap)
def zB {σ : Type} (w : zW σ) (u : σ) (t : State) : Prop := va_P w.2.1 vwCl (w.1 u) t.heap
/-- how a method ends: what it answers, by P, and the new numbers -/
def zQ {σ : Type} (w : zW σ) (P : Option Value → σ → Prop) : Array Value → State → Outcome → State → Prop := fun _ st oc t => (∃ (v : Option Value) (u : σ), oc = .returned v ∧ P v u ∧ zB w u t) ∧ va_F w.2.2.2 st t
abbrev zPi {σ : Type} (P : σ → Int32 → Prop) : Option Value → σ → Prop := fun v u => ∃ r : Int32, v = some (.int r) ∧ P u r
abbrev zPl {σ : Type} (P : σ → Int64 → Prop) : Option Value → σ → Prop := fun v u => ∃ r : Int64, v = some (.long r) ∧ P u r
abbrev zPv {σ : Type} (P : σ → Prop) : Option Value → σ → Prop := fun v u => v = none ∧ P u
/-- an answer that is null or one of the system's cells -/
abbrev zPq {σ : Type} (f : Nat → Nat) (P : σ → Option Nat → Prop) : Option Value → σ → Prop := fun v u => ∃ r : Option Nat, v = some (va_rf (r.map f)) ∧ P u r
def zGoal {σ : Type} (E : zE) (Qc : Array Value → State → Outcome → State → Prop) (w : zW σ) : Prop :=
  match E with
  | (_, _, _, _, s, _, args, below, _, _, _, Q, kk9, nn9) => Q = MQ below Qc args s kk9 nn9 w.2.2.2
theorem zPc_blind {σ : Type} (w : zW σ) (av : List Value) (S : σ) : FrameBlind (zPc w av S) := fun a U g mk h => ⟨h.1, h.2.1.call g mk a, h.2.2⟩
def zRm (fr lo : Nat) : Room := { frames := fr, cells := 0, slots := 0, locals := lo }
def zRt (E : zE) (ret : Option FieldType) : Prop := E.2.2.2.2.2.2.2.2.1.sig.returnType = ret
/-- a method's contract out of its walk -/
theorem z_met {σ : Type} {l : Launch} {y : MethodName} {cc : ByteArray} {n : Nat} {ret : Option FieldType} {fr lo : Nat} {w : zW σ} {S : σ} {av : List Value} {Qc : Array Value → State → Outcome → State → Prop} (hy : plainName y.cls = true) (hn : (lg_sl av).length ≤ n)
    (k : ∀ E : zE, zC E w cc y.cls fr lo → zGoal E Qc w → zRt E ret → E.2.2.2.2.2.2.2.2.1.name = y.name → E.2.2.2.2.2.2.2.2.2.2.1 = n → zV E w S 0 (lv_args 0 av) []) :
    Met l y (Cond.code y cc n ret :: tT) (zRm fr lo) (zPc w av S) Qc 0 0 w.2.2.2 := by
  refine Met.ofW (cc := cc) (maxL := n) (ret := ret) hy rfl ?_
  intro p e s m args below meth c s₁ B hml hv
  obtain ⟨rfl, hO, hP⟩ := hv
  have hts := atoms_spec (ws := Cond.code y cc n ret :: tT) B.pre
  have hl := lv_entry av (n := n) hn
  rw [lg_entry_eq]
  generalize (lg_sl av ++ List.replicate (n - (lg_sl av).length) Slot.unset).toArray = ls at hl ⊢
  exact k (p, l, e, (headSpec (Cond.code y cc n ret :: tT) (zRm fr lo)).room, s, m, av.toArray, below, meth, c, n, MQ below Qc av.toArray s 0 0 w.2.2.2, 0, 0) ⟨B.exec, B.bytes, hml, findClass_of_methodNamed B.named, fun w hw => hts w (List.mem_cons_of_mem _ hw), hO, Nat.le_refl _, Nat.le_refl _, B.notSynchronized, Nat.zero_le _, Nat.zero_le _⟩ rfl B.returns (name_of_methodNamed B.named B.method).1 rfl s.heap [] ls hP va_S.rf hl
theorem z_sub {σ : Type} {E : zE} {w : zW σ} {S : σ} {pc : Nat} {L L' : List (Nat × Value)} {st : List Value} (ks : List Nat) (hl : lv_pick L ks = L') (k : zV E w S pc L' st) : zV E w S pc L st := by
  obtain ⟨p, l, e, R, s, m, args, below, meth, c, nL, Q, kk9, nn9⟩ := E
  exact fun H locs ls h1 h2 h3 => k H locs ls h1 h2 (lv_sub h3 ks hl)
theorem z_nS {σ : Type} {E : zE} {w : zW σ} {S : σ} {pc : Nat} {L : List (Nat × Value)} {st : List Value} (k : ∀ T : σ, T = S → zV E w T pc L st) : zV E w S pc L st := k S rfl
theorem z_topi {σ : Type} {E : zE} {w : zW σ} {S : σ} {pc : Nat} {L : List (Nat × Value)} {st : List Value} {x : Int32} (k : ∀ y : Int32, y = x → zV E w S pc L (.int y :: st)) : zV E w S pc L (.int x :: st) := k x rfl
theorem z_topl {σ : Type} {E : zE} {w : zW σ} {S : σ} {pc : Nat} {L : List (Nat × Value)} {st : List Value} {x : Int64} (k : ∀ y : Int64, y = x → zV E w S pc L (.long y :: st)) : zV E w S pc L (.long x :: st) := k x rfl
theorem z_topq {σ : Type} {E : zE} {w : zW σ} {S : σ} {pc : Nat} {L : List (Nat × Value)} {st : List Value} {f : Nat → Nat} {x : Option Nat} (k : ∀ y : Option Nat, y = x → zV E w S pc L (va_rf (y.map f) :: st)) : zV E w S pc L (va_rf (x.map f) :: st) := k x rfl
theorem z_iconst {σ : Type} {E : zE} {w : zW σ} {cc : ByteArray} {own : String} {fr lo : Nat} {S : σ} {pc pc' : Nat} {L : List (Nat × Value)} {st : List Value} {n : Int} {v : Int32} (C : zC E w cc own fr lo) (hv : Int32.ofInt n = v) (d : zD cc pc (.iconst n) 1 pc') (k : zV E w S pc' L (.int v :: st)) : zV E w S pc L (st) := by
  obtain ⟨p, l, e, R, s, m, args, below, meth, c, nL, Q, kk9, nn9⟩ := E
  obtain ⟨d, rfl⟩ := d
  obtain ⟨hx, hb, hml, hown, hts, hO, hfr, hlo, hlk, hkk9, hnn9⟩ := C
  exact fun H locs ls h1 h2 h3 => lv_iconst hx hb d hv (k H locs ls h1 h2 h3)
theorem z_bipush {σ : Type} {E : zE} {w : zW σ} {cc : ByteArray} {own : String} {fr lo : Nat} {S : σ} {pc pc' : Nat} {L : List (Nat × Value)} {st : List Value} {n : Int} {v : Int32} (C : zC E w cc own fr lo) (hv : (Int8.ofInt n).toInt32 = v) (d : zD cc pc (.bipush n) 2 pc') (k : zV E w S pc' L (.int v :: st)) : zV E w S pc L (st) := by
  obtain ⟨p, l, e, R, s, m, args, below, meth, c, nL, Q, kk9, nn9⟩ := E
  obtain ⟨d, rfl⟩ := d
  obtain ⟨hx, hb, hml, hown, hts, hO, hfr, hlo, hlk, hkk9, hnn9⟩ := C
  exact fun H locs ls h1 h2 h3 => lv_bipush hx hb d hv (k H locs ls h1 h2 h3)
theorem z_sipush {σ : Type} {E : zE} {w : zW σ} {cc : ByteArray} {own : String} {fr lo : Nat} {S : σ} {pc pc' : Nat} {L : List (Nat × Value)} {st : List Value} {n : Int} {v : Int32} (C : zC E w cc own fr lo) (hv : (Int16.ofInt n).toInt32 = v) (d : zD cc pc (.sipush n) 3 pc') (k : zV E w S pc' L (.int v :: st)) : zV E w S pc L (st) := by
  obtain ⟨p, l, e, R, s, m, args, below, meth, c, nL, Q, kk9, nn9⟩ := E
  obtain ⟨d, rfl⟩ := d
  obtain ⟨hx, hb, hml, hown, hts, hO, hfr, hlo, hlk, hkk9, hnn9⟩ := C
  exact fun H locs ls h1 h2 h3 => lv_sipush hx hb d hv (k H locs ls h1 h2 h3)
theorem z_lconst {σ : Type} {E : zE} {w : zW σ} {cc : ByteArray} {own : String} {fr lo : Nat} {S : σ} {pc pc' : Nat} {L : List (Nat × Value)} {st : List Value} {n : Fin 2} {v : Int64} (C : zC E w cc own fr lo) (hv : Int64.ofNat (n : Nat) = v) (d : zD cc pc (.lconst n) 1 pc') (k : zV E w S pc' L (.long v :: st)) : zV E w S pc L (st) := by
  obtain ⟨p, l, e, R, s, m, args, below, meth, c, nL, Q, kk9, nn9⟩ := E
  obtain ⟨d, rfl⟩ := d
  obtain ⟨hx, hb, hml, hown, hts, hO, hfr, hlo, hlk, hkk9, hnn9⟩ := C
  exact fun H locs ls h1 h2 h3 => lv_lconst hx hb d hv (k H locs ls h1 h2 h3)
theorem z_ldc {σ : Type} {E : zE} {w : zW σ} {cc : ByteArray} {own : String} {fr lo : Nat} {S : σ} {pc pc' : Nat} {L : List (Nat × Value)} {st : List Value} {i : Nat} {v : Int32} (C : zC E w cc own fr lo) (hw : Cond.constant own i v ∈ tT) (d : zD cc pc (.ldc i) 2 pc') (k : zV E w S pc' L (.int v :: st)) : zV E w S pc L (st) := by
  obtain ⟨p, l, e, R, s, m, args, below, meth, c, nL, Q, kk9, nn9⟩ := E
  obtain ⟨d, rfl⟩ := d
  obtain ⟨hx, hb, hml, hown, hts, hO, hfr, hlo, hlk, hkk9, hnn9⟩ := C
  exact fun H locs ls h1 h2 h3 => lv_ldc hx hb hown (hts _ hw) d (k H locs ls h1 h2 h3)
theorem z_ldc_w {σ : Type} {E : zE} {w : zW σ} {cc : ByteArray} {own : String} {fr lo : Nat} {S : σ} {pc pc' : Nat} {L : List (Nat × Value)} {st : List Value} {i : Nat} {v : Int32} (C : zC E w cc own fr lo) (hw : Cond.constant own i v ∈ tT) (d : zD cc pc (.ldc_w i) 3 pc') (k : zV E w S pc' L (.int v :: st)) : zV E w S pc L (st) := by
  obtain ⟨p, l, e, R, s, m, args, below, meth, c, nL, Q, kk9, nn9⟩ := E
  obtain ⟨d, rfl⟩ := d
  obtain ⟨hx, hb, hml, hown, hts, hO, hfr, hlo, hlk, hkk9, hnn9⟩ := C
  exact fun H locs ls h1 h2 h3 => lv_ldcw hx hb hown (hts _ hw) d (k H locs ls h1 h2 h3)
theorem z_ldc2 {σ : Type} {E : zE} {w : zW σ} {cc : ByteArray} {own : String} {fr lo : Nat} {S : σ} {pc pc' : Nat} {L : List (Nat × Value)} {st : List Value} {i : Nat} {v : Int64} (C : zC E w cc own fr lo) (hw : Cond.constantLong own i v ∈ tT) (d : zD cc pc (.ldc2_w i) 3 pc') (k : zV E w S pc' L (.long v :: st)) : zV E w S pc L (st) := by
  obtain ⟨p, l, e, R, s, m, args, below, meth, c, nL, Q, kk9, nn9⟩ := E
  obtain ⟨d, rfl⟩ := d
  obtain ⟨hx, hb, hml, hown, hts, hO, hfr, hlo, hlk, hkk9, hnn9⟩ := C
  exact fun H locs ls h1 h2 h3 => lv_ldc2 hx hb hown (hts _ hw) d (k H locs ls h1 h2 h3)
theorem z_iload_n {σ : Type} {E : zE} {w : zW σ} {cc : ByteArray} {own : String} {fr lo : Nat} {S : σ} {pc pc' : Nat} {L : List (Nat × Value)} {st : List Value} {f : Fin 4} {i : Nat} {x : Int32} (C : zC E w cc own fr lo) (q : Nat) (hq : L[q]? = some (i, .int x)) (hi : (f : Nat) = i) (d : zD cc pc (.iload_n f) 1 pc') (k : zV E w S pc' L (.int x :: st)) : zV E w S pc L (st) := by
  obtain ⟨p, l, e, R, s, m, args, below, meth, c, nL, Q, kk9, nn9⟩ := E
  obtain ⟨d, rfl⟩ := d
  obtain ⟨hx, hb, hml, hown, hts, hO, hfr, hlo, hlk, hkk9, hnn9⟩ := C
  exact fun H locs ls h1 h2 h3 => lv_iload_n hx hb d hi (lv_at h3 q hq) (k H locs ls h1 h2 h3)
theorem z_iload {σ : Type} {E : zE} {w : zW σ} {cc : ByteArray} {own : String} {fr lo : Nat} {S : σ} {pc pc' : Nat} {L : List (Nat × Value)} {st : List Value} {i : Nat} {x : Int32} (C : zC E w cc own fr lo) (q : Nat) (hq : L[q]? = some (i, .int x)) (d : zD cc pc (.iload i) 2 pc') (k : zV E w S pc' L (.int x :: st)) : zV E w S pc L (st) := by
  obtain ⟨p, l, e, R, s, m, args, below, meth, c, nL, Q, kk9, nn9⟩ := E
  obtain ⟨d, rfl⟩ := d
  obtain ⟨hx, hb, hml, hown, hts, hO, hfr, hlo, hlk, hkk9, hnn9⟩ := C
  exact fun H locs ls h1 h2 h3 => lv_iload hx hb d (lv_at h3 q hq) (k H locs ls h1 h2 h3)
theorem z_lload_n {σ : Type} {E : zE} {w : zW σ} {cc : ByteArray} {own : String} {fr lo : Nat} {S : σ} {pc pc' : Nat} {L : List (Nat × Value)} {st : List Value} {f : Fin 4} {i : Nat} {x : Int64} (C : zC E w cc own fr lo) (q : Nat) (hq : L[q]? = some (i, .long x)) (hi : (f : Nat) = i) (d : zD cc pc (.lload_n f) 1 pc') (k : zV E w S pc' L (.long x :: st)) : zV E w S pc L (st) := by
  obtain ⟨p, l, e, R, s, m, args, below, meth, c, nL, Q, kk9, nn9⟩ := E
  obtain ⟨d, rfl⟩ := d
  obtain ⟨hx, hb, hml, hown, hts, hO, hfr, hlo, hlk, hkk9, hnn9⟩ := C
  exact fun H locs ls h1 h2 h3 => lv_lload_n hx hb d hi (lv_at h3 q hq) (k H locs ls h1 h2 h3)
theorem z_lload {σ : Type} {E : zE} {w : zW σ} {cc : ByteArray} {own : String} {fr lo : Nat} {S : σ} {pc pc' : Nat} {L : List (Nat × Value)} {st : List Value} {i : Nat} {x : Int64} (C : zC E w cc own fr lo) (q : Nat) (hq : L[q]? = some (i, .long x)) (d : zD cc pc (.lload i) 2 pc') (k : zV E w S pc' L (.long x :: st)) : zV E w S pc L (st) := by
  obtain ⟨p, l, e, R, s, m, args, below, meth, c, nL, Q, kk9, nn9⟩ := E
  obtain ⟨d, rfl⟩ := d
  obtain ⟨hx, hb, hml, hown, hts, hO, hfr, hlo, hlk, hkk9, hnn9⟩ := C
  exact fun H locs ls h1 h2 h3 => lv_lload hx hb d (lv_at h3 q hq) (k H locs ls h1 h2 h3)
theorem z_aload_n {σ : Type} {E : zE} {w : zW σ} {cc : ByteArray} {own : String} {fr lo : Nat} {S : σ} {pc pc' : Nat} {L : List (Nat × Value)} {st : List Value} {f : Fin 4} {i : Nat} {x : Nat} (C : zC E w cc own fr lo) (q : Nat) (hq : L[q]? = some (i, .ref x)) (hi : (f : Nat) = i) (d : zD cc pc (.aload_n f) 1 pc') (k : zV E w S pc' L (.ref x :: st)) : zV E w S pc L (st) := by
  obtain ⟨p, l, e, R, s, m, args, below, meth, c, nL, Q, kk9, nn9⟩ := E
  obtain ⟨d, rfl⟩ := d
  obtain ⟨hx, hb, hml, hown, hts, hO, hfr, hlo, hlk, hkk9, hnn9⟩ := C
  exact fun H locs ls h1 h2 h3 => lv_aload_n hx hb d hi (lv_at h3 q hq) (k H locs ls h1 h2 h3)
theorem z_aload {σ : Type} {E : zE} {w : zW σ} {cc : ByteArray} {own : String} {fr lo : Nat} {S : σ} {pc pc' : Nat} {L : List (Nat × Value)} {st : List Value} {i : Nat} {x : Nat} (C : zC E w cc own fr lo) (q : Nat) (hq : L[q]? = some (i, .ref x)) (d : zD cc pc (.aload i) 2 pc') (k : zV E w S pc' L (.ref x :: st)) : zV E w S pc L (st) := by
  obtain ⟨p, l, e, R, s, m, args, below, meth, c, nL, Q, kk9, nn9⟩ := E
  obtain ⟨d, rfl⟩ := d
  obtain ⟨hx, hb, hml, hown, hts, hO, hfr, hlo, hlk, hkk9, hnn9⟩ := C
  exact fun H locs ls h1 h2 h3 => lv_aload hx hb d (lv_at h3 q hq) (k H locs ls h1 h2 h3)
theorem z_aload_nq {σ : Type} {E : zE} {w : zW σ} {cc : ByteArray} {own : String} {fr lo : Nat} {S : σ} {pc pc' : Nat} {L : List (Nat × Value)} {st : List Value} {f : Fin 4} {i : Nat} {x : Option Nat} (C : zC E w cc own fr lo) (q : Nat) (hq : L[q]? = some (i, va_rf x)) (hi : (f : Nat) = i) (d : zD cc pc (.aload_n f) 1 pc') (k : zV E w S pc' L (va_rf x :: st)) : zV E w S pc L st := by
  cases x with
  | none =>
    obtain ⟨p, l, e, R, s, m, args, below, meth, c, nL, Q, kk9, nn9⟩ := E
    obtain ⟨d, rfl⟩ := d
    obtain ⟨hx, hb, hml, hown, hts, hO, hfr, hlo, hlk, hkk9, hnn9⟩ := C
    exact fun H locs ls h1 h2 h3 => lv_aload_nN hx hb d hi (lv_at h3 q hq) (k H locs ls h1 h2 h3)
  | some y => exact z_aload_n C q hq hi d k
theorem z_aloadq {σ : Type} {E : zE} {w : zW σ} {cc : ByteArray} {own : String} {fr lo : Nat} {S : σ} {pc pc' : Nat} {L : List (Nat × Value)} {st : List Value} {i : Nat} {x : Option Nat} (C : zC E w cc own fr lo) (q : Nat) (hq : L[q]? = some (i, va_rf x)) (d : zD cc pc (.aload i) 2 pc') (k : zV E w S pc' L (va_rf x :: st)) : zV E w S pc L st := by
  cases x with
  | none =>
    obtain ⟨p, l, e, R, s, m, args, below, meth, c, nL, Q, kk9, nn9⟩ := E
    obtain ⟨d, rfl⟩ := d
    obtain ⟨hx, hb, hml, hown, hts, hO, hfr, hlo, hlk, hkk9, hnn9⟩ := C
    exact fun H locs ls h1 h2 h3 => lv_aloadN hx hb d (lv_at h3 q hq) (k H locs ls h1 h2 h3)
  | some y => exact z_aload C q hq d k
theorem z_istore_n {σ : Type} {E : zE} {w : zW σ} {cc : ByteArray} {own : String} {fr lo : Nat} {S : σ} {pc pc' : Nat} {L : List (Nat × Value)} {st : List Value} {f : Fin 4} {i nl : Nat} {x : Int32} {L' : List (Nat × Value)} (C : zC E w cc own fr lo) (hnl : E.2.2.2.2.2.2.2.2.2.2.1 = nl) (hi : (f : Nat) = i) (hn : i < nl) (hl : (i, Value.int x) :: L.filter (fun q => !(q.1 == i) && !(q.1 + 1 == i && q.2.category == 2)) = L') (d : zD cc pc (.istore_n f) 1 pc') (k : zV E w S pc' L' st) : zV E w S pc L (.int x :: st) := by
  obtain ⟨p, l, e, R, s, m, args, below, meth, c, nL, Q, kk9, nn9⟩ := E
  obtain ⟨d, rfl⟩ := d
  obtain ⟨hx, hb, hml, hown, hts, hO, hfr, hlo, hlk, hkk9, hnn9⟩ := C
  subst hnl
  exact fun H locs ls h1 h2 h3 => lv_istore_n hx hb d hi h3 hn hl (fun ls h3 => k H locs ls h1 h2 h3)
theorem z_istore {σ : Type} {E : zE} {w : zW σ} {cc : ByteArray} {own : String} {fr lo : Nat} {S : σ} {pc pc' : Nat} {L : List (Nat × Value)} {st : List Value} {i nl : Nat} {x : Int32} {L' : List (Nat × Value)} (C : zC E w cc own fr lo) (hnl : E.2.2.2.2.2.2.2.2.2.2.1 = nl) (hn : i < nl) (hl : (i, Value.int x) :: L.filter (fun q => !(q.1 == i) && !(q.1 + 1 == i && q.2.category == 2)) = L') (d : zD cc pc (.istore i) 2 pc') (k : zV E w S pc' L' st) : zV E w S pc L (.int x :: st) := by
  obtain ⟨p, l, e, R, s, m, args, below, meth, c, nL, Q, kk9, nn9⟩ := E
  obtain ⟨d, rfl⟩ := d
  obtain ⟨hx, hb, hml, hown, hts, hO, hfr, hlo, hlk, hkk9, hnn9⟩ := C
  subst hnl
  exact fun H locs ls h1 h2 h3 => lv_istore hx hb d h3 hn hl (fun ls h3 => k H locs ls h1 h2 h3)
theorem z_lstore_n {σ : Type} {E : zE} {w : zW σ} {cc : ByteArray} {own : String} {fr lo : Nat} {S : σ} {pc pc' : Nat} {L : List (Nat × Value)} {st : List Value} {f : Fin 4} {i nl : Nat} {x : Int64} {L' : List (Nat × Value)} (C : zC E w cc own fr lo) (hnl : E.2.2.2.2.2.2.2.2.2.2.1 = nl) (hi : (f : Nat) = i) (hn : i + 1 < nl) (hl : (i, Value.long x) :: L.filter (fun q => !(q.1 == i) && (!(q.1 == i + 1) && !(q.1 + 1 == i && q.2.category == 2))) = L') (d : zD cc pc (.lstore_n f) 1 pc') (k : zV E w S pc' L' st) : zV E w S pc L (.long x :: st) := by
  obtain ⟨p, l, e, R, s, m, args, below, meth, c, nL, Q, kk9, nn9⟩ := E
  obtain ⟨d, rfl⟩ := d
  obtain ⟨hx, hb, hml, hown, hts, hO, hfr, hlo, hlk, hkk9, hnn9⟩ := C
  subst hnl
  exact fun H locs ls h1 h2 h3 => lv_lstore_n hx hb d hi h3 hn hl (fun ls h3 => k H locs ls h1 h2 h3)
theorem z_lstore {σ : Type} {E : zE} {w : zW σ} {cc : ByteArray} {own : String} {fr lo : Nat} {S : σ} {pc pc' : Nat} {L : List (Nat × Value)} {st : List Value} {i nl : Nat} {x : Int64} {L' : List (Nat × Value)} (C : zC E w cc own fr lo) (hnl : E.2.2.2.2.2.2.2.2.2.2.1 = nl) (hn : i + 1 < nl) (hl : (i, Value.long x) :: L.filter (fun q => !(q.1 == i) && (!(q.1 == i + 1) && !(q.1 + 1 == i && q.2.category == 2))) = L') (d : zD cc pc (.lstore i) 2 pc') (k : zV E w S pc' L' st) : zV E w S pc L (.long x :: st) := by
  obtain ⟨p, l, e, R, s, m, args, below, meth, c, nL, Q, kk9, nn9⟩ := E
  obtain ⟨d, rfl⟩ := d
  obtain ⟨hx, hb, hml, hown, hts, hO, hfr, hlo, hlk, hkk9, hnn9⟩ := C
  subst hnl
  exact fun H locs ls h1 h2 h3 => lv_lstore hx hb d h3 hn hl (fun ls h3 => k H locs ls h1 h2 h3)
theorem z_astore_n {σ : Type} {E : zE} {w : zW σ} {cc : ByteArray} {own : String} {fr lo : Nat} {S : σ} {pc pc' : Nat} {L : List (Nat × Value)} {st : List Value} {f : Fin 4} {i nl : Nat} {x : Nat} {L' : List (Nat × Value)} (C : zC E w cc own fr lo) (hnl : E.2.2.2.2.2.2.2.2.2.2.1 = nl) (hi : (f : Nat) = i) (hn : i < nl) (hl : (i, Value.ref x) :: L.filter (fun q => !(q.1 == i) && !(q.1 + 1 == i && q.2.category == 2)) = L') (d : zD cc pc (.astore_n f) 1 pc') (k : zV E w S pc' L' st) : zV E w S pc L (.ref x :: st) := by
  obtain ⟨p, l, e, R, s, m, args, below, meth, c, nL, Q, kk9, nn9⟩ := E
  obtain ⟨d, rfl⟩ := d
  obtain ⟨hx, hb, hml, hown, hts, hO, hfr, hlo, hlk, hkk9, hnn9⟩ := C
  subst hnl
  exact fun H locs ls h1 h2 h3 => lv_astore_n hx hb d hi h3 hn hl (fun ls h3 => k H locs ls h1 h2 h3)
theorem z_astore {σ : Type} {E : zE} {w : zW σ} {cc : ByteArray} {own : String} {fr lo : Nat} {S : σ} {pc pc' : Nat} {L : List (Nat × Value)} {st : List Value} {i nl : Nat} {x : Nat} {L' : List (Nat × Value)} (C : zC E w cc own fr lo) (hnl : E.2.2.2.2.2.2.2.2.2.2.1 = nl) (hn : i < nl) (hl : (i, Value.ref x) :: L.filter (fun q => !(q.1 == i) && !(q.1 + 1 == i && q.2.category == 2)) = L') (d : zD cc pc (.astore i) 2 pc') (k : zV E w S pc' L' st) : zV E w S pc L (.ref x :: st) := by
  obtain ⟨p, l, e, R, s, m, args, below, meth, c, nL, Q, kk9, nn9⟩ := E
  obtain ⟨d, rfl⟩ := d
  obtain ⟨hx, hb, hml, hown, hts, hO, hfr, hlo, hlk, hkk9, hnn9⟩ := C
  subst hnl
  exact fun H locs ls h1 h2 h3 => lv_astore hx hb d h3 hn hl (fun ls h3 => k H locs ls h1 h2 h3)
theorem z_astore_nq {σ : Type} {E : zE} {w : zW σ} {cc : ByteArray} {own : String} {fr lo : Nat} {S : σ} {pc pc' : Nat} {L : List (Nat × Value)} {st : List Value} {f : Fin 4} {i nl : Nat} {x : Option Nat} {L' : List (Nat × Value)} (C : zC E w cc own fr lo) (hnl : E.2.2.2.2.2.2.2.2.2.2.1 = nl) (hi : (f : Nat) = i) (hn : i < nl) (hl : (i, va_rf x) :: L.filter (fun q => !(q.1 == i) && !(q.1 + 1 == i && q.2.category == 2)) = L') (d : zD cc pc (.astore_n f) 1 pc') (k : zV E w S pc' L' st) : zV E w S pc L (va_rf x :: st) := by
  cases x with
  | none =>
    obtain ⟨p, l, e, R, s, m, args, below, meth, c, nL, Q, kk9, nn9⟩ := E
    obtain ⟨d, rfl⟩ := d
    obtain ⟨hx, hb, hml, hown, hts, hO, hfr, hlo, hlk, hkk9, hnn9⟩ := C
    subst hnl
    exact fun H locs ls h1 h2 h3 => lv_astore_nN hx hb d hi h3 hn hl (fun ls h3 => k H locs ls h1 h2 h3)
  | some y => exact z_astore_n C hnl hi hn hl d k
theorem z_astoreq {σ : Type} {E : zE} {w : zW σ} {cc : ByteArray} {own : String} {fr lo : Nat} {S : σ} {pc pc' : Nat} {L : List (Nat × Value)} {st : List Value} {i nl : Nat} {x : Option Nat} {L' : List (Nat × Value)} (C : zC E w cc own fr lo) (hnl : E.2.2.2.2.2.2.2.2.2.2.1 = nl) (hn : i < nl) (hl : (i, va_rf x) :: L.filter (fun q => !(q.1 == i) && !(q.1 + 1 == i && q.2.category == 2)) = L') (d : zD cc pc (.astore i) 2 pc') (k : zV E w S pc' L' st) : zV E w S pc L (va_rf x :: st) := by
  cases x with
  | none =>
    obtain ⟨p, l, e, R, s, m, args, below, meth, c, nL, Q, kk9, nn9⟩ := E
    obtain ⟨d, rfl⟩ := d
    obtain ⟨hx, hb, hml, hown, hts, hO, hfr, hlo, hlk, hkk9, hnn9⟩ := C
    subst hnl
    exact fun H locs ls h1 h2 h3 => lv_astoreN hx hb d h3 hn hl (fun ls h3 => k H locs ls h1 h2 h3)
  | some y => exact z_astore C hnl hn hl d k
theorem z_iinc {σ : Type} {E : zE} {w : zW σ} {cc : ByteArray} {own : String} {fr lo : Nat} {S : σ} {pc pc' : Nat} {L : List (Nat × Value)} {st : List Value} {i nl : Nat} {n : Int} {x v : Int32} {L' : List (Nat × Value)} (C : zC E w cc own fr lo) (hnl : E.2.2.2.2.2.2.2.2.2.2.1 = nl) (q : Nat) (hq : L[q]? = some (i, .int x)) (hv : x + Int32.ofInt n = v) (hn : i < nl) (hl : (i, Value.int v) :: L.filter (fun q => !(q.1 == i) && !(q.1 + 1 == i && q.2.category == 2)) = L') (d : zD cc pc (.iinc i n) 3 pc') (k : zV E w S pc' L' st) : zV E w S pc L st := by
  obtain ⟨p, l, e, R, s, m, args, below, meth, c, nL, Q, kk9, nn9⟩ := E
  obtain ⟨d, rfl⟩ := d
  obtain ⟨hx, hb, hml, hown, hts, hO, hfr, hlo, hlk, hkk9, hnn9⟩ := C
  subst hnl
  exact fun H locs ls h1 h2 h3 => lv_iinc hx hb d h3 hq hv hn hl (fun ls h3 => k H locs ls h1 h2 h3)
theorem z_iadd {σ : Type} {E : zE} {w : zW σ} {cc : ByteArray} {own : String} {fr lo : Nat} {S : σ} {pc pc' : Nat} {L : List (Nat × Value)} {st : List Value} {x y : Int32} (C : zC E w cc own fr lo) (d : zD cc pc .iadd 1 pc') (k : zV E w S pc' L (.int (x + y) :: st)) : zV E w S pc L (.int y :: .int x :: st) := by
  obtain ⟨p, l, e, R, s, m, args, below, meth, c, nL, Q, kk9, nn9⟩ := E
  obtain ⟨d, rfl⟩ := d
  obtain ⟨hx, hb, hml, hown, hts, hO, hfr, hlo, hlk, hkk9, hnn9⟩ := C
  exact fun H locs ls h1 h2 h3 => lv_iadd hx hb d (k H locs ls h1 h2 h3)
theorem z_isub {σ : Type} {E : zE} {w : zW σ} {cc : ByteArray} {own : String} {fr lo : Nat} {S : σ} {pc pc' : Nat} {L : List (Nat × Value)} {st : List Value} {x y : Int32} (C : zC E w cc own fr lo) (d : zD cc pc .isub 1 pc') (k : zV E w S pc' L (.int (x - y) :: st)) : zV E w S pc L (.int y :: .int x :: st) := by
  obtain ⟨p, l, e, R, s, m, args, below, meth, c, nL, Q, kk9, nn9⟩ := E
  obtain ⟨d, rfl⟩ := d
  obtain ⟨hx, hb, hml, hown, hts, hO, hfr, hlo, hlk, hkk9, hnn9⟩ := C
  exact fun H locs ls h1 h2 h3 => lv_isub hx hb d (k H locs ls h1 h2 h3)
theorem z_imul {σ : Type} {E : zE} {w : zW σ} {cc : ByteArray} {own : String} {fr lo : Nat} {S : σ} {pc pc' : Nat} {L : List (Nat × Value)} {st : List Value} {x y : Int32} (C : zC E w cc own fr lo) (d : zD cc pc .imul 1 pc') (k : zV E w S pc' L (.int (x * y) :: st)) : zV E w S pc L (.int y :: .int x :: st) := by
  obtain ⟨p, l, e, R, s, m, args, below, meth, c, nL, Q, kk9, nn9⟩ := E
  obtain ⟨d, rfl⟩ := d
  obtain ⟨hx, hb, hml, hown, hts, hO, hfr, hlo, hlk, hkk9, hnn9⟩ := C
  exact fun H locs ls h1 h2 h3 => lv_imul hx hb d (k H locs ls h1 h2 h3)
theorem z_iand {σ : Type} {E : zE} {w : zW σ} {cc : ByteArray} {own : String} {fr lo : Nat} {S : σ} {pc pc' : Nat} {L : List (Nat × Value)} {st : List Value} {x y : Int32} (C : zC E w cc own fr lo) (d : zD cc pc .iand 1 pc') (k : zV E w S pc' L (.int (x &&& y) :: st)) : zV E w S pc L (.int y :: .int x :: st) := by
  obtain ⟨p, l, e, R, s, m, args, below, meth, c, nL, Q, kk9, nn9⟩ := E
  obtain ⟨d, rfl⟩ := d
  obtain ⟨hx, hb, hml, hown, hts, hO, hfr, hlo, hlk, hkk9, hnn9⟩ := C
  exact fun H locs ls h1 h2 h3 => lv_iand hx hb d (k H locs ls h1 h2 h3)
theorem z_ior {σ : Type} {E : zE} {w : zW σ} {cc : ByteArray} {own : String} {fr lo : Nat} {S : σ} {pc pc' : Nat} {L : List (Nat × Value)} {st : List Value} {x y : Int32} (C : zC E w cc own fr lo) (d : zD cc pc .ior 1 pc') (k : zV E w S pc' L (.int (x ||| y) :: st)) : zV E w S pc L (.int y :: .int x :: st) := by
  obtain ⟨p, l, e, R, s, m, args, below, meth, c, nL, Q, kk9, nn9⟩ := E
  obtain ⟨d, rfl⟩ := d
  obtain ⟨hx, hb, hml, hown, hts, hO, hfr, hlo, hlk, hkk9, hnn9⟩ := C
  exact fun H locs ls h1 h2 h3 => lv_ior hx hb d (k H locs ls h1 h2 h3)
theorem z_ixor {σ : Type} {E : zE} {w : zW σ} {cc : ByteArray} {own : String} {fr lo : Nat} {S : σ} {pc pc' : Nat} {L : List (Nat × Value)} {st : List Value} {x y : Int32} (C : zC E w cc own fr lo) (d : zD cc pc .ixor 1 pc') (k : zV E w S pc' L (.int (x ^^^ y) :: st)) : zV E w S pc L (.int y :: .int x :: st) := by
  obtain ⟨p, l, e, R, s, m, args, below, meth, c, nL, Q, kk9, nn9⟩ := E
  obtain ⟨d, rfl⟩ := d
  obtain ⟨hx, hb, hml, hown, hts, hO, hfr, hlo, hlk, hkk9, hnn9⟩ := C
  exact fun H locs ls h1 h2 h3 => lv_ixor hx hb d (k H locs ls h1 h2 h3)
theorem z_ishl {σ : Type} {E : zE} {w : zW σ} {cc : ByteArray} {own : String} {fr lo : Nat} {S : σ} {pc pc' : Nat} {L : List (Nat × Value)} {st : List Value} {x y : Int32} (C : zC E w cc own fr lo) (d : zD cc pc .ishl 1 pc') (k : zV E w S pc' L (.int (x <<< (y &&& 31)) :: st)) : zV E w S pc L (.int y :: .int x :: st) := by
  obtain ⟨p, l, e, R, s, m, args, below, meth, c, nL, Q, kk9, nn9⟩ := E
  obtain ⟨d, rfl⟩ := d
  obtain ⟨hx, hb, hml, hown, hts, hO, hfr, hlo, hlk, hkk9, hnn9⟩ := C
  exact fun H locs ls h1 h2 h3 => lv_ishl hx hb d (k H locs ls h1 h2 h3)
theorem z_ishr {σ : Type} {E : zE} {w : zW σ} {cc : ByteArray} {own : String} {fr lo : Nat} {S : σ} {pc pc' : Nat} {L : List (Nat × Value)} {st : List Value} {x y : Int32} (C : zC E w cc own fr lo) (d : zD cc pc .ishr 1 pc') (k : zV E w S pc' L (.int (x >>> (y &&& 31)) :: st)) : zV E w S pc L (.int y :: .int x :: st) := by
  obtain ⟨p, l, e, R, s, m, args, below, meth, c, nL, Q, kk9, nn9⟩ := E
  obtain ⟨d, rfl⟩ := d
  obtain ⟨hx, hb, hml, hown, hts, hO, hfr, hlo, hlk, hkk9, hnn9⟩ := C
  exact fun H locs ls h1 h2 h3 => lv_ishr hx hb d (k H locs ls h1 h2 h3)
theorem z_iushr {σ : Type} {E : zE} {w : zW σ} {cc : ByteArray} {own : String} {fr lo : Nat} {S : σ} {pc pc' : Nat} {L : List (Nat × Value)} {st : List Value} {x y : Int32} (C : zC E w cc own fr lo) (d : zD cc pc .iushr 1 pc') (k : zV E w S pc' L (.int ((x.toUInt32 >>> (y.toUInt32 &&& Int32.toUInt32 31)).toInt32) :: st)) : zV E w S pc L (.int y :: .int x :: st) := by
  obtain ⟨p, l, e, R, s, m, args, below, meth, c, nL, Q, kk9, nn9⟩ := E
  obtain ⟨d, rfl⟩ := d
  obtain ⟨hx, hb, hml, hown, hts, hO, hfr, hlo, hlk, hkk9, hnn9⟩ := C
  exact fun H locs ls h1 h2 h3 => lv_iushr hx hb d rfl (k H locs ls h1 h2 h3)
theorem z_idiv {σ : Type} {E : zE} {w : zW σ} {cc : ByteArray} {own : String} {fr lo : Nat} {S : σ} {pc pc' : Nat} {L : List (Nat × Value)} {st : List Value} {x y : Int32} (C : zC E w cc own fr lo) (hne : ¬ y = 0) (d : zD cc pc .idiv 1 pc') (k : zV E w S pc' L (.int (x / y) :: st)) : zV E w S pc L (.int y :: .int x :: st) := by
  obtain ⟨p, l, e, R, s, m, args, below, meth, c, nL, Q, kk9, nn9⟩ := E
  obtain ⟨d, rfl⟩ := d
  obtain ⟨hx, hb, hml, hown, hts, hO, hfr, hlo, hlk, hkk9, hnn9⟩ := C
  exact fun H locs ls h1 h2 h3 => lv_idiv hx hb d hne (k H locs ls h1 h2 h3)
theorem z_irem {σ : Type} {E : zE} {w : zW σ} {cc : ByteArray} {own : String} {fr lo : Nat} {S : σ} {pc pc' : Nat} {L : List (Nat × Value)} {st : List Value} {x y : Int32} (C : zC E w cc own fr lo) (hne : ¬ y = 0) (d : zD cc pc .irem 1 pc') (k : zV E w S pc' L (.int (x - x / y * y) :: st)) : zV E w S pc L (.int y :: .int x :: st) := by
  obtain ⟨p, l, e, R, s, m, args, below, meth, c, nL, Q, kk9, nn9⟩ := E
  obtain ⟨d, rfl⟩ := d
  obtain ⟨hx, hb, hml, hown, hts, hO, hfr, hlo, hlk, hkk9, hnn9⟩ := C
  exact fun H locs ls h1 h2 h3 => lv_irem hx hb d hne (k H locs ls h1 h2 h3)
theorem z_ladd {σ : Type} {E : zE} {w : zW σ} {cc : ByteArray} {own : String} {fr lo : Nat} {S : σ} {pc pc' : Nat} {L : List (Nat × Value)} {st : List Value} {x y : Int64} (C : zC E w cc own fr lo) (d : zD cc pc .ladd 1 pc') (k : zV E w S pc' L (.long (x + y) :: st)) : zV E w S pc L (.long y :: .long x :: st) := by
  obtain ⟨p, l, e, R, s, m, args, below, meth, c, nL, Q, kk9, nn9⟩ := E
  obtain ⟨d, rfl⟩ := d
  obtain ⟨hx, hb, hml, hown, hts, hO, hfr, hlo, hlk, hkk9, hnn9⟩ := C
  exact fun H locs ls h1 h2 h3 => lv_ladd hx hb d (k H locs ls h1 h2 h3)
theorem z_lmul {σ : Type} {E : zE} {w : zW σ} {cc : ByteArray} {own : String} {fr lo : Nat} {S : σ} {pc pc' : Nat} {L : List (Nat × Value)} {st : List Value} {x y : Int64} (C : zC E w cc own fr lo) (d : zD cc pc .lmul 1 pc') (k : zV E w S pc' L (.long (x * y) :: st)) : zV E w S pc L (.long y :: .long x :: st) := by
  obtain ⟨p, l, e, R, s, m, args, below, meth, c, nL, Q, kk9, nn9⟩ := E
  obtain ⟨d, rfl⟩ := d
  obtain ⟨hx, hb, hml, hown, hts, hO, hfr, hlo, hlk, hkk9, hnn9⟩ := C
  exact fun H locs ls h1 h2 h3 => lv_lmul hx hb d (k H locs ls h1 h2 h3)
theorem z_land {σ : Type} {E : zE} {w : zW σ} {cc : ByteArray} {own : String} {fr lo : Nat} {S : σ} {pc pc' : Nat} {L : List (Nat × Value)} {st : List Value} {x y : Int64} (C : zC E w cc own fr lo) (d : zD cc pc .land 1 pc') (k : zV E w S pc' L (.long (x &&& y) :: st)) : zV E w S pc L (.long y :: .long x :: st) := by
  obtain ⟨p, l, e, R, s, m, args, below, meth, c, nL, Q, kk9, nn9⟩ := E
  obtain ⟨d, rfl⟩ := d
  obtain ⟨hx, hb, hml, hown, hts, hO, hfr, hlo, hlk, hkk9, hnn9⟩ := C
  exact fun H locs ls h1 h2 h3 => lv_land hx hb d (k H locs ls h1 h2 h3)
theorem z_ldiv {σ : Type} {E : zE} {w : zW σ} {cc : ByteArray} {own : String} {fr lo : Nat} {S : σ} {pc pc' : Nat} {L : List (Nat × Value)} {st : List Value} {x y : Int64} (C : zC E w cc own fr lo) (hne : ¬ y = 0) (d : zD cc pc .ldiv 1 pc') (k : zV E w S pc' L (.long (x / y) :: st)) : zV E w S pc L (.long y :: .long x :: st) := by
  obtain ⟨p, l, e, R, s, m, args, below, meth, c, nL, Q, kk9, nn9⟩ := E
  obtain ⟨d, rfl⟩ := d
  obtain ⟨hx, hb, hml, hown, hts, hO, hfr, hlo, hlk, hkk9, hnn9⟩ := C
  exact fun H locs ls h1 h2 h3 => lv_ldiv hx hb d hne (k H locs ls h1 h2 h3)
theorem z_lrem {σ : Type} {E : zE} {w : zW σ} {cc : ByteArray} {own : String} {fr lo : Nat} {S : σ} {pc pc' : Nat} {L : List (Nat × Value)} {st : List Value} {x y : Int64} (C : zC E w cc own fr lo) (hne : ¬ y = 0) (d : zD cc pc .lrem 1 pc') (k : zV E w S pc' L (.long (x - x / y * y) :: st)) : zV E w S pc L (.long y :: .long x :: st) := by
  obtain ⟨p, l, e, R, s, m, args, below, meth, c, nL, Q, kk9, nn9⟩ := E
  obtain ⟨d, rfl⟩ := d
  obtain ⟨hx, hb, hml, hown, hts, hO, hfr, hlo, hlk, hkk9, hnn9⟩ := C
  exact fun H locs ls h1 h2 h3 => lv_lrem hx hb d hne (k H locs ls h1 h2 h3)
theorem z_lushr {σ : Type} {E : zE} {w : zW σ} {cc : ByteArray} {own : String} {fr lo : Nat} {S : σ} {pc pc' : Nat} {L : List (Nat × Value)} {st : List Value} {x : Int64} {y : Int32} (C : zC E w cc own fr lo) (d : zD cc pc .lushr 1 pc') (k : zV E w S pc' L (.long ((x.toUInt64 >>> (y.toInt64.toUInt64 &&& Int64.toUInt64 63)).toInt64) :: st)) : zV E w S pc L (.int y :: .long x :: st) := by
  obtain ⟨p, l, e, R, s, m, args, below, meth, c, nL, Q, kk9, nn9⟩ := E
  obtain ⟨d, rfl⟩ := d
  obtain ⟨hx, hb, hml, hown, hts, hO, hfr, hlo, hlk, hkk9, hnn9⟩ := C
  exact fun H locs ls h1 h2 h3 => lv_lushr hx hb d rfl (k H locs ls h1 h2 h3)
theorem z_lshr {σ : Type} {E : zE} {w : zW σ} {cc : ByteArray} {own : String} {fr lo : Nat} {S : σ} {pc pc' : Nat} {L : List (Nat × Value)} {st : List Value} {x : Int64} {y : Int32} (C : zC E w cc own fr lo) (d : zD cc pc .lshr 1 pc') (k : zV E w S pc' L (.long (x >>> (y.toInt64 &&& 63)) :: st)) : zV E w S pc L (.int y :: .long x :: st) := by
  obtain ⟨p, l, e, R, s, m, args, below, meth, c, nL, Q, kk9, nn9⟩ := E
  obtain ⟨d, rfl⟩ := d
  obtain ⟨hx, hb, hml, hown, hts, hO, hfr, hlo, hlk, hkk9, hnn9⟩ := C
  exact fun H locs ls h1 h2 h3 => lv_lshr hx hb d rfl (k H locs ls h1 h2 h3)
theorem z_i2l {σ : Type} {E : zE} {w : zW σ} {cc : ByteArray} {own : String} {fr lo : Nat} {S : σ} {pc pc' : Nat} {L : List (Nat × Value)} {st : List Value} {x : Int32} (C : zC E w cc own fr lo) (d : zD cc pc .i2l 1 pc') (k : zV E w S pc' L (.long x.toInt64 :: st)) : zV E w S pc L (.int x :: st) := by
  obtain ⟨p, l, e, R, s, m, args, below, meth, c, nL, Q, kk9, nn9⟩ := E
  obtain ⟨d, rfl⟩ := d
  obtain ⟨hx, hb, hml, hown, hts, hO, hfr, hlo, hlk, hkk9, hnn9⟩ := C
  exact fun H locs ls h1 h2 h3 => lv_i2l hx hb d rfl (k H locs ls h1 h2 h3)
theorem z_l2i {σ : Type} {E : zE} {w : zW σ} {cc : ByteArray} {own : String} {fr lo : Nat} {S : σ} {pc pc' : Nat} {L : List (Nat × Value)} {st : List Value} {x : Int64} (C : zC E w cc own fr lo) (d : zD cc pc .l2i 1 pc') (k : zV E w S pc' L (.int x.toInt32 :: st)) : zV E w S pc L (.long x :: st) := by
  obtain ⟨p, l, e, R, s, m, args, below, meth, c, nL, Q, kk9, nn9⟩ := E
  obtain ⟨d, rfl⟩ := d
  obtain ⟨hx, hb, hml, hown, hts, hO, hfr, hlo, hlk, hkk9, hnn9⟩ := C
  exact fun H locs ls h1 h2 h3 => lv_l2i hx hb d rfl (k H locs ls h1 h2 h3)
theorem z_i2b {σ : Type} {E : zE} {w : zW σ} {cc : ByteArray} {own : String} {fr lo : Nat} {S : σ} {pc pc' : Nat} {L : List (Nat × Value)} {st : List Value} {x : Int32} (C : zC E w cc own fr lo) (d : zD cc pc .i2b 1 pc') (k : zV E w S pc' L (.int x.toInt8.toInt32 :: st)) : zV E w S pc L (.int x :: st) := by
  obtain ⟨p, l, e, R, s, m, args, below, meth, c, nL, Q, kk9, nn9⟩ := E
  obtain ⟨d, rfl⟩ := d
  obtain ⟨hx, hb, hml, hown, hts, hO, hfr, hlo, hlk, hkk9, hnn9⟩ := C
  exact fun H locs ls h1 h2 h3 => lv_i2b hx hb d rfl (k H locs ls h1 h2 h3)
theorem z_i2s {σ : Type} {E : zE} {w : zW σ} {cc : ByteArray} {own : String} {fr lo : Nat} {S : σ} {pc pc' : Nat} {L : List (Nat × Value)} {st : List Value} {x : Int32} (C : zC E w cc own fr lo) (d : zD cc pc .i2s 1 pc') (k : zV E w S pc' L (.int x.toInt16.toInt32 :: st)) : zV E w S pc L (.int x :: st) := by
  obtain ⟨p, l, e, R, s, m, args, below, meth, c, nL, Q, kk9, nn9⟩ := E
  obtain ⟨d, rfl⟩ := d
  obtain ⟨hx, hb, hml, hown, hts, hO, hfr, hlo, hlk, hkk9, hnn9⟩ := C
  exact fun H locs ls h1 h2 h3 => lv_i2s hx hb d rfl (k H locs ls h1 h2 h3)
theorem z_lcmp {σ : Type} {E : zE} {w : zW σ} {cc : ByteArray} {own : String} {fr lo : Nat} {S : σ} {pc pc' : Nat} {L : List (Nat × Value)} {st : List Value} {x y : Int64} (C : zC E w cc own fr lo) (d : zD cc pc .lcmp 1 pc') (k : zV E w S pc' L (.int (lg_cmp x y) :: st)) : zV E w S pc L (.long y :: .long x :: st) := by
  obtain ⟨p, l, e, R, s, m, args, below, meth, c, nL, Q, kk9, nn9⟩ := E
  obtain ⟨d, rfl⟩ := d
  obtain ⟨hx, hb, hml, hown, hts, hO, hfr, hlo, hlk, hkk9, hnn9⟩ := C
  exact fun H locs ls h1 h2 h3 => W.lcmp hx hb d (k H locs ls h1 h2 h3)
theorem z_dup {σ : Type} {E : zE} {w : zW σ} {cc : ByteArray} {own : String} {fr lo : Nat} {S : σ} {pc pc' : Nat} {L : List (Nat × Value)} {st : List Value} {v : Value} (C : zC E w cc own fr lo) (hv : v.category = 1) (d : zD cc pc .dup 1 pc') (k : zV E w S pc' L (v :: v :: st)) : zV E w S pc L (v :: st) := by
  obtain ⟨p, l, e, R, s, m, args, below, meth, c, nL, Q, kk9, nn9⟩ := E
  obtain ⟨d, rfl⟩ := d
  obtain ⟨hx, hb, hml, hown, hts, hO, hfr, hlo, hlk, hkk9, hnn9⟩ := C
  exact fun H locs ls h1 h2 h3 => lv_dup hx hb d hv (k H locs ls h1 h2 h3)
theorem z_pop {σ : Type} {E : zE} {w : zW σ} {cc : ByteArray} {own : String} {fr lo : Nat} {S : σ} {pc pc' : Nat} {L : List (Nat × Value)} {st : List Value} {v : Value} (C : zC E w cc own fr lo) (hv : v.category = 1) (d : zD cc pc .pop 1 pc') (k : zV E w S pc' L (st)) : zV E w S pc L (v :: st) := by
  obtain ⟨p, l, e, R, s, m, args, below, meth, c, nL, Q, kk9, nn9⟩ := E
  obtain ⟨d, rfl⟩ := d
  obtain ⟨hx, hb, hml, hown, hts, hO, hfr, hlo, hlk, hkk9, hnn9⟩ := C
  exact fun H locs ls h1 h2 h3 => lv_pop hx hb d hv (k H locs ls h1 h2 h3)
theorem z_dup2 {σ : Type} {E : zE} {w : zW σ} {cc : ByteArray} {own : String} {fr lo : Nat} {S : σ} {pc pc' : Nat} {L : List (Nat × Value)} {st : List Value} {u v : Value} (C : zC E w cc own fr lo) (hu : u.category = 1) (hv : v.category = 1) (d : zD cc pc .dup2 1 pc') (k : zV E w S pc' L (u :: v :: u :: v :: st)) : zV E w S pc L (u :: v :: st) := by
  obtain ⟨p, l, e, R, s, m, args, below, meth, c, nL, Q, kk9, nn9⟩ := E
  obtain ⟨d, rfl⟩ := d
  obtain ⟨hx, hb, hml, hown, hts, hO, hfr, hlo, hlk, hkk9, hnn9⟩ := C
  exact fun H locs ls h1 h2 h3 => lv_dup2_11 hx hb d hu hv (k H locs ls h1 h2 h3)
theorem z_null {σ : Type} {E : zE} {w : zW σ} {cc : ByteArray} {own : String} {fr lo : Nat} {S : σ} {pc pc' : Nat} {L : List (Nat × Value)} {st : List Value} (C : zC E w cc own fr lo) (d : zD cc pc .aconst_null 1 pc') (k : zV E w S pc' L (.null :: st)) : zV E w S pc L (st) := by
  obtain ⟨p, l, e, R, s, m, args, below, meth, c, nL, Q, kk9, nn9⟩ := E
  obtain ⟨d, rfl⟩ := d
  obtain ⟨hx, hb, hml, hown, hts, hO, hfr, hlo, hlk, hkk9, hnn9⟩ := C
  exact fun H locs ls h1 h2 h3 => lv_null hx hb d (k H locs ls h1 h2 h3)
theorem z_if_eq {σ : Type} {E : zE} {w : zW σ} {cc : ByteArray} {own : String} {fr lo : Nat} {S : σ} {pc pc' : Nat} {L : List (Nat × Value)} {st : List Value} {x : Int32} {off : Int} {tgt : Nat} (C : zC E w cc own fr lo) (d : zD cc pc (.ifCond .eq off) 3 pc') (ht : (pc : Int) + off = (tgt : Int)) (kt : x = 0 → zV E w S tgt L st) (kf : ¬ x = 0 → zV E w S pc' L st) : zV E w S pc L (.int x :: st) := by
  obtain ⟨p, l, e, R, s, m, args, below, meth, c, nL, Q, kk9, nn9⟩ := E
  obtain ⟨d, rfl⟩ := d
  obtain ⟨hx, hb, hml, hown, hts, hO, hfr, hlo, hlk, hkk9, hnn9⟩ := C
  exact fun H locs ls h1 h2 h3 => lv_if_eq hx hb d ht (fun q => kt q H locs ls h1 h2 h3) (fun q => kf q H locs ls h1 h2 h3)
theorem z_icmp_eq {σ : Type} {E : zE} {w : zW σ} {cc : ByteArray} {own : String} {fr lo : Nat} {S : σ} {pc pc' : Nat} {L : List (Nat × Value)} {st : List Value} {x y : Int32} {off : Int} {tgt : Nat} (C : zC E w cc own fr lo) (d : zD cc pc (.if_icmp .eq off) 3 pc') (ht : (pc : Int) + off = (tgt : Int)) (kt : x = y → zV E w S tgt L st) (kf : ¬ x = y → zV E w S pc' L st) : zV E w S pc L (.int y :: .int x :: st) := by
  obtain ⟨p, l, e, R, s, m, args, below, meth, c, nL, Q, kk9, nn9⟩ := E
  obtain ⟨d, rfl⟩ := d
  obtain ⟨hx, hb, hml, hown, hts, hO, hfr, hlo, hlk, hkk9, hnn9⟩ := C
  exact fun H locs ls h1 h2 h3 => lv_icmp_eq hx hb d ht (fun q => kt q H locs ls h1 h2 h3) (fun q => kf q H locs ls h1 h2 h3)
theorem z_if_ne {σ : Type} {E : zE} {w : zW σ} {cc : ByteArray} {own : String} {fr lo : Nat} {S : σ} {pc pc' : Nat} {L : List (Nat × Value)} {st : List Value} {x : Int32} {off : Int} {tgt : Nat} (C : zC E w cc own fr lo) (d : zD cc pc (.ifCond .ne off) 3 pc') (ht : (pc : Int) + off = (tgt : Int)) (kt : ¬ x = 0 → zV E w S tgt L st) (kf : x = 0 → zV E w S pc' L st) : zV E w S pc L (.int x :: st) := by
  obtain ⟨p, l, e, R, s, m, args, below, meth, c, nL, Q, kk9, nn9⟩ := E
  obtain ⟨d, rfl⟩ := d
  obtain ⟨hx, hb, hml, hown, hts, hO, hfr, hlo, hlk, hkk9, hnn9⟩ := C
  exact fun H locs ls h1 h2 h3 => lv_if_ne hx hb d ht (fun q => kt q H locs ls h1 h2 h3) (fun q => kf q H locs ls h1 h2 h3)
theorem z_icmp_ne {σ : Type} {E : zE} {w : zW σ} {cc : ByteArray} {own : String} {fr lo : Nat} {S : σ} {pc pc' : Nat} {L : List (Nat × Value)} {st : List Value} {x y : Int32} {off : Int} {tgt : Nat} (C : zC E w cc own fr lo) (d : zD cc pc (.if_icmp .ne off) 3 pc') (ht : (pc : Int) + off = (tgt : Int)) (kt : ¬ x = y → zV E w S tgt L st) (kf : x = y → zV E w S pc' L st) : zV E w S pc L (.int y :: .int x :: st) := by
  obtain ⟨p, l, e, R, s, m, args, below, meth, c, nL, Q, kk9, nn9⟩ := E
  obtain ⟨d, rfl⟩ := d
  obtain ⟨hx, hb, hml, hown, hts, hO, hfr, hlo, hlk, hkk9, hnn9⟩ := C
  exact fun H locs ls h1 h2 h3 => lv_icmp_ne hx hb d ht (fun q => kt q H locs ls h1 h2 h3) (fun q => kf q H locs ls h1 h2 h3)
theorem z_if_lt {σ : Type} {E : zE} {w : zW σ} {cc : ByteArray} {own : String} {fr lo : Nat} {S : σ} {pc pc' : Nat} {L : List (Nat × Value)} {st : List Value} {x : Int32} {off : Int} {tgt : Nat} (C : zC E w cc own fr lo) (d : zD cc pc (.ifCond .lt off) 3 pc') (ht : (pc : Int) + off = (tgt : Int)) (kt : x < 0 → zV E w S tgt L st) (kf : ¬ x < 0 → zV E w S pc' L st) : zV E w S pc L (.int x :: st) := by
  obtain ⟨p, l, e, R, s, m, args, below, meth, c, nL, Q, kk9, nn9⟩ := E
  obtain ⟨d, rfl⟩ := d
  obtain ⟨hx, hb, hml, hown, hts, hO, hfr, hlo, hlk, hkk9, hnn9⟩ := C
  exact fun H locs ls h1 h2 h3 => lv_if_lt hx hb d ht (fun q => kt q H locs ls h1 h2 h3) (fun q => kf q H locs ls h1 h2 h3)
theorem z_icmp_lt {σ : Type} {E : zE} {w : zW σ} {cc : ByteArray} {own : String} {fr lo : Nat} {S : σ} {pc pc' : Nat} {L : List (Nat × Value)} {st : List Value} {x y : Int32} {off : Int} {tgt : Nat} (C : zC E w cc own fr lo) (d : zD cc pc (.if_icmp .lt off) 3 pc') (ht : (pc : Int) + off = (tgt : Int)) (kt : x < y → zV E w S tgt L st) (kf : ¬ x < y → zV E w S pc' L st) : zV E w S pc L (.int y :: .int x :: st) := by
  obtain ⟨p, l, e, R, s, m, args, below, meth, c, nL, Q, kk9, nn9⟩ := E
  obtain ⟨d, rfl⟩ := d
  obtain ⟨hx, hb, hml, hown, hts, hO, hfr, hlo, hlk, hkk9, hnn9⟩ := C
  exact fun H locs ls h1 h2 h3 => lv_icmp_lt hx hb d ht (fun q => kt q H locs ls h1 h2 h3) (fun q => kf q H locs ls h1 h2 h3)
theorem z_if_ge {σ : Type} {E : zE} {w : zW σ} {cc : ByteArray} {own : String} {fr lo : Nat} {S : σ} {pc pc' : Nat} {L : List (Nat × Value)} {st : List Value} {x : Int32} {off : Int} {tgt : Nat} (C : zC E w cc own fr lo) (d : zD cc pc (.ifCond .ge off) 3 pc') (ht : (pc : Int) + off = (tgt : Int)) (kt : 0 ≤ x → zV E w S tgt L st) (kf : ¬ 0 ≤ x → zV E w S pc' L st) : zV E w S pc L (.int x :: st) := by
  obtain ⟨p, l, e, R, s, m, args, below, meth, c, nL, Q, kk9, nn9⟩ := E
  obtain ⟨d, rfl⟩ := d
  obtain ⟨hx, hb, hml, hown, hts, hO, hfr, hlo, hlk, hkk9, hnn9⟩ := C
  exact fun H locs ls h1 h2 h3 => lv_if_ge hx hb d ht (fun q => kt q H locs ls h1 h2 h3) (fun q => kf q H locs ls h1 h2 h3)
theorem z_icmp_ge {σ : Type} {E : zE} {w : zW σ} {cc : ByteArray} {own : String} {fr lo : Nat} {S : σ} {pc pc' : Nat} {L : List (Nat × Value)} {st : List Value} {x y : Int32} {off : Int} {tgt : Nat} (C : zC E w cc own fr lo) (d : zD cc pc (.if_icmp .ge off) 3 pc') (ht : (pc : Int) + off = (tgt : Int)) (kt : y ≤ x → zV E w S tgt L st) (kf : ¬ y ≤ x → zV E w S pc' L st) : zV E w S pc L (.int y :: .int x :: st) := by
  obtain ⟨p, l, e, R, s, m, args, below, meth, c, nL, Q, kk9, nn9⟩ := E
  obtain ⟨d, rfl⟩ := d
  obtain ⟨hx, hb, hml, hown, hts, hO, hfr, hlo, hlk, hkk9, hnn9⟩ := C
  exact fun H locs ls h1 h2 h3 => lv_icmp_ge hx hb d ht (fun q => kt q H locs ls h1 h2 h3) (fun q => kf q H locs ls h1 h2 h3)
theorem z_if_gt {σ : Type} {E : zE} {w : zW σ} {cc : ByteArray} {own : String} {fr lo : Nat} {S : σ} {pc pc' : Nat} {L : List (Nat × Value)} {st : List Value} {x : Int32} {off : Int} {tgt : Nat} (C : zC E w cc own fr lo) (d : zD cc pc (.ifCond .gt off) 3 pc') (ht : (pc : Int) + off = (tgt : Int)) (kt : 0 < x → zV E w S tgt L st) (kf : ¬ 0 < x → zV E w S pc' L st) : zV E w S pc L (.int x :: st) := by
  obtain ⟨p, l, e, R, s, m, args, below, meth, c, nL, Q, kk9, nn9⟩ := E
  obtain ⟨d, rfl⟩ := d
  obtain ⟨hx, hb, hml, hown, hts, hO, hfr, hlo, hlk, hkk9, hnn9⟩ := C
  exact fun H locs ls h1 h2 h3 => lv_if_gt hx hb d ht (fun q => kt q H locs ls h1 h2 h3) (fun q => kf q H locs ls h1 h2 h3)
theorem z_icmp_gt {σ : Type} {E : zE} {w : zW σ} {cc : ByteArray} {own : String} {fr lo : Nat} {S : σ} {pc pc' : Nat} {L : List (Nat × Value)} {st : List Value} {x y : Int32} {off : Int} {tgt : Nat} (C : zC E w cc own fr lo) (d : zD cc pc (.if_icmp .gt off) 3 pc') (ht : (pc : Int) + off = (tgt : Int)) (kt : y < x → zV E w S tgt L st) (kf : ¬ y < x → zV E w S pc' L st) : zV E w S pc L (.int y :: .int x :: st) := by
  obtain ⟨p, l, e, R, s, m, args, below, meth, c, nL, Q, kk9, nn9⟩ := E
  obtain ⟨d, rfl⟩ := d
  obtain ⟨hx, hb, hml, hown, hts, hO, hfr, hlo, hlk, hkk9, hnn9⟩ := C
  exact fun H locs ls h1 h2 h3 => lv_icmp_gt hx hb d ht (fun q => kt q H locs ls h1 h2 h3) (fun q => kf q H locs ls h1 h2 h3)
theorem z_if_le {σ : Type} {E : zE} {w : zW σ} {cc : ByteArray} {own : String} {fr lo : Nat} {S : σ} {pc pc' : Nat} {L : List (Nat × Value)} {st : List Value} {x : Int32} {off : Int} {tgt : Nat} (C : zC E w cc own fr lo) (d : zD cc pc (.ifCond .le off) 3 pc') (ht : (pc : Int) + off = (tgt : Int)) (kt : x ≤ 0 → zV E w S tgt L st) (kf : ¬ x ≤ 0 → zV E w S pc' L st) : zV E w S pc L (.int x :: st) := by
  obtain ⟨p, l, e, R, s, m, args, below, meth, c, nL, Q, kk9, nn9⟩ := E
  obtain ⟨d, rfl⟩ := d
  obtain ⟨hx, hb, hml, hown, hts, hO, hfr, hlo, hlk, hkk9, hnn9⟩ := C
  exact fun H locs ls h1 h2 h3 => lv_if_le hx hb d ht (fun q => kt q H locs ls h1 h2 h3) (fun q => kf q H locs ls h1 h2 h3)
theorem z_icmp_le {σ : Type} {E : zE} {w : zW σ} {cc : ByteArray} {own : String} {fr lo : Nat} {S : σ} {pc pc' : Nat} {L : List (Nat × Value)} {st : List Value} {x y : Int32} {off : Int} {tgt : Nat} (C : zC E w cc own fr lo) (d : zD cc pc (.if_icmp .le off) 3 pc') (ht : (pc : Int) + off = (tgt : Int)) (kt : x ≤ y → zV E w S tgt L st) (kf : ¬ x ≤ y → zV E w S pc' L st) : zV E w S pc L (.int y :: .int x :: st) := by
  obtain ⟨p, l, e, R, s, m, args, below, meth, c, nL, Q, kk9, nn9⟩ := E
  obtain ⟨d, rfl⟩ := d
  obtain ⟨hx, hb, hml, hown, hts, hO, hfr, hlo, hlk, hkk9, hnn9⟩ := C
  exact fun H locs ls h1 h2 h3 => lv_icmp_le hx hb d ht (fun q => kt q H locs ls h1 h2 h3) (fun q => kf q H locs ls h1 h2 h3)
theorem z_acmp_eq {σ : Type} {E : zE} {w : zW σ} {cc : ByteArray} {own : String} {fr lo : Nat} {S : σ} {pc pc' : Nat} {L : List (Nat × Value)} {st : List Value} {x y : Option Nat} {off : Int} {tgt : Nat} (C : zC E w cc own fr lo) (d : zD cc pc (.if_acmp .eq off) 3 pc') (ht : (pc : Int) + off = (tgt : Int)) (kt : x = y → zV E w S tgt L st) (kf : ¬ x = y → zV E w S pc' L st) : zV E w S pc L (va_rf y :: va_rf x :: st) := by
  obtain ⟨p, l, e, R, s, m, args, below, meth, c, nL, Q, kk9, nn9⟩ := E
  obtain ⟨d, rfl⟩ := d
  obtain ⟨hx, hb, hml, hown, hts, hO, hfr, hlo, hlk, hkk9, hnn9⟩ := C
  exact fun H locs ls h1 h2 h3 => lv_acmp_eq hx hb d ht (fun q => kt q H locs ls h1 h2 h3) (fun q => kf q H locs ls h1 h2 h3)
theorem z_acmp_ne {σ : Type} {E : zE} {w : zW σ} {cc : ByteArray} {own : String} {fr lo : Nat} {S : σ} {pc pc' : Nat} {L : List (Nat × Value)} {st : List Value} {x y : Option Nat} {off : Int} {tgt : Nat} (C : zC E w cc own fr lo) (d : zD cc pc (.if_acmp .ne off) 3 pc') (ht : (pc : Int) + off = (tgt : Int)) (kt : ¬ x = y → zV E w S tgt L st) (kf : x = y → zV E w S pc' L st) : zV E w S pc L (va_rf y :: va_rf x :: st) := by
  obtain ⟨p, l, e, R, s, m, args, below, meth, c, nL, Q, kk9, nn9⟩ := E
  obtain ⟨d, rfl⟩ := d
  obtain ⟨hx, hb, hml, hown, hts, hO, hfr, hlo, hlk, hkk9, hnn9⟩ := C
  exact fun H locs ls h1 h2 h3 => lv_acmp_ne hx hb d ht (fun q => kt q H locs ls h1 h2 h3) (fun q => kf q H locs ls h1 h2 h3)
theorem z_goto {σ : Type} {E : zE} {w : zW σ} {cc : ByteArray} {own : String} {fr lo : Nat} {S : σ} {pc pc' : Nat} {L : List (Nat × Value)} {st : List Value} {off : Int} {tgt : Nat} (C : zC E w cc own fr lo) (d : zD cc pc (.goto off) 3 pc') (ht : (pc : Int) + off = (tgt : Int)) (k : zV E w S tgt L st) : zV E w S pc L st := by
  obtain ⟨p, l, e, R, s, m, args, below, meth, c, nL, Q, kk9, nn9⟩ := E
  obtain ⟨d, rfl⟩ := d
  obtain ⟨hx, hb, hml, hown, hts, hO, hfr, hlo, hlk, hkk9, hnn9⟩ := C
  exact fun H locs ls h1 h2 h3 => lv_goto hx hb d ht (k H locs ls h1 h2 h3)
theorem z_ifnullN {σ : Type} {E : zE} {w : zW σ} {cc : ByteArray} {own : String} {fr lo : Nat} {S : σ} {pc pc' : Nat} {L : List (Nat × Value)} {st : List Value} {off : Int} {tgt : Nat} (C : zC E w cc own fr lo) (d : zD cc pc (.ifnull off) 3 pc') (ht : (pc : Int) + off = (tgt : Int)) (k : zV E w S tgt L st) : zV E w S pc L (.null :: st) := by
  obtain ⟨p, l, e, R, s, m, args, below, meth, c, nL, Q, kk9, nn9⟩ := E
  obtain ⟨d, rfl⟩ := d
  obtain ⟨hx, hb, hml, hown, hts, hO, hfr, hlo, hlk, hkk9, hnn9⟩ := C
  exact fun H locs ls h1 h2 h3 => lv_ifnullN hx hb d ht (k H locs ls h1 h2 h3)
theorem z_ifnull {σ : Type} {E : zE} {w : zW σ} {cc : ByteArray} {own : String} {fr lo : Nat} {S : σ} {pc pc' : Nat} {L : List (Nat × Value)} {st : List Value} {off : Int} {tgt x : Nat} (C : zC E w cc own fr lo) (d : zD cc pc (.ifnull off) 3 pc') (ht : (pc : Int) + off = (tgt : Int)) (k : zV E w S pc' L st) : zV E w S pc L (.ref x :: st) := by
  obtain ⟨p, l, e, R, s, m, args, below, meth, c, nL, Q, kk9, nn9⟩ := E
  obtain ⟨d, rfl⟩ := d
  obtain ⟨hx, hb, hml, hown, hts, hO, hfr, hlo, hlk, hkk9, hnn9⟩ := C
  exact fun H locs ls h1 h2 h3 => lv_ifnull hx hb d (k H locs ls h1 h2 h3)
theorem z_ifnonnullN {σ : Type} {E : zE} {w : zW σ} {cc : ByteArray} {own : String} {fr lo : Nat} {S : σ} {pc pc' : Nat} {L : List (Nat × Value)} {st : List Value} {off : Int} {tgt : Nat} (C : zC E w cc own fr lo) (d : zD cc pc (.ifnonnull off) 3 pc') (ht : (pc : Int) + off = (tgt : Int)) (k : zV E w S pc' L st) : zV E w S pc L (.null :: st) := by
  obtain ⟨p, l, e, R, s, m, args, below, meth, c, nL, Q, kk9, nn9⟩ := E
  obtain ⟨d, rfl⟩ := d
  obtain ⟨hx, hb, hml, hown, hts, hO, hfr, hlo, hlk, hkk9, hnn9⟩ := C
  exact fun H locs ls h1 h2 h3 => lv_ifnonnullN hx hb d (k H locs ls h1 h2 h3)
theorem z_ifnonnull {σ : Type} {E : zE} {w : zW σ} {cc : ByteArray} {own : String} {fr lo : Nat} {S : σ} {pc pc' : Nat} {L : List (Nat × Value)} {st : List Value} {off : Int} {tgt x : Nat} (C : zC E w cc own fr lo) (d : zD cc pc (.ifnonnull off) 3 pc') (ht : (pc : Int) + off = (tgt : Int)) (k : zV E w S tgt L st) : zV E w S pc L (.ref x :: st) := by
  obtain ⟨p, l, e, R, s, m, args, below, meth, c, nL, Q, kk9, nn9⟩ := E
  obtain ⟨d, rfl⟩ := d
  obtain ⟨hx, hb, hml, hown, hts, hO, hfr, hlo, hlk, hkk9, hnn9⟩ := C
  exact fun H locs ls h1 h2 h3 => lv_ifnonnull hx hb d ht (k H locs ls h1 h2 h3)
theorem z_lookup {σ : Type} {E : zE} {w : zW σ} {cc : ByteArray} {own : String} {fr lo : Nat} {S : σ} {pc pc' : Nat} {L : List (Nat × Value)} {st : List Value} {dflt off : Int} {ps : Array (Int × Int)} {len tgt : Nat} {x : Int32} (C : zC E w cc own fr lo) (d : zD cc pc (.lookupswitch dflt ps) len pc') (hp : (ps.toList.zip (ps.toList.drop 1)).all (fun (a, next) => a.1 < next.1) = true) (ho : Op.lookupswitch.offset ps.toList dflt x.toInt = off) (ht : (pc : Int) + off = (tgt : Int)) (k : zV E w S tgt L st) : zV E w S pc L (.int x :: st) := by
  obtain ⟨p, l, e, R, s, m, args, below, meth, c, nL, Q, kk9, nn9⟩ := E
  obtain ⟨d, rfl⟩ := d
  obtain ⟨hx, hb, hml, hown, hts, hO, hfr, hlo, hlk, hkk9, hnn9⟩ := C
  exact fun H locs ls h1 h2 h3 => lv_lookup hx hb d hp ho ht (k H locs ls h1 h2 h3)
theorem z_tableOut {σ : Type} {E : zE} {w : zW σ} {cc : ByteArray} {own : String} {fr lo : Nat} {S : σ} {pc pc' : Nat} {L : List (Nat × Value)} {st : List Value} {dflt lo9 hi9 : Int} {offs : Array Int} {len tgt : Nat} {x : Int32} (C : zC E w cc own fr lo) (d : zD cc pc (.tableswitch dflt lo9 hi9 offs) len pc') (h : x.toInt < lo9 ∨ hi9 < x.toInt) (ht : (pc : Int) + dflt = (tgt : Int)) (k : zV E w S tgt L st) : zV E w S pc L (.int x :: st) := by
  obtain ⟨p, l, e, R, s, m, args, below, meth, c, nL, Q, kk9, nn9⟩ := E
  obtain ⟨d, rfl⟩ := d
  obtain ⟨hx, hb, hml, hown, hts, hO, hfr, hlo, hlk, hkk9, hnn9⟩ := C
  exact fun H locs ls h1 h2 h3 => lv_tableOut hx hb d h ht (k H locs ls h1 h2 h3)
theorem z_tableIn {σ : Type} {E : zE} {w : zW σ} {cc : ByteArray} {own : String} {fr lo : Nat} {S : σ} {pc pc' : Nat} {L : List (Nat × Value)} {st : List Value} {dflt lo9 hi9 off : Int} {offs : Array Int} {len tgt : Nat} {x y : Int32} (C : zC E w cc own fr lo) (d : zD cc pc (.tableswitch dflt lo9 hi9 offs) len pc') (hxy : x = y) (h : (decide (¬ y.toInt < lo9) && decide (¬ hi9 < y.toInt)) = true) (ho : offs[(y.toInt - lo9).toNat]? = some off) (ht : (pc : Int) + off = (tgt : Int)) (k : zV E w S tgt L st) : zV E w S pc L (.int x :: st) := by
  obtain ⟨p, l, e, R, s, m, args, below, meth, c, nL, Q, kk9, nn9⟩ := E
  obtain ⟨d, rfl⟩ := d
  obtain ⟨hx, hb, hml, hown, hts, hO, hfr, hlo, hlk, hkk9, hnn9⟩ := C
  subst hxy
  simp only [Bool.and_eq_true, decide_eq_true_eq] at h
  exact fun H locs ls h1 h2 h3 => lv_tableIn hx hb d h.1 h.2 ho ht (k H locs ls h1 h2 h3)
def mxI (x y : Int32) : Int32 := if x < y then y else x
def mnI (x y : Int32) : Int32 := if y < x then y else x
theorem z_mmax {σ : Type} {E : zE} {w : zW σ} {cc : ByteArray} {own : String} {fr lo : Nat} {S : σ} {pc pc' : Nat} {L : List (Nat × Value)} {st : List Value} {i : Nat} {x y : Int32} (C : zC E w cc own fr lo) (h1 : Cond.methodLink own i Lib.Math.max.name ∈ tT) (h2 : Cond.static Lib.Math.max.name ∈ tT) (h3 : Cond.initialized "java/lang/Math" ∈ tT) (h4 : Cond.code Lib.Math.max.name Lib.Math.max.code 2 (some .int) ∈ tT) (hf : 1 ≤ fr) (hl : (st.map fun v => v.category).sum + 13 ≤ lo) (d : zD cc pc (.invokestatic i) 3 pc') (k : zV E w S pc' L (.int (mxI x y) :: st)) : zV E w S pc L (.int y :: .int x :: st) := by
  obtain ⟨p, l, e, R, s, m, args, below, meth, c, nL, Q, kk9, nn9⟩ := E
  obtain ⟨d, rfl⟩ := d
  obtain ⟨hx, hb, hml, hown, hts, hO, hfr, hlo, hlk, hkk9, hnn9⟩ := C
  exact fun H locs ls q1 q2 q3 => va_mmax hx hb (hml.trans q3.1.symm) hown (hts _ h1) (hts _ h2) (hts _ h3) (hts _ h4) (Nat.le_trans hf hfr) (Nat.le_trans hl hlo) hkk9 hnn9 d (k H locs ls q1 q2 q3)
theorem z_mmin {σ : Type} {E : zE} {w : zW σ} {cc : ByteArray} {own : String} {fr lo : Nat} {S : σ} {pc pc' : Nat} {L : List (Nat × Value)} {st : List Value} {i : Nat} {x y : Int32} (C : zC E w cc own fr lo) (h1 : Cond.methodLink own i Lib.Math.min.name ∈ tT) (h2 : Cond.static Lib.Math.min.name ∈ tT) (h3 : Cond.initialized "java/lang/Math" ∈ tT) (h4 : Cond.code Lib.Math.min.name Lib.Math.min.code 2 (some .int) ∈ tT) (hf : 1 ≤ fr) (hl : (st.map fun v => v.category).sum + 13 ≤ lo) (d : zD cc pc (.invokestatic i) 3 pc') (k : zV E w S pc' L (.int (mnI x y) :: st)) : zV E w S pc L (.int y :: .int x :: st) := by
  obtain ⟨p, l, e, R, s, m, args, below, meth, c, nL, Q, kk9, nn9⟩ := E
  obtain ⟨d, rfl⟩ := d
  obtain ⟨hx, hb, hml, hown, hts, hO, hfr, hlo, hlk, hkk9, hnn9⟩ := C
  exact fun H locs ls q1 q2 q3 => va_mmin hx hb (hml.trans q3.1.symm) hown (hts _ h1) (hts _ h2) (hts _ h3) (hts _ h4) (Nat.le_trans hf hfr) (Nat.le_trans hl hlo) hkk9 hnn9 d (k H locs ls q1 q2 q3)
theorem z_ireturn {σ : Type} {E : zE} {w : zW σ} {cc : ByteArray} {own : String} {fr lo : Nat} {S : σ} {pc pc' : Nat} {L : List (Nat × Value)} {P : σ → Int32 → Prop} {v : Int32} (C : zC E w cc own fr lo) (G : zGoal E (zQ w (zPi P)) w) (hr : zRt E (some .int)) (h : P S v) (d : zD cc pc .ireturn 1 pc') : zV E w S pc L ([.int v]) := by
  obtain ⟨p, l, e, R, s, m, args, below, meth, c, nL, Q, kk9, nn9⟩ := E
  obtain ⟨d, rfl⟩ := d
  obtain ⟨hx, hb, hml, hown, hts, hO, hfr, hlo, hlk, hkk9, hnn9⟩ := C
  have G : Q = _ := G
  subst G
  exact fun H locs ls h1 h2 h3 => W.iret hx hb hr (fun t ht hW => ⟨⟨_, S, rfl, ⟨_, rfl, h⟩, by unfold zB; rw [ht]; exact h1⟩, h2.F ht⟩) h2.2.2 d hlk
theorem z_zreturn {σ : Type} {E : zE} {w : zW σ} {cc : ByteArray} {own : String} {fr lo : Nat} {S : σ} {pc pc' : Nat} {L : List (Nat × Value)} {P : σ → Int32 → Prop} {v : Int32} (C : zC E w cc own fr lo) (G : zGoal E (zQ w (zPi P)) w) (hr : zRt E (some .boolean)) (hn : narrow .boolean (.int v) = .int v) (h : P S v) (d : zD cc pc .ireturn 1 pc') : zV E w S pc L ([.int v]) := by
  obtain ⟨p, l, e, R, s, m, args, below, meth, c, nL, Q, kk9, nn9⟩ := E
  obtain ⟨d, rfl⟩ := d
  obtain ⟨hx, hb, hml, hown, hts, hO, hfr, hlo, hlk, hkk9, hnn9⟩ := C
  have G : Q = _ := G
  subst G
  exact fun H locs ls h1 h2 h3 => W.zret hx hb hr hn (fun t ht hW => ⟨⟨_, S, rfl, ⟨_, rfl, h⟩, by unfold zB; rw [ht]; exact h1⟩, h2.F ht⟩) h2.2.2 d hlk
theorem z_lreturn {σ : Type} {E : zE} {w : zW σ} {cc : ByteArray} {own : String} {fr lo : Nat} {S : σ} {pc pc' : Nat} {L : List (Nat × Value)} {P : σ → Int64 → Prop} {v : Int64} (C : zC E w cc own fr lo) (G : zGoal E (zQ w (zPl P)) w) (hr : zRt E (some .long)) (h : P S v) (d : zD cc pc .lreturn 1 pc') : zV E w S pc L ([.long v]) := by
  obtain ⟨p, l, e, R, s, m, args, below, meth, c, nL, Q, kk9, nn9⟩ := E
  obtain ⟨d, rfl⟩ := d
  obtain ⟨hx, hb, hml, hown, hts, hO, hfr, hlo, hlk, hkk9, hnn9⟩ := C
  have G : Q = _ := G
  subst G
  exact fun H locs ls h1 h2 h3 => W.lret hx hb hr (fun t ht hW => ⟨⟨_, S, rfl, ⟨_, rfl, h⟩, by unfold zB; rw [ht]; exact h1⟩, h2.F ht⟩) h2.2.2 d hlk
theorem z_vreturn {σ : Type} {E : zE} {w : zW σ} {cc : ByteArray} {own : String} {fr lo : Nat} {S : σ} {pc pc' : Nat} {L : List (Nat × Value)} {P : σ → Prop} (C : zC E w cc own fr lo) (G : zGoal E (zQ w (zPv P)) w) (hr : zRt E none) (h : P S) (d : zD cc pc .return_ 1 pc') : zV E w S pc L ([]) := by
  obtain ⟨p, l, e, R, s, m, args, below, meth, c, nL, Q, kk9, nn9⟩ := E
  obtain ⟨d, rfl⟩ := d
  obtain ⟨hx, hb, hml, hown, hts, hO, hfr, hlo, hlk, hkk9, hnn9⟩ := C
  have G : Q = _ := G
  subst G
  exact fun H locs ls h1 h2 h3 => W.vret hx hb hr (fun t ht hW => ⟨⟨_, S, rfl, ⟨rfl, h⟩, by unfold zB; rw [ht]; exact h1⟩, h2.F ht⟩) h2.2.2 d hlk
theorem z_areturn {σ : Type} {E : zE} {w : zW σ} {cc : ByteArray} {own : String} {fr lo : Nat} {S : σ} {pc pc' : Nat} {L : List (Nat × Value)} {P : σ → Option Nat → Prop} {f : Nat → Nat} {v : Option Nat} {nm : String} (C : zC E w cc own fr lo) (G : zGoal E (zQ w (zPq f P)) w) (hr : zRt E (some (.object nm))) (h : P S v) (d : zD cc pc .areturn 1 pc') : zV E w S pc L [va_rf (v.map f)] := by
  obtain ⟨p, l, e, R, s, m, args, below, meth, c, nL, Q, kk9, nn9⟩ := E
  obtain ⟨d, rfl⟩ := d
  obtain ⟨hx, hb, hml, hown, hts, hO, hfr, hlo, hlk, hkk9, hnn9⟩ := C
  have G : Q = _ := G
  subst G
  exact fun H locs ls h1 h2 h3 => W.aret hx hb hr (Or.inl ⟨_, rfl⟩) (by cases v with | none => exact Or.inl rfl | some y => exact Or.inr ⟨_, rfl⟩) (fun t ht hW => ⟨⟨_, S, rfl, ⟨v, rfl, h⟩, by unfold zB; rw [ht]; exact h1⟩, h2.F ht⟩) h2.2.2 d hlk
/-- a callee's own words -/
def zQw (y : MethodName) (bytes : ByteArray) (n : Nat) (ret : Option FieldType) (k : Nat) : Prop := Cond.instanceMethod y ∈ tT ∧ Cond.selects y.cls y y ∈ tT ∧ Cond.initialized y.cls ∈ tT ∧ Cond.code y bytes n ret ∈ tT ∧ (y.cls ≠ "java/lang/invoke/MethodHandle" ∧ y.cls ≠ "java/lang/invoke/VarHandle" ∧ (parseMethodDescriptor y.desc).map (fun d => d.parameters.length) = some k)
def zQs (y : MethodName) (bytes : ByteArray) (n : Nat) (ret : Option FieldType) (k : Nat) : Prop := Cond.static y ∈ tT ∧ Cond.initialized y.cls ∈ tT ∧ Cond.code y bytes n ret ∈ tT ∧ (y.cls ≠ "java/lang/invoke/MethodHandle" ∧ y.cls ≠ "java/lang/invoke/VarHandle" ∧ (parseMethodDescriptor y.desc).map (fun d => d.parameters.length) = some k)
theorem z_good {c : Cond} (h : c ∈ tT) : GoodIn tT (c :: tT) := fun w hw => by
  have hm : w ∈ tT := by
    rcases List.mem_cons.mp hw with rfl | hw
    · exact h
    · exact hw
  exact ⟨hm, good_of_word (tT_in hm).2⟩
/-- the receiver is one of the system's cells -/
def zRc {σ : Type} (w : zW σ) (S : σ) (cls : String) (b : Nat) : Prop := ∃ (ci q0 : Nat) (fs : List Value) (T : u_T) (N : Nat), vwCl[ci]? = some (cls, T, N) ∧ (w.1 S)[q0]? = some (b, .inr (ci, fs))
theorem z_run {σ : Type} {p : Program} {l : Launch} {e : Env} {R : Room} {s : State} {m : MethodId} {args : Array Value} {below : List Frame} {meth : Method} {c : Code} {H : Heap} {locs : List Loc} {k9 n9 : Nat} {Q : State → Prop} {pc : Nat} {ls : Array Slot} {st0 rest : List Value} {w : zW σ} {P : Option Value → σ → Prop} {a : Array Value}
    (hr : va_Run p l e R s m args below meth c H locs k9 n9 0 0 (F0 m pc ls st0) rest (zQ w P a) w.2.2.2) (hS : va_S w.2.2.2 s.heap H locs)
    (kk : ∀ (v : Option Value) (u : σ) (H1 : Heap) (locs1 : List Loc), P v u → va_P w.2.1 vwCl (w.1 u) H1 → va_S w.2.2.2 s.heap H1 locs1 → W p l e R s m args below meth c H1 locs1 k9 n9 Q (F0 m (pc + 3) ls (v.toList ++ rest))) : W p l e R s m args below meth c H locs k9 n9 Q (F0 m pc ls st0) := by
  intro T hT X
  obtain ⟨v, st₀, t, T', L, h0, X', hL, e1, e2, ⟨⟨r, u, hv, hp, hb⟩, hz, hk⟩, st⟩ := hr T hT X
  cases hv
  rw [h0] at hz hk
  obtain ⟨t2, a1, b1⟩ := kk v u T'.heap (locs ++ L) hp (by rw [e1]; exact hb)
    ⟨Nat.le_trans hS.1 (by rw [e1]; exact hz), fun q h1 h2 => by rw [e1, hk q (Nat.lt_of_lt_of_le h1 hS.1) h2]; exact hS.2.1 q h1 h2, fun q hq => by
      rcases List.mem_append.mp hq with h | h
      · exact hS.2.2 q h
      · exact hL q h⟩ T' rfl X'
  exact ⟨t2, st t2 a1, b1⟩
theorem z_callV {σ : Type} {E : zE} {w : zW σ} {cc : ByteArray} {own : String} {fr lo : Nat} {S : σ} {pc pc' : Nat} {L : List (Nat × Value)} {st : List Value} {y : MethodName} {bytes : ByteArray} {n idx fr' lo' k9 : Nat} {ret : Option FieldType} {b : Nat} {As rest : List Value} {P : Option Value → σ → Prop} (C : zC E w cc own fr lo) (q : zQw y bytes n ret k9) (hl : Cond.methodLink own idx y ∈ tT) (hM : Met E.2.1 y (Cond.code y bytes n ret :: tT) (zRm fr' lo') (zPc w (.ref b :: As) S) (zQ w P) 0 0 w.2.2.2) (hrc : zRc w S y.cls b) (hR : fr' + 1 ≤ fr ∧ 8 + (n + 11) + lo' ≤ lo) (hAs : As.length = k9) (hst : As.reverse ++ .ref b :: rest = st) (hsz : (rest.map fun v => v.category).sum ≤ 8) (d : zD cc pc (.invokevirtual idx) 3 pc')
    (k : ∀ (v : Option Value) (u : σ), P v u → zV E w u pc' L (v.toList ++ rest)) : zV E w S pc L st := by
  obtain ⟨p, l, e, R, s, m, args, below, meth, c, nL, Q, kk9, nn9⟩ := E
  obtain ⟨d, rfl⟩ := d
  obtain ⟨hx, hb, hml, hown, hts, hO, hfr, hlo, hlk, hkk9, hnn9⟩ := C
  obtain ⟨q1, q2, q3, q4, q5⟩ := q
  obtain ⟨ci, q0, fs, T, N, hc, he⟩ := hrc
  subst hst
  intro H locs ls h1 h2 h3
  refine z_run (va_runV (Ts := tT) (C := y.cls) (As := As) (rest := rest) (n := k9) ⟨hx, hb, hml, hown, hts⟩ hM (cwV k9 hts (fun w hw => ?_) rfl rfl rfl ⟨rfl, q5⟩ ⟨Nat.le_trans hR.1 hfr, Nat.le_trans hR.2 hlo⟩) ⟨zPc_blind w _ S, va_recv hO.1 h1 hc he, fun U hU hW => ⟨rfl, hO.warm hW (by rw [hU]; exact h2), by rw [hU]; exact h1⟩⟩ rfl hAs h3.1 rfl (lv_room hsz) d ⟨hkk9, hnn9⟩) h2 (fun v u H1 locs1 hp hb1 hs1 => k v u hp H1 locs1 ls hb1 hs1 h3)
  unfold wsV at hw
  rcases List.mem_append.mp hw with hw | hw
  · rcases List.mem_cons.mp hw with rfl | hw
    · exact ⟨hl, good_of_word (tT_in hl).2⟩
    rcases List.mem_cons.mp hw with rfl | hw
    · exact ⟨q1, good_of_word (tT_in q1).2⟩
    rcases List.mem_cons.mp hw with rfl | hw
    · exact ⟨q2, good_of_word (tT_in q2).2⟩
    rcases List.mem_cons.mp hw with rfl | hw
    · exact ⟨q3, good_of_word (tT_in q3).2⟩
    · cases hw
  · exact z_good q4 w hw
theorem z_callS {σ : Type} {E : zE} {w : zW σ} {cc : ByteArray} {own : String} {fr lo : Nat} {S : σ} {pc pc' : Nat} {L : List (Nat × Value)} {st : List Value} {y : MethodName} {bytes : ByteArray} {n idx fr' lo' k9 : Nat} {ret : Option FieldType} {As rest : List Value} {P : Option Value → σ → Prop} (C : zC E w cc own fr lo) (q : zQs y bytes n ret k9) (hy : y.cls = own) (hl : Cond.methodLink own idx y ∈ tT) (hM : Met E.2.1 y (Cond.code y bytes n ret :: tT) (zRm fr' lo') (zPc w As S) (zQ w P) 0 0 w.2.2.2) (hR : fr' + 1 ≤ fr ∧ 8 + (n + 11) + lo' ≤ lo) (hAs : As.length = k9) (hst : As.reverse ++ rest = st) (hsz : (rest.map fun v => v.category).sum ≤ 8) (d : zD cc pc (.invokestatic idx) 3 pc')
    (k : ∀ (v : Option Value) (u : σ), P v u → zV E w u pc' L (v.toList ++ rest)) : zV E w S pc L st := by
  obtain ⟨p, l, e, R, s, m, args, below, meth, c, nL, Q, kk9, nn9⟩ := E
  obtain ⟨d, rfl⟩ := d
  obtain ⟨hx, hb, hml, hown, hts, hO, hfr, hlo, hlk, hkk9, hnn9⟩ := C
  obtain ⟨q1, q3, q4, q5⟩ := q
  subst hst; subst hy
  intro H locs ls h1 h2 h3
  refine z_run (va_runS (Ts := tT) (As := As) (rest := rest) (n := k9) ⟨hx, hb, hml, hown, hts⟩ hM (cwS k9 hts (fun w hw => ?_) rfl rfl rfl ⟨rfl, q5⟩ ⟨Nat.le_trans hR.1 hfr, Nat.le_trans hR.2 hlo⟩) ⟨zPc_blind w _ S, fun U hU hW => ⟨rfl, hO.warm hW (by rw [hU]; exact h2), by rw [hU]; exact h1⟩⟩ rfl hAs h3.1 rfl (lv_room hsz) d ⟨hkk9, hnn9⟩) h2 (fun v u H1 locs1 hp hb1 hs1 => k v u hp H1 locs1 ls hb1 hs1 h3)
  unfold wsS at hw
  rcases List.mem_append.mp hw with hw | hw
  · rcases List.mem_cons.mp hw with rfl | hw
    · exact ⟨hl, good_of_word (tT_in hl).2⟩
    rcases List.mem_cons.mp hw with rfl | hw
    · exact ⟨q1, good_of_word (tT_in q1).2⟩
    rcases List.mem_cons.mp hw with rfl | hw
    · exact ⟨q3, good_of_word (tT_in q3).2⟩
    · cases hw
  · exact z_good q4 w hw
theorem z_callVi {σ : Type} {E : zE} {w : zW σ} {cc : ByteArray} {own : String} {fr lo : Nat} {S : σ} {pc pc' : Nat} {L : List (Nat × Value)} {st : List Value} {y : MethodName} {bytes : ByteArray} {n idx fr' lo' k9 : Nat} {ret : Option FieldType} {b : Nat} {As rest : List Value} {P : σ → Int32 → Prop} (C : zC E w cc own fr lo) (q : zQw y bytes n ret k9) (hl : Cond.methodLink own idx y ∈ tT) (hM : Met E.2.1 y (Cond.code y bytes n ret :: tT) (zRm fr' lo') (zPc w (.ref b :: As) S) (zQ w (zPi P)) 0 0 w.2.2.2) (hrc : zRc w S y.cls b) (hR : fr' + 1 ≤ fr ∧ 8 + (n + 11) + lo' ≤ lo) (hAs : As.length = k9) (hst : As.reverse ++ .ref b :: rest = st) (hsz : (rest.map fun v => v.category).sum ≤ 8) (d : zD cc pc (.invokevirtual idx) 3 pc') (k : ∀ (u : σ) (r : Int32) , P u r → zV E w u pc' L (.int r :: rest)) : zV E w S pc L st :=
  z_callV C q hl hM hrc hR hAs hst hsz d (fun v u h => by obtain ⟨r, rfl, h⟩ := h; exact k u r h)
theorem z_callSi {σ : Type} {E : zE} {w : zW σ} {cc : ByteArray} {own : String} {fr lo : Nat} {S : σ} {pc pc' : Nat} {L : List (Nat × Value)} {st : List Value} {y : MethodName} {bytes : ByteArray} {n idx fr' lo' k9 : Nat} {ret : Option FieldType} {As rest : List Value} {P : σ → Int32 → Prop} (C : zC E w cc own fr lo) (q : zQs y bytes n ret k9) (hy : y.cls = own) (hl : Cond.methodLink own idx y ∈ tT) (hM : Met E.2.1 y (Cond.code y bytes n ret :: tT) (zRm fr' lo') (zPc w As S) (zQ w (zPi P)) 0 0 w.2.2.2) (hR : fr' + 1 ≤ fr ∧ 8 + (n + 11) + lo' ≤ lo) (hAs : As.length = k9) (hst : As.reverse ++ rest = st) (hsz : (rest.map fun v => v.category).sum ≤ 8) (d : zD cc pc (.invokestatic idx) 3 pc') (k : ∀ (u : σ) (r : Int32) , P u r → zV E w u pc' L (.int r :: rest)) : zV E w S pc L st :=
  z_callS C q hy hl hM hR hAs hst hsz d (fun v u h => by obtain ⟨r, rfl, h⟩ := h; exact k u r h)
theorem z_callVl {σ : Type} {E : zE} {w : zW σ} {cc : ByteArray} {own : String} {fr lo : Nat} {S : σ} {pc pc' : Nat} {L : List (Nat × Value)} {st : List Value} {y : MethodName} {bytes : ByteArray} {n idx fr' lo' k9 : Nat} {ret : Option FieldType} {b : Nat} {As rest : List Value} {P : σ → Int64 → Prop} (C : zC E w cc own fr lo) (q : zQw y bytes n ret k9) (hl : Cond.methodLink own idx y ∈ tT) (hM : Met E.2.1 y (Cond.code y bytes n ret :: tT) (zRm fr' lo') (zPc w (.ref b :: As) S) (zQ w (zPl P)) 0 0 w.2.2.2) (hrc : zRc w S y.cls b) (hR : fr' + 1 ≤ fr ∧ 8 + (n + 11) + lo' ≤ lo) (hAs : As.length = k9) (hst : As.reverse ++ .ref b :: rest = st) (hsz : (rest.map fun v => v.category).sum ≤ 8) (d : zD cc pc (.invokevirtual idx) 3 pc') (k : ∀ (u : σ) (r : Int64) , P u r → zV E w u pc' L (.long r :: rest)) : zV E w S pc L st :=
  z_callV C q hl hM hrc hR hAs hst hsz d (fun v u h => by obtain ⟨r, rfl, h⟩ := h; exact k u r h)
theorem z_callSl {σ : Type} {E : zE} {w : zW σ} {cc : ByteArray} {own : String} {fr lo : Nat} {S : σ} {pc pc' : Nat} {L : List (Nat × Value)} {st : List Value} {y : MethodName} {bytes : ByteArray} {n idx fr' lo' k9 : Nat} {ret : Option FieldType} {As rest : List Value} {P : σ → Int64 → Prop} (C : zC E w cc own fr lo) (q : zQs y bytes n ret k9) (hy : y.cls = own) (hl : Cond.methodLink own idx y ∈ tT) (hM : Met E.2.1 y (Cond.code y bytes n ret :: tT) (zRm fr' lo') (zPc w As S) (zQ w (zPl P)) 0 0 w.2.2.2) (hR : fr' + 1 ≤ fr ∧ 8 + (n + 11) + lo' ≤ lo) (hAs : As.length = k9) (hst : As.reverse ++ rest = st) (hsz : (rest.map fun v => v.category).sum ≤ 8) (d : zD cc pc (.invokestatic idx) 3 pc') (k : ∀ (u : σ) (r : Int64) , P u r → zV E w u pc' L (.long r :: rest)) : zV E w S pc L st :=
  z_callS C q hy hl hM hR hAs hst hsz d (fun v u h => by obtain ⟨r, rfl, h⟩ := h; exact k u r h)
theorem z_callVv {σ : Type} {E : zE} {w : zW σ} {cc : ByteArray} {own : String} {fr lo : Nat} {S : σ} {pc pc' : Nat} {L : List (Nat × Value)} {st : List Value} {y : MethodName} {bytes : ByteArray} {n idx fr' lo' k9 : Nat} {ret : Option FieldType} {b : Nat} {As rest : List Value} {P : σ → Prop} (C : zC E w cc own fr lo) (q : zQw y bytes n ret k9) (hl : Cond.methodLink own idx y ∈ tT) (hM : Met E.2.1 y (Cond.code y bytes n ret :: tT) (zRm fr' lo') (zPc w (.ref b :: As) S) (zQ w (zPv P)) 0 0 w.2.2.2) (hrc : zRc w S y.cls b) (hR : fr' + 1 ≤ fr ∧ 8 + (n + 11) + lo' ≤ lo) (hAs : As.length = k9) (hst : As.reverse ++ .ref b :: rest = st) (hsz : (rest.map fun v => v.category).sum ≤ 8) (d : zD cc pc (.invokevirtual idx) 3 pc') (k : ∀ (u : σ) , P u → zV E w u pc' L (rest)) : zV E w S pc L st :=
  z_callV C q hl hM hrc hR hAs hst hsz d (fun v u h => by obtain ⟨rfl, h⟩ := h; exact k u h)
theorem z_callSv {σ : Type} {E : zE} {w : zW σ} {cc : ByteArray} {own : String} {fr lo : Nat} {S : σ} {pc pc' : Nat} {L : List (Nat × Value)} {st : List Value} {y : MethodName} {bytes : ByteArray} {n idx fr' lo' k9 : Nat} {ret : Option FieldType} {As rest : List Value} {P : σ → Prop} (C : zC E w cc own fr lo) (q : zQs y bytes n ret k9) (hy : y.cls = own) (hl : Cond.methodLink own idx y ∈ tT) (hM : Met E.2.1 y (Cond.code y bytes n ret :: tT) (zRm fr' lo') (zPc w As S) (zQ w (zPv P)) 0 0 w.2.2.2) (hR : fr' + 1 ≤ fr ∧ 8 + (n + 11) + lo' ≤ lo) (hAs : As.length = k9) (hst : As.reverse ++ rest = st) (hsz : (rest.map fun v => v.category).sum ≤ 8) (d : zD cc pc (.invokestatic idx) 3 pc') (k : ∀ (u : σ) , P u → zV E w u pc' L (rest)) : zV E w S pc L st :=
  z_callS C q hy hl hM hR hAs hst hsz d (fun v u h => by obtain ⟨rfl, h⟩ := h; exact k u h)
theorem z_callVq {σ : Type} {E : zE} {w : zW σ} {cc : ByteArray} {own : String} {fr lo : Nat} {S : σ} {pc pc' : Nat} {L : List (Nat × Value)} {st : List Value} {y : MethodName} {bytes : ByteArray} {n idx fr' lo' k9 : Nat} {ret : Option FieldType} {b : Nat} {As rest : List Value} {f : Nat → Nat} {P : σ → Option Nat → Prop} (C : zC E w cc own fr lo) (q : zQw y bytes n ret k9) (hl : Cond.methodLink own idx y ∈ tT) (hM : Met E.2.1 y (Cond.code y bytes n ret :: tT) (zRm fr' lo') (zPc w (.ref b :: As) S) (zQ w (zPq f P)) 0 0 w.2.2.2) (hrc : zRc w S y.cls b) (hR : fr' + 1 ≤ fr ∧ 8 + (n + 11) + lo' ≤ lo) (hAs : As.length = k9) (hst : As.reverse ++ .ref b :: rest = st) (hsz : (rest.map fun v => v.category).sum ≤ 8) (d : zD cc pc (.invokevirtual idx) 3 pc') (k : ∀ (u : σ) (r : Option Nat) , P u r → zV E w u pc' L (va_rf (r.map f) :: rest)) : zV E w S pc L st :=
  z_callV C q hl hM hrc hR hAs hst hsz d (fun v u h => by obtain ⟨r, rfl, h⟩ := h; exact k u r h)
theorem z_callSq {σ : Type} {E : zE} {w : zW σ} {cc : ByteArray} {own : String} {fr lo : Nat} {S : σ} {pc pc' : Nat} {L : List (Nat × Value)} {st : List Value} {y : MethodName} {bytes : ByteArray} {n idx fr' lo' k9 : Nat} {ret : Option FieldType} {As rest : List Value} {f : Nat → Nat} {P : σ → Option Nat → Prop} (C : zC E w cc own fr lo) (q : zQs y bytes n ret k9) (hy : y.cls = own) (hl : Cond.methodLink own idx y ∈ tT) (hM : Met E.2.1 y (Cond.code y bytes n ret :: tT) (zRm fr' lo') (zPc w As S) (zQ w (zPq f P)) 0 0 w.2.2.2) (hR : fr' + 1 ≤ fr ∧ 8 + (n + 11) + lo' ≤ lo) (hAs : As.length = k9) (hst : As.reverse ++ rest = st) (hsz : (rest.map fun v => v.category).sum ≤ 8) (d : zD cc pc (.invokestatic idx) 3 pc') (k : ∀ (u : σ) (r : Option Nat) , P u r → zV E w u pc' L (va_rf (r.map f) :: rest)) : zV E w S pc L st :=
  z_callS C q hy hl hM hR hAs hst hsz d (fun v u h => by obtain ⟨r, rfl, h⟩ := h; exact k u r h)
def zHt {σ : Type} (E : zE) (w : zW σ) (t : Nat) : Prop := va_X t 4 zHp E.2.2.2.2.1 E.2.2.2.2.1.heap ∧ t < E.2.2.2.2.1.heap.size ∧ ¬ w.2.2.2 t
theorem z_getHp {σ : Type} {E : zE} {w : zW σ} {cc : ByteArray} {fr lo : Nat} {S : σ} {pc pc' : Nat} {L : List (Nat × Value)} {st : List Value} {idx : Nat} (C : zC E w cc "HostBench$Host" fr lo) (hl : Cond.fieldLink "HostBench$Host" idx "HostBench$Host" "HEAP" "[I" ∈ tT) (d : zD cc pc (.getstatic idx) 3 pc') (k : ∀ t : Nat, zHt E w t → zV E w S pc' L (.ref t :: st)) : zV E w S pc L st := by
  obtain ⟨p, l, e, R, s, m, args, below, meth, c, nL, Q, kk9, nn9⟩ := E
  obtain ⟨d, rfl⟩ := d
  obtain ⟨hx, hb, hml, hown, hts, hO, hfr, hlo, hlk, hkk9, hnn9⟩ := C
  obtain ⟨t, z1, z2, z3, z4⟩ := hO.2.2.2.2.2.2.2.2
  exact fun H locs ls h1 h2 h3 => va_gets hx hb z1 h2 hown (hts _ hl) (fun _ h9 => h9) d (k t ⟨z2, z3, z4⟩ H locs ls h1 h2 h3)
theorem z_lenHp {σ : Type} {E : zE} {w : zW σ} {cc : ByteArray} {own : String} {fr lo : Nat} {S : σ} {pc pc' : Nat} {L : List (Nat × Value)} {st : List Value} {t : Nat} (C : zC E w cc own fr lo) (ht : zHt E w t) (d : zD cc pc .arraylength 1 pc') (k : zV E w S pc' L (.int 4 :: st)) : zV E w S pc L (.ref t :: st) := by
  obtain ⟨p, l, e, R, s, m, args, below, meth, c, nL, Q, kk9, nn9⟩ := E
  obtain ⟨d, rfl⟩ := d
  obtain ⟨hx, hb, hml, hown, hts, hO, hfr, hlo, hlk, hkk9, hnn9⟩ := C
  exact fun H locs ls h1 h2 h3 => va_slen hx hb ht.1 ht.2.1 ht.2.2 h2 d (k H locs ls h1 h2 h3)
theorem z_aldHp {σ : Type} {E : zE} {w : zW σ} {cc : ByteArray} {own : String} {fr lo : Nat} {S : σ} {pc pc' : Nat} {L : List (Nat × Value)} {st : List Value} {t : Nat} {x : Int32} (C : zC E w cc own fr lo) (ht : zHt E w t) (hi : vp_in x 4) (d : zD cc pc .iaload 1 pc') (k : zV E w S pc' L (.int (zHp x.toNatClampNeg) :: st)) : zV E w S pc L (.int x :: .ref t :: st) := by
  obtain ⟨p, l, e, R, s, m, args, below, meth, c, nL, Q, kk9, nn9⟩ := E
  obtain ⟨d, rfl⟩ := d
  obtain ⟨hx, hb, hml, hown, hts, hO, hfr, hlo, hlk, hkk9, hnn9⟩ := C
  exact fun H locs ls h1 h2 h3 => va_sld hx hb ht.1 ht.2.1 ht.2.2 h2 hi d (k H locs ls h1 h2 h3)
theorem z_get {σ : Type} {E : zE} {w : zW σ} {cc : ByteArray} {own : String} {fr lo : Nat} {S : σ} {pc pc' : Nat} {L : List (Nat × Value)} {st : List Value} {idx ci N q0 a : Nat} {Cn : String} {T : u_T} {fs : List Value} {v : Value} (C : zC E w cc own fr lo) (he : (w.1 S)[q0]? = some (a, .inr (ci, fs))) (hin : ∀ w ∈ u_ws Cn T N, w ∈ tT) (hc : vwCl[ci]? = some (Cn, T, N)) (k9 : Nat) (hk : k9 < N) (hl : zLk own idx (T k9).1 (T k9).2.1 (T k9).2.2.1) (hv : fs[k9]? = some v) (d : zD cc pc (.getfield idx) 3 pc') (k : zV E w S pc' L (v :: st)) : zV E w S pc L (.ref a :: st) := by
  obtain ⟨p, l, e, R, s, m, args, below, meth, c, nL, Q, kk9, nn9⟩ := E
  obtain ⟨d, rfl⟩ := d
  obtain ⟨hx, hb, hml, hown, hts, hO, hfr, hlo, hlk, hkk9, hnn9⟩ := C
  intro H locs ls h1 h2 h3
  rcases hl with hl | hl
  · exact va_get hx hb hts hin hown hO.1 h1 q0 he hc k9 hk (hts _ hl) (fun _ h9 => h9) hv d (k H locs ls h1 h2 h3)
  · exact va_getN hx hb hts hin hown hO.1 h1 q0 he hc k9 hk (va_Nw.use rfl (hO.2.1 _ hl)) (fun _ h9 => h9) hv d (k H locs ls h1 h2 h3)
theorem z_put {σ : Type} {E : zE} {w : zW σ} {cc : ByteArray} {own : String} {fr lo : Nat} {S : σ} {pc pc' : Nat} {L : List (Nat × Value)} {st : List Value} {S' : σ} {idx ci N q0 a : Nat} {Cn : String} {T : u_T} {ty0 : Nat → FieldType} {fs : List Value} {v : Value} {ty : FieldType} (C : zC E w cc own fr lo) (he : (w.1 S)[q0]? = some (a, .inr (ci, fs))) (hin : ∀ w ∈ u_ws Cn T N, w ∈ tT) (hty : ∀ k, k < N → parseFieldDescriptor (T k).2.2.1 = some (ty0 k)) (hnm : ∀ a, a < N → ∀ b, b < N → a ≠ b → (T a).2.1 ≠ (T b).2.1) (hc : vwCl[ci]? = some (Cn, T, N)) (k9 : Nat) (hk : k9 < N) (hl : zLk own idx (T k9).1 (T k9).2.1 (T k9).2.2.1) (hfin : (T k9).2.2.2 = false) (hd : ty0 k9 = ty) (hn : narrow ty v = v) (hfit : fits ty v = true) (hlen : k9 < fs.length) (hS : (w.1 S).set q0 (a, .inr (ci, fs.set k9 v)) = w.1 S') (d : zD cc pc (.putfield idx) 3 pc') (k : zV E w S' pc' L st) : zV E w S pc L (v :: .ref a :: st) := by
  obtain ⟨p, l, e, R, s, m, args, below, meth, c, nL, Q, kk9, nn9⟩ := E
  obtain ⟨d, rfl⟩ := d
  obtain ⟨hx, hb, hml, hown, hts, hO, hfr, hlo, hlk, hkk9, hnn9⟩ := C
  intro H locs ls h1 h2 h3
  have hd' : parseFieldDescriptor (T k9).2.2.1 = some ty := by rw [← hd]; exact hty k9 hk
  rcases hl with hl | hl
  · exact va_put hx hb hts hin ty0 hty hnm hown hO.1 h1 (hO.2.2.1 S) h2 q0 he hc k9 hk (hts _ hl) (fun _ h9 => h9) hfin hd' hn hfit hlen d (fun H1 locs1 p1 p2 p3 => k H1 locs1 ls (by rw [← hS]; exact p1) p3 h3)
  · exact va_putN hx hb hts hin ty0 hty hnm hown hO.1 h1 (hO.2.2.1 S) h2 q0 he hc k9 hk (va_Nw.use rfl (hO.2.1 _ hl)) (fun _ h9 => h9) hfin hd' hn hfit hlen d (fun H1 locs1 p1 p2 p3 => k H1 locs1 ls (by rw [← hS]; exact p1) p3 h3)
theorem z_iald {σ : Type} {E : zE} {w : zW σ} {cc : ByteArray} {own : String} {fr lo : Nat} {S : σ} {pc pc' : Nat} {L : List (Nat × Value)} {st : List Value} {q0 t0 a n : Nat} {cA : ClassId} {f : Nat → Int32} {i : Int32} (C : zC E w cc own fr lo) (he : (w.1 S)[q0]? = some (a, .inl (cA, n, .inl f))) (ht : w.2.2.1[t0]? = some (cA, .int)) (hi : vp_in i n) (d : zD cc pc .iaload 1 pc') (k : zV E w S pc' L (.int (f i.toNatClampNeg) :: st)) : zV E w S pc L (.int i :: .ref a :: st) := by
  obtain ⟨p, l, e, R, s, m, args, below, meth, c, nL, Q, kk9, nn9⟩ := E
  obtain ⟨d, rfl⟩ := d
  obtain ⟨hx, hb, hml, hown, hts, hO, hfr, hlo, hlk, hkk9, hnn9⟩ := C
  exact fun H locs ls h1 h2 h3 => va_iald hx hb hO.1 h1 q0 t0 he ht hi d (k H locs ls h1 h2 h3)
theorem z_bald {σ : Type} {E : zE} {w : zW σ} {cc : ByteArray} {own : String} {fr lo : Nat} {S : σ} {pc pc' : Nat} {L : List (Nat × Value)} {st : List Value} {q0 t0 a n : Nat} {cA : ClassId} {f : Nat → Int32} {i : Int32} (C : zC E w cc own fr lo) (he : (w.1 S)[q0]? = some (a, .inl (cA, n, .inl f))) (ht : w.2.2.1[t0]? = some (cA, .byte)) (hi : vp_in i n) (d : zD cc pc .baload 1 pc') (k : zV E w S pc' L (.int (f i.toNatClampNeg) :: st)) : zV E w S pc L (.int i :: .ref a :: st) := by
  obtain ⟨p, l, e, R, s, m, args, below, meth, c, nL, Q, kk9, nn9⟩ := E
  obtain ⟨d, rfl⟩ := d
  obtain ⟨hx, hb, hml, hown, hts, hO, hfr, hlo, hlk, hkk9, hnn9⟩ := C
  exact fun H locs ls h1 h2 h3 => va_bald hx hb hO.1 h1 q0 t0 he ht hi d (k H locs ls h1 h2 h3)
theorem z_iast {σ : Type} {E : zE} {w : zW σ} {cc : ByteArray} {own : String} {fr lo : Nat} {S : σ} {pc pc' : Nat} {L : List (Nat × Value)} {st : List Value} {S' : σ} {q0 t0 a n : Nat} {cA : ClassId} {f : Nat → Int32} {i x : Int32} (C : zC E w cc own fr lo) (he : (w.1 S)[q0]? = some (a, .inl (cA, n, .inl f))) (ht : w.2.2.1[t0]? = some (cA, .int)) (hi : vp_in i n) (hS : (w.1 S).set q0 (a, .inl (cA, n, .inl (upd f i.toNatClampNeg (x)))) = w.1 S') (d : zD cc pc .iastore 1 pc') (k : zV E w S' pc' L st) : zV E w S pc L (.int x :: .int i :: .ref a :: st) := by
  obtain ⟨p, l, e, R, s, m, args, below, meth, c, nL, Q, kk9, nn9⟩ := E
  obtain ⟨d, rfl⟩ := d
  obtain ⟨hx, hb, hml, hown, hts, hO, hfr, hlo, hlk, hkk9, hnn9⟩ := C
  exact fun H locs ls h1 h2 h3 => va_iast hx hb hO.1 h1 (hO.2.2.1 S) h2 q0 t0 he ht hi d (fun H1 locs1 p1 p2 p3 => k H1 locs1 ls (by rw [← hS]; exact p1) p3 h3)
theorem z_bast {σ : Type} {E : zE} {w : zW σ} {cc : ByteArray} {own : String} {fr lo : Nat} {S : σ} {pc pc' : Nat} {L : List (Nat × Value)} {st : List Value} {S' : σ} {q0 t0 a n : Nat} {cA : ClassId} {f : Nat → Int32} {i x : Int32} (C : zC E w cc own fr lo) (he : (w.1 S)[q0]? = some (a, .inl (cA, n, .inl f))) (ht : w.2.2.1[t0]? = some (cA, .byte)) (hi : vp_in i n) (hS : (w.1 S).set q0 (a, .inl (cA, n, .inl (upd f i.toNatClampNeg (vp_nar .byte x)))) = w.1 S') (d : zD cc pc .bastore 1 pc') (k : zV E w S' pc' L st) : zV E w S pc L (.int x :: .int i :: .ref a :: st) := by
  obtain ⟨p, l, e, R, s, m, args, below, meth, c, nL, Q, kk9, nn9⟩ := E
  obtain ⟨d, rfl⟩ := d
  obtain ⟨hx, hb, hml, hown, hts, hO, hfr, hlo, hlk, hkk9, hnn9⟩ := C
  exact fun H locs ls h1 h2 h3 => va_bast hx hb hO.1 h1 (hO.2.2.1 S) h2 q0 t0 he ht hi d (fun H1 locs1 p1 p2 p3 => k H1 locs1 ls (by rw [← hS]; exact p1) p3 h3)
theorem z_alen {σ : Type} {E : zE} {w : zW σ} {cc : ByteArray} {own : String} {fr lo : Nat} {S : σ} {pc pc' : Nat} {L : List (Nat × Value)} {st : List Value} {q0 t0 a : Nat} {cA : ClassId} {x : vp_A} {ty : FieldType} {v : Int32} (C : zC E w cc own fr lo) (he : (w.1 S)[q0]? = some (a, .inl (cA, x))) (ht : w.2.2.1[t0]? = some (cA, ty)) (hv : Int32.ofNat x.1 = v) (d : zD cc pc .arraylength 1 pc') (k : zV E w S pc' L (.int v :: st)) : zV E w S pc L (.ref a :: st) := by
  obtain ⟨p, l, e, R, s, m, args, below, meth, c, nL, Q, kk9, nn9⟩ := E
  obtain ⟨d, rfl⟩ := d
  obtain ⟨hx, hb, hml, hown, hts, hO, hfr, hlo, hlk, hkk9, hnn9⟩ := C
  exact fun H locs ls h1 h2 h3 => va_alen hx hb hO.1 h1 q0 t0 he ht hv d (k H locs ls h1 h2 h3)
theorem z_aald {σ : Type} {E : zE} {w : zW σ} {cc : ByteArray} {own : String} {fr lo : Nat} {S : σ} {pc pc' : Nat} {L : List (Nat × Value)} {st : List Value} {q0 t0 a n : Nat} {cA : ClassId} {cn : String} {f : Nat → Option Nat} {i : Int32} (C : zC E w cc own fr lo) (he : (w.1 S)[q0]? = some (a, .inl (cA, n, .inr (.inr (.inr (.inr f)))))) (ht : w.2.2.1[t0]? = some (cA, .object cn)) (hi : vp_in i n) (d : zD cc pc .aaload 1 pc') (k : zV E w S pc' L (va_rf (f i.toNatClampNeg) :: st)) : zV E w S pc L (.int i :: .ref a :: st) := by
  obtain ⟨p, l, e, R, s, m, args, below, meth, c, nL, Q, kk9, nn9⟩ := E
  obtain ⟨d, rfl⟩ := d
  obtain ⟨hx, hb, hml, hown, hts, hO, hfr, hlo, hlk, hkk9, hnn9⟩ := C
  exact fun H locs ls h1 h2 h3 => va_aldq hx hb hO.1 h1 q0 t0 he ht hi d (k H locs ls h1 h2 h3)
theorem z_aast {σ : Type} {E : zE} {w : zW σ} {cc : ByteArray} {own : String} {fr lo : Nat} {S : σ} {pc pc' : Nat} {L : List (Nat × Value)} {st : List Value} {S' : σ} {q0 t0 qk ci a n v : Nat} {cA : ClassId} {r : vw_C} {vs : List Value} {f : Nat → Option Nat} {i : Int32} (C : zC E w cc own fr lo) (he : (w.1 S)[q0]? = some (a, .inl (cA, n, .inr (.inr (.inr (.inr f)))))) (ht : w.2.2.1[t0]? = some (cA, .object r.1)) (hv : (w.1 S)[qk]? = some (v, .inr (ci, vs))) (hc : vwCl[ci]? = some r) (hi : vp_in i n) (hS : (w.1 S).set q0 (a, .inl (cA, n, .inr (.inr (.inr (.inr (va_up f i.toNatClampNeg (some v))))))) = w.1 S') (d : zD cc pc .aastore 1 pc') (k : zV E w S' pc' L st) : zV E w S pc L (.ref v :: .int i :: .ref a :: st) := by
  obtain ⟨p, l, e, R, s, m, args, below, meth, c, nL, Q, kk9, nn9⟩ := E
  obtain ⟨d, rfl⟩ := d
  obtain ⟨hx, hb, hml, hown, hts, hO, hfr, hlo, hlk, hkk9, hnn9⟩ := C
  exact fun H locs ls h1 h2 h3 => va_astq hx hb hO.1 h1 (hO.2.2.1 S) h2 q0 t0 qk ci he ht hv hc hi d (fun H1 locs1 p1 p2 p3 => k H1 locs1 ls (by rw [← hS]; exact p1) p3 h3)
