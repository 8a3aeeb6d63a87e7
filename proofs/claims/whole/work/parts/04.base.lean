/-- what surrounds a walk: machine, launch, surroundings, room, start, method, arguments, frames below, method, code, number of locals, goal -/
abbrev zE : Type := Program × Launch × Env × Room × State × MethodId × Array Value × List Frame × Method × Code × Nat × (State → Prop)
/-- the numbers of a system: by kind and place; by row and place; which file stands where; which file a handle has; the steps -/
abbrev zS : Type := (Nat → Nat → Int32) × (Nat → Nat → Int32) × (Nat → Nat) × (Nat → Option Nat) × Int64
/-- a system's cells out of its numbers, the classes' numbers, the array classes, the addresses -/
abbrev zW : Type := (zS → va_W) × va_G × List (ClassId × FieldType) × (Nat → Prop)
def gM (S : zS) (c i : Nat) : Int32 := S.1 c i
def gR (S : zS) (b i : Nat) : Int32 := S.2.1 b i
def gF (S : zS) (i : Nat) : Nat := S.2.2.1 i
def gH (S : zS) (h : Nat) : Option Nat := S.2.2.2.1 h
def gJ (S : zS) : Int64 := S.2.2.2.2
def sM (S : zS) (c i : Nat) (v : Int32) : zS := (fun b j => if b = c then (if j = i then v else S.1 b j) else S.1 b j, S.2)
def sR (S : zS) (c i : Nat) (v : Int32) : zS := (S.1, fun b j => if b = c then (if j = i then v else S.2.1 b j) else S.2.1 b j, S.2.2)
def sF (S : zS) (i v : Nat) : zS := (S.1, S.2.1, fun j => if j = i then v else S.2.2.1 j, S.2.2.2)
def sH (S : zS) (h : Nat) (v : Option Nat) : zS := (S.1, S.2.1, S.2.2.1, fun j => if j = h then v else S.2.2.2.1 j, S.2.2.2.2)
def sJ (S : zS) (v : Int64) : zS := (S.1, S.2.1, S.2.2.1, S.2.2.2.1, v)
def zD (cc : ByteArray) (pc : Nat) (i : Instr) (n pc' : Nat) : Prop := decode cc pc = .ok (i, n) ∧ pc + n = pc'
/-- a field's entry: told by the tables, of the own class or of a nest mate's -/
def zLk (own : String) (idx : Nat) (ref name desc : String) : Prop := Cond.fieldLink own idx ref name desc ∈ tT ∨ (own, idx, ref, name, desc, "HostBench") ∈ zNl
/-- what holds of the tables at a method's start, beside its words -/
def zO (w : zW) (U : State) : Prop := va_K w.2.1 vwCl w.2.2.1 U ∧ (∀ q ∈ zNl, va_Nw (.fieldLinkNest q.1 q.2.1 q.2.2.1 q.2.2.2.1 q.2.2.2.2.1 q.2.2.2.2.2) U) ∧ ∀ S, va_D w.2.2.2 (w.1 S)
theorem zO.warm {w : zW} {s U : State} (hW : s.WarmedH U.vm) (h : zO w s) : zO w U := ⟨va_K.moved hW.alike h.1, fun q hq => va_Nw.warmF hW (h.2.1 q hq), h.2.2⟩
theorem zO.call {w : zW} {U : State} (g : JFrame) (mk : MethodId) (a : Array Value) (h : zO w U) : zO w (U.calling g mk a) := ⟨va_K.moved (u := U) (U := U.calling g mk a) (Vm.Alike.refl U.vm) h.1, fun q hq => va_Nw.same rfl (u := U) (U := U.calling g mk a) rfl (h.2.1 q hq), h.2.2⟩
/-- from here the walk comes to its goal, whatever the heap is that holds the numbers S -/
def zV (E : zE) (w : zW) (S : zS) (pc : Nat) (L : List (Nat × Value)) (st : List Value) : Prop :=
  match E with
  | (p, l, e, R, s, m, args, below, meth, c, nL, Q) => ∀ (H : Heap) (locs : List Loc) (ls : Array Slot), va_P w.2.1 vwCl (w.1 S) H → va_S w.2.2.2 s.heap H locs → lv_has ls nL L → W p l e R s m args below meth c H locs 0 0 Q (F0 m pc ls st)
/-- what the walk may use -/
def zC (E : zE) (w : zW) (cc : ByteArray) (own : String) (fr lo : Nat) : Prop :=
  match E with
  | (p, _, _, R, s, m, args, _, meth, c, nL, _) => p.tables.exec = Jvm.exec ∧ c.code = cc ∧ c.maxLocals = nL ∧ s.vm.findClass own = some m.cls ∧ (∀ w ∈ tT, w.before args s = true) ∧ zO w s ∧ fr ≤ R.frames ∧ lo ≤ R.locals ∧ meth.locks = false
def zPc (w : zW) (av : List Value) (S : zS) : Array Value → State → Prop := va_Pc av (fun U => zO w U ∧ va_P w.2.1 vwCl (w.1 S) U.heap)
def zB (w : zW) (u : zS) (t : State) : Prop := va_P w.2.1 vwCl (w.1 u) t.heap
def zQi (w : zW) (P : zS → Int32 → Prop) : Array Value → State → Outcome → State → Prop := va_Qi (fun r u => P u r) (zB w) w.2.2.2
def zQl (w : zW) (P : zS → Int64 → Prop) : Array Value → State → Outcome → State → Prop := va_Ql (fun r u => P u r) (zB w) w.2.2.2
def zQv (w : zW) (P : zS → Prop) : Array Value → State → Outcome → State → Prop := va_Qv P (zB w) w.2.2.2
/-- an answer that is null or one of the system's cells -/
def zQq (w : zW) (f : Nat → Nat) (P : zS → Option Nat → Prop) : Array Value → State → Outcome → State → Prop := fun _ st oc t => (∃ (r : Option Nat) (u : zS), oc = .returned (some (va_rf (r.map f))) ∧ P u r ∧ zB w u t) ∧ va_F w.2.2.2 st t
def zGoal (E : zE) (Qc : Array Value → State → Outcome → State → Prop) (w : zW) : Prop :=
  match E with
  | (_, _, _, _, s, _, args, below, _, _, _, Q) => Q = MQ below Qc args s 0 0 w.2.2.2
theorem zPc_blind (w : zW) (av : List Value) (S : zS) : FrameBlind (zPc w av S) := fun a U g mk h => ⟨h.1, h.2.1.call g mk a, h.2.2⟩
def zRm (fr lo : Nat) : Room := { frames := fr, cells := 0, slots := 0, locals := lo }
/-- a method's contract out of its walk -/
theorem z_met {l : Launch} {y : MethodName} {cc : ByteArray} {n : Nat} {ret : Option FieldType} {fr lo : Nat} {w : zW} {S : zS} {av : List Value} {Qc : Array Value → State → Outcome → State → Prop} (hy : plainName y.cls = true) (hn : (lg_sl av).length ≤ n)
    (k : ∀ E : zE, zC E w cc y.cls fr lo → zGoal E Qc w → (match E with | (_, _, _, _, _, _, _, _, meth, _, _, _) => meth.sig.returnType = ret) → (match E with | (_, _, _, _, _, _, _, _, meth, _, _, _) => meth.name = y.name) → zV E w S 0 (lv_args 0 av) []) :
    Met l y (Cond.code y cc n ret :: tT) (zRm fr lo) (zPc w av S) Qc 0 0 w.2.2.2 := by
  refine Met.ofW (cc := cc) (maxL := n) (ret := ret) hy rfl ?_
  intro p e s m args below meth c s₁ B hml hv
  obtain ⟨rfl, hO, hP⟩ := hv
  have hts := atoms_spec (ws := Cond.code y cc n ret :: tT) B.pre
  have hl := lv_entry av (n := n) hn
  rw [lg_entry_eq]
  generalize (lg_sl av ++ List.replicate (n - (lg_sl av).length) Slot.unset).toArray = ls at hl ⊢
  exact k (p, l, e, (headSpec (Cond.code y cc n ret :: tT) (zRm fr lo)).room, s, m, av.toArray, below, meth, c, n, MQ below Qc av.toArray s 0 0 w.2.2.2) ⟨B.exec, B.bytes, hml, findClass_of_methodNamed B.named, fun w hw => hts w (List.mem_cons_of_mem _ hw), hO, Nat.le_refl _, Nat.le_refl _, B.notSynchronized⟩ rfl B.returns (name_of_methodNamed B.named B.method).1 s.heap [] ls hP va_S.rf hl
theorem z_iconst {E : zE} {w : zW} {cc : ByteArray} {own : String} {fr lo : Nat} {S : zS} {pc pc' : Nat} {L : List (Nat × Value)} {st : List Value} {n : Int} {v : Int32} (C : zC E w cc own fr lo) (hv : Int32.ofInt n = v) (d : zD cc pc (.iconst n) 1 pc') (k : zV E w S pc' L (.int v :: st)) : zV E w S pc L (st) := by
  obtain ⟨p, l, e, R, s, m, args, below, meth, c, nL, Q⟩ := E
  obtain ⟨d, rfl⟩ := d
  obtain ⟨hx, hb, hml, hown, hts, hO, hfr, hlo, hlk⟩ := C
  exact fun H locs ls h1 h2 h3 => lv_iconst hx hb d hv (k H locs ls h1 h2 h3)
theorem z_bipush {E : zE} {w : zW} {cc : ByteArray} {own : String} {fr lo : Nat} {S : zS} {pc pc' : Nat} {L : List (Nat × Value)} {st : List Value} {n : Int} {v : Int32} (C : zC E w cc own fr lo) (hv : (Int8.ofInt n).toInt32 = v) (d : zD cc pc (.bipush n) 2 pc') (k : zV E w S pc' L (.int v :: st)) : zV E w S pc L (st) := by
  obtain ⟨p, l, e, R, s, m, args, below, meth, c, nL, Q⟩ := E
  obtain ⟨d, rfl⟩ := d
  obtain ⟨hx, hb, hml, hown, hts, hO, hfr, hlo, hlk⟩ := C
  exact fun H locs ls h1 h2 h3 => lv_bipush hx hb d hv (k H locs ls h1 h2 h3)
theorem z_sipush {E : zE} {w : zW} {cc : ByteArray} {own : String} {fr lo : Nat} {S : zS} {pc pc' : Nat} {L : List (Nat × Value)} {st : List Value} {n : Int} {v : Int32} (C : zC E w cc own fr lo) (hv : (Int16.ofInt n).toInt32 = v) (d : zD cc pc (.sipush n) 3 pc') (k : zV E w S pc' L (.int v :: st)) : zV E w S pc L (st) := by
  obtain ⟨p, l, e, R, s, m, args, below, meth, c, nL, Q⟩ := E
  obtain ⟨d, rfl⟩ := d
  obtain ⟨hx, hb, hml, hown, hts, hO, hfr, hlo, hlk⟩ := C
  exact fun H locs ls h1 h2 h3 => lv_sipush hx hb d hv (k H locs ls h1 h2 h3)
theorem z_lconst {E : zE} {w : zW} {cc : ByteArray} {own : String} {fr lo : Nat} {S : zS} {pc pc' : Nat} {L : List (Nat × Value)} {st : List Value} {n : Fin 2} {v : Int64} (C : zC E w cc own fr lo) (hv : Int64.ofNat (n : Nat) = v) (d : zD cc pc (.lconst n) 1 pc') (k : zV E w S pc' L (.long v :: st)) : zV E w S pc L (st) := by
  obtain ⟨p, l, e, R, s, m, args, below, meth, c, nL, Q⟩ := E
  obtain ⟨d, rfl⟩ := d
  obtain ⟨hx, hb, hml, hown, hts, hO, hfr, hlo, hlk⟩ := C
  exact fun H locs ls h1 h2 h3 => lv_lconst hx hb d hv (k H locs ls h1 h2 h3)
theorem z_ldc {E : zE} {w : zW} {cc : ByteArray} {own : String} {fr lo : Nat} {S : zS} {pc pc' : Nat} {L : List (Nat × Value)} {st : List Value} {i : Nat} {v : Int32} (C : zC E w cc own fr lo) (hw : Cond.constant own i v ∈ tT) (d : zD cc pc (.ldc i) 2 pc') (k : zV E w S pc' L (.int v :: st)) : zV E w S pc L (st) := by
  obtain ⟨p, l, e, R, s, m, args, below, meth, c, nL, Q⟩ := E
  obtain ⟨d, rfl⟩ := d
  obtain ⟨hx, hb, hml, hown, hts, hO, hfr, hlo, hlk⟩ := C
  exact fun H locs ls h1 h2 h3 => lv_ldc hx hb hown (hts _ hw) d (k H locs ls h1 h2 h3)
theorem z_ldc2 {E : zE} {w : zW} {cc : ByteArray} {own : String} {fr lo : Nat} {S : zS} {pc pc' : Nat} {L : List (Nat × Value)} {st : List Value} {i : Nat} {v : Int64} (C : zC E w cc own fr lo) (hw : Cond.constantLong own i v ∈ tT) (d : zD cc pc (.ldc2_w i) 3 pc') (k : zV E w S pc' L (.long v :: st)) : zV E w S pc L (st) := by
  obtain ⟨p, l, e, R, s, m, args, below, meth, c, nL, Q⟩ := E
  obtain ⟨d, rfl⟩ := d
  obtain ⟨hx, hb, hml, hown, hts, hO, hfr, hlo, hlk⟩ := C
  exact fun H locs ls h1 h2 h3 => lv_ldc2 hx hb hown (hts _ hw) d (k H locs ls h1 h2 h3)
theorem z_iload_n {E : zE} {w : zW} {cc : ByteArray} {own : String} {fr lo : Nat} {S : zS} {pc pc' : Nat} {L : List (Nat × Value)} {st : List Value} {f : Fin 4} {i : Nat} {x : Int32} (C : zC E w cc own fr lo) (q : Nat) (hq : L[q]? = some (i, .int x)) (hi : (f : Nat) = i) (d : zD cc pc (.iload_n f) 1 pc') (k : zV E w S pc' L (.int x :: st)) : zV E w S pc L (st) := by
  obtain ⟨p, l, e, R, s, m, args, below, meth, c, nL, Q⟩ := E
  obtain ⟨d, rfl⟩ := d
  obtain ⟨hx, hb, hml, hown, hts, hO, hfr, hlo, hlk⟩ := C
  exact fun H locs ls h1 h2 h3 => lv_iload_n hx hb d hi (lv_at h3 q hq) (k H locs ls h1 h2 h3)
theorem z_iload {E : zE} {w : zW} {cc : ByteArray} {own : String} {fr lo : Nat} {S : zS} {pc pc' : Nat} {L : List (Nat × Value)} {st : List Value} {i : Nat} {x : Int32} (C : zC E w cc own fr lo) (q : Nat) (hq : L[q]? = some (i, .int x)) (d : zD cc pc (.iload i) 2 pc') (k : zV E w S pc' L (.int x :: st)) : zV E w S pc L (st) := by
  obtain ⟨p, l, e, R, s, m, args, below, meth, c, nL, Q⟩ := E
  obtain ⟨d, rfl⟩ := d
  obtain ⟨hx, hb, hml, hown, hts, hO, hfr, hlo, hlk⟩ := C
  exact fun H locs ls h1 h2 h3 => lv_iload hx hb d (lv_at h3 q hq) (k H locs ls h1 h2 h3)
theorem z_lload_n {E : zE} {w : zW} {cc : ByteArray} {own : String} {fr lo : Nat} {S : zS} {pc pc' : Nat} {L : List (Nat × Value)} {st : List Value} {f : Fin 4} {i : Nat} {x : Int64} (C : zC E w cc own fr lo) (q : Nat) (hq : L[q]? = some (i, .long x)) (hi : (f : Nat) = i) (d : zD cc pc (.lload_n f) 1 pc') (k : zV E w S pc' L (.long x :: st)) : zV E w S pc L (st) := by
  obtain ⟨p, l, e, R, s, m, args, below, meth, c, nL, Q⟩ := E
  obtain ⟨d, rfl⟩ := d
  obtain ⟨hx, hb, hml, hown, hts, hO, hfr, hlo, hlk⟩ := C
  exact fun H locs ls h1 h2 h3 => lv_lload_n hx hb d hi (lv_at h3 q hq) (k H locs ls h1 h2 h3)
theorem z_lload {E : zE} {w : zW} {cc : ByteArray} {own : String} {fr lo : Nat} {S : zS} {pc pc' : Nat} {L : List (Nat × Value)} {st : List Value} {i : Nat} {x : Int64} (C : zC E w cc own fr lo) (q : Nat) (hq : L[q]? = some (i, .long x)) (d : zD cc pc (.lload i) 2 pc') (k : zV E w S pc' L (.long x :: st)) : zV E w S pc L (st) := by
  obtain ⟨p, l, e, R, s, m, args, below, meth, c, nL, Q⟩ := E
  obtain ⟨d, rfl⟩ := d
  obtain ⟨hx, hb, hml, hown, hts, hO, hfr, hlo, hlk⟩ := C
  exact fun H locs ls h1 h2 h3 => lv_lload hx hb d (lv_at h3 q hq) (k H locs ls h1 h2 h3)
theorem z_aload_n {E : zE} {w : zW} {cc : ByteArray} {own : String} {fr lo : Nat} {S : zS} {pc pc' : Nat} {L : List (Nat × Value)} {st : List Value} {f : Fin 4} {i : Nat} {x : Nat} (C : zC E w cc own fr lo) (q : Nat) (hq : L[q]? = some (i, .ref x)) (hi : (f : Nat) = i) (d : zD cc pc (.aload_n f) 1 pc') (k : zV E w S pc' L (.ref x :: st)) : zV E w S pc L (st) := by
  obtain ⟨p, l, e, R, s, m, args, below, meth, c, nL, Q⟩ := E
  obtain ⟨d, rfl⟩ := d
  obtain ⟨hx, hb, hml, hown, hts, hO, hfr, hlo, hlk⟩ := C
  exact fun H locs ls h1 h2 h3 => lv_aload_n hx hb d hi (lv_at h3 q hq) (k H locs ls h1 h2 h3)
theorem z_aload {E : zE} {w : zW} {cc : ByteArray} {own : String} {fr lo : Nat} {S : zS} {pc pc' : Nat} {L : List (Nat × Value)} {st : List Value} {i : Nat} {x : Nat} (C : zC E w cc own fr lo) (q : Nat) (hq : L[q]? = some (i, .ref x)) (d : zD cc pc (.aload i) 2 pc') (k : zV E w S pc' L (.ref x :: st)) : zV E w S pc L (st) := by
  obtain ⟨p, l, e, R, s, m, args, below, meth, c, nL, Q⟩ := E
  obtain ⟨d, rfl⟩ := d
  obtain ⟨hx, hb, hml, hown, hts, hO, hfr, hlo, hlk⟩ := C
  exact fun H locs ls h1 h2 h3 => lv_aload hx hb d (lv_at h3 q hq) (k H locs ls h1 h2 h3)
theorem z_aload_nq {E : zE} {w : zW} {cc : ByteArray} {own : String} {fr lo : Nat} {S : zS} {pc pc' : Nat} {L : List (Nat × Value)} {st : List Value} {f : Fin 4} {i : Nat} {x : Option Nat} (C : zC E w cc own fr lo) (q : Nat) (hq : L[q]? = some (i, va_rf x)) (hi : (f : Nat) = i) (d : zD cc pc (.aload_n f) 1 pc') (k : zV E w S pc' L (va_rf x :: st)) : zV E w S pc L st := by
  cases x with
  | none =>
    obtain ⟨p, l, e, R, s, m, args, below, meth, c, nL, Q⟩ := E
    obtain ⟨d, rfl⟩ := d
    obtain ⟨hx, hb, hml, hown, hts, hO, hfr, hlo, hlk⟩ := C
    exact fun H locs ls h1 h2 h3 => lv_aload_nN hx hb d hi (lv_at h3 q hq) (k H locs ls h1 h2 h3)
  | some y => exact z_aload_n C q hq hi d k
theorem z_aloadq {E : zE} {w : zW} {cc : ByteArray} {own : String} {fr lo : Nat} {S : zS} {pc pc' : Nat} {L : List (Nat × Value)} {st : List Value} {i : Nat} {x : Option Nat} (C : zC E w cc own fr lo) (q : Nat) (hq : L[q]? = some (i, va_rf x)) (d : zD cc pc (.aload i) 2 pc') (k : zV E w S pc' L (va_rf x :: st)) : zV E w S pc L st := by
  cases x with
  | none =>
    obtain ⟨p, l, e, R, s, m, args, below, meth, c, nL, Q⟩ := E
    obtain ⟨d, rfl⟩ := d
    obtain ⟨hx, hb, hml, hown, hts, hO, hfr, hlo, hlk⟩ := C
    exact fun H locs ls h1 h2 h3 => lv_aloadN hx hb d (lv_at h3 q hq) (k H locs ls h1 h2 h3)
  | some y => exact z_aload C q hq d k
theorem z_istore_n {E : zE} {w : zW} {cc : ByteArray} {own : String} {fr lo : Nat} {S : zS} {pc pc' : Nat} {L : List (Nat × Value)} {st : List Value} {f : Fin 4} {i nl : Nat} {x : Int32} {L' : List (Nat × Value)} (C : zC E w cc own fr lo) (hnl : E.2.2.2.2.2.2.2.2.2.2.1 = nl) (hi : (f : Nat) = i) (hn : i < nl) (hl : (i, Value.int x) :: L.filter (fun q => !(q.1 == i) && !(q.1 + 1 == i && q.2.category == 2)) = L') (d : zD cc pc (.istore_n f) 1 pc') (k : zV E w S pc' L' st) : zV E w S pc L (.int x :: st) := by
  obtain ⟨p, l, e, R, s, m, args, below, meth, c, nL, Q⟩ := E
  obtain ⟨d, rfl⟩ := d
  obtain ⟨hx, hb, hml, hown, hts, hO, hfr, hlo, hlk⟩ := C
  subst hnl
  exact fun H locs ls h1 h2 h3 => lv_istore_n hx hb d hi h3 hn hl (fun ls h3 => k H locs ls h1 h2 h3)
theorem z_istore {E : zE} {w : zW} {cc : ByteArray} {own : String} {fr lo : Nat} {S : zS} {pc pc' : Nat} {L : List (Nat × Value)} {st : List Value} {i nl : Nat} {x : Int32} {L' : List (Nat × Value)} (C : zC E w cc own fr lo) (hnl : E.2.2.2.2.2.2.2.2.2.2.1 = nl) (hn : i < nl) (hl : (i, Value.int x) :: L.filter (fun q => !(q.1 == i) && !(q.1 + 1 == i && q.2.category == 2)) = L') (d : zD cc pc (.istore i) 2 pc') (k : zV E w S pc' L' st) : zV E w S pc L (.int x :: st) := by
  obtain ⟨p, l, e, R, s, m, args, below, meth, c, nL, Q⟩ := E
  obtain ⟨d, rfl⟩ := d
  obtain ⟨hx, hb, hml, hown, hts, hO, hfr, hlo, hlk⟩ := C
  subst hnl
  exact fun H locs ls h1 h2 h3 => lv_istore hx hb d h3 hn hl (fun ls h3 => k H locs ls h1 h2 h3)
theorem z_lstore_n {E : zE} {w : zW} {cc : ByteArray} {own : String} {fr lo : Nat} {S : zS} {pc pc' : Nat} {L : List (Nat × Value)} {st : List Value} {f : Fin 4} {i nl : Nat} {x : Int64} {L' : List (Nat × Value)} (C : zC E w cc own fr lo) (hnl : E.2.2.2.2.2.2.2.2.2.2.1 = nl) (hi : (f : Nat) = i) (hn : i + 1 < nl) (hl : (i, Value.long x) :: L.filter (fun q => !(q.1 == i) && (!(q.1 == i + 1) && !(q.1 + 1 == i && q.2.category == 2))) = L') (d : zD cc pc (.lstore_n f) 1 pc') (k : zV E w S pc' L' st) : zV E w S pc L (.long x :: st) := by
  obtain ⟨p, l, e, R, s, m, args, below, meth, c, nL, Q⟩ := E
  obtain ⟨d, rfl⟩ := d
  obtain ⟨hx, hb, hml, hown, hts, hO, hfr, hlo, hlk⟩ := C
  subst hnl
  exact fun H locs ls h1 h2 h3 => lv_lstore_n hx hb d hi h3 hn hl (fun ls h3 => k H locs ls h1 h2 h3)
theorem z_lstore {E : zE} {w : zW} {cc : ByteArray} {own : String} {fr lo : Nat} {S : zS} {pc pc' : Nat} {L : List (Nat × Value)} {st : List Value} {i nl : Nat} {x : Int64} {L' : List (Nat × Value)} (C : zC E w cc own fr lo) (hnl : E.2.2.2.2.2.2.2.2.2.2.1 = nl) (hn : i + 1 < nl) (hl : (i, Value.long x) :: L.filter (fun q => !(q.1 == i) && (!(q.1 == i + 1) && !(q.1 + 1 == i && q.2.category == 2))) = L') (d : zD cc pc (.lstore i) 2 pc') (k : zV E w S pc' L' st) : zV E w S pc L (.long x :: st) := by
  obtain ⟨p, l, e, R, s, m, args, below, meth, c, nL, Q⟩ := E
  obtain ⟨d, rfl⟩ := d
  obtain ⟨hx, hb, hml, hown, hts, hO, hfr, hlo, hlk⟩ := C
  subst hnl
  exact fun H locs ls h1 h2 h3 => lv_lstore hx hb d h3 hn hl (fun ls h3 => k H locs ls h1 h2 h3)
theorem z_astore_n {E : zE} {w : zW} {cc : ByteArray} {own : String} {fr lo : Nat} {S : zS} {pc pc' : Nat} {L : List (Nat × Value)} {st : List Value} {f : Fin 4} {i nl : Nat} {x : Nat} {L' : List (Nat × Value)} (C : zC E w cc own fr lo) (hnl : E.2.2.2.2.2.2.2.2.2.2.1 = nl) (hi : (f : Nat) = i) (hn : i < nl) (hl : (i, Value.ref x) :: L.filter (fun q => !(q.1 == i) && !(q.1 + 1 == i && q.2.category == 2)) = L') (d : zD cc pc (.astore_n f) 1 pc') (k : zV E w S pc' L' st) : zV E w S pc L (.ref x :: st) := by
  obtain ⟨p, l, e, R, s, m, args, below, meth, c, nL, Q⟩ := E
  obtain ⟨d, rfl⟩ := d
  obtain ⟨hx, hb, hml, hown, hts, hO, hfr, hlo, hlk⟩ := C
  subst hnl
  exact fun H locs ls h1 h2 h3 => lv_astore_n hx hb d hi h3 hn hl (fun ls h3 => k H locs ls h1 h2 h3)
theorem z_astore {E : zE} {w : zW} {cc : ByteArray} {own : String} {fr lo : Nat} {S : zS} {pc pc' : Nat} {L : List (Nat × Value)} {st : List Value} {i nl : Nat} {x : Nat} {L' : List (Nat × Value)} (C : zC E w cc own fr lo) (hnl : E.2.2.2.2.2.2.2.2.2.2.1 = nl) (hn : i < nl) (hl : (i, Value.ref x) :: L.filter (fun q => !(q.1 == i) && !(q.1 + 1 == i && q.2.category == 2)) = L') (d : zD cc pc (.astore i) 2 pc') (k : zV E w S pc' L' st) : zV E w S pc L (.ref x :: st) := by
  obtain ⟨p, l, e, R, s, m, args, below, meth, c, nL, Q⟩ := E
  obtain ⟨d, rfl⟩ := d
  obtain ⟨hx, hb, hml, hown, hts, hO, hfr, hlo, hlk⟩ := C
  subst hnl
  exact fun H locs ls h1 h2 h3 => lv_astore hx hb d h3 hn hl (fun ls h3 => k H locs ls h1 h2 h3)
theorem z_astore_nq {E : zE} {w : zW} {cc : ByteArray} {own : String} {fr lo : Nat} {S : zS} {pc pc' : Nat} {L : List (Nat × Value)} {st : List Value} {f : Fin 4} {i nl : Nat} {x : Option Nat} {L' : List (Nat × Value)} (C : zC E w cc own fr lo) (hnl : E.2.2.2.2.2.2.2.2.2.2.1 = nl) (hi : (f : Nat) = i) (hn : i < nl) (hl : (i, va_rf x) :: L.filter (fun q => !(q.1 == i) && !(q.1 + 1 == i && q.2.category == 2)) = L') (d : zD cc pc (.astore_n f) 1 pc') (k : zV E w S pc' L' st) : zV E w S pc L (va_rf x :: st) := by
  cases x with
  | none =>
    obtain ⟨p, l, e, R, s, m, args, below, meth, c, nL, Q⟩ := E
    obtain ⟨d, rfl⟩ := d
    obtain ⟨hx, hb, hml, hown, hts, hO, hfr, hlo, hlk⟩ := C
    subst hnl
    exact fun H locs ls h1 h2 h3 => lv_astore_nN hx hb d hi h3 hn hl (fun ls h3 => k H locs ls h1 h2 h3)
  | some y => exact z_astore_n C hnl hi hn hl d k
theorem z_astoreq {E : zE} {w : zW} {cc : ByteArray} {own : String} {fr lo : Nat} {S : zS} {pc pc' : Nat} {L : List (Nat × Value)} {st : List Value} {i nl : Nat} {x : Option Nat} {L' : List (Nat × Value)} (C : zC E w cc own fr lo) (hnl : E.2.2.2.2.2.2.2.2.2.2.1 = nl) (hn : i < nl) (hl : (i, va_rf x) :: L.filter (fun q => !(q.1 == i) && !(q.1 + 1 == i && q.2.category == 2)) = L') (d : zD cc pc (.astore i) 2 pc') (k : zV E w S pc' L' st) : zV E w S pc L (va_rf x :: st) := by
  cases x with
  | none =>
    obtain ⟨p, l, e, R, s, m, args, below, meth, c, nL, Q⟩ := E
    obtain ⟨d, rfl⟩ := d
    obtain ⟨hx, hb, hml, hown, hts, hO, hfr, hlo, hlk⟩ := C
    subst hnl
    exact fun H locs ls h1 h2 h3 => lv_astoreN hx hb d h3 hn hl (fun ls h3 => k H locs ls h1 h2 h3)
  | some y => exact z_astore C hnl hn hl d k
theorem z_iinc {E : zE} {w : zW} {cc : ByteArray} {own : String} {fr lo : Nat} {S : zS} {pc pc' : Nat} {L : List (Nat × Value)} {st : List Value} {i nl : Nat} {n : Int} {x v : Int32} {L' : List (Nat × Value)} (C : zC E w cc own fr lo) (hnl : E.2.2.2.2.2.2.2.2.2.2.1 = nl) (q : Nat) (hq : L[q]? = some (i, .int x)) (hv : x + Int32.ofInt n = v) (hn : i < nl) (hl : (i, Value.int v) :: L.filter (fun q => !(q.1 == i) && !(q.1 + 1 == i && q.2.category == 2)) = L') (d : zD cc pc (.iinc i n) 3 pc') (k : zV E w S pc' L' st) : zV E w S pc L st := by
  obtain ⟨p, l, e, R, s, m, args, below, meth, c, nL, Q⟩ := E
  obtain ⟨d, rfl⟩ := d
  obtain ⟨hx, hb, hml, hown, hts, hO, hfr, hlo, hlk⟩ := C
  subst hnl
  exact fun H locs ls h1 h2 h3 => lv_iinc hx hb d h3 hq hv hn hl (fun ls h3 => k H locs ls h1 h2 h3)
theorem z_iadd {E : zE} {w : zW} {cc : ByteArray} {own : String} {fr lo : Nat} {S : zS} {pc pc' : Nat} {L : List (Nat × Value)} {st : List Value} {x y : Int32} (C : zC E w cc own fr lo) (d : zD cc pc .iadd 1 pc') (k : zV E w S pc' L (.int (x + y) :: st)) : zV E w S pc L (.int y :: .int x :: st) := by
  obtain ⟨p, l, e, R, s, m, args, below, meth, c, nL, Q⟩ := E
  obtain ⟨d, rfl⟩ := d
  obtain ⟨hx, hb, hml, hown, hts, hO, hfr, hlo, hlk⟩ := C
  exact fun H locs ls h1 h2 h3 => lv_iadd hx hb d (k H locs ls h1 h2 h3)
theorem z_isub {E : zE} {w : zW} {cc : ByteArray} {own : String} {fr lo : Nat} {S : zS} {pc pc' : Nat} {L : List (Nat × Value)} {st : List Value} {x y : Int32} (C : zC E w cc own fr lo) (d : zD cc pc .isub 1 pc') (k : zV E w S pc' L (.int (x - y) :: st)) : zV E w S pc L (.int y :: .int x :: st) := by
  obtain ⟨p, l, e, R, s, m, args, below, meth, c, nL, Q⟩ := E
  obtain ⟨d, rfl⟩ := d
  obtain ⟨hx, hb, hml, hown, hts, hO, hfr, hlo, hlk⟩ := C
  exact fun H locs ls h1 h2 h3 => lv_isub hx hb d (k H locs ls h1 h2 h3)
theorem z_imul {E : zE} {w : zW} {cc : ByteArray} {own : String} {fr lo : Nat} {S : zS} {pc pc' : Nat} {L : List (Nat × Value)} {st : List Value} {x y : Int32} (C : zC E w cc own fr lo) (d : zD cc pc .imul 1 pc') (k : zV E w S pc' L (.int (x * y) :: st)) : zV E w S pc L (.int y :: .int x :: st) := by
  obtain ⟨p, l, e, R, s, m, args, below, meth, c, nL, Q⟩ := E
  obtain ⟨d, rfl⟩ := d
  obtain ⟨hx, hb, hml, hown, hts, hO, hfr, hlo, hlk⟩ := C
  exact fun H locs ls h1 h2 h3 => lv_imul hx hb d (k H locs ls h1 h2 h3)
theorem z_iand {E : zE} {w : zW} {cc : ByteArray} {own : String} {fr lo : Nat} {S : zS} {pc pc' : Nat} {L : List (Nat × Value)} {st : List Value} {x y : Int32} (C : zC E w cc own fr lo) (d : zD cc pc .iand 1 pc') (k : zV E w S pc' L (.int (x &&& y) :: st)) : zV E w S pc L (.int y :: .int x :: st) := by
  obtain ⟨p, l, e, R, s, m, args, below, meth, c, nL, Q⟩ := E
  obtain ⟨d, rfl⟩ := d
  obtain ⟨hx, hb, hml, hown, hts, hO, hfr, hlo, hlk⟩ := C
  exact fun H locs ls h1 h2 h3 => lv_iand hx hb d (k H locs ls h1 h2 h3)
theorem z_ior {E : zE} {w : zW} {cc : ByteArray} {own : String} {fr lo : Nat} {S : zS} {pc pc' : Nat} {L : List (Nat × Value)} {st : List Value} {x y : Int32} (C : zC E w cc own fr lo) (d : zD cc pc .ior 1 pc') (k : zV E w S pc' L (.int (x ||| y) :: st)) : zV E w S pc L (.int y :: .int x :: st) := by
  obtain ⟨p, l, e, R, s, m, args, below, meth, c, nL, Q⟩ := E
  obtain ⟨d, rfl⟩ := d
  obtain ⟨hx, hb, hml, hown, hts, hO, hfr, hlo, hlk⟩ := C
  exact fun H locs ls h1 h2 h3 => lv_ior hx hb d (k H locs ls h1 h2 h3)
theorem z_ixor {E : zE} {w : zW} {cc : ByteArray} {own : String} {fr lo : Nat} {S : zS} {pc pc' : Nat} {L : List (Nat × Value)} {st : List Value} {x y : Int32} (C : zC E w cc own fr lo) (d : zD cc pc .ixor 1 pc') (k : zV E w S pc' L (.int (x ^^^ y) :: st)) : zV E w S pc L (.int y :: .int x :: st) := by
  obtain ⟨p, l, e, R, s, m, args, below, meth, c, nL, Q⟩ := E
  obtain ⟨d, rfl⟩ := d
  obtain ⟨hx, hb, hml, hown, hts, hO, hfr, hlo, hlk⟩ := C
  exact fun H locs ls h1 h2 h3 => lv_ixor hx hb d (k H locs ls h1 h2 h3)
theorem z_ishl {E : zE} {w : zW} {cc : ByteArray} {own : String} {fr lo : Nat} {S : zS} {pc pc' : Nat} {L : List (Nat × Value)} {st : List Value} {x y : Int32} (C : zC E w cc own fr lo) (d : zD cc pc .ishl 1 pc') (k : zV E w S pc' L (.int (x <<< (y &&& 31)) :: st)) : zV E w S pc L (.int y :: .int x :: st) := by
  obtain ⟨p, l, e, R, s, m, args, below, meth, c, nL, Q⟩ := E
  obtain ⟨d, rfl⟩ := d
  obtain ⟨hx, hb, hml, hown, hts, hO, hfr, hlo, hlk⟩ := C
  exact fun H locs ls h1 h2 h3 => lv_ishl hx hb d (k H locs ls h1 h2 h3)
theorem z_ishr {E : zE} {w : zW} {cc : ByteArray} {own : String} {fr lo : Nat} {S : zS} {pc pc' : Nat} {L : List (Nat × Value)} {st : List Value} {x y : Int32} (C : zC E w cc own fr lo) (d : zD cc pc .ishr 1 pc') (k : zV E w S pc' L (.int (x >>> (y &&& 31)) :: st)) : zV E w S pc L (.int y :: .int x :: st) := by
  obtain ⟨p, l, e, R, s, m, args, below, meth, c, nL, Q⟩ := E
  obtain ⟨d, rfl⟩ := d
  obtain ⟨hx, hb, hml, hown, hts, hO, hfr, hlo, hlk⟩ := C
  exact fun H locs ls h1 h2 h3 => lv_ishr hx hb d (k H locs ls h1 h2 h3)
theorem z_iushr {E : zE} {w : zW} {cc : ByteArray} {own : String} {fr lo : Nat} {S : zS} {pc pc' : Nat} {L : List (Nat × Value)} {st : List Value} {x y : Int32} (C : zC E w cc own fr lo) (d : zD cc pc .iushr 1 pc') (k : zV E w S pc' L (.int ((x.toUInt32 >>> (y.toUInt32 &&& Int32.toUInt32 31)).toInt32) :: st)) : zV E w S pc L (.int y :: .int x :: st) := by
  obtain ⟨p, l, e, R, s, m, args, below, meth, c, nL, Q⟩ := E
  obtain ⟨d, rfl⟩ := d
  obtain ⟨hx, hb, hml, hown, hts, hO, hfr, hlo, hlk⟩ := C
  exact fun H locs ls h1 h2 h3 => lv_iushr hx hb d rfl (k H locs ls h1 h2 h3)
theorem z_idiv {E : zE} {w : zW} {cc : ByteArray} {own : String} {fr lo : Nat} {S : zS} {pc pc' : Nat} {L : List (Nat × Value)} {st : List Value} {x y : Int32} (C : zC E w cc own fr lo) (hne : ¬ y = 0) (d : zD cc pc .idiv 1 pc') (k : zV E w S pc' L (.int (x / y) :: st)) : zV E w S pc L (.int y :: .int x :: st) := by
  obtain ⟨p, l, e, R, s, m, args, below, meth, c, nL, Q⟩ := E
  obtain ⟨d, rfl⟩ := d
  obtain ⟨hx, hb, hml, hown, hts, hO, hfr, hlo, hlk⟩ := C
  exact fun H locs ls h1 h2 h3 => lv_idiv hx hb d hne (k H locs ls h1 h2 h3)
theorem z_irem {E : zE} {w : zW} {cc : ByteArray} {own : String} {fr lo : Nat} {S : zS} {pc pc' : Nat} {L : List (Nat × Value)} {st : List Value} {x y : Int32} (C : zC E w cc own fr lo) (hne : ¬ y = 0) (d : zD cc pc .irem 1 pc') (k : zV E w S pc' L (.int (x - x / y * y) :: st)) : zV E w S pc L (.int y :: .int x :: st) := by
  obtain ⟨p, l, e, R, s, m, args, below, meth, c, nL, Q⟩ := E
  obtain ⟨d, rfl⟩ := d
  obtain ⟨hx, hb, hml, hown, hts, hO, hfr, hlo, hlk⟩ := C
  exact fun H locs ls h1 h2 h3 => lv_irem hx hb d hne (k H locs ls h1 h2 h3)
theorem z_ladd {E : zE} {w : zW} {cc : ByteArray} {own : String} {fr lo : Nat} {S : zS} {pc pc' : Nat} {L : List (Nat × Value)} {st : List Value} {x y : Int64} (C : zC E w cc own fr lo) (d : zD cc pc .ladd 1 pc') (k : zV E w S pc' L (.long (x + y) :: st)) : zV E w S pc L (.long y :: .long x :: st) := by
  obtain ⟨p, l, e, R, s, m, args, below, meth, c, nL, Q⟩ := E
  obtain ⟨d, rfl⟩ := d
  obtain ⟨hx, hb, hml, hown, hts, hO, hfr, hlo, hlk⟩ := C
  exact fun H locs ls h1 h2 h3 => lv_ladd hx hb d (k H locs ls h1 h2 h3)
theorem z_lmul {E : zE} {w : zW} {cc : ByteArray} {own : String} {fr lo : Nat} {S : zS} {pc pc' : Nat} {L : List (Nat × Value)} {st : List Value} {x y : Int64} (C : zC E w cc own fr lo) (d : zD cc pc .lmul 1 pc') (k : zV E w S pc' L (.long (x * y) :: st)) : zV E w S pc L (.long y :: .long x :: st) := by
  obtain ⟨p, l, e, R, s, m, args, below, meth, c, nL, Q⟩ := E
  obtain ⟨d, rfl⟩ := d
  obtain ⟨hx, hb, hml, hown, hts, hO, hfr, hlo, hlk⟩ := C
  exact fun H locs ls h1 h2 h3 => lv_lmul hx hb d (k H locs ls h1 h2 h3)
theorem z_land {E : zE} {w : zW} {cc : ByteArray} {own : String} {fr lo : Nat} {S : zS} {pc pc' : Nat} {L : List (Nat × Value)} {st : List Value} {x y : Int64} (C : zC E w cc own fr lo) (d : zD cc pc .land 1 pc') (k : zV E w S pc' L (.long (x &&& y) :: st)) : zV E w S pc L (.long y :: .long x :: st) := by
  obtain ⟨p, l, e, R, s, m, args, below, meth, c, nL, Q⟩ := E
  obtain ⟨d, rfl⟩ := d
  obtain ⟨hx, hb, hml, hown, hts, hO, hfr, hlo, hlk⟩ := C
  exact fun H locs ls h1 h2 h3 => lv_land hx hb d (k H locs ls h1 h2 h3)
theorem z_ldiv {E : zE} {w : zW} {cc : ByteArray} {own : String} {fr lo : Nat} {S : zS} {pc pc' : Nat} {L : List (Nat × Value)} {st : List Value} {x y : Int64} (C : zC E w cc own fr lo) (hne : ¬ y = 0) (d : zD cc pc .ldiv 1 pc') (k : zV E w S pc' L (.long (x / y) :: st)) : zV E w S pc L (.long y :: .long x :: st) := by
  obtain ⟨p, l, e, R, s, m, args, below, meth, c, nL, Q⟩ := E
  obtain ⟨d, rfl⟩ := d
  obtain ⟨hx, hb, hml, hown, hts, hO, hfr, hlo, hlk⟩ := C
  exact fun H locs ls h1 h2 h3 => lv_ldiv hx hb d hne (k H locs ls h1 h2 h3)
theorem z_lrem {E : zE} {w : zW} {cc : ByteArray} {own : String} {fr lo : Nat} {S : zS} {pc pc' : Nat} {L : List (Nat × Value)} {st : List Value} {x y : Int64} (C : zC E w cc own fr lo) (hne : ¬ y = 0) (d : zD cc pc .lrem 1 pc') (k : zV E w S pc' L (.long (x - x / y * y) :: st)) : zV E w S pc L (.long y :: .long x :: st) := by
  obtain ⟨p, l, e, R, s, m, args, below, meth, c, nL, Q⟩ := E
  obtain ⟨d, rfl⟩ := d
  obtain ⟨hx, hb, hml, hown, hts, hO, hfr, hlo, hlk⟩ := C
  exact fun H locs ls h1 h2 h3 => lv_lrem hx hb d hne (k H locs ls h1 h2 h3)
theorem z_lushr {E : zE} {w : zW} {cc : ByteArray} {own : String} {fr lo : Nat} {S : zS} {pc pc' : Nat} {L : List (Nat × Value)} {st : List Value} {x : Int64} {y : Int32} (C : zC E w cc own fr lo) (d : zD cc pc .lushr 1 pc') (k : zV E w S pc' L (.long ((x.toUInt64 >>> (y.toInt64.toUInt64 &&& Int64.toUInt64 63)).toInt64) :: st)) : zV E w S pc L (.int y :: .long x :: st) := by
  obtain ⟨p, l, e, R, s, m, args, below, meth, c, nL, Q⟩ := E
  obtain ⟨d, rfl⟩ := d
  obtain ⟨hx, hb, hml, hown, hts, hO, hfr, hlo, hlk⟩ := C
  exact fun H locs ls h1 h2 h3 => lv_lushr hx hb d rfl (k H locs ls h1 h2 h3)
theorem z_lshr {E : zE} {w : zW} {cc : ByteArray} {own : String} {fr lo : Nat} {S : zS} {pc pc' : Nat} {L : List (Nat × Value)} {st : List Value} {x : Int64} {y : Int32} (C : zC E w cc own fr lo) (d : zD cc pc .lshr 1 pc') (k : zV E w S pc' L (.long (x >>> (y.toInt64 &&& 63)) :: st)) : zV E w S pc L (.int y :: .long x :: st) := by
  obtain ⟨p, l, e, R, s, m, args, below, meth, c, nL, Q⟩ := E
  obtain ⟨d, rfl⟩ := d
  obtain ⟨hx, hb, hml, hown, hts, hO, hfr, hlo, hlk⟩ := C
  exact fun H locs ls h1 h2 h3 => lv_lshr hx hb d rfl (k H locs ls h1 h2 h3)
theorem z_i2l {E : zE} {w : zW} {cc : ByteArray} {own : String} {fr lo : Nat} {S : zS} {pc pc' : Nat} {L : List (Nat × Value)} {st : List Value} {x : Int32} (C : zC E w cc own fr lo) (d : zD cc pc .i2l 1 pc') (k : zV E w S pc' L (.long x.toInt64 :: st)) : zV E w S pc L (.int x :: st) := by
  obtain ⟨p, l, e, R, s, m, args, below, meth, c, nL, Q⟩ := E
  obtain ⟨d, rfl⟩ := d
  obtain ⟨hx, hb, hml, hown, hts, hO, hfr, hlo, hlk⟩ := C
  exact fun H locs ls h1 h2 h3 => lv_i2l hx hb d rfl (k H locs ls h1 h2 h3)
theorem z_l2i {E : zE} {w : zW} {cc : ByteArray} {own : String} {fr lo : Nat} {S : zS} {pc pc' : Nat} {L : List (Nat × Value)} {st : List Value} {x : Int64} (C : zC E w cc own fr lo) (d : zD cc pc .l2i 1 pc') (k : zV E w S pc' L (.int x.toInt32 :: st)) : zV E w S pc L (.long x :: st) := by
  obtain ⟨p, l, e, R, s, m, args, below, meth, c, nL, Q⟩ := E
  obtain ⟨d, rfl⟩ := d
  obtain ⟨hx, hb, hml, hown, hts, hO, hfr, hlo, hlk⟩ := C
  exact fun H locs ls h1 h2 h3 => lv_l2i hx hb d rfl (k H locs ls h1 h2 h3)
theorem z_i2b {E : zE} {w : zW} {cc : ByteArray} {own : String} {fr lo : Nat} {S : zS} {pc pc' : Nat} {L : List (Nat × Value)} {st : List Value} {x : Int32} (C : zC E w cc own fr lo) (d : zD cc pc .i2b 1 pc') (k : zV E w S pc' L (.int x.toInt8.toInt32 :: st)) : zV E w S pc L (.int x :: st) := by
  obtain ⟨p, l, e, R, s, m, args, below, meth, c, nL, Q⟩ := E
  obtain ⟨d, rfl⟩ := d
  obtain ⟨hx, hb, hml, hown, hts, hO, hfr, hlo, hlk⟩ := C
  exact fun H locs ls h1 h2 h3 => lv_i2b hx hb d rfl (k H locs ls h1 h2 h3)
theorem z_i2s {E : zE} {w : zW} {cc : ByteArray} {own : String} {fr lo : Nat} {S : zS} {pc pc' : Nat} {L : List (Nat × Value)} {st : List Value} {x : Int32} (C : zC E w cc own fr lo) (d : zD cc pc .i2s 1 pc') (k : zV E w S pc' L (.int x.toInt16.toInt32 :: st)) : zV E w S pc L (.int x :: st) := by
  obtain ⟨p, l, e, R, s, m, args, below, meth, c, nL, Q⟩ := E
  obtain ⟨d, rfl⟩ := d
  obtain ⟨hx, hb, hml, hown, hts, hO, hfr, hlo, hlk⟩ := C
  exact fun H locs ls h1 h2 h3 => lv_i2s hx hb d rfl (k H locs ls h1 h2 h3)
theorem z_lcmp {E : zE} {w : zW} {cc : ByteArray} {own : String} {fr lo : Nat} {S : zS} {pc pc' : Nat} {L : List (Nat × Value)} {st : List Value} {x y : Int64} (C : zC E w cc own fr lo) (d : zD cc pc .lcmp 1 pc') (k : zV E w S pc' L (.int (lg_cmp x y) :: st)) : zV E w S pc L (.long y :: .long x :: st) := by
  obtain ⟨p, l, e, R, s, m, args, below, meth, c, nL, Q⟩ := E
  obtain ⟨d, rfl⟩ := d
  obtain ⟨hx, hb, hml, hown, hts, hO, hfr, hlo, hlk⟩ := C
  exact fun H locs ls h1 h2 h3 => W.lcmp hx hb d (k H locs ls h1 h2 h3)
theorem z_dup {E : zE} {w : zW} {cc : ByteArray} {own : String} {fr lo : Nat} {S : zS} {pc pc' : Nat} {L : List (Nat × Value)} {st : List Value} {v : Value} (C : zC E w cc own fr lo) (hv : v.category = 1) (d : zD cc pc .dup 1 pc') (k : zV E w S pc' L (v :: v :: st)) : zV E w S pc L (v :: st) := by
  obtain ⟨p, l, e, R, s, m, args, below, meth, c, nL, Q⟩ := E
  obtain ⟨d, rfl⟩ := d
  obtain ⟨hx, hb, hml, hown, hts, hO, hfr, hlo, hlk⟩ := C
  exact fun H locs ls h1 h2 h3 => lv_dup hx hb d hv (k H locs ls h1 h2 h3)
theorem z_pop {E : zE} {w : zW} {cc : ByteArray} {own : String} {fr lo : Nat} {S : zS} {pc pc' : Nat} {L : List (Nat × Value)} {st : List Value} {v : Value} (C : zC E w cc own fr lo) (hv : v.category = 1) (d : zD cc pc .pop 1 pc') (k : zV E w S pc' L (st)) : zV E w S pc L (v :: st) := by
  obtain ⟨p, l, e, R, s, m, args, below, meth, c, nL, Q⟩ := E
  obtain ⟨d, rfl⟩ := d
  obtain ⟨hx, hb, hml, hown, hts, hO, hfr, hlo, hlk⟩ := C
  exact fun H locs ls h1 h2 h3 => lv_pop hx hb d hv (k H locs ls h1 h2 h3)
theorem z_dup2 {E : zE} {w : zW} {cc : ByteArray} {own : String} {fr lo : Nat} {S : zS} {pc pc' : Nat} {L : List (Nat × Value)} {st : List Value} {u v : Value} (C : zC E w cc own fr lo) (hu : u.category = 1) (hv : v.category = 1) (d : zD cc pc .dup2 1 pc') (k : zV E w S pc' L (u :: v :: u :: v :: st)) : zV E w S pc L (u :: v :: st) := by
  obtain ⟨p, l, e, R, s, m, args, below, meth, c, nL, Q⟩ := E
  obtain ⟨d, rfl⟩ := d
  obtain ⟨hx, hb, hml, hown, hts, hO, hfr, hlo, hlk⟩ := C
  exact fun H locs ls h1 h2 h3 => lv_dup2_11 hx hb d hu hv (k H locs ls h1 h2 h3)
theorem z_null {E : zE} {w : zW} {cc : ByteArray} {own : String} {fr lo : Nat} {S : zS} {pc pc' : Nat} {L : List (Nat × Value)} {st : List Value} (C : zC E w cc own fr lo) (d : zD cc pc .aconst_null 1 pc') (k : zV E w S pc' L (.null :: st)) : zV E w S pc L (st) := by
  obtain ⟨p, l, e, R, s, m, args, below, meth, c, nL, Q⟩ := E
  obtain ⟨d, rfl⟩ := d
  obtain ⟨hx, hb, hml, hown, hts, hO, hfr, hlo, hlk⟩ := C
  exact fun H locs ls h1 h2 h3 => lv_null hx hb d (k H locs ls h1 h2 h3)
