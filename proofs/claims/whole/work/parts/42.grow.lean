/-! cells that come one behind the other: a list whose k-th cell lies at h + k -/
def seqW (h : Nat) (ws : va_W) : Prop := ∀ (k : Nat) (q : Nat × va_E), ws[k]? = some q → q.1 = h + k
theorem seqW.nil (h : Nat) : seqW h [] := fun k q hq => by simp at hq
theorem seqW.one (h : Nat) (e : va_E) : seqW h [(h, e)] := fun k q hq => by
  have hz : k < 1 := (List.getElem?_eq_some_iff.mp hq).1
  obtain rfl : k = 0 := by omega
  cases hq; rfl
theorem seqW.app {h : Nat} {ws w2 : va_W} (h1 : seqW h ws) (h2 : seqW (h + ws.length) w2) : seqW h (ws ++ w2) := fun k q hq => by
  by_cases c : k < ws.length
  · rw [List.getElem?_append_left c] at hq; exact h1 k q hq
  · rw [List.getElem?_append_right (by omega)] at hq
    have := h2 _ q hq
    omega
theorem seqW.left {h : Nat} {ws w2 : va_W} (h1 : seqW h (ws ++ w2)) : seqW h ws := fun k q hq => h1 k q (by rw [List.getElem?_append_left (List.getElem?_eq_some_iff.mp hq).1]; exact hq)
theorem seqW.set {h : Nat} {ws : va_W} (h1 : seqW h ws) {q0 a : Nat} {e0 e : va_E} (he : ws[q0]? = some (a, e0)) : seqW h (ws.set q0 (a, e)) := fun k q hq => by
  by_cases c : q0 = k
  · subst c
    have hl := (List.getElem?_eq_some_iff.mp he).1
    rw [List.getElem?_set_self hl] at hq
    have hq := Option.some.inj hq
    rw [← hq]
    exact h1 q0 (a, e0) he
  · rw [List.getElem?_set_ne c] at hq; exact h1 k q hq
theorem seqW.D {h : Nat} {ws : va_W} (h1 : seqW h ws) : va_D (fun q => h ≤ q) ws := ⟨fun i j p q hi hj e => by
    have a := h1 i p hi
    have b := h1 j q hj
    omega, fun k q hq => by
    show h ≤ q.1
    rw [h1 k q hq]; omega⟩
abbrev gs (h : Nat) : Type := { ws : va_W // seqW h ws }
def gw (D : va_G) (tys : List (ClassId × FieldType)) (h : Nat) : zW (gs h) := (fun S => S.1, D, tys, fun q => h ≤ q)
def eAd (E : zE) (a b : Nat) : zE := match E with
  | (p, l, e, R, s, m, args, below, meth, c, nL, Q, k9, n9) => (p, l, e, R, s, m, args, below, meth, c, nL, Q, k9 + a, n9 + b)
theorem W.sized {p : Program} {l : Launch} {e : Env} {R : Room} {s : State} {m : MethodId} {args : Array Value} {below : List Frame} {meth : Method} {c : Code} {H : Heap} {locs : List Loc} {cells slots : Nat} {Q : State → Prop} {g : JFrame} (k : H.size ≤ s.heap.size + cells → W p l e R s m args below meth c H locs cells slots Q g) : W p l e R s m args below meth c H locs cells slots Q g := fun T hT X => k (by rw [← hT]; exact X.heapSize) T hT X
theorem g_addr {D : va_G} {h q : Nat} {ws : va_W} {e : va_E} {H1 : Heap} (hs : seqW h ws) (hP : va_P D vwCl (ws ++ [(q, e)]) H1) (hD : va_D (fun q => h ≤ q) (ws ++ [(q, e)])) (hz : H1.size ≤ h + ws.length + 1) : q = h + ws.length := by
  have hl : (ws ++ [(q, e)])[ws.length]? = some (q, e) := by simp
  have h1 : q < H1.size := (hP _ _ hl).lt
  have h2 : h ≤ q := hD.2 _ _ hl
  rcases Nat.lt_or_ge q (h + ws.length) with z | z
  · exfalso
    have hk : q - h < ws.length := by omega
    have hx : ws[q - h]? = some ws[q - h] := List.getElem?_eq_getElem hk
    have h3 := hs _ _ hx
    have := hD.1 (q - h) ws.length ws[q - h] (q, e) (by rw [List.getElem?_append_left hk]; exact hx) hl (by rw [h3]; show h + (q - h) = q; omega)
    omega
  · omega
/-- what a walk with new cells may use: k cells and n slots are made, of mc and ms; b cells of the list were there before -/
def gG (E : zE) (D : va_G) (tys : List (ClassId × FieldType)) (h : Nat) (cc : ByteArray) (own : String) (fr lo b mc ms k n : Nat) : Prop := zC E (gw D tys h) cc own fr lo ∧ match E with
  | (_, _, _, R, s, _, _, _, _, _, _, _, k9, n9) => va_AO "HostBench$Handle" s ∧ va_AO "HostBench$HostFile" s ∧ k9 = k ∧ n9 = n ∧ R.cells = mc ∧ R.slots = ms ∧ s.heap.size = h + b
theorem gG.C {E : zE} {D : va_G} {tys : List (ClassId × FieldType)} {h : Nat} {cc : ByteArray} {own : String} {fr lo b mc ms k n : Nat} (G : gG E D tys h cc own fr lo b mc ms k n) : zC E (gw D tys h) cc own fr lo := G.1
theorem gG.ad {E : zE} {D : va_G} {tys : List (ClassId × FieldType)} {h : Nat} {cc : ByteArray} {own : String} {fr lo b mc ms k n : Nat} (G : gG E D tys h cc own fr lo b mc ms k n) {a c : Nat} (h1 : k + a ≤ mc) (h2 : n + c ≤ ms) : gG (eAd E a c) D tys h cc own fr lo b mc ms (k + a) (n + c) := by
  obtain ⟨p, l, e, R, s, m, args, below, meth, c9, nL, Q, k9, n9⟩ := E
  obtain ⟨⟨hx, hb, hml, hown, hts, hO, hfr, hlo, hlk, hkk9, hnn9⟩, o1, o2, rfl, rfl, rfl, rfl, o7⟩ := G
  exact ⟨⟨hx, hb, hml, hown, hts, hO, hfr, hlo, hlk, h1, h2⟩, o1, o2, rfl, rfl, rfl, rfl, o7⟩
theorem g_new {E : zE} {D : va_G} {tys : List (ClassId × FieldType)} {h : Nat} {cc : ByteArray} {own : String} {fr lo b mc ms k n : Nat} {ws : va_W} {hs : seqW h ws} {pc pc' : Nat} {L : List (Nat × Value)} {st : List Value} {idx ci N : Nat} {Cn : String} {T : u_T} {fs : List Value} {ty : Nat → FieldType} (G : gG E D tys h cc own fr lo b mc ms k n) (hb9 : b + k = ws.length) (h1 : k + 1 ≤ mc) (h2 : n + N ≤ ms)
    (hin : ∀ w ∈ u_ws Cn T N, w ∈ tT) (hty : ∀ k, k < N → parseFieldDescriptor (T k).2.2.1 = some (ty k)) (w1 : Cond.classLink own idx Cn ∈ tT) (w2 : Cond.instantiable Cn N ∈ tT) (w3 : Cond.initialized Cn ∈ tT) (hc : vwCl[ci]? = some (Cn, T, N)) (hfs : ∀ j, j < N → defaultValue (ty j) = vp_V fs j) (d : zD cc pc (.new idx) 3 pc')
    (kk : gG (eAd E 1 N) D tys h cc own fr lo b mc ms (k + 1) (n + N) → zV (eAd E 1 N) (gw D tys h) ⟨ws ++ [(h + ws.length, .inr (ci, fs))], hs.app (seqW.one _ _)⟩ pc' L (.ref (h + ws.length) :: st)) : zV E (gw D tys h) ⟨ws, hs⟩ pc L st := by
  have k2 := kk (G.ad h1 h2)
  clear kk
  obtain ⟨p, l, e, R, s, m, args, below, meth, c9, nL, Q, k9, n9⟩ := E
  obtain ⟨⟨hx, hb, hml, hown, hts, hO, hfr, hlo, hlk, hkk9, hnn9⟩, o1, o2, rfl, rfl, rfl, rfl, o7⟩ := G
  obtain ⟨d, rfl⟩ := d
  intro H locs ls p1 p2 p3
  refine va_new hx hb hts hin ty hty hown (hts _ w1) (hts _ w2) (hts _ w3) hO.1 p1 hs.D p2 (fun q hq => ?_) hc hfs h1 h2 d (fun q H1 q1 q2 q3 => W.sized (fun hsz => ?_))
  · show h ≤ q
    omega
  · have eq := g_addr hs q1 q2 (by omega)
    subst eq
    exact k2 H1 locs ls q1 q3 p3
theorem RA_eq {U : State} {c1 c2 : ClassId} {ty : FieldType} (h1 : va_RA U c1 ty) (h2 : va_RA U c2 ty) : c1 = c2 := by
  cases ty with
  | object C =>
    obtain ⟨-, -, -, -, -, e1⟩ := h1
    obtain ⟨-, -, -, -, -, e2⟩ := h2
    exact Option.some.inj (e1.symm.trans e2)
  | _ => exact Option.some.inj (Eq.trans (Eq.symm h1) h2)
theorem g_newa {E : zE} {D : va_G} {tys : List (ClassId × FieldType)} {h : Nat} {cc : ByteArray} {own : String} {fr lo b mc ms k n : Nat} {ws : va_W} {hs : seqW h ws} {pc pc' : Nat} {L : List (Nat × Value)} {st : List Value} {atype : ArrayType} {ty : FieldType} {cB : ClassId} {t0 N : Nat} {a0 : vp_A} {x : Int32} (G : gG E D tys h cc own fr lo b mc ms k n) (hb9 : b + k = ws.length) (h1 : k + 1 ≤ mc) (h2 : n + N ≤ ms)
    (harr : Cond.arrayClass (newarray.typeOf atype) ∈ tT) (hty : newarray.typeOf atype = ty) (ht : tys[t0]? = some (cB, ty)) (ha : ∀ cA : ClassId, vp_cell cA a0 = arrV cA N (fun _ => defaultValue ty)) (hn : ¬ x < 0) (hN : x.toNatClampNeg = N) (hbytes : N * componentBytes ty ≤ 536870912) (d : zD cc pc (.newarray atype) 2 pc')
    (kk : gG (eAd E 1 N) D tys h cc own fr lo b mc ms (k + 1) (n + N) → zV (eAd E 1 N) (gw D tys h) ⟨ws ++ [(h + ws.length, .inl (cB, a0))], hs.app (seqW.one _ _)⟩ pc' L (.ref (h + ws.length) :: st)) : zV E (gw D tys h) ⟨ws, hs⟩ pc L (.int x :: st) := by
  have k2 := kk (G.ad h1 h2)
  clear kk
  obtain ⟨p, l, e, R, s, m, args, below, meth, c9, nL, Q, k9, n9⟩ := E
  obtain ⟨⟨hx, hb, hml, hown, hts, hO, hfr, hlo, hlk, hkk9, hnn9⟩, o1, o2, rfl, rfl, rfl, rfl, o7⟩ := G
  obtain ⟨d, rfl⟩ := d
  intro H locs ls p1 p2 p3
  refine va_newa hx hb (hts _ harr) hty hO.1 p1 hs.D p2 (fun q hq => ?_) ha hn hN hbytes h1 h2 d (fun q cA H1 qK q1 q2 q3 => W.sized (fun hsz => ?_))
  · show h ≤ q
    omega
  · have eq := g_addr hs q1 q2 (by omega)
    subst eq
    have r1 := (qK.2 tys.length (cA, ty) (show (tys ++ [(cA, ty)])[tys.length]? = _ by simp)).2
    have r2 := (hO.1.2 t0 _ ht).2
    have ec := RA_eq r1 r2
    subst ec
    exact k2 H1 locs ls q1 q3 p3
theorem g_newq {E : zE} {D : va_G} {tys : List (ClassId × FieldType)} {h : Nat} {cc : ByteArray} {own : String} {fr lo b mc ms k n : Nat} {ws : va_W} {hs : seqW h ws} {pc pc' : Nat} {L : List (Nat × Value)} {st : List Value} {idx : Nat} {C : String} {cB : ClassId} {t0 N : Nat} {x : Int32} (G : gG E D tys h cc own fr lo b mc ms k n) (hb9 : b + k = ws.length) (h1 : k + 1 ≤ mc) (h2 : n + N ≤ ms)
    (w1 : Cond.classLink own idx C ∈ tT) (hC : C = "HostBench$Handle" ∨ C = "HostBench$HostFile") (ht : tys[t0]? = some (cB, .object C)) (hn : ¬ x < 0) (hN : x.toNatClampNeg = N) (hbytes : N * 4 ≤ 536870912) (d : zD cc pc (.anewarray idx) 3 pc')
    (kk : gG (eAd E 1 N) D tys h cc own fr lo b mc ms (k + 1) (n + N) → zV (eAd E 1 N) (gw D tys h) ⟨ws ++ [(h + ws.length, .inl (cB, N, .inr (.inr (.inr (.inr (fun _ => none))))))], hs.app (seqW.one _ _)⟩ pc' L (.ref (h + ws.length) :: st)) : zV E (gw D tys h) ⟨ws, hs⟩ pc L (.int x :: st) := by
  have k2 := kk (G.ad h1 h2)
  clear kk
  obtain ⟨p, l, e, R, s, m, args, below, meth, c9, nL, Q, k9, n9⟩ := E
  obtain ⟨⟨hx, hb, hml, hown, hts, hO, hfr, hlo, hlk, hkk9, hnn9⟩, o1, o2, rfl, rfl, rfl, rfl, o7⟩ := G
  obtain ⟨d, rfl⟩ := d
  have hover : va_AO C s := by
    rcases hC with rfl | rfl
    · exact o1
    · exact o2
  intro H locs ls p1 p2 p3
  refine va_newq hx hb hown (hts _ w1) hover hO.1 p1 hs.D p2 (fun q hq => ?_) hn hN hbytes h1 h2 d (fun q cA H1 qK q1 q2 q3 => W.sized (fun hsz => ?_))
  · show h ≤ q
    omega
  · have eq := g_addr hs q1 q2 (by omega)
    subst eq
    have r1 := (qK.2 tys.length (cA, .object C) (show (tys ++ [(cA, FieldType.object C)])[tys.length]? = _ by simp)).2
    have r2 := (hO.1.2 t0 _ ht).2
    have ec := RA_eq r1 r2
    subst ec
    exact k2 H1 locs ls q1 q3 p3
theorem g_put {E : zE} {D : va_G} {tys : List (ClassId × FieldType)} {h : Nat} {cc : ByteArray} {own : String} {fr lo : Nat} {ws : va_W} {hs : seqW h ws} {pc pc' : Nat} {L : List (Nat × Value)} {st : List Value} {idx ci N a : Nat} {Cn : String} {T : u_T} {ty0 : Nat → FieldType} {fs : List Value} {v : Value} {ty : FieldType} (C : zC E (gw D tys h) cc own fr lo) (q0 : Nat) (he : ws[q0]? = some (a, .inr (ci, fs))) (hin : ∀ w ∈ u_ws Cn T N, w ∈ tT) (hty : ∀ k, k < N → parseFieldDescriptor (T k).2.2.1 = some (ty0 k)) (hnm : ∀ a, a < N → ∀ b, b < N → a ≠ b → (T a).2.1 ≠ (T b).2.1) (hc : vwCl[ci]? = some (Cn, T, N)) (k9 : Nat) (hk : k9 < N) (hl : Cond.fieldLink own idx (T k9).1 (T k9).2.1 (T k9).2.2.1 ∈ tT) (hfin : (T k9).2.2.2 = false) (hd : ty0 k9 = ty) (hn : narrow ty v = v) (hfit : fits ty v = true) (hlen : k9 < fs.length) (d : zD cc pc (.putfield idx) 3 pc') (k : zV E (gw D tys h) ⟨ws.set q0 (a, .inr (ci, fs.set k9 v)), hs.set he⟩ pc' L st) : zV E (gw D tys h) ⟨ws, hs⟩ pc L (v :: .ref a :: st) := z_put (q0 := q0) C he hin hty hnm hc k9 hk (Or.inl hl) hfin hd hn hfit hlen rfl d k
theorem g_putF {E : zE} {D : va_G} {tys : List (ClassId × FieldType)} {h : Nat} {cc : ByteArray} {own : String} {fr lo : Nat} {ws : va_W} {hs : seqW h ws} {pc pc' : Nat} {L : List (Nat × Value)} {st : List Value} {idx ci N a : Nat} {Cn : String} {T : u_T} {ty0 : Nat → FieldType} {fs : List Value} {v : Value} {ty : FieldType} (C : zC E (gw D tys h) cc own fr lo) (hin2 : E.2.2.2.2.2.2.2.2.1.name = "<init>") (q0 : Nat) (he : ws[q0]? = some (a, .inr (ci, fs))) (hin : ∀ w ∈ u_ws Cn T N, w ∈ tT) (hty : ∀ k, k < N → parseFieldDescriptor (T k).2.2.1 = some (ty0 k)) (hnm : ∀ a, a < N → ∀ b, b < N → a ≠ b → (T a).2.1 ≠ (T b).2.1) (hc : vwCl[ci]? = some (Cn, T, N)) (k9 : Nat) (hk : k9 < N) (hl : Cond.fieldLink own idx (T k9).1 (T k9).2.1 (T k9).2.2.1 ∈ tT) (hfin : (T k9).2.2.2 = true) (hdecl : (T k9).1 = own) (hd : ty0 k9 = ty) (hn : narrow ty v = v) (hfit : fits ty v = true) (hlen : k9 < fs.length) (d : zD cc pc (.putfield idx) 3 pc') (k : zV E (gw D tys h) ⟨ws.set q0 (a, .inr (ci, fs.set k9 v)), hs.set he⟩ pc' L st) : zV E (gw D tys h) ⟨ws, hs⟩ pc L (v :: .ref a :: st) := by
  obtain ⟨p, l, e, R, s, m, args, below, meth, c9, nL, Q, kk9, nn9⟩ := E
  obtain ⟨hx, hb, hml, hown, hts, hO, hfr, hlo, hlk, hkk9, hnn9⟩ := C
  obtain ⟨d, rfl⟩ := d
  intro H locs ls p1 p2 p3
  have hd' : parseFieldDescriptor (T k9).2.2.1 = some ty := by rw [← hd]; exact hty k9 hk
  exact va_putF hx hb hts hin ty0 hty hnm hown hO.1 p1 hs.D p2 q0 he hc k9 hk (hts _ hl) (fun _ h9 => h9) hfin hin2 hdecl hd' hn hfit hlen d (fun H1 locs1 r1 r2 r3 => k H1 locs1 ls r1 r3 p3)
theorem z_obj {σ : Type} {E : zE} {w : zW σ} {cc : ByteArray} {own : String} {fr lo : Nat} {S : σ} {pc pc' : Nat} {L : List (Nat × Value)} {st : List Value} {idx a : Nat} (C : zC E w cc own fr lo) (w1 : Cond.methodLink own idx Lib.objectInit ∈ tT) (w2 : Cond.instanceMethod Lib.objectInit ∈ tT) (w3 : Cond.code Lib.objectInit ⟨#[0xb1]⟩ 1 none ∈ tT) (hf : 1 ≤ fr) (hl : 20 ≤ lo) (hsz : (st.map fun v => v.category).sum ≤ 8) (d : zD cc pc (.invokespecial idx) 3 pc') (k : zV E w S pc' L st) : zV E w S pc L (.ref a :: st) := by
  obtain ⟨p, l, e, R, s, m, args, below, meth, c9, nL, Q, kk9, nn9⟩ := E
  obtain ⟨hx, hb, hml, hown, hts, hO, hfr, hlo, hlk, hkk9, hnn9⟩ := C
  obtain ⟨d, rfl⟩ := d
  intro H locs ls p1 p2 p3
  have hrm := lv_room (m := m) (pc := pc) (ls := ls) (rest := .ref a :: st) hsz
  exact W.objInit hx hb hown (hts _ w1) (hts _ w2) (hts _ w3) rfl (by rw [hml]; exact p3.1) rfl d (Nat.le_trans hf hfr) (by omega) (k H locs ls p1 p2 p3)
/-! the contract of a constructor: from its blank cell to its list -/
def gPc (D : va_G) (tys : List (ClassId × FieldType)) (h : Nat) (As : List Value) (ci : Nat) (fs : List Value) : Array Value → State → Prop := va_Pc (.ref h :: As) (fun U => U.heap.size = h + 1 ∧ zO (gw D tys h) U ∧ va_AO "HostBench$Handle" U ∧ va_AO "HostBench$HostFile" U ∧ va_P D vwCl [(h, .inr (ci, fs))] U.heap)
def gQ (D : va_G) (h : Nat) (X : Nat → va_W) : Array Value → State → Outcome → State → Prop := fun _ st oc t => oc = .returned none ∧ va_P D vwCl (X h) t.heap ∧ va_F (fun q => h ≤ q) st t
theorem gPc_blind (D : va_G) (tys : List (ClassId × FieldType)) (h : Nat) (As : List Value) (ci : Nat) (fs : List Value) : FrameBlind (gPc D tys h As ci fs) := fun a U g mk q => ⟨q.1, q.2.1, q.2.2.1.call g mk a, va_AO.moved (u := U) (U := U.calling g mk a) (Vm.Alike.refl U.vm) q.2.2.2.1, va_AO.moved (u := U) (U := U.calling g mk a) (Vm.Alike.refl U.vm) q.2.2.2.2.1, q.2.2.2.2.2⟩
def gZ (E : zE) (D : va_G) (h : Nat) (X : Nat → va_W) (mc ms : Nat) : Prop := match E with
  | (_, _, _, _, s, _, args, below, meth, _, _, Q, _, _) => meth.name = "<init>" ∧ meth.sig.returnType = none ∧ Q = MQ below (gQ D h X) args s mc ms (fun q => h ≤ q)
theorem gZ.ad {E : zE} {D : va_G} {h : Nat} {X : Nat → va_W} {mc ms : Nat} (Z : gZ E D h X mc ms) (a b : Nat) : gZ (eAd E a b) D h X mc ms := by
  obtain ⟨p, l, e, R, s, m, args, below, meth, c9, nL, Q, k9, n9⟩ := E
  exact Z
theorem gZ.nm {E : zE} {D : va_G} {h : Nat} {X : Nat → va_W} {mc ms : Nat} (Z : gZ E D h X mc ms) : E.2.2.2.2.2.2.2.2.1.name = "<init>" := by
  obtain ⟨p, l, e, R, s, m, args, below, meth, c9, nL, Q, k9, n9⟩ := E
  exact Z.1
theorem eAd_n (E : zE) (a b : Nat) : (eAd E a b).2.2.2.2.2.2.2.2.2.2.1 = E.2.2.2.2.2.2.2.2.2.2.1 := by
  obtain ⟨p, l, e, R, s, m, args, below, meth, c9, nL, Q, k9, n9⟩ := E
  rfl
theorem eAd_l (E : zE) (a b : Nat) : (eAd E a b).2.1 = E.2.1 := by
  obtain ⟨p, l, e, R, s, m, args, below, meth, c9, nL, Q, k9, n9⟩ := E
  rfl
abbrev gRm (fr mc ms lo : Nat) : Room := { frames := fr, cells := mc, slots := ms, locals := lo }
abbrev gMet (l : Launch) (D : va_G) (tys : List (ClassId × FieldType)) (y : MethodName) (cc : ByteArray) (n fr lo mc ms : Nat) (As : List Value) (ci : Nat) (fs : List Value) (X : Nat → va_W) : Prop := ∀ h, Met l y (Cond.code y cc n none :: tT) (gRm fr mc ms lo) (gPc D tys h As ci fs) (gQ D h X) mc ms (fun q => h ≤ q)
theorem g_met {l : Launch} {D : va_G} {tys : List (ClassId × FieldType)} {y : MethodName} {cc : ByteArray} {n fr lo mc ms : Nat} {As : List Value} {ci : Nat} {fs : List Value} {X : Nat → va_W} (hy : plainName y.cls = true) (hi : y.name = "<init>") (hn : ∀ h, (lg_sl (.ref h :: As)).length ≤ n)
    (k : ∀ (h : Nat) (E : zE), gG E D tys h cc y.cls fr lo 1 mc ms 0 0 → gZ E D h X mc ms → E.2.1 = l → E.2.2.2.2.2.2.2.2.2.2.1 = n → zV E (gw D tys h) ⟨[(h, .inr (ci, fs))], seqW.one h _⟩ 0 (lv_args 0 (.ref h :: As)) []) : gMet l D tys y cc n fr lo mc ms As ci fs X := by
  intro h
  refine Met.ofW (cc := cc) (maxL := n) (ret := none) hy rfl ?_
  intro p e s m args below meth c s₁ B hml hv
  obtain ⟨rfl, hsz, hO, o1, o2, hP⟩ := hv
  have hts := atoms_spec (ws := Cond.code y cc n none :: tT) B.pre
  have hl := lv_entry (.ref h :: As) (n := n) (hn h)
  rw [lg_entry_eq]
  generalize (lg_sl (.ref h :: As) ++ List.replicate (n - (lg_sl (.ref h :: As)).length) Slot.unset).toArray = ls at hl ⊢
  exact k h (p, l, e, _, s, m, _, below, meth, c, n, _, 0, 0) ⟨⟨B.exec, B.bytes, hml, findClass_of_methodNamed B.named, fun w hw => hts w (List.mem_cons_of_mem _ hw), hO, Nat.le_refl _, Nat.le_refl _, B.notSynchronized, Nat.zero_le _, Nat.zero_le _⟩, o1, o2, rfl, rfl, rfl, rfl, hsz⟩ ⟨(name_of_methodNamed B.named B.method).1.trans hi, B.returns, rfl⟩ rfl rfl s.heap [] ls hP va_S.rf hl
theorem g_ret {E : zE} {D : va_G} {tys : List (ClassId × FieldType)} {h : Nat} {cc : ByteArray} {own : String} {fr lo b mc ms : Nat} {X : Nat → va_W} {ws : va_W} {hs : seqW h ws} {pc pc' : Nat} {L : List (Nat × Value)} (G : gG E D tys h cc own fr lo b mc ms mc ms) (Z : gZ E D h X mc ms) (hX : X h = ws) (d : zD cc pc .return_ 1 pc') : zV E (gw D tys h) ⟨ws, hs⟩ pc L [] := by
  obtain ⟨p, l, e, R, s, m, args, below, meth, c9, nL, Q, k9, n9⟩ := E
  obtain ⟨⟨hx, hb, hml, hown, hts, hO, hfr, hlo, hlk, hkk9, hnn9⟩, o1, o2, rfl, rfl, o5, o6, o7⟩ := G
  obtain ⟨z1, z2, rfl⟩ := Z
  obtain ⟨d, rfl⟩ := d
  intro H locs ls p1 p2 p3
  exact W.vret hx hb z2 (fun t ht hW => ⟨rfl, by rw [hX, ht]; exact p1, p2.F ht⟩) p2.2.2 d hlk
theorem zO.up {D : va_G} {tys : List (ClassId × FieldType)} {h g : Nat} {U : State} (hg : h ≤ g) (O : zO (gw D tys h) U) : zO (gw D tys g) U := by
  obtain ⟨h1, h2, h3, h4, h7, h5, ⟨z1, z2⟩, ⟨z3, z4⟩, t, z5, z6, z7, z8⟩ := O
  have nar : ∀ q, g ≤ q → h ≤ q := fun q hq => Nat.le_trans hg hq
  have vL : ∀ {C n d : String}, vx_L C n d (fun q => h ≤ q) U U.heap → vx_L C n d (fun q => g ≤ q) U U.heap := by
    rintro C n d ⟨c, k, i, f, a, cell, a1, a2, a3, a4, a5, a6, a7, a8, a9, a10⟩
    exact ⟨c, k, i, f, a, cell, a1, a2, a3, a4, a5, a6, a7, a8, a9, fun z => a10 (nar a z)⟩
  exact ⟨h1, h2, fun S => S.2.D, h4, h7, h5, ⟨va_Zq.narrow z1 nar, vL z2⟩, ⟨va_Zq.narrow z3 nar, vL z4⟩, t, va_Z.narrow z5 nar, z6, z7, fun z => z8 (nar t z)⟩
theorem g_init {E : zE} {D : va_G} {tys : List (ClassId × FieldType)} {h : Nat} {cc : ByteArray} {own : String} {fr lo b mc ms k n : Nat} {ws : va_W} {ci : Nat} {fs : List Value} {hs1 : seqW h (ws ++ [(h + ws.length, .inr (ci, fs))])} {pc pc' : Nat} {L : List (Nat × Value)} {st : List Value} {y : MethodName} {bytes : ByteArray} {n' idx fr' lo' mc' ms' k9 : Nat} {As rest : List Value} {X : Nat → va_W} (G : gG E D tys h cc own fr lo b mc ms k n) (hb9 : b + k = ws.length + 1) (h1 : k + mc' ≤ mc) (h2 : n + ms' ≤ ms) (hM : gMet E.2.1 D tys y bytes n' fr' lo' mc' ms' As ci fs X) (hX : ∀ g, seqW g (X g))
    (q1 : Cond.instanceMethod y ∈ tT) (q3 : Cond.initialized y.cls ∈ tT) (q4 : Cond.code y bytes n' none ∈ tT) (hy : y.name = "<init>") (q5 : y.cls ≠ "java/lang/invoke/MethodHandle" ∧ y.cls ≠ "java/lang/invoke/VarHandle" ∧ (parseMethodDescriptor y.desc).map (fun d => d.parameters.length) = some k9) (hl : Cond.methodLink own idx y ∈ tT) (hR : fr' + 1 ≤ fr ∧ 8 + (n' + 11) + lo' ≤ lo) (hAs : As.length = k9) (hst : As.reverse ++ .ref (h + ws.length) :: rest = st) (hsz : (rest.map fun v => v.category).sum ≤ 8) (d : zD cc pc (.invokespecial idx) 3 pc')
    (kk : gG (eAd E mc' ms') D tys h cc own fr lo b mc ms (k + mc') (n + ms') → zV (eAd E mc' ms') (gw D tys h) ⟨ws ++ X (h + ws.length), hs1.left.app (hX _)⟩ pc' L rest) : zV E (gw D tys h) ⟨ws ++ [(h + ws.length, .inr (ci, fs))], hs1⟩ pc L st := by
  have hs : seqW h ws := hs1.left
  have k2 := kk (G.ad h1 h2)
  clear kk
  obtain ⟨p, l, e, R, s, m, args, below, meth, c9, nL, Q, k8, n8⟩ := E
  obtain ⟨⟨hx, hb, hml, hown, hts, hO, hfr, hlo, hlk, hkk9, hnn9⟩, o1, o2, rfl, rfl, rfl, rfl, o7⟩ := G
  obtain ⟨d, rfl⟩ := d
  subst hst
  intro H locs ls p1 p2 p3
  refine W.sized (fun hz => ?_)
  have hlast : (ws ++ [(h + ws.length, (.inr (ci, fs) : va_E))])[ws.length]? = some (h + ws.length, .inr (ci, fs)) := by simp
  have hlt : h + ws.length < H.size := (p1 _ _ hlast).lt
  have hH : H.size = h + ws.length + 1 := by omega
  have hone : va_P D vwCl [(h + ws.length, .inr (ci, fs))] H := fun j q hq => by
    have hz : j < 1 := (List.getElem?_eq_some_iff.mp hq).1
    rw [show j = 0 by omega] at hq
    cases hq
    exact p1 _ _ hlast
  have run := va_runI (l := l) (e := e) (R := R) (below := below) (meth := meth) (locs := locs) (cells := k8) (slots := n8) (g := F0 m pc ls (As.reverse ++ .ref (h + ws.length) :: rest)) (Ts := tT) (As := As) (rest := rest) (n := k9) ⟨hx, hb, hml, hown, hts⟩ (hM (h + ws.length)) (cwI k9 hts (z_good q4) rfl rfl rfl (hts _ q3) (hts _ hl) (hts _ q1) hy q5 ⟨Nat.le_trans hR.1 hfr, Nat.le_trans hR.2 hlo⟩) ⟨gPc_blind _ _ _ _ _ _, fun U hU hW => ⟨rfl, by rw [hU]; exact hH, (hO.warm hW (by rw [hU]; exact p2)).up (by omega), va_AO.moved hW.alike o1, va_AO.moved hW.alike o2, by rw [hU]; exact hone⟩⟩ rfl hAs p3.1 rfl (lv_room hsz) d ⟨h1, h2⟩
  intro T hT X9
  obtain ⟨v, st₀, t, T', Lc, h0, X', hL, e1, e2, ⟨hv, r1, r2, r3⟩, stp⟩ := run T hT X9
  cases hv
  rw [h0] at r2 r3
  have keep : ∀ q : Nat, q < h + ws.length → T'.heap[q]? = H[q]? := fun q hq => by
    rw [e1]; exact r3 q (by omega) (by omega)
  have hPn : va_P D vwCl (ws ++ X (h + ws.length)) T'.heap := by
    refine va_P.app (fun j q hq => ?_) (by rw [e1]; exact r1)
    have hj := (List.getElem?_eq_some_iff.mp hq).1
    have ha := p1 j q (show (ws ++ [(h + ws.length, (.inr (ci, fs) : va_E))])[j]? = some q by rw [List.getElem?_append_left hj]; exact hq)
    exact ha.kept (keep _ (by rw [hs j q hq]; omega))
  obtain ⟨t2, a1, b1⟩ := k2 T'.heap (locs ++ Lc) ls hPn
    ⟨Nat.le_trans p2.1 (by rw [e1]; exact r2), fun q g1 g2 => by rw [e1, r3 q (Nat.lt_of_lt_of_le g1 p2.1) (fun z => g2 (by show h ≤ q; omega))]; exact p2.2.1 q g1 g2, fun q hq => by
      rcases List.mem_append.mp hq with z | z
      · exact p2.2.2 q z
      · have z2 : h + ws.length ≤ q.base := hL q z
        show h ≤ q.base
        omega⟩ p3 T' rfl X'
  exact ⟨t2, stp t2 a1, b1⟩
