/-! the law's world: the class's cells, the reference's, one long -/
def piL : List Nat := [0, 5, 6, 7, 10, 8, 9, 11, 12, 73, 74, 87, 90, 13, 18, 23, 28, 33, 38, 43, 48, 53, 58, 63, 68, 75, 76, 77, 78, 79, 80, 81, 82, 83, 84, 1, 3, 14, 16, 19, 21, 24, 26, 29, 31, 34, 36, 39, 41, 44, 46, 49, 51, 54, 56, 59, 61, 64, 66, 69, 71, 85, 88, 91, 93, 95, 97, 2, 4, 15, 17, 20, 22, 25, 27, 30, 32, 35, 37, 40, 42, 45, 47, 50, 52, 55, 57, 60, 62, 65, 67, 70, 72, 86, 89, 92, 94, 96, 98]
def pi1 (i : Nat) : Nat := if i < 99 then piL.getD i 0 else i
theorem pi_lt : ∀ i, i < 99 → piL.getD i 0 < 99 := by decide +kernel
theorem pi_in : ∀ i, i < 99 → ∀ j, j < 99 → piL.getD i 0 = piL.getD j 0 → i = j := by decide +kernel
theorem pi_inj (i j : Nat) (e : pi1 i = pi1 j) : i = j := by
  unfold pi1 at e
  by_cases a : i < 99
  · by_cases b : j < 99
    · rw [if_pos a, if_pos b] at e; exact pi_in i a j b e
    · rw [if_pos a, if_neg b] at e
      have := pi_lt i a
      omega
  · by_cases b : j < 99
    · rw [if_neg a, if_pos b] at e
      have := pi_lt j b
      omega
    · rw [if_neg a, if_neg b] at e; exact e
def bk1 (D : va_G) (cB cI cH cF : ClassId) (n : Nat) : zK := (⟨fun i => n + pi1 i, fun i j e => pi_inj i j (by have e : n + pi1 i = n + pi1 j := e; omega)⟩, D, cB, cI, cH, cF)
def bk2 (D : va_G) (cB cI cH cF : ClassId) (n : Nat) : zK := (⟨fun i => n + (99 + i), fun i j e => by have e : n + (99 + i) = n + (99 + j) := e; omega⟩, D, cB, cI, cH, cF)
theorem va_P.l {D : va_G} {cl : List vw_C} {w1 w2 : va_W} {H : Heap} (h : va_P D cl (w1 ++ w2) H) : va_P D cl w1 H := fun k q hq => h k q (by rw [List.getElem?_append_left (List.getElem?_eq_some_iff.mp hq).1]; exact hq)
theorem va_P.r {D : va_G} {cl : List vw_C} {w1 w2 : va_W} {H : Heap} (h : va_P D cl (w1 ++ w2) H) : va_P D cl w2 H := fun k q hq => h (w1.length + k) q (by rw [List.getElem?_append_right (by omega), Nat.add_sub_cancel_left]; exact hq)
theorem va_P.hd {D : va_G} {cl : List vw_C} {x : Nat × va_E} {w2 : va_W} {H : Heap} (h : va_P D cl (x :: w2) H) : va_at D cl x H := h 0 x rfl
theorem va_P.tl {D : va_G} {cl : List vw_C} {x : Nat × va_E} {w2 : va_W} {H : Heap} (h : va_P D cl (x :: w2) H) : va_P D cl w2 H := fun k q hq => h (k + 1) q hq
theorem va_P.cons {D : va_G} {cl : List vw_C} {x : Nat × va_E} {w2 : va_W} {H : Heap} (h1 : va_at D cl x H) (h2 : va_P D cl w2 H) : va_P D cl (x :: w2) H := fun k q hq => by
  cases k with
  | zero => cases hq; exact h1
  | succ k => exact h2 k q hq
theorem va_P.nil {D : va_G} {cl : List vw_C} {H : Heap} : va_P D cl [] H := fun k q hq => by simp at hq
theorem va_P.mp {D : va_G} {cl : List vw_C} {n : Nat} {f : Nat → Nat × va_E} {H : Heap} (h : ∀ j, j < n → va_at D cl (f j) H) : va_P D cl (mapr n f) H := fun k q hq => by
  have hk : k < n := by
    have := (List.getElem?_eq_some_iff.mp hq).1
    simpa using this
  have e : (mapr n f)[k]? = some (f k) := by simp [hk]
  rw [e] at hq
  rw [← Option.some.inj hq]
  exact h k hk
theorem arr_ext {cA : ClassId} {n : Nat} {f g : Nat → Option Nat} (h : ∀ j, j < n → f j = g j) : vp_cell cA (n, .inr (.inr (.inr (.inr f)))) = vp_cell cA (n, .inr (.inr (.inr (.inr g)))) := by
  rw [vp_cell_q, vp_cell_q]
  unfold arrV
  congr 1
  apply Array.ext (by simp)
  intro i h1 h2
  simp only [Array.getElem_ofFn]
  rw [h i (by simpa using h1)]
theorem fol_at {D : va_G} {cB : ClassId} {h : Nat} {H : Heap} : ∀ (n : Nat), va_P D vwCl (hsFolder cB h n) H → ∀ k, k < n → va_P D vwCl (xHostFile cB (h + (2 + 5 * k))) H := by
  intro n
  induction n with
  | zero => intro _ k hk; omega
  | succ n ih =>
    intro hP k hk
    by_cases e : k = n
    · subst e; exact va_P.r (w1 := hsFolder cB h k) hP
    · exact ih (va_P.l (w2 := xHostFile cB (h + (2 + 5 * n))) hP) k (by omega)
theorem dsk_at {D : va_G} {h : Nat} {H : Heap} : ∀ (n : Nat), va_P D vwCl (hsDesk h n) H → ∀ k, k < n → va_P D vwCl (xHandle (h + (2 + 1 * k))) H := by
  intro n
  induction n with
  | zero => intro _ k hk; omega
  | succ n ih =>
    intro hP k hk
    by_cases e : k = n
    · subst e; exact va_P.r (w1 := hsDesk h k) hP
    · exact ih (va_P.l (w2 := xHandle (h + (2 + 1 * n))) hP) k (by omega)
set_option maxRecDepth 4000 in
theorem made_C {D : va_G} {cB cI cH cF : ClassId} {n : Nat} {H : Heap} (hP : va_P D vwCl (xHB cB cI cH cF n) H) : va_P D vwCl (clL (bk1 D cB cI cH cF n) S0) H := by
  have hb : va_at D vwCl (n, .inr (9, [.ref (n + 1), .ref (n + 3), .ref (n + 5), .ref (n + 6), .ref (n + 11), .ref (n + 73), .ref (n + 7), .ref (n + 8)])) H := hP.hd
  have t0 := hP.tl
  have qHost : va_P D vwCl (xHost cB cI cH cF (n + 6)) H := t0.r
  have qFed := (t0.l.r).hd
  have qB1 : va_P D vwCl (xBytes cB 24 (n + 3)) H := t0.l.l.r
  have qB0 : va_P D vwCl (xBytes cB 2100 (n + 1)) H := t0.l.l.l.r
  have hHost := qHost.hd
  have u := qHost.tl
  have qB31 : va_P D vwCl (xBytes cB 24 (n + 6 + 91)) H := u.r
  have qB30 : va_P D vwCl (xBytes cB 24 (n + 6 + 89)) H := u.l.r
  have qB29 : va_P D vwCl (xBytes cB 80 (n + 6 + 87)) H := u.l.l.r
  have qO1 : va_P D vwCl (xOutput cB (n + 6 + 84)) H := u.l.l.l.r
  have qO0 : va_P D vwCl (xOutput cB (n + 6 + 81)) H := u.l.l.l.l.r
  have qB26 : va_P D vwCl (xBytes cB 400 (n + 6 + 79)) H := u.l.l.l.l.l.r
  have qDesk : va_P D vwCl (xDesk cH (n + 6 + 67)) H := u.l.l.l.l.l.l.r
  have qFol : va_P D vwCl (xFolder cB cF (n + 6 + 5)) H := u.l.l.l.l.l.l.l.r
  have qGuest : va_P D vwCl (xGuest cB cI (n + 6 + 1)) H := u.l.l.l.l.l.l.l.l.r
  have qMem : va_P D vwCl (xMemory cB (n + 6 + 1 + 1)) H := qGuest.l.r
  have qK0 : va_P D vwCl (xBytes cB 2000 (n + 6 + 81 + 1)) H := qO0.r
  have qK1 : va_P D vwCl (xBytes cB 2000 (n + 6 + 84 + 1)) H := qO1.r
  have qFs := fol_at 12 qFol.tl.tl
  have qHs := dsk_at 10 qDesk.tl.tl
  have nmO : ∀ k, k < 12 → va_P D vwCl (xBytes cB 24 (n + 6 + 5 + (2 + 5 * k) + 1)) H := fun k hk => (qFs k hk).l.r
  have ctO : ∀ k, k < 12 → va_P D vwCl (xBytes cB 2000 (n + 6 + 5 + (2 + 5 * k) + 3)) H := fun k hk => (qFs k hk).r
  have eFs : vp_cell cF (12, .inr (.inr (.inr (.inr (fnFolder (n + 6 + 5) 12))))) = vp_cell cF (12, .inr (.inr (.inr (.inr (fun i => some (ad (bk1 D cB cI cH cF n) (13 + gF S0 i))))))) := arr_ext (fun j hj => by
    match j, hj with
    | 0, _ => exact (show fnFolder (n + 6 + 5) 12 0 = some (n + 6 + 5 + (2 + 5 * 0)) from if_pos (by decide))
    | 1, _ => exact (show fnFolder (n + 6 + 5) 12 1 = some (n + 6 + 5 + (2 + 5 * 1)) from if_pos (by decide))
    | 2, _ => exact (show fnFolder (n + 6 + 5) 12 2 = some (n + 6 + 5 + (2 + 5 * 2)) from if_pos (by decide))
    | 3, _ => exact (show fnFolder (n + 6 + 5) 12 3 = some (n + 6 + 5 + (2 + 5 * 3)) from if_pos (by decide))
    | 4, _ => exact (show fnFolder (n + 6 + 5) 12 4 = some (n + 6 + 5 + (2 + 5 * 4)) from if_pos (by decide))
    | 5, _ => exact (show fnFolder (n + 6 + 5) 12 5 = some (n + 6 + 5 + (2 + 5 * 5)) from if_pos (by decide))
    | 6, _ => exact (show fnFolder (n + 6 + 5) 12 6 = some (n + 6 + 5 + (2 + 5 * 6)) from if_pos (by decide))
    | 7, _ => exact (show fnFolder (n + 6 + 5) 12 7 = some (n + 6 + 5 + (2 + 5 * 7)) from if_pos (by decide))
    | 8, _ => exact (show fnFolder (n + 6 + 5) 12 8 = some (n + 6 + 5 + (2 + 5 * 8)) from if_pos (by decide))
    | 9, _ => exact (show fnFolder (n + 6 + 5) 12 9 = some (n + 6 + 5 + (2 + 5 * 9)) from if_pos (by decide))
    | 10, _ => exact (show fnFolder (n + 6 + 5) 12 10 = some (n + 6 + 5 + (2 + 5 * 10)) from if_pos (by decide))
    | 11, _ => exact (show fnFolder (n + 6 + 5) 12 11 = some (n + 6 + 5 + (2 + 5 * 11)) from if_pos (by decide))
    | j + 12, h => exact absurd h (by omega))
  have eHs : vp_cell cH (10, .inr (.inr (.inr (.inr (fnDesk (n + 6 + 67) 10))))) = vp_cell cH (10, .inr (.inr (.inr (.inr (fun i => some (ad (bk1 D cB cI cH cF n) (25 + i))))))) := arr_ext (fun j hj => by
    match j, hj with
    | 0, _ => exact (show fnDesk (n + 6 + 67) 10 0 = some (n + 6 + 67 + (2 + 1 * 0)) from if_pos (by decide))
    | 1, _ => exact (show fnDesk (n + 6 + 67) 10 1 = some (n + 6 + 67 + (2 + 1 * 1)) from if_pos (by decide))
    | 2, _ => exact (show fnDesk (n + 6 + 67) 10 2 = some (n + 6 + 67 + (2 + 1 * 2)) from if_pos (by decide))
    | 3, _ => exact (show fnDesk (n + 6 + 67) 10 3 = some (n + 6 + 67 + (2 + 1 * 3)) from if_pos (by decide))
    | 4, _ => exact (show fnDesk (n + 6 + 67) 10 4 = some (n + 6 + 67 + (2 + 1 * 4)) from if_pos (by decide))
    | 5, _ => exact (show fnDesk (n + 6 + 67) 10 5 = some (n + 6 + 67 + (2 + 1 * 5)) from if_pos (by decide))
    | 6, _ => exact (show fnDesk (n + 6 + 67) 10 6 = some (n + 6 + 67 + (2 + 1 * 6)) from if_pos (by decide))
    | 7, _ => exact (show fnDesk (n + 6 + 67) 10 7 = some (n + 6 + 67 + (2 + 1 * 7)) from if_pos (by decide))
    | 8, _ => exact (show fnDesk (n + 6 + 67) 10 8 = some (n + 6 + 67 + (2 + 1 * 8)) from if_pos (by decide))
    | 9, _ => exact (show fnDesk (n + 6 + 67) 10 9 = some (n + 6 + 67 + (2 + 1 * 9)) from if_pos (by decide))
    | j + 10, h => exact absurd h (by omega))
  have aFs : va_at D vwCl (ad (bk1 D cB cI cH cF n) 8, .inl (cF, 12, .inr (.inr (.inr (.inr (fun i => some (ad (bk1 D cB cI cH cF n) (13 + gF S0 i)))))))) H := by
    have h1 : H[n + 6 + 5 + 1]? = some (vp_cell cF (12, .inr (.inr (.inr (.inr (fnFolder (n + 6 + 5) 12)))))) := qFol.tl.hd
    rw [eFs] at h1
    exact h1
  have aHs : va_at D vwCl (ad (bk1 D cB cI cH cF n) 10, .inl (cH, 10, .inr (.inr (.inr (.inr (fun i => some (ad (bk1 D cB cI cH cF n) (25 + i)))))))) H := by
    have h1 : H[n + 6 + 67 + 1]? = some (vp_cell cH (10, .inr (.inr (.inr (.inr (fnDesk (n + 6 + 67) 10)))))) := qDesk.tl.hd
    rw [eHs] at h1
    exact h1
  have aS : va_P D vwCl (clS (bk1 D cB cI cH cF n) S0) H := by
    unfold clS
    exact va_P.cons hb (va_P.cons qFed (va_P.cons hHost (va_P.cons qGuest.l.l.hd (va_P.cons qGuest.r.hd (va_P.cons qMem.hd (va_P.cons qMem.tl.hd (va_P.cons qFol.hd (va_P.cons aFs (va_P.cons qDesk.hd (va_P.cons aHs va_P.nil))))))))))
  have aO : va_P D vwCl (mapr 2 (clOutput (bk1 D cB cI cH cF n) S0)) H := (va_P.mp (fun j hj => by
    match j, hj with
    | 0, _ => exact qO0.l.hd
    | 1, _ => exact qO1.l.hd
    | j + 2, h => exact absurd h (by omega)))
  have aF : va_P D vwCl (mapr 12 (clHostFile (bk1 D cB cI cH cF n) S0)) H := (va_P.mp (fun j hj => by
    match j, hj with
    | 0, _ => exact (qFs 0 (by decide)).l.l.hd
    | 1, _ => exact (qFs 1 (by decide)).l.l.hd
    | 2, _ => exact (qFs 2 (by decide)).l.l.hd
    | 3, _ => exact (qFs 3 (by decide)).l.l.hd
    | 4, _ => exact (qFs 4 (by decide)).l.l.hd
    | 5, _ => exact (qFs 5 (by decide)).l.l.hd
    | 6, _ => exact (qFs 6 (by decide)).l.l.hd
    | 7, _ => exact (qFs 7 (by decide)).l.l.hd
    | 8, _ => exact (qFs 8 (by decide)).l.l.hd
    | 9, _ => exact (qFs 9 (by decide)).l.l.hd
    | 10, _ => exact (qFs 10 (by decide)).l.l.hd
    | 11, _ => exact (qFs 11 (by decide)).l.l.hd
    | j + 12, h => exact absurd h (by omega)))
  have aH : va_P D vwCl (mapr 10 (clHandle (bk1 D cB cI cH cF n) S0)) H := (va_P.mp (fun j hj => by
    match j, hj with
    | 0, _ => exact (qHs 0 (by decide)).hd
    | 1, _ => exact (qHs 1 (by decide)).hd
    | 2, _ => exact (qHs 2 (by decide)).hd
    | 3, _ => exact (qHs 3 (by decide)).hd
    | 4, _ => exact (qHs 4 (by decide)).hd
    | 5, _ => exact (qHs 5 (by decide)).hd
    | 6, _ => exact (qHs 6 (by decide)).hd
    | 7, _ => exact (qHs 7 (by decide)).hd
    | 8, _ => exact (qHs 8 (by decide)).hd
    | 9, _ => exact (qHs 9 (by decide)).hd
    | j + 10, h => exact absurd h (by omega)))
  have aB : va_P D vwCl (mapr 32 (clBytes (bk1 D cB cI cH cF n) S0)) H := (va_P.mp (fun j hj => by
    match j, hj with
    | 0, _ => exact qB0.hd
    | 1, _ => exact qB1.hd
    | 2, _ => exact (nmO 0 (by decide)).hd
    | 3, _ => exact (ctO 0 (by decide)).hd
    | 4, _ => exact (nmO 1 (by decide)).hd
    | 5, _ => exact (ctO 1 (by decide)).hd
    | 6, _ => exact (nmO 2 (by decide)).hd
    | 7, _ => exact (ctO 2 (by decide)).hd
    | 8, _ => exact (nmO 3 (by decide)).hd
    | 9, _ => exact (ctO 3 (by decide)).hd
    | 10, _ => exact (nmO 4 (by decide)).hd
    | 11, _ => exact (ctO 4 (by decide)).hd
    | 12, _ => exact (nmO 5 (by decide)).hd
    | 13, _ => exact (ctO 5 (by decide)).hd
    | 14, _ => exact (nmO 6 (by decide)).hd
    | 15, _ => exact (ctO 6 (by decide)).hd
    | 16, _ => exact (nmO 7 (by decide)).hd
    | 17, _ => exact (ctO 7 (by decide)).hd
    | 18, _ => exact (nmO 8 (by decide)).hd
    | 19, _ => exact (ctO 8 (by decide)).hd
    | 20, _ => exact (nmO 9 (by decide)).hd
    | 21, _ => exact (ctO 9 (by decide)).hd
    | 22, _ => exact (nmO 10 (by decide)).hd
    | 23, _ => exact (ctO 10 (by decide)).hd
    | 24, _ => exact (nmO 11 (by decide)).hd
    | 25, _ => exact (ctO 11 (by decide)).hd
    | 26, _ => exact qB26.hd
    | 27, _ => exact qK0.hd
    | 28, _ => exact qK1.hd
    | 29, _ => exact qB29.hd
    | 30, _ => exact qB30.hd
    | 31, _ => exact qB31.hd
    | j + 32, h => exact absurd h (by omega)))
  have aR : va_P D vwCl (mapr 32 (clroom (bk1 D cB cI cH cF n) S0)) H := (va_P.mp (fun j hj => by
    match j, hj with
    | 0, _ => exact qB0.tl.hd
    | 1, _ => exact qB1.tl.hd
    | 2, _ => exact (nmO 0 (by decide)).tl.hd
    | 3, _ => exact (ctO 0 (by decide)).tl.hd
    | 4, _ => exact (nmO 1 (by decide)).tl.hd
    | 5, _ => exact (ctO 1 (by decide)).tl.hd
    | 6, _ => exact (nmO 2 (by decide)).tl.hd
    | 7, _ => exact (ctO 2 (by decide)).tl.hd
    | 8, _ => exact (nmO 3 (by decide)).tl.hd
    | 9, _ => exact (ctO 3 (by decide)).tl.hd
    | 10, _ => exact (nmO 4 (by decide)).tl.hd
    | 11, _ => exact (ctO 4 (by decide)).tl.hd
    | 12, _ => exact (nmO 5 (by decide)).tl.hd
    | 13, _ => exact (ctO 5 (by decide)).tl.hd
    | 14, _ => exact (nmO 6 (by decide)).tl.hd
    | 15, _ => exact (ctO 6 (by decide)).tl.hd
    | 16, _ => exact (nmO 7 (by decide)).tl.hd
    | 17, _ => exact (ctO 7 (by decide)).tl.hd
    | 18, _ => exact (nmO 8 (by decide)).tl.hd
    | 19, _ => exact (ctO 8 (by decide)).tl.hd
    | 20, _ => exact (nmO 9 (by decide)).tl.hd
    | 21, _ => exact (ctO 9 (by decide)).tl.hd
    | 22, _ => exact (nmO 10 (by decide)).tl.hd
    | 23, _ => exact (ctO 10 (by decide)).tl.hd
    | 24, _ => exact (nmO 11 (by decide)).tl.hd
    | 25, _ => exact (ctO 11 (by decide)).tl.hd
    | 26, _ => exact qB26.tl.hd
    | 27, _ => exact qK0.tl.hd
    | 28, _ => exact qK1.tl.hd
    | 29, _ => exact qB29.tl.hd
    | 30, _ => exact qB30.tl.hd
    | 31, _ => exact qB31.tl.hd
    | j + 32, h => exact absurd h (by omega)))
  exact aS.app (aO.app (aF.app (aH.app (aB.app aR))))
theorem made_R {D : va_G} {cB cI cH cF : ClassId} {n : Nat} {H : Heap} (hP : va_P D vwCl (xM cI (n + 99)) H) : va_P D vwCl (rlL (bk2 D cB cI cH cF n) S0) H := by
  have t := hP.tl
  have h0 := hP.hd
  exact va_P.cons h0 (va_P.cons (t.l.l.l.l.l.l.l.l.l.l.l.l.l.l.l.r.hd) (va_P.cons (t.l.l.l.l.l.l.l.l.l.l.l.l.l.l.r.hd) (va_P.cons (t.l.l.l.l.l.l.l.l.l.l.l.l.l.r.hd) (va_P.cons (t.l.l.l.l.l.l.l.l.l.l.l.l.r.hd) (va_P.cons (t.l.l.l.l.l.l.l.l.l.l.l.r.hd) (va_P.cons (t.l.l.l.l.l.l.l.l.l.l.r.hd) (va_P.cons (t.l.l.l.l.l.l.l.l.l.r.hd) (va_P.cons (t.l.l.l.l.l.l.l.l.r.hd) (va_P.cons (t.l.l.l.l.l.l.l.r.hd) (va_P.cons (t.l.l.l.l.l.l.r.hd) (va_P.cons (t.l.l.l.l.l.r.hd) (va_P.cons (t.l.l.l.l.r.hd) (va_P.cons (t.l.l.l.r.hd) (va_P.cons (t.l.l.r.hd) (va_P.cons (t.l.r.hd) (va_P.cons (t.r.hd) va_P.nil))))))))))))))))
