/-! the reference's numbers while nothing is thrown -/
def RS (A : zA) (T : zS) : Prop := RR A T ∧ gM T 0 0 = 0
theorem RS.s {A : zA} {T : zS} (h : RS A T) : RRs A (gM T 0) := h.1.s
theorem RS.x {A : zA} {T : zS} (h : RS A T) : RRx A (gM T 2) := h.1.x
theorem RS.m {A : zA} {T : zS} (h : RS A T) : RRm A (gM T 1) := h.1.m
theorem RS.p {A : zA} {T : zS} (h : RS A T) : RRp A (gM T 12) (gM T 13) (gM T 14) := h.1.p
theorem RS.t {A : zA} {T : zS} (h : RS A T) : arr (A.2.1 0) (gM T 0 29) (gM T 16) 2100 := h.1.t
theorem RS.i {A : zA} {T : zS} (h : RS A T) : arr (A.2.1 1) (gM T 0 20) (gM T 11) 400 := h.1.i
theorem RS.c {A : zA} {T : zS} (h : RS A T) : arr (A.2.1 4) (gM T 0 26) (gM T 15) 80 := h.1.c
theorem RS.f {A : zA} {T : zS} (h : RS A T) : RRf A.2.2 (gM T 0 14) (gM T 3) (gM T 4) (gM T 5) (gM T 6) := h.1.f
theorem RS.h {A : zA} {T : zS} (h : RS A T) : RRh A (gM T 7) (gM T 8) (gM T 9) (gM T 10) := h.1.h
theorem RS.j {A : zA} {T : zS} (h : RS A T) : gJ T = gJ A.1 := h.1.j
theorem RS.pc {A : zA} {T : zS} (h : RS A T) (v : Int32) : RS (aM A 0 0 v) (sM T 0 3 v) := ⟨h.1.pc v, h.2⟩
theorem RS.state {A : zA} {T : zS} (h : RS A T) (v : Int32) : RS (aM A 0 2 v) (sM T 0 4 v) := ⟨h.1.state v, h.2⟩
theorem RS.trap {A : zA} {T : zS} (h : RS A T) (v : Int32) : RS (aM A 0 3 v) (sM T 0 5 v) := ⟨h.1.trap v, h.2⟩
theorem RS.code {A : zA} {T : zS} (h : RS A T) (v : Int32) : RS (aM A 0 4 v) (sM T 0 6 v) := ⟨h.1.code v, h.2⟩
theorem RS.err {A : zA} {T : zS} (h : RS A T) (v : Int32) : RS (aM A 0 6 v) (sM T 0 24 v) := ⟨h.1.err v, h.2⟩
theorem RS.clk {A : zA} {T : zS} (h : RS A T) (v : Int32) : RS (aM A 0 7 v) (sM T 0 27 v) := ⟨h.1.clk v, h.2⟩
theorem RS.cal {A : zA} {T : zS} (h : RS A T) (v : Int32) : RS (aM A 0 8 v) (sM T 0 8 v) := ⟨h.1.cal v, h.2⟩
theorem RS.lat {A : zA} {T : zS} (h : RS A T) (v : Int32) : RS (aM A 0 9 v) (sM T 0 9 v) := ⟨h.1.lat v, h.2⟩
theorem RS.stp {A : zA} {T : zS} (h : RS A T) (v : Int64) : RS (aJ A v) (sJ T v) := ⟨h.1.stp v, h.2⟩
theorem RS.reg {A : zA} {T : zS} (h : RS A T) (r : Nat) (v : Int32) : RS (aM A 2 r v) (sM T 2 r v) := ⟨h.1.reg r v, h.2⟩
theorem RS.cmem {A : zA} {T T' : zS} {o : Nat} {l : List Int32} (h : RS A T) (c : cpy 1 o l T T') : RS (aMem A (mset (gM A.1 3) o l)) T' := ⟨h.1.cmem c, by rw [c.1 0 (by decide)]; exact h.2⟩
