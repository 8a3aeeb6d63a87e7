/-! the numbers at the start -/
def S0 : zS := (fun c i => if c = 0 then (if i = 9 then -1 else 0) else 0, fun _ _ => 0, fun i => i, fun _ => none, 0)
def A0 : zA := (S0, fun _ => [], [])
theorem row0 {b : Nat} : rowIs S0 b [] := ⟨rfl, Nat.zero_le _, fun i hi => absurd hi (by simp)⟩
theorem RC0 : RC A0 S0 := by
  refine ⟨⟨fun i _ => rfl, fun r _ => rfl, fun i hi => ⟨show (0 : Int32).toInt8.toInt32 = 0 from rfl, show (0 : Int32) &&& 255 = 0 from rfl⟩, fun j _ => rfl, rfl⟩, ⟨fun t _ => row0, ⟨[], row0⟩, ⟨[], row0⟩, [], row0⟩, ⟨rfl, Nat.zero_le _, fun k hk => hk, fun k q _ _ e => e, fun k f hf => ?_, fun k _ => ⟨⟨[], row0⟩, [], row0⟩⟩, fun h _ => rfl, fun h _ z => absurd rfl z, fun h _ => ?_⟩
  · have hf : ([] : List (List Int32 × List Int32))[k]? = some f := hf
    simp at hf
  · show (none : Option Nat) = if (0 : Int32) = 1 then _ else none
    rw [if_neg (by decide)]
theorem arr0 {m : Nat → Int32} {n : Int32} {cap : Nat} (h : n = 0) : arr [] n m cap := ⟨h, Nat.zero_le _, fun i hi => absurd hi (by simp)⟩
theorem RR0 : RR A0 S0 := by
  refine ⟨⟨rfl, rfl, rfl, rfl, rfl, rfl, rfl, rfl⟩, fun r _ => rfl, fun i _ => rfl, fun j _ => ⟨rfl, arr0 rfl⟩, arr0 rfl, arr0 rfl, arr0 rfl, ⟨rfl, Nat.zero_le _, fun k f hf => ?_⟩, fun h _ => ⟨rfl, fun z => absurd rfl z, fun z => absurd z (show ¬ (0 : Int32) = 1 by decide)⟩, rfl⟩
  have hf : ([] : List (List Int32 × List Int32))[k]? = some f := hf
  simp at hf
theorem AI0 : AI A0 := by
  refine ⟨fun h _ z => absurd z (show ¬ (0 : Int32) = 1 by decide), fun h _ => ⟨0, by decide, rfl⟩, fun h _ z => absurd rfl z, fun h _ => ⟨fun z => absurd z (show ¬ (0 : Int32) = 1 by decide), fun z => absurd z (show ¬ (0 : Int32) = 2 by decide), fun z => ?_⟩, fun k q f g hf => ?_, fun f hf => ?_, rfl, ⟨0, by decide, rfl⟩, fun _ => rfl, fun _ => rfl⟩
  · rcases z with z | z
    · exact absurd z (show ¬ (0 : Int32) = 3 by decide)
    · exact absurd z (show ¬ (0 : Int32) = 4 by decide)
  · have hf : ([] : List (List Int32 × List Int32))[k]? = some f := hf
    simp at hf
  · have hf : f ∈ ([] : List (List Int32 × List Int32)) := hf
    simp at hf
