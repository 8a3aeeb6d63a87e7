def TX0 : u_T := fun k => match k with
  | 0 => ("HostBench$Bytes", "room", "[B", true)
  | _ => ("HostBench$Bytes", "size", "I", false)
def tyX0 : Nat → FieldType := fun k => match k with
  | 0 => .array .byte
  | _ => .int
theorem inX0 : ∀ w ∈ u_ws "HostBench$Bytes" TX0 2, w ∈ tT := by
  intro w h
  obtain ⟨k, hk, rfl⟩ := List.mem_map.mp h
  have hk := List.mem_range.mp hk
  exact match k, hk with
    | 0, _ => tw_115
    | 1, _ => tw_117
    | n + 2, h => absurd h (by omega)
theorem nmX0 : ∀ a, a < 2 → ∀ b, b < 2 → a ≠ b → (TX0 a).2.1 ≠ (TX0 b).2.1 := by decide +kernel
theorem tyX0_ok : ∀ k, k < 2 → parseFieldDescriptor (TX0 k).2.2.1 = some (tyX0 k) := by decide +kernel
def TX1 : u_T := fun k => match k with
  | _ => ("HostBench$Desk", "handles", "[LHostBench$Handle;", true)
def tyX1 : Nat → FieldType := fun k => match k with
  | _ => .array (.object "HostBench$Handle")
theorem inX1 : ∀ w ∈ u_ws "HostBench$Desk" TX1 1, w ∈ tT := by
  intro w h
  obtain ⟨k, hk, rfl⟩ := List.mem_map.mp h
  have hk := List.mem_range.mp hk
  exact match k, hk with
    | 0, _ => tw_250
    | n + 1, h => absurd h (by omega)
theorem nmX1 : ∀ a, a < 1 → ∀ b, b < 1 → a ≠ b → (TX1 a).2.1 ≠ (TX1 b).2.1 := by decide +kernel
theorem tyX1_ok : ∀ k, k < 1 → parseFieldDescriptor (TX1 k).2.2.1 = some (tyX1 k) := by decide +kernel
def TX2 : u_T := fun k => match k with
  | 0 => ("HostBench$Folder", "files", "[LHostBench$HostFile;", true)
  | _ => ("HostBench$Folder", "count", "I", false)
def tyX2 : Nat → FieldType := fun k => match k with
  | 0 => .array (.object "HostBench$HostFile")
  | _ => .int
theorem inX2 : ∀ w ∈ u_ws "HostBench$Folder" TX2 2, w ∈ tT := by
  intro w h
  obtain ⟨k, hk, rfl⟩ := List.mem_map.mp h
  have hk := List.mem_range.mp hk
  exact match k, hk with
    | 0, _ => tw_209
    | 1, _ => tw_211
    | n + 2, h => absurd h (by omega)
theorem nmX2 : ∀ a, a < 2 → ∀ b, b < 2 → a ≠ b → (TX2 a).2.1 ≠ (TX2 b).2.1 := by decide +kernel
theorem tyX2_ok : ∀ k, k < 2 → parseFieldDescriptor (TX2 k).2.2.1 = some (tyX2 k) := by decide +kernel
def TX3 : u_T := fun k => match k with
  | 0 => ("HostBench$Guest", "memory", "LHostBench$Memory;", true)
  | 1 => ("HostBench$Guest", "registers", "[I", true)
  | 2 => ("HostBench$Guest", "pc", "I", false)
  | 3 => ("HostBench$Guest", "next", "I", false)
  | 4 => ("HostBench$Guest", "state", "I", false)
  | 5 => ("HostBench$Guest", "trap", "I", false)
  | 6 => ("HostBench$Guest", "code", "I", false)
  | _ => ("HostBench$Guest", "steps", "J", false)
def tyX3 : Nat → FieldType := fun k => match k with
  | 0 => .object "HostBench$Memory"
  | 1 => .array .int
  | 2 => .int
  | 3 => .int
  | 4 => .int
  | 5 => .int
  | 6 => .int
  | _ => .long
theorem inX3 : ∀ w ∈ u_ws "HostBench$Guest" TX3 8, w ∈ tT := by
  intro w h
  obtain ⟨k, hk, rfl⟩ := List.mem_map.mp h
  have hk := List.mem_range.mp hk
  exact match k, hk with
    | 0, _ => tw_161
    | 1, _ => tw_163
    | 2, _ => tw_165
    | 3, _ => tw_167
    | 4, _ => tw_169
    | 5, _ => tw_171
    | 6, _ => tw_173
    | 7, _ => tw_175
    | n + 8, h => absurd h (by omega)
theorem nmX3 : ∀ a, a < 8 → ∀ b, b < 8 → a ≠ b → (TX3 a).2.1 ≠ (TX3 b).2.1 := by decide +kernel
theorem tyX3_ok : ∀ k, k < 8 → parseFieldDescriptor (TX3 k).2.2.1 = some (tyX3 k) := by decide +kernel
def TX4 : u_T := fun k => match k with
  | 0 => ("HostBench$Handle", "kind", "I", false)
  | 1 => ("HostBench$Handle", "file", "LHostBench$HostFile;", false)
  | 2 => ("HostBench$Handle", "place", "I", false)
  | _ => ("HostBench$Handle", "rights", "I", false)
def tyX4 : Nat → FieldType := fun k => match k with
  | 0 => .int
  | 1 => .object "HostBench$HostFile"
  | 2 => .int
  | _ => .int
theorem inX4 : ∀ w ∈ u_ws "HostBench$Handle" TX4 4, w ∈ tT := by
  intro w h
  obtain ⟨k, hk, rfl⟩ := List.mem_map.mp h
  have hk := List.mem_range.mp hk
  exact match k, hk with
    | 0, _ => tw_240
    | 1, _ => tw_242
    | 2, _ => tw_244
    | 3, _ => tw_246
    | n + 4, h => absurd h (by omega)
theorem nmX4 : ∀ a, a < 4 → ∀ b, b < 4 → a ≠ b → (TX4 a).2.1 ≠ (TX4 b).2.1 := by decide +kernel
theorem tyX4_ok : ∀ k, k < 4 → parseFieldDescriptor (TX4 k).2.2.1 = some (tyX4 k) := by decide +kernel
def TX5 : u_T := fun k => match k with
  | 0 => ("HostBench$Host", "guest", "LHostBench$Guest;", true)
  | 1 => ("HostBench$Host", "memory", "LHostBench$Memory;", true)
  | 2 => ("HostBench$Host", "folder", "LHostBench$Folder;", true)
  | 3 => ("HostBench$Host", "desk", "LHostBench$Desk;", true)
  | 4 => ("HostBench$Host", "input", "LHostBench$Bytes;", true)
  | 5 => ("HostBench$Host", "out", "LHostBench$Output;", true)
  | 6 => ("HostBench$Host", "err", "LHostBench$Output;", true)
  | 7 => ("HostBench$Host", "command", "LHostBench$Bytes;", true)
  | 8 => ("HostBench$Host", "firstName", "LHostBench$Bytes;", true)
  | 9 => ("HostBench$Host", "secondName", "LHostBench$Bytes;", true)
  | 10 => ("HostBench$Host", "block", "I", false)
  | 11 => ("HostBench$Host", "errno", "I", false)
  | 12 => ("HostBench$Host", "seconds", "I", false)
  | 13 => ("HostBench$Host", "calls", "I", false)
  | _ => ("HostBench$Host", "latest", "I", false)
def tyX5 : Nat → FieldType := fun k => match k with
  | 0 => .object "HostBench$Guest"
  | 1 => .object "HostBench$Memory"
  | 2 => .object "HostBench$Folder"
  | 3 => .object "HostBench$Desk"
  | 4 => .object "HostBench$Bytes"
  | 5 => .object "HostBench$Output"
  | 6 => .object "HostBench$Output"
  | 7 => .object "HostBench$Bytes"
  | 8 => .object "HostBench$Bytes"
  | 9 => .object "HostBench$Bytes"
  | 10 => .int
  | 11 => .int
  | 12 => .int
  | 13 => .int
  | _ => .int
theorem inX5 : ∀ w ∈ u_ws "HostBench$Host" TX5 15, w ∈ tT := by
  intro w h
  obtain ⟨k, hk, rfl⟩ := List.mem_map.mp h
  have hk := List.mem_range.mp hk
  exact match k, hk with
    | 0, _ => tw_298
    | 1, _ => tw_300
    | 2, _ => tw_302
    | 3, _ => tw_304
    | 4, _ => tw_306
    | 5, _ => tw_308
    | 6, _ => tw_310
    | 7, _ => tw_312
    | 8, _ => tw_314
    | 9, _ => tw_316
    | 10, _ => tw_318
    | 11, _ => tw_320
    | 12, _ => tw_322
    | 13, _ => tw_324
    | 14, _ => tw_326
    | n + 15, h => absurd h (by omega)
theorem nmX5 : ∀ a, a < 15 → ∀ b, b < 15 → a ≠ b → (TX5 a).2.1 ≠ (TX5 b).2.1 := by decide +kernel
theorem tyX5_ok : ∀ k, k < 15 → parseFieldDescriptor (TX5 k).2.2.1 = some (tyX5 k) := by decide +kernel
def TX6 : u_T := fun k => match k with
  | 0 => ("HostBench$HostFile", "name", "LHostBench$Bytes;", true)
  | _ => ("HostBench$HostFile", "content", "LHostBench$Bytes;", true)
def tyX6 : Nat → FieldType := fun k => match k with
  | 0 => .object "HostBench$Bytes"
  | _ => .object "HostBench$Bytes"
theorem inX6 : ∀ w ∈ u_ws "HostBench$HostFile" TX6 2, w ∈ tT := by
  intro w h
  obtain ⟨k, hk, rfl⟩ := List.mem_map.mp h
  have hk := List.mem_range.mp hk
  exact match k, hk with
    | 0, _ => tw_201
    | 1, _ => tw_203
    | n + 2, h => absurd h (by omega)
theorem nmX6 : ∀ a, a < 2 → ∀ b, b < 2 → a ≠ b → (TX6 a).2.1 ≠ (TX6 b).2.1 := by decide +kernel
theorem tyX6_ok : ∀ k, k < 2 → parseFieldDescriptor (TX6 k).2.2.1 = some (tyX6 k) := by decide +kernel
def TX7 : u_T := fun k => match k with
  | _ => ("HostBench$Memory", "bytes", "[B", true)
def tyX7 : Nat → FieldType := fun k => match k with
  | _ => .array .byte
theorem inX7 : ∀ w ∈ u_ws "HostBench$Memory" TX7 1, w ∈ tT := by
  intro w h
  obtain ⟨k, hk, rfl⟩ := List.mem_map.mp h
  have hk := List.mem_range.mp hk
  exact match k, hk with
    | 0, _ => tw_140
    | n + 1, h => absurd h (by omega)
theorem nmX7 : ∀ a, a < 1 → ∀ b, b < 1 → a ≠ b → (TX7 a).2.1 ≠ (TX7 b).2.1 := by decide +kernel
theorem tyX7_ok : ∀ k, k < 1 → parseFieldDescriptor (TX7 k).2.2.1 = some (tyX7 k) := by decide +kernel
def TX8 : u_T := fun k => match k with
  | 0 => ("HostBench$Output", "kept", "LHostBench$Bytes;", true)
  | _ => ("HostBench$Output", "total", "I", false)
def tyX8 : Nat → FieldType := fun k => match k with
  | 0 => .object "HostBench$Bytes"
  | _ => .int
theorem inX8 : ∀ w ∈ u_ws "HostBench$Output" TX8 2, w ∈ tT := by
  intro w h
  obtain ⟨k, hk, rfl⟩ := List.mem_map.mp h
  have hk := List.mem_range.mp hk
  exact match k, hk with
    | 0, _ => tw_267
    | 1, _ => tw_269
    | n + 2, h => absurd h (by omega)
theorem nmX8 : ∀ a, a < 2 → ∀ b, b < 2 → a ≠ b → (TX8 a).2.1 ≠ (TX8 b).2.1 := by decide +kernel
theorem tyX8_ok : ∀ k, k < 2 → parseFieldDescriptor (TX8 k).2.2.1 = some (tyX8 k) := by decide +kernel
def TX9 : u_T := fun k => match k with
  | 0 => ("HostBench", "tape", "LHostBench$Bytes;", true)
  | 1 => ("HostBench", "laidName", "LHostBench$Bytes;", true)
  | 2 => ("HostBench", "fed", "[I", true)
  | 3 => ("HostBench", "host", "LHostBench$Host;", true)
  | 4 => ("HostBench", "folder", "LHostBench$Folder;", true)
  | 5 => ("HostBench", "desk", "LHostBench$Desk;", true)
  | 6 => ("HostBench", "guest", "LHostBench$Guest;", true)
  | _ => ("HostBench", "memory", "LHostBench$Memory;", true)
def tyX9 : Nat → FieldType := fun k => match k with
  | 0 => .object "HostBench$Bytes"
  | 1 => .object "HostBench$Bytes"
  | 2 => .array .int
  | 3 => .object "HostBench$Host"
  | 4 => .object "HostBench$Folder"
  | 5 => .object "HostBench$Desk"
  | 6 => .object "HostBench$Guest"
  | _ => .object "HostBench$Memory"
theorem inX9 : ∀ w ∈ u_ws "HostBench" TX9 8, w ∈ tT := by
  intro w h
  obtain ⟨k, hk, rfl⟩ := List.mem_map.mp h
  have hk := List.mem_range.mp hk
  exact match k, hk with
    | 0, _ => tw_337
    | 1, _ => tw_339
    | 2, _ => tw_341
    | 3, _ => tw_343
    | 4, _ => tw_345
    | 5, _ => tw_347
    | 6, _ => tw_349
    | 7, _ => tw_351
    | n + 8, h => absurd h (by omega)
theorem nmX9 : ∀ a, a < 8 → ∀ b, b < 8 → a ≠ b → (TX9 a).2.1 ≠ (TX9 b).2.1 := by decide +kernel
theorem tyX9_ok : ∀ k, k < 8 → parseFieldDescriptor (TX9 k).2.2.1 = some (tyX9 k) := by decide +kernel
def TX10 : u_T := fun k => match k with
  | 0 => ("HostBenchModel", "thrown", "I", false)
  | 1 => ("HostBenchModel", "memory", "[I", true)
  | 2 => ("HostBenchModel", "x", "[I", true)
  | 3 => ("HostBenchModel", "pc", "I", false)
  | 4 => ("HostBenchModel", "state", "I", false)
  | 5 => ("HostBenchModel", "trap", "I", false)
  | 6 => ("HostBenchModel", "code", "I", false)
  | 7 => ("HostBenchModel", "steps", "J", false)
  | 8 => ("HostBenchModel", "calls", "I", false)
  | 9 => ("HostBenchModel", "latest", "I", false)
  | 10 => ("HostBenchModel", "data", "[I", true)
  | 11 => ("HostBenchModel", "size", "[I", true)
  | 12 => ("HostBenchModel", "name", "[I", true)
  | 13 => ("HostBenchModel", "nameSize", "[I", true)
  | 14 => ("HostBenchModel", "files", "I", false)
  | 15 => ("HostBenchModel", "kind", "[I", true)
  | 16 => ("HostBenchModel", "its", "[I", true)
  | 17 => ("HostBenchModel", "place", "[I", true)
  | 18 => ("HostBenchModel", "may", "[I", true)
  | 19 => ("HostBenchModel", "in", "[I", true)
  | 20 => ("HostBenchModel", "waiting", "I", false)
  | 21 => ("HostBenchModel", "printed", "[I", true)
  | 22 => ("HostBenchModel", "kept", "[I", true)
  | 23 => ("HostBenchModel", "prints", "[I", true)
  | 24 => ("HostBenchModel", "errno", "I", false)
  | 25 => ("HostBenchModel", "command", "[I", true)
  | 26 => ("HostBenchModel", "commandSize", "I", false)
  | 27 => ("HostBenchModel", "clock", "I", false)
  | 28 => ("HostBenchModel", "tape", "[I", true)
  | _ => ("HostBenchModel", "taped", "I", false)
def tyX10 : Nat → FieldType := fun k => match k with
  | 0 => .int
  | 1 => .array .int
  | 2 => .array .int
  | 3 => .int
  | 4 => .int
  | 5 => .int
  | 6 => .int
  | 7 => .long
  | 8 => .int
  | 9 => .int
  | 10 => .array .int
  | 11 => .array .int
  | 12 => .array .int
  | 13 => .array .int
  | 14 => .int
  | 15 => .array .int
  | 16 => .array .int
  | 17 => .array .int
  | 18 => .array .int
  | 19 => .array .int
  | 20 => .int
  | 21 => .array .int
  | 22 => .array .int
  | 23 => .array .int
  | 24 => .int
  | 25 => .array .int
  | 26 => .int
  | 27 => .int
  | 28 => .array .int
  | _ => .int
theorem inX10 : ∀ w ∈ u_ws "HostBenchModel" TX10 30, w ∈ tT := by
  intro w h
  obtain ⟨k, hk, rfl⟩ := List.mem_map.mp h
  have hk := List.mem_range.mp hk
  exact match k, hk with
    | 0, _ => tw_1014
    | 1, _ => tw_1016
    | 2, _ => tw_1018
    | 3, _ => tw_1020
    | 4, _ => tw_1022
    | 5, _ => tw_1024
    | 6, _ => tw_1026
    | 7, _ => tw_1028
    | 8, _ => tw_1030
    | 9, _ => tw_1032
    | 10, _ => tw_1034
    | 11, _ => tw_1036
    | 12, _ => tw_1038
    | 13, _ => tw_1040
    | 14, _ => tw_1042
    | 15, _ => tw_1044
    | 16, _ => tw_1046
    | 17, _ => tw_1048
    | 18, _ => tw_1050
    | 19, _ => tw_1052
    | 20, _ => tw_1054
    | 21, _ => tw_1056
    | 22, _ => tw_1058
    | 23, _ => tw_1060
    | 24, _ => tw_1062
    | 25, _ => tw_1064
    | 26, _ => tw_1066
    | 27, _ => tw_1068
    | 28, _ => tw_1070
    | 29, _ => tw_1072
    | n + 30, h => absurd h (by omega)
theorem nmX10 : ∀ a, a < 30 → ∀ b, b < 30 → a ≠ b → (TX10 a).2.1 ≠ (TX10 b).2.1 := by decide +kernel
theorem tyX10_ok : ∀ k, k < 30 → parseFieldDescriptor (TX10 k).2.2.1 = some (tyX10 k) := by decide +kernel
abbrev vwCl : List vw_C := [("HostBench$Bytes", TX0, 2), ("HostBench$Desk", TX1, 1), ("HostBench$Folder", TX2, 2), ("HostBench$Guest", TX3, 8), ("HostBench$Handle", TX4, 4), ("HostBench$Host", TX5, 15), ("HostBench$HostFile", TX6, 2), ("HostBench$Memory", TX7, 1), ("HostBench$Output", TX8, 2), ("HostBench", TX9, 8), ("HostBenchModel", TX10, 30)]
/-- the fields of nest mates that are read or written from another of the nest: who, entry, whose, name, type, host -/
def zNl : List (String × Nat × String × String × String × String) := [("HostBench$Host", 18, "HostBench$Guest", "memory", "LHostBench$Memory;", "HostBench"), ("HostBench", 47, "HostBench$Guest", "memory", "LHostBench$Memory;", "HostBench"), ("HostBench", 185, "HostBench$Guest", "pc", "I", "HostBench"), ("HostBench$Host", 98, "HostBench$Guest", "state", "I", "HostBench"), ("HostBench", 149, "HostBench$Guest", "state", "I", "HostBench"), ("HostBench", 159, "HostBench$Guest", "trap", "I", "HostBench"), ("HostBench", 162, "HostBench$Guest", "code", "I", "HostBench"), ("HostBench$Host", 161, "HostBench$Guest", "steps", "J", "HostBench"), ("HostBench", 168, "HostBench$Guest", "steps", "J", "HostBench"), ("HostBench$Folder", 22, "HostBench$HostFile", "name", "LHostBench$Bytes;", "HostBench"), ("HostBench", 206, "HostBench$HostFile", "name", "LHostBench$Bytes;", "HostBench"), ("HostBench$Host", 294, "HostBench$HostFile", "name", "LHostBench$Bytes;", "HostBench"), ("HostBench$Folder", 44, "HostBench$HostFile", "content", "LHostBench$Bytes;", "HostBench"), ("HostBench", 125, "HostBench$HostFile", "content", "LHostBench$Bytes;", "HostBench"), ("HostBench$Host", 230, "HostBench$HostFile", "content", "LHostBench$Bytes;", "HostBench"), ("HostBench", 197, "HostBench$Folder", "count", "I", "HostBench"), ("HostBench$Desk", 22, "HostBench$Handle", "kind", "I", "HostBench"), ("HostBench$Host", 259, "HostBench$Handle", "kind", "I", "HostBench"), ("HostBench", 214, "HostBench$Handle", "kind", "I", "HostBench"), ("HostBench$Desk", 26, "HostBench$Handle", "file", "LHostBench$HostFile;", "HostBench"), ("HostBench$Host", 251, "HostBench$Handle", "file", "LHostBench$HostFile;", "HostBench"), ("HostBench", 222, "HostBench$Handle", "file", "LHostBench$HostFile;", "HostBench"), ("HostBench$Host", 262, "HostBench$Handle", "place", "I", "HostBench"), ("HostBench", 219, "HostBench$Handle", "place", "I", "HostBench"), ("HostBench", 229, "HostBench$Handle", "rights", "I", "HostBench"), ("HostBench", 244, "HostBench$Output", "kept", "LHostBench$Bytes;", "HostBench"), ("HostBench", 236, "HostBench$Output", "total", "I", "HostBench"), ("HostBench", 42, "HostBench$Host", "guest", "LHostBench$Guest;", "HostBench"), ("HostBench", 32, "HostBench$Host", "folder", "LHostBench$Folder;", "HostBench"), ("HostBench", 37, "HostBench$Host", "desk", "LHostBench$Desk;", "HostBench"), ("HostBench", 130, "HostBench$Host", "input", "LHostBench$Bytes;", "HostBench"), ("HostBench", 232, "HostBench$Host", "out", "LHostBench$Output;", "HostBench"), ("HostBench", 241, "HostBench$Host", "err", "LHostBench$Output;", "HostBench"), ("HostBench", 137, "HostBench$Host", "command", "LHostBench$Bytes;", "HostBench"), ("HostBench", 165, "HostBench$Host", "errno", "I", "HostBench"), ("HostBench", 140, "HostBench$Host", "seconds", "I", "HostBench"), ("HostBench", 172, "HostBench$Host", "calls", "I", "HostBench"), ("HostBench", 175, "HostBench$Host", "latest", "I", "HostBench")]
theorem tn_0 : Cond.fieldLinkNest "HostBench$Host" 18 "HostBench$Guest" "memory" "LHostBench$Memory;" "HostBench" ∈ lw_tbl := List.mem_append_right _ (tl1 70 rfl)
theorem tn_1 : Cond.fieldLinkNest "HostBench" 47 "HostBench$Guest" "memory" "LHostBench$Memory;" "HostBench" ∈ lw_tbl := List.mem_append_right _ (tl1 71 rfl)
theorem tn_2 : Cond.fieldLinkNest "HostBench" 185 "HostBench$Guest" "pc" "I" "HostBench" ∈ lw_tbl := List.mem_append_right _ (tl1 74 rfl)
theorem tn_3 : Cond.fieldLinkNest "HostBench$Host" 98 "HostBench$Guest" "state" "I" "HostBench" ∈ lw_tbl := List.mem_append_right _ (tl1 77 rfl)
theorem tn_4 : Cond.fieldLinkNest "HostBench" 149 "HostBench$Guest" "state" "I" "HostBench" ∈ lw_tbl := List.mem_append_right _ (tl1 78 rfl)
theorem tn_5 : Cond.fieldLinkNest "HostBench" 159 "HostBench$Guest" "trap" "I" "HostBench" ∈ lw_tbl := List.mem_append_right _ (tl1 80 rfl)
theorem tn_6 : Cond.fieldLinkNest "HostBench" 162 "HostBench$Guest" "code" "I" "HostBench" ∈ lw_tbl := List.mem_append_right _ (tl1 82 rfl)
theorem tn_7 : Cond.fieldLinkNest "HostBench$Host" 161 "HostBench$Guest" "steps" "J" "HostBench" ∈ lw_tbl := List.mem_append_right _ (tl1 84 rfl)
theorem tn_8 : Cond.fieldLinkNest "HostBench" 168 "HostBench$Guest" "steps" "J" "HostBench" ∈ lw_tbl := List.mem_append_right _ (tl1 85 rfl)
theorem tn_9 : Cond.fieldLinkNest "HostBench$Folder" 22 "HostBench$HostFile" "name" "LHostBench$Bytes;" "HostBench" ∈ lw_tbl := List.mem_append_right _ (tl1 119 rfl)
theorem tn_10 : Cond.fieldLinkNest "HostBench" 206 "HostBench$HostFile" "name" "LHostBench$Bytes;" "HostBench" ∈ lw_tbl := List.mem_append_right _ (tl1 120 rfl)
theorem tn_11 : Cond.fieldLinkNest "HostBench$Host" 294 "HostBench$HostFile" "name" "LHostBench$Bytes;" "HostBench" ∈ lw_tbl := List.mem_append_right _ (tl1 121 rfl)
theorem tn_12 : Cond.fieldLinkNest "HostBench$Folder" 44 "HostBench$HostFile" "content" "LHostBench$Bytes;" "HostBench" ∈ lw_tbl := List.mem_append_right _ (tl1 123 rfl)
theorem tn_13 : Cond.fieldLinkNest "HostBench" 125 "HostBench$HostFile" "content" "LHostBench$Bytes;" "HostBench" ∈ lw_tbl := List.mem_append_right _ (tl1 124 rfl)
theorem tn_14 : Cond.fieldLinkNest "HostBench$Host" 230 "HostBench$HostFile" "content" "LHostBench$Bytes;" "HostBench" ∈ lw_tbl := List.mem_append_right _ (tl1 125 rfl)
theorem tn_15 : Cond.fieldLinkNest "HostBench" 197 "HostBench$Folder" "count" "I" "HostBench" ∈ lw_tbl := List.mem_append_right _ (tl1 133 rfl)
theorem tn_16 : Cond.fieldLinkNest "HostBench$Desk" 22 "HostBench$Handle" "kind" "I" "HostBench" ∈ lw_tbl := List.mem_append_right _ (tl1 153 rfl)
theorem tn_17 : Cond.fieldLinkNest "HostBench$Host" 259 "HostBench$Handle" "kind" "I" "HostBench" ∈ lw_tbl := List.mem_append_right _ (tl1 154 rfl)
theorem tn_18 : Cond.fieldLinkNest "HostBench" 214 "HostBench$Handle" "kind" "I" "HostBench" ∈ lw_tbl := List.mem_append_right _ (tl1 155 rfl)
theorem tn_19 : Cond.fieldLinkNest "HostBench$Desk" 26 "HostBench$Handle" "file" "LHostBench$HostFile;" "HostBench" ∈ lw_tbl := List.mem_append_right _ (tl1 157 rfl)
theorem tn_20 : Cond.fieldLinkNest "HostBench$Host" 251 "HostBench$Handle" "file" "LHostBench$HostFile;" "HostBench" ∈ lw_tbl := List.mem_append_right _ (tl1 158 rfl)
theorem tn_21 : Cond.fieldLinkNest "HostBench" 222 "HostBench$Handle" "file" "LHostBench$HostFile;" "HostBench" ∈ lw_tbl := List.mem_append_right _ (tl1 159 rfl)
theorem tn_22 : Cond.fieldLinkNest "HostBench$Host" 262 "HostBench$Handle" "place" "I" "HostBench" ∈ lw_tbl := List.mem_append_right _ (tl1 161 rfl)
theorem tn_23 : Cond.fieldLinkNest "HostBench" 219 "HostBench$Handle" "place" "I" "HostBench" ∈ lw_tbl := List.mem_append_right _ (tl1 162 rfl)
theorem tn_24 : Cond.fieldLinkNest "HostBench" 229 "HostBench$Handle" "rights" "I" "HostBench" ∈ lw_tbl := List.mem_append_right _ (tl1 164 rfl)
theorem tn_25 : Cond.fieldLinkNest "HostBench" 244 "HostBench$Output" "kept" "LHostBench$Bytes;" "HostBench" ∈ lw_tbl := List.mem_append_right _ (tl1 189 rfl)
theorem tn_26 : Cond.fieldLinkNest "HostBench" 236 "HostBench$Output" "total" "I" "HostBench" ∈ lw_tbl := List.mem_append_right _ (tl1 191 rfl)
theorem tn_27 : Cond.fieldLinkNest "HostBench" 42 "HostBench$Host" "guest" "LHostBench$Guest;" "HostBench" ∈ lw_tbl := List.mem_append_right _ (tl1 198 rfl)
theorem tn_28 : Cond.fieldLinkNest "HostBench" 32 "HostBench$Host" "folder" "LHostBench$Folder;" "HostBench" ∈ lw_tbl := List.mem_append_right _ (tl1 201 rfl)
theorem tn_29 : Cond.fieldLinkNest "HostBench" 37 "HostBench$Host" "desk" "LHostBench$Desk;" "HostBench" ∈ lw_tbl := List.mem_append_right _ (tl1 203 rfl)
theorem tn_30 : Cond.fieldLinkNest "HostBench" 130 "HostBench$Host" "input" "LHostBench$Bytes;" "HostBench" ∈ lw_tbl := List.mem_append_right _ (tl1 205 rfl)
theorem tn_31 : Cond.fieldLinkNest "HostBench" 232 "HostBench$Host" "out" "LHostBench$Output;" "HostBench" ∈ lw_tbl := List.mem_append_right _ (tl1 207 rfl)
theorem tn_32 : Cond.fieldLinkNest "HostBench" 241 "HostBench$Host" "err" "LHostBench$Output;" "HostBench" ∈ lw_tbl := List.mem_append_right _ (tl1 209 rfl)
theorem tn_33 : Cond.fieldLinkNest "HostBench" 137 "HostBench$Host" "command" "LHostBench$Bytes;" "HostBench" ∈ lw_tbl := List.mem_append_right _ (tl1 211 rfl)
theorem tn_34 : Cond.fieldLinkNest "HostBench" 165 "HostBench$Host" "errno" "I" "HostBench" ∈ lw_tbl := List.mem_append_right _ (tl1 216 rfl)
theorem tn_35 : Cond.fieldLinkNest "HostBench" 140 "HostBench$Host" "seconds" "I" "HostBench" ∈ lw_tbl := List.mem_append_right _ (tl1 218 rfl)
theorem tn_36 : Cond.fieldLinkNest "HostBench" 172 "HostBench$Host" "calls" "I" "HostBench" ∈ lw_tbl := List.mem_append_right _ (tl1 220 rfl)
theorem tn_37 : Cond.fieldLinkNest "HostBench" 175 "HostBench$Host" "latest" "I" "HostBench" ∈ lw_tbl := List.mem_append_right _ (tl1 222 rfl)
theorem zNl_in : ∀ q ∈ zNl, Cond.fieldLinkNest q.1 q.2.1 q.2.2.1 q.2.2.2.1 q.2.2.2.2.1 q.2.2.2.2.2 ∈ lw_tbl := List.forall_mem_cons.mpr ⟨tn_0, List.forall_mem_cons.mpr ⟨tn_1, List.forall_mem_cons.mpr ⟨tn_2, List.forall_mem_cons.mpr ⟨tn_3, List.forall_mem_cons.mpr ⟨tn_4, List.forall_mem_cons.mpr ⟨tn_5, List.forall_mem_cons.mpr ⟨tn_6, List.forall_mem_cons.mpr ⟨tn_7, List.forall_mem_cons.mpr ⟨tn_8, List.forall_mem_cons.mpr ⟨tn_9, List.forall_mem_cons.mpr ⟨tn_10, List.forall_mem_cons.mpr ⟨tn_11, List.forall_mem_cons.mpr ⟨tn_12, List.forall_mem_cons.mpr ⟨tn_13, List.forall_mem_cons.mpr ⟨tn_14, List.forall_mem_cons.mpr ⟨tn_15, List.forall_mem_cons.mpr ⟨tn_16, List.forall_mem_cons.mpr ⟨tn_17, List.forall_mem_cons.mpr ⟨tn_18, List.forall_mem_cons.mpr ⟨tn_19, List.forall_mem_cons.mpr ⟨tn_20, List.forall_mem_cons.mpr ⟨tn_21, List.forall_mem_cons.mpr ⟨tn_22, List.forall_mem_cons.mpr ⟨tn_23, List.forall_mem_cons.mpr ⟨tn_24, List.forall_mem_cons.mpr ⟨tn_25, List.forall_mem_cons.mpr ⟨tn_26, List.forall_mem_cons.mpr ⟨tn_27, List.forall_mem_cons.mpr ⟨tn_28, List.forall_mem_cons.mpr ⟨tn_29, List.forall_mem_cons.mpr ⟨tn_30, List.forall_mem_cons.mpr ⟨tn_31, List.forall_mem_cons.mpr ⟨tn_32, List.forall_mem_cons.mpr ⟨tn_33, List.forall_mem_cons.mpr ⟨tn_34, List.forall_mem_cons.mpr ⟨tn_35, List.forall_mem_cons.mpr ⟨tn_36, List.forall_mem_cons.mpr ⟨tn_37, fun _ h => absurd h List.not_mem_nil⟩⟩⟩⟩⟩⟩⟩⟩⟩⟩⟩⟩⟩⟩⟩⟩⟩⟩⟩⟩⟩⟩⟩⟩⟩⟩⟩⟩⟩⟩⟩⟩⟩⟩⟩⟩⟩⟩
def zD (cc : ByteArray) (pc : Nat) (i : Instr) (n pc' : Nat) : Prop := decode cc pc = .ok (i, n) ∧ pc + n = pc'
