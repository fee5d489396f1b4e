/-! ===== printed by program: the tables of this claim ===== -/
def tb_WA : List Cond := lw_tbl.filter goodWord
def tb_nest : Cond → Bool
  | .fieldLinkNest .. => true
  | .methodLinkNest .. => true
  | _ => false
def tb_NW : List Cond := tables_1.filter tb_nest
def tb_TX0 : u_T := fun k => match k with
  | 0 => ("VaultDevices", "terms", "LVaultDevices$Terms;", true)
  | 1 => ("VaultDevices", "seals", "LVaultDevices$Seals;", true)
  | 2 => ("VaultDevices", "mail", "LVaultDevices$Mail;", true)
  | 3 => ("VaultDevices", "devices", "[LVaultDevices$Device;", true)
  | 4 => ("VaultDevices", "arrived", "LVaultDevices$State;", true)
  | _ => ("VaultDevices", "held", "I", false)
def tb_tX0 : Nat → FieldType := fun k => match k with
  | 0 => .object "VaultDevices$Terms"
  | 1 => .object "VaultDevices$Seals"
  | 2 => .object "VaultDevices$Mail"
  | 3 => .array (.object "VaultDevices$Device")
  | 4 => .object "VaultDevices$State"
  | _ => .int
def tb_TX1 : u_T := fun k => match k with
  | 0 => ("VaultDevices$Terms", "kinds", "[I", true)
  | 1 => ("VaultDevices$Terms", "xs", "[I", true)
  | 2 => ("VaultDevices$Terms", "ys", "[I", true)
  | 3 => ("VaultDevices$Terms", "open", "[Z", true)
  | 4 => ("VaultDevices$Terms", "newest", "[I", true)
  | 5 => ("VaultDevices$Terms", "older", "[I", true)
  | _ => ("VaultDevices$Terms", "size", "I", false)
def tb_tX1 : Nat → FieldType := fun k => match k with
  | 0 => .array .int
  | 1 => .array .int
  | 2 => .array .int
  | 3 => .array .boolean
  | 4 => .array .int
  | 5 => .array .int
  | _ => .int
def tb_TX2 : u_T := fun k => match k with
  | 0 => ("VaultDevices$Seals", "stateRow", "[I", true)
  | 1 => ("VaultDevices$Seals", "entriesRow", "[I", true)
  | _ => ("VaultDevices$Seals", "entryRow", "[I", true)
def tb_tX2 : Nat → FieldType := fun k => match k with
  | 0 => .array .int
  | 1 => .array .int
  | _ => .array .int
def tb_TX3 : u_T := fun k => match k with
  | 0 => ("VaultDevices$Mail", "kinds", "[I", true)
  | 1 => ("VaultDevices$Mail", "addressees", "[I", true)
  | 2 => ("VaultDevices$Mail", "bases", "[I", true)
  | 3 => ("VaultDevices$Mail", "contents", "[I", true)
  | _ => ("VaultDevices$Mail", "size", "I", false)
def tb_tX3 : Nat → FieldType := fun k => match k with
  | 0 => .array .int
  | 1 => .array .int
  | 2 => .array .int
  | 3 => .array .int
  | _ => .int
def tb_TX4 : u_T := fun k => match k with
  | 0 => ("VaultDevices$Device", "state", "LVaultDevices$State;", true)
  | 1 => ("VaultDevices$Device", "acked", "[I", true)
  | 2 => ("VaultDevices$Device", "base", "I", false)
  | _ => ("VaultDevices$Device", "locked", "Z", false)
def tb_tX4 : Nat → FieldType := fun k => match k with
  | 0 => .object "VaultDevices$State"
  | 1 => .array .int
  | 2 => .int
  | _ => .boolean
def tb_TX5 : u_T := fun k => match k with
  | 0 => ("VaultDevices$State", "generation", "I", false)
  | 1 => ("VaultDevices$State", "owner", "I", false)
  | 2 => ("VaultDevices$State", "password", "I", false)
  | 3 => ("VaultDevices$State", "vector", "[I", true)
  | 4 => ("VaultDevices$State", "entries", "[I", true)
  | 5 => ("VaultDevices$State", "size", "I", false)
  | _ => ("VaultDevices$State", "merged", "[I", true)
def tb_tX5 : Nat → FieldType := fun k => match k with
  | 0 => .int
  | 1 => .int
  | 2 => .int
  | 3 => .array .int
  | 4 => .array .int
  | 5 => .int
  | _ => .array .int
def tb_TX6 : u_T := fun k => match k with
  | 0 => ("VaultDevicesModel", "thrown", "I", false)
  | 1 => ("VaultDevicesModel", "terms", "I", false)
  | 2 => ("VaultDevicesModel", "kind", "[I", true)
  | 3 => ("VaultDevicesModel", "left", "[I", true)
  | 4 => ("VaultDevicesModel", "right", "[I", true)
  | 5 => ("VaultDevicesModel", "given", "[Z", true)
  | 6 => ("VaultDevicesModel", "known", "[Z", true)
  | 7 => ("VaultDevicesModel", "over", "Z", false)
  | 8 => ("VaultDevicesModel", "generation", "[I", true)
  | 9 => ("VaultDevicesModel", "changer", "[I", true)
  | 10 => ("VaultDevicesModel", "password", "[I", true)
  | 11 => ("VaultDevicesModel", "vector", "[I", true)
  | 12 => ("VaultDevicesModel", "entries", "[I", true)
  | 13 => ("VaultDevicesModel", "item", "[I", true)
  | 14 => ("VaultDevicesModel", "content", "[I", true)
  | 15 => ("VaultDevicesModel", "maker", "[I", true)
  | 16 => ("VaultDevicesModel", "number", "[I", true)
  | 17 => ("VaultDevicesModel", "open", "[Z", true)
  | 18 => ("VaultDevicesModel", "acked", "[I", true)
  | 19 => ("VaultDevicesModel", "base", "[I", true)
  | 20 => ("VaultDevicesModel", "messages", "I", false)
  | 21 => ("VaultDevicesModel", "what", "[I", true)
  | 22 => ("VaultDevicesModel", "device", "[I", true)
  | 23 => ("VaultDevicesModel", "onto", "[I", true)
  | 24 => ("VaultDevicesModel", "load", "[I", true)
  | 25 => ("VaultDevicesModel", "held", "I", false)
  | 26 => ("VaultDevicesModel", "rest", "I", false)
  | _ => ("VaultDevicesModel", "good", "Z", false)
def tb_tX6 : Nat → FieldType := fun k => match k with
  | 0 => .int
  | 1 => .int
  | 2 => .array .int
  | 3 => .array .int
  | 4 => .array .int
  | 5 => .array .boolean
  | 6 => .array .boolean
  | 7 => .boolean
  | 8 => .array .int
  | 9 => .array .int
  | 10 => .array .int
  | 11 => .array .int
  | 12 => .array .int
  | 13 => .array .int
  | 14 => .array .int
  | 15 => .array .int
  | 16 => .array .int
  | 17 => .array .boolean
  | 18 => .array .int
  | 19 => .array .int
  | 20 => .int
  | 21 => .array .int
  | 22 => .array .int
  | 23 => .array .int
  | 24 => .array .int
  | 25 => .int
  | 26 => .int
  | _ => .boolean
def tb_cl : List vw_C := [("VaultDevices", tb_TX0, 6), ("VaultDevices$Terms", tb_TX1, 7), ("VaultDevices$Seals", tb_TX2, 3), ("VaultDevices$Mail", tb_TX3, 5), ("VaultDevices$Device", tb_TX4, 4), ("VaultDevices$State", tb_TX5, 7), ("VaultDevicesModel", tb_TX6, 28)]
def tb_ty : Nat → Nat → FieldType := fun c => match c with
  | 0 => tb_tX0
  | 1 => tb_tX1
  | 2 => tb_tX2
  | 3 => tb_tX3
  | 4 => tb_tX4
  | 5 => tb_tX5
  | _ => tb_tX6
def tb_cn : Nat → String := fun c => match c with
  | 0 => "VaultDevices"
  | 1 => "VaultDevices$Terms"
  | 2 => "VaultDevices$Seals"
  | 3 => "VaultDevices$Mail"
  | 4 => "VaultDevices$Device"
  | 5 => "VaultDevices$State"
  | 6 => "VaultDevicesModel"
  | 7 => "VaultDevices$Entry"
  | 8 => "VaultDevicesLaw"
  | 9 => "java/util/Arrays"
  | _ => ""
def tb_FL : List (Nat × Nat × Nat × Nat × Nat) := [(1, 9, 1, 0, 2), (1, 15, 1, 1, 2), (1, 18, 1, 2, 2), (1, 21, 1, 3, 2), (1, 25, 1, 4, 2), (1, 28, 1, 5, 2), (2, 21, 1, 6, 0), (1, 37, 1, 6, 0), (2, 11, 2, 0, 2), (2, 15, 2, 1, 2), (2, 18, 2, 2, 2), (3, 9, 3, 0, 2), (0, 120, 3, 0, 2), (3, 15, 3, 1, 2), (0, 123, 3, 1, 2), (3, 18, 3, 2, 2), (0, 126, 3, 2, 2), (3, 21, 3, 3, 2), (0, 129, 3, 3, 2), (3, 24, 3, 4, 0), (0, 119, 3, 4, 0), (5, 21, 5, 0, 0), (2, 52, 5, 0, 0), (0, 98, 5, 0, 0), (5, 25, 5, 1, 0), (2, 55, 5, 1, 0), (0, 165, 5, 1, 0), (5, 28, 5, 2, 0), (0, 63, 5, 2, 0), (2, 58, 5, 2, 0), (5, 9, 5, 3, 2), (2, 31, 5, 3, 2), (0, 70, 5, 3, 2), (5, 15, 5, 4, 2), (2, 62, 5, 4, 2), (5, 31, 5, 5, 0), (2, 61, 5, 5, 0), (0, 74, 5, 5, 0), (5, 18, 5, 6, 2), (4, 12, 4, 0, 2), (0, 60, 4, 0, 2), (4, 18, 4, 1, 2), (0, 162, 4, 1, 2), (4, 22, 4, 2, 0), (0, 113, 4, 2, 0), (4, 26, 4, 3, 1), (0, 56, 4, 3, 1), (0, 10, 0, 0, 2), (0, 19, 0, 1, 2), (0, 26, 0, 2, 2), (0, 32, 0, 3, 2), (0, 40, 0, 4, 2), (0, 44, 0, 5, 0), (6, 78, 6, 0, 0), (6, 81, 6, 1, 0), (6, 7, 6, 2, 2), (6, 13, 6, 3, 2), (6, 16, 6, 4, 2), (6, 19, 6, 5, 2), (6, 23, 6, 6, 2), (6, 88, 6, 7, 1), (6, 26, 6, 8, 2), (6, 29, 6, 9, 2), (6, 32, 6, 10, 2), (6, 35, 6, 11, 2), (6, 38, 6, 12, 2), (6, 41, 6, 13, 2), (6, 44, 6, 14, 2), (6, 47, 6, 15, 2), (6, 50, 6, 16, 2), (6, 53, 6, 17, 2), (6, 56, 6, 18, 2), (6, 59, 6, 19, 2), (6, 145, 6, 20, 0), (6, 62, 6, 21, 2), (6, 65, 6, 22, 2), (6, 68, 6, 23, 2), (6, 71, 6, 24, 2), (6, 74, 6, 25, 0), (6, 125, 6, 26, 0), (6, 122, 6, 27, 1)]
def tb_CL : List (Nat × Nat × Nat × Nat × Nat) := [(8, 42, 5, 0, 1), (0, 1, 0, 0, 1), (0, 9, 5, 28, 1), (1, 3, 0, 0, 1), (1, 31, 3, 140, 2), (0, 18, 5, 43, 1), (2, 3, 0, 0, 1), (0, 25, 5, 54, 1), (3, 3, 0, 0, 1), (0, 36, 5, 57, 1), (4, 3, 0, 0, 1), (4, 11, 5, 58, 1), (5, 3, 0, 0, 1), (0, 39, 5, 58, 1), (8, 79, 4, 1, 2), (0, 48, 3, 2, 2), (0, 132, 4, 55, 2), (0, 135, 4, 3, 3), (0, 168, 4, 44, 4), (2, 84, 4, 29, 3), (1, 49, 4, 30, 3), (1, 45, 4, 31, 2), (2, 88, 4, 30, 3), (2, 91, 4, 31, 2), (2, 94, 4, 32, 2), (1, 41, 3, 2, 2), (2, 97, 4, 33, 2), (2, 100, 4, 34, 3), (2, 103, 3, 45, 3), (2, 113, 3, 46, 2), (2, 116, 4, 59, 4), (2, 120, 3, 2, 2), (2, 107, 3, 47, 3), (2, 110, 3, 48, 3), (2, 124, 3, 49, 2), (2, 134, 3, 125, 4), (2, 127, 4, 60, 2), (5, 54, 3, 126, 1), (5, 61, 4, 61, 2), (5, 47, 3, 127, 1), (5, 50, 3, 2, 2), (5, 87, 3, 128, 1), (2, 131, 4, 62, 2), (5, 43, 3, 63, 3), (0, 172, 4, 64, 2), (0, 176, 4, 65, 2), (5, 57, 4, 66, 2), (5, 64, 2, 0, 5), (5, 70, 4, 67, 2), (5, 77, 1, 0, 2), (5, 74, 4, 68, 2), (5, 83, 4, 59, 4), (0, 180, 2, 0, 5), (0, 139, 4, 4, 2), (0, 116, 4, 35, 2), (1, 60, 4, 36, 1), (1, 63, 4, 37, 2), (0, 105, 4, 56, 5), (8, 83, 4, 5, 2), (8, 87, 4, 6, 3), (8, 91, 4, 7, 1), (8, 95, 4, 8, 3), (0, 142, 4, 38, 2), (8, 99, 4, 9, 2), (8, 103, 4, 10, 4), (0, 146, 4, 39, 4), (1, 53, 4, 40, 4), (8, 107, 4, 11, 2), (8, 111, 4, 12, 2), (0, 109, 4, 50, 3), (2, 27, 4, 51, 3), (2, 36, 4, 39, 4), (2, 40, 4, 52, 3), (2, 65, 4, 53, 3), (2, 69, 3, 129, 1), (2, 75, 3, 127, 1), (2, 78, 3, 126, 1), (2, 81, 3, 130, 1), (2, 44, 4, 41, 4), (1, 57, 4, 39, 4), (2, 48, 4, 42, 2), (8, 115, 4, 13, 2), (8, 119, 4, 14, 3), (0, 150, 4, 31, 2), (0, 153, 4, 33, 2), (0, 156, 4, 32, 2), (8, 123, 4, 15, 2), (0, 159, 4, 40, 4), (8, 127, 4, 16, 3), (8, 131, 4, 17, 1), (8, 46, 3, 131, 4), (8, 7, 4, 18, 3), (0, 52, 3, 19, 1), (8, 56, 3, 132, 3), (8, 15, 4, 20, 2), (8, 60, 3, 133, 5), (8, 19, 4, 21, 4), (0, 66, 3, 22, 1), (0, 77, 4, 69, 2), (5, 34, 3, 129, 1), (0, 81, 4, 70, 2), (0, 85, 3, 125, 4), (0, 91, 4, 62, 2), (8, 64, 3, 134, 4), (8, 25, 4, 23, 3), (8, 67, 3, 135, 5), (8, 29, 4, 24, 4), (0, 94, 4, 71, 3), (5, 40, 3, 130, 1), (8, 70, 3, 136, 4), (8, 32, 4, 25, 3), (0, 101, 4, 59, 4), (8, 73, 3, 137, 3), (8, 35, 4, 26, 2), (8, 76, 3, 138, 3), (8, 38, 4, 27, 2), (8, 45, 5, 72, 1), (6, 1, 0, 0, 1), (8, 52, 4, 73, 1), (8, 51, 4, 74, 3), (6, 158, 3, 75, 1), (8, 59, 4, 76, 2), (8, 63, 4, 77, 4), (6, 161, 4, 78, 3), (6, 165, 4, 79, 4), (6, 107, 4, 80, 3), (6, 99, 4, 81, 6), (6, 118, 4, 82, 2), (6, 103, 4, 83, 3), (8, 66, 4, 84, 3), (8, 69, 4, 85, 4), (8, 72, 4, 86, 3), (8, 75, 4, 87, 2), (6, 169, 4, 88, 5), (8, 78, 4, 89, 2), (6, 179, 4, 90, 2), (6, 173, 4, 91, 2), (6, 92, 4, 92, 4), (6, 84, 4, 93, 4), (6, 95, 4, 94, 2), (6, 176, 4, 95, 3), (8, 82, 4, 96, 2), (6, 182, 4, 97, 2), (6, 185, 4, 98, 3), (6, 148, 4, 99, 2), (6, 128, 4, 100, 3), (6, 135, 4, 101, 3), (6, 131, 4, 102, 1), (6, 139, 4, 103, 2), (6, 142, 4, 104, 2), (6, 114, 4, 105, 4), (6, 152, 4, 106, 2), (6, 111, 4, 107, 3), (6, 155, 4, 108, 2), (8, 86, 4, 109, 2), (8, 90, 4, 110, 3), (8, 94, 4, 111, 1), (8, 98, 4, 112, 3), (6, 194, 4, 113, 2), (6, 188, 4, 114, 2), (6, 191, 4, 115, 1), (8, 102, 4, 116, 2), (8, 106, 4, 117, 4), (8, 110, 4, 118, 2), (8, 114, 4, 119, 2), (8, 118, 4, 120, 2), (8, 122, 4, 121, 3), (8, 126, 4, 122, 2), (8, 130, 4, 123, 3), (8, 134, 4, 124, 1)]
def tb_NL : List (Nat × Nat × Nat × List (Option (Option Nat))) := [(8, 8, 0, [some none, some none, some none, some none, some none, none]), (0, 7, 1, [some none, some none, some none, some none, some none, some none, none]), (0, 16, 2, [some none, some none, some none]), (0, 23, 3, [some none, some none, some none, some none, none]), (0, 30, 4, [some none, some none, none, none]), (4, 9, 5, [none, none, none, some none, some none, none, some none]), (0, 37, 5, [none, none, none, some none, some none, none, some none]), (8, 43, 6, [none, none, some none, some none, some none, some none, some none, none, some none, some none, some none, some none, some none, some none, some none, some none, some none, some none, some none, some none, none, some none, some none, some none, some none, none, none, none])]
def tb_AL : List (Nat × Nat × Nat) := [(0, 30, 3)]
def tb_TL : List (Nat × Nat × Nat × Nat × Nat) := [(19, 4, 0, 1, 6), (22, 7, 1, 1, 6)]
def tb_XL : List (Nat × Nat × Nat × Nat) := [(131, 10, 22, 4), (132, 8, 20, 3), (133, 14, 17, 5), (133, 15, 21, 5), (134, 10, 15, 4), (134, 11, 19, 4), (135, 14, 17, 5), (135, 15, 21, 5), (136, 10, 15, 4), (136, 11, 19, 4), (137, 8, 20, 3), (137, 9, 23, 3), (138, 8, 13, 3), (138, 9, 16, 3)]
theorem tb_n0 : ∀ a, a < 6 → ∀ b, b < 6 → a ≠ b → (tb_TX0 a).2.1 ≠ (tb_TX0 b).2.1 := by decide +kernel
theorem tb_d0 : ∀ k, k < 6 → parseFieldDescriptor (tb_TX0 k).2.2.1 = some (tb_tX0 k) := by decide +kernel
theorem tb_w0 : ∀ w ∈ u_ws "VaultDevices" tb_TX0 6, w ∈ tb_WA := by decide +kernel
theorem tb_n1 : ∀ a, a < 7 → ∀ b, b < 7 → a ≠ b → (tb_TX1 a).2.1 ≠ (tb_TX1 b).2.1 := by decide +kernel
theorem tb_d1 : ∀ k, k < 7 → parseFieldDescriptor (tb_TX1 k).2.2.1 = some (tb_tX1 k) := by decide +kernel
theorem tb_w1 : ∀ w ∈ u_ws "VaultDevices$Terms" tb_TX1 7, w ∈ tb_WA := by decide +kernel
theorem tb_n2 : ∀ a, a < 3 → ∀ b, b < 3 → a ≠ b → (tb_TX2 a).2.1 ≠ (tb_TX2 b).2.1 := by decide +kernel
theorem tb_d2 : ∀ k, k < 3 → parseFieldDescriptor (tb_TX2 k).2.2.1 = some (tb_tX2 k) := by decide +kernel
theorem tb_w2 : ∀ w ∈ u_ws "VaultDevices$Seals" tb_TX2 3, w ∈ tb_WA := by decide +kernel
theorem tb_n3 : ∀ a, a < 5 → ∀ b, b < 5 → a ≠ b → (tb_TX3 a).2.1 ≠ (tb_TX3 b).2.1 := by decide +kernel
theorem tb_d3 : ∀ k, k < 5 → parseFieldDescriptor (tb_TX3 k).2.2.1 = some (tb_tX3 k) := by decide +kernel
theorem tb_w3 : ∀ w ∈ u_ws "VaultDevices$Mail" tb_TX3 5, w ∈ tb_WA := by decide +kernel
theorem tb_n4 : ∀ a, a < 4 → ∀ b, b < 4 → a ≠ b → (tb_TX4 a).2.1 ≠ (tb_TX4 b).2.1 := by decide +kernel
theorem tb_d4 : ∀ k, k < 4 → parseFieldDescriptor (tb_TX4 k).2.2.1 = some (tb_tX4 k) := by decide +kernel
theorem tb_w4 : ∀ w ∈ u_ws "VaultDevices$Device" tb_TX4 4, w ∈ tb_WA := by decide +kernel
theorem tb_n5 : ∀ a, a < 7 → ∀ b, b < 7 → a ≠ b → (tb_TX5 a).2.1 ≠ (tb_TX5 b).2.1 := by decide +kernel
theorem tb_d5 : ∀ k, k < 7 → parseFieldDescriptor (tb_TX5 k).2.2.1 = some (tb_tX5 k) := by decide +kernel
theorem tb_w5 : ∀ w ∈ u_ws "VaultDevices$State" tb_TX5 7, w ∈ tb_WA := by decide +kernel
theorem tb_n6 : ∀ a, a < 28 → ∀ b, b < 28 → a ≠ b → (tb_TX6 a).2.1 ≠ (tb_TX6 b).2.1 := by decide +kernel
theorem tb_d6 : ∀ k, k < 28 → parseFieldDescriptor (tb_TX6 k).2.2.1 = some (tb_tX6 k) := by decide +kernel
theorem tb_w6 : ∀ w ∈ u_ws "VaultDevicesModel" tb_TX6 28, w ∈ tb_WA := by decide +kernel
theorem tb_C : tb_Cok tb_cl tb_WA tb_ty := by
  intro ci C T N h
  match ci, h with
  | 0, h => cases h; exact ⟨tb_w0, tb_d0, tb_n0⟩
  | 1, h => cases h; exact ⟨tb_w1, tb_d1, tb_n1⟩
  | 2, h => cases h; exact ⟨tb_w2, tb_d2, tb_n2⟩
  | 3, h => cases h; exact ⟨tb_w3, tb_d3, tb_n3⟩
  | 4, h => cases h; exact ⟨tb_w4, tb_d4, tb_n4⟩
  | 5, h => cases h; exact ⟨tb_w5, tb_d5, tb_n5⟩
  | 6, h => cases h; exact ⟨tb_w6, tb_d6, tb_n6⟩
  | n + 7, h => exact absurd (List.getElem?_eq_some_iff.mp h).1 (by show ¬ n + 7 < 7; omega)
theorem tb_F : ∀ q ∈ tb_FL, tb_chF tb_cl tb_WA tb_NW tb_ty tb_cn "VaultDevices" q = true := by decide +kernel
theorem tb_N : ∀ q ∈ tb_NL, tb_chN tb_cl tb_WA tb_ty tb_cn q = true := by decide +kernel
