/-! names: fields, classes, layouts (by program) -/
def kt0 : u_T := fun k => match k with
  | 0 => ("PoetFines$Chronicle", "now", "LPoetFines$World;", true)
  | 1 => ("PoetFines$Chronicle", "acts", "I", false)
  | 2 => ("PoetFines$Chronicle", "ahead", "[I", true)
  | 3 => ("PoetFines$Chronicle", "oldest", "I", false)
  | 4 => ("PoetFines$Chronicle", "felt", "I", false)
  | 5 => ("PoetFines$Chronicle", "feltBy", "[I", true)
  | 6 => ("PoetFines$Chronicle", "feltIn", "[I", true)
  | _ => ("PoetFines$Chronicle", "feltHit", "[I", true)
def kty0 : Nat → FieldType := fun k => match k with
  | 0 => .object "PoetFines$World"
  | 1 => .int
  | 2 => .array .int
  | 3 => .int
  | 4 => .int
  | 5 => .array .int
  | 6 => .array .int
  | _ => .array .int
theorem knm0 : ∀ a, a < 8 → ∀ b, b < 8 → a ≠ b → (kt0 a).2.1 ≠ (kt0 b).2.1 := by decide +kernel
theorem kty0_ok : ∀ k, k < 8 → parseFieldDescriptor (kt0 k).2.2.1 = some (kty0 k) := by decide +kernel
def kix0 : Nat → Nat := fun k => [313, 315, 317, 319, 321, 323, 325, 327].getD k 0
theorem kin0 : ∀ w ∈ u_ws "PoetFines$Chronicle" kt0 8, w ∈ kG := kG_all kix0 (by decide +kernel) (by decide +kernel)
def kt1 : u_T := fun k => match k with
  | 0 => ("PoetFines$Court", "law", "LPoetFines$Law;", true)
  | 1 => ("PoetFines$Court", "stage", "LPoetFines$Stage;", true)
  | 2 => ("PoetFines$Court", "lineFine", "[I", true)
  | 3 => ("PoetFines$Court", "lineInches", "[I", true)
  | 4 => ("PoetFines$Court", "due", "[I", true)
  | 5 => ("PoetFines$Court", "reach", "[I", true)
  | 6 => ("PoetFines$Court", "row", "[I", true)
  | 7 => ("PoetFines$Court", "bestRow", "[I", true)
  | _ => ("PoetFines$Court", "bestSum", "I", false)
def kty1 : Nat → FieldType := fun k => match k with
  | 0 => .object "PoetFines$Law"
  | 1 => .object "PoetFines$Stage"
  | 2 => .array .int
  | 3 => .array .int
  | 4 => .array .int
  | 5 => .array .int
  | 6 => .array .int
  | 7 => .array .int
  | _ => .int
theorem knm1 : ∀ a, a < 9 → ∀ b, b < 9 → a ≠ b → (kt1 a).2.1 ≠ (kt1 b).2.1 := by decide +kernel
theorem kty1_ok : ∀ k, k < 9 → parseFieldDescriptor (kt1 k).2.2.1 = some (kty1 k) := by decide +kernel
def kix1 : Nat → Nat := fun k => [420, 422, 424, 426, 428, 430, 432, 434, 436].getD k 0
theorem kin1 : ∀ w ∈ u_ws "PoetFines$Court" kt1 9, w ∈ kG := kG_all kix1 (by decide +kernel) (by decide +kernel)
def kt2 : u_T := fun k => match k with
  | 0 => ("PoetFines$Law", "topics", "I", false)
  | 1 => ("PoetFines$Law", "people", "I", false)
  | 2 => ("PoetFines$Law", "poets", "I", false)
  | 3 => ("PoetFines$Law", "lines", "[I", true)
  | 4 => ("PoetFines$Law", "truth", "[I", true)
  | 5 => ("PoetFines$Law", "topic", "[I", true)
  | _ => ("PoetFines$Law", "rules", "LPoetFines$Rules;", true)
def kty2 : Nat → FieldType := fun k => match k with
  | 0 => .int
  | 1 => .int
  | 2 => .int
  | 3 => .array .int
  | 4 => .array .int
  | 5 => .array .int
  | _ => .object "PoetFines$Rules"
theorem knm2 : ∀ a, a < 7 → ∀ b, b < 7 → a ≠ b → (kt2 a).2.1 ≠ (kt2 b).2.1 := by decide +kernel
theorem kty2_ok : ∀ k, k < 7 → parseFieldDescriptor (kt2 k).2.2.1 = some (kty2 k) := by decide +kernel
def kix2 : Nat → Nat := fun k => [204, 206, 208, 210, 212, 214, 216].getD k 0
theorem kin2 : ∀ w ∈ u_ws "PoetFines$Law" kt2 7, w ∈ kG := kG_all kix2 (by decide +kernel) (by decide +kernel)
def kt3 : u_T := fun k => match k with
  | 0 => ("PoetFines$Oracle", "trial", "LPoetFines$World;", true)
  | 1 => ("PoetFines$Oracle", "tally", "LPoetFines$Tally;", true)
  | 2 => ("PoetFines$Oracle", "found", "I", false)
  | 3 => ("PoetFines$Oracle", "firstFound", "I", false)
  | 4 => ("PoetFines$Oracle", "law", "LPoetFines$Law;", true)
  | 5 => ("PoetFines$Oracle", "chronicle", "LPoetFines$Chronicle;", true)
  | 6 => ("PoetFines$Oracle", "stage", "LPoetFines$Stage;", true)
  | 7 => ("PoetFines$Oracle", "scarsHeard", "[I", true)
  | 8 => ("PoetFines$Oracle", "scarsSeen", "[J", true)
  | 9 => ("PoetFines$Oracle", "gain", "[I", true)
  | 10 => ("PoetFines$Oracle", "otherGain", "[I", true)
  | _ => ("PoetFines$Oracle", "seed", "I", false)
def kty3 : Nat → FieldType := fun k => match k with
  | 0 => .object "PoetFines$World"
  | 1 => .object "PoetFines$Tally"
  | 2 => .int
  | 3 => .int
  | 4 => .object "PoetFines$Law"
  | 5 => .object "PoetFines$Chronicle"
  | 6 => .object "PoetFines$Stage"
  | 7 => .array .int
  | 8 => .array .long
  | 9 => .array .int
  | 10 => .array .int
  | _ => .int
theorem knm3 : ∀ a, a < 12 → ∀ b, b < 12 → a ≠ b → (kt3 a).2.1 ≠ (kt3 b).2.1 := by decide +kernel
theorem kty3_ok : ∀ k, k < 12 → parseFieldDescriptor (kt3 k).2.2.1 = some (kty3 k) := by decide +kernel
def kix3 : Nat → Nat := fun k => [465, 467, 469, 471, 473, 475, 477, 479, 481, 483, 485, 487].getD k 0
theorem kin3 : ∀ w ∈ u_ws "PoetFines$Oracle" kt3 12, w ∈ kG := kG_all kix3 (by decide +kernel) (by decide +kernel)
def kt4 : u_T := fun k => match k with
  | 0 => ("PoetFines$Parser", "law", "LPoetFines$Law;", true)
  | 1 => ("PoetFines$Parser", "world", "LPoetFines$World;", true)
  | 2 => ("PoetFines$Parser", "faultAt", "I", false)
  | 3 => ("PoetFines$Parser", "found", "I", false)
  | 4 => ("PoetFines$Parser", "rule", "I", false)
  | _ => ("PoetFines$Parser", "tokens", "LPoetFines$Tokens;", true)
def kty4 : Nat → FieldType := fun k => match k with
  | 0 => .object "PoetFines$Law"
  | 1 => .object "PoetFines$World"
  | 2 => .int
  | 3 => .int
  | 4 => .int
  | _ => .object "PoetFines$Tokens"
theorem knm4 : ∀ a, a < 6 → ∀ b, b < 6 → a ≠ b → (kt4 a).2.1 ≠ (kt4 b).2.1 := by decide +kernel
theorem kty4_ok : ∀ k, k < 6 → parseFieldDescriptor (kt4 k).2.2.1 = some (kty4 k) := by decide +kernel
def kix4 : Nat → Nat := fun k => [280, 282, 284, 286, 288, 290].getD k 0
theorem kin4 : ∀ w ∈ u_ws "PoetFines$Parser" kt4 6, w ∈ kG := kG_all kix4 (by decide +kernel) (by decide +kernel)
def kt5 : u_T := fun k => match k with
  | 0 => ("PoetFines$Rules", "code", "[I", true)
  | 1 => ("PoetFines$Rules", "written", "I", false)
  | 2 => ("PoetFines$Rules", "from", "[I", true)
  | 3 => ("PoetFines$Rules", "to", "[I", true)
  | _ => ("PoetFines$Rules", "stack", "[I", true)
def kty5 : Nat → FieldType := fun k => match k with
  | 0 => .array .int
  | 1 => .int
  | 2 => .array .int
  | 3 => .array .int
  | _ => .array .int
theorem knm5 : ∀ a, a < 5 → ∀ b, b < 5 → a ≠ b → (kt5 a).2.1 ≠ (kt5 b).2.1 := by decide +kernel
theorem kty5_ok : ∀ k, k < 5 → parseFieldDescriptor (kt5 k).2.2.1 = some (kty5 k) := by decide +kernel
def kix5 : Nat → Nat := fun k => [165, 167, 169, 171, 173].getD k 0
theorem kin5 : ∀ w ∈ u_ws "PoetFines$Rules" kt5 5, w ∈ kG := kG_all kix5 (by decide +kernel) (by decide +kernel)
def kt6 : u_T := fun k => match k with
  | 0 => ("PoetFines$Stage", "world", "LPoetFines$World;", true)
  | 1 => ("PoetFines$Stage", "tally", "LPoetFines$Tally;", true)
  | 2 => ("PoetFines$Stage", "law", "LPoetFines$Law;", true)
  | _ => ("PoetFines$Stage", "values", "[I", true)
def kty6 : Nat → FieldType := fun k => match k with
  | 0 => .object "PoetFines$World"
  | 1 => .object "PoetFines$Tally"
  | 2 => .object "PoetFines$Law"
  | _ => .array .int
theorem knm6 : ∀ a, a < 4 → ∀ b, b < 4 → a ≠ b → (kt6 a).2.1 ≠ (kt6 b).2.1 := by decide +kernel
theorem kty6_ok : ∀ k, k < 4 → parseFieldDescriptor (kt6 k).2.2.1 = some (kty6 k) := by decide +kernel
def kix6 : Nat → Nat := fun k => [394, 396, 398, 400].getD k 0
theorem kin6 : ∀ w ∈ u_ws "PoetFines$Stage" kt6 4, w ∈ kG := kG_all kix6 (by decide +kernel) (by decide +kernel)
def kt7 : u_T := fun k => match k with
  | 0 => ("PoetFines$Tally", "paid", "[I", true)
  | 1 => ("PoetFines$Tally", "earned", "[I", true)
  | 2 => ("PoetFines$Tally", "read", "[I", true)
  | 3 => ("PoetFines$Tally", "inches", "[I", true)
  | 4 => ("PoetFines$Tally", "allInches", "I", false)
  | 5 => ("PoetFines$Tally", "hits", "I", false)
  | 6 => ("PoetFines$Tally", "hitThisYear", "I", false)
  | 7 => ("PoetFines$Tally", "injured", "I", false)
  | 8 => ("PoetFines$Tally", "deepest", "I", false)
  | _ => ("PoetFines$Tally", "quiet", "I", false)
def kty7 : Nat → FieldType := fun k => match k with
  | 0 => .array .int
  | 1 => .array .int
  | 2 => .array .int
  | 3 => .array .int
  | 4 => .int
  | 5 => .int
  | 6 => .int
  | 7 => .int
  | 8 => .int
  | _ => .int
theorem knm7 : ∀ a, a < 10 → ∀ b, b < 10 → a ≠ b → (kt7 a).2.1 ≠ (kt7 b).2.1 := by decide +kernel
theorem kty7_ok : ∀ k, k < 10 → parseFieldDescriptor (kt7 k).2.2.1 = some (kty7 k) := by decide +kernel
def kix7 : Nat → Nat := fun k => [367, 369, 371, 373, 375, 377, 379, 381, 383, 385].getD k 0
theorem kin7 : ∀ w ∈ u_ws "PoetFines$Tally" kt7 10, w ∈ kG := kG_all kix7 (by decide +kernel) (by decide +kernel)
def kt8 : u_T := fun k => match k with
  | 0 => ("PoetFines$Tokens", "tape", "[B", true)
  | 1 => ("PoetFines$Tokens", "kinds", "[I", true)
  | 2 => ("PoetFines$Tokens", "starts", "[I", true)
  | 3 => ("PoetFines$Tokens", "lengths", "[I", true)
  | 4 => ("PoetFines$Tokens", "meanings", "[I", true)
  | 5 => ("PoetFines$Tokens", "many", "I", false)
  | _ => ("PoetFines$Tokens", "at", "I", false)
def kty8 : Nat → FieldType := fun k => match k with
  | 0 => .array .byte
  | 1 => .array .int
  | 2 => .array .int
  | 3 => .array .int
  | 4 => .array .int
  | 5 => .int
  | _ => .int
theorem knm8 : ∀ a, a < 7 → ∀ b, b < 7 → a ≠ b → (kt8 a).2.1 ≠ (kt8 b).2.1 := by decide +kernel
theorem kty8_ok : ∀ k, k < 7 → parseFieldDescriptor (kt8 k).2.2.1 = some (kty8 k) := by decide +kernel
def kix8 : Nat → Nat := fun k => [256, 258, 260, 262, 264, 266, 268].getD k 0
theorem kin8 : ∀ w ∈ u_ws "PoetFines$Tokens" kt8 7, w ∈ kG := kG_all kix8 (by decide +kernel) (by decide +kernel)
def kt9 : u_T := fun k => match k with
  | _ => ("PoetFines$World", "cells", "[I", true)
def kty9 : Nat → FieldType := fun k => match k with
  | _ => .array .int
theorem knm9 : ∀ a, a < 1 → ∀ b, b < 1 → a ≠ b → (kt9 a).2.1 ≠ (kt9 b).2.1 := by decide +kernel
theorem kty9_ok : ∀ k, k < 1 → parseFieldDescriptor (kt9 k).2.2.1 = some (kty9 k) := by decide +kernel
def kix9 : Nat → Nat := fun k => [240].getD k 0
theorem kin9 : ∀ w ∈ u_ws "PoetFines$World" kt9 1, w ∈ kG := kG_all kix9 (by decide +kernel) (by decide +kernel)
def kt10 : u_T := fun k => match k with
  | 0 => ("PoetFines", "tape", "[B", true)
  | 1 => ("PoetFines", "taped", "I", false)
  | 2 => ("PoetFines", "faultAt", "I", false)
  | 3 => ("PoetFines", "refused", "[I", true)
  | 4 => ("PoetFines", "law", "LPoetFines$Law;", true)
  | 5 => ("PoetFines", "parser", "LPoetFines$Parser;", true)
  | 6 => ("PoetFines", "chronicle", "LPoetFines$Chronicle;", true)
  | 7 => ("PoetFines", "kept", "LPoetFines$Chronicle;", true)
  | 8 => ("PoetFines", "isKept", "Z", false)
  | 9 => ("PoetFines", "stage", "LPoetFines$Stage;", true)
  | 10 => ("PoetFines", "court", "LPoetFines$Court;", true)
  | _ => ("PoetFines", "oracle", "LPoetFines$Oracle;", true)
def kty10 : Nat → FieldType := fun k => match k with
  | 0 => .array .byte
  | 1 => .int
  | 2 => .int
  | 3 => .array .int
  | 4 => .object "PoetFines$Law"
  | 5 => .object "PoetFines$Parser"
  | 6 => .object "PoetFines$Chronicle"
  | 7 => .object "PoetFines$Chronicle"
  | 8 => .boolean
  | 9 => .object "PoetFines$Stage"
  | 10 => .object "PoetFines$Court"
  | _ => .object "PoetFines$Oracle"
theorem knm10 : ∀ a, a < 12 → ∀ b, b < 12 → a ≠ b → (kt10 a).2.1 ≠ (kt10 b).2.1 := by decide +kernel
theorem kty10_ok : ∀ k, k < 12 → parseFieldDescriptor (kt10 k).2.2.1 = some (kty10 k) := by decide +kernel
def kix10 : Nat → Nat := fun k => [503, 505, 507, 509, 511, 513, 515, 517, 519, 521, 523, 525].getD k 0
theorem kin10 : ∀ w ∈ u_ws "PoetFines" kt10 12, w ∈ kG := kG_all kix10 (by decide +kernel) (by decide +kernel)
def kt11 : u_T := fun k => match k with
  | 0 => ("PoetFinesModel", "thrown", "I", false)
  | 1 => ("PoetFinesModel", "topics", "I", false)
  | 2 => ("PoetFinesModel", "people", "I", false)
  | 3 => ("PoetFinesModel", "poets", "I", false)
  | 4 => ("PoetFinesModel", "hitsAt", "I", false)
  | 5 => ("PoetFinesModel", "finesAt", "I", false)
  | 6 => ("PoetFinesModel", "buysAt", "I", false)
  | 7 => ("PoetFinesModel", "code", "[I", true)
  | 8 => ("PoetFinesModel", "tape", "[I", true)
  | 9 => ("PoetFinesModel", "taped", "I", false)
  | 10 => ("PoetFinesModel", "faultKind", "I", false)
  | 11 => ("PoetFinesModel", "faultPlace", "I", false)
  | 12 => ("PoetFinesModel", "refused", "[I", true)
  | 13 => ("PoetFinesModel", "long1", "I", false)
  | 14 => ("PoetFinesModel", "next0", "I", false)
  | 15 => ("PoetFinesModel", "sort", "I", false)
  | 16 => ("PoetFinesModel", "place", "I", false)
  | 17 => ("PoetFinesModel", "long0", "I", false)
  | 18 => ("PoetFinesModel", "value", "I", false)
  | 19 => ("PoetFinesModel", "sign", "I", false)
  | 20 => ("PoetFinesModel", "word", "J", false)
  | 21 => ("PoetFinesModel", "newTopics", "I", false)
  | 22 => ("PoetFinesModel", "newPeople", "I", false)
  | 23 => ("PoetFinesModel", "newPoets", "I", false)
  | 24 => ("PoetFinesModel", "newHitsAt", "I", false)
  | 25 => ("PoetFinesModel", "newFinesAt", "I", false)
  | 26 => ("PoetFinesModel", "newBuysAt", "I", false)
  | 27 => ("PoetFinesModel", "top", "I", false)
  | 28 => ("PoetFinesModel", "firstValue", "I", false)
  | 29 => ("PoetFinesModel", "lastValue", "I", false)
  | 30 => ("PoetFinesModel", "waiting", "I", false)
  | 31 => ("PoetFinesModel", "depth", "I", false)
  | 32 => ("PoetFinesModel", "newRow", "[I", true)
  | 33 => ("PoetFinesModel", "readCode", "[I", true)
  | 34 => ("PoetFinesModel", "waits", "[I", true)
  | 35 => ("PoetFinesModel", "tested", "[Z", true)
  | 36 => ("PoetFinesModel", "rows", "[I", true)
  | 37 => ("PoetFinesModel", "kept0", "[I", true)
  | 38 => ("PoetFinesModel", "acts", "I", false)
  | 39 => ("PoetFinesModel", "paid", "[I", true)
  | 40 => ("PoetFinesModel", "earned", "[I", true)
  | 41 => ("PoetFinesModel", "read", "[I", true)
  | 42 => ("PoetFinesModel", "satOf", "[I", true)
  | 43 => ("PoetFinesModel", "intoBy", "[I", true)
  | 44 => ("PoetFinesModel", "inchesAll", "I", false)
  | 45 => ("PoetFinesModel", "deepest", "I", false)
  | 46 => ("PoetFinesModel", "told", "[I", true)
  | 47 => ("PoetFinesModel", "pile", "[I", true)
  | 48 => ("PoetFinesModel", "isAccident", "Z", false)
  | 49 => ("PoetFinesModel", "hitOnes", "I", false)
  | 50 => ("PoetFinesModel", "hitMany", "I", false)
  | 51 => ("PoetFinesModel", "hitBy", "[I", true)
  | 52 => ("PoetFinesModel", "most0", "[I", true)
  | 53 => ("PoetFinesModel", "feltMany", "I", false)
  | 54 => ("PoetFinesModel", "felt", "[I", true)
  | 55 => ("PoetFinesModel", "soon", "[I", true)
  | 56 => ("PoetFinesModel", "soonAll", "[I", true)
  | 57 => ("PoetFinesModel", "its0", "I", false)
  | 58 => ("PoetFinesModel", "hasImage", "Z", false)
  | 59 => ("PoetFinesModel", "imageActs", "I", false)
  | 60 => ("PoetFinesModel", "imageFelt", "I", false)
  | 61 => ("PoetFinesModel", "imageRow", "[I", true)
  | 62 => ("PoetFinesModel", "imageKept", "[I", true)
  | _ => ("PoetFinesModel", "imageFeels", "[I", true)
def kty11 : Nat → FieldType := fun k => match k with
  | 0 => .int
  | 1 => .int
  | 2 => .int
  | 3 => .int
  | 4 => .int
  | 5 => .int
  | 6 => .int
  | 7 => .array .int
  | 8 => .array .int
  | 9 => .int
  | 10 => .int
  | 11 => .int
  | 12 => .array .int
  | 13 => .int
  | 14 => .int
  | 15 => .int
  | 16 => .int
  | 17 => .int
  | 18 => .int
  | 19 => .int
  | 20 => .long
  | 21 => .int
  | 22 => .int
  | 23 => .int
  | 24 => .int
  | 25 => .int
  | 26 => .int
  | 27 => .int
  | 28 => .int
  | 29 => .int
  | 30 => .int
  | 31 => .int
  | 32 => .array .int
  | 33 => .array .int
  | 34 => .array .int
  | 35 => .array .boolean
  | 36 => .array .int
  | 37 => .array .int
  | 38 => .int
  | 39 => .array .int
  | 40 => .array .int
  | 41 => .array .int
  | 42 => .array .int
  | 43 => .array .int
  | 44 => .int
  | 45 => .int
  | 46 => .array .int
  | 47 => .array .int
  | 48 => .boolean
  | 49 => .int
  | 50 => .int
  | 51 => .array .int
  | 52 => .array .int
  | 53 => .int
  | 54 => .array .int
  | 55 => .array .int
  | 56 => .array .int
  | 57 => .int
  | 58 => .boolean
  | 59 => .int
  | 60 => .int
  | 61 => .array .int
  | 62 => .array .int
  | _ => .array .int
theorem knm11 : ∀ a, a < 64 → ∀ b, b < 64 → a ≠ b → (kt11 a).2.1 ≠ (kt11 b).2.1 := by decide +kernel
theorem kty11_ok : ∀ k, k < 64 → parseFieldDescriptor (kt11 k).2.2.1 = some (kty11 k) := by decide +kernel
def kix11 : Nat → Nat := fun k => [1624, 1626, 1628, 1630, 1632, 1634, 1636, 1638, 1640, 1642, 1644, 1646, 1648, 1650, 1652, 1654, 1656, 1658, 1660, 1662, 1664, 1666, 1668, 1670, 1672, 1674, 1676, 1678, 1680, 1682, 1684, 1686, 1688, 1690, 1692, 1694, 1696, 1698, 1700, 1702, 1704, 1706, 1708, 1710, 1712, 1714, 1716, 1718, 1720, 1722, 1724, 1726, 1728, 1730, 1732, 1734, 1736, 1738, 1740, 1742, 1744, 1746, 1748, 1750].getD k 0
theorem kin11 : ∀ w ∈ u_ws "PoetFinesModel" kt11 64, w ∈ kG := kG_all kix11 (by decide +kernel) (by decide +kernel)
def kcl : List vw_C := [("PoetFines$Chronicle", kt0, 8), ("PoetFines$Court", kt1, 9), ("PoetFines$Law", kt2, 7), ("PoetFines$Oracle", kt3, 12), ("PoetFines$Parser", kt4, 6), ("PoetFines$Rules", kt5, 5), ("PoetFines$Stage", kt6, 4), ("PoetFines$Tally", kt7, 10), ("PoetFines$Tokens", kt8, 7), ("PoetFines$World", kt9, 1), ("PoetFines", kt10, 12), ("PoetFinesModel", kt11, 64)]
def yC : List kD := [.inr (10, [.inr 1, .inl false, .inl false, .inr 2, .inr 3, .inr 12, .inr 29, .inr 36, .inl false, .inr 43, .inr 50, .inr 57]),
  .inl (1, 700),
  .inl (0, 3),
  .inr (2, [.inl false, .inl false, .inl false, .inr 4, .inr 5, .inr 6, .inr 7]),
  .inl (0, 4),
  .inl (0, 32),
  .inl (0, 24),
  .inr (5, [.inr 8, .inl false, .inr 9, .inr 10, .inr 11]),
  .inl (0, 700),
  .inl (0, 3),
  .inl (0, 3),
  .inl (0, 64),
  .inr (4, [.inr 13, .inr 22, .inl false, .inl false, .inl false, .inr 24]),
  .inr (2, [.inl false, .inl false, .inl false, .inr 14, .inr 15, .inr 16, .inr 17]),
  .inl (0, 4),
  .inl (0, 32),
  .inl (0, 24),
  .inr (5, [.inr 18, .inl false, .inr 19, .inr 20, .inr 21]),
  .inl (0, 700),
  .inl (0, 3),
  .inl (0, 3),
  .inl (0, 64),
  .inr (9, [.inr 23]),
  .inl (0, 85),
  .inr (8, [.inr 1, .inr 25, .inr 26, .inr 27, .inr 28, .inl false, .inl false]),
  .inl (0, 701),
  .inl (0, 701),
  .inl (0, 701),
  .inl (0, 701),
  .inr (0, [.inr 30, .inl false, .inr 32, .inl false, .inl false, .inr 33, .inr 34, .inr 35]),
  .inr (9, [.inr 31]),
  .inl (0, 85),
  .inl (0, 3400),
  .inl (0, 8),
  .inl (0, 8),
  .inl (0, 8),
  .inr (0, [.inr 37, .inl false, .inr 39, .inl false, .inl false, .inr 40, .inr 41, .inr 42]),
  .inr (9, [.inr 38]),
  .inl (0, 85),
  .inl (0, 3400),
  .inl (0, 8),
  .inl (0, 8),
  .inl (0, 8),
  .inr (6, [.inr 30, .inr 44, .inr 3, .inr 49]),
  .inr (7, [.inr 45, .inr 46, .inr 47, .inr 48, .inl false, .inl false, .inl false, .inl false, .inl false, .inl false]),
  .inl (0, 4),
  .inl (0, 4),
  .inl (0, 4),
  .inl (0, 32),
  .inl (0, 8),
  .inr (1, [.inr 3, .inr 43, .inr 51, .inr 52, .inr 53, .inr 54, .inr 55, .inr 56, .inl false]),
  .inl (0, 6),
  .inl (0, 6),
  .inl (0, 8),
  .inl (0, 32),
  .inl (0, 4),
  .inl (0, 4),
  .inr (3, [.inr 58, .inr 65, .inl false, .inl false, .inr 3, .inr 29, .inr 64, .inr 60, .inr 61, .inr 62, .inr 63, .inl false]),
  .inr (9, [.inr 59]),
  .inl (0, 85),
  .inl (0, 8),
  .inl (3, 16),
  .inl (0, 4),
  .inl (0, 4),
  .inr (6, [.inr 58, .inr 65, .inr 3, .inr 70]),
  .inr (7, [.inr 66, .inr 67, .inr 68, .inr 69, .inl false, .inl false, .inl false, .inl false, .inl false, .inl false]),
  .inl (0, 4),
  .inl (0, 4),
  .inl (0, 4),
  .inl (0, 32),
  .inl (0, 8)]
def yM : List kD := [.inr (11, [.inl false, .inl false, .inl false, .inl false, .inl false, .inl false, .inl false, .inr 1, .inr 2, .inl false, .inl false, .inl false, .inr 3, .inl false, .inl false, .inl false, .inl false, .inl false, .inl false, .inl false, .inl true, .inl false, .inl false, .inl false, .inl false, .inl false, .inl false, .inl false, .inl false, .inl false, .inl false, .inl false, .inr 4, .inr 5, .inr 6, .inr 7, .inr 8, .inr 9, .inl false, .inr 10, .inr 11, .inr 12, .inr 13, .inr 14, .inl false, .inl false, .inr 15, .inr 16, .inl false, .inl false, .inl false, .inr 17, .inr 18, .inl false, .inr 19, .inr 20, .inr 21, .inl false, .inl false, .inl false, .inl false, .inr 22, .inr 23, .inr 24]),
  .inl (0, 1400),
  .inl (0, 700),
  .inl (0, 3),
  .inl (0, 145),
  .inl (0, 1400),
  .inl (0, 950),
  .inl (2, 9),
  .inl (0, 290),
  .inl (0, 5800),
  .inl (0, 4),
  .inl (0, 4),
  .inl (0, 4),
  .inl (0, 4),
  .inl (0, 32),
  .inl (0, 8),
  .inl (0, 950),
  .inl (0, 4),
  .inl (0, 1280),
  .inl (0, 24),
  .inl (0, 8),
  .inl (0, 2304),
  .inl (0, 145),
  .inl (0, 5800),
  .inl (0, 24)]
