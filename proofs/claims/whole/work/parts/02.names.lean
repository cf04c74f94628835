/-! names: classes, tables of their fields; the words that stay good in every call -/
def R_BB : String := "BakedBefore"
def F_BB : u_T := fun k => match k with
  | 0 => ("BakedBefore", "now", "LBakedBefore$Stand;", true)
  | 1 => ("BakedBefore", "kept", "LBakedBefore$Stand;", true)
  | 2 => ("BakedBefore", "reade\x72", "LBakedBefore$Reader;", true)
  | 3 => ("BakedBefore", "kilns", "[LBakedBefore$Kiln;", true)
  | 4 => ("BakedBefore", "blank", "LBakedBefore$Kiln;", true)
  | 5 => ("BakedBefore", "bake\x72", "LBakedBefore$Baker;", true)
  | 6 => ("BakedBefore", "aske\x72", "LBakedBefore$Asker;", true)
  | 7 => ("BakedBefore", "search", "LBakedBefore$Search;", true)
  | 8 => ("BakedBefore", "acts", "LBakedBefore$Acts;", true)
  | 9 => ("BakedBefore", "tapes", "LBakedBefore$Tapes;", true)
  | 10 => ("BakedBefore", "kilnCount", "I", false)
  | _ => ("BakedBefore", "imaged", "Z", false)
def t_BB : Nat → FieldType := fun k => match k with
  | 0 => (.object "BakedBefore$Stand")
  | 1 => (.object "BakedBefore$Stand")
  | 2 => (.object "BakedBefore$Reade\x72")
  | 3 => (.array (.object "BakedBefore$Kiln"))
  | 4 => (.object "BakedBefore$Kiln")
  | 5 => (.object "BakedBefore$Bake\x72")
  | 6 => (.object "BakedBefore$Aske\x72")
  | 7 => (.object "BakedBefore$Search")
  | 8 => (.object "BakedBefore$Acts")
  | 9 => (.object "BakedBefore$Tapes")
  | 10 => .int
  | _ => .boolean
def R_Acts : String := "BakedBefore$Acts"
def F_Acts : u_T := fun k => match k with
  | 0 => ("BakedBefore$Acts", "bodies", "[I", true)
  | _ => ("BakedBefore$Acts", "ran", "I", false)
def t_Acts : Nat → FieldType := fun k => match k with
  | 0 => (.array .int)
  | _ => .int
def R_Asker : String := "BakedBefore$Aske\x72"
def F_Asker : u_T := fun k => match k with
  | 0 => ("BakedBefore$Aske\x72", "now", "LBakedBefore$Stand;", true)
  | 1 => ("BakedBefore$Aske\x72", "bake\x72", "LBakedBefore$Baker;", true)
  | 2 => ("BakedBefore$Aske\x72", "trial", "LBakedBefore$Oven;", true)
  | _ => ("BakedBefore$Aske\x72", "spoiledOf", "[I", true)
def t_Asker : Nat → FieldType := fun k => match k with
  | 0 => (.object "BakedBefore$Stand")
  | 1 => (.object "BakedBefore$Bake\x72")
  | 2 => (.object "BakedBefore$Oven")
  | _ => (.array .int)
def R_Baker : String := "BakedBefore$Bake\x72"
def F_Baker : u_T := fun k => match k with
  | _ => ("BakedBefore$Bake\x72", "kiln", "LBakedBefore$Kiln;", false)
def t_Baker : Nat → FieldType := fun k => match k with
  | _ => (.object "BakedBefore$Kiln")
def R_Book : String := "BakedBefore$Book"
def F_Book : u_T := fun k => match k with
  | 0 => ("BakedBefore$Book", "loaves", "[I", true)
  | 1 => ("BakedBefore$Book", "spoiled", "[Z", true)
  | _ => ("BakedBefore$Book", "rows", "I", false)
def t_Book : Nat → FieldType := fun k => match k with
  | 0 => (.array .int)
  | 1 => (.array .boolean)
  | _ => .int
def R_Kiln : String := "BakedBefore$Kiln"
def F_Kiln : u_T := fun k => match k with
  | 0 => ("BakedBefore$Kiln", "words", "[I", true)
  | 1 => ("BakedBefore$Kiln", "numbers", "[I", true)
  | 2 => ("BakedBefore$Kiln", "ends", "[I", true)
  | 3 => ("BakedBefore$Kiln", "steps", "[I", true)
  | 4 => ("BakedBefore$Kiln", "letters", "[I", true)
  | 5 => ("BakedBefore$Kiln", "clauses", "I", false)
  | 6 => ("BakedBefore$Kiln", "stepCount", "I", false)
  | 7 => ("BakedBefore$Kiln", "takeClauses", "I", false)
  | _ => ("BakedBefore$Kiln", "coldPart", "I", false)
def t_Kiln : Nat → FieldType := fun k => match k with
  | 0 => (.array .int)
  | 1 => (.array .int)
  | 2 => (.array .int)
  | 3 => (.array .int)
  | 4 => (.array .int)
  | 5 => .int
  | 6 => .int
  | 7 => .int
  | _ => .int
def R_Loaf : String := "BakedBefore$Loaf"
def F_Loaf : u_T := fun k => match k with
  | 0 => ("BakedBefore$Loaf", "numbe\x72", "I", true)
  | 1 => ("BakedBefore$Loaf", "gives", "[I", true)
  | 2 => ("BakedBefore$Loaf", "bears", "[I", true)
  | 3 => ("BakedBefore$Loaf", "kind", "I", false)
  | _ => ("BakedBefore$Loaf", "v", "I", false)
def t_Loaf : Nat → FieldType := fun k => match k with
  | 0 => .int
  | 1 => (.array .int)
  | 2 => (.array .int)
  | 3 => .int
  | _ => .int
def R_Oven : String := "BakedBefore$Oven"
def F_Oven : u_T := fun k => match k with
  | 0 => ("BakedBefore$Oven", "held", "[I", true)
  | _ => ("BakedBefore$Oven", "hou\x72", "I", false)
def t_Oven : Nat → FieldType := fun k => match k with
  | 0 => (.array .int)
  | _ => .int
def R_Reader : String := "BakedBefore$Reade\x72"
def F_Reader : u_T := fun k => match k with
  | 0 => ("BakedBefore$Reade\x72", "text", "[I", true)
  | 1 => ("BakedBefore$Reade\x72", "length", "I", false)
  | 2 => ("BakedBefore$Reade\x72", "at", "I", false)
  | 3 => ("BakedBefore$Reade\x72", "numbe\x72", "I", false)
  | _ => ("BakedBefore$Reade\x72", "kiln", "LBakedBefore$Kiln;", false)
def t_Reader : Nat → FieldType := fun k => match k with
  | 0 => (.array .int)
  | 1 => .int
  | 2 => .int
  | 3 => .int
  | _ => (.object "BakedBefore$Kiln")
def R_Search : String := "BakedBefore$Search"
def F_Search : u_T := fun k => match k with
  | 0 => ("BakedBefore$Search", "now", "LBakedBefore$Stand;", true)
  | 1 => ("BakedBefore$Search", "bake\x72", "LBakedBefore$Baker;", true)
  | 2 => ("BakedBefore$Search", "ovens", "[LBakedBefore$Oven;", true)
  | 3 => ("BakedBefore$Search", "row", "[I", true)
  | 4 => ("BakedBefore$Search", "best", "[I", true)
  | 5 => ("BakedBefore$Search", "length", "I", false)
  | _ => ("BakedBefore$Search", "fewest", "I", false)
def t_Search : Nat → FieldType := fun k => match k with
  | 0 => (.object "BakedBefore$Stand")
  | 1 => (.object "BakedBefore$Bake\x72")
  | 2 => (.array (.object "BakedBefore$Oven"))
  | 3 => (.array .int)
  | 4 => (.array .int)
  | 5 => .int
  | _ => .int
def R_Stand : String := "BakedBefore$Stand"
def F_Stand : u_T := fun k => match k with
  | 0 => ("BakedBefore$Stand", "loaves", "[LBakedBefore$Loaf;", true)
  | 1 => ("BakedBefore$Stand", "oven", "LBakedBefore$Oven;", true)
  | 2 => ("BakedBefore$Stand", "book", "LBakedBefore$Book;", true)
  | 3 => ("BakedBefore$Stand", "many", "I", false)
  | _ => ("BakedBefore$Stand", "holding", "I", false)
def t_Stand : Nat → FieldType := fun k => match k with
  | 0 => (.array (.object "BakedBefore$Loaf"))
  | 1 => (.object "BakedBefore$Oven")
  | 2 => (.object "BakedBefore$Book")
  | 3 => .int
  | _ => .int
def R_Tapes : String := "BakedBefore$Tapes"
def F_Tapes : u_T := fun k => match k with
  | 0 => ("BakedBefore$Tapes", "rows", "[[J", true)
  | 1 => ("BakedBefore$Tapes", "sorts", "[I", true)
  | _ => ("BakedBefore$Tapes", "lengths", "[I", true)
def t_Tapes : Nat → FieldType := fun k => match k with
  | 0 => (.array (.array .long))
  | 1 => (.array .int)
  | _ => (.array .int)
def R_Model : String := "BakedBeforeModel"
def F_Model : u_T := fun k => match k with
  | 0 => ("BakedBeforeModel", "s", "[I", true)
  | 1 => ("BakedBeforeModel", "image", "[I", true)
  | 2 => ("BakedBeforeModel", "mind", "[I", true)
  | 3 => ("BakedBeforeModel", "hasImage", "Z", false)
  | 4 => ("BakedBeforeModel", "text", "[I", true)
  | 5 => ("BakedBeforeModel", "kilnText", "[I", true)
  | 6 => ("BakedBeforeModel", "kilnLong", "[I", true)
  | 7 => ("BakedBeforeModel", "texted", "I", false)
  | 8 => ("BakedBeforeModel", "kilns", "I", false)
  | 9 => ("BakedBeforeModel", "base", "I", false)
  | 10 => ("BakedBeforeModel", "end", "I", false)
  | 11 => ("BakedBeforeModel", "at", "I", false)
  | 12 => ("BakedBeforeModel", "loaf", "I", false)
  | 13 => ("BakedBeforeModel", "taste", "I", false)
  | 14 => ("BakedBeforeModel", "wrong", "Z", false)
  | 15 => ("BakedBeforeModel", "isFee", "Z", false)
  | 16 => ("BakedBeforeModel", "part", "I", false)
  | 17 => ("BakedBeforeModel", "parts", "I", false)
  | 18 => ("BakedBeforeModel", "more", "I", false)
  | 19 => ("BakedBeforeModel", "cold", "I", false)
  | 20 => ("BakedBeforeModel", "fee", "I", false)
  | 21 => ("BakedBeforeModel", "held", "[I", true)
  | 22 => ("BakedBeforeModel", "line", "[I", true)
  | 23 => ("BakedBeforeModel", "best", "[I", true)
  | 24 => ("BakedBeforeModel", "fewest", "I", false)
  | 25 => ("BakedBeforeModel", "tapeSort", "[I", true)
  | 26 => ("BakedBeforeModel", "tapeLong", "[I", true)
  | 27 => ("BakedBeforeModel", "item", "[J", true)
  | 28 => ("BakedBeforeModel", "trace", "[I", true)
  | 29 => ("BakedBeforeModel", "ran", "I", false)
  | _ => ("BakedBeforeModel", "own", "I", false)
def t_Model : Nat → FieldType := fun k => match k with
  | 0 => (.array .int)
  | 1 => (.array .int)
  | 2 => (.array .int)
  | 3 => .boolean
  | 4 => (.array .int)
  | 5 => (.array .int)
  | 6 => (.array .int)
  | 7 => .int
  | 8 => .int
  | 9 => .int
  | 10 => .int
  | 11 => .int
  | 12 => .int
  | 13 => .int
  | 14 => .boolean
  | 15 => .boolean
  | 16 => .int
  | 17 => .int
  | 18 => .int
  | 19 => .int
  | 20 => .int
  | 21 => (.array .int)
  | 22 => (.array .int)
  | 23 => (.array .int)
  | 24 => .int
  | 25 => (.array .int)
  | 26 => (.array .int)
  | 27 => (.array .long)
  | 28 => (.array .int)
  | 29 => .int
  | _ => .int
abbrev zcl : List vw_C := [(R_BB, F_BB, 12), (R_Acts, F_Acts, 2), (R_Asker, F_Asker, 4), (R_Baker, F_Baker, 1), (R_Book, F_Book, 3), (R_Kiln, F_Kiln, 9), (R_Loaf, F_Loaf, 5), (R_Oven, F_Oven, 2), (R_Reader, F_Reader, 5), (R_Search, F_Search, 7), (R_Stand, F_Stand, 5), (R_Tapes, F_Tapes, 3), (R_Model, F_Model, 31)]
def zW0 : List Cond := lw_tbl.filter goodWord
theorem n_BB : ∀ a, a < 12 → ∀ b, b < 12 → a ≠ b → (F_BB a).2.1 ≠ (F_BB b).2.1 := by decide +kernel
theorem t_BB_ok : ∀ k, k < 12 → parseFieldDescriptor (F_BB k).2.2.1 = some (t_BB k) := by decide +kernel
theorem i_BB : ∀ w ∈ u_ws R_BB F_BB 12, w ∈ zW0 := by decide +kernel
theorem n_Acts : ∀ a, a < 2 → ∀ b, b < 2 → a ≠ b → (F_Acts a).2.1 ≠ (F_Acts b).2.1 := by decide +kernel
theorem t_Acts_ok : ∀ k, k < 2 → parseFieldDescriptor (F_Acts k).2.2.1 = some (t_Acts k) := by decide +kernel
theorem i_Acts : ∀ w ∈ u_ws R_Acts F_Acts 2, w ∈ zW0 := by decide +kernel
theorem n_Asker : ∀ a, a < 4 → ∀ b, b < 4 → a ≠ b → (F_Asker a).2.1 ≠ (F_Asker b).2.1 := by decide +kernel
theorem t_Asker_ok : ∀ k, k < 4 → parseFieldDescriptor (F_Asker k).2.2.1 = some (t_Asker k) := by decide +kernel
theorem i_Asker : ∀ w ∈ u_ws R_Asker F_Asker 4, w ∈ zW0 := by decide +kernel
theorem n_Baker : ∀ a, a < 1 → ∀ b, b < 1 → a ≠ b → (F_Baker a).2.1 ≠ (F_Baker b).2.1 := by decide +kernel
theorem t_Baker_ok : ∀ k, k < 1 → parseFieldDescriptor (F_Baker k).2.2.1 = some (t_Baker k) := by decide +kernel
theorem i_Baker : ∀ w ∈ u_ws R_Baker F_Baker 1, w ∈ zW0 := by decide +kernel
theorem n_Book : ∀ a, a < 3 → ∀ b, b < 3 → a ≠ b → (F_Book a).2.1 ≠ (F_Book b).2.1 := by decide +kernel
theorem t_Book_ok : ∀ k, k < 3 → parseFieldDescriptor (F_Book k).2.2.1 = some (t_Book k) := by decide +kernel
theorem i_Book : ∀ w ∈ u_ws R_Book F_Book 3, w ∈ zW0 := by decide +kernel
theorem n_Kiln : ∀ a, a < 9 → ∀ b, b < 9 → a ≠ b → (F_Kiln a).2.1 ≠ (F_Kiln b).2.1 := by decide +kernel
theorem t_Kiln_ok : ∀ k, k < 9 → parseFieldDescriptor (F_Kiln k).2.2.1 = some (t_Kiln k) := by decide +kernel
theorem i_Kiln : ∀ w ∈ u_ws R_Kiln F_Kiln 9, w ∈ zW0 := by decide +kernel
theorem n_Loaf : ∀ a, a < 5 → ∀ b, b < 5 → a ≠ b → (F_Loaf a).2.1 ≠ (F_Loaf b).2.1 := by decide +kernel
theorem t_Loaf_ok : ∀ k, k < 5 → parseFieldDescriptor (F_Loaf k).2.2.1 = some (t_Loaf k) := by decide +kernel
theorem i_Loaf : ∀ w ∈ u_ws R_Loaf F_Loaf 5, w ∈ zW0 := by decide +kernel
theorem n_Oven : ∀ a, a < 2 → ∀ b, b < 2 → a ≠ b → (F_Oven a).2.1 ≠ (F_Oven b).2.1 := by decide +kernel
theorem t_Oven_ok : ∀ k, k < 2 → parseFieldDescriptor (F_Oven k).2.2.1 = some (t_Oven k) := by decide +kernel
theorem i_Oven : ∀ w ∈ u_ws R_Oven F_Oven 2, w ∈ zW0 := by decide +kernel
theorem n_Reader : ∀ a, a < 5 → ∀ b, b < 5 → a ≠ b → (F_Reader a).2.1 ≠ (F_Reader b).2.1 := by decide +kernel
theorem t_Reader_ok : ∀ k, k < 5 → parseFieldDescriptor (F_Reader k).2.2.1 = some (t_Reader k) := by decide +kernel
theorem i_Reader : ∀ w ∈ u_ws R_Reader F_Reader 5, w ∈ zW0 := by decide +kernel
theorem n_Search : ∀ a, a < 7 → ∀ b, b < 7 → a ≠ b → (F_Search a).2.1 ≠ (F_Search b).2.1 := by decide +kernel
theorem t_Search_ok : ∀ k, k < 7 → parseFieldDescriptor (F_Search k).2.2.1 = some (t_Search k) := by decide +kernel
theorem i_Search : ∀ w ∈ u_ws R_Search F_Search 7, w ∈ zW0 := by decide +kernel
theorem n_Stand : ∀ a, a < 5 → ∀ b, b < 5 → a ≠ b → (F_Stand a).2.1 ≠ (F_Stand b).2.1 := by decide +kernel
theorem t_Stand_ok : ∀ k, k < 5 → parseFieldDescriptor (F_Stand k).2.2.1 = some (t_Stand k) := by decide +kernel
theorem i_Stand : ∀ w ∈ u_ws R_Stand F_Stand 5, w ∈ zW0 := by decide +kernel
theorem n_Tapes : ∀ a, a < 3 → ∀ b, b < 3 → a ≠ b → (F_Tapes a).2.1 ≠ (F_Tapes b).2.1 := by decide +kernel
theorem t_Tapes_ok : ∀ k, k < 3 → parseFieldDescriptor (F_Tapes k).2.2.1 = some (t_Tapes k) := by decide +kernel
theorem i_Tapes : ∀ w ∈ u_ws R_Tapes F_Tapes 3, w ∈ zW0 := by decide +kernel
theorem n_Model : ∀ a, a < 31 → ∀ b, b < 31 → a ≠ b → (F_Model a).2.1 ≠ (F_Model b).2.1 := by decide +kernel
theorem t_Model_ok : ∀ k, k < 31 → parseFieldDescriptor (F_Model k).2.2.1 = some (t_Model k) := by decide +kernel
theorem i_Model : ∀ w ∈ u_ws R_Model F_Model 31, w ∈ zW0 := by decide +kernel
