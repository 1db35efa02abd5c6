/-! Classes, fields, words, methods, links: written by gen/names.py out of the tables and the listing. -/
def zT : List Cond := lw_tbl.filter goodWord
theorem zT_of {w : Cond} (h : w ∈ tables_1) (hg : goodWord w = true) : w ∈ zT := List.mem_filter.mpr ⟨List.mem_append_right _ h, hg⟩
theorem zT_se {w : Cond} (h : w ∈ k2_sels lw_privs) (hg : goodWord w = true) : w ∈ zT := List.mem_filter.mpr ⟨List.mem_append_left _ h, hg⟩
theorem zT_good : ∀ w ∈ zT, (w.onTables && w.keeps) = true ∨ ∃ ty, w = .arrayClass ty := fun w h => good_of_word (List.mem_filter.mp h).2
theorem zT_p1 {w : Cond} (h : w ∈ tables_1_1) : w ∈ tables_1 := List.mem_append_left _ h
theorem zT_p2 {w : Cond} (h : w ∈ tables_1_2) : w ∈ tables_1 := List.mem_append_right _ (List.mem_append_left _ h)
theorem zT_p3 {w : Cond} (h : w ∈ tables_1_3) : w ∈ tables_1 := List.mem_append_right _ (List.mem_append_right _ (List.mem_append_left _ h))
theorem zT_p4 {w : Cond} (h : w ∈ tables_1_4) : w ∈ tables_1 := List.mem_append_right _ (List.mem_append_right _ (List.mem_append_right _ (List.mem_append_left _ h)))
theorem zT_p5 {w : Cond} (h : w ∈ tables_1_5) : w ∈ tables_1 := List.mem_append_right _ (List.mem_append_right _ (List.mem_append_right _ (List.mem_append_right _ (h))))
def RRow : String := "DepotServer$Row"
def TRow : u_T := fun k => match k with
  | 0 => ("DepotServer$Row", "chars", "[C", true)
  | _ => ("DepotServer$Row", "length", "I", false)
def RLine : String := "DepotServer$Line"
def TLine : u_T := fun k => match k with
  | 0 => ("DepotServer$Line", "left", "LDepotServer$Row;", true)
  | 1 => ("DepotServer$Line", "right", "LDepotServer$Row;", true)
  | _ => ("DepotServer$Line", "excludes", "Z", false)
def RCat : String := "DepotServer$Catalog"
def TCat : u_T := fun k => match k with
  | 0 => ("DepotServer$Catalog", "paths", "[LDepotServer$Row;", true)
  | 1 => ("DepotServer$Catalog", "lines", "[LDepotServer$Line;", true)
  | 2 => ("DepotServer$Catalog", "files", "I", false)
  | _ => ("DepotServer$Catalog", "lineCount", "I", false)
def RPl : String := "DepotServer$Places"
def TPl : u_T := fun k => match k with
  | 0 => ("DepotServer$Places", "rows", "[LDepotServer$Row;", true)
  | 1 => ("DepotServer$Places", "there", "[Z", true)
  | 2 => ("DepotServer$Places", "starts", "[I", true)
  | _ => ("DepotServer$Places", "ends", "[I", true)
def RRev : String := "DepotServer$Revision"
def TRev : u_T := fun k => match k with
  | 0 => ("DepotServer$Revision", "number", "I", true)
  | 1 => ("DepotServer$Revision", "change", "I", true)
  | 2 => ("DepotServer$Revision", "content", "I", true)
  | 3 => ("DepotServer$Revision", "deleted", "Z", true)
  | 4 => ("DepotServer$Revision", "exclusive", "Z", true)
  | _ => ("DepotServer$Revision", "previous", "LDepotServer$Revision;", true)
def RWork : String := "DepotServer$Work"
def TWork : u_T := fun k => match k with
  | 0 => ("DepotServer$Work", "have", "I", false)
  | 1 => ("DepotServer$Work", "text", "I", false)
  | 2 => ("DepotServer$Work", "kind", "I", false)
  | 3 => ("DepotServer$Work", "list", "I", false)
  | 4 => ("DepotServer$Work", "base", "I", false)
  | 5 => ("DepotServer$Work", "exclusive", "Z", false)
  | 6 => ("DepotServer$Work", "update", "I", false)
  | 7 => ("DepotServer$Work", "joinFile", "I", false)
  | 8 => ("DepotServer$Work", "joinRevision", "I", false)
  | 9 => ("DepotServer$Work", "creditFile", "I", false)
  | 10 => ("DepotServer$Work", "creditRevision", "I", false)
  | _ => ("DepotServer$Work", "creditCopy", "Z", false)
def RSta : String := "DepotServer$State"
def TSta : u_T := fun k => match k with
  | 0 => ("DepotServer$State", "slots", "[I", true)
  | 1 => ("DepotServer$State", "latest", "[LDepotServer$Revision;", true)
  | 2 => ("DepotServer$State", "revisions", "I", false)
  | 3 => ("DepotServer$State", "changes", "I", false)
  | 4 => ("DepotServer$State", "joins", "I", false)
  | 5 => ("DepotServer$State", "works", "[LDepotServer$Work;", true)
  | _ => ("DepotServer$State", "joinedRows", "[I", true)
def RJou : String := "DepotServer$Journal"
def TJou : u_T := fun k => match k with
  | 0 => ("DepotServer$Journal", "count", "I", false)
  | 1 => ("DepotServer$Journal", "kept", "I", false)
  | _ => ("DepotServer$Journal", "before", "[LDepotServer$State;", true)
def RD : String := "DepotServer"
def TD : u_T := fun k => match k with
  | 0 => ("DepotServer", "buffer", "LDepotServer$Row;", true)
  | 1 => ("DepotServer", "catalog", "LDepotServer$Catalog;", true)
  | 2 => ("DepotServer", "places", "LDepotServer$Places;", true)
  | 3 => ("DepotServer", "now", "LDepotServer$State;", true)
  | _ => ("DepotServer", "records", "LDepotServer$Journal;", true)
def RM : String := "DepotServerModel"
def TM : u_T := fun k => match k with
  | 0 => ("DepotServerModel", "typed", "I", false)
  | 1 => ("DepotServerModel", "buffer", "[C", true)
  | 2 => ("DepotServerModel", "files", "I", false)
  | 3 => ("DepotServerModel", "path", "[C", true)
  | 4 => ("DepotServerModel", "pathLength", "[I", true)
  | 5 => ("DepotServerModel", "lines", "I", false)
  | 6 => ("DepotServerModel", "left", "[C", true)
  | 7 => ("DepotServerModel", "right", "[C", true)
  | 8 => ("DepotServerModel", "leftLength", "[I", true)
  | 9 => ("DepotServerModel", "rightLength", "[I", true)
  | 10 => ("DepotServerModel", "known", "Z", false)
  | 11 => ("DepotServerModel", "place", "[C", true)
  | 12 => ("DepotServerModel", "placeLength", "[I", true)
  | 13 => ("DepotServerModel", "shown", "[Z", true)
  | 14 => ("DepotServerModel", "rowAt", "[I", true)
  | 15 => ("DepotServerModel", "rowLength", "[I", true)
  | 16 => ("DepotServerModel", "records", "I", false)
  | 17 => ("DepotServerModel", "kept", "I", false)
  | 18 => ("DepotServerModel", "act", "[I", true)
  | 19 => ("DepotServerModel", "argA", "[I", true)
  | 20 => ("DepotServerModel", "argB", "[I", true)
  | 21 => ("DepotServerModel", "argC", "[I", true)
  | 22 => ("DepotServerModel", "argD", "[I", true)
  | 23 => ("DepotServerModel", "view", "[I", true)
  | 24 => ("DepotServerModel", "revisions", "I", false)
  | 25 => ("DepotServerModel", "revFile", "[I", true)
  | 26 => ("DepotServerModel", "revChange", "[I", true)
  | 27 => ("DepotServerModel", "revContent", "[I", true)
  | 28 => ("DepotServerModel", "revDeleted", "[Z", true)
  | 29 => ("DepotServerModel", "revExclusive", "[Z", true)
  | 30 => ("DepotServerModel", "changes", "I", false)
  | 31 => ("DepotServerModel", "joins", "I", false)
  | 32 => ("DepotServerModel", "joined", "[I", true)
  | 33 => ("DepotServerModel", "have", "[I", true)
  | 34 => ("DepotServerModel", "text", "[I", true)
  | 35 => ("DepotServerModel", "kind", "[I", true)
  | 36 => ("DepotServerModel", "list", "[I", true)
  | 37 => ("DepotServerModel", "base", "[I", true)
  | 38 => ("DepotServerModel", "alone", "[Z", true)
  | 39 => ("DepotServerModel", "update", "[I", true)
  | 40 => ("DepotServerModel", "oweFile", "[I", true)
  | 41 => ("DepotServerModel", "oweRevision", "[I", true)
  | 42 => ("DepotServerModel", "creditFile", "[I", true)
  | 43 => ("DepotServerModel", "creditRevision", "[I", true)
  | _ => ("DepotServerModel", "copy", "[Z", true)
abbrev zCl : List vw_C := [(RRow, TRow, 2), (RLine, TLine, 3), (RCat, TCat, 4), (RPl, TPl, 4), (RRev, TRev, 6), (RWork, TWork, 12), (RSta, TSta, 7), (RJou, TJou, 3), (RD, TD, 5), (RM, TM, 45)]
def FRow : Nat → FieldType := fun k => match k with
  | 0 => .array (.char)
  | _ => .int
def FLine : Nat → FieldType := fun k => match k with
  | 0 => .object "DepotServer$Row"
  | 1 => .object "DepotServer$Row"
  | _ => .boolean
def FCat : Nat → FieldType := fun k => match k with
  | 0 => .array (.object "DepotServer$Row")
  | 1 => .array (.object "DepotServer$Line")
  | 2 => .int
  | _ => .int
def FPl : Nat → FieldType := fun k => match k with
  | 0 => .array (.object "DepotServer$Row")
  | 1 => .array (.boolean)
  | 2 => .array (.int)
  | _ => .array (.int)
def FRev : Nat → FieldType := fun k => match k with
  | 0 => .int
  | 1 => .int
  | 2 => .int
  | 3 => .boolean
  | 4 => .boolean
  | _ => .object "DepotServer$Revision"
def FWork : Nat → FieldType := fun k => match k with
  | 0 => .int
  | 1 => .int
  | 2 => .int
  | 3 => .int
  | 4 => .int
  | 5 => .boolean
  | 6 => .int
  | 7 => .int
  | 8 => .int
  | 9 => .int
  | 10 => .int
  | _ => .boolean
def FSta : Nat → FieldType := fun k => match k with
  | 0 => .array (.int)
  | 1 => .array (.object "DepotServer$Revision")
  | 2 => .int
  | 3 => .int
  | 4 => .int
  | 5 => .array (.object "DepotServer$Work")
  | _ => .array (.int)
def FJou : Nat → FieldType := fun k => match k with
  | 0 => .int
  | 1 => .int
  | _ => .array (.object "DepotServer$State")
def FD : Nat → FieldType := fun k => match k with
  | 0 => .object "DepotServer$Row"
  | 1 => .object "DepotServer$Catalog"
  | 2 => .object "DepotServer$Places"
  | 3 => .object "DepotServer$State"
  | _ => .object "DepotServer$Journal"
def FM : Nat → FieldType := fun k => match k with
  | 0 => .int
  | 1 => .array (.char)
  | 2 => .int
  | 3 => .array (.char)
  | 4 => .array (.int)
  | 5 => .int
  | 6 => .array (.char)
  | 7 => .array (.char)
  | 8 => .array (.int)
  | 9 => .array (.int)
  | 10 => .boolean
  | 11 => .array (.char)
  | 12 => .array (.int)
  | 13 => .array (.boolean)
  | 14 => .array (.int)
  | 15 => .array (.int)
  | 16 => .int
  | 17 => .int
  | 18 => .array (.int)
  | 19 => .array (.int)
  | 20 => .array (.int)
  | 21 => .array (.int)
  | 22 => .array (.int)
  | 23 => .array (.int)
  | 24 => .int
  | 25 => .array (.int)
  | 26 => .array (.int)
  | 27 => .array (.int)
  | 28 => .array (.boolean)
  | 29 => .array (.boolean)
  | 30 => .int
  | 31 => .int
  | 32 => .array (.int)
  | 33 => .array (.int)
  | 34 => .array (.int)
  | 35 => .array (.int)
  | 36 => .array (.int)
  | 37 => .array (.int)
  | 38 => .array (.boolean)
  | 39 => .array (.int)
  | 40 => .array (.int)
  | 41 => .array (.int)
  | 42 => .array (.int)
  | 43 => .array (.int)
  | _ => .array (.boolean)
def zft : Nat → Nat → FieldType := fun c => match c with
  | 0 => FRow
  | 1 => FLine
  | 2 => FCat
  | 3 => FPl
  | 4 => FRev
  | 5 => FWork
  | 6 => FSta
  | 7 => FJou
  | 8 => FD
  | _ => FM
def zTy : List FieldType := [.int, .char, .boolean, .object "DepotServer$Row", .object "DepotServer$Line", .object "DepotServer$Revision", .object "DepotServer$Work", .object "DepotServer$State"]
def zNF : List (String × Nat × String × String × String × String) := []
def zNM : List (String × Nat × MethodName × String) := [("DepotServer$Catalog", 26, ({ cls := "DepotServer$Line", name := "<init>", desc := "()V" } : Jvm.MethodName), "DepotServer"), ("DepotServer$State", 31, ({ cls := "DepotServer$Work", name := "<init>", desc := "()V" } : Jvm.MethodName), "DepotServer")]
def zAO : List String := ["DepotServer$Row", "DepotServer$Line", "DepotServer$Revision", "DepotServer$Work", "DepotServer$State"]
theorem lay_Row : ∀ w ∈ u_ws RRow TRow 2, w ∈ zT := by
  intro w hw
  obtain ⟨k, hk, rfl⟩ := List.mem_map.mp hw
  have hk := List.mem_range.mp hk
  match k, hk with
  | 0, _ => exact zT_of (zT_p1 (List.mem_of_getElem? (i := 29) rfl)) rfl
  | 1, _ => exact zT_of (zT_p1 (List.mem_of_getElem? (i := 31) rfl)) rfl
  | k + 2, h => exact absurd h (by omega)
theorem lay_Line : ∀ w ∈ u_ws RLine TLine 3, w ∈ zT := by
  intro w hw
  obtain ⟨k, hk, rfl⟩ := List.mem_map.mp hw
  have hk := List.mem_range.mp hk
  match k, hk with
  | 0, _ => exact zT_of (zT_p1 (List.mem_of_getElem? (i := 59) rfl)) rfl
  | 1, _ => exact zT_of (zT_p1 (List.mem_of_getElem? (i := 61) rfl)) rfl
  | 2, _ => exact zT_of (zT_p1 (List.mem_of_getElem? (i := 63) rfl)) rfl
  | k + 3, h => exact absurd h (by omega)
theorem lay_Cat : ∀ w ∈ u_ws RCat TCat 4, w ∈ zT := by
  intro w hw
  obtain ⟨k, hk, rfl⟩ := List.mem_map.mp hw
  have hk := List.mem_range.mp hk
  match k, hk with
  | 0, _ => exact zT_of (zT_p1 (List.mem_of_getElem? (i := 74) rfl)) rfl
  | 1, _ => exact zT_of (zT_p1 (List.mem_of_getElem? (i := 76) rfl)) rfl
  | 2, _ => exact zT_of (zT_p1 (List.mem_of_getElem? (i := 78) rfl)) rfl
  | 3, _ => exact zT_of (zT_p1 (List.mem_of_getElem? (i := 80) rfl)) rfl
  | k + 4, h => exact absurd h (by omega)
theorem lay_Pl : ∀ w ∈ u_ws RPl TPl 4, w ∈ zT := by
  intro w hw
  obtain ⟨k, hk, rfl⟩ := List.mem_map.mp hw
  have hk := List.mem_range.mp hk
  match k, hk with
  | 0, _ => exact zT_of (zT_p1 (List.mem_of_getElem? (i := 97) rfl)) rfl
  | 1, _ => exact zT_of (zT_p1 (List.mem_of_getElem? (i := 99) rfl)) rfl
  | 2, _ => exact zT_of (zT_p1 (List.mem_of_getElem? (i := 101) rfl)) rfl
  | 3, _ => exact zT_of (zT_p1 (List.mem_of_getElem? (i := 103) rfl)) rfl
  | k + 4, h => exact absurd h (by omega)
theorem lay_Rev : ∀ w ∈ u_ws RRev TRev 6, w ∈ zT := by
  intro w hw
  obtain ⟨k, hk, rfl⟩ := List.mem_map.mp hw
  have hk := List.mem_range.mp hk
  match k, hk with
  | 0, _ => exact zT_of (zT_p1 (List.mem_of_getElem? (i := 133) rfl)) rfl
  | 1, _ => exact zT_of (zT_p1 (List.mem_of_getElem? (i := 135) rfl)) rfl
  | 2, _ => exact zT_of (zT_p1 (List.mem_of_getElem? (i := 137) rfl)) rfl
  | 3, _ => exact zT_of (zT_p1 (List.mem_of_getElem? (i := 139) rfl)) rfl
  | 4, _ => exact zT_of (zT_p1 (List.mem_of_getElem? (i := 141) rfl)) rfl
  | 5, _ => exact zT_of (zT_p1 (List.mem_of_getElem? (i := 143) rfl)) rfl
  | k + 6, h => exact absurd h (by omega)
theorem lay_Work : ∀ w ∈ u_ws RWork TWork 12, w ∈ zT := by
  intro w hw
  obtain ⟨k, hk, rfl⟩ := List.mem_map.mp hw
  have hk := List.mem_range.mp hk
  match k, hk with
  | 0, _ => exact zT_of (zT_p1 (List.mem_of_getElem? (i := 175) rfl)) rfl
  | 1, _ => exact zT_of (zT_p1 (List.mem_of_getElem? (i := 177) rfl)) rfl
  | 2, _ => exact zT_of (zT_p1 (List.mem_of_getElem? (i := 179) rfl)) rfl
  | 3, _ => exact zT_of (zT_p1 (List.mem_of_getElem? (i := 181) rfl)) rfl
  | 4, _ => exact zT_of (zT_p1 (List.mem_of_getElem? (i := 183) rfl)) rfl
  | 5, _ => exact zT_of (zT_p1 (List.mem_of_getElem? (i := 185) rfl)) rfl
  | 6, _ => exact zT_of (zT_p1 (List.mem_of_getElem? (i := 187) rfl)) rfl
  | 7, _ => exact zT_of (zT_p1 (List.mem_of_getElem? (i := 189) rfl)) rfl
  | 8, _ => exact zT_of (zT_p1 (List.mem_of_getElem? (i := 191) rfl)) rfl
  | 9, _ => exact zT_of (zT_p1 (List.mem_of_getElem? (i := 193) rfl)) rfl
  | 10, _ => exact zT_of (zT_p1 (List.mem_of_getElem? (i := 195) rfl)) rfl
  | 11, _ => exact zT_of (zT_p1 (List.mem_of_getElem? (i := 197) rfl)) rfl
  | k + 12, h => exact absurd h (by omega)
theorem lay_Sta : ∀ w ∈ u_ws RSta TSta 7, w ∈ zT := by
  intro w hw
  obtain ⟨k, hk, rfl⟩ := List.mem_map.mp hw
  have hk := List.mem_range.mp hk
  match k, hk with
  | 0, _ => exact zT_of (zT_p1 (List.mem_of_getElem? (i := 213) rfl)) rfl
  | 1, _ => exact zT_of (zT_p1 (List.mem_of_getElem? (i := 215) rfl)) rfl
  | 2, _ => exact zT_of (zT_p1 (List.mem_of_getElem? (i := 217) rfl)) rfl
  | 3, _ => exact zT_of (zT_p1 (List.mem_of_getElem? (i := 219) rfl)) rfl
  | 4, _ => exact zT_of (zT_p1 (List.mem_of_getElem? (i := 221) rfl)) rfl
  | 5, _ => exact zT_of (zT_p1 (List.mem_of_getElem? (i := 223) rfl)) rfl
  | 6, _ => exact zT_of (zT_p1 (List.mem_of_getElem? (i := 225) rfl)) rfl
  | k + 7, h => exact absurd h (by omega)
theorem lay_Jou : ∀ w ∈ u_ws RJou TJou 3, w ∈ zT := by
  intro w hw
  obtain ⟨k, hk, rfl⟩ := List.mem_map.mp hw
  have hk := List.mem_range.mp hk
  match k, hk with
  | 0, _ => exact zT_of (zT_p2 (List.mem_of_getElem? (i := 2) rfl)) rfl
  | 1, _ => exact zT_of (zT_p2 (List.mem_of_getElem? (i := 4) rfl)) rfl
  | 2, _ => exact zT_of (zT_p2 (List.mem_of_getElem? (i := 6) rfl)) rfl
  | k + 3, h => exact absurd h (by omega)
theorem lay_D : ∀ w ∈ u_ws RD TD 5, w ∈ zT := by
  intro w hw
  obtain ⟨k, hk, rfl⟩ := List.mem_map.mp hw
  have hk := List.mem_range.mp hk
  match k, hk with
  | 0, _ => exact zT_of (zT_p2 (List.mem_of_getElem? (i := 14) rfl)) rfl
  | 1, _ => exact zT_of (zT_p2 (List.mem_of_getElem? (i := 16) rfl)) rfl
  | 2, _ => exact zT_of (zT_p2 (List.mem_of_getElem? (i := 18) rfl)) rfl
  | 3, _ => exact zT_of (zT_p2 (List.mem_of_getElem? (i := 20) rfl)) rfl
  | 4, _ => exact zT_of (zT_p2 (List.mem_of_getElem? (i := 22) rfl)) rfl
  | k + 5, h => exact absurd h (by omega)
theorem lay_M : ∀ w ∈ u_ws RM TM 45, w ∈ zT := by
  intro w hw
  obtain ⟨k, hk, rfl⟩ := List.mem_map.mp hw
  have hk := List.mem_range.mp hk
  match k, hk with
  | 0, _ => exact zT_of (zT_p3 (List.mem_of_getElem? (i := 213) rfl)) rfl
  | 1, _ => exact zT_of (zT_p3 (List.mem_of_getElem? (i := 215) rfl)) rfl
  | 2, _ => exact zT_of (zT_p3 (List.mem_of_getElem? (i := 217) rfl)) rfl
  | 3, _ => exact zT_of (zT_p3 (List.mem_of_getElem? (i := 219) rfl)) rfl
  | 4, _ => exact zT_of (zT_p3 (List.mem_of_getElem? (i := 221) rfl)) rfl
  | 5, _ => exact zT_of (zT_p3 (List.mem_of_getElem? (i := 223) rfl)) rfl
  | 6, _ => exact zT_of (zT_p3 (List.mem_of_getElem? (i := 225) rfl)) rfl
  | 7, _ => exact zT_of (zT_p3 (List.mem_of_getElem? (i := 227) rfl)) rfl
  | 8, _ => exact zT_of (zT_p3 (List.mem_of_getElem? (i := 229) rfl)) rfl
  | 9, _ => exact zT_of (zT_p3 (List.mem_of_getElem? (i := 231) rfl)) rfl
  | 10, _ => exact zT_of (zT_p3 (List.mem_of_getElem? (i := 233) rfl)) rfl
  | 11, _ => exact zT_of (zT_p3 (List.mem_of_getElem? (i := 235) rfl)) rfl
  | 12, _ => exact zT_of (zT_p3 (List.mem_of_getElem? (i := 237) rfl)) rfl
  | 13, _ => exact zT_of (zT_p3 (List.mem_of_getElem? (i := 239) rfl)) rfl
  | 14, _ => exact zT_of (zT_p4 (List.mem_of_getElem? (i := 1) rfl)) rfl
  | 15, _ => exact zT_of (zT_p4 (List.mem_of_getElem? (i := 3) rfl)) rfl
  | 16, _ => exact zT_of (zT_p4 (List.mem_of_getElem? (i := 5) rfl)) rfl
  | 17, _ => exact zT_of (zT_p4 (List.mem_of_getElem? (i := 7) rfl)) rfl
  | 18, _ => exact zT_of (zT_p4 (List.mem_of_getElem? (i := 9) rfl)) rfl
  | 19, _ => exact zT_of (zT_p4 (List.mem_of_getElem? (i := 11) rfl)) rfl
  | 20, _ => exact zT_of (zT_p4 (List.mem_of_getElem? (i := 13) rfl)) rfl
  | 21, _ => exact zT_of (zT_p4 (List.mem_of_getElem? (i := 15) rfl)) rfl
  | 22, _ => exact zT_of (zT_p4 (List.mem_of_getElem? (i := 17) rfl)) rfl
  | 23, _ => exact zT_of (zT_p4 (List.mem_of_getElem? (i := 19) rfl)) rfl
  | 24, _ => exact zT_of (zT_p4 (List.mem_of_getElem? (i := 21) rfl)) rfl
  | 25, _ => exact zT_of (zT_p4 (List.mem_of_getElem? (i := 23) rfl)) rfl
  | 26, _ => exact zT_of (zT_p4 (List.mem_of_getElem? (i := 25) rfl)) rfl
  | 27, _ => exact zT_of (zT_p4 (List.mem_of_getElem? (i := 27) rfl)) rfl
  | 28, _ => exact zT_of (zT_p4 (List.mem_of_getElem? (i := 29) rfl)) rfl
  | 29, _ => exact zT_of (zT_p4 (List.mem_of_getElem? (i := 31) rfl)) rfl
  | 30, _ => exact zT_of (zT_p4 (List.mem_of_getElem? (i := 33) rfl)) rfl
  | 31, _ => exact zT_of (zT_p4 (List.mem_of_getElem? (i := 35) rfl)) rfl
  | 32, _ => exact zT_of (zT_p4 (List.mem_of_getElem? (i := 37) rfl)) rfl
  | 33, _ => exact zT_of (zT_p4 (List.mem_of_getElem? (i := 39) rfl)) rfl
  | 34, _ => exact zT_of (zT_p4 (List.mem_of_getElem? (i := 41) rfl)) rfl
  | 35, _ => exact zT_of (zT_p4 (List.mem_of_getElem? (i := 43) rfl)) rfl
  | 36, _ => exact zT_of (zT_p4 (List.mem_of_getElem? (i := 45) rfl)) rfl
  | 37, _ => exact zT_of (zT_p4 (List.mem_of_getElem? (i := 47) rfl)) rfl
  | 38, _ => exact zT_of (zT_p4 (List.mem_of_getElem? (i := 49) rfl)) rfl
  | 39, _ => exact zT_of (zT_p4 (List.mem_of_getElem? (i := 51) rfl)) rfl
  | 40, _ => exact zT_of (zT_p4 (List.mem_of_getElem? (i := 53) rfl)) rfl
  | 41, _ => exact zT_of (zT_p4 (List.mem_of_getElem? (i := 55) rfl)) rfl
  | 42, _ => exact zT_of (zT_p4 (List.mem_of_getElem? (i := 57) rfl)) rfl
  | 43, _ => exact zT_of (zT_p4 (List.mem_of_getElem? (i := 59) rfl)) rfl
  | 44, _ => exact zT_of (zT_p4 (List.mem_of_getElem? (i := 61) rfl)) rfl
  | k + 45, h => exact absurd h (by omega)
theorem zCl_ok : ∀ (ci : Nat) (C : String) (T : u_T) (N : Nat), zCl[ci]? = some (C, T, N) → (∀ w ∈ u_ws C T N, w ∈ zT) ∧ (∀ k, k < N → parseFieldDescriptor (T k).2.2.1 = some (zft ci k)) ∧ (∀ a, a < N → ∀ b, b < N → a ≠ b → (T a).2.1 ≠ (T b).2.1) ∧ (∀ k, k < N → (T k).1 = C) ∧ Cond.instantiable C N ∈ zT ∧ Cond.initialized C ∈ zT := by
  intro ci C T N h
  match ci, h with
  | 0, h => cases h; exact ⟨lay_Row, by decide +kernel, by decide +kernel, by decide +kernel, zT_of (zT_p1 (List.mem_of_getElem? (i := 22) rfl)) rfl, zT_of (zT_p1 (List.mem_of_getElem? (i := 2) rfl)) rfl⟩
  | 1, h => cases h; exact ⟨lay_Line, by decide +kernel, by decide +kernel, by decide +kernel, zT_of (zT_p1 (List.mem_of_getElem? (i := 46) rfl)) rfl, zT_of (zT_p1 (List.mem_of_getElem? (i := 4) rfl)) rfl⟩
  | 2, h => cases h; exact ⟨lay_Cat, by decide +kernel, by decide +kernel, by decide +kernel, zT_of (zT_p1 (List.mem_of_getElem? (i := 36) rfl)) rfl, zT_of (zT_p1 (List.mem_of_getElem? (i := 3) rfl)) rfl⟩
  | 3, h => cases h; exact ⟨lay_Pl, by decide +kernel, by decide +kernel, by decide +kernel, zT_of (zT_p1 (List.mem_of_getElem? (i := 84) rfl)) rfl, zT_of (zT_p1 (List.mem_of_getElem? (i := 5) rfl)) rfl⟩
  | 4, h => cases h; exact ⟨lay_Rev, by decide +kernel, by decide +kernel, by decide +kernel, zT_of (zT_p1 (List.mem_of_getElem? (i := 118) rfl)) rfl, zT_of (zT_p1 (List.mem_of_getElem? (i := 7) rfl)) rfl⟩
  | 5, h => cases h; exact ⟨lay_Work, by decide +kernel, by decide +kernel, by decide +kernel, zT_of (zT_p1 (List.mem_of_getElem? (i := 146) rfl)) rfl, zT_of (zT_p1 (List.mem_of_getElem? (i := 8) rfl)) rfl⟩
  | 6, h => cases h; exact ⟨lay_Sta, by decide +kernel, by decide +kernel, by decide +kernel, zT_of (zT_p1 (List.mem_of_getElem? (i := 109) rfl)) rfl, zT_of (zT_p1 (List.mem_of_getElem? (i := 6) rfl)) rfl⟩
  | 7, h => cases h; exact ⟨lay_Jou, by decide +kernel, by decide +kernel, by decide +kernel, zT_of (zT_p1 (List.mem_of_getElem? (i := 229) rfl)) rfl, zT_of (zT_p1 (List.mem_of_getElem? (i := 9) rfl)) rfl⟩
  | 8, h => cases h; exact ⟨lay_D, by decide +kernel, by decide +kernel, by decide +kernel, zT_of (zT_p1 (List.mem_of_getElem? (i := 14) rfl)) rfl, zT_of (zT_p1 (List.mem_of_getElem? (i := 1) rfl)) rfl⟩
  | 9, h => cases h; exact ⟨lay_M, by decide +kernel, by decide +kernel, by decide +kernel, zT_of (zT_p3 (List.mem_of_getElem? (i := 163) rfl)) rfl, zT_of (zT_p1 (List.mem_of_getElem? (i := 10) rfl)) rfl⟩
  | k + 10, h => exact absurd h (by simp [zCl])
theorem zT_oi : Cond.instanceMethod objectInit ∈ zT := zT_of (zT_p1 (List.mem_of_getElem? (i := 19) rfl)) rfl
theorem zT_oc : Cond.code objectInit ⟨#[0xb1]⟩ 1 none ∈ zT := zT_of (zT_p1 (List.mem_of_getElem? (i := 20) rfl)) rfl
theorem zT_maxs : Cond.static Lib.Math.max.name ∈ zT := zT_of (zT_p3 (List.mem_of_getElem? (i := 108) rfl)) rfl
theorem zT_maxc : Cond.code Lib.Math.max.name Lib.Math.max.code 2 (some .int) ∈ zT := zT_of (zT_p3 (List.mem_of_getElem? (i := 109) rfl)) rfl
theorem zT_mins : Cond.static Lib.Math.min.name ∈ zT := zT_of (zT_p2 (List.mem_of_getElem? (i := 134) rfl)) rfl
theorem zT_minc : Cond.code Lib.Math.min.name Lib.Math.min.code 2 (some .int) ∈ zT := zT_of (zT_p2 (List.mem_of_getElem? (i := 135) rfl)) rfl
theorem zT_mi : Cond.initialized "java/lang/Math" ∈ zT := zT_of (zT_p1 (List.mem_of_getElem? (i := 12) rfl)) rfl
theorem zT_an : Cond.native arraycopyName ∈ zT := zT_of (zT_p2 (List.mem_of_getElem? (i := 124) rfl)) rfl
theorem zT_as : Cond.static arraycopyName ∈ zT := zT_of (zT_p2 (List.mem_of_getElem? (i := 123) rfl)) rfl
theorem zT_ai : Cond.initialized "java/lang/System" ∈ zT := zT_of (zT_p1 (List.mem_of_getElem? (i := 11) rfl)) rfl
theorem zT_aint : Cond.arrayClass .int ∈ zT := zT_of (zT_p1 (List.mem_of_getElem? (i := 107) rfl)) rfl
theorem zT_achar : Cond.arrayClass .char ∈ zT := zT_of (zT_p1 (List.mem_of_getElem? (i := 34) rfl)) rfl
theorem zT_aboolean : Cond.arrayClass .boolean ∈ zT := zT_of (zT_p1 (List.mem_of_getElem? (i := 106) rfl)) rfl
theorem zao_in {s : State} {args : Array Value} (ht : ∀ w ∈ tables_1, w.before args s = true) : ∀ C ∈ zAO, (Cond.arrayOver (.object C)).before args s = true := by
  intro C hC
  simp only [zAO, List.mem_cons, List.not_mem_nil, or_false] at hC
  rcases hC with rfl | rfl | rfl | rfl | rfl
  · exact ht _ (zT_p1 (List.mem_of_getElem? (i := 42) rfl))
  · exact ht _ (zT_p1 (List.mem_of_getElem? (i := 44) rfl))
  · exact ht _ (zT_p1 (List.mem_of_getElem? (i := 115) rfl))
  · exact ht _ (zT_p1 (List.mem_of_getElem? (i := 117) rfl))
  · exact ht _ (zT_p1 (List.mem_of_getElem? (i := 235) rfl))
theorem znm_in {s : State} {args : Array Value} (ht : ∀ w ∈ tables_1, w.before args s = true) : ∀ q ∈ zNM, (Cond.methodLinkNest q.1 q.2.1 q.2.2.1 q.2.2.2).before args s = true := by
  intro q hq
  simp only [zNM, List.mem_cons, List.not_mem_nil, or_false] at hq
  rcases hq with rfl | rfl
  · exact ht _ (zT_p1 (List.mem_of_getElem? (i := 47) rfl))
  · exact ht _ (zT_p1 (List.mem_of_getElem? (i := 147) rfl))
