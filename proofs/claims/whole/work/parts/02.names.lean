/-! names: classes, fields, methods -/
def ox_ws : List Cond := lw_tbl.filter goodWord
theorem ox_t1 {w : Cond} (i : Nat) (h : tables_1_1[i]? = some w) (g : goodWord w = true) : w ∈ ox_ws := List.mem_filter.mpr ⟨List.mem_append_right _ (show w ∈ tables_1 from (List.mem_append_left _ (List.mem_of_getElem? h))), g⟩
theorem ox_t2 {w : Cond} (i : Nat) (h : tables_1_2[i]? = some w) (g : goodWord w = true) : w ∈ ox_ws := List.mem_filter.mpr ⟨List.mem_append_right _ (show w ∈ tables_1 from (List.mem_append_right _ (List.mem_append_left _ (List.mem_of_getElem? h)))), g⟩
theorem ox_t3 {w : Cond} (i : Nat) (h : tables_1_3[i]? = some w) (g : goodWord w = true) : w ∈ ox_ws := List.mem_filter.mpr ⟨List.mem_append_right _ (show w ∈ tables_1 from (List.mem_append_right _ (List.mem_append_right _ (List.mem_append_left _ (List.mem_of_getElem? h))))), g⟩
theorem ox_t4 {w : Cond} (i : Nat) (h : tables_1_4[i]? = some w) (g : goodWord w = true) : w ∈ ox_ws := List.mem_filter.mpr ⟨List.mem_append_right _ (show w ∈ tables_1 from (List.mem_append_right _ (List.mem_append_right _ (List.mem_append_right _ (List.mem_append_left _ (List.mem_of_getElem? h)))))), g⟩
theorem ox_t5 {w : Cond} (i : Nat) (h : tables_1_5[i]? = some w) (g : goodWord w = true) : w ∈ ox_ws := List.mem_filter.mpr ⟨List.mem_append_right _ (show w ∈ tables_1 from (List.mem_append_right _ (List.mem_append_right _ (List.mem_append_right _ (List.mem_append_right _ (List.mem_of_getElem? h)))))), g⟩
theorem ox_sl {w : Cond} (i : Nat) (h : (k2_sels lw_privs)[i]? = some w) (g : goodWord w = true) : w ∈ ox_ws := List.mem_filter.mpr ⟨List.mem_append_left _ (List.mem_of_getElem? h), g⟩
theorem ox_good {w : Cond} (h : w ∈ ox_ws) : (w.onTables && w.keeps) = true ∨ ∃ ty, w = .arrayClass ty := good_of_word (List.mem_filter.mp h).2
theorem ox_goodIn {ws : List Cond} (h : ∀ w ∈ ws, w ∈ ox_ws) : GoodIn ox_ws ws := fun w hw => ⟨h w hw, ox_good (h w hw)⟩
def oR_T : String := "OneTreeTours"
def oT_T : u_T := fun k => match k with
  | 0 => ("OneTreeTours", "text", "LOneTreeTours$Text;", true)
  | 1 => ("OneTreeTours", "reader", "LOneTreeTours$Reader;", true)
  | 2 => ("OneTreeTours", "land", "LOneTreeTours$Land;", true)
  | 3 => ("OneTreeTours", "tree", "LOneTreeTours$OneTree;", true)
  | 4 => ("OneTreeTours", "tours", "LOneTreeTours$TourList;", true)
  | 5 => ("OneTreeTours", "round", "LOneTreeTours$Round;", true)
  | _ => ("OneTreeTours", "cases", "LOneTreeTours$Cases;", true)
def oty_T : Nat → FieldType := fun k => match k with
  | 0 => .object "OneTreeTours$Text"
  | 1 => .object "OneTreeTours$Reader"
  | 2 => .object "OneTreeTours$Land"
  | 3 => .object "OneTreeTours$OneTree"
  | 4 => .object "OneTreeTours$TourList"
  | 5 => .object "OneTreeTours$Round"
  | _ => .object "OneTreeTours$Cases"
theorem onm_T : ∀ a, a < 7 → ∀ b, b < 7 → a ≠ b → (oT_T a).2.1 ≠ (oT_T b).2.1 := by decide +kernel
theorem otk_T : ∀ k, k < 7 → parseFieldDescriptor (oT_T k).2.2.1 = some (oty_T k) := by decide +kernel
theorem oin_T : ∀ w ∈ u_ws oR_T oT_T 7, w ∈ ox_ws := fun w h => by
  have e : u_ws oR_T oT_T 7 = [(Jvm.Cond.laysFinal "OneTreeTours" "OneTreeTours" "text" "LOneTreeTours$Text;"), (Jvm.Cond.laysFinal "OneTreeTours" "OneTreeTours" "reader" "LOneTreeTours$Reader;"), (Jvm.Cond.laysFinal "OneTreeTours" "OneTreeTours" "land" "LOneTreeTours$Land;"), (Jvm.Cond.laysFinal "OneTreeTours" "OneTreeTours" "tree" "LOneTreeTours$OneTree;"), (Jvm.Cond.laysFinal "OneTreeTours" "OneTreeTours" "tours" "LOneTreeTours$TourList;"), (Jvm.Cond.laysFinal "OneTreeTours" "OneTreeTours" "round" "LOneTreeTours$Round;"), (Jvm.Cond.laysFinal "OneTreeTours" "OneTreeTours" "cases" "LOneTreeTours$Cases;")] := rfl
  rw [e] at h
  simp only [List.mem_cons, List.not_mem_nil, or_false] at h
  rcases h with rfl | rfl | rfl | rfl | rfl | rfl | rfl
  · exact (ox_t2 15 rfl rfl)
  · exact (ox_t2 17 rfl rfl)
  · exact (ox_t2 19 rfl rfl)
  · exact (ox_t2 21 rfl rfl)
  · exact (ox_t2 23 rfl rfl)
  · exact (ox_t2 25 rfl rfl)
  · exact (ox_t2 27 rfl rfl)
def oR_Text : String := "OneTreeTours$Text"
def oT_Text : u_T := fun k => match k with
  | 0 => ("OneTreeTours$Text", "characters", "[C", true)
  | _ => ("OneTreeTours$Text", "length", "I", false)
def oty_Text : Nat → FieldType := fun k => match k with
  | 0 => .array .char
  | _ => .int
theorem onm_Text : ∀ a, a < 2 → ∀ b, b < 2 → a ≠ b → (oT_Text a).2.1 ≠ (oT_Text b).2.1 := by decide +kernel
theorem otk_Text : ∀ k, k < 2 → parseFieldDescriptor (oT_Text k).2.2.1 = some (oty_Text k) := by decide +kernel
theorem oin_Text : ∀ w ∈ u_ws oR_Text oT_Text 2, w ∈ ox_ws := fun w h => by
  have e : u_ws oR_Text oT_Text 2 = [(Jvm.Cond.laysFinal "OneTreeTours$Text" "OneTreeTours$Text" "characters" "[C"), (Jvm.Cond.lays "OneTreeTours$Text" "OneTreeTours$Text" "length" "I")] := rfl
  rw [e] at h
  simp only [List.mem_cons, List.not_mem_nil, or_false] at h
  rcases h with rfl | rfl
  · exact (ox_t1 38 rfl rfl)
  · exact (ox_t1 40 rfl rfl)
def oR_Line : String := "OneTreeTours$Line"
def oT_Line : u_T := fun k => match k with
  | 0 => ("OneTreeTours$Line", "characters", "[C", true)
  | 1 => ("OneTreeTours$Line", "starts", "[I", true)
  | 2 => ("OneTreeTours$Line", "ends", "[I", true)
  | 3 => ("OneTreeTours$Line", "from", "I", false)
  | 4 => ("OneTreeTours$Line", "to", "I", false)
  | _ => ("OneTreeTours$Line", "words", "I", false)
def oty_Line : Nat → FieldType := fun k => match k with
  | 0 => .array .char
  | 1 => .array .int
  | 2 => .array .int
  | 3 => .int
  | 4 => .int
  | _ => .int
theorem onm_Line : ∀ a, a < 6 → ∀ b, b < 6 → a ≠ b → (oT_Line a).2.1 ≠ (oT_Line b).2.1 := by decide +kernel
theorem otk_Line : ∀ k, k < 6 → parseFieldDescriptor (oT_Line k).2.2.1 = some (oty_Line k) := by decide +kernel
theorem oin_Line : ∀ w ∈ u_ws oR_Line oT_Line 6, w ∈ ox_ws := fun w h => by
  have e : u_ws oR_Line oT_Line 6 = [(Jvm.Cond.laysFinal "OneTreeTours$Line" "OneTreeTours$Line" "characters" "[C"), (Jvm.Cond.laysFinal "OneTreeTours$Line" "OneTreeTours$Line" "starts" "[I"), (Jvm.Cond.laysFinal "OneTreeTours$Line" "OneTreeTours$Line" "ends" "[I"), (Jvm.Cond.lays "OneTreeTours$Line" "OneTreeTours$Line" "from" "I"), (Jvm.Cond.lays "OneTreeTours$Line" "OneTreeTours$Line" "to" "I"), (Jvm.Cond.lays "OneTreeTours$Line" "OneTreeTours$Line" "words" "I")] := rfl
  rw [e] at h
  simp only [List.mem_cons, List.not_mem_nil, or_false] at h
  rcases h with rfl | rfl | rfl | rfl | rfl | rfl
  · exact (ox_t1 63 rfl rfl)
  · exact (ox_t1 65 rfl rfl)
  · exact (ox_t1 67 rfl rfl)
  · exact (ox_t1 69 rfl rfl)
  · exact (ox_t1 71 rfl rfl)
  · exact (ox_t1 73 rfl rfl)
def oR_Reader : String := "OneTreeTours$Reader"
def oT_Reader : u_T := fun k => match k with
  | 0 => ("OneTreeTours$Reader", "text", "LOneTreeTours$Text;", true)
  | 1 => ("OneTreeTours$Reader", "line", "LOneTreeTours$Line;", true)
  | 2 => ("OneTreeTours$Reader", "stage", "I", false)
  | 3 => ("OneTreeTours$Reader", "type", "I", false)
  | 4 => ("OneTreeTours$Reader", "format", "I", false)
  | 5 => ("OneTreeTours$Reader", "row", "I", false)
  | 6 => ("OneTreeTours$Reader", "column", "I", false)
  | 7 => ("OneTreeTours$Reader", "xs", "[I", true)
  | 8 => ("OneTreeTours$Reader", "ys", "[I", true)
  | 9 => ("OneTreeTours$Reader", "dimension", "I", false)
  | _ => ("OneTreeTours$Reader", "distances", "[I", true)
def oty_Reader : Nat → FieldType := fun k => match k with
  | 0 => .object "OneTreeTours$Text"
  | 1 => .object "OneTreeTours$Line"
  | 2 => .int
  | 3 => .int
  | 4 => .int
  | 5 => .int
  | 6 => .int
  | 7 => .array .int
  | 8 => .array .int
  | 9 => .int
  | _ => .array .int
theorem onm_Reader : ∀ a, a < 11 → ∀ b, b < 11 → a ≠ b → (oT_Reader a).2.1 ≠ (oT_Reader b).2.1 := by decide +kernel
theorem otk_Reader : ∀ k, k < 11 → parseFieldDescriptor (oT_Reader k).2.2.1 = some (oty_Reader k) := by decide +kernel
theorem oin_Reader : ∀ w ∈ u_ws oR_Reader oT_Reader 11, w ∈ ox_ws := fun w h => by
  have e : u_ws oR_Reader oT_Reader 11 = [(Jvm.Cond.laysFinal "OneTreeTours$Reader" "OneTreeTours$Reader" "text" "LOneTreeTours$Text;"), (Jvm.Cond.laysFinal "OneTreeTours$Reader" "OneTreeTours$Reader" "line" "LOneTreeTours$Line;"), (Jvm.Cond.lays "OneTreeTours$Reader" "OneTreeTours$Reader" "stage" "I"), (Jvm.Cond.lays "OneTreeTours$Reader" "OneTreeTours$Reader" "type" "I"), (Jvm.Cond.lays "OneTreeTours$Reader" "OneTreeTours$Reader" "format" "I"), (Jvm.Cond.lays "OneTreeTours$Reader" "OneTreeTours$Reader" "row" "I"), (Jvm.Cond.lays "OneTreeTours$Reader" "OneTreeTours$Reader" "column" "I"), (Jvm.Cond.laysFinal "OneTreeTours$Reader" "OneTreeTours$Reader" "xs" "[I"), (Jvm.Cond.laysFinal "OneTreeTours$Reader" "OneTreeTours$Reader" "ys" "[I"), (Jvm.Cond.lays "OneTreeTours$Reader" "OneTreeTours$Reader" "dimension" "I"), (Jvm.Cond.laysFinal "OneTreeTours$Reader" "OneTreeTours$Reader" "distances" "[I")] := rfl
  rw [e] at h
  simp only [List.mem_cons, List.not_mem_nil, or_false] at h
  rcases h with rfl | rfl | rfl | rfl | rfl | rfl | rfl | rfl | rfl | rfl | rfl
  · exact (ox_t1 90 rfl rfl)
  · exact (ox_t1 92 rfl rfl)
  · exact (ox_t1 94 rfl rfl)
  · exact (ox_t1 96 rfl rfl)
  · exact (ox_t1 98 rfl rfl)
  · exact (ox_t1 100 rfl rfl)
  · exact (ox_t1 102 rfl rfl)
  · exact (ox_t1 104 rfl rfl)
  · exact (ox_t1 106 rfl rfl)
  · exact (ox_t1 108 rfl rfl)
  · exact (ox_t1 110 rfl rfl)
def oR_Land : String := "OneTreeTours$Land"
def oT_Land : u_T := fun k => match k with
  | 0 => ("OneTreeTours$Land", "distances", "[I", true)
  | 1 => ("OneTreeTours$Land", "numbers", "[I", true)
  | 2 => ("OneTreeTours$Land", "lower", "[I", true)
  | 3 => ("OneTreeTours$Land", "upper", "[I", true)
  | 4 => ("OneTreeTours$Land", "potentials", "[I", true)
  | 5 => ("OneTreeTours$Land", "cities", "I", false)
  | 6 => ("OneTreeTours$Land", "edges", "I", false)
  | 7 => ("OneTreeTours$Land", "required", "I", false)
  | _ => ("OneTreeTours$Land", "forbidden", "I", false)
def oty_Land : Nat → FieldType := fun k => match k with
  | 0 => .array .int
  | 1 => .array .int
  | 2 => .array .int
  | 3 => .array .int
  | 4 => .array .int
  | 5 => .int
  | 6 => .int
  | 7 => .int
  | _ => .int
theorem onm_Land : ∀ a, a < 9 → ∀ b, b < 9 → a ≠ b → (oT_Land a).2.1 ≠ (oT_Land b).2.1 := by decide +kernel
theorem otk_Land : ∀ k, k < 9 → parseFieldDescriptor (oT_Land k).2.2.1 = some (oty_Land k) := by decide +kernel
theorem oin_Land : ∀ w ∈ u_ws oR_Land oT_Land 9, w ∈ ox_ws := fun w h => by
  have e : u_ws oR_Land oT_Land 9 = [(Jvm.Cond.laysFinal "OneTreeTours$Land" "OneTreeTours$Land" "distances" "[I"), (Jvm.Cond.laysFinal "OneTreeTours$Land" "OneTreeTours$Land" "numbers" "[I"), (Jvm.Cond.laysFinal "OneTreeTours$Land" "OneTreeTours$Land" "lower" "[I"), (Jvm.Cond.laysFinal "OneTreeTours$Land" "OneTreeTours$Land" "upper" "[I"), (Jvm.Cond.laysFinal "OneTreeTours$Land" "OneTreeTours$Land" "potentials" "[I"), (Jvm.Cond.lays "OneTreeTours$Land" "OneTreeTours$Land" "cities" "I"), (Jvm.Cond.lays "OneTreeTours$Land" "OneTreeTours$Land" "edges" "I"), (Jvm.Cond.lays "OneTreeTours$Land" "OneTreeTours$Land" "required" "I"), (Jvm.Cond.lays "OneTreeTours$Land" "OneTreeTours$Land" "forbidden" "I")] := rfl
  rw [e] at h
  simp only [List.mem_cons, List.not_mem_nil, or_false] at h
  rcases h with rfl | rfl | rfl | rfl | rfl | rfl | rfl | rfl | rfl
  · exact (ox_t1 141 rfl rfl)
  · exact (ox_t1 143 rfl rfl)
  · exact (ox_t1 145 rfl rfl)
  · exact (ox_t1 147 rfl rfl)
  · exact (ox_t1 149 rfl rfl)
  · exact (ox_t1 151 rfl rfl)
  · exact (ox_t1 153 rfl rfl)
  · exact (ox_t1 155 rfl rfl)
  · exact (ox_t1 157 rfl rfl)
def oR_OneTree : String := "OneTreeTours$OneTree"
def oT_OneTree : u_T := fun k => match k with
  | 0 => ("OneTreeTours$OneTree", "land", "LOneTreeTours$Land;", true)
  | 1 => ("OneTreeTours$OneTree", "parts", "[I", true)
  | 2 => ("OneTreeTours$OneTree", "taken", "I", false)
  | 3 => ("OneTreeTours$OneTree", "count", "I", false)
  | 4 => ("OneTreeTours$OneTree", "weight", "I", false)
  | _ => ("OneTreeTours$OneTree", "degrees", "[I", true)
def oty_OneTree : Nat → FieldType := fun k => match k with
  | 0 => .object "OneTreeTours$Land"
  | 1 => .array .int
  | 2 => .int
  | 3 => .int
  | 4 => .int
  | _ => .array .int
theorem onm_OneTree : ∀ a, a < 6 → ∀ b, b < 6 → a ≠ b → (oT_OneTree a).2.1 ≠ (oT_OneTree b).2.1 := by decide +kernel
theorem otk_OneTree : ∀ k, k < 6 → parseFieldDescriptor (oT_OneTree k).2.2.1 = some (oty_OneTree k) := by decide +kernel
theorem oin_OneTree : ∀ w ∈ u_ws oR_OneTree oT_OneTree 6, w ∈ ox_ws := fun w h => by
  have e : u_ws oR_OneTree oT_OneTree 6 = [(Jvm.Cond.laysFinal "OneTreeTours$OneTree" "OneTreeTours$OneTree" "land" "LOneTreeTours$Land;"), (Jvm.Cond.laysFinal "OneTreeTours$OneTree" "OneTreeTours$OneTree" "parts" "[I"), (Jvm.Cond.lays "OneTreeTours$OneTree" "OneTreeTours$OneTree" "taken" "I"), (Jvm.Cond.lays "OneTreeTours$OneTree" "OneTreeTours$OneTree" "count" "I"), (Jvm.Cond.lays "OneTreeTours$OneTree" "OneTreeTours$OneTree" "weight" "I"), (Jvm.Cond.laysFinal "OneTreeTours$OneTree" "OneTreeTours$OneTree" "degrees" "[I")] := rfl
  rw [e] at h
  simp only [List.mem_cons, List.not_mem_nil, or_false] at h
  rcases h with rfl | rfl | rfl | rfl | rfl | rfl
  · exact (ox_t1 173 rfl rfl)
  · exact (ox_t1 175 rfl rfl)
  · exact (ox_t1 177 rfl rfl)
  · exact (ox_t1 179 rfl rfl)
  · exact (ox_t1 181 rfl rfl)
  · exact (ox_t1 183 rfl rfl)
def oR_TourList : String := "OneTreeTours$TourList"
def oT_TourList : u_T := fun k => match k with
  | 0 => ("OneTreeTours$TourList", "land", "LOneTreeTours$Land;", true)
  | 1 => ("OneTreeTours$TourList", "row", "[I", true)
  | 2 => ("OneTreeTours$TourList", "edgeSets", "[I", true)
  | 3 => ("OneTreeTours$TourList", "lengths", "[I", true)
  | _ => ("OneTreeTours$TourList", "count", "I", false)
def oty_TourList : Nat → FieldType := fun k => match k with
  | 0 => .object "OneTreeTours$Land"
  | 1 => .array .int
  | 2 => .array .int
  | 3 => .array .int
  | _ => .int
theorem onm_TourList : ∀ a, a < 5 → ∀ b, b < 5 → a ≠ b → (oT_TourList a).2.1 ≠ (oT_TourList b).2.1 := by decide +kernel
theorem otk_TourList : ∀ k, k < 5 → parseFieldDescriptor (oT_TourList k).2.2.1 = some (oty_TourList k) := by decide +kernel
theorem oin_TourList : ∀ w ∈ u_ws oR_TourList oT_TourList 5, w ∈ ox_ws := fun w h => by
  have e : u_ws oR_TourList oT_TourList 5 = [(Jvm.Cond.laysFinal "OneTreeTours$TourList" "OneTreeTours$TourList" "land" "LOneTreeTours$Land;"), (Jvm.Cond.laysFinal "OneTreeTours$TourList" "OneTreeTours$TourList" "row" "[I"), (Jvm.Cond.laysFinal "OneTreeTours$TourList" "OneTreeTours$TourList" "edgeSets" "[I"), (Jvm.Cond.laysFinal "OneTreeTours$TourList" "OneTreeTours$TourList" "lengths" "[I"), (Jvm.Cond.lays "OneTreeTours$TourList" "OneTreeTours$TourList" "count" "I")] := rfl
  rw [e] at h
  simp only [List.mem_cons, List.not_mem_nil, or_false] at h
  rcases h with rfl | rfl | rfl | rfl | rfl
  · exact (ox_t1 200 rfl rfl)
  · exact (ox_t1 202 rfl rfl)
  · exact (ox_t1 204 rfl rfl)
  · exact (ox_t1 206 rfl rfl)
  · exact (ox_t1 208 rfl rfl)
def oR_Round : String := "OneTreeTours$Round"
def oT_Round : u_T := fun k => match k with
  | 0 => ("OneTreeTours$Round", "land", "LOneTreeTours$Land;", true)
  | 1 => ("OneTreeTours$Round", "row", "[I", true)
  | _ => ("OneTreeTours$Round", "known", "Z", false)
def oty_Round : Nat → FieldType := fun k => match k with
  | 0 => .object "OneTreeTours$Land"
  | 1 => .array .int
  | _ => .boolean
theorem onm_Round : ∀ a, a < 3 → ∀ b, b < 3 → a ≠ b → (oT_Round a).2.1 ≠ (oT_Round b).2.1 := by decide +kernel
theorem otk_Round : ∀ k, k < 3 → parseFieldDescriptor (oT_Round k).2.2.1 = some (oty_Round k) := by decide +kernel
theorem oin_Round : ∀ w ∈ u_ws oR_Round oT_Round 3, w ∈ ox_ws := fun w h => by
  have e : u_ws oR_Round oT_Round 3 = [(Jvm.Cond.laysFinal "OneTreeTours$Round" "OneTreeTours$Round" "land" "LOneTreeTours$Land;"), (Jvm.Cond.laysFinal "OneTreeTours$Round" "OneTreeTours$Round" "row" "[I"), (Jvm.Cond.lays "OneTreeTours$Round" "OneTreeTours$Round" "known" "Z")] := rfl
  rw [e] at h
  simp only [List.mem_cons, List.not_mem_nil, or_false] at h
  rcases h with rfl | rfl | rfl
  · exact (ox_t1 222 rfl rfl)
  · exact (ox_t1 224 rfl rfl)
  · exact (ox_t1 226 rfl rfl)
def oR_Cases : String := "OneTreeTours$Cases"
def oT_Cases : u_T := fun k => match k with
  | 0 => ("OneTreeTours$Cases", "with", "[I", true)
  | 1 => ("OneTreeTours$Cases", "without", "[I", true)
  | _ => ("OneTreeTours$Cases", "count", "I", false)
def oty_Cases : Nat → FieldType := fun k => match k with
  | 0 => .array .int
  | 1 => .array .int
  | _ => .int
theorem onm_Cases : ∀ a, a < 3 → ∀ b, b < 3 → a ≠ b → (oT_Cases a).2.1 ≠ (oT_Cases b).2.1 := by decide +kernel
theorem otk_Cases : ∀ k, k < 3 → parseFieldDescriptor (oT_Cases k).2.2.1 = some (oty_Cases k) := by decide +kernel
theorem oin_Cases : ∀ w ∈ u_ws oR_Cases oT_Cases 3, w ∈ ox_ws := fun w h => by
  have e : u_ws oR_Cases oT_Cases 3 = [(Jvm.Cond.laysFinal "OneTreeTours$Cases" "OneTreeTours$Cases" "with" "[I"), (Jvm.Cond.laysFinal "OneTreeTours$Cases" "OneTreeTours$Cases" "without" "[I"), (Jvm.Cond.lays "OneTreeTours$Cases" "OneTreeTours$Cases" "count" "I")] := rfl
  rw [e] at h
  simp only [List.mem_cons, List.not_mem_nil, or_false] at h
  rcases h with rfl | rfl | rfl
  · exact (ox_t2 1 rfl rfl)
  · exact (ox_t2 3 rfl rfl)
  · exact (ox_t2 5 rfl rfl)
def oR_Mo : String := "OneTreeToursModel"
def oT_Mo : u_T := fun k => match k with
  | 0 => ("OneTreeToursModel", "size", "I", false)
  | 1 => ("OneTreeToursModel", "text", "[C", true)
  | 2 => ("OneTreeToursModel", "n", "I", false)
  | 3 => ("OneTreeToursModel", "far", "[I", true)
  | 4 => ("OneTreeToursModel", "marks", "[I", true)
  | 5 => ("OneTreeToursModel", "lifted", "[I", true)
  | 6 => ("OneTreeToursModel", "there", "Z", false)
  | 7 => ("OneTreeToursModel", "kept", "[I", true)
  | 8 => ("OneTreeToursModel", "cases", "I", false)
  | 9 => ("OneTreeToursModel", "with", "[I", true)
  | 10 => ("OneTreeToursModel", "without", "[I", true)
  | 11 => ("OneTreeToursModel", "at", "I", false)
  | 12 => ("OneTreeToursModel", "end", "I", false)
  | 13 => ("OneTreeToursModel", "from", "I", false)
  | 14 => ("OneTreeToursModel", "dimension", "I", false)
  | 15 => ("OneTreeToursModel", "type", "I", false)
  | 16 => ("OneTreeToursModel", "format", "I", false)
  | 17 => ("OneTreeToursModel", "data", "Z", false)
  | 18 => ("OneTreeToursModel", "over", "Z", false)
  | 19 => ("OneTreeToursModel", "many", "I", false)
  | 20 => ("OneTreeToursModel", "read", "[I", true)
  | 21 => ("OneTreeToursModel", "x", "[I", true)
  | 22 => ("OneTreeToursModel", "y", "[I", true)
  | 23 => ("OneTreeToursModel", "in", "[Z", true)
  | 24 => ("OneTreeToursModel", "rule", "[I", true)
  | 25 => ("OneTreeToursModel", "reach", "[I", true)
  | _ => ("OneTreeToursModel", "row", "[I", true)
def oty_Mo : Nat → FieldType := fun k => match k with
  | 0 => .int
  | 1 => .array .char
  | 2 => .int
  | 3 => .array .int
  | 4 => .array .int
  | 5 => .array .int
  | 6 => .boolean
  | 7 => .array .int
  | 8 => .int
  | 9 => .array .int
  | 10 => .array .int
  | 11 => .int
  | 12 => .int
  | 13 => .int
  | 14 => .int
  | 15 => .int
  | 16 => .int
  | 17 => .boolean
  | 18 => .boolean
  | 19 => .int
  | 20 => .array .int
  | 21 => .array .int
  | 22 => .array .int
  | 23 => .array .boolean
  | 24 => .array .int
  | 25 => .array .int
  | _ => .array .int
theorem onm_Mo : ∀ a, a < 27 → ∀ b, b < 27 → a ≠ b → (oT_Mo a).2.1 ≠ (oT_Mo b).2.1 := by decide +kernel
theorem otk_Mo : ∀ k, k < 27 → parseFieldDescriptor (oT_Mo k).2.2.1 = some (oty_Mo k) := by decide +kernel
theorem oin_Mo : ∀ w ∈ u_ws oR_Mo oT_Mo 27, w ∈ ox_ws := fun w h => by
  have e : u_ws oR_Mo oT_Mo 27 = [(Jvm.Cond.lays "OneTreeToursModel" "OneTreeToursModel" "size" "I"), (Jvm.Cond.laysFinal "OneTreeToursModel" "OneTreeToursModel" "text" "[C"), (Jvm.Cond.lays "OneTreeToursModel" "OneTreeToursModel" "n" "I"), (Jvm.Cond.laysFinal "OneTreeToursModel" "OneTreeToursModel" "far" "[I"), (Jvm.Cond.laysFinal "OneTreeToursModel" "OneTreeToursModel" "marks" "[I"), (Jvm.Cond.laysFinal "OneTreeToursModel" "OneTreeToursModel" "lifted" "[I"), (Jvm.Cond.lays "OneTreeToursModel" "OneTreeToursModel" "there" "Z"), (Jvm.Cond.laysFinal "OneTreeToursModel" "OneTreeToursModel" "kept" "[I"), (Jvm.Cond.lays "OneTreeToursModel" "OneTreeToursModel" "cases" "I"), (Jvm.Cond.laysFinal "OneTreeToursModel" "OneTreeToursModel" "with" "[I"), (Jvm.Cond.laysFinal "OneTreeToursModel" "OneTreeToursModel" "without" "[I"), (Jvm.Cond.lays "OneTreeToursModel" "OneTreeToursModel" "at" "I"), (Jvm.Cond.lays "OneTreeToursModel" "OneTreeToursModel" "end" "I"), (Jvm.Cond.lays "OneTreeToursModel" "OneTreeToursModel" "from" "I"), (Jvm.Cond.lays "OneTreeToursModel" "OneTreeToursModel" "dimension" "I"), (Jvm.Cond.lays "OneTreeToursModel" "OneTreeToursModel" "type" "I"), (Jvm.Cond.lays "OneTreeToursModel" "OneTreeToursModel" "format" "I"), (Jvm.Cond.lays "OneTreeToursModel" "OneTreeToursModel" "data" "Z"), (Jvm.Cond.lays "OneTreeToursModel" "OneTreeToursModel" "over" "Z"), (Jvm.Cond.lays "OneTreeToursModel" "OneTreeToursModel" "many" "I"), (Jvm.Cond.laysFinal "OneTreeToursModel" "OneTreeToursModel" "read" "[I"), (Jvm.Cond.laysFinal "OneTreeToursModel" "OneTreeToursModel" "x" "[I"), (Jvm.Cond.laysFinal "OneTreeToursModel" "OneTreeToursModel" "y" "[I"), (Jvm.Cond.laysFinal "OneTreeToursModel" "OneTreeToursModel" "in" "[Z"), (Jvm.Cond.laysFinal "OneTreeToursModel" "OneTreeToursModel" "rule" "[I"), (Jvm.Cond.laysFinal "OneTreeToursModel" "OneTreeToursModel" "reach" "[I"), (Jvm.Cond.laysFinal "OneTreeToursModel" "OneTreeToursModel" "row" "[I")] := rfl
  rw [e] at h
  simp only [List.mem_cons, List.not_mem_nil, or_false] at h
  rcases h with rfl | rfl | rfl | rfl | rfl | rfl | rfl | rfl | rfl | rfl | rfl | rfl | rfl | rfl | rfl | rfl | rfl | rfl | rfl | rfl | rfl | rfl | rfl | rfl | rfl | rfl | rfl
  · exact (ox_t4 7 rfl rfl)
  · exact (ox_t4 9 rfl rfl)
  · exact (ox_t4 11 rfl rfl)
  · exact (ox_t4 13 rfl rfl)
  · exact (ox_t4 15 rfl rfl)
  · exact (ox_t4 17 rfl rfl)
  · exact (ox_t4 19 rfl rfl)
  · exact (ox_t4 21 rfl rfl)
  · exact (ox_t4 23 rfl rfl)
  · exact (ox_t4 25 rfl rfl)
  · exact (ox_t4 27 rfl rfl)
  · exact (ox_t4 29 rfl rfl)
  · exact (ox_t4 31 rfl rfl)
  · exact (ox_t4 33 rfl rfl)
  · exact (ox_t4 35 rfl rfl)
  · exact (ox_t4 37 rfl rfl)
  · exact (ox_t4 39 rfl rfl)
  · exact (ox_t4 41 rfl rfl)
  · exact (ox_t4 43 rfl rfl)
  · exact (ox_t4 45 rfl rfl)
  · exact (ox_t4 47 rfl rfl)
  · exact (ox_t4 49 rfl rfl)
  · exact (ox_t4 51 rfl rfl)
  · exact (ox_t4 53 rfl rfl)
  · exact (ox_t4 55 rfl rfl)
  · exact (ox_t4 57 rfl rfl)
  · exact (ox_t4 59 rfl rfl)
abbrev ox_clz : List vw_C := [(oR_T, oT_T, 7), (oR_Text, oT_Text, 2), (oR_Line, oT_Line, 6), (oR_Reader, oT_Reader, 11), (oR_Land, oT_Land, 9), (oR_OneTree, oT_OneTree, 6), (oR_TourList, oT_TourList, 5), (oR_Round, oT_Round, 3), (oR_Cases, oT_Cases, 3), (oR_Mo, oT_Mo, 27)]
