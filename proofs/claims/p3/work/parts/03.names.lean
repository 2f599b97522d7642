def F_DiscMaker : u_T := fun k => match k with
  | 0 => ("DiscMaker", "text", "LDiscMaker$Text;", true)
  | 1 => ("DiscMaker", "tree", "LDiscMaker$Tree;", true)
  | 2 => ("DiscMaker", "image", "LDiscMaker$Bytes;", true)
  | 3 => ("DiscMaker", "maker", "LDiscMaker$Maker;", true)
  | _ => ("DiscMaker", "reader", "LDiscMaker$Reader;", true)
def t_DiscMaker : Nat → FieldType := fun k => match k with
  | 0 => .object "DiscMaker$Text"
  | 1 => .object "DiscMaker$Tree"
  | 2 => .object "DiscMaker$Bytes"
  | 3 => .object "DiscMaker$Maker"
  | _ => .object "DiscMaker$Reader"
theorem n_DiscMaker : ∀ a, a < 5 → ∀ b, b < 5 → a ≠ b → (F_DiscMaker a).2.1 ≠ (F_DiscMaker b).2.1 := by decide +kernel
theorem t_DiscMaker_ok : ∀ k, k < 5 → parseFieldDescriptor (F_DiscMaker k).2.2.1 = some (t_DiscMaker k) := by decide +kernel
set_option maxRecDepth 20000 in
theorem in_DiscMaker : ∀ w ∈ u_ws "DiscMaker" F_DiscMaker 5, w ∈ lw_g := fun w hw => List.mem_filter.mpr (by
  have h : u_ws "DiscMaker" F_DiscMaker 5 = [436, 438, 440, 442, 444].filterMap (fun i => lw_tbl[i]?) := by decide +kernel
  have hg : (u_ws "DiscMaker" F_DiscMaker 5).all goodWord = true := by decide +kernel
  refine ⟨?_, List.all_eq_true.mp hg w hw⟩
  rw [h] at hw
  obtain ⟨i, -, hi⟩ := List.mem_filterMap.mp hw
  exact List.mem_of_getElem? hi)
def F_Bytes : u_T := fun k => match k with
  | 0 => ("DiscMaker$Bytes", "row", "[B", false)
  | _ => ("DiscMaker$Bytes", "length", "I", false)
def t_Bytes : Nat → FieldType := fun k => match k with
  | 0 => .array .byte
  | _ => .int
theorem n_Bytes : ∀ a, a < 2 → ∀ b, b < 2 → a ≠ b → (F_Bytes a).2.1 ≠ (F_Bytes b).2.1 := by decide +kernel
theorem t_Bytes_ok : ∀ k, k < 2 → parseFieldDescriptor (F_Bytes k).2.2.1 = some (t_Bytes k) := by decide +kernel
set_option maxRecDepth 20000 in
theorem in_Bytes : ∀ w ∈ u_ws "DiscMaker$Bytes" F_Bytes 2, w ∈ lw_g := fun w hw => List.mem_filter.mpr (by
  have h : u_ws "DiscMaker$Bytes" F_Bytes 2 = [263, 265].filterMap (fun i => lw_tbl[i]?) := by decide +kernel
  have hg : (u_ws "DiscMaker$Bytes" F_Bytes 2).all goodWord = true := by decide +kernel
  refine ⟨?_, List.all_eq_true.mp hg w hw⟩
  rw [h] at hw
  obtain ⟨i, -, hi⟩ := List.mem_filterMap.mp hw
  exact List.mem_of_getElem? hi)
def F_Found : u_T := fun k => match k with
  | 0 => ("DiscMaker$Found", "name", "[B", true)
  | 1 => ("DiscMaker$Found", "target", "[B", true)
  | 2 => ("DiscMaker$Found", "parent", "I", false)
  | 3 => ("DiscMaker$Found", "depth", "I", false)
  | 4 => ("DiscMaker$Found", "sort", "I", false)
  | 5 => ("DiscMaker$Found", "size", "I", false)
  | 6 => ("DiscMaker$Found", "sector", "I", false)
  | 7 => ("DiscMaker$Found", "mode", "I", false)
  | 8 => ("DiscMaker$Found", "owner", "I", false)
  | 9 => ("DiscMaker$Found", "group", "I", false)
  | 10 => ("DiscMaker$Found", "nameLength", "I", false)
  | 11 => ("DiscMaker$Found", "targetLength", "I", false)
  | _ => ("DiscMaker$Found", "marked", "Z", false)
def t_Found : Nat → FieldType := fun k => match k with
  | 0 => .array .byte
  | 1 => .array .byte
  | 2 => .int
  | 3 => .int
  | 4 => .int
  | 5 => .int
  | 6 => .int
  | 7 => .int
  | 8 => .int
  | 9 => .int
  | 10 => .int
  | 11 => .int
  | _ => .boolean
theorem n_Found : ∀ a, a < 13 → ∀ b, b < 13 → a ≠ b → (F_Found a).2.1 ≠ (F_Found b).2.1 := by decide +kernel
theorem t_Found_ok : ∀ k, k < 13 → parseFieldDescriptor (F_Found k).2.2.1 = some (t_Found k) := by decide +kernel
set_option maxRecDepth 20000 in
theorem in_Found : ∀ w ∈ u_ws "DiscMaker$Found" F_Found 13, w ∈ lw_g := fun w hw => List.mem_filter.mpr (by
  have h : u_ws "DiscMaker$Found" F_Found 13 = [1253, 1255, 1257, 1259, 1261, 1263, 1265, 1267, 1269, 1271, 1273, 1275, 1277].filterMap (fun i => lw_tbl[i]?) := by decide +kernel
  have hg : (u_ws "DiscMaker$Found" F_Found 13).all goodWord = true := by decide +kernel
  refine ⟨?_, List.all_eq_true.mp hg w hw⟩
  rw [h] at hw
  obtain ⟨i, -, hi⟩ := List.mem_filterMap.mp hw
  exact List.mem_of_getElem? hi)
def F_Layout : u_T := fun k => match k with
  | 0 => ("DiscMaker$Layout", "longNames", "Z", true)
  | 1 => ("DiscMaker$Layout", "descriptor", "I", true)
  | 2 => ("DiscMaker$Layout", "table", "I", true)
  | 3 => ("DiscMaker$Layout", "order", "[I", true)
  | 4 => ("DiscMaker$Layout", "path", "[I", true)
  | 5 => ("DiscMaker$Layout", "tableNumber", "[I", true)
  | 6 => ("DiscMaker$Layout", "begin", "[I", true)
  | 7 => ("DiscMaker$Layout", "extent", "[I", true)
  | 8 => ("DiscMaker$Layout", "count", "I", false)
  | _ => ("DiscMaker$Layout", "directories", "I", false)
def t_Layout : Nat → FieldType := fun k => match k with
  | 0 => .boolean
  | 1 => .int
  | 2 => .int
  | 3 => .array .int
  | 4 => .array .int
  | 5 => .array .int
  | 6 => .array .int
  | 7 => .array .int
  | 8 => .int
  | _ => .int
theorem n_Layout : ∀ a, a < 10 → ∀ b, b < 10 → a ≠ b → (F_Layout a).2.1 ≠ (F_Layout b).2.1 := by decide +kernel
theorem t_Layout_ok : ∀ k, k < 10 → parseFieldDescriptor (F_Layout k).2.2.1 = some (t_Layout k) := by decide +kernel
set_option maxRecDepth 20000 in
theorem in_Layout : ∀ w ∈ u_ws "DiscMaker$Layout" F_Layout 10, w ∈ lw_g := fun w hw => List.mem_filter.mpr (by
  have h : u_ws "DiscMaker$Layout" F_Layout 10 = [300, 302, 304, 306, 308, 310, 312, 314, 316, 318].filterMap (fun i => lw_tbl[i]?) := by decide +kernel
  have hg : (u_ws "DiscMaker$Layout" F_Layout 10).all goodWord = true := by decide +kernel
  refine ⟨?_, List.all_eq_true.mp hg w hw⟩
  rw [h] at hw
  obtain ⟨i, -, hi⟩ := List.mem_filterMap.mp hw
  exact List.mem_of_getElem? hi)
def F_Maker : u_T := fun k => match k with
  | 0 => ("DiscMaker$Maker", "tree", "LDiscMaker$Tree;", true)
  | 1 => ("DiscMaker$Maker", "image", "LDiscMaker$Bytes;", true)
  | 2 => ("DiscMaker$Maker", "first", "LDiscMaker$Layout;", true)
  | 3 => ("DiscMaker$Maker", "second", "LDiscMaker$Layout;", true)
  | 4 => ("DiscMaker$Maker", "use", "LDiscMaker$SystemUse;", true)
  | 5 => ("DiscMaker$Maker", "identifier", "LDiscMaker$Bytes;", true)
  | 6 => ("DiscMaker$Maker", "contents", "[I", true)
  | 7 => ("DiscMaker$Maker", "recordAt", "I", false)
  | 8 => ("DiscMaker$Maker", "runAt", "I", false)
  | _ => ("DiscMaker$Maker", "writing", "Z", false)
def t_Maker : Nat → FieldType := fun k => match k with
  | 0 => .object "DiscMaker$Tree"
  | 1 => .object "DiscMaker$Bytes"
  | 2 => .object "DiscMaker$Layout"
  | 3 => .object "DiscMaker$Layout"
  | 4 => .object "DiscMaker$SystemUse"
  | 5 => .object "DiscMaker$Bytes"
  | 6 => .array .int
  | 7 => .int
  | 8 => .int
  | _ => .boolean
theorem n_Maker : ∀ a, a < 10 → ∀ b, b < 10 → a ≠ b → (F_Maker a).2.1 ≠ (F_Maker b).2.1 := by decide +kernel
theorem t_Maker_ok : ∀ k, k < 10 → parseFieldDescriptor (F_Maker k).2.2.1 = some (t_Maker k) := by decide +kernel
set_option maxRecDepth 20000 in
theorem in_Maker : ∀ w ∈ u_ws "DiscMaker$Maker" F_Maker 10, w ∈ lw_g := fun w hw => List.mem_filter.mpr (by
  have h : u_ws "DiscMaker$Maker" F_Maker 10 = [357, 359, 361, 363, 365, 367, 369, 371, 373, 375].filterMap (fun i => lw_tbl[i]?) := by decide +kernel
  have hg : (u_ws "DiscMaker$Maker" F_Maker 10).all goodWord = true := by decide +kernel
  refine ⟨?_, List.all_eq_true.mp hg w hw⟩
  rw [h] at hw
  obtain ⟨i, -, hi⟩ := List.mem_filterMap.mp hw
  exact List.mem_of_getElem? hi)
def F_Node : u_T := fun k => match k with
  | 0 => ("DiscMaker$Node", "sort", "I", true)
  | 1 => ("DiscMaker$Node", "name", "[B", true)
  | 2 => ("DiscMaker$Node", "key", "[B", true)
  | 3 => ("DiscMaker$Node", "target", "[B", false)
  | 4 => ("DiscMaker$Node", "number", "I", false)
  | 5 => ("DiscMaker$Node", "parent", "I", false)
  | 6 => ("DiscMaker$Node", "above", "I", false)
  | 7 => ("DiscMaker$Node", "mode", "I", false)
  | 8 => ("DiscMaker$Node", "owner", "I", false)
  | 9 => ("DiscMaker$Node", "group", "I", false)
  | 10 => ("DiscMaker$Node", "size", "I", false)
  | _ => ("DiscMaker$Node", "seed", "I", false)
def t_Node : Nat → FieldType := fun k => match k with
  | 0 => .int
  | 1 => .array .byte
  | 2 => .array .byte
  | 3 => .array .byte
  | 4 => .int
  | 5 => .int
  | 6 => .int
  | 7 => .int
  | 8 => .int
  | 9 => .int
  | 10 => .int
  | _ => .int
theorem n_Node : ∀ a, a < 12 → ∀ b, b < 12 → a ≠ b → (F_Node a).2.1 ≠ (F_Node b).2.1 := by decide +kernel
theorem t_Node_ok : ∀ k, k < 12 → parseFieldDescriptor (F_Node k).2.2.1 = some (t_Node k) := by decide +kernel
set_option maxRecDepth 20000 in
theorem in_Node : ∀ w ∈ u_ws "DiscMaker$Node" F_Node 12, w ∈ lw_g := fun w hw => List.mem_filter.mpr (by
  have h : u_ws "DiscMaker$Node" F_Node 12 = [210, 212, 214, 216, 218, 220, 222, 224, 226, 228, 230, 232].filterMap (fun i => lw_tbl[i]?) := by decide +kernel
  have hg : (u_ws "DiscMaker$Node" F_Node 12).all goodWord = true := by decide +kernel
  refine ⟨?_, List.all_eq_true.mp hg w hw⟩
  rw [h] at hw
  obtain ⟨i, -, hi⟩ := List.mem_filterMap.mp hw
  exact List.mem_of_getElem? hi)
def F_PartsReader : u_T := fun k => match k with
  | 0 => ("DiscMaker$PartsReader", "image", "LDiscMaker$Bytes;", true)
  | 1 => ("DiscMaker$PartsReader", "found", "LDiscMaker$Found;", false)
  | 2 => ("DiscMaker$PartsReader", "named", "Z", false)
  | 3 => ("DiscMaker$PartsReader", "components", "I", false)
  | 4 => ("DiscMaker$PartsReader", "topAlone", "Z", false)
  | _ => ("DiscMaker$PartsReader", "lastContinuation", "I", false)
def t_PartsReader : Nat → FieldType := fun k => match k with
  | 0 => .object "DiscMaker$Bytes"
  | 1 => .object "DiscMaker$Found"
  | 2 => .boolean
  | 3 => .int
  | 4 => .boolean
  | _ => .int
theorem n_PartsReader : ∀ a, a < 6 → ∀ b, b < 6 → a ≠ b → (F_PartsReader a).2.1 ≠ (F_PartsReader b).2.1 := by decide +kernel
theorem t_PartsReader_ok : ∀ k, k < 6 → parseFieldDescriptor (F_PartsReader k).2.2.1 = some (t_PartsReader k) := by decide +kernel
set_option maxRecDepth 20000 in
theorem in_PartsReader : ∀ w ∈ u_ws "DiscMaker$PartsReader" F_PartsReader 6, w ∈ lw_g := fun w hw => List.mem_filter.mpr (by
  have h : u_ws "DiscMaker$PartsReader" F_PartsReader 6 = [399, 401, 403, 405, 407, 409].filterMap (fun i => lw_tbl[i]?) := by decide +kernel
  have hg : (u_ws "DiscMaker$PartsReader" F_PartsReader 6).all goodWord = true := by decide +kernel
  refine ⟨?_, List.all_eq_true.mp hg w hw⟩
  rw [h] at hw
  obtain ⟨i, -, hi⟩ := List.mem_filterMap.mp hw
  exact List.mem_of_getElem? hi)
def F_Reader : u_T := fun k => match k with
  | 0 => ("DiscMaker$Reader", "image", "LDiscMaker$Bytes;", true)
  | 1 => ("DiscMaker$Reader", "parts", "LDiscMaker$PartsReader;", true)
  | 2 => ("DiscMaker$Reader", "rows", "[LDiscMaker$Found;", true)
  | 3 => ("DiscMaker$Reader", "count", "I", false)
  | 4 => ("DiscMaker$Reader", "view", "I", false)
  | _ => ("DiscMaker$Reader", "wrong", "I", false)
def t_Reader : Nat → FieldType := fun k => match k with
  | 0 => .object "DiscMaker$Bytes"
  | 1 => .object "DiscMaker$PartsReader"
  | 2 => .array (.object "DiscMaker$Found")
  | 3 => .int
  | 4 => .int
  | _ => .int
theorem n_Reader : ∀ a, a < 6 → ∀ b, b < 6 → a ≠ b → (F_Reader a).2.1 ≠ (F_Reader b).2.1 := by decide +kernel
theorem t_Reader_ok : ∀ k, k < 6 → parseFieldDescriptor (F_Reader k).2.2.1 = some (t_Reader k) := by decide +kernel
set_option maxRecDepth 20000 in
theorem in_Reader : ∀ w ∈ u_ws "DiscMaker$Reader" F_Reader 6, w ∈ lw_g := fun w hw => List.mem_filter.mpr (by
  have h : u_ws "DiscMaker$Reader" F_Reader 6 = [418, 420, 422, 424, 426, 428].filterMap (fun i => lw_tbl[i]?) := by decide +kernel
  have hg : (u_ws "DiscMaker$Reader" F_Reader 6).all goodWord = true := by decide +kernel
  refine ⟨?_, List.all_eq_true.mp hg w hw⟩
  rw [h] at hw
  obtain ⟨i, -, hi⟩ := List.mem_filterMap.mp hw
  exact List.mem_of_getElem? hi)
def F_SystemUse : u_T := fun k => match k with
  | 0 => ("DiscMaker$SystemUse", "parts", "LDiscMaker$Bytes;", true)
  | 1 => ("DiscMaker$SystemUse", "ends", "[I", true)
  | 2 => ("DiscMaker$SystemUse", "count", "I", false)
  | _ => ("DiscMaker$SystemUse", "kept", "I", false)
def t_SystemUse : Nat → FieldType := fun k => match k with
  | 0 => .object "DiscMaker$Bytes"
  | 1 => .array .int
  | 2 => .int
  | _ => .int
theorem n_SystemUse : ∀ a, a < 4 → ∀ b, b < 4 → a ≠ b → (F_SystemUse a).2.1 ≠ (F_SystemUse b).2.1 := by decide +kernel
theorem t_SystemUse_ok : ∀ k, k < 4 → parseFieldDescriptor (F_SystemUse k).2.2.1 = some (t_SystemUse k) := by decide +kernel
set_option maxRecDepth 20000 in
theorem in_SystemUse : ∀ w ∈ u_ws "DiscMaker$SystemUse" F_SystemUse 4, w ∈ lw_g := fun w hw => List.mem_filter.mpr (by
  have h : u_ws "DiscMaker$SystemUse" F_SystemUse 4 = [336, 338, 340, 342].filterMap (fun i => lw_tbl[i]?) := by decide +kernel
  have hg : (u_ws "DiscMaker$SystemUse" F_SystemUse 4).all goodWord = true := by decide +kernel
  refine ⟨?_, List.all_eq_true.mp hg w hw⟩
  rw [h] at hw
  obtain ⟨i, -, hi⟩ := List.mem_filterMap.mp hw
  exact List.mem_of_getElem? hi)
def F_Text : u_T := fun k => match k with
  | 0 => ("DiscMaker$Text", "row", "[B", true)
  | _ => ("DiscMaker$Text", "length", "I", false)
def t_Text : Nat → FieldType := fun k => match k with
  | 0 => .array .byte
  | _ => .int
theorem n_Text : ∀ a, a < 2 → ∀ b, b < 2 → a ≠ b → (F_Text a).2.1 ≠ (F_Text b).2.1 := by decide +kernel
theorem t_Text_ok : ∀ k, k < 2 → parseFieldDescriptor (F_Text k).2.2.1 = some (t_Text k) := by decide +kernel
set_option maxRecDepth 20000 in
theorem in_Text : ∀ w ∈ u_ws "DiscMaker$Text" F_Text 2, w ∈ lw_g := fun w hw => List.mem_filter.mpr (by
  have h : u_ws "DiscMaker$Text" F_Text 2 = [159, 161].filterMap (fun i => lw_tbl[i]?) := by decide +kernel
  have hg : (u_ws "DiscMaker$Text" F_Text 2).all goodWord = true := by decide +kernel
  refine ⟨?_, List.all_eq_true.mp hg w hw⟩
  rw [h] at hw
  obtain ⟨i, -, hi⟩ := List.mem_filterMap.mp hw
  exact List.mem_of_getElem? hi)
def F_Tree : u_T := fun k => match k with
  | 0 => ("DiscMaker$Tree", "nodes", "[LDiscMaker$Node;", true)
  | 1 => ("DiscMaker$Tree", "count", "I", false)
  | _ => ("DiscMaker$Tree", "directories", "I", false)
def t_Tree : Nat → FieldType := fun k => match k with
  | 0 => .array (.object "DiscMaker$Node")
  | 1 => .int
  | _ => .int
theorem n_Tree : ∀ a, a < 3 → ∀ b, b < 3 → a ≠ b → (F_Tree a).2.1 ≠ (F_Tree b).2.1 := by decide +kernel
theorem t_Tree_ok : ∀ k, k < 3 → parseFieldDescriptor (F_Tree k).2.2.1 = some (t_Tree k) := by decide +kernel
set_option maxRecDepth 20000 in
theorem in_Tree : ∀ w ∈ u_ws "DiscMaker$Tree" F_Tree 3, w ∈ lw_g := fun w hw => List.mem_filter.mpr (by
  have h : u_ws "DiscMaker$Tree" F_Tree 3 = [243, 245, 247].filterMap (fun i => lw_tbl[i]?) := by decide +kernel
  have hg : (u_ws "DiscMaker$Tree" F_Tree 3).all goodWord = true := by decide +kernel
  refine ⟨?_, List.all_eq_true.mp hg w hw⟩
  rw [h] at hw
  obtain ⟨i, -, hi⟩ := List.mem_filterMap.mp hw
  exact List.mem_of_getElem? hi)
def F_DiscMakerModel : u_T := fun k => match k with
  | 0 => ("DiscMakerModel", "thrown", "I", false)
  | 1 => ("DiscMakerModel", "text", "[B", true)
  | 2 => ("DiscMakerModel", "length", "I", false)
  | 3 => ("DiscMakerModel", "nodes", "I", false)
  | 4 => ("DiscMakerModel", "kind", "[I", true)
  | 5 => ("DiscMakerModel", "parent", "[I", true)
  | 6 => ("DiscMakerModel", "mode", "[I", true)
  | 7 => ("DiscMakerModel", "owner", "[I", true)
  | 8 => ("DiscMakerModel", "group", "[I", true)
  | 9 => ("DiscMakerModel", "size", "[I", true)
  | 10 => ("DiscMakerModel", "seed", "[I", true)
  | 11 => ("DiscMakerModel", "name", "[B", true)
  | 12 => ("DiscMakerModel", "nameSize", "[I", true)
  | 13 => ("DiscMakerModel", "target", "[B", true)
  | 14 => ("DiscMakerModel", "targetSize", "[I", true)
  | 15 => ("DiscMakerModel", "base", "[B", true)
  | 16 => ("DiscMakerModel", "baseSize", "[I", true)
  | 17 => ("DiscMakerModel", "extension", "[B", true)
  | 18 => ("DiscMakerModel", "extensionSize", "[I", true)
  | 19 => ("DiscMakerModel", "image", "[J", true)
  | 20 => ("DiscMakerModel", "many", "I", false)
  | 21 => ("DiscMakerModel", "table", "[I", true)
  | 22 => ("DiscMakerModel", "sector", "[I", true)
  | 23 => ("DiscMakerModel", "sectors", "[I", true)
  | 24 => ("DiscMakerModel", "contents", "[I", true)
  | 25 => ("DiscMakerModel", "directories", "I", false)
  | 26 => ("DiscMakerModel", "runsFrom", "I", false)
  | 27 => ("DiscMakerModel", "runs", "I", false)
  | 28 => ("DiscMakerModel", "read", "I", false)
  | 29 => ("DiscMakerModel", "above", "[I", true)
  | 30 => ("DiscMakerModel", "isDirectory", "[Z", true)
  | 31 => ("DiscMakerModel", "bytes", "[I", true)
  | 32 => ("DiscMakerModel", "place", "[I", true)
  | 33 => ("DiscMakerModel", "readMode", "[I", true)
  | 34 => ("DiscMakerModel", "readOwner", "[I", true)
  | 35 => ("DiscMakerModel", "readGroup", "[I", true)
  | 36 => ("DiscMakerModel", "readName", "[B", true)
  | 37 => ("DiscMakerModel", "readNameSize", "[I", true)
  | 38 => ("DiscMakerModel", "readTarget", "[B", true)
  | 39 => ("DiscMakerModel", "readTargetSize", "[I", true)
  | 40 => ("DiscMakerModel", "depth", "[I", true)
  | 41 => ("DiscMakerModel", "wrong", "I", false)
  | 42 => ("DiscMakerModel", "isNamed", "Z", false)
  | 43 => ("DiscMakerModel", "goes", "I", false)
  | 44 => ("DiscMakerModel", "goesSize", "I", false)
  | 45 => ("DiscMakerModel", "goesAt", "I", false)
  | 46 => ("DiscMakerModel", "targetParts", "I", false)
  | _ => ("DiscMakerModel", "isRoot", "Z", false)
def t_DiscMakerModel : Nat → FieldType := fun k => match k with
  | 0 => .int
  | 1 => .array .byte
  | 2 => .int
  | 3 => .int
  | 4 => .array .int
  | 5 => .array .int
  | 6 => .array .int
  | 7 => .array .int
  | 8 => .array .int
  | 9 => .array .int
  | 10 => .array .int
  | 11 => .array .byte
  | 12 => .array .int
  | 13 => .array .byte
  | 14 => .array .int
  | 15 => .array .byte
  | 16 => .array .int
  | 17 => .array .byte
  | 18 => .array .int
  | 19 => .array .long
  | 20 => .int
  | 21 => .array .int
  | 22 => .array .int
  | 23 => .array .int
  | 24 => .array .int
  | 25 => .int
  | 26 => .int
  | 27 => .int
  | 28 => .int
  | 29 => .array .int
  | 30 => .array .boolean
  | 31 => .array .int
  | 32 => .array .int
  | 33 => .array .int
  | 34 => .array .int
  | 35 => .array .int
  | 36 => .array .byte
  | 37 => .array .int
  | 38 => .array .byte
  | 39 => .array .int
  | 40 => .array .int
  | 41 => .int
  | 42 => .boolean
  | 43 => .int
  | 44 => .int
  | 45 => .int
  | 46 => .int
  | _ => .boolean
theorem n_DiscMakerModel : ∀ a, a < 48 → ∀ b, b < 48 → a ≠ b → (F_DiscMakerModel a).2.1 ≠ (F_DiscMakerModel b).2.1 := by decide +kernel
theorem t_DiscMakerModel_ok : ∀ k, k < 48 → parseFieldDescriptor (F_DiscMakerModel k).2.2.1 = some (t_DiscMakerModel k) := by decide +kernel
set_option maxRecDepth 20000 in
theorem in_DiscMakerModel : ∀ w ∈ u_ws "DiscMakerModel" F_DiscMakerModel 48, w ∈ lw_g := fun w hw => List.mem_filter.mpr (by
  have h : u_ws "DiscMakerModel" F_DiscMakerModel 48 = [1479, 1481, 1483, 1485, 1487, 1489, 1491, 1493, 1495, 1497, 1499, 1501, 1503, 1505, 1507, 1509, 1511, 1513, 1515, 1517, 1519, 1521, 1523, 1525, 1527, 1529, 1531, 1533, 1535, 1537, 1539, 1541, 1543, 1545, 1547, 1549, 1551, 1553, 1555, 1557, 1559, 1561, 1563, 1565, 1567, 1569, 1571, 1573].filterMap (fun i => lw_tbl[i]?) := by decide +kernel
  have hg : (u_ws "DiscMakerModel" F_DiscMakerModel 48).all goodWord = true := by decide +kernel
  refine ⟨?_, List.all_eq_true.mp hg w hw⟩
  rw [h] at hw
  obtain ⟨i, -, hi⟩ := List.mem_filterMap.mp hw
  exact List.mem_of_getElem? hi)
abbrev CL : List vw_C := [("DiscMaker", F_DiscMaker, 5), ("DiscMaker$Bytes", F_Bytes, 2), ("DiscMaker$Found", F_Found, 13), ("DiscMaker$Layout", F_Layout, 10), ("DiscMaker$Maker", F_Maker, 10), ("DiscMaker$Node", F_Node, 12), ("DiscMaker$PartsReader", F_PartsReader, 6), ("DiscMaker$Reader", F_Reader, 6), ("DiscMaker$SystemUse", F_SystemUse, 4), ("DiscMaker$Text", F_Text, 2), ("DiscMaker$Tree", F_Tree, 3), ("DiscMakerModel", F_DiscMakerModel, 48)]
abbrev TY (cB cI cJ cZ cN cF : ClassId) : List (ClassId × FieldType) := [(cB, .byte), (cI, .int), (cJ, .long), (cZ, .boolean), (cN, .object "DiscMaker$Node"), (cF, .object "DiscMaker$Found")]
