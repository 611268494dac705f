/-- the words of the tables that stay true -/
def lw_tb : List Cond := lw_tbl.filter goodWord
theorem tb_in {w : Cond} (h : w ∈ lw_tbl) (hg : goodWord w = true) : w ∈ lw_tb := List.mem_filter.mpr ⟨h, hg⟩
theorem tb_good {big ws : List Cond} (hb : ∀ w ∈ lw_tb, w ∈ big) (h : ∀ w ∈ ws, w ∈ lw_tb) : GoodIn big ws := fun w hw => ⟨hb w (h w hw), good_of_word (List.mem_filter.mp (h w hw)).2⟩
theorem gd_V {own C : String} {idx maxL : Nat} {y : MethodName} {bytes : ByteArray} {ret : Option FieldType} (h1 : Cond.methodLink own idx y ∈ lw_tb) (h2 : Cond.instanceMethod y ∈ lw_tb) (h3 : Cond.selects C y y ∈ lw_tb) (h4 : Cond.initialized C ∈ lw_tb) (h5 : Cond.code y bytes maxL ret ∈ lw_tb) : GoodIn lw_tb (wsV own idx C y (.code y bytes maxL ret :: lw_tb)) := by
  refine tb_good (fun _ h => h) (fun w hw => ?_)
  simp only [wsV, List.cons_append, List.nil_append, List.mem_cons] at hw
  rcases hw with rfl | rfl | rfl | rfl | rfl | h
  · exact h1
  · exact h2
  · exact h3
  · exact h4
  · exact h5
  · exact h
theorem gd_S {own : String} {idx maxL : Nat} {y : MethodName} {bytes : ByteArray} {ret : Option FieldType} (h1 : Cond.methodLink own idx y ∈ lw_tb) (h2 : Cond.static y ∈ lw_tb) (h4 : Cond.initialized own ∈ lw_tb) (h5 : Cond.code y bytes maxL ret ∈ lw_tb) : GoodIn lw_tb (wsS own idx y (.code y bytes maxL ret :: lw_tb)) := by
  refine tb_good (fun _ h => h) (fun w hw => ?_)
  simp only [wsS, List.cons_append, List.nil_append, List.mem_cons] at hw
  rcases hw with rfl | rfl | rfl | rfl | h
  · exact h1
  · exact h2
  · exact h4
  · exact h5
  · exact h
theorem gd_I {maxL : Nat} {y : MethodName} {bytes : ByteArray} {ret : Option FieldType} (h5 : Cond.code y bytes maxL ret ∈ lw_tb) : GoodIn lw_tb (.code y bytes maxL ret :: lw_tb) := tb_good (fun _ h => h) (fun w hw => (List.mem_cons.mp hw).elim (fun e => e ▸ h5) (fun h => h))
def R_Dirs : String := "TreeFiles$Directories"
def T_Dirs : u_T := fun k => match k with
  | 0 => ("TreeFiles$Directories", "disk", "LTreeFiles$Disk;", true)
  | 1 => ("TreeFiles$Directories", "inodes", "LTreeFiles$Inodes;", true)
  | _ => ("TreeFiles$Directories", "parents", "[I", true)
def t_Dirs : Nat → FieldType := fun k => match k with
  | 0 => .object "TreeFiles$Disk"
  | 1 => .object "TreeFiles$Inodes"
  | _ => .array .int
theorem n_Dirs : ∀ a, a < 3 → ∀ b, b < 3 → a ≠ b → (T_Dirs a).2.1 ≠ (T_Dirs b).2.1 := by decide +kernel
theorem t_Dirs_ok : ∀ k, k < 3 → parseFieldDescriptor (T_Dirs k).2.2.1 = some (t_Dirs k) := by decide +kernel
theorem in_Dirs : ∀ w ∈ u_ws R_Dirs T_Dirs 3, w ∈ lw_tb := fun w h => tb_in ((by decide +kernel : ∀ w ∈ u_ws R_Dirs T_Dirs 3, w ∈ lw_tbl) w h) ((by decide +kernel : ∀ w ∈ u_ws R_Dirs T_Dirs 3, goodWord w = true) w h)
def R_Disk : String := "TreeFiles$Disk"
def T_Disk : u_T := fun k => match k with
  | 0 => ("TreeFiles$Disk", "blocks", "I", true)
  | 1 => ("TreeFiles$Disk", "now", "[J", true)
  | 2 => ("TreeFiles$Disk", "committed", "[J", true)
  | 3 => ("TreeFiles$Disk", "before", "[J", true)
  | 4 => ("TreeFiles$Disk", "touched", "[Z", true)
  | 5 => ("TreeFiles$Disk", "differs", "[Z", true)
  | _ => ("TreeFiles$Disk", "earlyCommits", "I", false)
def t_Disk : Nat → FieldType := fun k => match k with
  | 0 => .int
  | 1 => .array .long
  | 2 => .array .long
  | 3 => .array .long
  | 4 => .array .boolean
  | 5 => .array .boolean
  | _ => .int
theorem n_Disk : ∀ a, a < 7 → ∀ b, b < 7 → a ≠ b → (T_Disk a).2.1 ≠ (T_Disk b).2.1 := by decide +kernel
theorem t_Disk_ok : ∀ k, k < 7 → parseFieldDescriptor (T_Disk k).2.2.1 = some (t_Disk k) := by decide +kernel
theorem in_Disk : ∀ w ∈ u_ws R_Disk T_Disk 7, w ∈ lw_tb := fun w h => tb_in ((by decide +kernel : ∀ w ∈ u_ws R_Disk T_Disk 7, w ∈ lw_tbl) w h) ((by decide +kernel : ∀ w ∈ u_ws R_Disk T_Disk 7, goodWord w = true) w h)
def R_Inodes : String := "TreeFiles$Inodes"
def T_Inodes : u_T := fun k => match k with
  | _ => ("TreeFiles$Inodes", "disk", "LTreeFiles$Disk;", true)
def t_Inodes : Nat → FieldType := fun k => match k with
  | _ => .object "TreeFiles$Disk"
theorem n_Inodes : ∀ a, a < 1 → ∀ b, b < 1 → a ≠ b → (T_Inodes a).2.1 ≠ (T_Inodes b).2.1 := by decide +kernel
theorem t_Inodes_ok : ∀ k, k < 1 → parseFieldDescriptor (T_Inodes k).2.2.1 = some (t_Inodes k) := by decide +kernel
theorem in_Inodes : ∀ w ∈ u_ws R_Inodes T_Inodes 1, w ∈ lw_tb := fun w h => tb_in ((by decide +kernel : ∀ w ∈ u_ws R_Inodes T_Inodes 1, w ∈ lw_tbl) w h) ((by decide +kernel : ∀ w ∈ u_ws R_Inodes T_Inodes 1, goodWord w = true) w h)
def R_Tree : String := "TreeFiles"
def T_Tree : u_T := fun k => match k with
  | 0 => ("TreeFiles", "disk", "LTreeFiles$Disk;", true)
  | 1 => ("TreeFiles", "inodes", "LTreeFiles$Inodes;", true)
  | 2 => ("TreeFiles", "directories", "LTreeFiles$Directories;", true)
  | 3 => ("TreeFiles", "tape", "[I", true)
  | _ => ("TreeFiles", "tapeLength", "I", false)
def t_Tree : Nat → FieldType := fun k => match k with
  | 0 => .object "TreeFiles$Disk"
  | 1 => .object "TreeFiles$Inodes"
  | 2 => .object "TreeFiles$Directories"
  | 3 => .array .int
  | _ => .int
theorem n_Tree : ∀ a, a < 5 → ∀ b, b < 5 → a ≠ b → (T_Tree a).2.1 ≠ (T_Tree b).2.1 := by decide +kernel
theorem t_Tree_ok : ∀ k, k < 5 → parseFieldDescriptor (T_Tree k).2.2.1 = some (t_Tree k) := by decide +kernel
theorem in_Tree : ∀ w ∈ u_ws R_Tree T_Tree 5, w ∈ lw_tb := fun w h => tb_in ((by decide +kernel : ∀ w ∈ u_ws R_Tree T_Tree 5, w ∈ lw_tbl) w h) ((by decide +kernel : ∀ w ∈ u_ws R_Tree T_Tree 5, goodWord w = true) w h)
def R_Mod : String := "TreeFilesModel"
def T_Mod : u_T := fun k => match k with
  | 0 => ("TreeFilesModel", "thrown", "I", false)
  | 1 => ("TreeFilesModel", "blocks", "I", true)
  | 2 => ("TreeFilesModel", "tape", "[I", true)
  | 3 => ("TreeFilesModel", "taped", "I", false)
  | 4 => ("TreeFilesModel", "node", "[I", true)
  | 5 => ("TreeFilesModel", "owner", "[I", true)
  | 6 => ("TreeFilesModel", "now", "[I", true)
  | 7 => ("TreeFilesModel", "keptNode", "[I", true)
  | 8 => ("TreeFilesModel", "keptOwner", "[I", true)
  | 9 => ("TreeFilesModel", "done", "[I", true)
  | 10 => ("TreeFilesModel", "asideNode", "[I", true)
  | 11 => ("TreeFilesModel", "asideOwner", "[I", true)
  | 12 => ("TreeFilesModel", "asideNow", "[I", true)
  | _ => ("TreeFilesModel", "commits", "I", false)
def t_Mod : Nat → FieldType := fun k => match k with
  | 0 => .int
  | 1 => .int
  | 2 => .array .int
  | 3 => .int
  | 4 => .array .int
  | 5 => .array .int
  | 6 => .array .int
  | 7 => .array .int
  | 8 => .array .int
  | 9 => .array .int
  | 10 => .array .int
  | 11 => .array .int
  | 12 => .array .int
  | _ => .int
theorem n_Mod : ∀ a, a < 14 → ∀ b, b < 14 → a ≠ b → (T_Mod a).2.1 ≠ (T_Mod b).2.1 := by decide +kernel
theorem t_Mod_ok : ∀ k, k < 14 → parseFieldDescriptor (T_Mod k).2.2.1 = some (t_Mod k) := by decide +kernel
theorem in_Mod : ∀ w ∈ u_ws R_Mod T_Mod 14, w ∈ lw_tb := fun w h => tb_in ((by decide +kernel : ∀ w ∈ u_ws R_Mod T_Mod 14, w ∈ lw_tbl) w h) ((by decide +kernel : ∀ w ∈ u_ws R_Mod T_Mod 14, goodWord w = true) w h)
def R_Law : String := "TreeFilesLaw"
abbrev cl5 : List vw_C := [(R_Dirs, T_Dirs, 3), (R_Disk, T_Disk, 7), (R_Inodes, T_Inodes, 1), (R_Tree, T_Tree, 5), (R_Mod, T_Mod, 14)]
abbrev b_Tree_init : ByteArray := prog_1_method_1_code
def y_Tree_init : MethodName := ⟨R_Tree, "<init>", "(I)V"⟩
abbrev w_Tree_init : List Cond := .code y_Tree_init b_Tree_init 2 none :: lw_tb
abbrev b_Disk_init : ByteArray := prog_3_method_1_code
def y_Disk_init : MethodName := ⟨R_Disk, "<init>", "(I)V"⟩
abbrev w_Disk_init : List Cond := .code y_Disk_init b_Disk_init 3 none :: lw_tb
abbrev b_Disk_flipMapBit : ByteArray := prog_3_method_24_code
def y_Disk_flipMapBit : MethodName := ⟨R_Disk, "flipMapBit", "(I)V"⟩
abbrev w_Disk_flipMapBit : List Cond := .code y_Disk_flipMapBit b_Disk_flipMapBit 2 none :: lw_tb
abbrev b_Disk_touch : ByteArray := prog_3_method_25_code
def y_Disk_touch : MethodName := ⟨R_Disk, "touch", "(I)V"⟩
abbrev w_Disk_touch : List Cond := .code y_Disk_touch b_Disk_touch 2 none :: lw_tb
abbrev b_Disk_mapLongOf : ByteArray := prog_3_method_28_code
def y_Disk_mapLongOf : MethodName := ⟨R_Disk, "mapLongOf", "(I)I"⟩
abbrev w_Disk_mapLongOf : List Cond := .code y_Disk_mapLongOf b_Disk_mapLongOf 1 (some .int) :: lw_tb
abbrev b_Inodes_init : ByteArray := prog_4_method_1_code
def y_Inodes_init : MethodName := ⟨R_Inodes, "<init>", "(LTreeFiles$Disk;)V"⟩
abbrev w_Inodes_init : List Cond := .code y_Inodes_init b_Inodes_init 2 none :: lw_tb
abbrev b_Dirs_init : ByteArray := prog_2_method_1_code
def y_Dirs_init : MethodName := ⟨R_Dirs, "<init>", "(LTreeFiles$Disk;LTreeFiles$Inodes;)V"⟩
abbrev w_Dirs_init : List Cond := .code y_Dirs_init b_Dirs_init 3 none :: lw_tb
abbrev b_Inodes_begin : ByteArray := prog_4_method_9_code
def y_Inodes_begin : MethodName := ⟨R_Inodes, "begin", "(II)V"⟩
abbrev w_Inodes_begin : List Cond := .code y_Inodes_begin b_Inodes_begin 3 none :: lw_tb
abbrev b_Inodes_inodePlace : ByteArray := prog_4_method_16_code
def y_Inodes_inodePlace : MethodName := ⟨R_Inodes, "inodePlace", "(I)I"⟩
abbrev w_Inodes_inodePlace : List Cond := .code y_Inodes_inodePlace b_Inodes_inodePlace 1 (some .int) :: lw_tb
abbrev b_Disk_setByte : ByteArray := prog_3_method_8_code
def y_Disk_setByte : MethodName := ⟨R_Disk, "setByte", "(II)V"⟩
abbrev w_Disk_setByte : List Cond := .code y_Disk_setByte b_Disk_setByte 6 none :: lw_tb
abbrev b_Disk_settle : ByteArray := prog_3_method_15_code
def y_Disk_settle : MethodName := ⟨R_Disk, "settle", "()V"⟩
abbrev w_Disk_settle : List Cond := .code y_Disk_settle b_Disk_settle 2 none :: lw_tb
abbrev b_Disk_compare : ByteArray := prog_3_method_23_code
def y_Disk_compare : MethodName := ⟨R_Disk, "compare", "(I)V"⟩
abbrev w_Disk_compare : List Cond := .code y_Disk_compare b_Disk_compare 5 none :: lw_tb
abbrev b_Disk_differingBlocks : ByteArray := prog_3_method_19_code
def y_Disk_differingBlocks : MethodName := ⟨R_Disk, "differingBlocks", "()I"⟩
abbrev w_Disk_differingBlocks : List Cond := .code y_Disk_differingBlocks b_Disk_differingBlocks 3 (some .int) :: lw_tb
abbrev b_Disk_commitWhatWasBefore : ByteArray := prog_3_method_22_code
def y_Disk_commitWhatWasBefore : MethodName := ⟨R_Disk, "commitWhatWasBefore", "()V"⟩
abbrev w_Disk_commitWhatWasBefore : List Cond := .code y_Disk_commitWhatWasBefore b_Disk_commitWhatWasBefore 2 none :: lw_tb
abbrev b_Disk_copyBlock : ByteArray := prog_3_method_29_code
def y_Disk_copyBlock : MethodName := ⟨R_Disk, "copyBlock", "([J[JI)V"⟩
abbrev w_Disk_copyBlock : List Cond := .code y_Disk_copyBlock b_Disk_copyBlock 3 none :: lw_tb
abbrev b_Disk_isFree : ByteArray := prog_3_method_10_code
def y_Disk_isFree : MethodName := ⟨R_Disk, "isFree", "(I)Z"⟩
abbrev w_Disk_isFree : List Cond := .code y_Disk_isFree b_Disk_isFree 2 (some .boolean) :: lw_tb
abbrev b_Disk_hasBlock : ByteArray := prog_3_method_27_code
def y_Disk_hasBlock : MethodName := ⟨R_Disk, "hasBlock", "(I)Z"⟩
abbrev w_Disk_hasBlock : List Cond := .code y_Disk_hasBlock b_Disk_hasBlock 2 (some .boolean) :: lw_tb
abbrev b_Disk_forgetTouched : ByteArray := prog_3_method_26_code
def y_Disk_forgetTouched : MethodName := ⟨R_Disk, "forgetTouched", "()V"⟩
abbrev w_Disk_forgetTouched : List Cond := .code y_Disk_forgetTouched b_Disk_forgetTouched 2 none :: lw_tb
abbrev b_Disk_commitAll : ByteArray := prog_3_method_17_code
def y_Disk_commitAll : MethodName := ⟨R_Disk, "commitAll", "()V"⟩
abbrev w_Disk_commitAll : List Cond := .code y_Disk_commitAll b_Disk_commitAll 1 none :: lw_tb
abbrev b_Disk_makeAlike : ByteArray := prog_3_method_21_code
def y_Disk_makeAlike : MethodName := ⟨R_Disk, "makeAlike", "([J[J)V"⟩
abbrev w_Disk_makeAlike : List Cond := .code y_Disk_makeAlike b_Disk_makeAlike 4 none :: lw_tb
abbrev b_Tree_commit : ByteArray := prog_1_method_10_code
def y_Tree_commit : MethodName := ⟨R_Tree, "commit", "()I"⟩
abbrev w_Tree_commit : List Cond := .code y_Tree_commit b_Tree_commit 2 (some .int) :: lw_tb
abbrev b_Tree_drop : ByteArray := prog_1_method_11_code
def y_Tree_drop : MethodName := ⟨R_Tree, "drop", "()I"⟩
abbrev w_Tree_drop : List Cond := .code y_Tree_drop b_Tree_drop 2 (some .int) :: lw_tb
abbrev b_Disk_dropAll : ByteArray := prog_3_method_18_code
def y_Disk_dropAll : MethodName := ⟨R_Disk, "dropAll", "()V"⟩
abbrev w_Disk_dropAll : List Cond := .code y_Disk_dropAll b_Disk_dropAll 1 none :: lw_tb
abbrev b_Law_cell : ByteArray := method_2_code
def y_Law_cell : MethodName := ⟨R_Law, "cell", "([II)I"⟩
abbrev w_Law_cell : List Cond := .code y_Law_cell b_Law_cell 2 (some .int) :: lw_tb
abbrev b_Law_feed : ByteArray := method_3_code
def y_Law_feed : MethodName := ⟨R_Law, "feed", "(LTreeFiles;IJ[J)I"⟩
abbrev b_Tree_feed : ByteArray := prog_1_method_2_code
def y_Tree_feed : MethodName := ⟨R_Tree, "feed", "(IJ)I"⟩
abbrev w_Tree_feed : List Cond := .code y_Tree_feed b_Tree_feed 5 (some .int) :: lw_tb
abbrev b_Law_make : ByteArray := method_4_code
def y_Law_make : MethodName := ⟨R_Law, "make", "(LTreeFiles;IIZ[J)I"⟩
abbrev b_Tree_make : ByteArray := prog_1_method_3_code
def y_Tree_make : MethodName := ⟨R_Tree, "make", "(IIZ)I"⟩
abbrev w_Tree_make : List Cond := .code y_Tree_make b_Tree_make 6 (some .int) :: lw_tb
abbrev b_Tree_checkInode : ByteArray := prog_1_method_16_code
def y_Tree_checkInode : MethodName := ⟨R_Tree, "checkInode", "(I)V"⟩
abbrev w_Tree_checkInode : List Cond := .code y_Tree_checkInode b_Tree_checkInode 1 none :: lw_tb
abbrev b_Tree_checkName : ByteArray := prog_1_method_17_code
def y_Tree_checkName : MethodName := ⟨R_Tree, "checkName", "(I)V"⟩
abbrev w_Tree_checkName : List Cond := .code y_Tree_checkName b_Tree_checkName 1 none :: lw_tb
abbrev b_Tree_kindFault : ByteArray := prog_1_method_18_code
def y_Tree_kindFault : MethodName := ⟨R_Tree, "kindFault", "(II)I"⟩
abbrev w_Tree_kindFault : List Cond := .code y_Tree_kindFault b_Tree_kindFault 4 (some .int) :: lw_tb
abbrev b_Inodes_kind : ByteArray := prog_4_method_2_code
def y_Inodes_kind : MethodName := ⟨R_Inodes, "kind", "(I)I"⟩
abbrev w_Inodes_kind : List Cond := .code y_Inodes_kind b_Inodes_kind 2 (some .int) :: lw_tb
abbrev b_Disk_byteAt : ByteArray := prog_3_method_5_code
def y_Disk_byteAt : MethodName := ⟨R_Disk, "byteAt", "(I)I"⟩
abbrev w_Disk_byteAt : List Cond := .code y_Disk_byteAt b_Disk_byteAt 2 (some .int) :: lw_tb
abbrev b_Dirs_entryNamed : ByteArray := prog_2_method_2_code
def y_Dirs_entryNamed : MethodName := ⟨R_Dirs, "entryNamed", "(II)I"⟩
abbrev w_Dirs_entryNamed : List Cond := .code y_Dirs_entryNamed b_Dirs_entryNamed 6 (some .int) :: lw_tb
abbrev b_Inodes_size : ByteArray := prog_4_method_3_code
def y_Inodes_size : MethodName := ⟨R_Inodes, "size", "(I)I"⟩
abbrev w_Inodes_size : List Cond := .code y_Inodes_size b_Inodes_size 2 (some .int) :: lw_tb
abbrev b_Disk_pairAt : ByteArray := prog_3_method_7_code
def y_Disk_pairAt : MethodName := ⟨R_Disk, "pairAt", "(I)I"⟩
abbrev w_Disk_pairAt : List Cond := .code y_Disk_pairAt b_Disk_pairAt 2 (some .int) :: lw_tb
abbrev b_Inodes_placeOf : ByteArray := prog_4_method_12_code
def y_Inodes_placeOf : MethodName := ⟨R_Inodes, "placeOf", "(II)I"⟩
abbrev w_Inodes_placeOf : List Cond := .code y_Inodes_placeOf b_Inodes_placeOf 7 (some .int) :: lw_tb
abbrev b_Inodes_extents : ByteArray := prog_4_method_4_code
def y_Inodes_extents : MethodName := ⟨R_Inodes, "extents", "(I)I"⟩
abbrev w_Inodes_extents : List Cond := .code y_Inodes_extents b_Inodes_extents 2 (some .int) :: lw_tb
abbrev b_Inodes_extentLength : ByteArray := prog_4_method_6_code
def y_Inodes_extentLength : MethodName := ⟨R_Inodes, "extentLength", "(II)I"⟩
abbrev w_Inodes_extentLength : List Cond := .code y_Inodes_extentLength b_Inodes_extentLength 3 (some .int) :: lw_tb
abbrev b_Inodes_extentPlace : ByteArray := prog_4_method_17_code
def y_Inodes_extentPlace : MethodName := ⟨R_Inodes, "extentPlace", "(II)I"⟩
abbrev w_Inodes_extentPlace : List Cond := .code y_Inodes_extentPlace b_Inodes_extentPlace 2 (some .int) :: lw_tb
abbrev b_Inodes_extentFirst : ByteArray := prog_4_method_5_code
def y_Inodes_extentFirst : MethodName := ⟨R_Inodes, "extentFirst", "(II)I"⟩
abbrev w_Inodes_extentFirst : List Cond := .code y_Inodes_extentFirst b_Inodes_extentFirst 3 (some .int) :: lw_tb
abbrev b_Inodes_leastFree : ByteArray := prog_4_method_7_code
def y_Inodes_leastFree : MethodName := ⟨R_Inodes, "leastFree", "()I"⟩
abbrev w_Inodes_leastFree : List Cond := .code y_Inodes_leastFree b_Inodes_leastFree 2 (some .int) :: lw_tb
abbrev b_Dirs_addEntry : ByteArray := prog_2_method_5_code
def y_Dirs_addEntry : MethodName := ⟨R_Dirs, "addEntry", "(III)Z"⟩
abbrev w_Dirs_addEntry : List Cond := .code y_Dirs_addEntry b_Dirs_addEntry 6 (some .boolean) :: lw_tb
abbrev b_Inodes_resize : ByteArray := prog_4_method_11_code
def y_Inodes_resize : MethodName := ⟨R_Inodes, "resize", "(II)Z"⟩
abbrev w_Inodes_resize : List Cond := .code y_Inodes_resize b_Inodes_resize 8 (some .boolean) :: lw_tb
abbrev b_Inodes_blocksFor : ByteArray := prog_4_method_15_code
def y_Inodes_blocksFor : MethodName := ⟨R_Inodes, "blocksFor", "(I)I"⟩
abbrev w_Inodes_blocksFor : List Cond := .code y_Inodes_blocksFor b_Inodes_blocksFor 1 (some .int) :: lw_tb
abbrev b_Inodes_takeBlock : ByteArray := prog_4_method_13_code
def y_Inodes_takeBlock : MethodName := ⟨R_Inodes, "takeBlock", "(I)Z"⟩
abbrev w_Inodes_takeBlock : List Cond := .code y_Inodes_takeBlock b_Inodes_takeBlock 5 (some .boolean) :: lw_tb
abbrev b_Disk_takeBlock : ByteArray := prog_3_method_13_code
def y_Disk_takeBlock : MethodName := ⟨R_Disk, "takeBlock", "(I)V"⟩
abbrev w_Disk_takeBlock : List Cond := .code y_Disk_takeBlock b_Disk_takeBlock 3 none :: lw_tb
abbrev b_Disk_leastFree : ByteArray := prog_3_method_11_code
def y_Disk_leastFree : MethodName := ⟨R_Disk, "leastFree", "()I"⟩
abbrev w_Disk_leastFree : List Cond := .code y_Disk_leastFree b_Disk_leastFree 2 (some .int) :: lw_tb
abbrev b_Disk_setPair : ByteArray := prog_3_method_9_code
def y_Disk_setPair : MethodName := ⟨R_Disk, "setPair", "(II)V"⟩
abbrev w_Disk_setPair : List Cond := .code y_Disk_setPair b_Disk_setPair 3 none :: lw_tb
abbrev b_Inodes_giveBlockBack : ByteArray := prog_4_method_14_code
def y_Inodes_giveBlockBack : MethodName := ⟨R_Inodes, "giveBlockBack", "(I)V"⟩
abbrev w_Inodes_giveBlockBack : List Cond := .code y_Inodes_giveBlockBack b_Inodes_giveBlockBack 4 none :: lw_tb
abbrev b_Disk_giveBlockBack : ByteArray := prog_3_method_14_code
def y_Disk_giveBlockBack : MethodName := ⟨R_Disk, "giveBlockBack", "(I)V"⟩
abbrev w_Disk_giveBlockBack : List Cond := .code y_Disk_giveBlockBack b_Disk_giveBlockBack 2 none :: lw_tb
abbrev b_Dirs_setEntry : ByteArray := prog_2_method_6_code
def y_Dirs_setEntry : MethodName := ⟨R_Dirs, "setEntry", "(III)V"⟩
abbrev w_Dirs_setEntry : List Cond := .code y_Dirs_setEntry b_Dirs_setEntry 4 none :: lw_tb
abbrev b_Disk_undo : ByteArray := prog_3_method_16_code
def y_Disk_undo : MethodName := ⟨R_Disk, "undo", "()V"⟩
abbrev w_Disk_undo : List Cond := .code y_Disk_undo b_Disk_undo 2 none :: lw_tb
abbrev b_Law_find : ByteArray := method_5_code
def y_Law_find : MethodName := ⟨R_Law, "find", "(LTreeFiles;II[J)I"⟩
abbrev b_Tree_find : ByteArray := prog_1_method_4_code
def y_Tree_find : MethodName := ⟨R_Tree, "find", "(II)I"⟩
abbrev w_Tree_find : List Cond := .code y_Tree_find b_Tree_find 4 (some .int) :: lw_tb
abbrev b_Tree_entryOrFault : ByteArray := prog_1_method_19_code
def y_Tree_entryOrFault : MethodName := ⟨R_Tree, "entryOrFault", "(II)I"⟩
abbrev w_Tree_entryOrFault : List Cond := .code y_Tree_entryOrFault b_Tree_entryOrFault 5 (some .int) :: lw_tb
abbrev b_Dirs_inodeOf : ByteArray := prog_2_method_3_code
def y_Dirs_inodeOf : MethodName := ⟨R_Dirs, "inodeOf", "(I)I"⟩
abbrev w_Dirs_inodeOf : List Cond := .code y_Dirs_inodeOf b_Dirs_inodeOf 2 (some .int) :: lw_tb
abbrev b_Law_write : ByteArray := method_6_code
def y_Law_write : MethodName := ⟨R_Law, "write", "(LTreeFiles;II[J)I"⟩
abbrev b_Tree_write : ByteArray := prog_1_method_5_code
def y_Tree_write : MethodName := ⟨R_Tree, "write", "(II)I"⟩
abbrev w_Tree_write : List Cond := .code y_Tree_write b_Tree_write 8 (some .int) :: lw_tb
abbrev b_Law_cut : ByteArray := method_7_code
def y_Law_cut : MethodName := ⟨R_Law, "cut", "(LTreeFiles;II[J)I"⟩
abbrev b_Tree_cut : ByteArray := prog_1_method_6_code
def y_Tree_cut : MethodName := ⟨R_Tree, "cut", "(II)I"⟩
abbrev w_Tree_cut : List Cond := .code y_Tree_cut b_Tree_cut 4 (some .int) :: lw_tb
abbrev b_Law_read : ByteArray := method_8_code
def y_Law_read : MethodName := ⟨R_Law, "read", "(LTreeFiles;II[J)I"⟩
abbrev b_Tree_read : ByteArray := prog_1_method_7_code
def y_Tree_read : MethodName := ⟨R_Tree, "read", "(II)J"⟩
abbrev w_Tree_read : List Cond := .code y_Tree_read b_Tree_read 6 (some .long) :: lw_tb
abbrev b_Law_move : ByteArray := method_9_code
def y_Law_move : MethodName := ⟨R_Law, "move", "(LTreeFiles;IIII[J)I"⟩
abbrev b_Tree_move : ByteArray := prog_1_method_8_code
def y_Tree_move : MethodName := ⟨R_Tree, "move", "(IIII)I"⟩
abbrev w_Tree_move : List Cond := .code y_Tree_move b_Tree_move 9 (some .int) :: lw_tb
abbrev b_Tree_moveFault : ByteArray := prog_1_method_20_code
def y_Tree_moveFault : MethodName := ⟨R_Tree, "moveFault", "(III)I"⟩
abbrev w_Tree_moveFault : List Cond := .code y_Tree_moveFault b_Tree_moveFault 6 (some .int) :: lw_tb
abbrev b_Tree_hasEntries : ByteArray := prog_1_method_21_code
def y_Tree_hasEntries : MethodName := ⟨R_Tree, "hasEntries", "(I)Z"⟩
abbrev w_Tree_hasEntries : List Cond := .code y_Tree_hasEntries b_Tree_hasEntries 2 (some .boolean) :: lw_tb
abbrev b_Dirs_isEmpty : ByteArray := prog_2_method_4_code
def y_Dirs_isEmpty : MethodName := ⟨R_Dirs, "isEmpty", "(I)Z"⟩
abbrev w_Dirs_isEmpty : List Cond := .code y_Dirs_isEmpty b_Dirs_isEmpty 4 (some .boolean) :: lw_tb
abbrev b_Dirs_isWithin : ByteArray := prog_2_method_8_code
def y_Dirs_isWithin : MethodName := ⟨R_Dirs, "isWithin", "(II)Z"⟩
abbrev w_Dirs_isWithin : List Cond := .code y_Dirs_isWithin b_Dirs_isWithin 5 (some .boolean) :: lw_tb
abbrev b_Dirs_fillParents : ByteArray := prog_2_method_9_code
def y_Dirs_fillParents : MethodName := ⟨R_Dirs, "fillParents", "()V"⟩
abbrev w_Dirs_fillParents : List Cond := .code y_Dirs_fillParents b_Dirs_fillParents 5 none :: lw_tb
abbrev b_Dirs_clearEntry : ByteArray := prog_2_method_7_code
def y_Dirs_clearEntry : MethodName := ⟨R_Dirs, "clearEntry", "(I)V"⟩
abbrev w_Dirs_clearEntry : List Cond := .code y_Dirs_clearEntry b_Dirs_clearEntry 2 none :: lw_tb
abbrev b_Inodes_release : ByteArray := prog_4_method_10_code
def y_Inodes_release : MethodName := ⟨R_Inodes, "release", "(I)V"⟩
abbrev w_Inodes_release : List Cond := .code y_Inodes_release b_Inodes_release 2 none :: lw_tb
abbrev b_Law_remove : ByteArray := method_10_code
def y_Law_remove : MethodName := ⟨R_Law, "remove", "(LTreeFiles;II[J)I"⟩
abbrev b_Tree_remove : ByteArray := prog_1_method_9_code
def y_Tree_remove : MethodName := ⟨R_Tree, "remove", "(II)I"⟩
abbrev w_Tree_remove : List Cond := .code y_Tree_remove b_Tree_remove 5 (some .int) :: lw_tb
abbrev b_Law_node : ByteArray := method_11_code
def y_Law_node : MethodName := ⟨R_Law, "node", "(LTreeFiles;II[J)I"⟩
abbrev b_Tree_node : ByteArray := prog_1_method_12_code
def y_Tree_node : MethodName := ⟨R_Tree, "node", "(II)I"⟩
abbrev w_Tree_node : List Cond := .code y_Tree_node b_Tree_node 4 (some .int) :: lw_tb
abbrev b_Law_at : ByteArray := method_12_code
def y_Law_at : MethodName := ⟨R_Law, "at", "(LTreeFiles;IIZ[J)I"⟩
abbrev b_Tree_at : ByteArray := prog_1_method_13_code
def y_Tree_at : MethodName := ⟨R_Tree, "at", "(IIZ)I"⟩
abbrev w_Tree_at : List Cond := .code y_Tree_at b_Tree_at 5 (some .int) :: lw_tb
abbrev b_Disk_hasByte : ByteArray := prog_3_method_4_code
def y_Disk_hasByte : MethodName := ⟨R_Disk, "hasByte", "(II)Z"⟩
abbrev w_Disk_hasByte : List Cond := .code y_Disk_hasByte b_Disk_hasByte 3 (some .boolean) :: lw_tb
abbrev b_Disk_committedByteAt : ByteArray := prog_3_method_6_code
def y_Disk_committedByteAt : MethodName := ⟨R_Disk, "committedByteAt", "(I)I"⟩
abbrev w_Disk_committedByteAt : List Cond := .code y_Disk_committedByteAt b_Disk_committedByteAt 2 (some .int) :: lw_tb
abbrev b_Law_changed : ByteArray := method_13_code
def y_Law_changed : MethodName := ⟨R_Law, "changed", "(LTreeFiles;I[J)I"⟩
abbrev b_Tree_changed : ByteArray := prog_1_method_14_code
def y_Tree_changed : MethodName := ⟨R_Tree, "changed", "(I)I"⟩
abbrev w_Tree_changed : List Cond := .code y_Tree_changed b_Tree_changed 3 (some .int) :: lw_tb
abbrev b_Disk_differingBlock : ByteArray := prog_3_method_20_code
def y_Disk_differingBlock : MethodName := ⟨R_Disk, "differingBlock", "(I)I"⟩
abbrev w_Disk_differingBlock : List Cond := .code y_Disk_differingBlock b_Disk_differingBlock 4 (some .int) :: lw_tb
abbrev b_Law_look : ByteArray := method_14_code
def y_Law_look : MethodName := ⟨R_Law, "look", "(LTreeFiles;I[J)I"⟩
abbrev b_Tree_look : ByteArray := prog_1_method_15_code
def y_Tree_look : MethodName := ⟨R_Tree, "look", "(I)I"⟩
abbrev w_Tree_look : List Cond := .code y_Tree_look b_Tree_look 2 (some .int) :: lw_tb
abbrev b_Disk_blocks : ByteArray := prog_3_method_2_code
def y_Disk_blocks : MethodName := ⟨R_Disk, "blocks", "()I"⟩
abbrev w_Disk_blocks : List Cond := .code y_Disk_blocks b_Disk_blocks 1 (some .int) :: lw_tb
abbrev b_Disk_freeBlocks : ByteArray := prog_3_method_12_code
def y_Disk_freeBlocks : MethodName := ⟨R_Disk, "freeBlocks", "()I"⟩
abbrev w_Disk_freeBlocks : List Cond := .code y_Disk_freeBlocks b_Disk_freeBlocks 3 (some .int) :: lw_tb
abbrev b_Inodes_ofKind : ByteArray := prog_4_method_8_code
def y_Inodes_ofKind : MethodName := ⟨R_Inodes, "ofKind", "(I)I"⟩
abbrev w_Inodes_ofKind : List Cond := .code y_Inodes_ofKind b_Inodes_ofKind 4 (some .int) :: lw_tb
abbrev b_Disk_earlyCommits : ByteArray := prog_3_method_3_code
def y_Disk_earlyCommits : MethodName := ⟨R_Disk, "earlyCommits", "()I"⟩
abbrev w_Disk_earlyCommits : List Cond := .code y_Disk_earlyCommits b_Disk_earlyCommits 1 (some .int) :: lw_tb
abbrev b_Mod_init : ByteArray := prog_6_method_1_code
def y_Mod_init : MethodName := ⟨R_Mod, "<init>", "(I)V"⟩
abbrev w_Mod_init : List Cond := .code y_Mod_init b_Mod_init 3 none :: lw_tb
abbrev b_Mod_commitsAll : ByteArray := prog_6_method_11_code
def y_Mod_commitsAll : MethodName := ⟨R_Mod, "commitsAll", "()I"⟩
abbrev w_Mod_commitsAll : List Cond := .code y_Mod_commitsAll b_Mod_commitsAll 4 (some .int) :: lw_tb
abbrev b_Mod_changes : ByteArray := prog_6_method_9_code
def y_Mod_changes : MethodName := ⟨R_Mod, "changes", "()I"⟩
abbrev w_Mod_changes : List Cond := .code y_Mod_changes b_Mod_changes 3 (some .int) :: lw_tb
abbrev b_Mod_isChanged : ByteArray := prog_6_method_8_code
def y_Mod_isChanged : MethodName := ⟨R_Mod, "isChanged", "(I)Z"⟩
abbrev w_Mod_isChanged : List Cond := .code y_Mod_isChanged b_Mod_isChanged 4 (some .boolean) :: lw_tb
abbrev b_Mod_byteOf : ByteArray := prog_6_method_7_code
def y_Mod_byteOf : MethodName := ⟨R_Mod, "byteOf", "(II)I"⟩
abbrev w_Mod_byteOf : List Cond := .code y_Mod_byteOf b_Mod_byteOf 3 (some .int) :: lw_tb
abbrev b_Mod_nodeByte : ByteArray := prog_6_method_5_code
def y_Mod_nodeByte : MethodName := ⟨R_Mod, "nodeByte", "(II)I"⟩
abbrev w_Mod_nodeByte : List Cond := .code y_Mod_nodeByte b_Mod_nodeByte 6 (some .int) :: lw_tb
abbrev b_Mod_mapByte : ByteArray := prog_6_method_6_code
def y_Mod_mapByte : MethodName := ⟨R_Mod, "mapByte", "(I)I"⟩
abbrev w_Mod_mapByte : List Cond := .code y_Mod_mapByte b_Mod_mapByte 4 (some .int) :: lw_tb
abbrev b_Mod_copy : ByteArray := prog_6_method_10_code
def y_Mod_copy : MethodName := ⟨R_Mod, "copy", "([I[I)V"⟩
abbrev w_Mod_copy : List Cond := .code y_Mod_copy b_Mod_copy 3 none :: lw_tb
abbrev b_Mod_thrown : ByteArray := prog_6_method_2_code
def y_Mod_thrown : MethodName := ⟨R_Mod, "thrown", "()I"⟩
abbrev w_Mod_thrown : List Cond := .code y_Mod_thrown b_Mod_thrown 1 (some .int) :: lw_tb
abbrev b_Mod_feed : ByteArray := prog_6_method_40_code
def y_Mod_feed : MethodName := ⟨R_Mod, "feed", "(IJ)I"⟩
abbrev w_Mod_feed : List Cond := .code y_Mod_feed b_Mod_feed 5 (some .int) :: lw_tb
abbrev b_Mod_in : ByteArray := prog_6_method_4_code
def y_Mod_in : MethodName := ⟨R_Mod, "in", "(III)Z"⟩
abbrev w_Mod_in : List Cond := .code y_Mod_in b_Mod_in 3 (some .boolean) :: lw_tb
abbrev b_Mod_fails : ByteArray := prog_6_method_3_code
def y_Mod_fails : MethodName := ⟨R_Mod, "fails", "(ZI)Z"⟩
abbrev w_Mod_fails : List Cond := .code y_Mod_fails b_Mod_fails 3 (some .boolean) :: lw_tb
abbrev b_Mod_make : ByteArray := prog_6_method_43_code
def y_Mod_make : MethodName := ⟨R_Mod, "make", "(IIZ)I"⟩
abbrev w_Mod_make : List Cond := .code y_Mod_make b_Mod_make 4 (some .int) :: lw_tb
abbrev b_Mod_isBad : ByteArray := prog_6_method_41_code
def y_Mod_isBad : MethodName := ⟨R_Mod, "isBad", "(I)Z"⟩
abbrev w_Mod_isBad : List Cond := .code y_Mod_isBad b_Mod_isBad 1 (some .boolean) :: lw_tb
abbrev b_Mod_isBadName : ByteArray := prog_6_method_42_code
def y_Mod_isBadName : MethodName := ⟨R_Mod, "isBadName", "(I)Z"⟩
abbrev w_Mod_isBadName : List Cond := .code y_Mod_isBadName b_Mod_isBadName 1 (some .boolean) :: lw_tb
abbrev b_Mod_does : ByteArray := prog_6_method_39_code
def y_Mod_does : MethodName := ⟨R_Mod, "does", "(IIIII)I"⟩
abbrev w_Mod_does : List Cond := .code y_Mod_does b_Mod_does 7 (some .int) :: lw_tb
abbrev b_Mod_keepsAside : ByteArray := prog_6_method_12_code
def y_Mod_keepsAside : MethodName := ⟨R_Mod, "keepsAside", "()V"⟩
abbrev w_Mod_keepsAside : List Cond := .code y_Mod_keepsAside b_Mod_keepsAside 1 none :: lw_tb
abbrev b_Mod_tries : ByteArray := prog_6_method_38_code
def y_Mod_tries : MethodName := ⟨R_Mod, "tries", "(IIIII)I"⟩
abbrev w_Mod_tries : List Cond := .code y_Mod_tries b_Mod_tries 6 (some .int) :: lw_tb
abbrev b_Mod_makes : ByteArray := prog_6_method_33_code
def y_Mod_makes : MethodName := ⟨R_Mod, "makes", "(IIZ)I"⟩
abbrev w_Mod_makes : List Cond := .code y_Mod_makes b_Mod_makes 5 (some .int) :: lw_tb
abbrev b_Mod_badDirectory : ByteArray := prog_6_method_30_code
def y_Mod_badDirectory : MethodName := ⟨R_Mod, "badDirectory", "(I)I"⟩
abbrev w_Mod_badDirectory : List Cond := .code y_Mod_badDirectory b_Mod_badDirectory 2 (some .int) :: lw_tb
abbrev b_Mod_kind : ByteArray := prog_6_method_14_code
def y_Mod_kind : MethodName := ⟨R_Mod, "kind", "(I)I"⟩
abbrev w_Mod_kind : List Cond := .code y_Mod_kind b_Mod_kind 2 (some .int) :: lw_tb
abbrev b_Mod_entryOf : ByteArray := prog_6_method_25_code
def y_Mod_entryOf : MethodName := ⟨R_Mod, "entryOf", "(II)I"⟩
abbrev w_Mod_entryOf : List Cond := .code y_Mod_entryOf b_Mod_entryOf 4 (some .int) :: lw_tb
abbrev b_Mod_sizeOf : ByteArray := prog_6_method_15_code
def y_Mod_sizeOf : MethodName := ⟨R_Mod, "sizeOf", "(I)I"⟩
abbrev w_Mod_sizeOf : List Cond := .code y_Mod_sizeOf b_Mod_sizeOf 2 (some .int) :: lw_tb
abbrev b_Mod_nameAt : ByteArray := prog_6_method_24_code
def y_Mod_nameAt : MethodName := ⟨R_Mod, "nameAt", "(II)I"⟩
abbrev w_Mod_nameAt : List Cond := .code y_Mod_nameAt b_Mod_nameAt 3 (some .int) :: lw_tb
abbrev b_Mod_get : ByteArray := prog_6_method_22_code
def y_Mod_get : MethodName := ⟨R_Mod, "get", "(II)I"⟩
abbrev w_Mod_get : List Cond := .code y_Mod_get b_Mod_get 3 (some .int) :: lw_tb
abbrev b_Mod_blockOf : ByteArray := prog_6_method_16_code
def y_Mod_blockOf : MethodName := ⟨R_Mod, "blockOf", "(II)I"⟩
abbrev w_Mod_blockOf : List Cond := .code y_Mod_blockOf b_Mod_blockOf 6 (some .int) :: lw_tb
abbrev b_Mod_adds : ByteArray := prog_6_method_28_code
def y_Mod_adds : MethodName := ⟨R_Mod, "adds", "(III)Z"⟩
abbrev w_Mod_adds : List Cond := .code y_Mod_adds b_Mod_adds 5 (some .boolean) :: lw_tb
abbrev b_Mod_sizes : ByteArray := prog_6_method_20_code
def y_Mod_sizes : MethodName := ⟨R_Mod, "sizes", "(II)Z"⟩
abbrev w_Mod_sizes : List Cond := .code y_Mod_sizes b_Mod_sizes 6 (some .boolean) :: lw_tb
abbrev b_Mod_blocksOf : ByteArray := prog_6_method_17_code
def y_Mod_blocksOf : MethodName := ⟨R_Mod, "blocksOf", "(I)I"⟩
abbrev w_Mod_blocksOf : List Cond := .code y_Mod_blocksOf b_Mod_blocksOf 4 (some .int) :: lw_tb
abbrev b_Mod_takes : ByteArray := prog_6_method_18_code
def y_Mod_takes : MethodName := ⟨R_Mod, "takes", "(I)Z"⟩
abbrev w_Mod_takes : List Cond := .code y_Mod_takes b_Mod_takes 8 (some .boolean) :: lw_tb
abbrev b_Mod_gives : ByteArray := prog_6_method_19_code
def y_Mod_gives : MethodName := ⟨R_Mod, "gives", "(I)V"⟩
abbrev w_Mod_gives : List Cond := .code y_Mod_gives b_Mod_gives 4 none :: lw_tb
abbrev b_Mod_put : ByteArray := prog_6_method_23_code
def y_Mod_put : MethodName := ⟨R_Mod, "put", "(III)V"⟩
abbrev w_Mod_put : List Cond := .code y_Mod_put b_Mod_put 4 none :: lw_tb
abbrev b_Mod_enters : ByteArray := prog_6_method_27_code
def y_Mod_enters : MethodName := ⟨R_Mod, "enters", "(IIII)V"⟩
abbrev w_Mod_enters : List Cond := .code y_Mod_enters b_Mod_enters 5 none :: lw_tb
abbrev b_Mod_writes : ByteArray := prog_6_method_34_code
def y_Mod_writes : MethodName := ⟨R_Mod, "writes", "(III)I"⟩
abbrev w_Mod_writes : List Cond := .code y_Mod_writes b_Mod_writes 6 (some .int) :: lw_tb
abbrev b_Mod_badFile : ByteArray := prog_6_method_31_code
def y_Mod_badFile : MethodName := ⟨R_Mod, "badFile", "(I)I"⟩
abbrev w_Mod_badFile : List Cond := .code y_Mod_badFile b_Mod_badFile 2 (some .int) :: lw_tb
abbrev b_Mod_cuts : ByteArray := prog_6_method_35_code
def y_Mod_cuts : MethodName := ⟨R_Mod, "cuts", "(II)I"⟩
abbrev w_Mod_cuts : List Cond := .code y_Mod_cuts b_Mod_cuts 3 (some .int) :: lw_tb
abbrev b_Mod_moves : ByteArray := prog_6_method_36_code
def y_Mod_moves : MethodName := ⟨R_Mod, "moves", "(IIII)I"⟩
abbrev w_Mod_moves : List Cond := .code y_Mod_moves b_Mod_moves 10 (some .int) :: lw_tb
abbrev b_Mod_inodeAt : ByteArray := prog_6_method_26_code
def y_Mod_inodeAt : MethodName := ⟨R_Mod, "inodeAt", "(II)I"⟩
abbrev w_Mod_inodeAt : List Cond := .code y_Mod_inodeAt b_Mod_inodeAt 3 (some .int) :: lw_tb
abbrev b_Mod_isEmpty : ByteArray := prog_6_method_29_code
def y_Mod_isEmpty : MethodName := ⟨R_Mod, "isEmpty", "(I)Z"⟩
abbrev w_Mod_isEmpty : List Cond := .code y_Mod_isEmpty b_Mod_isEmpty 4 (some .boolean) :: lw_tb
abbrev b_Mod_parentOf : ByteArray := prog_6_method_32_code
def y_Mod_parentOf : MethodName := ⟨R_Mod, "parentOf", "(I)I"⟩
abbrev w_Mod_parentOf : List Cond := .code y_Mod_parentOf b_Mod_parentOf 4 (some .int) :: lw_tb
abbrev b_Mod_frees : ByteArray := prog_6_method_21_code
def y_Mod_frees : MethodName := ⟨R_Mod, "frees", "(I)V"⟩
abbrev w_Mod_frees : List Cond := .code y_Mod_frees b_Mod_frees 3 none :: lw_tb
abbrev b_Mod_removes : ByteArray := prog_6_method_37_code
def y_Mod_removes : MethodName := ⟨R_Mod, "removes", "(II)I"⟩
abbrev w_Mod_removes : List Cond := .code y_Mod_removes b_Mod_removes 5 (some .int) :: lw_tb
abbrev b_Mod_bringsBack : ByteArray := prog_6_method_13_code
def y_Mod_bringsBack : MethodName := ⟨R_Mod, "bringsBack", "()V"⟩
abbrev w_Mod_bringsBack : List Cond := .code y_Mod_bringsBack b_Mod_bringsBack 1 none :: lw_tb
abbrev b_Mod_find : ByteArray := prog_6_method_44_code
def y_Mod_find : MethodName := ⟨R_Mod, "find", "(II)I"⟩
abbrev w_Mod_find : List Cond := .code y_Mod_find b_Mod_find 4 (some .int) :: lw_tb
abbrev b_Mod_write : ByteArray := prog_6_method_45_code
def y_Mod_write : MethodName := ⟨R_Mod, "write", "(II)I"⟩
abbrev w_Mod_write : List Cond := .code y_Mod_write b_Mod_write 4 (some .int) :: lw_tb
abbrev b_Mod_cut : ByteArray := prog_6_method_46_code
def y_Mod_cut : MethodName := ⟨R_Mod, "cut", "(II)I"⟩
abbrev w_Mod_cut : List Cond := .code y_Mod_cut b_Mod_cut 3 (some .int) :: lw_tb
abbrev b_Mod_read : ByteArray := prog_6_method_47_code
def y_Mod_read : MethodName := ⟨R_Mod, "read", "(II)J"⟩
abbrev w_Mod_read : List Cond := .code y_Mod_read b_Mod_read 6 (some .long) :: lw_tb
abbrev b_Mod_move : ByteArray := prog_6_method_48_code
def y_Mod_move : MethodName := ⟨R_Mod, "move", "(IIII)I"⟩
abbrev w_Mod_move : List Cond := .code y_Mod_move b_Mod_move 6 (some .int) :: lw_tb
abbrev b_Mod_remove : ByteArray := prog_6_method_49_code
def y_Mod_remove : MethodName := ⟨R_Mod, "remove", "(II)I"⟩
abbrev w_Mod_remove : List Cond := .code y_Mod_remove b_Mod_remove 3 (some .int) :: lw_tb
abbrev b_Mod_commit : ByteArray := prog_6_method_50_code
def y_Mod_commit : MethodName := ⟨R_Mod, "commit", "()I"⟩
abbrev w_Mod_commit : List Cond := .code y_Mod_commit b_Mod_commit 1 (some .int) :: lw_tb
abbrev b_Mod_drop : ByteArray := prog_6_method_51_code
def y_Mod_drop : MethodName := ⟨R_Mod, "drop", "()I"⟩
abbrev w_Mod_drop : List Cond := .code y_Mod_drop b_Mod_drop 2 (some .int) :: lw_tb
abbrev b_Mod_node : ByteArray := prog_6_method_52_code
def y_Mod_node : MethodName := ⟨R_Mod, "node", "(II)I"⟩
abbrev w_Mod_node : List Cond := .code y_Mod_node b_Mod_node 3 (some .int) :: lw_tb
abbrev b_Mod_at : ByteArray := prog_6_method_53_code
def y_Mod_at : MethodName := ⟨R_Mod, "at", "(IIZ)I"⟩
abbrev w_Mod_at : List Cond := .code y_Mod_at b_Mod_at 4 (some .int) :: lw_tb
abbrev b_Mod_changed : ByteArray := prog_6_method_54_code
def y_Mod_changed : MethodName := ⟨R_Mod, "changed", "(I)I"⟩
abbrev w_Mod_changed : List Cond := .code y_Mod_changed b_Mod_changed 4 (some .int) :: lw_tb
abbrev b_Mod_look : ByteArray := prog_6_method_55_code
def y_Mod_look : MethodName := ⟨R_Mod, "look", "(I)I"⟩
abbrev w_Mod_look : List Cond := .code y_Mod_look b_Mod_look 6 (some .int) :: lw_tb
theorem k_0 : (.selects R_Disk y_Disk_flipMapBit y_Disk_flipMapBit : Cond) ∈ lw_tb := tb_in (List.mem_of_getElem? (i := 0) (by decide +kernel)) (by decide +kernel)
theorem k_1 : (.selects R_Disk y_Disk_touch y_Disk_touch : Cond) ∈ lw_tb := tb_in (List.mem_of_getElem? (i := 1) (by decide +kernel)) (by decide +kernel)
theorem k_2 : (.selects R_Disk y_Disk_compare y_Disk_compare : Cond) ∈ lw_tb := tb_in (List.mem_of_getElem? (i := 2) (by decide +kernel)) (by decide +kernel)
theorem k_3 : (.selects R_Disk y_Disk_commitWhatWasBefore y_Disk_commitWhatWasBefore : Cond) ∈ lw_tb := tb_in (List.mem_of_getElem? (i := 3) (by decide +kernel)) (by decide +kernel)
theorem k_4 : (.selects R_Disk y_Disk_hasBlock y_Disk_hasBlock : Cond) ∈ lw_tb := tb_in (List.mem_of_getElem? (i := 4) (by decide +kernel)) (by decide +kernel)
theorem k_5 : (.selects R_Disk y_Disk_forgetTouched y_Disk_forgetTouched : Cond) ∈ lw_tb := tb_in (List.mem_of_getElem? (i := 5) (by decide +kernel)) (by decide +kernel)
theorem k_6 : (.selects R_Disk y_Disk_makeAlike y_Disk_makeAlike : Cond) ∈ lw_tb := tb_in (List.mem_of_getElem? (i := 6) (by decide +kernel)) (by decide +kernel)
theorem k_8 : (.selects R_Tree y_Tree_kindFault y_Tree_kindFault : Cond) ∈ lw_tb := tb_in (List.mem_of_getElem? (i := 8) (by decide +kernel)) (by decide +kernel)
theorem k_9 : (.selects R_Inodes y_Inodes_takeBlock y_Inodes_takeBlock : Cond) ∈ lw_tb := tb_in (List.mem_of_getElem? (i := 9) (by decide +kernel)) (by decide +kernel)
theorem k_10 : (.selects R_Inodes y_Inodes_giveBlockBack y_Inodes_giveBlockBack : Cond) ∈ lw_tb := tb_in (List.mem_of_getElem? (i := 10) (by decide +kernel)) (by decide +kernel)
theorem k_11 : (.selects R_Tree y_Tree_entryOrFault y_Tree_entryOrFault : Cond) ∈ lw_tb := tb_in (List.mem_of_getElem? (i := 11) (by decide +kernel)) (by decide +kernel)
theorem k_12 : (.selects R_Tree y_Tree_moveFault y_Tree_moveFault : Cond) ∈ lw_tb := tb_in (List.mem_of_getElem? (i := 12) (by decide +kernel)) (by decide +kernel)
theorem k_13 : (.selects R_Tree y_Tree_hasEntries y_Tree_hasEntries : Cond) ∈ lw_tb := tb_in (List.mem_of_getElem? (i := 13) (by decide +kernel)) (by decide +kernel)
theorem k_14 : (.selects R_Dirs y_Dirs_fillParents y_Dirs_fillParents : Cond) ∈ lw_tb := tb_in (List.mem_of_getElem? (i := 14) (by decide +kernel)) (by decide +kernel)
theorem k_51 : (.initialized R_Tree : Cond) ∈ lw_tb := tb_in (List.mem_of_getElem? (i := 51) (by decide +kernel)) (by decide +kernel)
theorem k_52 : (.initialized R_Disk : Cond) ∈ lw_tb := tb_in (List.mem_of_getElem? (i := 52) (by decide +kernel)) (by decide +kernel)
theorem k_53 : (.initialized "java/lang/System" : Cond) ∈ lw_tb := tb_in (List.mem_of_getElem? (i := 53) (by decide +kernel)) (by decide +kernel)
theorem k_54 : (.initialized R_Inodes : Cond) ∈ lw_tb := tb_in (List.mem_of_getElem? (i := 54) (by decide +kernel)) (by decide +kernel)
theorem k_55 : (.initialized R_Dirs : Cond) ∈ lw_tb := tb_in (List.mem_of_getElem? (i := 55) (by decide +kernel)) (by decide +kernel)
theorem k_62 : (.initialized "java/lang/Math" : Cond) ∈ lw_tb := tb_in (List.mem_of_getElem? (i := 62) (by decide +kernel)) (by decide +kernel)
theorem k_78 : (.methodLink R_Disk 35 y_Disk_flipMapBit : Cond) ∈ lw_tb := tb_in (List.mem_of_getElem? (i := 78) (by decide +kernel)) (by decide +kernel)
theorem k_80 : (.instanceMethod y_Disk_flipMapBit : Cond) ∈ lw_tb := tb_in (List.mem_of_getElem? (i := 80) (by decide +kernel)) (by decide +kernel)
theorem k_81 : (.code y_Disk_flipMapBit b_Disk_flipMapBit 2 none : Cond) ∈ lw_tb := tb_in (List.mem_of_getElem? (i := 81) (by decide +kernel)) (by decide +kernel)
theorem k_82 : (.methodLink R_Disk 47 y_Disk_touch : Cond) ∈ lw_tb := tb_in (List.mem_of_getElem? (i := 82) (by decide +kernel)) (by decide +kernel)
theorem k_84 : (.instanceMethod y_Disk_touch : Cond) ∈ lw_tb := tb_in (List.mem_of_getElem? (i := 84) (by decide +kernel)) (by decide +kernel)
theorem k_85 : (.code y_Disk_touch b_Disk_touch 2 none : Cond) ∈ lw_tb := tb_in (List.mem_of_getElem? (i := 85) (by decide +kernel)) (by decide +kernel)
theorem k_86 : (.methodLink R_Disk 85 arraycopyName : Cond) ∈ lw_tb := tb_in (List.mem_of_getElem? (i := 86) (by decide +kernel)) (by decide +kernel)
theorem k_87 : (.static arraycopyName : Cond) ∈ lw_tb := tb_in (List.mem_of_getElem? (i := 87) (by decide +kernel)) (by decide +kernel)
theorem k_88 : (.native arraycopyName : Cond) ∈ lw_tb := tb_in (List.mem_of_getElem? (i := 88) (by decide +kernel)) (by decide +kernel)
theorem k_89 : (.methodLink R_Disk 58 y_Disk_mapLongOf : Cond) ∈ lw_tb := tb_in (List.mem_of_getElem? (i := 89) (by decide +kernel)) (by decide +kernel)
theorem k_90 : (.static y_Disk_mapLongOf : Cond) ∈ lw_tb := tb_in (List.mem_of_getElem? (i := 90) (by decide +kernel)) (by decide +kernel)
theorem k_91 : (.code y_Disk_mapLongOf b_Disk_mapLongOf 1 (some .int) : Cond) ∈ lw_tb := tb_in (List.mem_of_getElem? (i := 91) (by decide +kernel)) (by decide +kernel)
theorem k_92 : (.fieldLink R_Disk 9 "TreeFiles$Disk" "blocks" "I" : Cond) ∈ lw_tb := tb_in (List.mem_of_getElem? (i := 92) (by decide +kernel)) (by decide +kernel)
theorem k_93 : (.fieldLink R_Disk 15 "TreeFiles$Disk" "now" "[J" : Cond) ∈ lw_tb := tb_in (List.mem_of_getElem? (i := 93) (by decide +kernel)) (by decide +kernel)
theorem k_94 : (.fieldLink R_Disk 19 "TreeFiles$Disk" "committed" "[J" : Cond) ∈ lw_tb := tb_in (List.mem_of_getElem? (i := 94) (by decide +kernel)) (by decide +kernel)
theorem k_95 : (.fieldLink R_Disk 22 "TreeFiles$Disk" "before" "[J" : Cond) ∈ lw_tb := tb_in (List.mem_of_getElem? (i := 95) (by decide +kernel)) (by decide +kernel)
theorem k_96 : (.fieldLink R_Disk 25 "TreeFiles$Disk" "touched" "[Z" : Cond) ∈ lw_tb := tb_in (List.mem_of_getElem? (i := 96) (by decide +kernel)) (by decide +kernel)
theorem k_97 : (.fieldLink R_Disk 29 "TreeFiles$Disk" "differs" "[Z" : Cond) ∈ lw_tb := tb_in (List.mem_of_getElem? (i := 97) (by decide +kernel)) (by decide +kernel)
theorem k_98 : (.fieldLink R_Disk 32 "TreeFiles$Disk" "earlyCommits" "I" : Cond) ∈ lw_tb := tb_in (List.mem_of_getElem? (i := 98) (by decide +kernel)) (by decide +kernel)
theorem k_122 : (.fieldLink R_Inodes 9 "TreeFiles$Inodes" "disk" "LTreeFiles$Disk;" : Cond) ∈ lw_tb := tb_in (List.mem_of_getElem? (i := 122) (by decide +kernel)) (by decide +kernel)
theorem k_132 : (.fieldLink R_Dirs 9 "TreeFiles$Directories" "disk" "LTreeFiles$Disk;" : Cond) ∈ lw_tb := tb_in (List.mem_of_getElem? (i := 132) (by decide +kernel)) (by decide +kernel)
theorem k_133 : (.fieldLink R_Dirs 15 "TreeFiles$Directories" "inodes" "LTreeFiles$Inodes;" : Cond) ∈ lw_tb := tb_in (List.mem_of_getElem? (i := 133) (by decide +kernel)) (by decide +kernel)
theorem k_134 : (.fieldLink R_Dirs 19 "TreeFiles$Directories" "parents" "[I" : Cond) ∈ lw_tb := tb_in (List.mem_of_getElem? (i := 134) (by decide +kernel)) (by decide +kernel)
theorem k_143 : (.methodLink R_Tree 44 y_Inodes_begin : Cond) ∈ lw_tb := tb_in (List.mem_of_getElem? (i := 143) (by decide +kernel)) (by decide +kernel)
theorem k_144 : (.instanceMethod y_Inodes_begin : Cond) ∈ lw_tb := tb_in (List.mem_of_getElem? (i := 144) (by decide +kernel)) (by decide +kernel)
theorem k_145 : (.selects R_Inodes y_Inodes_begin y_Inodes_begin : Cond) ∈ lw_tb := tb_in (List.mem_of_getElem? (i := 145) (by decide +kernel)) (by decide +kernel)
theorem k_146 : (.code y_Inodes_begin b_Inodes_begin 3 none : Cond) ∈ lw_tb := tb_in (List.mem_of_getElem? (i := 146) (by decide +kernel)) (by decide +kernel)
theorem k_147 : (.methodLink R_Inodes 15 y_Inodes_inodePlace : Cond) ∈ lw_tb := tb_in (List.mem_of_getElem? (i := 147) (by decide +kernel)) (by decide +kernel)
theorem k_148 : (.static y_Inodes_inodePlace : Cond) ∈ lw_tb := tb_in (List.mem_of_getElem? (i := 148) (by decide +kernel)) (by decide +kernel)
theorem k_149 : (.code y_Inodes_inodePlace b_Inodes_inodePlace 1 (some .int) : Cond) ∈ lw_tb := tb_in (List.mem_of_getElem? (i := 149) (by decide +kernel)) (by decide +kernel)
theorem k_150 : (.methodLink R_Inodes 34 y_Disk_setByte : Cond) ∈ lw_tb := tb_in (List.mem_of_getElem? (i := 150) (by decide +kernel)) (by decide +kernel)
theorem k_151 : (.instanceMethod y_Disk_setByte : Cond) ∈ lw_tb := tb_in (List.mem_of_getElem? (i := 151) (by decide +kernel)) (by decide +kernel)
theorem k_152 : (.selects R_Disk y_Disk_setByte y_Disk_setByte : Cond) ∈ lw_tb := tb_in (List.mem_of_getElem? (i := 152) (by decide +kernel)) (by decide +kernel)
theorem k_153 : (.code y_Disk_setByte b_Disk_setByte 6 none : Cond) ∈ lw_tb := tb_in (List.mem_of_getElem? (i := 153) (by decide +kernel)) (by decide +kernel)
theorem k_154 : (.constantLong R_Disk 50 (255) : Cond) ∈ lw_tb := tb_in (List.mem_of_getElem? (i := 154) (by decide +kernel)) (by decide +kernel)
theorem k_155 : (.constantLong R_Disk 52 (-1) : Cond) ∈ lw_tb := tb_in (List.mem_of_getElem? (i := 155) (by decide +kernel)) (by decide +kernel)
theorem k_156 : (.methodLink R_Tree 48 y_Disk_settle : Cond) ∈ lw_tb := tb_in (List.mem_of_getElem? (i := 156) (by decide +kernel)) (by decide +kernel)
theorem k_157 : (.instanceMethod y_Disk_settle : Cond) ∈ lw_tb := tb_in (List.mem_of_getElem? (i := 157) (by decide +kernel)) (by decide +kernel)
theorem k_158 : (.selects R_Disk y_Disk_settle y_Disk_settle : Cond) ∈ lw_tb := tb_in (List.mem_of_getElem? (i := 158) (by decide +kernel)) (by decide +kernel)
theorem k_159 : (.code y_Disk_settle b_Disk_settle 2 none : Cond) ∈ lw_tb := tb_in (List.mem_of_getElem? (i := 159) (by decide +kernel)) (by decide +kernel)
theorem k_160 : (.methodLink R_Disk 68 y_Disk_compare : Cond) ∈ lw_tb := tb_in (List.mem_of_getElem? (i := 160) (by decide +kernel)) (by decide +kernel)
theorem k_162 : (.instanceMethod y_Disk_compare : Cond) ∈ lw_tb := tb_in (List.mem_of_getElem? (i := 162) (by decide +kernel)) (by decide +kernel)
theorem k_163 : (.code y_Disk_compare b_Disk_compare 5 none : Cond) ∈ lw_tb := tb_in (List.mem_of_getElem? (i := 163) (by decide +kernel)) (by decide +kernel)
theorem k_164 : (.methodLink R_Disk 71 y_Disk_differingBlocks : Cond) ∈ lw_tb := tb_in (List.mem_of_getElem? (i := 164) (by decide +kernel)) (by decide +kernel)
theorem k_165 : (.instanceMethod y_Disk_differingBlocks : Cond) ∈ lw_tb := tb_in (List.mem_of_getElem? (i := 165) (by decide +kernel)) (by decide +kernel)
theorem k_166 : (.selects R_Disk y_Disk_differingBlocks y_Disk_differingBlocks : Cond) ∈ lw_tb := tb_in (List.mem_of_getElem? (i := 166) (by decide +kernel)) (by decide +kernel)
theorem k_167 : (.code y_Disk_differingBlocks b_Disk_differingBlocks 3 (some .int) : Cond) ∈ lw_tb := tb_in (List.mem_of_getElem? (i := 167) (by decide +kernel)) (by decide +kernel)
theorem k_168 : (.methodLink R_Disk 75 y_Disk_commitWhatWasBefore : Cond) ∈ lw_tb := tb_in (List.mem_of_getElem? (i := 168) (by decide +kernel)) (by decide +kernel)
theorem k_170 : (.instanceMethod y_Disk_commitWhatWasBefore : Cond) ∈ lw_tb := tb_in (List.mem_of_getElem? (i := 170) (by decide +kernel)) (by decide +kernel)
theorem k_171 : (.code y_Disk_commitWhatWasBefore b_Disk_commitWhatWasBefore 2 none : Cond) ∈ lw_tb := tb_in (List.mem_of_getElem? (i := 171) (by decide +kernel)) (by decide +kernel)
theorem k_172 : (.methodLink R_Disk 64 y_Disk_copyBlock : Cond) ∈ lw_tb := tb_in (List.mem_of_getElem? (i := 172) (by decide +kernel)) (by decide +kernel)
theorem k_173 : (.static y_Disk_copyBlock : Cond) ∈ lw_tb := tb_in (List.mem_of_getElem? (i := 173) (by decide +kernel)) (by decide +kernel)
theorem k_174 : (.code y_Disk_copyBlock b_Disk_copyBlock 3 none : Cond) ∈ lw_tb := tb_in (List.mem_of_getElem? (i := 174) (by decide +kernel)) (by decide +kernel)
theorem k_175 : (.methodLink R_Disk 61 y_Disk_isFree : Cond) ∈ lw_tb := tb_in (List.mem_of_getElem? (i := 175) (by decide +kernel)) (by decide +kernel)
theorem k_176 : (.instanceMethod y_Disk_isFree : Cond) ∈ lw_tb := tb_in (List.mem_of_getElem? (i := 176) (by decide +kernel)) (by decide +kernel)
theorem k_177 : (.selects R_Disk y_Disk_isFree y_Disk_isFree : Cond) ∈ lw_tb := tb_in (List.mem_of_getElem? (i := 177) (by decide +kernel)) (by decide +kernel)
theorem k_178 : (.code y_Disk_isFree b_Disk_isFree 2 (some .boolean) : Cond) ∈ lw_tb := tb_in (List.mem_of_getElem? (i := 178) (by decide +kernel)) (by decide +kernel)
theorem k_179 : (.methodLink R_Disk 39 y_Disk_hasBlock : Cond) ∈ lw_tb := tb_in (List.mem_of_getElem? (i := 179) (by decide +kernel)) (by decide +kernel)
theorem k_181 : (.instanceMethod y_Disk_hasBlock : Cond) ∈ lw_tb := tb_in (List.mem_of_getElem? (i := 181) (by decide +kernel)) (by decide +kernel)
theorem k_182 : (.code y_Disk_hasBlock b_Disk_hasBlock 2 (some .boolean) : Cond) ∈ lw_tb := tb_in (List.mem_of_getElem? (i := 182) (by decide +kernel)) (by decide +kernel)
theorem k_183 : (.methodLink R_Disk 78 y_Disk_forgetTouched : Cond) ∈ lw_tb := tb_in (List.mem_of_getElem? (i := 183) (by decide +kernel)) (by decide +kernel)
theorem k_185 : (.instanceMethod y_Disk_forgetTouched : Cond) ∈ lw_tb := tb_in (List.mem_of_getElem? (i := 185) (by decide +kernel)) (by decide +kernel)
theorem k_186 : (.code y_Disk_forgetTouched b_Disk_forgetTouched 2 none : Cond) ∈ lw_tb := tb_in (List.mem_of_getElem? (i := 186) (by decide +kernel)) (by decide +kernel)
theorem k_187 : (.methodLink R_Tree 51 y_Disk_commitAll : Cond) ∈ lw_tb := tb_in (List.mem_of_getElem? (i := 187) (by decide +kernel)) (by decide +kernel)
theorem k_188 : (.instanceMethod y_Disk_commitAll : Cond) ∈ lw_tb := tb_in (List.mem_of_getElem? (i := 188) (by decide +kernel)) (by decide +kernel)
theorem k_189 : (.selects R_Disk y_Disk_commitAll y_Disk_commitAll : Cond) ∈ lw_tb := tb_in (List.mem_of_getElem? (i := 189) (by decide +kernel)) (by decide +kernel)
theorem k_190 : (.code y_Disk_commitAll b_Disk_commitAll 1 none : Cond) ∈ lw_tb := tb_in (List.mem_of_getElem? (i := 190) (by decide +kernel)) (by decide +kernel)
theorem k_191 : (.methodLink R_Disk 81 y_Disk_makeAlike : Cond) ∈ lw_tb := tb_in (List.mem_of_getElem? (i := 191) (by decide +kernel)) (by decide +kernel)
theorem k_193 : (.instanceMethod y_Disk_makeAlike : Cond) ∈ lw_tb := tb_in (List.mem_of_getElem? (i := 193) (by decide +kernel)) (by decide +kernel)
theorem k_194 : (.code y_Disk_makeAlike b_Disk_makeAlike 4 none : Cond) ∈ lw_tb := tb_in (List.mem_of_getElem? (i := 194) (by decide +kernel)) (by decide +kernel)
theorem k_195 : (.fieldLink R_Tree 12 "TreeFiles" "disk" "LTreeFiles$Disk;" : Cond) ∈ lw_tb := tb_in (List.mem_of_getElem? (i := 195) (by decide +kernel)) (by decide +kernel)
theorem k_196 : (.fieldLink R_Tree 23 "TreeFiles" "inodes" "LTreeFiles$Inodes;" : Cond) ∈ lw_tb := tb_in (List.mem_of_getElem? (i := 196) (by decide +kernel)) (by decide +kernel)
theorem k_197 : (.fieldLink R_Tree 32 "TreeFiles" "directories" "LTreeFiles$Directories;" : Cond) ∈ lw_tb := tb_in (List.mem_of_getElem? (i := 197) (by decide +kernel)) (by decide +kernel)
theorem k_198 : (.fieldLink R_Tree 36 "TreeFiles" "tape" "[I" : Cond) ∈ lw_tb := tb_in (List.mem_of_getElem? (i := 198) (by decide +kernel)) (by decide +kernel)
theorem k_199 : (.fieldLink R_Tree 40 "TreeFiles" "tapeLength" "I" : Cond) ∈ lw_tb := tb_in (List.mem_of_getElem? (i := 199) (by decide +kernel)) (by decide +kernel)
theorem k_215 : (.methodLink R_Tree 141 y_Disk_differingBlocks : Cond) ∈ lw_tb := tb_in (List.mem_of_getElem? (i := 215) (by decide +kernel)) (by decide +kernel)
theorem k_220 : (.methodLink R_Tree 144 y_Disk_dropAll : Cond) ∈ lw_tb := tb_in (List.mem_of_getElem? (i := 220) (by decide +kernel)) (by decide +kernel)
theorem k_221 : (.instanceMethod y_Disk_dropAll : Cond) ∈ lw_tb := tb_in (List.mem_of_getElem? (i := 221) (by decide +kernel)) (by decide +kernel)
theorem k_222 : (.selects R_Disk y_Disk_dropAll y_Disk_dropAll : Cond) ∈ lw_tb := tb_in (List.mem_of_getElem? (i := 222) (by decide +kernel)) (by decide +kernel)
theorem k_223 : (.code y_Disk_dropAll b_Disk_dropAll 1 none : Cond) ∈ lw_tb := tb_in (List.mem_of_getElem? (i := 223) (by decide +kernel)) (by decide +kernel)
theorem k_327 : (.methodLink R_Tree 66 y_Tree_checkInode : Cond) ∈ lw_tb := tb_in (List.mem_of_getElem? (i := 327) (by decide +kernel)) (by decide +kernel)
theorem k_328 : (.static y_Tree_checkInode : Cond) ∈ lw_tb := tb_in (List.mem_of_getElem? (i := 328) (by decide +kernel)) (by decide +kernel)
theorem k_329 : (.code y_Tree_checkInode b_Tree_checkInode 1 none : Cond) ∈ lw_tb := tb_in (List.mem_of_getElem? (i := 329) (by decide +kernel)) (by decide +kernel)
theorem k_331 : (.methodLink R_Tree 69 y_Tree_checkName : Cond) ∈ lw_tb := tb_in (List.mem_of_getElem? (i := 331) (by decide +kernel)) (by decide +kernel)
theorem k_332 : (.static y_Tree_checkName : Cond) ∈ lw_tb := tb_in (List.mem_of_getElem? (i := 332) (by decide +kernel)) (by decide +kernel)
theorem k_333 : (.code y_Tree_checkName b_Tree_checkName 1 none : Cond) ∈ lw_tb := tb_in (List.mem_of_getElem? (i := 333) (by decide +kernel)) (by decide +kernel)
theorem k_334 : (.constant R_Tree 190 (65535) : Cond) ∈ lw_tb := tb_in (List.mem_of_getElem? (i := 334) (by decide +kernel)) (by decide +kernel)
theorem k_336 : (.methodLink R_Tree 72 y_Tree_kindFault : Cond) ∈ lw_tb := tb_in (List.mem_of_getElem? (i := 336) (by decide +kernel)) (by decide +kernel)
theorem k_338 : (.instanceMethod y_Tree_kindFault : Cond) ∈ lw_tb := tb_in (List.mem_of_getElem? (i := 338) (by decide +kernel)) (by decide +kernel)
theorem k_339 : (.code y_Tree_kindFault b_Tree_kindFault 4 (some .int) : Cond) ∈ lw_tb := tb_in (List.mem_of_getElem? (i := 339) (by decide +kernel)) (by decide +kernel)
theorem k_340 : (.methodLink R_Tree 152 y_Inodes_kind : Cond) ∈ lw_tb := tb_in (List.mem_of_getElem? (i := 340) (by decide +kernel)) (by decide +kernel)
theorem k_341 : (.instanceMethod y_Inodes_kind : Cond) ∈ lw_tb := tb_in (List.mem_of_getElem? (i := 341) (by decide +kernel)) (by decide +kernel)
theorem k_342 : (.selects R_Inodes y_Inodes_kind y_Inodes_kind : Cond) ∈ lw_tb := tb_in (List.mem_of_getElem? (i := 342) (by decide +kernel)) (by decide +kernel)
theorem k_343 : (.code y_Inodes_kind b_Inodes_kind 2 (some .int) : Cond) ∈ lw_tb := tb_in (List.mem_of_getElem? (i := 343) (by decide +kernel)) (by decide +kernel)
theorem k_344 : (.methodLink R_Inodes 19 y_Disk_byteAt : Cond) ∈ lw_tb := tb_in (List.mem_of_getElem? (i := 344) (by decide +kernel)) (by decide +kernel)
theorem k_345 : (.instanceMethod y_Disk_byteAt : Cond) ∈ lw_tb := tb_in (List.mem_of_getElem? (i := 345) (by decide +kernel)) (by decide +kernel)
theorem k_346 : (.selects R_Disk y_Disk_byteAt y_Disk_byteAt : Cond) ∈ lw_tb := tb_in (List.mem_of_getElem? (i := 346) (by decide +kernel)) (by decide +kernel)
theorem k_347 : (.code y_Disk_byteAt b_Disk_byteAt 2 (some .int) : Cond) ∈ lw_tb := tb_in (List.mem_of_getElem? (i := 347) (by decide +kernel)) (by decide +kernel)
theorem k_348 : (.methodLink R_Tree 76 y_Dirs_entryNamed : Cond) ∈ lw_tb := tb_in (List.mem_of_getElem? (i := 348) (by decide +kernel)) (by decide +kernel)
theorem k_349 : (.instanceMethod y_Dirs_entryNamed : Cond) ∈ lw_tb := tb_in (List.mem_of_getElem? (i := 349) (by decide +kernel)) (by decide +kernel)
theorem k_350 : (.selects R_Dirs y_Dirs_entryNamed y_Dirs_entryNamed : Cond) ∈ lw_tb := tb_in (List.mem_of_getElem? (i := 350) (by decide +kernel)) (by decide +kernel)
theorem k_351 : (.code y_Dirs_entryNamed b_Dirs_entryNamed 6 (some .int) : Cond) ∈ lw_tb := tb_in (List.mem_of_getElem? (i := 351) (by decide +kernel)) (by decide +kernel)
theorem k_352 : (.methodLink R_Dirs 23 y_Inodes_size : Cond) ∈ lw_tb := tb_in (List.mem_of_getElem? (i := 352) (by decide +kernel)) (by decide +kernel)
theorem k_353 : (.instanceMethod y_Inodes_size : Cond) ∈ lw_tb := tb_in (List.mem_of_getElem? (i := 353) (by decide +kernel)) (by decide +kernel)
theorem k_354 : (.selects R_Inodes y_Inodes_size y_Inodes_size : Cond) ∈ lw_tb := tb_in (List.mem_of_getElem? (i := 354) (by decide +kernel)) (by decide +kernel)
theorem k_355 : (.code y_Inodes_size b_Inodes_size 2 (some .int) : Cond) ∈ lw_tb := tb_in (List.mem_of_getElem? (i := 355) (by decide +kernel)) (by decide +kernel)
theorem k_356 : (.methodLink R_Inodes 24 y_Disk_pairAt : Cond) ∈ lw_tb := tb_in (List.mem_of_getElem? (i := 356) (by decide +kernel)) (by decide +kernel)
theorem k_357 : (.instanceMethod y_Disk_pairAt : Cond) ∈ lw_tb := tb_in (List.mem_of_getElem? (i := 357) (by decide +kernel)) (by decide +kernel)
theorem k_358 : (.selects R_Disk y_Disk_pairAt y_Disk_pairAt : Cond) ∈ lw_tb := tb_in (List.mem_of_getElem? (i := 358) (by decide +kernel)) (by decide +kernel)
theorem k_359 : (.code y_Disk_pairAt b_Disk_pairAt 2 (some .int) : Cond) ∈ lw_tb := tb_in (List.mem_of_getElem? (i := 359) (by decide +kernel)) (by decide +kernel)
theorem k_360 : (.methodLink R_Disk 43 y_Disk_byteAt : Cond) ∈ lw_tb := tb_in (List.mem_of_getElem? (i := 360) (by decide +kernel)) (by decide +kernel)
theorem k_361 : (.methodLink R_Dirs 29 y_Inodes_placeOf : Cond) ∈ lw_tb := tb_in (List.mem_of_getElem? (i := 361) (by decide +kernel)) (by decide +kernel)
theorem k_362 : (.instanceMethod y_Inodes_placeOf : Cond) ∈ lw_tb := tb_in (List.mem_of_getElem? (i := 362) (by decide +kernel)) (by decide +kernel)
theorem k_363 : (.selects R_Inodes y_Inodes_placeOf y_Inodes_placeOf : Cond) ∈ lw_tb := tb_in (List.mem_of_getElem? (i := 363) (by decide +kernel)) (by decide +kernel)
theorem k_364 : (.code y_Inodes_placeOf b_Inodes_placeOf 7 (some .int) : Cond) ∈ lw_tb := tb_in (List.mem_of_getElem? (i := 364) (by decide +kernel)) (by decide +kernel)
theorem k_365 : (.methodLink R_Inodes 67 y_Inodes_extents : Cond) ∈ lw_tb := tb_in (List.mem_of_getElem? (i := 365) (by decide +kernel)) (by decide +kernel)
theorem k_366 : (.instanceMethod y_Inodes_extents : Cond) ∈ lw_tb := tb_in (List.mem_of_getElem? (i := 366) (by decide +kernel)) (by decide +kernel)
theorem k_367 : (.selects R_Inodes y_Inodes_extents y_Inodes_extents : Cond) ∈ lw_tb := tb_in (List.mem_of_getElem? (i := 367) (by decide +kernel)) (by decide +kernel)
theorem k_368 : (.code y_Inodes_extents b_Inodes_extents 2 (some .int) : Cond) ∈ lw_tb := tb_in (List.mem_of_getElem? (i := 368) (by decide +kernel)) (by decide +kernel)
theorem k_369 : (.methodLink R_Inodes 70 y_Inodes_extentLength : Cond) ∈ lw_tb := tb_in (List.mem_of_getElem? (i := 369) (by decide +kernel)) (by decide +kernel)
theorem k_370 : (.instanceMethod y_Inodes_extentLength : Cond) ∈ lw_tb := tb_in (List.mem_of_getElem? (i := 370) (by decide +kernel)) (by decide +kernel)
theorem k_371 : (.selects R_Inodes y_Inodes_extentLength y_Inodes_extentLength : Cond) ∈ lw_tb := tb_in (List.mem_of_getElem? (i := 371) (by decide +kernel)) (by decide +kernel)
theorem k_372 : (.code y_Inodes_extentLength b_Inodes_extentLength 3 (some .int) : Cond) ∈ lw_tb := tb_in (List.mem_of_getElem? (i := 372) (by decide +kernel)) (by decide +kernel)
theorem k_373 : (.methodLink R_Inodes 27 y_Inodes_extentPlace : Cond) ∈ lw_tb := tb_in (List.mem_of_getElem? (i := 373) (by decide +kernel)) (by decide +kernel)
theorem k_374 : (.static y_Inodes_extentPlace : Cond) ∈ lw_tb := tb_in (List.mem_of_getElem? (i := 374) (by decide +kernel)) (by decide +kernel)
theorem k_375 : (.code y_Inodes_extentPlace b_Inodes_extentPlace 2 (some .int) : Cond) ∈ lw_tb := tb_in (List.mem_of_getElem? (i := 375) (by decide +kernel)) (by decide +kernel)
theorem k_376 : (.methodLink R_Inodes 73 y_Inodes_extentFirst : Cond) ∈ lw_tb := tb_in (List.mem_of_getElem? (i := 376) (by decide +kernel)) (by decide +kernel)
theorem k_377 : (.instanceMethod y_Inodes_extentFirst : Cond) ∈ lw_tb := tb_in (List.mem_of_getElem? (i := 377) (by decide +kernel)) (by decide +kernel)
theorem k_378 : (.selects R_Inodes y_Inodes_extentFirst y_Inodes_extentFirst : Cond) ∈ lw_tb := tb_in (List.mem_of_getElem? (i := 378) (by decide +kernel)) (by decide +kernel)
theorem k_379 : (.code y_Inodes_extentFirst b_Inodes_extentFirst 3 (some .int) : Cond) ∈ lw_tb := tb_in (List.mem_of_getElem? (i := 379) (by decide +kernel)) (by decide +kernel)
theorem k_380 : (.methodLink R_Dirs 33 y_Disk_pairAt : Cond) ∈ lw_tb := tb_in (List.mem_of_getElem? (i := 380) (by decide +kernel)) (by decide +kernel)
theorem k_381 : (.methodLink R_Tree 79 y_Inodes_leastFree : Cond) ∈ lw_tb := tb_in (List.mem_of_getElem? (i := 381) (by decide +kernel)) (by decide +kernel)
theorem k_382 : (.instanceMethod y_Inodes_leastFree : Cond) ∈ lw_tb := tb_in (List.mem_of_getElem? (i := 382) (by decide +kernel)) (by decide +kernel)
theorem k_383 : (.selects R_Inodes y_Inodes_leastFree y_Inodes_leastFree : Cond) ∈ lw_tb := tb_in (List.mem_of_getElem? (i := 383) (by decide +kernel)) (by decide +kernel)
theorem k_384 : (.code y_Inodes_leastFree b_Inodes_leastFree 2 (some .int) : Cond) ∈ lw_tb := tb_in (List.mem_of_getElem? (i := 384) (by decide +kernel)) (by decide +kernel)
theorem k_385 : (.methodLink R_Inodes 31 y_Inodes_kind : Cond) ∈ lw_tb := tb_in (List.mem_of_getElem? (i := 385) (by decide +kernel)) (by decide +kernel)
theorem k_386 : (.methodLink R_Tree 83 y_Dirs_addEntry : Cond) ∈ lw_tb := tb_in (List.mem_of_getElem? (i := 386) (by decide +kernel)) (by decide +kernel)
theorem k_387 : (.instanceMethod y_Dirs_addEntry : Cond) ∈ lw_tb := tb_in (List.mem_of_getElem? (i := 387) (by decide +kernel)) (by decide +kernel)
theorem k_388 : (.selects R_Dirs y_Dirs_addEntry y_Dirs_addEntry : Cond) ∈ lw_tb := tb_in (List.mem_of_getElem? (i := 388) (by decide +kernel)) (by decide +kernel)
theorem k_389 : (.code y_Dirs_addEntry b_Dirs_addEntry 6 (some .boolean) : Cond) ∈ lw_tb := tb_in (List.mem_of_getElem? (i := 389) (by decide +kernel)) (by decide +kernel)
theorem k_390 : (.methodLink R_Dirs 41 y_Dirs_entryNamed : Cond) ∈ lw_tb := tb_in (List.mem_of_getElem? (i := 390) (by decide +kernel)) (by decide +kernel)
theorem k_391 : (.methodLink R_Dirs 44 y_Inodes_resize : Cond) ∈ lw_tb := tb_in (List.mem_of_getElem? (i := 391) (by decide +kernel)) (by decide +kernel)
theorem k_392 : (.instanceMethod y_Inodes_resize : Cond) ∈ lw_tb := tb_in (List.mem_of_getElem? (i := 392) (by decide +kernel)) (by decide +kernel)
theorem k_393 : (.selects R_Inodes y_Inodes_resize y_Inodes_resize : Cond) ∈ lw_tb := tb_in (List.mem_of_getElem? (i := 393) (by decide +kernel)) (by decide +kernel)
theorem k_394 : (.code y_Inodes_resize b_Inodes_resize 8 (some .boolean) : Cond) ∈ lw_tb := tb_in (List.mem_of_getElem? (i := 394) (by decide +kernel)) (by decide +kernel)
theorem k_395 : (.methodLink R_Inodes 42 y_Inodes_size : Cond) ∈ lw_tb := tb_in (List.mem_of_getElem? (i := 395) (by decide +kernel)) (by decide +kernel)
theorem k_396 : (.methodLink R_Inodes 45 y_Inodes_blocksFor : Cond) ∈ lw_tb := tb_in (List.mem_of_getElem? (i := 396) (by decide +kernel)) (by decide +kernel)
theorem k_397 : (.static y_Inodes_blocksFor : Cond) ∈ lw_tb := tb_in (List.mem_of_getElem? (i := 397) (by decide +kernel)) (by decide +kernel)
theorem k_398 : (.code y_Inodes_blocksFor b_Inodes_blocksFor 1 (some .int) : Cond) ∈ lw_tb := tb_in (List.mem_of_getElem? (i := 398) (by decide +kernel)) (by decide +kernel)
theorem k_399 : (.methodLink R_Inodes 48 y_Inodes_takeBlock : Cond) ∈ lw_tb := tb_in (List.mem_of_getElem? (i := 399) (by decide +kernel)) (by decide +kernel)
theorem k_401 : (.instanceMethod y_Inodes_takeBlock : Cond) ∈ lw_tb := tb_in (List.mem_of_getElem? (i := 401) (by decide +kernel)) (by decide +kernel)
theorem k_402 : (.code y_Inodes_takeBlock b_Inodes_takeBlock 5 (some .boolean) : Cond) ∈ lw_tb := tb_in (List.mem_of_getElem? (i := 402) (by decide +kernel)) (by decide +kernel)
theorem k_403 : (.methodLink R_Inodes 76 y_Disk_isFree : Cond) ∈ lw_tb := tb_in (List.mem_of_getElem? (i := 403) (by decide +kernel)) (by decide +kernel)
theorem k_404 : (.methodLink R_Inodes 79 y_Disk_takeBlock : Cond) ∈ lw_tb := tb_in (List.mem_of_getElem? (i := 404) (by decide +kernel)) (by decide +kernel)
theorem k_405 : (.instanceMethod y_Disk_takeBlock : Cond) ∈ lw_tb := tb_in (List.mem_of_getElem? (i := 405) (by decide +kernel)) (by decide +kernel)
theorem k_406 : (.selects R_Disk y_Disk_takeBlock y_Disk_takeBlock : Cond) ∈ lw_tb := tb_in (List.mem_of_getElem? (i := 406) (by decide +kernel)) (by decide +kernel)
theorem k_407 : (.code y_Disk_takeBlock b_Disk_takeBlock 3 none : Cond) ∈ lw_tb := tb_in (List.mem_of_getElem? (i := 407) (by decide +kernel)) (by decide +kernel)
theorem k_408 : (.methodLink R_Inodes 81 y_Disk_leastFree : Cond) ∈ lw_tb := tb_in (List.mem_of_getElem? (i := 408) (by decide +kernel)) (by decide +kernel)
theorem k_409 : (.instanceMethod y_Disk_leastFree : Cond) ∈ lw_tb := tb_in (List.mem_of_getElem? (i := 409) (by decide +kernel)) (by decide +kernel)
theorem k_410 : (.selects R_Disk y_Disk_leastFree y_Disk_leastFree : Cond) ∈ lw_tb := tb_in (List.mem_of_getElem? (i := 410) (by decide +kernel)) (by decide +kernel)
theorem k_411 : (.code y_Disk_leastFree b_Disk_leastFree 2 (some .int) : Cond) ∈ lw_tb := tb_in (List.mem_of_getElem? (i := 411) (by decide +kernel)) (by decide +kernel)
theorem k_412 : (.methodLink R_Inodes 64 y_Disk_setPair : Cond) ∈ lw_tb := tb_in (List.mem_of_getElem? (i := 412) (by decide +kernel)) (by decide +kernel)
theorem k_413 : (.instanceMethod y_Disk_setPair : Cond) ∈ lw_tb := tb_in (List.mem_of_getElem? (i := 413) (by decide +kernel)) (by decide +kernel)
theorem k_414 : (.selects R_Disk y_Disk_setPair y_Disk_setPair : Cond) ∈ lw_tb := tb_in (List.mem_of_getElem? (i := 414) (by decide +kernel)) (by decide +kernel)
theorem k_415 : (.code y_Disk_setPair b_Disk_setPair 3 none : Cond) ∈ lw_tb := tb_in (List.mem_of_getElem? (i := 415) (by decide +kernel)) (by decide +kernel)
theorem k_416 : (.methodLink R_Disk 54 y_Disk_setByte : Cond) ∈ lw_tb := tb_in (List.mem_of_getElem? (i := 416) (by decide +kernel)) (by decide +kernel)
theorem k_417 : (.methodLink R_Inodes 52 y_Inodes_giveBlockBack : Cond) ∈ lw_tb := tb_in (List.mem_of_getElem? (i := 417) (by decide +kernel)) (by decide +kernel)
theorem k_419 : (.instanceMethod y_Inodes_giveBlockBack : Cond) ∈ lw_tb := tb_in (List.mem_of_getElem? (i := 419) (by decide +kernel)) (by decide +kernel)
theorem k_420 : (.code y_Inodes_giveBlockBack b_Inodes_giveBlockBack 4 none : Cond) ∈ lw_tb := tb_in (List.mem_of_getElem? (i := 420) (by decide +kernel)) (by decide +kernel)
theorem k_421 : (.methodLink R_Inodes 85 y_Disk_giveBlockBack : Cond) ∈ lw_tb := tb_in (List.mem_of_getElem? (i := 421) (by decide +kernel)) (by decide +kernel)
theorem k_422 : (.instanceMethod y_Disk_giveBlockBack : Cond) ∈ lw_tb := tb_in (List.mem_of_getElem? (i := 422) (by decide +kernel)) (by decide +kernel)
theorem k_423 : (.selects R_Disk y_Disk_giveBlockBack y_Disk_giveBlockBack : Cond) ∈ lw_tb := tb_in (List.mem_of_getElem? (i := 423) (by decide +kernel)) (by decide +kernel)
theorem k_424 : (.code y_Disk_giveBlockBack b_Disk_giveBlockBack 2 none : Cond) ∈ lw_tb := tb_in (List.mem_of_getElem? (i := 424) (by decide +kernel)) (by decide +kernel)
theorem k_425 : (.methodLink R_Inodes 56 Lib.Math.min.name : Cond) ∈ lw_tb := tb_in (List.mem_of_getElem? (i := 425) (by decide +kernel)) (by decide +kernel)
theorem k_426 : (.static Lib.Math.min.name : Cond) ∈ lw_tb := tb_in (List.mem_of_getElem? (i := 426) (by decide +kernel)) (by decide +kernel)
theorem k_427 : (.code Lib.Math.min.name Lib.Math.min.code 2 (some .int) : Cond) ∈ lw_tb := tb_in (List.mem_of_getElem? (i := 427) (by decide +kernel)) (by decide +kernel)
theorem k_428 : (.methodLink R_Inodes 61 y_Inodes_placeOf : Cond) ∈ lw_tb := tb_in (List.mem_of_getElem? (i := 428) (by decide +kernel)) (by decide +kernel)
theorem k_429 : (.methodLink R_Dirs 48 y_Dirs_setEntry : Cond) ∈ lw_tb := tb_in (List.mem_of_getElem? (i := 429) (by decide +kernel)) (by decide +kernel)
theorem k_430 : (.instanceMethod y_Dirs_setEntry : Cond) ∈ lw_tb := tb_in (List.mem_of_getElem? (i := 430) (by decide +kernel)) (by decide +kernel)
theorem k_431 : (.selects R_Dirs y_Dirs_setEntry y_Dirs_setEntry : Cond) ∈ lw_tb := tb_in (List.mem_of_getElem? (i := 431) (by decide +kernel)) (by decide +kernel)
theorem k_432 : (.code y_Dirs_setEntry b_Dirs_setEntry 4 none : Cond) ∈ lw_tb := tb_in (List.mem_of_getElem? (i := 432) (by decide +kernel)) (by decide +kernel)
theorem k_433 : (.methodLink R_Dirs 52 y_Disk_setPair : Cond) ∈ lw_tb := tb_in (List.mem_of_getElem? (i := 433) (by decide +kernel)) (by decide +kernel)
theorem k_434 : (.methodLink R_Dirs 56 y_Disk_setByte : Cond) ∈ lw_tb := tb_in (List.mem_of_getElem? (i := 434) (by decide +kernel)) (by decide +kernel)
theorem k_435 : (.methodLink R_Tree 87 y_Disk_undo : Cond) ∈ lw_tb := tb_in (List.mem_of_getElem? (i := 435) (by decide +kernel)) (by decide +kernel)
theorem k_436 : (.instanceMethod y_Disk_undo : Cond) ∈ lw_tb := tb_in (List.mem_of_getElem? (i := 436) (by decide +kernel)) (by decide +kernel)
theorem k_437 : (.selects R_Disk y_Disk_undo y_Disk_undo : Cond) ∈ lw_tb := tb_in (List.mem_of_getElem? (i := 437) (by decide +kernel)) (by decide +kernel)
theorem k_438 : (.code y_Disk_undo b_Disk_undo 2 none : Cond) ∈ lw_tb := tb_in (List.mem_of_getElem? (i := 438) (by decide +kernel)) (by decide +kernel)
theorem k_446 : (.methodLink R_Tree 90 y_Tree_entryOrFault : Cond) ∈ lw_tb := tb_in (List.mem_of_getElem? (i := 446) (by decide +kernel)) (by decide +kernel)
theorem k_448 : (.instanceMethod y_Tree_entryOrFault : Cond) ∈ lw_tb := tb_in (List.mem_of_getElem? (i := 448) (by decide +kernel)) (by decide +kernel)
theorem k_449 : (.code y_Tree_entryOrFault b_Tree_entryOrFault 5 (some .int) : Cond) ∈ lw_tb := tb_in (List.mem_of_getElem? (i := 449) (by decide +kernel)) (by decide +kernel)
theorem k_450 : (.methodLink R_Tree 93 y_Dirs_inodeOf : Cond) ∈ lw_tb := tb_in (List.mem_of_getElem? (i := 450) (by decide +kernel)) (by decide +kernel)
theorem k_451 : (.instanceMethod y_Dirs_inodeOf : Cond) ∈ lw_tb := tb_in (List.mem_of_getElem? (i := 451) (by decide +kernel)) (by decide +kernel)
theorem k_452 : (.selects R_Dirs y_Dirs_inodeOf y_Dirs_inodeOf : Cond) ∈ lw_tb := tb_in (List.mem_of_getElem? (i := 452) (by decide +kernel)) (by decide +kernel)
theorem k_453 : (.code y_Dirs_inodeOf b_Dirs_inodeOf 2 (some .int) : Cond) ∈ lw_tb := tb_in (List.mem_of_getElem? (i := 453) (by decide +kernel)) (by decide +kernel)
theorem k_454 : (.methodLink R_Dirs 38 y_Disk_byteAt : Cond) ∈ lw_tb := tb_in (List.mem_of_getElem? (i := 454) (by decide +kernel)) (by decide +kernel)
theorem k_462 : (.methodLink R_Tree 97 y_Inodes_size : Cond) ∈ lw_tb := tb_in (List.mem_of_getElem? (i := 462) (by decide +kernel)) (by decide +kernel)
theorem k_463 : (.methodLink R_Tree 100 Lib.Math.max.name : Cond) ∈ lw_tb := tb_in (List.mem_of_getElem? (i := 463) (by decide +kernel)) (by decide +kernel)
theorem k_464 : (.static Lib.Math.max.name : Cond) ∈ lw_tb := tb_in (List.mem_of_getElem? (i := 464) (by decide +kernel)) (by decide +kernel)
theorem k_465 : (.code Lib.Math.max.name Lib.Math.max.code 2 (some .int) : Cond) ∈ lw_tb := tb_in (List.mem_of_getElem? (i := 465) (by decide +kernel)) (by decide +kernel)
theorem k_466 : (.methodLink R_Tree 105 y_Inodes_resize : Cond) ∈ lw_tb := tb_in (List.mem_of_getElem? (i := 466) (by decide +kernel)) (by decide +kernel)
theorem k_467 : (.methodLink R_Tree 109 y_Inodes_placeOf : Cond) ∈ lw_tb := tb_in (List.mem_of_getElem? (i := 467) (by decide +kernel)) (by decide +kernel)
theorem k_468 : (.methodLink R_Tree 112 y_Disk_setByte : Cond) ∈ lw_tb := tb_in (List.mem_of_getElem? (i := 468) (by decide +kernel)) (by decide +kernel)
theorem k_500 : (.methodLink R_Tree 120 y_Disk_byteAt : Cond) ∈ lw_tb := tb_in (List.mem_of_getElem? (i := 500) (by decide +kernel)) (by decide +kernel)
theorem k_508 : (.methodLink R_Tree 123 y_Tree_moveFault : Cond) ∈ lw_tb := tb_in (List.mem_of_getElem? (i := 508) (by decide +kernel)) (by decide +kernel)
theorem k_510 : (.instanceMethod y_Tree_moveFault : Cond) ∈ lw_tb := tb_in (List.mem_of_getElem? (i := 510) (by decide +kernel)) (by decide +kernel)
theorem k_511 : (.code y_Tree_moveFault b_Tree_moveFault 6 (some .int) : Cond) ∈ lw_tb := tb_in (List.mem_of_getElem? (i := 511) (by decide +kernel)) (by decide +kernel)
theorem k_512 : (.methodLink R_Tree 137 y_Tree_hasEntries : Cond) ∈ lw_tb := tb_in (List.mem_of_getElem? (i := 512) (by decide +kernel)) (by decide +kernel)
theorem k_514 : (.instanceMethod y_Tree_hasEntries : Cond) ∈ lw_tb := tb_in (List.mem_of_getElem? (i := 514) (by decide +kernel)) (by decide +kernel)
theorem k_515 : (.code y_Tree_hasEntries b_Tree_hasEntries 2 (some .boolean) : Cond) ∈ lw_tb := tb_in (List.mem_of_getElem? (i := 515) (by decide +kernel)) (by decide +kernel)
theorem k_516 : (.methodLink R_Tree 196 y_Dirs_isEmpty : Cond) ∈ lw_tb := tb_in (List.mem_of_getElem? (i := 516) (by decide +kernel)) (by decide +kernel)
theorem k_517 : (.instanceMethod y_Dirs_isEmpty : Cond) ∈ lw_tb := tb_in (List.mem_of_getElem? (i := 517) (by decide +kernel)) (by decide +kernel)
theorem k_518 : (.selects R_Dirs y_Dirs_isEmpty y_Dirs_isEmpty : Cond) ∈ lw_tb := tb_in (List.mem_of_getElem? (i := 518) (by decide +kernel)) (by decide +kernel)
theorem k_519 : (.code y_Dirs_isEmpty b_Dirs_isEmpty 4 (some .boolean) : Cond) ∈ lw_tb := tb_in (List.mem_of_getElem? (i := 519) (by decide +kernel)) (by decide +kernel)
theorem k_520 : (.methodLink R_Tree 193 y_Dirs_isWithin : Cond) ∈ lw_tb := tb_in (List.mem_of_getElem? (i := 520) (by decide +kernel)) (by decide +kernel)
theorem k_521 : (.instanceMethod y_Dirs_isWithin : Cond) ∈ lw_tb := tb_in (List.mem_of_getElem? (i := 521) (by decide +kernel)) (by decide +kernel)
theorem k_522 : (.selects R_Dirs y_Dirs_isWithin y_Dirs_isWithin : Cond) ∈ lw_tb := tb_in (List.mem_of_getElem? (i := 522) (by decide +kernel)) (by decide +kernel)
theorem k_523 : (.code y_Dirs_isWithin b_Dirs_isWithin 5 (some .boolean) : Cond) ∈ lw_tb := tb_in (List.mem_of_getElem? (i := 523) (by decide +kernel)) (by decide +kernel)
theorem k_524 : (.methodLink R_Dirs 59 y_Dirs_fillParents : Cond) ∈ lw_tb := tb_in (List.mem_of_getElem? (i := 524) (by decide +kernel)) (by decide +kernel)
theorem k_526 : (.instanceMethod y_Dirs_fillParents : Cond) ∈ lw_tb := tb_in (List.mem_of_getElem? (i := 526) (by decide +kernel)) (by decide +kernel)
theorem k_527 : (.code y_Dirs_fillParents b_Dirs_fillParents 5 none : Cond) ∈ lw_tb := tb_in (List.mem_of_getElem? (i := 527) (by decide +kernel)) (by decide +kernel)
theorem k_528 : (.methodLink R_Dirs 62 y_Inodes_kind : Cond) ∈ lw_tb := tb_in (List.mem_of_getElem? (i := 528) (by decide +kernel)) (by decide +kernel)
theorem k_529 : (.methodLink R_Dirs 65 y_Dirs_inodeOf : Cond) ∈ lw_tb := tb_in (List.mem_of_getElem? (i := 529) (by decide +kernel)) (by decide +kernel)
theorem k_530 : (.methodLink R_Tree 127 y_Dirs_clearEntry : Cond) ∈ lw_tb := tb_in (List.mem_of_getElem? (i := 530) (by decide +kernel)) (by decide +kernel)
theorem k_531 : (.instanceMethod y_Dirs_clearEntry : Cond) ∈ lw_tb := tb_in (List.mem_of_getElem? (i := 531) (by decide +kernel)) (by decide +kernel)
theorem k_532 : (.selects R_Dirs y_Dirs_clearEntry y_Dirs_clearEntry : Cond) ∈ lw_tb := tb_in (List.mem_of_getElem? (i := 532) (by decide +kernel)) (by decide +kernel)
theorem k_533 : (.code y_Dirs_clearEntry b_Dirs_clearEntry 2 none : Cond) ∈ lw_tb := tb_in (List.mem_of_getElem? (i := 533) (by decide +kernel)) (by decide +kernel)
theorem k_534 : (.methodLink R_Tree 130 y_Inodes_release : Cond) ∈ lw_tb := tb_in (List.mem_of_getElem? (i := 534) (by decide +kernel)) (by decide +kernel)
theorem k_535 : (.instanceMethod y_Inodes_release : Cond) ∈ lw_tb := tb_in (List.mem_of_getElem? (i := 535) (by decide +kernel)) (by decide +kernel)
theorem k_536 : (.selects R_Inodes y_Inodes_release y_Inodes_release : Cond) ∈ lw_tb := tb_in (List.mem_of_getElem? (i := 536) (by decide +kernel)) (by decide +kernel)
theorem k_537 : (.code y_Inodes_release b_Inodes_release 2 none : Cond) ∈ lw_tb := tb_in (List.mem_of_getElem? (i := 537) (by decide +kernel)) (by decide +kernel)
theorem k_538 : (.methodLink R_Inodes 38 y_Inodes_resize : Cond) ∈ lw_tb := tb_in (List.mem_of_getElem? (i := 538) (by decide +kernel)) (by decide +kernel)
theorem k_539 : (.methodLink R_Tree 133 y_Dirs_setEntry : Cond) ∈ lw_tb := tb_in (List.mem_of_getElem? (i := 539) (by decide +kernel)) (by decide +kernel)
theorem k_554 : (.methodLink R_Tree 147 y_Inodes_extents : Cond) ∈ lw_tb := tb_in (List.mem_of_getElem? (i := 554) (by decide +kernel)) (by decide +kernel)
theorem k_556 : (.methodLink R_Tree 155 y_Inodes_extentFirst : Cond) ∈ lw_tb := tb_in (List.mem_of_getElem? (i := 556) (by decide +kernel)) (by decide +kernel)
theorem k_557 : (.methodLink R_Tree 158 y_Inodes_extentLength : Cond) ∈ lw_tb := tb_in (List.mem_of_getElem? (i := 557) (by decide +kernel)) (by decide +kernel)
theorem k_565 : (.methodLink R_Tree 161 y_Disk_hasByte : Cond) ∈ lw_tb := tb_in (List.mem_of_getElem? (i := 565) (by decide +kernel)) (by decide +kernel)
theorem k_566 : (.instanceMethod y_Disk_hasByte : Cond) ∈ lw_tb := tb_in (List.mem_of_getElem? (i := 566) (by decide +kernel)) (by decide +kernel)
theorem k_567 : (.selects R_Disk y_Disk_hasByte y_Disk_hasByte : Cond) ∈ lw_tb := tb_in (List.mem_of_getElem? (i := 567) (by decide +kernel)) (by decide +kernel)
theorem k_568 : (.code y_Disk_hasByte b_Disk_hasByte 3 (some .boolean) : Cond) ∈ lw_tb := tb_in (List.mem_of_getElem? (i := 568) (by decide +kernel)) (by decide +kernel)
theorem k_570 : (.methodLink R_Tree 166 y_Disk_committedByteAt : Cond) ∈ lw_tb := tb_in (List.mem_of_getElem? (i := 570) (by decide +kernel)) (by decide +kernel)
theorem k_571 : (.instanceMethod y_Disk_committedByteAt : Cond) ∈ lw_tb := tb_in (List.mem_of_getElem? (i := 571) (by decide +kernel)) (by decide +kernel)
theorem k_572 : (.selects R_Disk y_Disk_committedByteAt y_Disk_committedByteAt : Cond) ∈ lw_tb := tb_in (List.mem_of_getElem? (i := 572) (by decide +kernel)) (by decide +kernel)
theorem k_573 : (.code y_Disk_committedByteAt b_Disk_committedByteAt 2 (some .int) : Cond) ∈ lw_tb := tb_in (List.mem_of_getElem? (i := 573) (by decide +kernel)) (by decide +kernel)
theorem k_581 : (.methodLink R_Tree 169 y_Disk_differingBlock : Cond) ∈ lw_tb := tb_in (List.mem_of_getElem? (i := 581) (by decide +kernel)) (by decide +kernel)
theorem k_582 : (.instanceMethod y_Disk_differingBlock : Cond) ∈ lw_tb := tb_in (List.mem_of_getElem? (i := 582) (by decide +kernel)) (by decide +kernel)
theorem k_583 : (.selects R_Disk y_Disk_differingBlock y_Disk_differingBlock : Cond) ∈ lw_tb := tb_in (List.mem_of_getElem? (i := 583) (by decide +kernel)) (by decide +kernel)
theorem k_584 : (.code y_Disk_differingBlock b_Disk_differingBlock 4 (some .int) : Cond) ∈ lw_tb := tb_in (List.mem_of_getElem? (i := 584) (by decide +kernel)) (by decide +kernel)
theorem k_593 : (.methodLink R_Tree 174 y_Disk_blocks : Cond) ∈ lw_tb := tb_in (List.mem_of_getElem? (i := 593) (by decide +kernel)) (by decide +kernel)
theorem k_594 : (.instanceMethod y_Disk_blocks : Cond) ∈ lw_tb := tb_in (List.mem_of_getElem? (i := 594) (by decide +kernel)) (by decide +kernel)
theorem k_595 : (.selects R_Disk y_Disk_blocks y_Disk_blocks : Cond) ∈ lw_tb := tb_in (List.mem_of_getElem? (i := 595) (by decide +kernel)) (by decide +kernel)
theorem k_596 : (.code y_Disk_blocks b_Disk_blocks 1 (some .int) : Cond) ∈ lw_tb := tb_in (List.mem_of_getElem? (i := 596) (by decide +kernel)) (by decide +kernel)
theorem k_597 : (.methodLink R_Tree 177 y_Disk_freeBlocks : Cond) ∈ lw_tb := tb_in (List.mem_of_getElem? (i := 597) (by decide +kernel)) (by decide +kernel)
theorem k_598 : (.instanceMethod y_Disk_freeBlocks : Cond) ∈ lw_tb := tb_in (List.mem_of_getElem? (i := 598) (by decide +kernel)) (by decide +kernel)
theorem k_599 : (.selects R_Disk y_Disk_freeBlocks y_Disk_freeBlocks : Cond) ∈ lw_tb := tb_in (List.mem_of_getElem? (i := 599) (by decide +kernel)) (by decide +kernel)
theorem k_600 : (.code y_Disk_freeBlocks b_Disk_freeBlocks 3 (some .int) : Cond) ∈ lw_tb := tb_in (List.mem_of_getElem? (i := 600) (by decide +kernel)) (by decide +kernel)
theorem k_601 : (.methodLink R_Tree 180 y_Inodes_ofKind : Cond) ∈ lw_tb := tb_in (List.mem_of_getElem? (i := 601) (by decide +kernel)) (by decide +kernel)
theorem k_602 : (.instanceMethod y_Inodes_ofKind : Cond) ∈ lw_tb := tb_in (List.mem_of_getElem? (i := 602) (by decide +kernel)) (by decide +kernel)
theorem k_603 : (.selects R_Inodes y_Inodes_ofKind y_Inodes_ofKind : Cond) ∈ lw_tb := tb_in (List.mem_of_getElem? (i := 603) (by decide +kernel)) (by decide +kernel)
theorem k_604 : (.code y_Inodes_ofKind b_Inodes_ofKind 4 (some .int) : Cond) ∈ lw_tb := tb_in (List.mem_of_getElem? (i := 604) (by decide +kernel)) (by decide +kernel)
theorem k_605 : (.methodLink R_Tree 183 y_Disk_earlyCommits : Cond) ∈ lw_tb := tb_in (List.mem_of_getElem? (i := 605) (by decide +kernel)) (by decide +kernel)
theorem k_606 : (.instanceMethod y_Disk_earlyCommits : Cond) ∈ lw_tb := tb_in (List.mem_of_getElem? (i := 606) (by decide +kernel)) (by decide +kernel)
theorem k_607 : (.selects R_Disk y_Disk_earlyCommits y_Disk_earlyCommits : Cond) ∈ lw_tb := tb_in (List.mem_of_getElem? (i := 607) (by decide +kernel)) (by decide +kernel)
theorem k_608 : (.code y_Disk_earlyCommits b_Disk_earlyCommits 1 (some .int) : Cond) ∈ lw_tb := tb_in (List.mem_of_getElem? (i := 608) (by decide +kernel)) (by decide +kernel)
