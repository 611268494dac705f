/-- the words of the tables that stay true -/
def lw_tb : List Cond := lw_tbl.filter goodWord
theorem tb_in {w : Cond} (h : w ∈ lw_tbl) (hg : goodWord w = true) : w ∈ lw_tb := List.mem_filter.mpr ⟨h, hg⟩
theorem tb_good {big ws : List Cond} (hb : ∀ w ∈ lw_tb, w ∈ big) (h : ∀ w ∈ ws, w ∈ lw_tb) : GoodIn big ws := fun w hw => ⟨hb w (h w hw), good_of_word (List.mem_filter.mp (h w hw)).2⟩
theorem gd_V {own C : String} {idx maxL : Nat} {y : MethodName} {bytes : ByteArray} {ret : Option FieldType} (h1 : Cond.methodLink own idx y ∈ lw_tb) (h2 : Cond.instanceMethod y ∈ lw_tb) (h3 : Cond.selects C y y ∈ lw_tb) (h4 : Cond.initialized C ∈ lw_tb) (h5 : Cond.code y bytes maxL ret ∈ lw_tb) : GoodIn lw_tb (wsV own idx C y (.code y bytes maxL ret :: lw_tb)) := by
  refine tb_good (fun _ h => h) (fun w hw => ?_)
  simp only [wsV, List.cons_append, List.nil_append, List.mem_cons] at hw
  rcases hw with rfl | rfl | rfl | rfl | rfl | h
  · exact h1
  · exact h2
  · exact h3
  · exact h4
  · exact h5
  · exact h
theorem gd_S {own : String} {idx maxL : Nat} {y : MethodName} {bytes : ByteArray} {ret : Option FieldType} (h1 : Cond.methodLink own idx y ∈ lw_tb) (h2 : Cond.static y ∈ lw_tb) (h4 : Cond.initialized own ∈ lw_tb) (h5 : Cond.code y bytes maxL ret ∈ lw_tb) : GoodIn lw_tb (wsS own idx y (.code y bytes maxL ret :: lw_tb)) := by
  refine tb_good (fun _ h => h) (fun w hw => ?_)
  simp only [wsS, List.cons_append, List.nil_append, List.mem_cons] at hw
  rcases hw with rfl | rfl | rfl | rfl | h
  · exact h1
  · exact h2
  · exact h4
  · exact h5
  · exact h
theorem gd_I {maxL : Nat} {y : MethodName} {bytes : ByteArray} {ret : Option FieldType} (h5 : Cond.code y bytes maxL ret ∈ lw_tb) : GoodIn lw_tb (.code y bytes maxL ret :: lw_tb) := tb_good (fun _ h => h) (fun w hw => (List.mem_cons.mp hw).elim (fun e => e ▸ h5) (fun h => h))
def R_Dirs : String := "TreeFiles$Directories"
def T_Dirs : u_T := fun k => match k with
  | 0 => ("TreeFiles$Directories", "disk", "LTreeFiles$Disk;", true)
  | 1 => ("TreeFiles$Directories", "inodes", "LTreeFiles$Inodes;", true)
  | _ => ("TreeFiles$Directories", "parents", "[I", true)
def t_Dirs : Nat → FieldType := fun k => match k with
  | 0 => .object "TreeFiles$Disk"
  | 1 => .object "TreeFiles$Inodes"
  | _ => .array .int
theorem n_Dirs : ∀ a, a < 3 → ∀ b, b < 3 → a ≠ b → (T_Dirs a).2.1 ≠ (T_Dirs b).2.1 := by decide +kernel
theorem t_Dirs_ok : ∀ k, k < 3 → parseFieldDescriptor (T_Dirs k).2.2.1 = some (t_Dirs k) := by decide +kernel
theorem in_Dirs : ∀ w ∈ u_ws R_Dirs T_Dirs 3, w ∈ lw_tb := fun w h => tb_in ((by decide +kernel : ∀ w ∈ u_ws R_Dirs T_Dirs 3, w ∈ lw_tbl) w h) ((by decide +kernel : ∀ w ∈ u_ws R_Dirs T_Dirs 3, goodWord w = true) w h)
def R_Disk : String := "TreeFiles$Disk"
def T_Disk : u_T := fun k => match k with
  | 0 => ("TreeFiles$Disk", "blocks", "I", true)
  | 1 => ("TreeFiles$Disk", "now", "[J", true)
  | 2 => ("TreeFiles$Disk", "committed", "[J", true)
  | 3 => ("TreeFiles$Disk", "before", "[J", true)
  | 4 => ("TreeFiles$Disk", "touched", "[Z", true)
  | 5 => ("TreeFiles$Disk", "differs", "[Z", true)
  | _ => ("TreeFiles$Disk", "earlyCommits", "I", false)
def t_Disk : Nat → FieldType := fun k => match k with
  | 0 => .int
  | 1 => .array .long
  | 2 => .array .long
  | 3 => .array .long
  | 4 => .array .boolean
  | 5 => .array .boolean
  | _ => .int
theorem n_Disk : ∀ a, a < 7 → ∀ b, b < 7 → a ≠ b → (T_Disk a).2.1 ≠ (T_Disk b).2.1 := by decide +kernel
theorem t_Disk_ok : ∀ k, k < 7 → parseFieldDescriptor (T_Disk k).2.2.1 = some (t_Disk k) := by decide +kernel
theorem in_Disk : ∀ w ∈ u_ws R_Disk T_Disk 7, w ∈ lw_tb := fun w h => tb_in ((by decide +kernel : ∀ w ∈ u_ws R_Disk T_Disk 7, w ∈ lw_tbl) w h) ((by decide +kernel : ∀ w ∈ u_ws R_Disk T_Disk 7, goodWord w = true) w h)
def R_Inodes : String := "TreeFiles$Inodes"
def T_Inodes : u_T := fun k => match k with
  | _ => ("TreeFiles$Inodes", "disk", "LTreeFiles$Disk;", true)
def t_Inodes : Nat → FieldType := fun k => match k with
  | _ => .object "TreeFiles$Disk"
theorem n_Inodes : ∀ a, a < 1 → ∀ b, b < 1 → a ≠ b → (T_Inodes a).2.1 ≠ (T_Inodes b).2.1 := by decide +kernel
theorem t_Inodes_ok : ∀ k, k < 1 → parseFieldDescriptor (T_Inodes k).2.2.1 = some (t_Inodes k) := by decide +kernel
theorem in_Inodes : ∀ w ∈ u_ws R_Inodes T_Inodes 1, w ∈ lw_tb := fun w h => tb_in ((by decide +kernel : ∀ w ∈ u_ws R_Inodes T_Inodes 1, w ∈ lw_tbl) w h) ((by decide +kernel : ∀ w ∈ u_ws R_Inodes T_Inodes 1, goodWord w = true) w h)
def R_Tree : String := "TreeFiles"
def T_Tree : u_T := fun k => match k with
  | 0 => ("TreeFiles", "disk", "LTreeFiles$Disk;", true)
  | 1 => ("TreeFiles", "inodes", "LTreeFiles$Inodes;", true)
  | 2 => ("TreeFiles", "directories", "LTreeFiles$Directories;", true)
  | 3 => ("TreeFiles", "tape", "[I", true)
  | _ => ("TreeFiles", "tapeLength", "I", false)
def t_Tree : Nat → FieldType := fun k => match k with
  | 0 => .object "TreeFiles$Disk"
  | 1 => .object "TreeFiles$Inodes"
  | 2 => .object "TreeFiles$Directories"
  | 3 => .array .int
  | _ => .int
theorem n_Tree : ∀ a, a < 5 → ∀ b, b < 5 → a ≠ b → (T_Tree a).2.1 ≠ (T_Tree b).2.1 := by decide +kernel
theorem t_Tree_ok : ∀ k, k < 5 → parseFieldDescriptor (T_Tree k).2.2.1 = some (t_Tree k) := by decide +kernel
theorem in_Tree : ∀ w ∈ u_ws R_Tree T_Tree 5, w ∈ lw_tb := fun w h => tb_in ((by decide +kernel : ∀ w ∈ u_ws R_Tree T_Tree 5, w ∈ lw_tbl) w h) ((by decide +kernel : ∀ w ∈ u_ws R_Tree T_Tree 5, goodWord w = true) w h)
def R_Mod : String := "TreeFilesModel"
def T_Mod : u_T := fun k => match k with
  | 0 => ("TreeFilesModel", "thrown", "I", false)
  | 1 => ("TreeFilesModel", "blocks", "I", true)
  | 2 => ("TreeFilesModel", "tape", "[I", true)
  | 3 => ("TreeFilesModel", "taped", "I", false)
  | 4 => ("TreeFilesModel", "node", "[I", true)
  | 5 => ("TreeFilesModel", "owner", "[I", true)
  | 6 => ("TreeFilesModel", "now", "[I", true)
  | 7 => ("TreeFilesModel", "keptNode", "[I", true)
  | 8 => ("TreeFilesModel", "keptOwner", "[I", true)
  | 9 => ("TreeFilesModel", "done", "[I", true)
  | 10 => ("TreeFilesModel", "asideNode", "[I", true)
  | 11 => ("TreeFilesModel", "asideOwner", "[I", true)
  | 12 => ("TreeFilesModel", "asideNow", "[I", true)
  | _ => ("TreeFilesModel", "commits", "I", false)
def t_Mod : Nat → FieldType := fun k => match k with
  | 0 => .int
  | 1 => .int
  | 2 => .array .int
  | 3 => .int
  | 4 => .array .int
  | 5 => .array .int
  | 6 => .array .int
  | 7 => .array .int
  | 8 => .array .int
  | 9 => .array .int
  | 10 => .array .int
  | 11 => .array .int
  | 12 => .array .int
  | _ => .int
theorem n_Mod : ∀ a, a < 14 → ∀ b, b < 14 → a ≠ b → (T_Mod a).2.1 ≠ (T_Mod b).2.1 := by decide +kernel
theorem t_Mod_ok : ∀ k, k < 14 → parseFieldDescriptor (T_Mod k).2.2.1 = some (t_Mod k) := by decide +kernel
theorem in_Mod : ∀ w ∈ u_ws R_Mod T_Mod 14, w ∈ lw_tb := fun w h => tb_in ((by decide +kernel : ∀ w ∈ u_ws R_Mod T_Mod 14, w ∈ lw_tbl) w h) ((by decide +kernel : ∀ w ∈ u_ws R_Mod T_Mod 14, goodWord w = true) w h)
def R_Law : String := "TreeFilesLaw"
abbrev cl5 : List vw_C := [(R_Dirs, T_Dirs, 3), (R_Disk, T_Disk, 7), (R_Inodes, T_Inodes, 1), (R_Tree, T_Tree, 5), (R_Mod, T_Mod, 14)]
abbrev b_Tree_init : ByteArray := prog_1_method_1_code
def y_Tree_init : MethodName := ⟨R_Tree, "<init>", "(I)V"⟩
abbrev w_Tree_init : List Cond := .code y_Tree_init b_Tree_init 2 none :: lw_tb
abbrev b_Disk_init : ByteArray := prog_3_method_1_code
def y_Disk_init : MethodName := ⟨R_Disk, "<init>", "(I)V"⟩
abbrev w_Disk_init : List Cond := .code y_Disk_init b_Disk_init 3 none :: lw_tb
abbrev b_Disk_flipMapBit : ByteArray := prog_3_method_24_code
def y_Disk_flipMapBit : MethodName := ⟨R_Disk, "flipMapBit", "(I)V"⟩
abbrev w_Disk_flipMapBit : List Cond := .code y_Disk_flipMapBit b_Disk_flipMapBit 2 none :: lw_tb
abbrev b_Disk_touch : ByteArray := prog_3_method_25_code
def y_Disk_touch : MethodName := ⟨R_Disk, "touch", "(I)V"⟩
abbrev w_Disk_touch : List Cond := .code y_Disk_touch b_Disk_touch 2 none :: lw_tb
abbrev b_Disk_mapLongOf : ByteArray := prog_3_method_28_code
def y_Disk_mapLongOf : MethodName := ⟨R_Disk, "mapLongOf", "(I)I"⟩
abbrev w_Disk_mapLongOf : List Cond := .code y_Disk_mapLongOf b_Disk_mapLongOf 1 (some .int) :: lw_tb
abbrev b_Inodes_init : ByteArray := prog_4_method_1_code
def y_Inodes_init : MethodName := ⟨R_Inodes, "<init>", "(LTreeFiles$Disk;)V"⟩
abbrev w_Inodes_init : List Cond := .code y_Inodes_init b_Inodes_init 2 none :: lw_tb
abbrev b_Dirs_init : ByteArray := prog_2_method_1_code
def y_Dirs_init : MethodName := ⟨R_Dirs, "<init>", "(LTreeFiles$Disk;LTreeFiles$Inodes;)V"⟩
abbrev w_Dirs_init : List Cond := .code y_Dirs_init b_Dirs_init 3 none :: lw_tb
abbrev b_Inodes_begin : ByteArray := prog_4_method_9_code
def y_Inodes_begin : MethodName := ⟨R_Inodes, "begin", "(II)V"⟩
abbrev w_Inodes_begin : List Cond := .code y_Inodes_begin b_Inodes_begin 3 none :: lw_tb
abbrev b_Inodes_inodePlace : ByteArray := prog_4_method_16_code
def y_Inodes_inodePlace : MethodName := ⟨R_Inodes, "inodePlace", "(I)I"⟩
abbrev w_Inodes_inodePlace : List Cond := .code y_Inodes_inodePlace b_Inodes_inodePlace 1 (some .int) :: lw_tb
abbrev b_Disk_setByte : ByteArray := prog_3_method_8_code
def y_Disk_setByte : MethodName := ⟨R_Disk, "setByte", "(II)V"⟩
abbrev w_Disk_setByte : List Cond := .code y_Disk_setByte b_Disk_setByte 6 none :: lw_tb
abbrev b_Disk_settle : ByteArray := prog_3_method_15_code
def y_Disk_settle : MethodName := ⟨R_Disk, "settle", "()V"⟩
abbrev w_Disk_settle : List Cond := .code y_Disk_settle b_Disk_settle 2 none :: lw_tb
abbrev b_Disk_compare : ByteArray := prog_3_method_23_code
def y_Disk_compare : MethodName := ⟨R_Disk, "compare", "(I)V"⟩
abbrev w_Disk_compare : List Cond := .code y_Disk_compare b_Disk_compare 5 none :: lw_tb
abbrev b_Disk_differingBlocks : ByteArray := prog_3_method_19_code
def y_Disk_differingBlocks : MethodName := ⟨R_Disk, "differingBlocks", "()I"⟩
abbrev w_Disk_differingBlocks : List Cond := .code y_Disk_differingBlocks b_Disk_differingBlocks 3 (some .int) :: lw_tb
abbrev b_Disk_commitWhatWasBefore : ByteArray := prog_3_method_22_code
def y_Disk_commitWhatWasBefore : MethodName := ⟨R_Disk, "commitWhatWasBefore", "()V"⟩
abbrev w_Disk_commitWhatWasBefore : List Cond := .code y_Disk_commitWhatWasBefore b_Disk_commitWhatWasBefore 2 none :: lw_tb
abbrev b_Disk_copyBlock : ByteArray := prog_3_method_29_code
def y_Disk_copyBlock : MethodName := ⟨R_Disk, "copyBlock", "([J[JI)V"⟩
abbrev w_Disk_copyBlock : List Cond := .code y_Disk_copyBlock b_Disk_copyBlock 3 none :: lw_tb
abbrev b_Disk_isFree : ByteArray := prog_3_method_10_code
def y_Disk_isFree : MethodName := ⟨R_Disk, "isFree", "(I)Z"⟩
abbrev w_Disk_isFree : List Cond := .code y_Disk_isFree b_Disk_isFree 2 (some .boolean) :: lw_tb
abbrev b_Disk_hasBlock : ByteArray := prog_3_method_27_code
def y_Disk_hasBlock : MethodName := ⟨R_Disk, "hasBlock", "(I)Z"⟩
abbrev w_Disk_hasBlock : List Cond := .code y_Disk_hasBlock b_Disk_hasBlock 2 (some .boolean) :: lw_tb
abbrev b_Disk_forgetTouched : ByteArray := prog_3_method_26_code
def y_Disk_forgetTouched : MethodName := ⟨R_Disk, "forgetTouched", "()V"⟩
abbrev w_Disk_forgetTouched : List Cond := .code y_Disk_forgetTouched b_Disk_forgetTouched 2 none :: lw_tb
abbrev b_Disk_commitAll : ByteArray := prog_3_method_17_code
def y_Disk_commitAll : MethodName := ⟨R_Disk, "commitAll", "()V"⟩
abbrev w_Disk_commitAll : List Cond := .code y_Disk_commitAll b_Disk_commitAll 1 none :: lw_tb
abbrev b_Disk_makeAlike : ByteArray := prog_3_method_21_code
def y_Disk_makeAlike : MethodName := ⟨R_Disk, "makeAlike", "([J[J)V"⟩
abbrev w_Disk_makeAlike : List Cond := .code y_Disk_makeAlike b_Disk_makeAlike 4 none :: lw_tb
abbrev b_Tree_commit : ByteArray := prog_1_method_10_code
def y_Tree_commit : MethodName := ⟨R_Tree, "commit", "()I"⟩
abbrev w_Tree_commit : List Cond := .code y_Tree_commit b_Tree_commit 2 (some .int) :: lw_tb
abbrev b_Tree_drop : ByteArray := prog_1_method_11_code
def y_Tree_drop : MethodName := ⟨R_Tree, "drop", "()I"⟩
abbrev w_Tree_drop : List Cond := .code y_Tree_drop b_Tree_drop 2 (some .int) :: lw_tb
abbrev b_Disk_dropAll : ByteArray := prog_3_method_18_code
def y_Disk_dropAll : MethodName := ⟨R_Disk, "dropAll", "()V"⟩
abbrev w_Disk_dropAll : List Cond := .code y_Disk_dropAll b_Disk_dropAll 1 none :: lw_tb
abbrev b_Law_cell : ByteArray := method_2_code
def y_Law_cell : MethodName := ⟨R_Law, "cell", "([II)I"⟩
abbrev w_Law_cell : List Cond := .code y_Law_cell b_Law_cell 2 (some .int) :: lw_tb
abbrev b_Law_feed : ByteArray := method_3_code
def y_Law_feed : MethodName := ⟨R_Law, "feed", "(LTreeFiles;IJ[J)I"⟩
abbrev b_Tree_feed : ByteArray := prog_1_method_2_code
def y_Tree_feed : MethodName := ⟨R_Tree, "feed", "(IJ)I"⟩
abbrev w_Tree_feed : List Cond := .code y_Tree_feed b_Tree_feed 5 (some .int) :: lw_tb
abbrev b_Law_make : ByteArray := method_4_code
def y_Law_make : MethodName := ⟨R_Law, "make", "(LTreeFiles;IIZ[J)I"⟩
abbrev b_Tree_make : ByteArray := prog_1_method_3_code
def y_Tree_make : MethodName := ⟨R_Tree, "make", "(IIZ)I"⟩
abbrev w_Tree_make : List Cond := .code y_Tree_make b_Tree_make 6 (some .int) :: lw_tb
abbrev b_Tree_checkInode : ByteArray := prog_1_method_16_code
def y_Tree_checkInode : MethodName := ⟨R_Tree, "checkInode", "(I)V"⟩
abbrev w_Tree_checkInode : List Cond := .code y_Tree_checkInode b_Tree_checkInode 1 none :: lw_tb
abbrev b_Tree_checkName : ByteArray := prog_1_method_17_code
def y_Tree_checkName : MethodName := ⟨R_Tree, "checkName", "(I)V"⟩
abbrev w_Tree_checkName : List Cond := .code y_Tree_checkName b_Tree_checkName 1 none :: lw_tb
abbrev b_Tree_kindFault : ByteArray := prog_1_method_18_code
def y_Tree_kindFault : MethodName := ⟨R_Tree, "kindFault", "(II)I"⟩
abbrev w_Tree_kindFault : List Cond := .code y_Tree_kindFault b_Tree_kindFault 4 (some .int) :: lw_tb
abbrev b_Inodes_kind : ByteArray := prog_4_method_2_code
def y_Inodes_kind : MethodName := ⟨R_Inodes, "kind", "(I)I"⟩
abbrev w_Inodes_kind : List Cond := .code y_Inodes_kind b_Inodes_kind 2 (some .int) :: lw_tb
abbrev b_Disk_byteAt : ByteArray := prog_3_method_5_code
def y_Disk_byteAt : MethodName := ⟨R_Disk, "byteAt", "(I)I"⟩
abbrev w_Disk_byteAt : List Cond := .code y_Disk_byteAt b_Disk_byteAt 2 (some .int) :: lw_tb
abbrev b_Dirs_entryNamed : ByteArray := prog_2_method_2_code
def y_Dirs_entryNamed : MethodName := ⟨R_Dirs, "entryNamed", "(II)I"⟩
abbrev w_Dirs_entryNamed : List Cond := .code y_Dirs_entryNamed b_Dirs_entryNamed 6 (some .int) :: lw_tb
abbrev b_Inodes_size : ByteArray := prog_4_method_3_code
def y_Inodes_size : MethodName := ⟨R_Inodes, "size", "(I)I"⟩
abbrev w_Inodes_size : List Cond := .code y_Inodes_size b_Inodes_size 2 (some .int) :: lw_tb
abbrev b_Disk_pairAt : ByteArray := prog_3_method_7_code
def y_Disk_pairAt : MethodName := ⟨R_Disk, "pairAt", "(I)I"⟩
abbrev w_Disk_pairAt : List Cond := .code y_Disk_pairAt b_Disk_pairAt 2 (some .int) :: lw_tb
abbrev b_Inodes_placeOf : ByteArray := prog_4_method_12_code
def y_Inodes_placeOf : MethodName := ⟨R_Inodes, "placeOf", "(II)I"⟩
abbrev w_Inodes_placeOf : List Cond := .code y_Inodes_placeOf b_Inodes_placeOf 7 (some .int) :: lw_tb
abbrev b_Inodes_extents : ByteArray := prog_4_method_4_code
def y_Inodes_extents : MethodName := ⟨R_Inodes, "extents", "(I)I"⟩
abbrev w_Inodes_extents : List Cond := .code y_Inodes_extents b_Inodes_extents 2 (some .int) :: lw_tb
abbrev b_Inodes_extentLength : ByteArray := prog_4_method_6_code
def y_Inodes_extentLength : MethodName := ⟨R_Inodes, "extentLength", "(II)I"⟩
abbrev w_Inodes_extentLength : List Cond := .code y_Inodes_extentLength b_Inodes_extentLength 3 (some .int) :: lw_tb
abbrev b_Inodes_extentPlace : ByteArray := prog_4_method_17_code
def y_Inodes_extentPlace : MethodName := ⟨R_Inodes, "extentPlace", "(II)I"⟩
abbrev w_Inodes_extentPlace : List Cond := .code y_Inodes_extentPlace b_Inodes_extentPlace 2 (some .int) :: lw_tb
abbrev b_Inodes_extentFirst : ByteArray := prog_4_method_5_code
def y_Inodes_extentFirst : MethodName := ⟨R_Inodes, "extentFirst", "(II)I"⟩
abbrev w_Inodes_extentFirst : List Cond := .code y_Inodes_extentFirst b_Inodes_extentFirst 3 (some .int) :: lw_tb
abbrev b_Inodes_leastFree : ByteArray := prog_4_method_7_code
def y_Inodes_leastFree : MethodName := ⟨R_Inodes, "leastFree", "()I"⟩
abbrev w_Inodes_leastFree : List Cond := .code y_Inodes_leastFree b_Inodes_leastFree 2 (some .int) :: lw_tb
abbrev b_Dirs_addEntry : ByteArray := prog_2_method_5_code
def y_Dirs_addEntry : MethodName := ⟨R_Dirs, "addEntry", "(III)Z"⟩
abbrev w_Dirs_addEntry : List Cond := .code y_Dirs_addEntry b_Dirs_addEntry 6 (some .boolean) :: lw_tb
abbrev b_Inodes_resize : ByteArray := prog_4_method_11_code
def y_Inodes_resize : MethodName := ⟨R_Inodes, "resize", "(II)Z"⟩
abbrev w_Inodes_resize : List Cond := .code y_Inodes_resize b_Inodes_resize 8 (some .boolean) :: lw_tb
abbrev b_Inodes_blocksFor : ByteArray := prog_4_method_15_code
def y_Inodes_blocksFor : MethodName := ⟨R_Inodes, "blocksFor", "(I)I"⟩
abbrev w_Inodes_blocksFor : List Cond := .code y_Inodes_blocksFor b_Inodes_blocksFor 1 (some .int) :: lw_tb
abbrev b_Inodes_takeBlock : ByteArray := prog_4_method_13_code
def y_Inodes_takeBlock : MethodName := ⟨R_Inodes, "takeBlock", "(I)Z"⟩
abbrev w_Inodes_takeBlock : List Cond := .code y_Inodes_takeBlock b_Inodes_takeBlock 5 (some .boolean) :: lw_tb
abbrev b_Disk_takeBlock : ByteArray := prog_3_method_13_code
def y_Disk_takeBlock : MethodName := ⟨R_Disk, "takeBlock", "(I)V"⟩
abbrev w_Disk_takeBlock : List Cond := .code y_Disk_takeBlock b_Disk_takeBlock 3 none :: lw_tb
abbrev b_Disk_leastFree : ByteArray := prog_3_method_11_code
def y_Disk_leastFree : MethodName := ⟨R_Disk, "leastFree", "()I"⟩
abbrev w_Disk_leastFree : List Cond := .code y_Disk_leastFree b_Disk_leastFree 2 (some .int) :: lw_tb
abbrev b_Disk_setPair : ByteArray := prog_3_method_9_code
def y_Disk_setPair : MethodName := ⟨R_Disk, "setPair", "(II)V"⟩
abbrev w_Disk_setPair : List Cond := .code y_Disk_setPair b_Disk_setPair 3 none :: lw_tb
abbrev b_Inodes_giveBlockBack : ByteArray := prog_4_method_14_code
def y_Inodes_giveBlockBack : MethodName := ⟨R_Inodes, "giveBlockBack", "(I)V"⟩
abbrev w_Inodes_giveBlockBack : List Cond := .code y_Inodes_giveBlockBack b_Inodes_giveBlockBack 4 none :: lw_tb
abbrev b_Disk_giveBlockBack : ByteArray := prog_3_method_14_code
def y_Disk_giveBlockBack : MethodName := ⟨R_Disk, "giveBlockBack", "(I)V"⟩
abbrev w_Disk_giveBlockBack : List Cond := .code y_Disk_giveBlockBack b_Disk_giveBlockBack 2 none :: lw_tb
abbrev b_Dirs_setEntry : ByteArray := prog_2_method_6_code
def y_Dirs_setEntry : MethodName := ⟨R_Dirs, "setEntry", "(III)V"⟩
abbrev w_Dirs_setEntry : List Cond := .code y_Dirs_setEntry b_Dirs_setEntry 4 none :: lw_tb
abbrev b_Disk_undo : ByteArray := prog_3_method_16_code
def y_Disk_undo : MethodName := ⟨R_Disk, "undo", "()V"⟩
abbrev w_Disk_undo : List Cond := .code y_Disk_undo b_Disk_undo 2 none :: lw_tb
abbrev b_Law_find : ByteArray := method_5_code
def y_Law_find : MethodName := ⟨R_Law, "find", "(LTreeFiles;II[J)I"⟩
abbrev b_Tree_find : ByteArray := prog_1_method_4_code
def y_Tree_find : MethodName := ⟨R_Tree, "find", "(II)I"⟩
abbrev w_Tree_find : List Cond := .code y_Tree_find b_Tree_find 4 (some .int) :: lw_tb
abbrev b_Tree_entryOrFault : ByteArray := prog_1_method_19_code
def y_Tree_entryOrFault : MethodName := ⟨R_Tree, "entryOrFault", "(II)I"⟩
abbrev w_Tree_entryOrFault : List Cond := .code y_Tree_entryOrFault b_Tree_entryOrFault 5 (some .int) :: lw_tb
abbrev b_Dirs_inodeOf : ByteArray := prog_2_method_3_code
def y_Dirs_inodeOf : MethodName := ⟨R_Dirs, "inodeOf", "(I)I"⟩
abbrev w_Dirs_inodeOf : List Cond := .code y_Dirs_inodeOf b_Dirs_inodeOf 2 (some .int) :: lw_tb
abbrev b_Law_write : ByteArray := method_6_code
def y_Law_write : MethodName := ⟨R_Law, "write", "(LTreeFiles;II[J)I"⟩
abbrev b_Tree_write : ByteArray := prog_1_method_5_code
def y_Tree_write : MethodName := ⟨R_Tree, "write", "(II)I"⟩
abbrev w_Tree_write : List Cond := .code y_Tree_write b_Tree_write 8 (some .int) :: lw_tb
abbrev b_Law_cut : ByteArray := method_7_code
def y_Law_cut : MethodName := ⟨R_Law, "cut", "(LTreeFiles;II[J)I"⟩
abbrev b_Tree_cut : ByteArray := prog_1_method_6_code
def y_Tree_cut : MethodName := ⟨R_Tree, "cut", "(II)I"⟩
abbrev w_Tree_cut : List Cond := .code y_Tree_cut b_Tree_cut 4 (some .int) :: lw_tb
abbrev b_Law_read : ByteArray := method_8_code
def y_Law_read : MethodName := ⟨R_Law, "read", "(LTreeFiles;II[J)I"⟩
abbrev b_Tree_read : ByteArray := prog_1_method_7_code
def y_Tree_read : MethodName := ⟨R_Tree, "read", "(II)J"⟩
abbrev w_Tree_read : List Cond := .code y_Tree_read b_Tree_read 6 (some .long) :: lw_tb
abbrev b_Law_move : ByteArray := method_9_code
def y_Law_move : MethodName := ⟨R_Law, "move", "(LTreeFiles;IIII[J)I"⟩
abbrev b_Tree_move : ByteArray := prog_1_method_8_code
def y_Tree_move : MethodName := ⟨R_Tree, "move", "(IIII)I"⟩
abbrev w_Tree_move : List Cond := .code y_Tree_move b_Tree_move 9 (some .int) :: lw_tb
abbrev b_Tree_moveFault : ByteArray := prog_1_method_20_code
def y_Tree_moveFault : MethodName := ⟨R_Tree, "moveFault", "(III)I"⟩
abbrev w_Tree_moveFault : List Cond := .code y_Tree_moveFault b_Tree_moveFault 6 (some .int) :: lw_tb
abbrev b_Tree_hasEntries : ByteArray := prog_1_method_21_code
def y_Tree_hasEntries : MethodName := ⟨R_Tree, "hasEntries", "(I)Z"⟩
abbrev w_Tree_hasEntries : List Cond := .code y_Tree_hasEntries b_Tree_hasEntries 2 (some .boolean) :: lw_tb
abbrev b_Dirs_isEmpty : ByteArray := prog_2_method_4_code
def y_Dirs_isEmpty : MethodName := ⟨R_Dirs, "isEmpty", "(I)Z"⟩
abbrev w_Dirs_isEmpty : List Cond := .code y_Dirs_isEmpty b_Dirs_isEmpty 4 (some .boolean) :: lw_tb
abbrev b_Dirs_isWithin : ByteArray := prog_2_method_8_code
def y_Dirs_isWithin : MethodName := ⟨R_Dirs, "isWithin", "(II)Z"⟩
abbrev w_Dirs_isWithin : List Cond := .code y_Dirs_isWithin b_Dirs_isWithin 5 (some .boolean) :: lw_tb
abbrev b_Dirs_fillParents : ByteArray := prog_2_method_9_code
def y_Dirs_fillParents : MethodName := ⟨R_Dirs, "fillParents", "()V"⟩
abbrev w_Dirs_fillParents : List Cond := .code y_Dirs_fillParents b_Dirs_fillParents 5 none :: lw_tb
abbrev b_Dirs_clearEntry : ByteArray := prog_2_method_7_code
def y_Dirs_clearEntry : MethodName := ⟨R_Dirs, "clearEntry", "(I)V"⟩
abbrev w_Dirs_clearEntry : List Cond := .code y_Dirs_clearEntry b_Dirs_clearEntry 2 none :: lw_tb
abbrev b_Inodes_release : ByteArray := prog_4_method_10_code
def y_Inodes_release : MethodName := ⟨R_Inodes, "release", "(I)V"⟩
abbrev w_Inodes_release : List Cond := .code y_Inodes_release b_Inodes_release 2 none :: lw_tb
abbrev b_Law_remove : ByteArray := method_10_code
def y_Law_remove : MethodName := ⟨R_Law, "remove", "(LTreeFiles;II[J)I"⟩
abbrev b_Tree_remove : ByteArray := prog_1_method_9_code
def y_Tree_remove : MethodName := ⟨R_Tree, "remove", "(II)I"⟩
abbrev w_Tree_remove : List Cond := .code y_Tree_remove b_Tree_remove 5 (some .int) :: lw_tb
abbrev b_Law_node : ByteArray := method_11_code
def y_Law_node : MethodName := ⟨R_Law, "node", "(LTreeFiles;II[J)I"⟩
abbrev b_Tree_node : ByteArray := prog_1_method_12_code
def y_Tree_node : MethodName := ⟨R_Tree, "node", "(II)I"⟩
abbrev w_Tree_node : List Cond := .code y_Tree_node b_Tree_node 4 (some .int) :: lw_tb
abbrev b_Law_at : ByteArray := method_12_code
def y_Law_at : MethodName := ⟨R_Law, "at", "(LTreeFiles;IIZ[J)I"⟩
abbrev b_Tree_at : ByteArray := prog_1_method_13_code
def y_Tree_at : MethodName := ⟨R_Tree, "at", "(IIZ)I"⟩
abbrev w_Tree_at : List Cond := .code y_Tree_at b_Tree_at 5 (some .int) :: lw_tb
abbrev b_Disk_hasByte : ByteArray := prog_3_method_4_code
def y_Disk_hasByte : MethodName := ⟨R_Disk, "hasByte", "(II)Z"⟩
abbrev w_Disk_hasByte : List Cond := .code y_Disk_hasByte b_Disk_hasByte 3 (some .boolean) :: lw_tb
abbrev b_Disk_committedByteAt : ByteArray := prog_3_method_6_code
def y_Disk_committedByteAt : MethodName := ⟨R_Disk, "committedByteAt", "(I)I"⟩
abbrev w_Disk_committedByteAt : List Cond := .code y_Disk_committedByteAt b_Disk_committedByteAt 2 (some .int) :: lw_tb
abbrev b_Law_changed : ByteArray := method_13_code
def y_Law_changed : MethodName := ⟨R_Law, "changed", "(LTreeFiles;I[J)I"⟩
abbrev b_Tree_changed : ByteArray := prog_1_method_14_code
def y_Tree_changed : MethodName := ⟨R_Tree, "changed", "(I)I"⟩
abbrev w_Tree_changed : List Cond := .code y_Tree_changed b_Tree_changed 3 (some .int) :: lw_tb
abbrev b_Disk_differingBlock : ByteArray := prog_3_method_20_code
def y_Disk_differingBlock : MethodName := ⟨R_Disk, "differingBlock", "(I)I"⟩
abbrev w_Disk_differingBlock : List Cond := .code y_Disk_differingBlock b_Disk_differingBlock 4 (some .int) :: lw_tb
abbrev b_Law_look : ByteArray := method_14_code
def y_Law_look : MethodName := ⟨R_Law, "look", "(LTreeFiles;I[J)I"⟩
abbrev b_Tree_look : ByteArray := prog_1_method_15_code
def y_Tree_look : MethodName := ⟨R_Tree, "look", "(I)I"⟩
abbrev w_Tree_look : List Cond := .code y_Tree_look b_Tree_look 2 (some .int) :: lw_tb
abbrev b_Disk_blocks : ByteArray := prog_3_method_2_code
def y_Disk_blocks : MethodName := ⟨R_Disk, "blocks", "()I"⟩
abbrev w_Disk_blocks : List Cond := .code y_Disk_blocks b_Disk_blocks 1 (some .int) :: lw_tb
abbrev b_Disk_freeBlocks : ByteArray := prog_3_method_12_code
def y_Disk_freeBlocks : MethodName := ⟨R_Disk, "freeBlocks", "()I"⟩
abbrev w_Disk_freeBlocks : List Cond := .code y_Disk_freeBlocks b_Disk_freeBlocks 3 (some .int) :: lw_tb
abbrev b_Inodes_ofKind : ByteArray := prog_4_method_8_code
def y_Inodes_ofKind : MethodName := ⟨R_Inodes, "ofKind", "(I)I"⟩
abbrev w_Inodes_ofKind : List Cond := .code y_Inodes_ofKind b_Inodes_ofKind 4 (some .int) :: lw_tb
abbrev b_Disk_earlyCommits : ByteArray := prog_3_method_3_code
def y_Disk_earlyCommits : MethodName := ⟨R_Disk, "earlyCommits", "()I"⟩
abbrev w_Disk_earlyCommits : List Cond := .code y_Disk_earlyCommits b_Disk_earlyCommits 1 (some .int) :: lw_tb
abbrev b_Mod_init : ByteArray := prog_6_method_1_code
def y_Mod_init : MethodName := ⟨R_Mod, "<init>", "(I)V"⟩
abbrev w_Mod_init : List Cond := .code y_Mod_init b_Mod_init 3 none :: lw_tb
abbrev b_Mod_commitsAll : ByteArray := prog_6_method_11_code
def y_Mod_commitsAll : MethodName := ⟨R_Mod, "commitsAll", "()I"⟩
abbrev w_Mod_commitsAll : List Cond := .code y_Mod_commitsAll b_Mod_commitsAll 4 (some .int) :: lw_tb
abbrev b_Mod_changes : ByteArray := prog_6_method_9_code
def y_Mod_changes : MethodName := ⟨R_Mod, "changes", "()I"⟩
abbrev w_Mod_changes : List Cond := .code y_Mod_changes b_Mod_changes 3 (some .int) :: lw_tb
abbrev b_Mod_isChanged : ByteArray := prog_6_method_8_code
def y_Mod_isChanged : MethodName := ⟨R_Mod, "isChanged", "(I)Z"⟩
abbrev w_Mod_isChanged : List Cond := .code y_Mod_isChanged b_Mod_isChanged 4 (some .boolean) :: lw_tb
abbrev b_Mod_byteOf : ByteArray := prog_6_method_7_code
def y_Mod_byteOf : MethodName := ⟨R_Mod, "byteOf", "(II)I"⟩
abbrev w_Mod_byteOf : List Cond := .code y_Mod_byteOf b_Mod_byteOf 3 (some .int) :: lw_tb
abbrev b_Mod_nodeByte : ByteArray := prog_6_method_5_code
def y_Mod_nodeByte : MethodName := ⟨R_Mod, "nodeByte", "(II)I"⟩
abbrev w_Mod_nodeByte : List Cond := .code y_Mod_nodeByte b_Mod_nodeByte 6 (some .int) :: lw_tb
abbrev b_Mod_mapByte : ByteArray := prog_6_method_6_code
def y_Mod_mapByte : MethodName := ⟨R_Mod, "mapByte", "(I)I"⟩
abbrev w_Mod_mapByte : List Cond := .code y_Mod_mapByte b_Mod_mapByte 4 (some .int) :: lw_tb
abbrev b_Mod_copy : ByteArray := prog_6_method_10_code
def y_Mod_copy : MethodName := ⟨R_Mod, "copy", "([I[I)V"⟩
abbrev w_Mod_copy : List Cond := .code y_Mod_copy b_Mod_copy 3 none :: lw_tb
abbrev b_Mod_thrown : ByteArray := prog_6_method_2_code
def y_Mod_thrown : MethodName := ⟨R_Mod, "thrown", "()I"⟩
abbrev w_Mod_thrown : List Cond := .code y_Mod_thrown b_Mod_thrown 1 (some .int) :: lw_tb
abbrev b_Mod_feed : ByteArray := prog_6_method_40_code
def y_Mod_feed : MethodName := ⟨R_Mod, "feed", "(IJ)I"⟩
abbrev w_Mod_feed : List Cond := .code y_Mod_feed b_Mod_feed 5 (some .int) :: lw_tb
abbrev b_Mod_in : ByteArray := prog_6_method_4_code
def y_Mod_in : MethodName := ⟨R_Mod, "in", "(III)Z"⟩
abbrev w_Mod_in : List Cond := .code y_Mod_in b_Mod_in 3 (some .boolean) :: lw_tb
abbrev b_Mod_fails : ByteArray := prog_6_method_3_code
def y_Mod_fails : MethodName := ⟨R_Mod, "fails", "(ZI)Z"⟩
abbrev w_Mod_fails : List Cond := .code y_Mod_fails b_Mod_fails 3 (some .boolean) :: lw_tb
abbrev b_Mod_make : ByteArray := prog_6_method_43_code
def y_Mod_make : MethodName := ⟨R_Mod, "make", "(IIZ)I"⟩
abbrev w_Mod_make : List Cond := .code y_Mod_make b_Mod_make 4 (some .int) :: lw_tb
abbrev b_Mod_isBad : ByteArray := prog_6_method_41_code
def y_Mod_isBad : MethodName := ⟨R_Mod, "isBad", "(I)Z"⟩
abbrev w_Mod_isBad : List Cond := .code y_Mod_isBad b_Mod_isBad 1 (some .boolean) :: lw_tb
abbrev b_Mod_isBadName : ByteArray := prog_6_method_42_code
def y_Mod_isBadName : MethodName := ⟨R_Mod, "isBadName", "(I)Z"⟩
abbrev w_Mod_isBadName : List Cond := .code y_Mod_isBadName b_Mod_isBadName 1 (some .boolean) :: lw_tb
abbrev b_Mod_does : ByteArray := prog_6_method_39_code
def y_Mod_does : MethodName := ⟨R_Mod, "does", "(IIIII)I"⟩
abbrev w_Mod_does : List Cond := .code y_Mod_does b_Mod_does 7 (some .int) :: lw_tb
abbrev b_Mod_keepsAside : ByteArray := prog_6_method_12_code
def y_Mod_keepsAside : MethodName := ⟨R_Mod, "keepsAside", "()V"⟩
abbrev w_Mod_keepsAside : List Cond := .code y_Mod_keepsAside b_Mod_keepsAside 1 none :: lw_tb
abbrev b_Mod_tries : ByteArray := prog_6_method_38_code
def y_Mod_tries : MethodName := ⟨R_Mod, "tries", "(IIIII)I"⟩
abbrev w_Mod_tries : List Cond := .code y_Mod_tries b_Mod_tries 6 (some .int) :: lw_tb
abbrev b_Mod_makes : ByteArray := prog_6_method_33_code
def y_Mod_makes : MethodName := ⟨R_Mod, "makes", "(IIZ)I"⟩
abbrev w_Mod_makes : List Cond := .code y_Mod_makes b_Mod_makes 5 (some .int) :: lw_tb
abbrev b_Mod_badDirectory : ByteArray := prog_6_method_30_code
def y_Mod_badDirectory : MethodName := ⟨R_Mod, "badDirectory", "(I)I"⟩
abbrev w_Mod_badDirectory : List Cond := .code y_Mod_badDirectory b_Mod_badDirectory 2 (some .int) :: lw_tb
abbrev b_Mod_kind : ByteArray := prog_6_method_14_code
def y_Mod_kind : MethodName := ⟨R_Mod, "kind", "(I)I"⟩
abbrev w_Mod_kind : List Cond := .code y_Mod_kind b_Mod_kind 2 (some .int) :: lw_tb
abbrev b_Mod_entryOf : ByteArray := prog_6_method_25_code
def y_Mod_entryOf : MethodName := ⟨R_Mod, "entryOf", "(II)I"⟩
abbrev w_Mod_entryOf : List Cond := .code y_Mod_entryOf b_Mod_entryOf 4 (some .int) :: lw_tb
abbrev b_Mod_sizeOf : ByteArray := prog_6_method_15_code
def y_Mod_sizeOf : MethodName := ⟨R_Mod, "sizeOf", "(I)I"⟩
abbrev w_Mod_sizeOf : List Cond := .code y_Mod_sizeOf b_Mod_sizeOf 2 (some .int) :: lw_tb
abbrev b_Mod_nameAt : ByteArray := prog_6_method_24_code
def y_Mod_nameAt : MethodName := ⟨R_Mod, "nameAt", "(II)I"⟩
abbrev w_Mod_nameAt : List Cond := .code y_Mod_nameAt b_Mod_nameAt 3 (some .int) :: lw_tb
abbrev b_Mod_get : ByteArray := prog_6_method_22_code
def y_Mod_get : MethodName := ⟨R_Mod, "get", "(II)I"⟩
abbrev w_Mod_get : List Cond := .code y_Mod_get b_Mod_get 3 (some .int) :: lw_tb
abbrev b_Mod_blockOf : ByteArray := prog_6_method_16_code
def y_Mod_blockOf : MethodName := ⟨R_Mod, "blockOf", "(II)I"⟩
abbrev w_Mod_blockOf : List Cond := .code y_Mod_blockOf b_Mod_blockOf 6 (some .int) :: lw_tb
abbrev b_Mod_adds : ByteArray := prog_6_method_28_code
def y_Mod_adds : MethodName := ⟨R_Mod, "adds", "(III)Z"⟩
abbrev w_Mod_adds : List Cond := .code y_Mod_adds b_Mod_adds 5 (some .boolean) :: lw_tb
abbrev b_Mod_sizes : ByteArray := prog_6_method_20_code
def y_Mod_sizes : MethodName := ⟨R_Mod, "sizes", "(II)Z"⟩
abbrev w_Mod_sizes : List Cond := .code y_Mod_sizes b_Mod_sizes 6 (some .boolean) :: lw_tb
abbrev b_Mod_blocksOf : ByteArray := prog_6_method_17_code
def y_Mod_blocksOf : MethodName := ⟨R_Mod, "blocksOf", "(I)I"⟩
abbrev w_Mod_blocksOf : List Cond := .code y_Mod_blocksOf b_Mod_blocksOf 4 (some .int) :: lw_tb
abbrev b_Mod_takes : ByteArray := prog_6_method_18_code
def y_Mod_takes : MethodName := ⟨R_Mod, "takes", "(I)Z"⟩
abbrev w_Mod_takes : List Cond := .code y_Mod_takes b_Mod_takes 8 (some .boolean) :: lw_tb
abbrev b_Mod_gives : ByteArray := prog_6_method_19_code
def y_Mod_gives : MethodName := ⟨R_Mod, "gives", "(I)V"⟩
abbrev w_Mod_gives : List Cond := .code y_Mod_gives b_Mod_gives 4 none :: lw_tb
abbrev b_Mod_put : ByteArray := prog_6_method_23_code
def y_Mod_put : MethodName := ⟨R_Mod, "put", "(III)V"⟩
abbrev w_Mod_put : List Cond := .code y_Mod_put b_Mod_put 4 none :: lw_tb
abbrev b_Mod_enters : ByteArray := prog_6_method_27_code
def y_Mod_enters : MethodName := ⟨R_Mod, "enters", "(IIII)V"⟩
abbrev w_Mod_enters : List Cond := .code y_Mod_enters b_Mod_enters 5 none :: lw_tb
abbrev b_Mod_writes : ByteArray := prog_6_method_34_code
def y_Mod_writes : MethodName := ⟨R_Mod, "writes", "(III)I"⟩
abbrev w_Mod_writes : List Cond := .code y_Mod_writes b_Mod_writes 6 (some .int) :: lw_tb
abbrev b_Mod_badFile : ByteArray := prog_6_method_31_code
def y_Mod_badFile : MethodName := ⟨R_Mod, "badFile", "(I)I"⟩
abbrev w_Mod_badFile : List Cond := .code y_Mod_badFile b_Mod_badFile 2 (some .int) :: lw_tb
abbrev b_Mod_cuts : ByteArray := prog_6_method_35_code
def y_Mod_cuts : MethodName := ⟨R_Mod, "cuts", "(II)I"⟩
abbrev w_Mod_cuts : List Cond := .code y_Mod_cuts b_Mod_cuts 3 (some .int) :: lw_tb
abbrev b_Mod_moves : ByteArray := prog_6_method_36_code
def y_Mod_moves : MethodName := ⟨R_Mod, "moves", "(IIII)I"⟩
abbrev w_Mod_moves : List Cond := .code y_Mod_moves b_Mod_moves 10 (some .int) :: lw_tb
abbrev b_Mod_inodeAt : ByteArray := prog_6_method_26_code
def y_Mod_inodeAt : MethodName := ⟨R_Mod, "inodeAt", "(II)I"⟩
abbrev w_Mod_inodeAt : List Cond := .code y_Mod_inodeAt b_Mod_inodeAt 3 (some .int) :: lw_tb
abbrev b_Mod_isEmpty : ByteArray := prog_6_method_29_code
def y_Mod_isEmpty : MethodName := ⟨R_Mod, "isEmpty", "(I)Z"⟩
abbrev w_Mod_isEmpty : List Cond := .code y_Mod_isEmpty b_Mod_isEmpty 4 (some .boolean) :: lw_tb
abbrev b_Mod_parentOf : ByteArray := prog_6_method_32_code
def y_Mod_parentOf : MethodName := ⟨R_Mod, "parentOf", "(I)I"⟩
abbrev w_Mod_parentOf : List Cond := .code y_Mod_parentOf b_Mod_parentOf 4 (some .int) :: lw_tb
abbrev b_Mod_frees : ByteArray := prog_6_method_21_code
def y_Mod_frees : MethodName := ⟨R_Mod, "frees", "(I)V"⟩
abbrev w_Mod_frees : List Cond := .code y_Mod_frees b_Mod_frees 3 none :: lw_tb
abbrev b_Mod_removes : ByteArray := prog_6_method_37_code
def y_Mod_removes : MethodName := ⟨R_Mod, "removes", "(II)I"⟩
abbrev w_Mod_removes : List Cond := .code y_Mod_removes b_Mod_removes 5 (some .int) :: lw_tb
abbrev b_Mod_bringsBack : ByteArray := prog_6_method_13_code
def y_Mod_bringsBack : MethodName := ⟨R_Mod, "bringsBack", "()V"⟩
abbrev w_Mod_bringsBack : List Cond := .code y_Mod_bringsBack b_Mod_bringsBack 1 none :: lw_tb
abbrev b_Mod_find : ByteArray := prog_6_method_44_code
def y_Mod_find : MethodName := ⟨R_Mod, "find", "(II)I"⟩
abbrev w_Mod_find : List Cond := .code y_Mod_find b_Mod_find 4 (some .int) :: lw_tb
abbrev b_Mod_write : ByteArray := prog_6_method_45_code
def y_Mod_write : MethodName := ⟨R_Mod, "write", "(II)I"⟩
abbrev w_Mod_write : List Cond := .code y_Mod_write b_Mod_write 4 (some .int) :: lw_tb
abbrev b_Mod_cut : ByteArray := prog_6_method_46_code
def y_Mod_cut : MethodName := ⟨R_Mod, "cut", "(II)I"⟩
abbrev w_Mod_cut : List Cond := .code y_Mod_cut b_Mod_cut 3 (some .int) :: lw_tb
abbrev b_Mod_read : ByteArray := prog_6_method_47_code
def y_Mod_read : MethodName := ⟨R_Mod, "read", "(II)J"⟩
abbrev w_Mod_read : List Cond := .code y_Mod_read b_Mod_read 6 (some .long) :: lw_tb
abbrev b_Mod_move : ByteArray := prog_6_method_48_code
def y_Mod_move : MethodName := ⟨R_Mod, "move", "(IIII)I"⟩
abbrev w_Mod_move : List Cond := .code y_Mod_move b_Mod_move 6 (some .int) :: lw_tb
abbrev b_Mod_remove : ByteArray := prog_6_method_49_code
def y_Mod_remove : MethodName := ⟨R_Mod, "remove", "(II)I"⟩
abbrev w_Mod_remove : List Cond := .code y_Mod_remove b_Mod_remove 3 (some .int) :: lw_tb
abbrev b_Mod_commit : ByteArray := prog_6_method_50_code
def y_Mod_commit : MethodName := ⟨R_Mod, "commit", "()I"⟩
abbrev w_Mod_commit : List Cond := .code y_Mod_commit b_Mod_commit 1 (some .int) :: lw_tb
abbrev b_Mod_drop : ByteArray := prog_6_method_51_code
def y_Mod_drop : MethodName := ⟨R_Mod, "drop", "()I"⟩
abbrev w_Mod_drop : List Cond := .code y_Mod_drop b_Mod_drop 2 (some .int) :: lw_tb
abbrev b_Mod_node : ByteArray := prog_6_method_52_code
def y_Mod_node : MethodName := ⟨R_Mod, "node", "(II)I"⟩
abbrev w_Mod_node : List Cond := .code y_Mod_node b_Mod_node 3 (some .int) :: lw_tb
abbrev b_Mod_at : ByteArray := prog_6_method_53_code
def y_Mod_at : MethodName := ⟨R_Mod, "at", "(IIZ)I"⟩
abbrev w_Mod_at : List Cond := .code y_Mod_at b_Mod_at 4 (some .int) :: lw_tb
abbrev b_Mod_changed : ByteArray := prog_6_method_54_code
def y_Mod_changed : MethodName := ⟨R_Mod, "changed", "(I)I"⟩
abbrev w_Mod_changed : List Cond := .code y_Mod_changed b_Mod_changed 4 (some .int) :: lw_tb
abbrev b_Mod_look : ByteArray := prog_6_method_55_code
def y_Mod_look : MethodName := ⟨R_Mod, "look", "(I)I"⟩
abbrev w_Mod_look : List Cond := .code y_Mod_look b_Mod_look 6 (some .int) :: lw_tb
theorem k_0 : (.selects R_Disk y_Disk_flipMapBit y_Disk_flipMapBit : Cond) ∈ lw_tb := tb_in (List.mem_of_getElem? (i := 0) (by decide +kernel)) (by decide +kernel)
theorem k_1 : (.selects R_Disk y_Disk_touch y_Disk_touch : Cond) ∈ lw_tb := tb_in (List.mem_of_getElem? (i := 1) (by decide +kernel)) (by decide +kernel)
theorem k_2 : (.selects R_Disk y_Disk_compare y_Disk_compare : Cond) ∈ lw_tb := tb_in (List.mem_of_getElem? (i := 2) (by decide +kernel)) (by decide +kernel)
theorem k_3 : (.selects R_Disk y_Disk_commitWhatWasBefore y_Disk_commitWhatWasBefore : Cond) ∈ lw_tb := tb_in (List.mem_of_getElem? (i := 3) (by decide +kernel)) (by decide +kernel)
theorem k_4 : (.selects R_Disk y_Disk_hasBlock y_Disk_hasBlock : Cond) ∈ lw_tb := tb_in (List.mem_of_getElem? (i := 4) (by decide +kernel)) (by decide +kernel)
theorem k_5 : (.selects R_Disk y_Disk_forgetTouched y_Disk_forgetTouched : Cond) ∈ lw_tb := tb_in (List.mem_of_getElem? (i := 5) (by decide +kernel)) (by decide +kernel)
theorem k_6 : (.selects R_Disk y_Disk_makeAlike y_Disk_makeAlike : Cond) ∈ lw_tb := tb_in (List.mem_of_getElem? (i := 6) (by decide +kernel)) (by decide +kernel)
theorem k_7 : (.selects "java/lang/Throwable" ⟨"java/lang/Throwable", "fillInStackTrace", "(I)Ljava/lang/Throwable;"⟩ ⟨"java/lang/Throwable", "fillInStackTrace", "(I)Ljava/lang/Throwable;"⟩ : Cond) ∈ lw_tb := tb_in (List.mem_of_getElem? (i := 7) (by decide +kernel)) (by decide +kernel)
theorem k_8 : (.selects R_Tree y_Tree_kindFault y_Tree_kindFault : Cond) ∈ lw_tb := tb_in (List.mem_of_getElem? (i := 8) (by decide +kernel)) (by decide +kernel)
theorem k_9 : (.selects R_Inodes y_Inodes_takeBlock y_Inodes_takeBlock : Cond) ∈ lw_tb := tb_in (List.mem_of_getElem? (i := 9) (by decide +kernel)) (by decide +kernel)
theorem k_10 : (.selects R_Inodes y_Inodes_giveBlockBack y_Inodes_giveBlockBack : Cond) ∈ lw_tb := tb_in (List.mem_of_getElem? (i := 10) (by decide +kernel)) (by decide +kernel)
theorem k_11 : (.selects R_Tree y_Tree_entryOrFault y_Tree_entryOrFault : Cond) ∈ lw_tb := tb_in (List.mem_of_getElem? (i := 11) (by decide +kernel)) (by decide +kernel)
theorem k_12 : (.selects R_Tree y_Tree_moveFault y_Tree_moveFault : Cond) ∈ lw_tb := tb_in (List.mem_of_getElem? (i := 12) (by decide +kernel)) (by decide +kernel)
theorem k_13 : (.selects R_Tree y_Tree_hasEntries y_Tree_hasEntries : Cond) ∈ lw_tb := tb_in (List.mem_of_getElem? (i := 13) (by decide +kernel)) (by decide +kernel)
theorem k_14 : (.selects R_Dirs y_Dirs_fillParents y_Dirs_fillParents : Cond) ∈ lw_tb := tb_in (List.mem_of_getElem? (i := 14) (by decide +kernel)) (by decide +kernel)
theorem k_15 : (.selects R_Mod y_Mod_commitsAll y_Mod_commitsAll : Cond) ∈ lw_tb := tb_in (List.mem_of_getElem? (i := 15) (by decide +kernel)) (by decide +kernel)
theorem k_16 : (.selects R_Mod y_Mod_changes y_Mod_changes : Cond) ∈ lw_tb := tb_in (List.mem_of_getElem? (i := 16) (by decide +kernel)) (by decide +kernel)
theorem k_17 : (.selects R_Mod y_Mod_isChanged y_Mod_isChanged : Cond) ∈ lw_tb := tb_in (List.mem_of_getElem? (i := 17) (by decide +kernel)) (by decide +kernel)
theorem k_18 : (.selects R_Mod y_Mod_byteOf y_Mod_byteOf : Cond) ∈ lw_tb := tb_in (List.mem_of_getElem? (i := 18) (by decide +kernel)) (by decide +kernel)
theorem k_19 : (.selects R_Mod y_Mod_nodeByte y_Mod_nodeByte : Cond) ∈ lw_tb := tb_in (List.mem_of_getElem? (i := 19) (by decide +kernel)) (by decide +kernel)
theorem k_20 : (.selects R_Mod y_Mod_mapByte y_Mod_mapByte : Cond) ∈ lw_tb := tb_in (List.mem_of_getElem? (i := 20) (by decide +kernel)) (by decide +kernel)
theorem k_21 : (.selects R_Mod y_Mod_fails y_Mod_fails : Cond) ∈ lw_tb := tb_in (List.mem_of_getElem? (i := 21) (by decide +kernel)) (by decide +kernel)
theorem k_22 : (.selects R_Mod y_Mod_does y_Mod_does : Cond) ∈ lw_tb := tb_in (List.mem_of_getElem? (i := 22) (by decide +kernel)) (by decide +kernel)
theorem k_23 : (.selects R_Mod y_Mod_keepsAside y_Mod_keepsAside : Cond) ∈ lw_tb := tb_in (List.mem_of_getElem? (i := 23) (by decide +kernel)) (by decide +kernel)
theorem k_24 : (.selects R_Mod y_Mod_tries y_Mod_tries : Cond) ∈ lw_tb := tb_in (List.mem_of_getElem? (i := 24) (by decide +kernel)) (by decide +kernel)
theorem k_25 : (.selects R_Mod y_Mod_makes y_Mod_makes : Cond) ∈ lw_tb := tb_in (List.mem_of_getElem? (i := 25) (by decide +kernel)) (by decide +kernel)
theorem k_26 : (.selects R_Mod y_Mod_badDirectory y_Mod_badDirectory : Cond) ∈ lw_tb := tb_in (List.mem_of_getElem? (i := 26) (by decide +kernel)) (by decide +kernel)
theorem k_27 : (.selects R_Mod y_Mod_kind y_Mod_kind : Cond) ∈ lw_tb := tb_in (List.mem_of_getElem? (i := 27) (by decide +kernel)) (by decide +kernel)
theorem k_28 : (.selects R_Mod y_Mod_entryOf y_Mod_entryOf : Cond) ∈ lw_tb := tb_in (List.mem_of_getElem? (i := 28) (by decide +kernel)) (by decide +kernel)
theorem k_29 : (.selects R_Mod y_Mod_sizeOf y_Mod_sizeOf : Cond) ∈ lw_tb := tb_in (List.mem_of_getElem? (i := 29) (by decide +kernel)) (by decide +kernel)
theorem k_30 : (.selects R_Mod y_Mod_nameAt y_Mod_nameAt : Cond) ∈ lw_tb := tb_in (List.mem_of_getElem? (i := 30) (by decide +kernel)) (by decide +kernel)
theorem k_31 : (.selects R_Mod y_Mod_get y_Mod_get : Cond) ∈ lw_tb := tb_in (List.mem_of_getElem? (i := 31) (by decide +kernel)) (by decide +kernel)
theorem k_32 : (.selects R_Mod y_Mod_blockOf y_Mod_blockOf : Cond) ∈ lw_tb := tb_in (List.mem_of_getElem? (i := 32) (by decide +kernel)) (by decide +kernel)
theorem k_33 : (.selects R_Mod y_Mod_adds y_Mod_adds : Cond) ∈ lw_tb := tb_in (List.mem_of_getElem? (i := 33) (by decide +kernel)) (by decide +kernel)
theorem k_34 : (.selects R_Mod y_Mod_sizes y_Mod_sizes : Cond) ∈ lw_tb := tb_in (List.mem_of_getElem? (i := 34) (by decide +kernel)) (by decide +kernel)
theorem k_35 : (.selects R_Mod y_Mod_blocksOf y_Mod_blocksOf : Cond) ∈ lw_tb := tb_in (List.mem_of_getElem? (i := 35) (by decide +kernel)) (by decide +kernel)
theorem k_36 : (.selects R_Mod y_Mod_takes y_Mod_takes : Cond) ∈ lw_tb := tb_in (List.mem_of_getElem? (i := 36) (by decide +kernel)) (by decide +kernel)
theorem k_37 : (.selects R_Mod y_Mod_gives y_Mod_gives : Cond) ∈ lw_tb := tb_in (List.mem_of_getElem? (i := 37) (by decide +kernel)) (by decide +kernel)
theorem k_38 : (.selects R_Mod y_Mod_put y_Mod_put : Cond) ∈ lw_tb := tb_in (List.mem_of_getElem? (i := 38) (by decide +kernel)) (by decide +kernel)
theorem k_39 : (.selects R_Mod y_Mod_enters y_Mod_enters : Cond) ∈ lw_tb := tb_in (List.mem_of_getElem? (i := 39) (by decide +kernel)) (by decide +kernel)
theorem k_40 : (.selects R_Mod y_Mod_writes y_Mod_writes : Cond) ∈ lw_tb := tb_in (List.mem_of_getElem? (i := 40) (by decide +kernel)) (by decide +kernel)
theorem k_41 : (.selects R_Mod y_Mod_badFile y_Mod_badFile : Cond) ∈ lw_tb := tb_in (List.mem_of_getElem? (i := 41) (by decide +kernel)) (by decide +kernel)
theorem k_42 : (.selects R_Mod y_Mod_cuts y_Mod_cuts : Cond) ∈ lw_tb := tb_in (List.mem_of_getElem? (i := 42) (by decide +kernel)) (by decide +kernel)
theorem k_43 : (.selects R_Mod y_Mod_moves y_Mod_moves : Cond) ∈ lw_tb := tb_in (List.mem_of_getElem? (i := 43) (by decide +kernel)) (by decide +kernel)
theorem k_44 : (.selects R_Mod y_Mod_inodeAt y_Mod_inodeAt : Cond) ∈ lw_tb := tb_in (List.mem_of_getElem? (i := 44) (by decide +kernel)) (by decide +kernel)
theorem k_45 : (.selects R_Mod y_Mod_isEmpty y_Mod_isEmpty : Cond) ∈ lw_tb := tb_in (List.mem_of_getElem? (i := 45) (by decide +kernel)) (by decide +kernel)
theorem k_46 : (.selects R_Mod y_Mod_parentOf y_Mod_parentOf : Cond) ∈ lw_tb := tb_in (List.mem_of_getElem? (i := 46) (by decide +kernel)) (by decide +kernel)
theorem k_47 : (.selects R_Mod y_Mod_frees y_Mod_frees : Cond) ∈ lw_tb := tb_in (List.mem_of_getElem? (i := 47) (by decide +kernel)) (by decide +kernel)
theorem k_48 : (.selects R_Mod y_Mod_removes y_Mod_removes : Cond) ∈ lw_tb := tb_in (List.mem_of_getElem? (i := 48) (by decide +kernel)) (by decide +kernel)
theorem k_49 : (.selects R_Mod y_Mod_bringsBack y_Mod_bringsBack : Cond) ∈ lw_tb := tb_in (List.mem_of_getElem? (i := 49) (by decide +kernel)) (by decide +kernel)
theorem k_50 : (.initialized R_Law : Cond) ∈ lw_tb := tb_in (List.mem_of_getElem? (i := 50) (by decide +kernel)) (by decide +kernel)
theorem k_51 : (.initialized R_Tree : Cond) ∈ lw_tb := tb_in (List.mem_of_getElem? (i := 51) (by decide +kernel)) (by decide +kernel)
theorem k_52 : (.initialized R_Disk : Cond) ∈ lw_tb := tb_in (List.mem_of_getElem? (i := 52) (by decide +kernel)) (by decide +kernel)
theorem k_53 : (.initialized "java/lang/System" : Cond) ∈ lw_tb := tb_in (List.mem_of_getElem? (i := 53) (by decide +kernel)) (by decide +kernel)
theorem k_54 : (.initialized R_Inodes : Cond) ∈ lw_tb := tb_in (List.mem_of_getElem? (i := 54) (by decide +kernel)) (by decide +kernel)
theorem k_55 : (.initialized R_Dirs : Cond) ∈ lw_tb := tb_in (List.mem_of_getElem? (i := 55) (by decide +kernel)) (by decide +kernel)
theorem k_56 : (.initialized R_Mod : Cond) ∈ lw_tb := tb_in (List.mem_of_getElem? (i := 56) (by decide +kernel)) (by decide +kernel)
theorem k_57 : (.initialized "java/lang/Throwable" : Cond) ∈ lw_tb := tb_in (List.mem_of_getElem? (i := 57) (by decide +kernel)) (by decide +kernel)
theorem k_58 : (.initialized "java/lang/Exception" : Cond) ∈ lw_tb := tb_in (List.mem_of_getElem? (i := 58) (by decide +kernel)) (by decide +kernel)
theorem k_59 : (.initialized "java/lang/RuntimeException" : Cond) ∈ lw_tb := tb_in (List.mem_of_getElem? (i := 59) (by decide +kernel)) (by decide +kernel)
theorem k_60 : (.initialized "java/lang/IllegalArgumentException" : Cond) ∈ lw_tb := tb_in (List.mem_of_getElem? (i := 60) (by decide +kernel)) (by decide +kernel)
theorem k_61 : (.initialized "java/lang/IllegalStateException" : Cond) ∈ lw_tb := tb_in (List.mem_of_getElem? (i := 61) (by decide +kernel)) (by decide +kernel)
theorem k_62 : (.initialized "java/lang/Math" : Cond) ∈ lw_tb := tb_in (List.mem_of_getElem? (i := 62) (by decide +kernel)) (by decide +kernel)
theorem k_63 : (.initialized "java/util/NoSuchElementException" : Cond) ∈ lw_tb := tb_in (List.mem_of_getElem? (i := 63) (by decide +kernel)) (by decide +kernel)
theorem k_64 : (.classLink R_Law 8 R_Tree : Cond) ∈ lw_tb := tb_in (List.mem_of_getElem? (i := 64) (by decide +kernel)) (by decide +kernel)
theorem k_65 : (.instantiable R_Tree 5 : Cond) ∈ lw_tb := tb_in (List.mem_of_getElem? (i := 65) (by decide +kernel)) (by decide +kernel)
theorem k_66 : (.methodLink R_Law 63 y_Tree_init : Cond) ∈ lw_tb := tb_in (List.mem_of_getElem? (i := 66) (by decide +kernel)) (by decide +kernel)
theorem k_67 : (.instanceMethod y_Tree_init : Cond) ∈ lw_tb := tb_in (List.mem_of_getElem? (i := 67) (by decide +kernel)) (by decide +kernel)
theorem k_68 : (.code y_Tree_init b_Tree_init 2 none : Cond) ∈ lw_tb := tb_in (List.mem_of_getElem? (i := 68) (by decide +kernel)) (by decide +kernel)
theorem k_69 : (.methodLink R_Tree 1 objectInit : Cond) ∈ lw_tb := tb_in (List.mem_of_getElem? (i := 69) (by decide +kernel)) (by decide +kernel)
theorem k_70 : (.instanceMethod objectInit : Cond) ∈ lw_tb := tb_in (List.mem_of_getElem? (i := 70) (by decide +kernel)) (by decide +kernel)
theorem k_71 : (.code objectInit ⟨#[0xb1]⟩ 1 none : Cond) ∈ lw_tb := tb_in (List.mem_of_getElem? (i := 71) (by decide +kernel)) (by decide +kernel)
theorem k_72 : (.classLink R_Tree 7 R_Disk : Cond) ∈ lw_tb := tb_in (List.mem_of_getElem? (i := 72) (by decide +kernel)) (by decide +kernel)
theorem k_73 : (.instantiable R_Disk 7 : Cond) ∈ lw_tb := tb_in (List.mem_of_getElem? (i := 73) (by decide +kernel)) (by decide +kernel)
theorem k_74 : (.methodLink R_Tree 9 y_Disk_init : Cond) ∈ lw_tb := tb_in (List.mem_of_getElem? (i := 74) (by decide +kernel)) (by decide +kernel)
theorem k_75 : (.instanceMethod y_Disk_init : Cond) ∈ lw_tb := tb_in (List.mem_of_getElem? (i := 75) (by decide +kernel)) (by decide +kernel)
theorem k_76 : (.code y_Disk_init b_Disk_init 3 none : Cond) ∈ lw_tb := tb_in (List.mem_of_getElem? (i := 76) (by decide +kernel)) (by decide +kernel)
theorem k_77 : (.methodLink R_Disk 3 objectInit : Cond) ∈ lw_tb := tb_in (List.mem_of_getElem? (i := 77) (by decide +kernel)) (by decide +kernel)
theorem k_78 : (.methodLink R_Disk 35 y_Disk_flipMapBit : Cond) ∈ lw_tb := tb_in (List.mem_of_getElem? (i := 78) (by decide +kernel)) (by decide +kernel)
theorem k_80 : (.instanceMethod y_Disk_flipMapBit : Cond) ∈ lw_tb := tb_in (List.mem_of_getElem? (i := 80) (by decide +kernel)) (by decide +kernel)
theorem k_81 : (.code y_Disk_flipMapBit b_Disk_flipMapBit 2 none : Cond) ∈ lw_tb := tb_in (List.mem_of_getElem? (i := 81) (by decide +kernel)) (by decide +kernel)
theorem k_82 : (.methodLink R_Disk 47 y_Disk_touch : Cond) ∈ lw_tb := tb_in (List.mem_of_getElem? (i := 82) (by decide +kernel)) (by decide +kernel)
theorem k_84 : (.instanceMethod y_Disk_touch : Cond) ∈ lw_tb := tb_in (List.mem_of_getElem? (i := 84) (by decide +kernel)) (by decide +kernel)
theorem k_85 : (.code y_Disk_touch b_Disk_touch 2 none : Cond) ∈ lw_tb := tb_in (List.mem_of_getElem? (i := 85) (by decide +kernel)) (by decide +kernel)
theorem k_86 : (.methodLink R_Disk 85 arraycopyName : Cond) ∈ lw_tb := tb_in (List.mem_of_getElem? (i := 86) (by decide +kernel)) (by decide +kernel)
theorem k_87 : (.static arraycopyName : Cond) ∈ lw_tb := tb_in (List.mem_of_getElem? (i := 87) (by decide +kernel)) (by decide +kernel)
theorem k_88 : (.native arraycopyName : Cond) ∈ lw_tb := tb_in (List.mem_of_getElem? (i := 88) (by decide +kernel)) (by decide +kernel)
theorem k_89 : (.methodLink R_Disk 58 y_Disk_mapLongOf : Cond) ∈ lw_tb := tb_in (List.mem_of_getElem? (i := 89) (by decide +kernel)) (by decide +kernel)
theorem k_90 : (.static y_Disk_mapLongOf : Cond) ∈ lw_tb := tb_in (List.mem_of_getElem? (i := 90) (by decide +kernel)) (by decide +kernel)
theorem k_91 : (.code y_Disk_mapLongOf b_Disk_mapLongOf 1 (some .int) : Cond) ∈ lw_tb := tb_in (List.mem_of_getElem? (i := 91) (by decide +kernel)) (by decide +kernel)
theorem k_92 : (.fieldLink R_Disk 9 "TreeFiles$Disk" "blocks" "I" : Cond) ∈ lw_tb := tb_in (List.mem_of_getElem? (i := 92) (by decide +kernel)) (by decide +kernel)
theorem k_93 : (.fieldLink R_Disk 15 "TreeFiles$Disk" "now" "[J" : Cond) ∈ lw_tb := tb_in (List.mem_of_getElem? (i := 93) (by decide +kernel)) (by decide +kernel)
theorem k_94 : (.fieldLink R_Disk 19 "TreeFiles$Disk" "committed" "[J" : Cond) ∈ lw_tb := tb_in (List.mem_of_getElem? (i := 94) (by decide +kernel)) (by decide +kernel)
theorem k_95 : (.fieldLink R_Disk 22 "TreeFiles$Disk" "before" "[J" : Cond) ∈ lw_tb := tb_in (List.mem_of_getElem? (i := 95) (by decide +kernel)) (by decide +kernel)
theorem k_96 : (.fieldLink R_Disk 25 "TreeFiles$Disk" "touched" "[Z" : Cond) ∈ lw_tb := tb_in (List.mem_of_getElem? (i := 96) (by decide +kernel)) (by decide +kernel)
theorem k_97 : (.fieldLink R_Disk 29 "TreeFiles$Disk" "differs" "[Z" : Cond) ∈ lw_tb := tb_in (List.mem_of_getElem? (i := 97) (by decide +kernel)) (by decide +kernel)
theorem k_98 : (.fieldLink R_Disk 32 "TreeFiles$Disk" "earlyCommits" "I" : Cond) ∈ lw_tb := tb_in (List.mem_of_getElem? (i := 98) (by decide +kernel)) (by decide +kernel)
theorem k_114 : (.arrayClass .long : Cond) ∈ lw_tb := tb_in (List.mem_of_getElem? (i := 114) (by decide +kernel)) (by decide +kernel)
theorem k_115 : (.arrayClass .boolean : Cond) ∈ lw_tb := tb_in (List.mem_of_getElem? (i := 115) (by decide +kernel)) (by decide +kernel)
theorem k_116 : (.classLink R_Tree 18 R_Inodes : Cond) ∈ lw_tb := tb_in (List.mem_of_getElem? (i := 116) (by decide +kernel)) (by decide +kernel)
theorem k_117 : (.instantiable R_Inodes 1 : Cond) ∈ lw_tb := tb_in (List.mem_of_getElem? (i := 117) (by decide +kernel)) (by decide +kernel)
theorem k_118 : (.methodLink R_Tree 20 y_Inodes_init : Cond) ∈ lw_tb := tb_in (List.mem_of_getElem? (i := 118) (by decide +kernel)) (by decide +kernel)
theorem k_119 : (.instanceMethod y_Inodes_init : Cond) ∈ lw_tb := tb_in (List.mem_of_getElem? (i := 119) (by decide +kernel)) (by decide +kernel)
theorem k_120 : (.code y_Inodes_init b_Inodes_init 2 none : Cond) ∈ lw_tb := tb_in (List.mem_of_getElem? (i := 120) (by decide +kernel)) (by decide +kernel)
theorem k_121 : (.methodLink R_Inodes 3 objectInit : Cond) ∈ lw_tb := tb_in (List.mem_of_getElem? (i := 121) (by decide +kernel)) (by decide +kernel)
theorem k_122 : (.fieldLink R_Inodes 9 "TreeFiles$Inodes" "disk" "LTreeFiles$Disk;" : Cond) ∈ lw_tb := tb_in (List.mem_of_getElem? (i := 122) (by decide +kernel)) (by decide +kernel)
theorem k_126 : (.classLink R_Tree 27 R_Dirs : Cond) ∈ lw_tb := tb_in (List.mem_of_getElem? (i := 126) (by decide +kernel)) (by decide +kernel)
theorem k_127 : (.instantiable R_Dirs 3 : Cond) ∈ lw_tb := tb_in (List.mem_of_getElem? (i := 127) (by decide +kernel)) (by decide +kernel)
theorem k_128 : (.methodLink R_Tree 29 y_Dirs_init : Cond) ∈ lw_tb := tb_in (List.mem_of_getElem? (i := 128) (by decide +kernel)) (by decide +kernel)
theorem k_129 : (.instanceMethod y_Dirs_init : Cond) ∈ lw_tb := tb_in (List.mem_of_getElem? (i := 129) (by decide +kernel)) (by decide +kernel)
theorem k_130 : (.code y_Dirs_init b_Dirs_init 3 none : Cond) ∈ lw_tb := tb_in (List.mem_of_getElem? (i := 130) (by decide +kernel)) (by decide +kernel)
theorem k_131 : (.methodLink R_Dirs 3 objectInit : Cond) ∈ lw_tb := tb_in (List.mem_of_getElem? (i := 131) (by decide +kernel)) (by decide +kernel)
theorem k_132 : (.fieldLink R_Dirs 9 "TreeFiles$Directories" "disk" "LTreeFiles$Disk;" : Cond) ∈ lw_tb := tb_in (List.mem_of_getElem? (i := 132) (by decide +kernel)) (by decide +kernel)
theorem k_133 : (.fieldLink R_Dirs 15 "TreeFiles$Directories" "inodes" "LTreeFiles$Inodes;" : Cond) ∈ lw_tb := tb_in (List.mem_of_getElem? (i := 133) (by decide +kernel)) (by decide +kernel)
theorem k_134 : (.fieldLink R_Dirs 19 "TreeFiles$Directories" "parents" "[I" : Cond) ∈ lw_tb := tb_in (List.mem_of_getElem? (i := 134) (by decide +kernel)) (by decide +kernel)
theorem k_142 : (.arrayClass .int : Cond) ∈ lw_tb := tb_in (List.mem_of_getElem? (i := 142) (by decide +kernel)) (by decide +kernel)
theorem k_143 : (.methodLink R_Tree 44 y_Inodes_begin : Cond) ∈ lw_tb := tb_in (List.mem_of_getElem? (i := 143) (by decide +kernel)) (by decide +kernel)
theorem k_144 : (.instanceMethod y_Inodes_begin : Cond) ∈ lw_tb := tb_in (List.mem_of_getElem? (i := 144) (by decide +kernel)) (by decide +kernel)
theorem k_145 : (.selects R_Inodes y_Inodes_begin y_Inodes_begin : Cond) ∈ lw_tb := tb_in (List.mem_of_getElem? (i := 145) (by decide +kernel)) (by decide +kernel)
theorem k_146 : (.code y_Inodes_begin b_Inodes_begin 3 none : Cond) ∈ lw_tb := tb_in (List.mem_of_getElem? (i := 146) (by decide +kernel)) (by decide +kernel)
theorem k_147 : (.methodLink R_Inodes 15 y_Inodes_inodePlace : Cond) ∈ lw_tb := tb_in (List.mem_of_getElem? (i := 147) (by decide +kernel)) (by decide +kernel)
theorem k_148 : (.static y_Inodes_inodePlace : Cond) ∈ lw_tb := tb_in (List.mem_of_getElem? (i := 148) (by decide +kernel)) (by decide +kernel)
theorem k_149 : (.code y_Inodes_inodePlace b_Inodes_inodePlace 1 (some .int) : Cond) ∈ lw_tb := tb_in (List.mem_of_getElem? (i := 149) (by decide +kernel)) (by decide +kernel)
theorem k_150 : (.methodLink R_Inodes 34 y_Disk_setByte : Cond) ∈ lw_tb := tb_in (List.mem_of_getElem? (i := 150) (by decide +kernel)) (by decide +kernel)
theorem k_151 : (.instanceMethod y_Disk_setByte : Cond) ∈ lw_tb := tb_in (List.mem_of_getElem? (i := 151) (by decide +kernel)) (by decide +kernel)
theorem k_152 : (.selects R_Disk y_Disk_setByte y_Disk_setByte : Cond) ∈ lw_tb := tb_in (List.mem_of_getElem? (i := 152) (by decide +kernel)) (by decide +kernel)
theorem k_153 : (.code y_Disk_setByte b_Disk_setByte 6 none : Cond) ∈ lw_tb := tb_in (List.mem_of_getElem? (i := 153) (by decide +kernel)) (by decide +kernel)
theorem k_154 : (.constantLong R_Disk 50 (255) : Cond) ∈ lw_tb := tb_in (List.mem_of_getElem? (i := 154) (by decide +kernel)) (by decide +kernel)
theorem k_155 : (.constantLong R_Disk 52 (-1) : Cond) ∈ lw_tb := tb_in (List.mem_of_getElem? (i := 155) (by decide +kernel)) (by decide +kernel)
theorem k_156 : (.methodLink R_Tree 48 y_Disk_settle : Cond) ∈ lw_tb := tb_in (List.mem_of_getElem? (i := 156) (by decide +kernel)) (by decide +kernel)
theorem k_157 : (.instanceMethod y_Disk_settle : Cond) ∈ lw_tb := tb_in (List.mem_of_getElem? (i := 157) (by decide +kernel)) (by decide +kernel)
theorem k_158 : (.selects R_Disk y_Disk_settle y_Disk_settle : Cond) ∈ lw_tb := tb_in (List.mem_of_getElem? (i := 158) (by decide +kernel)) (by decide +kernel)
theorem k_159 : (.code y_Disk_settle b_Disk_settle 2 none : Cond) ∈ lw_tb := tb_in (List.mem_of_getElem? (i := 159) (by decide +kernel)) (by decide +kernel)
theorem k_160 : (.methodLink R_Disk 68 y_Disk_compare : Cond) ∈ lw_tb := tb_in (List.mem_of_getElem? (i := 160) (by decide +kernel)) (by decide +kernel)
theorem k_162 : (.instanceMethod y_Disk_compare : Cond) ∈ lw_tb := tb_in (List.mem_of_getElem? (i := 162) (by decide +kernel)) (by decide +kernel)
theorem k_163 : (.code y_Disk_compare b_Disk_compare 5 none : Cond) ∈ lw_tb := tb_in (List.mem_of_getElem? (i := 163) (by decide +kernel)) (by decide +kernel)
theorem k_164 : (.methodLink R_Disk 71 y_Disk_differingBlocks : Cond) ∈ lw_tb := tb_in (List.mem_of_getElem? (i := 164) (by decide +kernel)) (by decide +kernel)
theorem k_165 : (.instanceMethod y_Disk_differingBlocks : Cond) ∈ lw_tb := tb_in (List.mem_of_getElem? (i := 165) (by decide +kernel)) (by decide +kernel)
theorem k_166 : (.selects R_Disk y_Disk_differingBlocks y_Disk_differingBlocks : Cond) ∈ lw_tb := tb_in (List.mem_of_getElem? (i := 166) (by decide +kernel)) (by decide +kernel)
theorem k_167 : (.code y_Disk_differingBlocks b_Disk_differingBlocks 3 (some .int) : Cond) ∈ lw_tb := tb_in (List.mem_of_getElem? (i := 167) (by decide +kernel)) (by decide +kernel)
theorem k_168 : (.methodLink R_Disk 75 y_Disk_commitWhatWasBefore : Cond) ∈ lw_tb := tb_in (List.mem_of_getElem? (i := 168) (by decide +kernel)) (by decide +kernel)
theorem k_170 : (.instanceMethod y_Disk_commitWhatWasBefore : Cond) ∈ lw_tb := tb_in (List.mem_of_getElem? (i := 170) (by decide +kernel)) (by decide +kernel)
theorem k_171 : (.code y_Disk_commitWhatWasBefore b_Disk_commitWhatWasBefore 2 none : Cond) ∈ lw_tb := tb_in (List.mem_of_getElem? (i := 171) (by decide +kernel)) (by decide +kernel)
theorem k_172 : (.methodLink R_Disk 64 y_Disk_copyBlock : Cond) ∈ lw_tb := tb_in (List.mem_of_getElem? (i := 172) (by decide +kernel)) (by decide +kernel)
theorem k_173 : (.static y_Disk_copyBlock : Cond) ∈ lw_tb := tb_in (List.mem_of_getElem? (i := 173) (by decide +kernel)) (by decide +kernel)
theorem k_174 : (.code y_Disk_copyBlock b_Disk_copyBlock 3 none : Cond) ∈ lw_tb := tb_in (List.mem_of_getElem? (i := 174) (by decide +kernel)) (by decide +kernel)
theorem k_175 : (.methodLink R_Disk 61 y_Disk_isFree : Cond) ∈ lw_tb := tb_in (List.mem_of_getElem? (i := 175) (by decide +kernel)) (by decide +kernel)
theorem k_176 : (.instanceMethod y_Disk_isFree : Cond) ∈ lw_tb := tb_in (List.mem_of_getElem? (i := 176) (by decide +kernel)) (by decide +kernel)
theorem k_177 : (.selects R_Disk y_Disk_isFree y_Disk_isFree : Cond) ∈ lw_tb := tb_in (List.mem_of_getElem? (i := 177) (by decide +kernel)) (by decide +kernel)
theorem k_178 : (.code y_Disk_isFree b_Disk_isFree 2 (some .boolean) : Cond) ∈ lw_tb := tb_in (List.mem_of_getElem? (i := 178) (by decide +kernel)) (by decide +kernel)
theorem k_179 : (.methodLink R_Disk 39 y_Disk_hasBlock : Cond) ∈ lw_tb := tb_in (List.mem_of_getElem? (i := 179) (by decide +kernel)) (by decide +kernel)
theorem k_181 : (.instanceMethod y_Disk_hasBlock : Cond) ∈ lw_tb := tb_in (List.mem_of_getElem? (i := 181) (by decide +kernel)) (by decide +kernel)
theorem k_182 : (.code y_Disk_hasBlock b_Disk_hasBlock 2 (some .boolean) : Cond) ∈ lw_tb := tb_in (List.mem_of_getElem? (i := 182) (by decide +kernel)) (by decide +kernel)
theorem k_183 : (.methodLink R_Disk 78 y_Disk_forgetTouched : Cond) ∈ lw_tb := tb_in (List.mem_of_getElem? (i := 183) (by decide +kernel)) (by decide +kernel)
theorem k_185 : (.instanceMethod y_Disk_forgetTouched : Cond) ∈ lw_tb := tb_in (List.mem_of_getElem? (i := 185) (by decide +kernel)) (by decide +kernel)
theorem k_186 : (.code y_Disk_forgetTouched b_Disk_forgetTouched 2 none : Cond) ∈ lw_tb := tb_in (List.mem_of_getElem? (i := 186) (by decide +kernel)) (by decide +kernel)
theorem k_187 : (.methodLink R_Tree 51 y_Disk_commitAll : Cond) ∈ lw_tb := tb_in (List.mem_of_getElem? (i := 187) (by decide +kernel)) (by decide +kernel)
theorem k_188 : (.instanceMethod y_Disk_commitAll : Cond) ∈ lw_tb := tb_in (List.mem_of_getElem? (i := 188) (by decide +kernel)) (by decide +kernel)
theorem k_189 : (.selects R_Disk y_Disk_commitAll y_Disk_commitAll : Cond) ∈ lw_tb := tb_in (List.mem_of_getElem? (i := 189) (by decide +kernel)) (by decide +kernel)
theorem k_190 : (.code y_Disk_commitAll b_Disk_commitAll 1 none : Cond) ∈ lw_tb := tb_in (List.mem_of_getElem? (i := 190) (by decide +kernel)) (by decide +kernel)
theorem k_191 : (.methodLink R_Disk 81 y_Disk_makeAlike : Cond) ∈ lw_tb := tb_in (List.mem_of_getElem? (i := 191) (by decide +kernel)) (by decide +kernel)
theorem k_193 : (.instanceMethod y_Disk_makeAlike : Cond) ∈ lw_tb := tb_in (List.mem_of_getElem? (i := 193) (by decide +kernel)) (by decide +kernel)
theorem k_194 : (.code y_Disk_makeAlike b_Disk_makeAlike 4 none : Cond) ∈ lw_tb := tb_in (List.mem_of_getElem? (i := 194) (by decide +kernel)) (by decide +kernel)
theorem k_195 : (.fieldLink R_Tree 12 "TreeFiles" "disk" "LTreeFiles$Disk;" : Cond) ∈ lw_tb := tb_in (List.mem_of_getElem? (i := 195) (by decide +kernel)) (by decide +kernel)
theorem k_196 : (.fieldLink R_Tree 23 "TreeFiles" "inodes" "LTreeFiles$Inodes;" : Cond) ∈ lw_tb := tb_in (List.mem_of_getElem? (i := 196) (by decide +kernel)) (by decide +kernel)
theorem k_197 : (.fieldLink R_Tree 32 "TreeFiles" "directories" "LTreeFiles$Directories;" : Cond) ∈ lw_tb := tb_in (List.mem_of_getElem? (i := 197) (by decide +kernel)) (by decide +kernel)
theorem k_198 : (.fieldLink R_Tree 36 "TreeFiles" "tape" "[I" : Cond) ∈ lw_tb := tb_in (List.mem_of_getElem? (i := 198) (by decide +kernel)) (by decide +kernel)
theorem k_199 : (.fieldLink R_Tree 40 "TreeFiles" "tapeLength" "I" : Cond) ∈ lw_tb := tb_in (List.mem_of_getElem? (i := 199) (by decide +kernel)) (by decide +kernel)
theorem k_211 : (.methodLink R_Law 103 y_Tree_commit : Cond) ∈ lw_tb := tb_in (List.mem_of_getElem? (i := 211) (by decide +kernel)) (by decide +kernel)
theorem k_212 : (.instanceMethod y_Tree_commit : Cond) ∈ lw_tb := tb_in (List.mem_of_getElem? (i := 212) (by decide +kernel)) (by decide +kernel)
theorem k_213 : (.selects R_Tree y_Tree_commit y_Tree_commit : Cond) ∈ lw_tb := tb_in (List.mem_of_getElem? (i := 213) (by decide +kernel)) (by decide +kernel)
theorem k_214 : (.code y_Tree_commit b_Tree_commit 2 (some .int) : Cond) ∈ lw_tb := tb_in (List.mem_of_getElem? (i := 214) (by decide +kernel)) (by decide +kernel)
theorem k_215 : (.methodLink R_Tree 141 y_Disk_differingBlocks : Cond) ∈ lw_tb := tb_in (List.mem_of_getElem? (i := 215) (by decide +kernel)) (by decide +kernel)
theorem k_216 : (.methodLink R_Law 107 y_Tree_drop : Cond) ∈ lw_tb := tb_in (List.mem_of_getElem? (i := 216) (by decide +kernel)) (by decide +kernel)
theorem k_217 : (.instanceMethod y_Tree_drop : Cond) ∈ lw_tb := tb_in (List.mem_of_getElem? (i := 217) (by decide +kernel)) (by decide +kernel)
theorem k_218 : (.selects R_Tree y_Tree_drop y_Tree_drop : Cond) ∈ lw_tb := tb_in (List.mem_of_getElem? (i := 218) (by decide +kernel)) (by decide +kernel)
theorem k_219 : (.code y_Tree_drop b_Tree_drop 2 (some .int) : Cond) ∈ lw_tb := tb_in (List.mem_of_getElem? (i := 219) (by decide +kernel)) (by decide +kernel)
theorem k_220 : (.methodLink R_Tree 144 y_Disk_dropAll : Cond) ∈ lw_tb := tb_in (List.mem_of_getElem? (i := 220) (by decide +kernel)) (by decide +kernel)
theorem k_221 : (.instanceMethod y_Disk_dropAll : Cond) ∈ lw_tb := tb_in (List.mem_of_getElem? (i := 221) (by decide +kernel)) (by decide +kernel)
theorem k_222 : (.selects R_Disk y_Disk_dropAll y_Disk_dropAll : Cond) ∈ lw_tb := tb_in (List.mem_of_getElem? (i := 222) (by decide +kernel)) (by decide +kernel)
theorem k_223 : (.code y_Disk_dropAll b_Disk_dropAll 1 none : Cond) ∈ lw_tb := tb_in (List.mem_of_getElem? (i := 223) (by decide +kernel)) (by decide +kernel)
theorem k_224 : (.methodLink R_Law 57 y_Law_cell : Cond) ∈ lw_tb := tb_in (List.mem_of_getElem? (i := 224) (by decide +kernel)) (by decide +kernel)
theorem k_225 : (.static y_Law_cell : Cond) ∈ lw_tb := tb_in (List.mem_of_getElem? (i := 225) (by decide +kernel)) (by decide +kernel)
theorem k_226 : (.code y_Law_cell b_Law_cell 2 (some .int) : Cond) ∈ lw_tb := tb_in (List.mem_of_getElem? (i := 226) (by decide +kernel)) (by decide +kernel)
theorem k_227 : (.methodLink R_Law 71 y_Law_feed : Cond) ∈ lw_tb := tb_in (List.mem_of_getElem? (i := 227) (by decide +kernel)) (by decide +kernel)
theorem k_228 : (.static y_Law_feed : Cond) ∈ lw_tb := tb_in (List.mem_of_getElem? (i := 228) (by decide +kernel)) (by decide +kernel)
theorem k_230 : (.classLink R_Law 13 "java/lang/IllegalArgumentException" : Cond) ∈ lw_tb := tb_in (List.mem_of_getElem? (i := 230) (by decide +kernel)) (by decide +kernel)
theorem k_231 : (.classLink R_Law 15 "java/lang/IllegalStateException" : Cond) ∈ lw_tb := tb_in (List.mem_of_getElem? (i := 231) (by decide +kernel)) (by decide +kernel)
theorem k_232 : (.methodLink R_Law 7 y_Tree_feed : Cond) ∈ lw_tb := tb_in (List.mem_of_getElem? (i := 232) (by decide +kernel)) (by decide +kernel)
theorem k_233 : (.instanceMethod y_Tree_feed : Cond) ∈ lw_tb := tb_in (List.mem_of_getElem? (i := 233) (by decide +kernel)) (by decide +kernel)
theorem k_234 : (.selects R_Tree y_Tree_feed y_Tree_feed : Cond) ∈ lw_tb := tb_in (List.mem_of_getElem? (i := 234) (by decide +kernel)) (by decide +kernel)
theorem k_235 : (.code y_Tree_feed b_Tree_feed 5 (some .int) : Cond) ∈ lw_tb := tb_in (List.mem_of_getElem? (i := 235) (by decide +kernel)) (by decide +kernel)
theorem k_236 : (.classLink R_Tree 54 "java/lang/IllegalArgumentException" : Cond) ∈ lw_tb := tb_in (List.mem_of_getElem? (i := 236) (by decide +kernel)) (by decide +kernel)
theorem k_237 : (.instantiable "java/lang/IllegalArgumentException" 6 : Cond) ∈ lw_tb := tb_in (List.mem_of_getElem? (i := 237) (by decide +kernel)) (by decide +kernel)
theorem k_245 : (.selects "java/lang/IllegalArgumentException" ⟨"java/lang/Throwable", "fillInStackTrace", "(I)Ljava/lang/Throwable;"⟩ ⟨"java/lang/Throwable", "fillInStackTrace", "(I)Ljava/lang/Throwable;"⟩ : Cond) ∈ lw_tb := tb_in (List.mem_of_getElem? (i := 245) (by decide +kernel)) (by decide +kernel)
theorem k_246 : (.selects "java/lang/IllegalArgumentException" ⟨"java/lang/Throwable", "fillInStackTrace", "()Ljava/lang/Throwable;"⟩ ⟨"java/lang/Throwable", "fillInStackTrace", "()Ljava/lang/Throwable;"⟩ : Cond) ∈ lw_tb := tb_in (List.mem_of_getElem? (i := 246) (by decide +kernel)) (by decide +kernel)
theorem k_257 : (.fieldLink "java/lang/Throwable" 198 "java/lang/Throwable" "backtrace" "Ljava/lang/Object;" : Cond) ∈ lw_tb := tb_in (List.mem_of_getElem? (i := 257) (by decide +kernel)) (by decide +kernel)
theorem k_259 : (.instanceMethod ⟨"java/lang/Throwable", "<init>", "()V"⟩ : Cond) ∈ lw_tb := tb_in (List.mem_of_getElem? (i := 259) (by decide +kernel)) (by decide +kernel)
theorem k_261 : (.methodLink "java/lang/Throwable" 1 objectInit : Cond) ∈ lw_tb := tb_in (List.mem_of_getElem? (i := 261) (by decide +kernel)) (by decide +kernel)
theorem k_262 : (.fieldLink "java/lang/Throwable" 13 "java/lang/Throwable" "UNASSIGNED_STACK" "[Ljava/lang/StackTraceElement;" : Cond) ∈ lw_tb := tb_in (List.mem_of_getElem? (i := 262) (by decide +kernel)) (by decide +kernel)
theorem k_264 : (.fieldLink "java/lang/Throwable" 20 "java/lang/Throwable" "SUPPRESSED_SENTINEL" "Ljava/util/List;" : Cond) ∈ lw_tb := tb_in (List.mem_of_getElem? (i := 264) (by decide +kernel)) (by decide +kernel)
theorem k_266 : (.methodLink "java/lang/Throwable" 27 ⟨"java/lang/Throwable", "fillInStackTrace", "()Ljava/lang/Throwable;"⟩ : Cond) ∈ lw_tb := tb_in (List.mem_of_getElem? (i := 266) (by decide +kernel)) (by decide +kernel)
theorem k_267 : (.instanceMethod ⟨"java/lang/Throwable", "fillInStackTrace", "()Ljava/lang/Throwable;"⟩ : Cond) ∈ lw_tb := tb_in (List.mem_of_getElem? (i := 267) (by decide +kernel)) (by decide +kernel)
theorem k_269 : (.selects "java/lang/IllegalStateException" ⟨"java/lang/Throwable", "fillInStackTrace", "()Ljava/lang/Throwable;"⟩ ⟨"java/lang/Throwable", "fillInStackTrace", "()Ljava/lang/Throwable;"⟩ : Cond) ∈ lw_tb := tb_in (List.mem_of_getElem? (i := 269) (by decide +kernel)) (by decide +kernel)
theorem k_270 : (.selects "java/util/NoSuchElementException" ⟨"java/lang/Throwable", "fillInStackTrace", "()Ljava/lang/Throwable;"⟩ ⟨"java/lang/Throwable", "fillInStackTrace", "()Ljava/lang/Throwable;"⟩ : Cond) ∈ lw_tb := tb_in (List.mem_of_getElem? (i := 270) (by decide +kernel)) (by decide +kernel)
theorem k_272 : (.methodLink "java/lang/Throwable" 202 ⟨"java/lang/Throwable", "fillInStackTrace", "(I)Ljava/lang/Throwable;"⟩ : Cond) ∈ lw_tb := tb_in (List.mem_of_getElem? (i := 272) (by decide +kernel)) (by decide +kernel)
theorem k_274 : (.instanceMethod ⟨"java/lang/Throwable", "fillInStackTrace", "(I)Ljava/lang/Throwable;"⟩ : Cond) ∈ lw_tb := tb_in (List.mem_of_getElem? (i := 274) (by decide +kernel)) (by decide +kernel)
theorem k_275 : (.instantiable "java/lang/Throwable" 6 : Cond) ∈ lw_tb := tb_in (List.mem_of_getElem? (i := 275) (by decide +kernel)) (by decide +kernel)
theorem k_276 : (.native ⟨"java/lang/Throwable", "fillInStackTrace", "(I)Ljava/lang/Throwable;"⟩ : Cond) ∈ lw_tb := tb_in (List.mem_of_getElem? (i := 276) (by decide +kernel)) (by decide +kernel)
theorem k_278 : (.methodLink R_Tree 58 ⟨"java/lang/IllegalArgumentException", "<init>", "(Ljava/lang/String;)V"⟩ : Cond) ∈ lw_tb := tb_in (List.mem_of_getElem? (i := 278) (by decide +kernel)) (by decide +kernel)
theorem k_279 : (.instanceMethod ⟨"java/lang/IllegalArgumentException", "<init>", "(Ljava/lang/String;)V"⟩ : Cond) ∈ lw_tb := tb_in (List.mem_of_getElem? (i := 279) (by decide +kernel)) (by decide +kernel)
theorem k_281 : (.methodLink "java/lang/IllegalArgumentException" 7 ⟨"java/lang/RuntimeException", "<init>", "(Ljava/lang/String;)V"⟩ : Cond) ∈ lw_tb := tb_in (List.mem_of_getElem? (i := 281) (by decide +kernel)) (by decide +kernel)
theorem k_282 : (.instanceMethod ⟨"java/lang/RuntimeException", "<init>", "(Ljava/lang/String;)V"⟩ : Cond) ∈ lw_tb := tb_in (List.mem_of_getElem? (i := 282) (by decide +kernel)) (by decide +kernel)
theorem k_284 : (.methodLink "java/lang/RuntimeException" 7 ⟨"java/lang/Exception", "<init>", "(Ljava/lang/String;)V"⟩ : Cond) ∈ lw_tb := tb_in (List.mem_of_getElem? (i := 284) (by decide +kernel)) (by decide +kernel)
theorem k_285 : (.instanceMethod ⟨"java/lang/Exception", "<init>", "(Ljava/lang/String;)V"⟩ : Cond) ∈ lw_tb := tb_in (List.mem_of_getElem? (i := 285) (by decide +kernel)) (by decide +kernel)
theorem k_287 : (.methodLink "java/lang/Exception" 7 ⟨"java/lang/Throwable", "<init>", "(Ljava/lang/String;)V"⟩ : Cond) ∈ lw_tb := tb_in (List.mem_of_getElem? (i := 287) (by decide +kernel)) (by decide +kernel)
theorem k_288 : (.instanceMethod ⟨"java/lang/Throwable", "<init>", "(Ljava/lang/String;)V"⟩ : Cond) ∈ lw_tb := tb_in (List.mem_of_getElem? (i := 288) (by decide +kernel)) (by decide +kernel)
theorem k_291 : (.fieldLink "java/lang/Throwable" 31 "java/lang/Throwable" "detailMessage" "Ljava/lang/String;" : Cond) ∈ lw_tb := tb_in (List.mem_of_getElem? (i := 291) (by decide +kernel)) (by decide +kernel)
theorem k_292 : (.fieldLink "java/lang/Throwable" 7 "java/lang/Throwable" "cause" "Ljava/lang/Throwable;" : Cond) ∈ lw_tb := tb_in (List.mem_of_getElem? (i := 292) (by decide +kernel)) (by decide +kernel)
theorem k_293 : (.fieldLink "java/lang/Throwable" 17 "java/lang/Throwable" "stackTrace" "[Ljava/lang/StackTraceElement;" : Cond) ∈ lw_tb := tb_in (List.mem_of_getElem? (i := 293) (by decide +kernel)) (by decide +kernel)
theorem k_294 : (.fieldLink "java/lang/Throwable" 24 "java/lang/Throwable" "suppressedExceptions" "Ljava/util/List;" : Cond) ∈ lw_tb := tb_in (List.mem_of_getElem? (i := 294) (by decide +kernel)) (by decide +kernel)
theorem k_303 : (.arrayClass .byte : Cond) ∈ lw_tb := tb_in (List.mem_of_getElem? (i := 303) (by decide +kernel)) (by decide +kernel)
theorem k_304 : (.classLink R_Tree 61 "java/lang/IllegalStateException" : Cond) ∈ lw_tb := tb_in (List.mem_of_getElem? (i := 304) (by decide +kernel)) (by decide +kernel)
theorem k_305 : (.instantiable "java/lang/IllegalStateException" 6 : Cond) ∈ lw_tb := tb_in (List.mem_of_getElem? (i := 305) (by decide +kernel)) (by decide +kernel)
theorem k_307 : (.selects "java/lang/IllegalStateException" ⟨"java/lang/Throwable", "fillInStackTrace", "(I)Ljava/lang/Throwable;"⟩ ⟨"java/lang/Throwable", "fillInStackTrace", "(I)Ljava/lang/Throwable;"⟩ : Cond) ∈ lw_tb := tb_in (List.mem_of_getElem? (i := 307) (by decide +kernel)) (by decide +kernel)
theorem k_314 : (.methodLink R_Tree 65 ⟨"java/lang/IllegalStateException", "<init>", "(Ljava/lang/String;)V"⟩ : Cond) ∈ lw_tb := tb_in (List.mem_of_getElem? (i := 314) (by decide +kernel)) (by decide +kernel)
theorem k_315 : (.instanceMethod ⟨"java/lang/IllegalStateException", "<init>", "(Ljava/lang/String;)V"⟩ : Cond) ∈ lw_tb := tb_in (List.mem_of_getElem? (i := 315) (by decide +kernel)) (by decide +kernel)
theorem k_317 : (.methodLink "java/lang/IllegalStateException" 7 ⟨"java/lang/RuntimeException", "<init>", "(Ljava/lang/String;)V"⟩ : Cond) ∈ lw_tb := tb_in (List.mem_of_getElem? (i := 317) (by decide +kernel)) (by decide +kernel)
theorem k_320 : (.methodLink R_Law 79 y_Law_make : Cond) ∈ lw_tb := tb_in (List.mem_of_getElem? (i := 320) (by decide +kernel)) (by decide +kernel)
theorem k_321 : (.static y_Law_make : Cond) ∈ lw_tb := tb_in (List.mem_of_getElem? (i := 321) (by decide +kernel)) (by decide +kernel)
theorem k_323 : (.methodLink R_Law 17 y_Tree_make : Cond) ∈ lw_tb := tb_in (List.mem_of_getElem? (i := 323) (by decide +kernel)) (by decide +kernel)
theorem k_324 : (.instanceMethod y_Tree_make : Cond) ∈ lw_tb := tb_in (List.mem_of_getElem? (i := 324) (by decide +kernel)) (by decide +kernel)
theorem k_325 : (.selects R_Tree y_Tree_make y_Tree_make : Cond) ∈ lw_tb := tb_in (List.mem_of_getElem? (i := 325) (by decide +kernel)) (by decide +kernel)
theorem k_326 : (.code y_Tree_make b_Tree_make 6 (some .int) : Cond) ∈ lw_tb := tb_in (List.mem_of_getElem? (i := 326) (by decide +kernel)) (by decide +kernel)
theorem k_327 : (.methodLink R_Tree 66 y_Tree_checkInode : Cond) ∈ lw_tb := tb_in (List.mem_of_getElem? (i := 327) (by decide +kernel)) (by decide +kernel)
theorem k_328 : (.static y_Tree_checkInode : Cond) ∈ lw_tb := tb_in (List.mem_of_getElem? (i := 328) (by decide +kernel)) (by decide +kernel)
theorem k_329 : (.code y_Tree_checkInode b_Tree_checkInode 1 none : Cond) ∈ lw_tb := tb_in (List.mem_of_getElem? (i := 329) (by decide +kernel)) (by decide +kernel)
theorem k_331 : (.methodLink R_Tree 69 y_Tree_checkName : Cond) ∈ lw_tb := tb_in (List.mem_of_getElem? (i := 331) (by decide +kernel)) (by decide +kernel)
theorem k_332 : (.static y_Tree_checkName : Cond) ∈ lw_tb := tb_in (List.mem_of_getElem? (i := 332) (by decide +kernel)) (by decide +kernel)
theorem k_333 : (.code y_Tree_checkName b_Tree_checkName 1 none : Cond) ∈ lw_tb := tb_in (List.mem_of_getElem? (i := 333) (by decide +kernel)) (by decide +kernel)
theorem k_334 : (.constant R_Tree 190 (65535) : Cond) ∈ lw_tb := tb_in (List.mem_of_getElem? (i := 334) (by decide +kernel)) (by decide +kernel)
theorem k_336 : (.methodLink R_Tree 72 y_Tree_kindFault : Cond) ∈ lw_tb := tb_in (List.mem_of_getElem? (i := 336) (by decide +kernel)) (by decide +kernel)
theorem k_338 : (.instanceMethod y_Tree_kindFault : Cond) ∈ lw_tb := tb_in (List.mem_of_getElem? (i := 338) (by decide +kernel)) (by decide +kernel)
theorem k_339 : (.code y_Tree_kindFault b_Tree_kindFault 4 (some .int) : Cond) ∈ lw_tb := tb_in (List.mem_of_getElem? (i := 339) (by decide +kernel)) (by decide +kernel)
theorem k_340 : (.methodLink R_Tree 152 y_Inodes_kind : Cond) ∈ lw_tb := tb_in (List.mem_of_getElem? (i := 340) (by decide +kernel)) (by decide +kernel)
theorem k_341 : (.instanceMethod y_Inodes_kind : Cond) ∈ lw_tb := tb_in (List.mem_of_getElem? (i := 341) (by decide +kernel)) (by decide +kernel)
theorem k_342 : (.selects R_Inodes y_Inodes_kind y_Inodes_kind : Cond) ∈ lw_tb := tb_in (List.mem_of_getElem? (i := 342) (by decide +kernel)) (by decide +kernel)
theorem k_343 : (.code y_Inodes_kind b_Inodes_kind 2 (some .int) : Cond) ∈ lw_tb := tb_in (List.mem_of_getElem? (i := 343) (by decide +kernel)) (by decide +kernel)
theorem k_344 : (.methodLink R_Inodes 19 y_Disk_byteAt : Cond) ∈ lw_tb := tb_in (List.mem_of_getElem? (i := 344) (by decide +kernel)) (by decide +kernel)
theorem k_345 : (.instanceMethod y_Disk_byteAt : Cond) ∈ lw_tb := tb_in (List.mem_of_getElem? (i := 345) (by decide +kernel)) (by decide +kernel)
theorem k_346 : (.selects R_Disk y_Disk_byteAt y_Disk_byteAt : Cond) ∈ lw_tb := tb_in (List.mem_of_getElem? (i := 346) (by decide +kernel)) (by decide +kernel)
theorem k_347 : (.code y_Disk_byteAt b_Disk_byteAt 2 (some .int) : Cond) ∈ lw_tb := tb_in (List.mem_of_getElem? (i := 347) (by decide +kernel)) (by decide +kernel)
theorem k_348 : (.methodLink R_Tree 76 y_Dirs_entryNamed : Cond) ∈ lw_tb := tb_in (List.mem_of_getElem? (i := 348) (by decide +kernel)) (by decide +kernel)
theorem k_349 : (.instanceMethod y_Dirs_entryNamed : Cond) ∈ lw_tb := tb_in (List.mem_of_getElem? (i := 349) (by decide +kernel)) (by decide +kernel)
theorem k_350 : (.selects R_Dirs y_Dirs_entryNamed y_Dirs_entryNamed : Cond) ∈ lw_tb := tb_in (List.mem_of_getElem? (i := 350) (by decide +kernel)) (by decide +kernel)
theorem k_351 : (.code y_Dirs_entryNamed b_Dirs_entryNamed 6 (some .int) : Cond) ∈ lw_tb := tb_in (List.mem_of_getElem? (i := 351) (by decide +kernel)) (by decide +kernel)
theorem k_352 : (.methodLink R_Dirs 23 y_Inodes_size : Cond) ∈ lw_tb := tb_in (List.mem_of_getElem? (i := 352) (by decide +kernel)) (by decide +kernel)
theorem k_353 : (.instanceMethod y_Inodes_size : Cond) ∈ lw_tb := tb_in (List.mem_of_getElem? (i := 353) (by decide +kernel)) (by decide +kernel)
theorem k_354 : (.selects R_Inodes y_Inodes_size y_Inodes_size : Cond) ∈ lw_tb := tb_in (List.mem_of_getElem? (i := 354) (by decide +kernel)) (by decide +kernel)
theorem k_355 : (.code y_Inodes_size b_Inodes_size 2 (some .int) : Cond) ∈ lw_tb := tb_in (List.mem_of_getElem? (i := 355) (by decide +kernel)) (by decide +kernel)
theorem k_356 : (.methodLink R_Inodes 24 y_Disk_pairAt : Cond) ∈ lw_tb := tb_in (List.mem_of_getElem? (i := 356) (by decide +kernel)) (by decide +kernel)
theorem k_357 : (.instanceMethod y_Disk_pairAt : Cond) ∈ lw_tb := tb_in (List.mem_of_getElem? (i := 357) (by decide +kernel)) (by decide +kernel)
theorem k_358 : (.selects R_Disk y_Disk_pairAt y_Disk_pairAt : Cond) ∈ lw_tb := tb_in (List.mem_of_getElem? (i := 358) (by decide +kernel)) (by decide +kernel)
theorem k_359 : (.code y_Disk_pairAt b_Disk_pairAt 2 (some .int) : Cond) ∈ lw_tb := tb_in (List.mem_of_getElem? (i := 359) (by decide +kernel)) (by decide +kernel)
theorem k_360 : (.methodLink R_Disk 43 y_Disk_byteAt : Cond) ∈ lw_tb := tb_in (List.mem_of_getElem? (i := 360) (by decide +kernel)) (by decide +kernel)
theorem k_361 : (.methodLink R_Dirs 29 y_Inodes_placeOf : Cond) ∈ lw_tb := tb_in (List.mem_of_getElem? (i := 361) (by decide +kernel)) (by decide +kernel)
theorem k_362 : (.instanceMethod y_Inodes_placeOf : Cond) ∈ lw_tb := tb_in (List.mem_of_getElem? (i := 362) (by decide +kernel)) (by decide +kernel)
theorem k_363 : (.selects R_Inodes y_Inodes_placeOf y_Inodes_placeOf : Cond) ∈ lw_tb := tb_in (List.mem_of_getElem? (i := 363) (by decide +kernel)) (by decide +kernel)
theorem k_364 : (.code y_Inodes_placeOf b_Inodes_placeOf 7 (some .int) : Cond) ∈ lw_tb := tb_in (List.mem_of_getElem? (i := 364) (by decide +kernel)) (by decide +kernel)
theorem k_365 : (.methodLink R_Inodes 67 y_Inodes_extents : Cond) ∈ lw_tb := tb_in (List.mem_of_getElem? (i := 365) (by decide +kernel)) (by decide +kernel)
theorem k_366 : (.instanceMethod y_Inodes_extents : Cond) ∈ lw_tb := tb_in (List.mem_of_getElem? (i := 366) (by decide +kernel)) (by decide +kernel)
theorem k_367 : (.selects R_Inodes y_Inodes_extents y_Inodes_extents : Cond) ∈ lw_tb := tb_in (List.mem_of_getElem? (i := 367) (by decide +kernel)) (by decide +kernel)
theorem k_368 : (.code y_Inodes_extents b_Inodes_extents 2 (some .int) : Cond) ∈ lw_tb := tb_in (List.mem_of_getElem? (i := 368) (by decide +kernel)) (by decide +kernel)
theorem k_369 : (.methodLink R_Inodes 70 y_Inodes_extentLength : Cond) ∈ lw_tb := tb_in (List.mem_of_getElem? (i := 369) (by decide +kernel)) (by decide +kernel)
theorem k_370 : (.instanceMethod y_Inodes_extentLength : Cond) ∈ lw_tb := tb_in (List.mem_of_getElem? (i := 370) (by decide +kernel)) (by decide +kernel)
theorem k_371 : (.selects R_Inodes y_Inodes_extentLength y_Inodes_extentLength : Cond) ∈ lw_tb := tb_in (List.mem_of_getElem? (i := 371) (by decide +kernel)) (by decide +kernel)
theorem k_372 : (.code y_Inodes_extentLength b_Inodes_extentLength 3 (some .int) : Cond) ∈ lw_tb := tb_in (List.mem_of_getElem? (i := 372) (by decide +kernel)) (by decide +kernel)
theorem k_373 : (.methodLink R_Inodes 27 y_Inodes_extentPlace : Cond) ∈ lw_tb := tb_in (List.mem_of_getElem? (i := 373) (by decide +kernel)) (by decide +kernel)
theorem k_374 : (.static y_Inodes_extentPlace : Cond) ∈ lw_tb := tb_in (List.mem_of_getElem? (i := 374) (by decide +kernel)) (by decide +kernel)
theorem k_375 : (.code y_Inodes_extentPlace b_Inodes_extentPlace 2 (some .int) : Cond) ∈ lw_tb := tb_in (List.mem_of_getElem? (i := 375) (by decide +kernel)) (by decide +kernel)
theorem k_376 : (.methodLink R_Inodes 73 y_Inodes_extentFirst : Cond) ∈ lw_tb := tb_in (List.mem_of_getElem? (i := 376) (by decide +kernel)) (by decide +kernel)
theorem k_377 : (.instanceMethod y_Inodes_extentFirst : Cond) ∈ lw_tb := tb_in (List.mem_of_getElem? (i := 377) (by decide +kernel)) (by decide +kernel)
theorem k_378 : (.selects R_Inodes y_Inodes_extentFirst y_Inodes_extentFirst : Cond) ∈ lw_tb := tb_in (List.mem_of_getElem? (i := 378) (by decide +kernel)) (by decide +kernel)
theorem k_379 : (.code y_Inodes_extentFirst b_Inodes_extentFirst 3 (some .int) : Cond) ∈ lw_tb := tb_in (List.mem_of_getElem? (i := 379) (by decide +kernel)) (by decide +kernel)
theorem k_380 : (.methodLink R_Dirs 33 y_Disk_pairAt : Cond) ∈ lw_tb := tb_in (List.mem_of_getElem? (i := 380) (by decide +kernel)) (by decide +kernel)
theorem k_381 : (.methodLink R_Tree 79 y_Inodes_leastFree : Cond) ∈ lw_tb := tb_in (List.mem_of_getElem? (i := 381) (by decide +kernel)) (by decide +kernel)
theorem k_382 : (.instanceMethod y_Inodes_leastFree : Cond) ∈ lw_tb := tb_in (List.mem_of_getElem? (i := 382) (by decide +kernel)) (by decide +kernel)
theorem k_383 : (.selects R_Inodes y_Inodes_leastFree y_Inodes_leastFree : Cond) ∈ lw_tb := tb_in (List.mem_of_getElem? (i := 383) (by decide +kernel)) (by decide +kernel)
theorem k_384 : (.code y_Inodes_leastFree b_Inodes_leastFree 2 (some .int) : Cond) ∈ lw_tb := tb_in (List.mem_of_getElem? (i := 384) (by decide +kernel)) (by decide +kernel)
theorem k_385 : (.methodLink R_Inodes 31 y_Inodes_kind : Cond) ∈ lw_tb := tb_in (List.mem_of_getElem? (i := 385) (by decide +kernel)) (by decide +kernel)
theorem k_386 : (.methodLink R_Tree 83 y_Dirs_addEntry : Cond) ∈ lw_tb := tb_in (List.mem_of_getElem? (i := 386) (by decide +kernel)) (by decide +kernel)
theorem k_387 : (.instanceMethod y_Dirs_addEntry : Cond) ∈ lw_tb := tb_in (List.mem_of_getElem? (i := 387) (by decide +kernel)) (by decide +kernel)
theorem k_388 : (.selects R_Dirs y_Dirs_addEntry y_Dirs_addEntry : Cond) ∈ lw_tb := tb_in (List.mem_of_getElem? (i := 388) (by decide +kernel)) (by decide +kernel)
theorem k_389 : (.code y_Dirs_addEntry b_Dirs_addEntry 6 (some .boolean) : Cond) ∈ lw_tb := tb_in (List.mem_of_getElem? (i := 389) (by decide +kernel)) (by decide +kernel)
theorem k_390 : (.methodLink R_Dirs 41 y_Dirs_entryNamed : Cond) ∈ lw_tb := tb_in (List.mem_of_getElem? (i := 390) (by decide +kernel)) (by decide +kernel)
theorem k_391 : (.methodLink R_Dirs 44 y_Inodes_resize : Cond) ∈ lw_tb := tb_in (List.mem_of_getElem? (i := 391) (by decide +kernel)) (by decide +kernel)
theorem k_392 : (.instanceMethod y_Inodes_resize : Cond) ∈ lw_tb := tb_in (List.mem_of_getElem? (i := 392) (by decide +kernel)) (by decide +kernel)
theorem k_393 : (.selects R_Inodes y_Inodes_resize y_Inodes_resize : Cond) ∈ lw_tb := tb_in (List.mem_of_getElem? (i := 393) (by decide +kernel)) (by decide +kernel)
theorem k_394 : (.code y_Inodes_resize b_Inodes_resize 8 (some .boolean) : Cond) ∈ lw_tb := tb_in (List.mem_of_getElem? (i := 394) (by decide +kernel)) (by decide +kernel)
theorem k_395 : (.methodLink R_Inodes 42 y_Inodes_size : Cond) ∈ lw_tb := tb_in (List.mem_of_getElem? (i := 395) (by decide +kernel)) (by decide +kernel)
theorem k_396 : (.methodLink R_Inodes 45 y_Inodes_blocksFor : Cond) ∈ lw_tb := tb_in (List.mem_of_getElem? (i := 396) (by decide +kernel)) (by decide +kernel)
theorem k_397 : (.static y_Inodes_blocksFor : Cond) ∈ lw_tb := tb_in (List.mem_of_getElem? (i := 397) (by decide +kernel)) (by decide +kernel)
theorem k_398 : (.code y_Inodes_blocksFor b_Inodes_blocksFor 1 (some .int) : Cond) ∈ lw_tb := tb_in (List.mem_of_getElem? (i := 398) (by decide +kernel)) (by decide +kernel)
theorem k_399 : (.methodLink R_Inodes 48 y_Inodes_takeBlock : Cond) ∈ lw_tb := tb_in (List.mem_of_getElem? (i := 399) (by decide +kernel)) (by decide +kernel)
theorem k_401 : (.instanceMethod y_Inodes_takeBlock : Cond) ∈ lw_tb := tb_in (List.mem_of_getElem? (i := 401) (by decide +kernel)) (by decide +kernel)
theorem k_402 : (.code y_Inodes_takeBlock b_Inodes_takeBlock 5 (some .boolean) : Cond) ∈ lw_tb := tb_in (List.mem_of_getElem? (i := 402) (by decide +kernel)) (by decide +kernel)
theorem k_403 : (.methodLink R_Inodes 76 y_Disk_isFree : Cond) ∈ lw_tb := tb_in (List.mem_of_getElem? (i := 403) (by decide +kernel)) (by decide +kernel)
theorem k_404 : (.methodLink R_Inodes 79 y_Disk_takeBlock : Cond) ∈ lw_tb := tb_in (List.mem_of_getElem? (i := 404) (by decide +kernel)) (by decide +kernel)
theorem k_405 : (.instanceMethod y_Disk_takeBlock : Cond) ∈ lw_tb := tb_in (List.mem_of_getElem? (i := 405) (by decide +kernel)) (by decide +kernel)
theorem k_406 : (.selects R_Disk y_Disk_takeBlock y_Disk_takeBlock : Cond) ∈ lw_tb := tb_in (List.mem_of_getElem? (i := 406) (by decide +kernel)) (by decide +kernel)
theorem k_407 : (.code y_Disk_takeBlock b_Disk_takeBlock 3 none : Cond) ∈ lw_tb := tb_in (List.mem_of_getElem? (i := 407) (by decide +kernel)) (by decide +kernel)
theorem k_408 : (.methodLink R_Inodes 81 y_Disk_leastFree : Cond) ∈ lw_tb := tb_in (List.mem_of_getElem? (i := 408) (by decide +kernel)) (by decide +kernel)
theorem k_409 : (.instanceMethod y_Disk_leastFree : Cond) ∈ lw_tb := tb_in (List.mem_of_getElem? (i := 409) (by decide +kernel)) (by decide +kernel)
theorem k_410 : (.selects R_Disk y_Disk_leastFree y_Disk_leastFree : Cond) ∈ lw_tb := tb_in (List.mem_of_getElem? (i := 410) (by decide +kernel)) (by decide +kernel)
theorem k_411 : (.code y_Disk_leastFree b_Disk_leastFree 2 (some .int) : Cond) ∈ lw_tb := tb_in (List.mem_of_getElem? (i := 411) (by decide +kernel)) (by decide +kernel)
theorem k_412 : (.methodLink R_Inodes 64 y_Disk_setPair : Cond) ∈ lw_tb := tb_in (List.mem_of_getElem? (i := 412) (by decide +kernel)) (by decide +kernel)
theorem k_413 : (.instanceMethod y_Disk_setPair : Cond) ∈ lw_tb := tb_in (List.mem_of_getElem? (i := 413) (by decide +kernel)) (by decide +kernel)
theorem k_414 : (.selects R_Disk y_Disk_setPair y_Disk_setPair : Cond) ∈ lw_tb := tb_in (List.mem_of_getElem? (i := 414) (by decide +kernel)) (by decide +kernel)
theorem k_415 : (.code y_Disk_setPair b_Disk_setPair 3 none : Cond) ∈ lw_tb := tb_in (List.mem_of_getElem? (i := 415) (by decide +kernel)) (by decide +kernel)
theorem k_416 : (.methodLink R_Disk 54 y_Disk_setByte : Cond) ∈ lw_tb := tb_in (List.mem_of_getElem? (i := 416) (by decide +kernel)) (by decide +kernel)
theorem k_417 : (.methodLink R_Inodes 52 y_Inodes_giveBlockBack : Cond) ∈ lw_tb := tb_in (List.mem_of_getElem? (i := 417) (by decide +kernel)) (by decide +kernel)
theorem k_419 : (.instanceMethod y_Inodes_giveBlockBack : Cond) ∈ lw_tb := tb_in (List.mem_of_getElem? (i := 419) (by decide +kernel)) (by decide +kernel)
theorem k_420 : (.code y_Inodes_giveBlockBack b_Inodes_giveBlockBack 4 none : Cond) ∈ lw_tb := tb_in (List.mem_of_getElem? (i := 420) (by decide +kernel)) (by decide +kernel)
theorem k_421 : (.methodLink R_Inodes 85 y_Disk_giveBlockBack : Cond) ∈ lw_tb := tb_in (List.mem_of_getElem? (i := 421) (by decide +kernel)) (by decide +kernel)
theorem k_422 : (.instanceMethod y_Disk_giveBlockBack : Cond) ∈ lw_tb := tb_in (List.mem_of_getElem? (i := 422) (by decide +kernel)) (by decide +kernel)
theorem k_423 : (.selects R_Disk y_Disk_giveBlockBack y_Disk_giveBlockBack : Cond) ∈ lw_tb := tb_in (List.mem_of_getElem? (i := 423) (by decide +kernel)) (by decide +kernel)
theorem k_424 : (.code y_Disk_giveBlockBack b_Disk_giveBlockBack 2 none : Cond) ∈ lw_tb := tb_in (List.mem_of_getElem? (i := 424) (by decide +kernel)) (by decide +kernel)
theorem k_425 : (.methodLink R_Inodes 56 Lib.Math.min.name : Cond) ∈ lw_tb := tb_in (List.mem_of_getElem? (i := 425) (by decide +kernel)) (by decide +kernel)
theorem k_426 : (.static Lib.Math.min.name : Cond) ∈ lw_tb := tb_in (List.mem_of_getElem? (i := 426) (by decide +kernel)) (by decide +kernel)
theorem k_427 : (.code Lib.Math.min.name Lib.Math.min.code 2 (some .int) : Cond) ∈ lw_tb := tb_in (List.mem_of_getElem? (i := 427) (by decide +kernel)) (by decide +kernel)
theorem k_428 : (.methodLink R_Inodes 61 y_Inodes_placeOf : Cond) ∈ lw_tb := tb_in (List.mem_of_getElem? (i := 428) (by decide +kernel)) (by decide +kernel)
theorem k_429 : (.methodLink R_Dirs 48 y_Dirs_setEntry : Cond) ∈ lw_tb := tb_in (List.mem_of_getElem? (i := 429) (by decide +kernel)) (by decide +kernel)
theorem k_430 : (.instanceMethod y_Dirs_setEntry : Cond) ∈ lw_tb := tb_in (List.mem_of_getElem? (i := 430) (by decide +kernel)) (by decide +kernel)
theorem k_431 : (.selects R_Dirs y_Dirs_setEntry y_Dirs_setEntry : Cond) ∈ lw_tb := tb_in (List.mem_of_getElem? (i := 431) (by decide +kernel)) (by decide +kernel)
theorem k_432 : (.code y_Dirs_setEntry b_Dirs_setEntry 4 none : Cond) ∈ lw_tb := tb_in (List.mem_of_getElem? (i := 432) (by decide +kernel)) (by decide +kernel)
theorem k_433 : (.methodLink R_Dirs 52 y_Disk_setPair : Cond) ∈ lw_tb := tb_in (List.mem_of_getElem? (i := 433) (by decide +kernel)) (by decide +kernel)
theorem k_434 : (.methodLink R_Dirs 56 y_Disk_setByte : Cond) ∈ lw_tb := tb_in (List.mem_of_getElem? (i := 434) (by decide +kernel)) (by decide +kernel)
theorem k_435 : (.methodLink R_Tree 87 y_Disk_undo : Cond) ∈ lw_tb := tb_in (List.mem_of_getElem? (i := 435) (by decide +kernel)) (by decide +kernel)
theorem k_436 : (.instanceMethod y_Disk_undo : Cond) ∈ lw_tb := tb_in (List.mem_of_getElem? (i := 436) (by decide +kernel)) (by decide +kernel)
theorem k_437 : (.selects R_Disk y_Disk_undo y_Disk_undo : Cond) ∈ lw_tb := tb_in (List.mem_of_getElem? (i := 437) (by decide +kernel)) (by decide +kernel)
theorem k_438 : (.code y_Disk_undo b_Disk_undo 2 none : Cond) ∈ lw_tb := tb_in (List.mem_of_getElem? (i := 438) (by decide +kernel)) (by decide +kernel)
theorem k_439 : (.methodLink R_Law 83 y_Law_find : Cond) ∈ lw_tb := tb_in (List.mem_of_getElem? (i := 439) (by decide +kernel)) (by decide +kernel)
theorem k_440 : (.static y_Law_find : Cond) ∈ lw_tb := tb_in (List.mem_of_getElem? (i := 440) (by decide +kernel)) (by decide +kernel)
theorem k_442 : (.methodLink R_Law 21 y_Tree_find : Cond) ∈ lw_tb := tb_in (List.mem_of_getElem? (i := 442) (by decide +kernel)) (by decide +kernel)
theorem k_443 : (.instanceMethod y_Tree_find : Cond) ∈ lw_tb := tb_in (List.mem_of_getElem? (i := 443) (by decide +kernel)) (by decide +kernel)
theorem k_444 : (.selects R_Tree y_Tree_find y_Tree_find : Cond) ∈ lw_tb := tb_in (List.mem_of_getElem? (i := 444) (by decide +kernel)) (by decide +kernel)
theorem k_445 : (.code y_Tree_find b_Tree_find 4 (some .int) : Cond) ∈ lw_tb := tb_in (List.mem_of_getElem? (i := 445) (by decide +kernel)) (by decide +kernel)
theorem k_446 : (.methodLink R_Tree 90 y_Tree_entryOrFault : Cond) ∈ lw_tb := tb_in (List.mem_of_getElem? (i := 446) (by decide +kernel)) (by decide +kernel)
theorem k_448 : (.instanceMethod y_Tree_entryOrFault : Cond) ∈ lw_tb := tb_in (List.mem_of_getElem? (i := 448) (by decide +kernel)) (by decide +kernel)
theorem k_449 : (.code y_Tree_entryOrFault b_Tree_entryOrFault 5 (some .int) : Cond) ∈ lw_tb := tb_in (List.mem_of_getElem? (i := 449) (by decide +kernel)) (by decide +kernel)
theorem k_450 : (.methodLink R_Tree 93 y_Dirs_inodeOf : Cond) ∈ lw_tb := tb_in (List.mem_of_getElem? (i := 450) (by decide +kernel)) (by decide +kernel)
theorem k_451 : (.instanceMethod y_Dirs_inodeOf : Cond) ∈ lw_tb := tb_in (List.mem_of_getElem? (i := 451) (by decide +kernel)) (by decide +kernel)
theorem k_452 : (.selects R_Dirs y_Dirs_inodeOf y_Dirs_inodeOf : Cond) ∈ lw_tb := tb_in (List.mem_of_getElem? (i := 452) (by decide +kernel)) (by decide +kernel)
theorem k_453 : (.code y_Dirs_inodeOf b_Dirs_inodeOf 2 (some .int) : Cond) ∈ lw_tb := tb_in (List.mem_of_getElem? (i := 453) (by decide +kernel)) (by decide +kernel)
theorem k_454 : (.methodLink R_Dirs 38 y_Disk_byteAt : Cond) ∈ lw_tb := tb_in (List.mem_of_getElem? (i := 454) (by decide +kernel)) (by decide +kernel)
theorem k_455 : (.methodLink R_Law 87 y_Law_write : Cond) ∈ lw_tb := tb_in (List.mem_of_getElem? (i := 455) (by decide +kernel)) (by decide +kernel)
theorem k_456 : (.static y_Law_write : Cond) ∈ lw_tb := tb_in (List.mem_of_getElem? (i := 456) (by decide +kernel)) (by decide +kernel)
theorem k_458 : (.methodLink R_Law 25 y_Tree_write : Cond) ∈ lw_tb := tb_in (List.mem_of_getElem? (i := 458) (by decide +kernel)) (by decide +kernel)
theorem k_459 : (.instanceMethod y_Tree_write : Cond) ∈ lw_tb := tb_in (List.mem_of_getElem? (i := 459) (by decide +kernel)) (by decide +kernel)
theorem k_460 : (.selects R_Tree y_Tree_write y_Tree_write : Cond) ∈ lw_tb := tb_in (List.mem_of_getElem? (i := 460) (by decide +kernel)) (by decide +kernel)
theorem k_461 : (.code y_Tree_write b_Tree_write 8 (some .int) : Cond) ∈ lw_tb := tb_in (List.mem_of_getElem? (i := 461) (by decide +kernel)) (by decide +kernel)
theorem k_462 : (.methodLink R_Tree 97 y_Inodes_size : Cond) ∈ lw_tb := tb_in (List.mem_of_getElem? (i := 462) (by decide +kernel)) (by decide +kernel)
theorem k_463 : (.methodLink R_Tree 100 Lib.Math.max.name : Cond) ∈ lw_tb := tb_in (List.mem_of_getElem? (i := 463) (by decide +kernel)) (by decide +kernel)
theorem k_464 : (.static Lib.Math.max.name : Cond) ∈ lw_tb := tb_in (List.mem_of_getElem? (i := 464) (by decide +kernel)) (by decide +kernel)
theorem k_465 : (.code Lib.Math.max.name Lib.Math.max.code 2 (some .int) : Cond) ∈ lw_tb := tb_in (List.mem_of_getElem? (i := 465) (by decide +kernel)) (by decide +kernel)
theorem k_466 : (.methodLink R_Tree 105 y_Inodes_resize : Cond) ∈ lw_tb := tb_in (List.mem_of_getElem? (i := 466) (by decide +kernel)) (by decide +kernel)
theorem k_467 : (.methodLink R_Tree 109 y_Inodes_placeOf : Cond) ∈ lw_tb := tb_in (List.mem_of_getElem? (i := 467) (by decide +kernel)) (by decide +kernel)
theorem k_468 : (.methodLink R_Tree 112 y_Disk_setByte : Cond) ∈ lw_tb := tb_in (List.mem_of_getElem? (i := 468) (by decide +kernel)) (by decide +kernel)
theorem k_469 : (.methodLink R_Law 90 y_Law_cut : Cond) ∈ lw_tb := tb_in (List.mem_of_getElem? (i := 469) (by decide +kernel)) (by decide +kernel)
theorem k_470 : (.static y_Law_cut : Cond) ∈ lw_tb := tb_in (List.mem_of_getElem? (i := 470) (by decide +kernel)) (by decide +kernel)
theorem k_472 : (.methodLink R_Law 28 y_Tree_cut : Cond) ∈ lw_tb := tb_in (List.mem_of_getElem? (i := 472) (by decide +kernel)) (by decide +kernel)
theorem k_473 : (.instanceMethod y_Tree_cut : Cond) ∈ lw_tb := tb_in (List.mem_of_getElem? (i := 473) (by decide +kernel)) (by decide +kernel)
theorem k_474 : (.selects R_Tree y_Tree_cut y_Tree_cut : Cond) ∈ lw_tb := tb_in (List.mem_of_getElem? (i := 474) (by decide +kernel)) (by decide +kernel)
theorem k_475 : (.code y_Tree_cut b_Tree_cut 4 (some .int) : Cond) ∈ lw_tb := tb_in (List.mem_of_getElem? (i := 475) (by decide +kernel)) (by decide +kernel)
theorem k_476 : (.methodLink R_Law 93 y_Law_read : Cond) ∈ lw_tb := tb_in (List.mem_of_getElem? (i := 476) (by decide +kernel)) (by decide +kernel)
theorem k_477 : (.static y_Law_read : Cond) ∈ lw_tb := tb_in (List.mem_of_getElem? (i := 477) (by decide +kernel)) (by decide +kernel)
theorem k_479 : (.classLink R_Law 35 "java/util/NoSuchElementException" : Cond) ∈ lw_tb := tb_in (List.mem_of_getElem? (i := 479) (by decide +kernel)) (by decide +kernel)
theorem k_480 : (.methodLink R_Law 31 y_Tree_read : Cond) ∈ lw_tb := tb_in (List.mem_of_getElem? (i := 480) (by decide +kernel)) (by decide +kernel)
theorem k_481 : (.instanceMethod y_Tree_read : Cond) ∈ lw_tb := tb_in (List.mem_of_getElem? (i := 481) (by decide +kernel)) (by decide +kernel)
theorem k_482 : (.selects R_Tree y_Tree_read y_Tree_read : Cond) ∈ lw_tb := tb_in (List.mem_of_getElem? (i := 482) (by decide +kernel)) (by decide +kernel)
theorem k_483 : (.code y_Tree_read b_Tree_read 6 (some .long) : Cond) ∈ lw_tb := tb_in (List.mem_of_getElem? (i := 483) (by decide +kernel)) (by decide +kernel)
theorem k_484 : (.classLink R_Tree 115 "java/util/NoSuchElementException" : Cond) ∈ lw_tb := tb_in (List.mem_of_getElem? (i := 484) (by decide +kernel)) (by decide +kernel)
theorem k_485 : (.instantiable "java/util/NoSuchElementException" 6 : Cond) ∈ lw_tb := tb_in (List.mem_of_getElem? (i := 485) (by decide +kernel)) (by decide +kernel)
theorem k_487 : (.selects "java/util/NoSuchElementException" ⟨"java/lang/Throwable", "fillInStackTrace", "(I)Ljava/lang/Throwable;"⟩ ⟨"java/lang/Throwable", "fillInStackTrace", "(I)Ljava/lang/Throwable;"⟩ : Cond) ∈ lw_tb := tb_in (List.mem_of_getElem? (i := 487) (by decide +kernel)) (by decide +kernel)
theorem k_494 : (.methodLink R_Tree 119 ⟨"java/util/NoSuchElementException", "<init>", "(Ljava/lang/String;)V"⟩ : Cond) ∈ lw_tb := tb_in (List.mem_of_getElem? (i := 494) (by decide +kernel)) (by decide +kernel)
theorem k_495 : (.instanceMethod ⟨"java/util/NoSuchElementException", "<init>", "(Ljava/lang/String;)V"⟩ : Cond) ∈ lw_tb := tb_in (List.mem_of_getElem? (i := 495) (by decide +kernel)) (by decide +kernel)
theorem k_497 : (.methodLink "java/util/NoSuchElementException" 13 ⟨"java/lang/RuntimeException", "<init>", "(Ljava/lang/String;)V"⟩ : Cond) ∈ lw_tb := tb_in (List.mem_of_getElem? (i := 497) (by decide +kernel)) (by decide +kernel)
theorem k_500 : (.methodLink R_Tree 120 y_Disk_byteAt : Cond) ∈ lw_tb := tb_in (List.mem_of_getElem? (i := 500) (by decide +kernel)) (by decide +kernel)
theorem k_501 : (.methodLink R_Law 96 y_Law_move : Cond) ∈ lw_tb := tb_in (List.mem_of_getElem? (i := 501) (by decide +kernel)) (by decide +kernel)
theorem k_502 : (.static y_Law_move : Cond) ∈ lw_tb := tb_in (List.mem_of_getElem? (i := 502) (by decide +kernel)) (by decide +kernel)
theorem k_504 : (.methodLink R_Law 37 y_Tree_move : Cond) ∈ lw_tb := tb_in (List.mem_of_getElem? (i := 504) (by decide +kernel)) (by decide +kernel)
theorem k_505 : (.instanceMethod y_Tree_move : Cond) ∈ lw_tb := tb_in (List.mem_of_getElem? (i := 505) (by decide +kernel)) (by decide +kernel)
theorem k_506 : (.selects R_Tree y_Tree_move y_Tree_move : Cond) ∈ lw_tb := tb_in (List.mem_of_getElem? (i := 506) (by decide +kernel)) (by decide +kernel)
theorem k_507 : (.code y_Tree_move b_Tree_move 9 (some .int) : Cond) ∈ lw_tb := tb_in (List.mem_of_getElem? (i := 507) (by decide +kernel)) (by decide +kernel)
theorem k_508 : (.methodLink R_Tree 123 y_Tree_moveFault : Cond) ∈ lw_tb := tb_in (List.mem_of_getElem? (i := 508) (by decide +kernel)) (by decide +kernel)
theorem k_510 : (.instanceMethod y_Tree_moveFault : Cond) ∈ lw_tb := tb_in (List.mem_of_getElem? (i := 510) (by decide +kernel)) (by decide +kernel)
theorem k_511 : (.code y_Tree_moveFault b_Tree_moveFault 6 (some .int) : Cond) ∈ lw_tb := tb_in (List.mem_of_getElem? (i := 511) (by decide +kernel)) (by decide +kernel)
theorem k_512 : (.methodLink R_Tree 137 y_Tree_hasEntries : Cond) ∈ lw_tb := tb_in (List.mem_of_getElem? (i := 512) (by decide +kernel)) (by decide +kernel)
theorem k_514 : (.instanceMethod y_Tree_hasEntries : Cond) ∈ lw_tb := tb_in (List.mem_of_getElem? (i := 514) (by decide +kernel)) (by decide +kernel)
theorem k_515 : (.code y_Tree_hasEntries b_Tree_hasEntries 2 (some .boolean) : Cond) ∈ lw_tb := tb_in (List.mem_of_getElem? (i := 515) (by decide +kernel)) (by decide +kernel)
theorem k_516 : (.methodLink R_Tree 196 y_Dirs_isEmpty : Cond) ∈ lw_tb := tb_in (List.mem_of_getElem? (i := 516) (by decide +kernel)) (by decide +kernel)
theorem k_517 : (.instanceMethod y_Dirs_isEmpty : Cond) ∈ lw_tb := tb_in (List.mem_of_getElem? (i := 517) (by decide +kernel)) (by decide +kernel)
theorem k_518 : (.selects R_Dirs y_Dirs_isEmpty y_Dirs_isEmpty : Cond) ∈ lw_tb := tb_in (List.mem_of_getElem? (i := 518) (by decide +kernel)) (by decide +kernel)
theorem k_519 : (.code y_Dirs_isEmpty b_Dirs_isEmpty 4 (some .boolean) : Cond) ∈ lw_tb := tb_in (List.mem_of_getElem? (i := 519) (by decide +kernel)) (by decide +kernel)
theorem k_520 : (.methodLink R_Tree 193 y_Dirs_isWithin : Cond) ∈ lw_tb := tb_in (List.mem_of_getElem? (i := 520) (by decide +kernel)) (by decide +kernel)
theorem k_521 : (.instanceMethod y_Dirs_isWithin : Cond) ∈ lw_tb := tb_in (List.mem_of_getElem? (i := 521) (by decide +kernel)) (by decide +kernel)
theorem k_522 : (.selects R_Dirs y_Dirs_isWithin y_Dirs_isWithin : Cond) ∈ lw_tb := tb_in (List.mem_of_getElem? (i := 522) (by decide +kernel)) (by decide +kernel)
theorem k_523 : (.code y_Dirs_isWithin b_Dirs_isWithin 5 (some .boolean) : Cond) ∈ lw_tb := tb_in (List.mem_of_getElem? (i := 523) (by decide +kernel)) (by decide +kernel)
theorem k_524 : (.methodLink R_Dirs 59 y_Dirs_fillParents : Cond) ∈ lw_tb := tb_in (List.mem_of_getElem? (i := 524) (by decide +kernel)) (by decide +kernel)
theorem k_526 : (.instanceMethod y_Dirs_fillParents : Cond) ∈ lw_tb := tb_in (List.mem_of_getElem? (i := 526) (by decide +kernel)) (by decide +kernel)
theorem k_527 : (.code y_Dirs_fillParents b_Dirs_fillParents 5 none : Cond) ∈ lw_tb := tb_in (List.mem_of_getElem? (i := 527) (by decide +kernel)) (by decide +kernel)
theorem k_528 : (.methodLink R_Dirs 62 y_Inodes_kind : Cond) ∈ lw_tb := tb_in (List.mem_of_getElem? (i := 528) (by decide +kernel)) (by decide +kernel)
theorem k_529 : (.methodLink R_Dirs 65 y_Dirs_inodeOf : Cond) ∈ lw_tb := tb_in (List.mem_of_getElem? (i := 529) (by decide +kernel)) (by decide +kernel)
theorem k_530 : (.methodLink R_Tree 127 y_Dirs_clearEntry : Cond) ∈ lw_tb := tb_in (List.mem_of_getElem? (i := 530) (by decide +kernel)) (by decide +kernel)
theorem k_531 : (.instanceMethod y_Dirs_clearEntry : Cond) ∈ lw_tb := tb_in (List.mem_of_getElem? (i := 531) (by decide +kernel)) (by decide +kernel)
theorem k_532 : (.selects R_Dirs y_Dirs_clearEntry y_Dirs_clearEntry : Cond) ∈ lw_tb := tb_in (List.mem_of_getElem? (i := 532) (by decide +kernel)) (by decide +kernel)
theorem k_533 : (.code y_Dirs_clearEntry b_Dirs_clearEntry 2 none : Cond) ∈ lw_tb := tb_in (List.mem_of_getElem? (i := 533) (by decide +kernel)) (by decide +kernel)
theorem k_534 : (.methodLink R_Tree 130 y_Inodes_release : Cond) ∈ lw_tb := tb_in (List.mem_of_getElem? (i := 534) (by decide +kernel)) (by decide +kernel)
theorem k_535 : (.instanceMethod y_Inodes_release : Cond) ∈ lw_tb := tb_in (List.mem_of_getElem? (i := 535) (by decide +kernel)) (by decide +kernel)
theorem k_536 : (.selects R_Inodes y_Inodes_release y_Inodes_release : Cond) ∈ lw_tb := tb_in (List.mem_of_getElem? (i := 536) (by decide +kernel)) (by decide +kernel)
theorem k_537 : (.code y_Inodes_release b_Inodes_release 2 none : Cond) ∈ lw_tb := tb_in (List.mem_of_getElem? (i := 537) (by decide +kernel)) (by decide +kernel)
theorem k_538 : (.methodLink R_Inodes 38 y_Inodes_resize : Cond) ∈ lw_tb := tb_in (List.mem_of_getElem? (i := 538) (by decide +kernel)) (by decide +kernel)
theorem k_539 : (.methodLink R_Tree 133 y_Dirs_setEntry : Cond) ∈ lw_tb := tb_in (List.mem_of_getElem? (i := 539) (by decide +kernel)) (by decide +kernel)
theorem k_540 : (.methodLink R_Law 100 y_Law_remove : Cond) ∈ lw_tb := tb_in (List.mem_of_getElem? (i := 540) (by decide +kernel)) (by decide +kernel)
theorem k_541 : (.static y_Law_remove : Cond) ∈ lw_tb := tb_in (List.mem_of_getElem? (i := 541) (by decide +kernel)) (by decide +kernel)
theorem k_543 : (.methodLink R_Law 41 y_Tree_remove : Cond) ∈ lw_tb := tb_in (List.mem_of_getElem? (i := 543) (by decide +kernel)) (by decide +kernel)
theorem k_544 : (.instanceMethod y_Tree_remove : Cond) ∈ lw_tb := tb_in (List.mem_of_getElem? (i := 544) (by decide +kernel)) (by decide +kernel)
theorem k_545 : (.selects R_Tree y_Tree_remove y_Tree_remove : Cond) ∈ lw_tb := tb_in (List.mem_of_getElem? (i := 545) (by decide +kernel)) (by decide +kernel)
theorem k_546 : (.code y_Tree_remove b_Tree_remove 5 (some .int) : Cond) ∈ lw_tb := tb_in (List.mem_of_getElem? (i := 546) (by decide +kernel)) (by decide +kernel)
theorem k_547 : (.methodLink R_Law 111 y_Law_node : Cond) ∈ lw_tb := tb_in (List.mem_of_getElem? (i := 547) (by decide +kernel)) (by decide +kernel)
theorem k_548 : (.static y_Law_node : Cond) ∈ lw_tb := tb_in (List.mem_of_getElem? (i := 548) (by decide +kernel)) (by decide +kernel)
theorem k_550 : (.methodLink R_Law 44 y_Tree_node : Cond) ∈ lw_tb := tb_in (List.mem_of_getElem? (i := 550) (by decide +kernel)) (by decide +kernel)
theorem k_551 : (.instanceMethod y_Tree_node : Cond) ∈ lw_tb := tb_in (List.mem_of_getElem? (i := 551) (by decide +kernel)) (by decide +kernel)
theorem k_552 : (.selects R_Tree y_Tree_node y_Tree_node : Cond) ∈ lw_tb := tb_in (List.mem_of_getElem? (i := 552) (by decide +kernel)) (by decide +kernel)
theorem k_553 : (.code y_Tree_node b_Tree_node 4 (some .int) : Cond) ∈ lw_tb := tb_in (List.mem_of_getElem? (i := 553) (by decide +kernel)) (by decide +kernel)
theorem k_554 : (.methodLink R_Tree 147 y_Inodes_extents : Cond) ∈ lw_tb := tb_in (List.mem_of_getElem? (i := 554) (by decide +kernel)) (by decide +kernel)
theorem k_556 : (.methodLink R_Tree 155 y_Inodes_extentFirst : Cond) ∈ lw_tb := tb_in (List.mem_of_getElem? (i := 556) (by decide +kernel)) (by decide +kernel)
theorem k_557 : (.methodLink R_Tree 158 y_Inodes_extentLength : Cond) ∈ lw_tb := tb_in (List.mem_of_getElem? (i := 557) (by decide +kernel)) (by decide +kernel)
theorem k_558 : (.methodLink R_Law 114 y_Law_at : Cond) ∈ lw_tb := tb_in (List.mem_of_getElem? (i := 558) (by decide +kernel)) (by decide +kernel)
theorem k_559 : (.static y_Law_at : Cond) ∈ lw_tb := tb_in (List.mem_of_getElem? (i := 559) (by decide +kernel)) (by decide +kernel)
theorem k_561 : (.methodLink R_Law 47 y_Tree_at : Cond) ∈ lw_tb := tb_in (List.mem_of_getElem? (i := 561) (by decide +kernel)) (by decide +kernel)
theorem k_562 : (.instanceMethod y_Tree_at : Cond) ∈ lw_tb := tb_in (List.mem_of_getElem? (i := 562) (by decide +kernel)) (by decide +kernel)
theorem k_563 : (.selects R_Tree y_Tree_at y_Tree_at : Cond) ∈ lw_tb := tb_in (List.mem_of_getElem? (i := 563) (by decide +kernel)) (by decide +kernel)
theorem k_564 : (.code y_Tree_at b_Tree_at 5 (some .int) : Cond) ∈ lw_tb := tb_in (List.mem_of_getElem? (i := 564) (by decide +kernel)) (by decide +kernel)
theorem k_565 : (.methodLink R_Tree 161 y_Disk_hasByte : Cond) ∈ lw_tb := tb_in (List.mem_of_getElem? (i := 565) (by decide +kernel)) (by decide +kernel)
theorem k_566 : (.instanceMethod y_Disk_hasByte : Cond) ∈ lw_tb := tb_in (List.mem_of_getElem? (i := 566) (by decide +kernel)) (by decide +kernel)
theorem k_567 : (.selects R_Disk y_Disk_hasByte y_Disk_hasByte : Cond) ∈ lw_tb := tb_in (List.mem_of_getElem? (i := 567) (by decide +kernel)) (by decide +kernel)
theorem k_568 : (.code y_Disk_hasByte b_Disk_hasByte 3 (some .boolean) : Cond) ∈ lw_tb := tb_in (List.mem_of_getElem? (i := 568) (by decide +kernel)) (by decide +kernel)
theorem k_570 : (.methodLink R_Tree 166 y_Disk_committedByteAt : Cond) ∈ lw_tb := tb_in (List.mem_of_getElem? (i := 570) (by decide +kernel)) (by decide +kernel)
theorem k_571 : (.instanceMethod y_Disk_committedByteAt : Cond) ∈ lw_tb := tb_in (List.mem_of_getElem? (i := 571) (by decide +kernel)) (by decide +kernel)
theorem k_572 : (.selects R_Disk y_Disk_committedByteAt y_Disk_committedByteAt : Cond) ∈ lw_tb := tb_in (List.mem_of_getElem? (i := 572) (by decide +kernel)) (by decide +kernel)
theorem k_573 : (.code y_Disk_committedByteAt b_Disk_committedByteAt 2 (some .int) : Cond) ∈ lw_tb := tb_in (List.mem_of_getElem? (i := 573) (by decide +kernel)) (by decide +kernel)
theorem k_574 : (.methodLink R_Law 117 y_Law_changed : Cond) ∈ lw_tb := tb_in (List.mem_of_getElem? (i := 574) (by decide +kernel)) (by decide +kernel)
theorem k_575 : (.static y_Law_changed : Cond) ∈ lw_tb := tb_in (List.mem_of_getElem? (i := 575) (by decide +kernel)) (by decide +kernel)
theorem k_577 : (.methodLink R_Law 50 y_Tree_changed : Cond) ∈ lw_tb := tb_in (List.mem_of_getElem? (i := 577) (by decide +kernel)) (by decide +kernel)
theorem k_578 : (.instanceMethod y_Tree_changed : Cond) ∈ lw_tb := tb_in (List.mem_of_getElem? (i := 578) (by decide +kernel)) (by decide +kernel)
theorem k_579 : (.selects R_Tree y_Tree_changed y_Tree_changed : Cond) ∈ lw_tb := tb_in (List.mem_of_getElem? (i := 579) (by decide +kernel)) (by decide +kernel)
theorem k_580 : (.code y_Tree_changed b_Tree_changed 3 (some .int) : Cond) ∈ lw_tb := tb_in (List.mem_of_getElem? (i := 580) (by decide +kernel)) (by decide +kernel)
theorem k_581 : (.methodLink R_Tree 169 y_Disk_differingBlock : Cond) ∈ lw_tb := tb_in (List.mem_of_getElem? (i := 581) (by decide +kernel)) (by decide +kernel)
theorem k_582 : (.instanceMethod y_Disk_differingBlock : Cond) ∈ lw_tb := tb_in (List.mem_of_getElem? (i := 582) (by decide +kernel)) (by decide +kernel)
theorem k_583 : (.selects R_Disk y_Disk_differingBlock y_Disk_differingBlock : Cond) ∈ lw_tb := tb_in (List.mem_of_getElem? (i := 583) (by decide +kernel)) (by decide +kernel)
theorem k_584 : (.code y_Disk_differingBlock b_Disk_differingBlock 4 (some .int) : Cond) ∈ lw_tb := tb_in (List.mem_of_getElem? (i := 584) (by decide +kernel)) (by decide +kernel)
theorem k_586 : (.methodLink R_Law 121 y_Law_look : Cond) ∈ lw_tb := tb_in (List.mem_of_getElem? (i := 586) (by decide +kernel)) (by decide +kernel)
theorem k_587 : (.static y_Law_look : Cond) ∈ lw_tb := tb_in (List.mem_of_getElem? (i := 587) (by decide +kernel)) (by decide +kernel)
theorem k_589 : (.methodLink R_Law 54 y_Tree_look : Cond) ∈ lw_tb := tb_in (List.mem_of_getElem? (i := 589) (by decide +kernel)) (by decide +kernel)
theorem k_590 : (.instanceMethod y_Tree_look : Cond) ∈ lw_tb := tb_in (List.mem_of_getElem? (i := 590) (by decide +kernel)) (by decide +kernel)
theorem k_591 : (.selects R_Tree y_Tree_look y_Tree_look : Cond) ∈ lw_tb := tb_in (List.mem_of_getElem? (i := 591) (by decide +kernel)) (by decide +kernel)
theorem k_592 : (.code y_Tree_look b_Tree_look 2 (some .int) : Cond) ∈ lw_tb := tb_in (List.mem_of_getElem? (i := 592) (by decide +kernel)) (by decide +kernel)
theorem k_593 : (.methodLink R_Tree 174 y_Disk_blocks : Cond) ∈ lw_tb := tb_in (List.mem_of_getElem? (i := 593) (by decide +kernel)) (by decide +kernel)
theorem k_594 : (.instanceMethod y_Disk_blocks : Cond) ∈ lw_tb := tb_in (List.mem_of_getElem? (i := 594) (by decide +kernel)) (by decide +kernel)
theorem k_595 : (.selects R_Disk y_Disk_blocks y_Disk_blocks : Cond) ∈ lw_tb := tb_in (List.mem_of_getElem? (i := 595) (by decide +kernel)) (by decide +kernel)
theorem k_596 : (.code y_Disk_blocks b_Disk_blocks 1 (some .int) : Cond) ∈ lw_tb := tb_in (List.mem_of_getElem? (i := 596) (by decide +kernel)) (by decide +kernel)
theorem k_597 : (.methodLink R_Tree 177 y_Disk_freeBlocks : Cond) ∈ lw_tb := tb_in (List.mem_of_getElem? (i := 597) (by decide +kernel)) (by decide +kernel)
theorem k_598 : (.instanceMethod y_Disk_freeBlocks : Cond) ∈ lw_tb := tb_in (List.mem_of_getElem? (i := 598) (by decide +kernel)) (by decide +kernel)
theorem k_599 : (.selects R_Disk y_Disk_freeBlocks y_Disk_freeBlocks : Cond) ∈ lw_tb := tb_in (List.mem_of_getElem? (i := 599) (by decide +kernel)) (by decide +kernel)
theorem k_600 : (.code y_Disk_freeBlocks b_Disk_freeBlocks 3 (some .int) : Cond) ∈ lw_tb := tb_in (List.mem_of_getElem? (i := 600) (by decide +kernel)) (by decide +kernel)
theorem k_601 : (.methodLink R_Tree 180 y_Inodes_ofKind : Cond) ∈ lw_tb := tb_in (List.mem_of_getElem? (i := 601) (by decide +kernel)) (by decide +kernel)
theorem k_602 : (.instanceMethod y_Inodes_ofKind : Cond) ∈ lw_tb := tb_in (List.mem_of_getElem? (i := 602) (by decide +kernel)) (by decide +kernel)
theorem k_603 : (.selects R_Inodes y_Inodes_ofKind y_Inodes_ofKind : Cond) ∈ lw_tb := tb_in (List.mem_of_getElem? (i := 603) (by decide +kernel)) (by decide +kernel)
theorem k_604 : (.code y_Inodes_ofKind b_Inodes_ofKind 4 (some .int) : Cond) ∈ lw_tb := tb_in (List.mem_of_getElem? (i := 604) (by decide +kernel)) (by decide +kernel)
theorem k_605 : (.methodLink R_Tree 183 y_Disk_earlyCommits : Cond) ∈ lw_tb := tb_in (List.mem_of_getElem? (i := 605) (by decide +kernel)) (by decide +kernel)
theorem k_606 : (.instanceMethod y_Disk_earlyCommits : Cond) ∈ lw_tb := tb_in (List.mem_of_getElem? (i := 606) (by decide +kernel)) (by decide +kernel)
theorem k_607 : (.selects R_Disk y_Disk_earlyCommits y_Disk_earlyCommits : Cond) ∈ lw_tb := tb_in (List.mem_of_getElem? (i := 607) (by decide +kernel)) (by decide +kernel)
theorem k_608 : (.code y_Disk_earlyCommits b_Disk_earlyCommits 1 (some .int) : Cond) ∈ lw_tb := tb_in (List.mem_of_getElem? (i := 608) (by decide +kernel)) (by decide +kernel)
theorem k_610 : (.classLink R_Law 66 R_Mod : Cond) ∈ lw_tb := tb_in (List.mem_of_getElem? (i := 610) (by decide +kernel)) (by decide +kernel)
theorem k_611 : (.instantiable R_Mod 14 : Cond) ∈ lw_tb := tb_in (List.mem_of_getElem? (i := 611) (by decide +kernel)) (by decide +kernel)
theorem k_612 : (.methodLink R_Law 68 y_Mod_init : Cond) ∈ lw_tb := tb_in (List.mem_of_getElem? (i := 612) (by decide +kernel)) (by decide +kernel)
theorem k_613 : (.instanceMethod y_Mod_init : Cond) ∈ lw_tb := tb_in (List.mem_of_getElem? (i := 613) (by decide +kernel)) (by decide +kernel)
theorem k_614 : (.code y_Mod_init b_Mod_init 3 none : Cond) ∈ lw_tb := tb_in (List.mem_of_getElem? (i := 614) (by decide +kernel)) (by decide +kernel)
theorem k_615 : (.methodLink R_Mod 1 objectInit : Cond) ∈ lw_tb := tb_in (List.mem_of_getElem? (i := 615) (by decide +kernel)) (by decide +kernel)
theorem k_616 : (.constant R_Mod 19 (49152) : Cond) ∈ lw_tb := tb_in (List.mem_of_getElem? (i := 616) (by decide +kernel)) (by decide +kernel)
theorem k_617 : (.methodLink R_Mod 45 y_Mod_commitsAll : Cond) ∈ lw_tb := tb_in (List.mem_of_getElem? (i := 617) (by decide +kernel)) (by decide +kernel)
theorem k_619 : (.instanceMethod y_Mod_commitsAll : Cond) ∈ lw_tb := tb_in (List.mem_of_getElem? (i := 619) (by decide +kernel)) (by decide +kernel)
theorem k_620 : (.code y_Mod_commitsAll b_Mod_commitsAll 4 (some .int) : Cond) ∈ lw_tb := tb_in (List.mem_of_getElem? (i := 620) (by decide +kernel)) (by decide +kernel)
theorem k_621 : (.methodLink R_Mod 67 y_Mod_changes : Cond) ∈ lw_tb := tb_in (List.mem_of_getElem? (i := 621) (by decide +kernel)) (by decide +kernel)
theorem k_623 : (.instanceMethod y_Mod_changes : Cond) ∈ lw_tb := tb_in (List.mem_of_getElem? (i := 623) (by decide +kernel)) (by decide +kernel)
theorem k_624 : (.code y_Mod_changes b_Mod_changes 3 (some .int) : Cond) ∈ lw_tb := tb_in (List.mem_of_getElem? (i := 624) (by decide +kernel)) (by decide +kernel)
theorem k_625 : (.methodLink R_Mod 63 y_Mod_isChanged : Cond) ∈ lw_tb := tb_in (List.mem_of_getElem? (i := 625) (by decide +kernel)) (by decide +kernel)
theorem k_627 : (.instanceMethod y_Mod_isChanged : Cond) ∈ lw_tb := tb_in (List.mem_of_getElem? (i := 627) (by decide +kernel)) (by decide +kernel)
theorem k_628 : (.code y_Mod_isChanged b_Mod_isChanged 4 (some .boolean) : Cond) ∈ lw_tb := tb_in (List.mem_of_getElem? (i := 628) (by decide +kernel)) (by decide +kernel)
theorem k_629 : (.methodLink R_Mod 60 y_Mod_byteOf : Cond) ∈ lw_tb := tb_in (List.mem_of_getElem? (i := 629) (by decide +kernel)) (by decide +kernel)
theorem k_631 : (.instanceMethod y_Mod_byteOf : Cond) ∈ lw_tb := tb_in (List.mem_of_getElem? (i := 631) (by decide +kernel)) (by decide +kernel)
theorem k_632 : (.code y_Mod_byteOf b_Mod_byteOf 3 (some .int) : Cond) ∈ lw_tb := tb_in (List.mem_of_getElem? (i := 632) (by decide +kernel)) (by decide +kernel)
theorem k_633 : (.methodLink R_Mod 52 y_Mod_nodeByte : Cond) ∈ lw_tb := tb_in (List.mem_of_getElem? (i := 633) (by decide +kernel)) (by decide +kernel)
theorem k_635 : (.instanceMethod y_Mod_nodeByte : Cond) ∈ lw_tb := tb_in (List.mem_of_getElem? (i := 635) (by decide +kernel)) (by decide +kernel)
theorem k_636 : (.code y_Mod_nodeByte b_Mod_nodeByte 6 (some .int) : Cond) ∈ lw_tb := tb_in (List.mem_of_getElem? (i := 636) (by decide +kernel)) (by decide +kernel)
theorem k_637 : (.methodLink R_Mod 56 y_Mod_mapByte : Cond) ∈ lw_tb := tb_in (List.mem_of_getElem? (i := 637) (by decide +kernel)) (by decide +kernel)
theorem k_639 : (.instanceMethod y_Mod_mapByte : Cond) ∈ lw_tb := tb_in (List.mem_of_getElem? (i := 639) (by decide +kernel)) (by decide +kernel)
theorem k_640 : (.code y_Mod_mapByte b_Mod_mapByte 4 (some .int) : Cond) ∈ lw_tb := tb_in (List.mem_of_getElem? (i := 640) (by decide +kernel)) (by decide +kernel)
theorem k_641 : (.methodLink R_Mod 70 y_Mod_copy : Cond) ∈ lw_tb := tb_in (List.mem_of_getElem? (i := 641) (by decide +kernel)) (by decide +kernel)
theorem k_642 : (.static y_Mod_copy : Cond) ∈ lw_tb := tb_in (List.mem_of_getElem? (i := 642) (by decide +kernel)) (by decide +kernel)
theorem k_643 : (.code y_Mod_copy b_Mod_copy 3 none : Cond) ∈ lw_tb := tb_in (List.mem_of_getElem? (i := 643) (by decide +kernel)) (by decide +kernel)
theorem k_644 : (.fieldLink R_Mod 49 "TreeFilesModel" "thrown" "I" : Cond) ∈ lw_tb := tb_in (List.mem_of_getElem? (i := 644) (by decide +kernel)) (by decide +kernel)
theorem k_645 : (.fieldLink R_Mod 41 "TreeFilesModel" "blocks" "I" : Cond) ∈ lw_tb := tb_in (List.mem_of_getElem? (i := 645) (by decide +kernel)) (by decide +kernel)
theorem k_646 : (.fieldLink R_Mod 7 "TreeFilesModel" "tape" "[I" : Cond) ∈ lw_tb := tb_in (List.mem_of_getElem? (i := 646) (by decide +kernel)) (by decide +kernel)
theorem k_647 : (.fieldLink R_Mod 174 "TreeFilesModel" "taped" "I" : Cond) ∈ lw_tb := tb_in (List.mem_of_getElem? (i := 647) (by decide +kernel)) (by decide +kernel)
theorem k_648 : (.fieldLink R_Mod 13 "TreeFilesModel" "node" "[I" : Cond) ∈ lw_tb := tb_in (List.mem_of_getElem? (i := 648) (by decide +kernel)) (by decide +kernel)
theorem k_649 : (.fieldLink R_Mod 16 "TreeFilesModel" "owner" "[I" : Cond) ∈ lw_tb := tb_in (List.mem_of_getElem? (i := 649) (by decide +kernel)) (by decide +kernel)
theorem k_650 : (.fieldLink R_Mod 20 "TreeFilesModel" "now" "[I" : Cond) ∈ lw_tb := tb_in (List.mem_of_getElem? (i := 650) (by decide +kernel)) (by decide +kernel)
theorem k_651 : (.fieldLink R_Mod 23 "TreeFilesModel" "keptNode" "[I" : Cond) ∈ lw_tb := tb_in (List.mem_of_getElem? (i := 651) (by decide +kernel)) (by decide +kernel)
theorem k_652 : (.fieldLink R_Mod 26 "TreeFilesModel" "keptOwner" "[I" : Cond) ∈ lw_tb := tb_in (List.mem_of_getElem? (i := 652) (by decide +kernel)) (by decide +kernel)
theorem k_653 : (.fieldLink R_Mod 29 "TreeFilesModel" "done" "[I" : Cond) ∈ lw_tb := tb_in (List.mem_of_getElem? (i := 653) (by decide +kernel)) (by decide +kernel)
theorem k_654 : (.fieldLink R_Mod 32 "TreeFilesModel" "asideNode" "[I" : Cond) ∈ lw_tb := tb_in (List.mem_of_getElem? (i := 654) (by decide +kernel)) (by decide +kernel)
theorem k_655 : (.fieldLink R_Mod 35 "TreeFilesModel" "asideOwner" "[I" : Cond) ∈ lw_tb := tb_in (List.mem_of_getElem? (i := 655) (by decide +kernel)) (by decide +kernel)
theorem k_656 : (.fieldLink R_Mod 38 "TreeFilesModel" "asideNow" "[I" : Cond) ∈ lw_tb := tb_in (List.mem_of_getElem? (i := 656) (by decide +kernel)) (by decide +kernel)
theorem k_657 : (.fieldLink R_Mod 167 "TreeFilesModel" "commits" "I" : Cond) ∈ lw_tb := tb_in (List.mem_of_getElem? (i := 657) (by decide +kernel)) (by decide +kernel)
theorem k_687 : (.methodLink R_Law 75 y_Mod_thrown : Cond) ∈ lw_tb := tb_in (List.mem_of_getElem? (i := 687) (by decide +kernel)) (by decide +kernel)
theorem k_688 : (.instanceMethod y_Mod_thrown : Cond) ∈ lw_tb := tb_in (List.mem_of_getElem? (i := 688) (by decide +kernel)) (by decide +kernel)
theorem k_689 : (.selects R_Mod y_Mod_thrown y_Mod_thrown : Cond) ∈ lw_tb := tb_in (List.mem_of_getElem? (i := 689) (by decide +kernel)) (by decide +kernel)
theorem k_690 : (.code y_Mod_thrown b_Mod_thrown 1 (some .int) : Cond) ∈ lw_tb := tb_in (List.mem_of_getElem? (i := 690) (by decide +kernel)) (by decide +kernel)
theorem k_691 : (.methodLink R_Law 74 y_Mod_feed : Cond) ∈ lw_tb := tb_in (List.mem_of_getElem? (i := 691) (by decide +kernel)) (by decide +kernel)
theorem k_692 : (.instanceMethod y_Mod_feed : Cond) ∈ lw_tb := tb_in (List.mem_of_getElem? (i := 692) (by decide +kernel)) (by decide +kernel)
theorem k_693 : (.selects R_Mod y_Mod_feed y_Mod_feed : Cond) ∈ lw_tb := tb_in (List.mem_of_getElem? (i := 693) (by decide +kernel)) (by decide +kernel)
theorem k_694 : (.code y_Mod_feed b_Mod_feed 5 (some .int) : Cond) ∈ lw_tb := tb_in (List.mem_of_getElem? (i := 694) (by decide +kernel)) (by decide +kernel)
theorem k_695 : (.methodLink R_Mod 127 y_Mod_in : Cond) ∈ lw_tb := tb_in (List.mem_of_getElem? (i := 695) (by decide +kernel)) (by decide +kernel)
theorem k_696 : (.static y_Mod_in : Cond) ∈ lw_tb := tb_in (List.mem_of_getElem? (i := 696) (by decide +kernel)) (by decide +kernel)
theorem k_697 : (.code y_Mod_in b_Mod_in 3 (some .boolean) : Cond) ∈ lw_tb := tb_in (List.mem_of_getElem? (i := 697) (by decide +kernel)) (by decide +kernel)
theorem k_698 : (.methodLink R_Mod 170 y_Mod_fails : Cond) ∈ lw_tb := tb_in (List.mem_of_getElem? (i := 698) (by decide +kernel)) (by decide +kernel)
theorem k_700 : (.instanceMethod y_Mod_fails : Cond) ∈ lw_tb := tb_in (List.mem_of_getElem? (i := 700) (by decide +kernel)) (by decide +kernel)
theorem k_701 : (.code y_Mod_fails b_Mod_fails 3 (some .boolean) : Cond) ∈ lw_tb := tb_in (List.mem_of_getElem? (i := 701) (by decide +kernel)) (by decide +kernel)
theorem k_702 : (.constantLong R_Mod 177 (255) : Cond) ∈ lw_tb := tb_in (List.mem_of_getElem? (i := 702) (by decide +kernel)) (by decide +kernel)
theorem k_703 : (.methodLink R_Law 82 y_Mod_make : Cond) ∈ lw_tb := tb_in (List.mem_of_getElem? (i := 703) (by decide +kernel)) (by decide +kernel)
theorem k_704 : (.instanceMethod y_Mod_make : Cond) ∈ lw_tb := tb_in (List.mem_of_getElem? (i := 704) (by decide +kernel)) (by decide +kernel)
theorem k_705 : (.selects R_Mod y_Mod_make y_Mod_make : Cond) ∈ lw_tb := tb_in (List.mem_of_getElem? (i := 705) (by decide +kernel)) (by decide +kernel)
theorem k_706 : (.code y_Mod_make b_Mod_make 4 (some .int) : Cond) ∈ lw_tb := tb_in (List.mem_of_getElem? (i := 706) (by decide +kernel)) (by decide +kernel)
theorem k_707 : (.methodLink R_Mod 180 y_Mod_isBad : Cond) ∈ lw_tb := tb_in (List.mem_of_getElem? (i := 707) (by decide +kernel)) (by decide +kernel)
theorem k_708 : (.static y_Mod_isBad : Cond) ∈ lw_tb := tb_in (List.mem_of_getElem? (i := 708) (by decide +kernel)) (by decide +kernel)
theorem k_709 : (.code y_Mod_isBad b_Mod_isBad 1 (some .boolean) : Cond) ∈ lw_tb := tb_in (List.mem_of_getElem? (i := 709) (by decide +kernel)) (by decide +kernel)
theorem k_710 : (.methodLink R_Mod 183 y_Mod_isBadName : Cond) ∈ lw_tb := tb_in (List.mem_of_getElem? (i := 710) (by decide +kernel)) (by decide +kernel)
theorem k_711 : (.static y_Mod_isBadName : Cond) ∈ lw_tb := tb_in (List.mem_of_getElem? (i := 711) (by decide +kernel)) (by decide +kernel)
theorem k_712 : (.code y_Mod_isBadName b_Mod_isBadName 1 (some .boolean) : Cond) ∈ lw_tb := tb_in (List.mem_of_getElem? (i := 712) (by decide +kernel)) (by decide +kernel)
theorem k_713 : (.constant R_Mod 179 (65535) : Cond) ∈ lw_tb := tb_in (List.mem_of_getElem? (i := 713) (by decide +kernel)) (by decide +kernel)
theorem k_714 : (.methodLink R_Mod 186 y_Mod_does : Cond) ∈ lw_tb := tb_in (List.mem_of_getElem? (i := 714) (by decide +kernel)) (by decide +kernel)
theorem k_716 : (.instanceMethod y_Mod_does : Cond) ∈ lw_tb := tb_in (List.mem_of_getElem? (i := 716) (by decide +kernel)) (by decide +kernel)
theorem k_717 : (.code y_Mod_does b_Mod_does 7 (some .int) : Cond) ∈ lw_tb := tb_in (List.mem_of_getElem? (i := 717) (by decide +kernel)) (by decide +kernel)
theorem k_718 : (.methodLink R_Mod 157 y_Mod_keepsAside : Cond) ∈ lw_tb := tb_in (List.mem_of_getElem? (i := 718) (by decide +kernel)) (by decide +kernel)
theorem k_720 : (.instanceMethod y_Mod_keepsAside : Cond) ∈ lw_tb := tb_in (List.mem_of_getElem? (i := 720) (by decide +kernel)) (by decide +kernel)
theorem k_721 : (.code y_Mod_keepsAside b_Mod_keepsAside 1 none : Cond) ∈ lw_tb := tb_in (List.mem_of_getElem? (i := 721) (by decide +kernel)) (by decide +kernel)
theorem k_722 : (.methodLink R_Mod 160 y_Mod_tries : Cond) ∈ lw_tb := tb_in (List.mem_of_getElem? (i := 722) (by decide +kernel)) (by decide +kernel)
theorem k_724 : (.instanceMethod y_Mod_tries : Cond) ∈ lw_tb := tb_in (List.mem_of_getElem? (i := 724) (by decide +kernel)) (by decide +kernel)
theorem k_725 : (.code y_Mod_tries b_Mod_tries 6 (some .int) : Cond) ∈ lw_tb := tb_in (List.mem_of_getElem? (i := 725) (by decide +kernel)) (by decide +kernel)
theorem k_726 : (.methodLink R_Mod 139 y_Mod_makes : Cond) ∈ lw_tb := tb_in (List.mem_of_getElem? (i := 726) (by decide +kernel)) (by decide +kernel)
theorem k_728 : (.instanceMethod y_Mod_makes : Cond) ∈ lw_tb := tb_in (List.mem_of_getElem? (i := 728) (by decide +kernel)) (by decide +kernel)
theorem k_729 : (.code y_Mod_makes b_Mod_makes 5 (some .int) : Cond) ∈ lw_tb := tb_in (List.mem_of_getElem? (i := 729) (by decide +kernel)) (by decide +kernel)
theorem k_730 : (.methodLink R_Mod 117 y_Mod_badDirectory : Cond) ∈ lw_tb := tb_in (List.mem_of_getElem? (i := 730) (by decide +kernel)) (by decide +kernel)
theorem k_732 : (.instanceMethod y_Mod_badDirectory : Cond) ∈ lw_tb := tb_in (List.mem_of_getElem? (i := 732) (by decide +kernel)) (by decide +kernel)
theorem k_733 : (.code y_Mod_badDirectory b_Mod_badDirectory 2 (some .int) : Cond) ∈ lw_tb := tb_in (List.mem_of_getElem? (i := 733) (by decide +kernel)) (by decide +kernel)
theorem k_734 : (.methodLink R_Mod 111 y_Mod_kind : Cond) ∈ lw_tb := tb_in (List.mem_of_getElem? (i := 734) (by decide +kernel)) (by decide +kernel)
theorem k_736 : (.instanceMethod y_Mod_kind : Cond) ∈ lw_tb := tb_in (List.mem_of_getElem? (i := 736) (by decide +kernel)) (by decide +kernel)
theorem k_737 : (.code y_Mod_kind b_Mod_kind 2 (some .int) : Cond) ∈ lw_tb := tb_in (List.mem_of_getElem? (i := 737) (by decide +kernel)) (by decide +kernel)
theorem k_738 : (.methodLink R_Mod 100 y_Mod_entryOf : Cond) ∈ lw_tb := tb_in (List.mem_of_getElem? (i := 738) (by decide +kernel)) (by decide +kernel)
theorem k_740 : (.instanceMethod y_Mod_entryOf : Cond) ∈ lw_tb := tb_in (List.mem_of_getElem? (i := 740) (by decide +kernel)) (by decide +kernel)
theorem k_741 : (.code y_Mod_entryOf b_Mod_entryOf 4 (some .int) : Cond) ∈ lw_tb := tb_in (List.mem_of_getElem? (i := 741) (by decide +kernel)) (by decide +kernel)
theorem k_742 : (.methodLink R_Mod 94 y_Mod_sizeOf : Cond) ∈ lw_tb := tb_in (List.mem_of_getElem? (i := 742) (by decide +kernel)) (by decide +kernel)
theorem k_744 : (.instanceMethod y_Mod_sizeOf : Cond) ∈ lw_tb := tb_in (List.mem_of_getElem? (i := 744) (by decide +kernel)) (by decide +kernel)
theorem k_745 : (.code y_Mod_sizeOf b_Mod_sizeOf 2 (some .int) : Cond) ∈ lw_tb := tb_in (List.mem_of_getElem? (i := 745) (by decide +kernel)) (by decide +kernel)
theorem k_746 : (.methodLink R_Mod 97 y_Mod_nameAt : Cond) ∈ lw_tb := tb_in (List.mem_of_getElem? (i := 746) (by decide +kernel)) (by decide +kernel)
theorem k_748 : (.instanceMethod y_Mod_nameAt : Cond) ∈ lw_tb := tb_in (List.mem_of_getElem? (i := 748) (by decide +kernel)) (by decide +kernel)
theorem k_749 : (.code y_Mod_nameAt b_Mod_nameAt 3 (some .int) : Cond) ∈ lw_tb := tb_in (List.mem_of_getElem? (i := 749) (by decide +kernel)) (by decide +kernel)
theorem k_750 : (.methodLink R_Mod 91 y_Mod_get : Cond) ∈ lw_tb := tb_in (List.mem_of_getElem? (i := 750) (by decide +kernel)) (by decide +kernel)
theorem k_752 : (.instanceMethod y_Mod_get : Cond) ∈ lw_tb := tb_in (List.mem_of_getElem? (i := 752) (by decide +kernel)) (by decide +kernel)
theorem k_753 : (.code y_Mod_get b_Mod_get 3 (some .int) : Cond) ∈ lw_tb := tb_in (List.mem_of_getElem? (i := 753) (by decide +kernel)) (by decide +kernel)
theorem k_754 : (.methodLink R_Mod 88 y_Mod_blockOf : Cond) ∈ lw_tb := tb_in (List.mem_of_getElem? (i := 754) (by decide +kernel)) (by decide +kernel)
theorem k_756 : (.instanceMethod y_Mod_blockOf : Cond) ∈ lw_tb := tb_in (List.mem_of_getElem? (i := 756) (by decide +kernel)) (by decide +kernel)
theorem k_757 : (.code y_Mod_blockOf b_Mod_blockOf 6 (some .int) : Cond) ∈ lw_tb := tb_in (List.mem_of_getElem? (i := 757) (by decide +kernel)) (by decide +kernel)
theorem k_758 : (.methodLink R_Mod 120 y_Mod_adds : Cond) ∈ lw_tb := tb_in (List.mem_of_getElem? (i := 758) (by decide +kernel)) (by decide +kernel)
theorem k_760 : (.instanceMethod y_Mod_adds : Cond) ∈ lw_tb := tb_in (List.mem_of_getElem? (i := 760) (by decide +kernel)) (by decide +kernel)
theorem k_761 : (.code y_Mod_adds b_Mod_adds 5 (some .boolean) : Cond) ∈ lw_tb := tb_in (List.mem_of_getElem? (i := 761) (by decide +kernel)) (by decide +kernel)
theorem k_762 : (.methodLink R_Mod 103 y_Mod_sizes : Cond) ∈ lw_tb := tb_in (List.mem_of_getElem? (i := 762) (by decide +kernel)) (by decide +kernel)
theorem k_764 : (.instanceMethod y_Mod_sizes : Cond) ∈ lw_tb := tb_in (List.mem_of_getElem? (i := 764) (by decide +kernel)) (by decide +kernel)
theorem k_765 : (.code y_Mod_sizes b_Mod_sizes 6 (some .boolean) : Cond) ∈ lw_tb := tb_in (List.mem_of_getElem? (i := 765) (by decide +kernel)) (by decide +kernel)
theorem k_766 : (.methodLink R_Mod 74 y_Mod_blocksOf : Cond) ∈ lw_tb := tb_in (List.mem_of_getElem? (i := 766) (by decide +kernel)) (by decide +kernel)
theorem k_768 : (.instanceMethod y_Mod_blocksOf : Cond) ∈ lw_tb := tb_in (List.mem_of_getElem? (i := 768) (by decide +kernel)) (by decide +kernel)
theorem k_769 : (.code y_Mod_blocksOf b_Mod_blocksOf 4 (some .int) : Cond) ∈ lw_tb := tb_in (List.mem_of_getElem? (i := 769) (by decide +kernel)) (by decide +kernel)
theorem k_770 : (.methodLink R_Mod 77 y_Mod_takes : Cond) ∈ lw_tb := tb_in (List.mem_of_getElem? (i := 770) (by decide +kernel)) (by decide +kernel)
theorem k_772 : (.instanceMethod y_Mod_takes : Cond) ∈ lw_tb := tb_in (List.mem_of_getElem? (i := 772) (by decide +kernel)) (by decide +kernel)
theorem k_773 : (.code y_Mod_takes b_Mod_takes 8 (some .boolean) : Cond) ∈ lw_tb := tb_in (List.mem_of_getElem? (i := 773) (by decide +kernel)) (by decide +kernel)
theorem k_774 : (.methodLink R_Mod 80 y_Mod_gives : Cond) ∈ lw_tb := tb_in (List.mem_of_getElem? (i := 774) (by decide +kernel)) (by decide +kernel)
theorem k_776 : (.instanceMethod y_Mod_gives : Cond) ∈ lw_tb := tb_in (List.mem_of_getElem? (i := 776) (by decide +kernel)) (by decide +kernel)
theorem k_777 : (.code y_Mod_gives b_Mod_gives 4 none : Cond) ∈ lw_tb := tb_in (List.mem_of_getElem? (i := 777) (by decide +kernel)) (by decide +kernel)
theorem k_778 : (.methodLink R_Mod 84 y_Mod_put : Cond) ∈ lw_tb := tb_in (List.mem_of_getElem? (i := 778) (by decide +kernel)) (by decide +kernel)
theorem k_780 : (.instanceMethod y_Mod_put : Cond) ∈ lw_tb := tb_in (List.mem_of_getElem? (i := 780) (by decide +kernel)) (by decide +kernel)
theorem k_781 : (.code y_Mod_put b_Mod_put 4 none : Cond) ∈ lw_tb := tb_in (List.mem_of_getElem? (i := 781) (by decide +kernel)) (by decide +kernel)
theorem k_782 : (.methodLink R_Mod 107 y_Mod_enters : Cond) ∈ lw_tb := tb_in (List.mem_of_getElem? (i := 782) (by decide +kernel)) (by decide +kernel)
theorem k_784 : (.instanceMethod y_Mod_enters : Cond) ∈ lw_tb := tb_in (List.mem_of_getElem? (i := 784) (by decide +kernel)) (by decide +kernel)
theorem k_785 : (.code y_Mod_enters b_Mod_enters 5 none : Cond) ∈ lw_tb := tb_in (List.mem_of_getElem? (i := 785) (by decide +kernel)) (by decide +kernel)
theorem k_786 : (.methodLink R_Mod 143 y_Mod_writes : Cond) ∈ lw_tb := tb_in (List.mem_of_getElem? (i := 786) (by decide +kernel)) (by decide +kernel)
theorem k_788 : (.instanceMethod y_Mod_writes : Cond) ∈ lw_tb := tb_in (List.mem_of_getElem? (i := 788) (by decide +kernel)) (by decide +kernel)
theorem k_789 : (.code y_Mod_writes b_Mod_writes 6 (some .int) : Cond) ∈ lw_tb := tb_in (List.mem_of_getElem? (i := 789) (by decide +kernel)) (by decide +kernel)
theorem k_790 : (.methodLink R_Mod 124 y_Mod_badFile : Cond) ∈ lw_tb := tb_in (List.mem_of_getElem? (i := 790) (by decide +kernel)) (by decide +kernel)
theorem k_792 : (.instanceMethod y_Mod_badFile : Cond) ∈ lw_tb := tb_in (List.mem_of_getElem? (i := 792) (by decide +kernel)) (by decide +kernel)
theorem k_793 : (.code y_Mod_badFile b_Mod_badFile 2 (some .int) : Cond) ∈ lw_tb := tb_in (List.mem_of_getElem? (i := 793) (by decide +kernel)) (by decide +kernel)
theorem k_794 : (.methodLink R_Mod 147 y_Mod_cuts : Cond) ∈ lw_tb := tb_in (List.mem_of_getElem? (i := 794) (by decide +kernel)) (by decide +kernel)
theorem k_796 : (.instanceMethod y_Mod_cuts : Cond) ∈ lw_tb := tb_in (List.mem_of_getElem? (i := 796) (by decide +kernel)) (by decide +kernel)
theorem k_797 : (.code y_Mod_cuts b_Mod_cuts 3 (some .int) : Cond) ∈ lw_tb := tb_in (List.mem_of_getElem? (i := 797) (by decide +kernel)) (by decide +kernel)
theorem k_798 : (.methodLink R_Mod 150 y_Mod_moves : Cond) ∈ lw_tb := tb_in (List.mem_of_getElem? (i := 798) (by decide +kernel)) (by decide +kernel)
theorem k_800 : (.instanceMethod y_Mod_moves : Cond) ∈ lw_tb := tb_in (List.mem_of_getElem? (i := 800) (by decide +kernel)) (by decide +kernel)
theorem k_801 : (.code y_Mod_moves b_Mod_moves 10 (some .int) : Cond) ∈ lw_tb := tb_in (List.mem_of_getElem? (i := 801) (by decide +kernel)) (by decide +kernel)
theorem k_802 : (.methodLink R_Mod 114 y_Mod_inodeAt : Cond) ∈ lw_tb := tb_in (List.mem_of_getElem? (i := 802) (by decide +kernel)) (by decide +kernel)
theorem k_804 : (.instanceMethod y_Mod_inodeAt : Cond) ∈ lw_tb := tb_in (List.mem_of_getElem? (i := 804) (by decide +kernel)) (by decide +kernel)
theorem k_805 : (.code y_Mod_inodeAt b_Mod_inodeAt 3 (some .int) : Cond) ∈ lw_tb := tb_in (List.mem_of_getElem? (i := 805) (by decide +kernel)) (by decide +kernel)
theorem k_806 : (.methodLink R_Mod 130 y_Mod_isEmpty : Cond) ∈ lw_tb := tb_in (List.mem_of_getElem? (i := 806) (by decide +kernel)) (by decide +kernel)
theorem k_808 : (.instanceMethod y_Mod_isEmpty : Cond) ∈ lw_tb := tb_in (List.mem_of_getElem? (i := 808) (by decide +kernel)) (by decide +kernel)
theorem k_809 : (.code y_Mod_isEmpty b_Mod_isEmpty 4 (some .boolean) : Cond) ∈ lw_tb := tb_in (List.mem_of_getElem? (i := 809) (by decide +kernel)) (by decide +kernel)
theorem k_810 : (.methodLink R_Mod 133 y_Mod_parentOf : Cond) ∈ lw_tb := tb_in (List.mem_of_getElem? (i := 810) (by decide +kernel)) (by decide +kernel)
theorem k_812 : (.instanceMethod y_Mod_parentOf : Cond) ∈ lw_tb := tb_in (List.mem_of_getElem? (i := 812) (by decide +kernel)) (by decide +kernel)
theorem k_813 : (.code y_Mod_parentOf b_Mod_parentOf 4 (some .int) : Cond) ∈ lw_tb := tb_in (List.mem_of_getElem? (i := 813) (by decide +kernel)) (by decide +kernel)
theorem k_814 : (.methodLink R_Mod 136 y_Mod_frees : Cond) ∈ lw_tb := tb_in (List.mem_of_getElem? (i := 814) (by decide +kernel)) (by decide +kernel)
theorem k_816 : (.instanceMethod y_Mod_frees : Cond) ∈ lw_tb := tb_in (List.mem_of_getElem? (i := 816) (by decide +kernel)) (by decide +kernel)
theorem k_817 : (.code y_Mod_frees b_Mod_frees 3 none : Cond) ∈ lw_tb := tb_in (List.mem_of_getElem? (i := 817) (by decide +kernel)) (by decide +kernel)
theorem k_818 : (.methodLink R_Mod 154 y_Mod_removes : Cond) ∈ lw_tb := tb_in (List.mem_of_getElem? (i := 818) (by decide +kernel)) (by decide +kernel)
theorem k_820 : (.instanceMethod y_Mod_removes : Cond) ∈ lw_tb := tb_in (List.mem_of_getElem? (i := 820) (by decide +kernel)) (by decide +kernel)
theorem k_821 : (.code y_Mod_removes b_Mod_removes 5 (some .int) : Cond) ∈ lw_tb := tb_in (List.mem_of_getElem? (i := 821) (by decide +kernel)) (by decide +kernel)
theorem k_822 : (.methodLink R_Mod 164 y_Mod_bringsBack : Cond) ∈ lw_tb := tb_in (List.mem_of_getElem? (i := 822) (by decide +kernel)) (by decide +kernel)
theorem k_824 : (.instanceMethod y_Mod_bringsBack : Cond) ∈ lw_tb := tb_in (List.mem_of_getElem? (i := 824) (by decide +kernel)) (by decide +kernel)
theorem k_825 : (.code y_Mod_bringsBack b_Mod_bringsBack 1 none : Cond) ∈ lw_tb := tb_in (List.mem_of_getElem? (i := 825) (by decide +kernel)) (by decide +kernel)
theorem k_826 : (.methodLink R_Law 86 y_Mod_find : Cond) ∈ lw_tb := tb_in (List.mem_of_getElem? (i := 826) (by decide +kernel)) (by decide +kernel)
theorem k_827 : (.instanceMethod y_Mod_find : Cond) ∈ lw_tb := tb_in (List.mem_of_getElem? (i := 827) (by decide +kernel)) (by decide +kernel)
theorem k_828 : (.selects R_Mod y_Mod_find y_Mod_find : Cond) ∈ lw_tb := tb_in (List.mem_of_getElem? (i := 828) (by decide +kernel)) (by decide +kernel)
theorem k_829 : (.code y_Mod_find b_Mod_find 4 (some .int) : Cond) ∈ lw_tb := tb_in (List.mem_of_getElem? (i := 829) (by decide +kernel)) (by decide +kernel)
theorem k_830 : (.methodLink R_Law 89 y_Mod_write : Cond) ∈ lw_tb := tb_in (List.mem_of_getElem? (i := 830) (by decide +kernel)) (by decide +kernel)
theorem k_831 : (.instanceMethod y_Mod_write : Cond) ∈ lw_tb := tb_in (List.mem_of_getElem? (i := 831) (by decide +kernel)) (by decide +kernel)
theorem k_832 : (.selects R_Mod y_Mod_write y_Mod_write : Cond) ∈ lw_tb := tb_in (List.mem_of_getElem? (i := 832) (by decide +kernel)) (by decide +kernel)
theorem k_833 : (.code y_Mod_write b_Mod_write 4 (some .int) : Cond) ∈ lw_tb := tb_in (List.mem_of_getElem? (i := 833) (by decide +kernel)) (by decide +kernel)
theorem k_834 : (.methodLink R_Law 92 y_Mod_cut : Cond) ∈ lw_tb := tb_in (List.mem_of_getElem? (i := 834) (by decide +kernel)) (by decide +kernel)
theorem k_835 : (.instanceMethod y_Mod_cut : Cond) ∈ lw_tb := tb_in (List.mem_of_getElem? (i := 835) (by decide +kernel)) (by decide +kernel)
theorem k_836 : (.selects R_Mod y_Mod_cut y_Mod_cut : Cond) ∈ lw_tb := tb_in (List.mem_of_getElem? (i := 836) (by decide +kernel)) (by decide +kernel)
theorem k_837 : (.code y_Mod_cut b_Mod_cut 3 (some .int) : Cond) ∈ lw_tb := tb_in (List.mem_of_getElem? (i := 837) (by decide +kernel)) (by decide +kernel)
theorem k_838 : (.methodLink R_Law 95 y_Mod_read : Cond) ∈ lw_tb := tb_in (List.mem_of_getElem? (i := 838) (by decide +kernel)) (by decide +kernel)
theorem k_839 : (.instanceMethod y_Mod_read : Cond) ∈ lw_tb := tb_in (List.mem_of_getElem? (i := 839) (by decide +kernel)) (by decide +kernel)
theorem k_840 : (.selects R_Mod y_Mod_read y_Mod_read : Cond) ∈ lw_tb := tb_in (List.mem_of_getElem? (i := 840) (by decide +kernel)) (by decide +kernel)
theorem k_841 : (.code y_Mod_read b_Mod_read 6 (some .long) : Cond) ∈ lw_tb := tb_in (List.mem_of_getElem? (i := 841) (by decide +kernel)) (by decide +kernel)
theorem k_842 : (.methodLink R_Law 99 y_Mod_move : Cond) ∈ lw_tb := tb_in (List.mem_of_getElem? (i := 842) (by decide +kernel)) (by decide +kernel)
theorem k_843 : (.instanceMethod y_Mod_move : Cond) ∈ lw_tb := tb_in (List.mem_of_getElem? (i := 843) (by decide +kernel)) (by decide +kernel)
theorem k_844 : (.selects R_Mod y_Mod_move y_Mod_move : Cond) ∈ lw_tb := tb_in (List.mem_of_getElem? (i := 844) (by decide +kernel)) (by decide +kernel)
theorem k_845 : (.code y_Mod_move b_Mod_move 6 (some .int) : Cond) ∈ lw_tb := tb_in (List.mem_of_getElem? (i := 845) (by decide +kernel)) (by decide +kernel)
theorem k_846 : (.methodLink R_Law 102 y_Mod_remove : Cond) ∈ lw_tb := tb_in (List.mem_of_getElem? (i := 846) (by decide +kernel)) (by decide +kernel)
theorem k_847 : (.instanceMethod y_Mod_remove : Cond) ∈ lw_tb := tb_in (List.mem_of_getElem? (i := 847) (by decide +kernel)) (by decide +kernel)
theorem k_848 : (.selects R_Mod y_Mod_remove y_Mod_remove : Cond) ∈ lw_tb := tb_in (List.mem_of_getElem? (i := 848) (by decide +kernel)) (by decide +kernel)
theorem k_849 : (.code y_Mod_remove b_Mod_remove 3 (some .int) : Cond) ∈ lw_tb := tb_in (List.mem_of_getElem? (i := 849) (by decide +kernel)) (by decide +kernel)
theorem k_850 : (.methodLink R_Law 106 y_Mod_commit : Cond) ∈ lw_tb := tb_in (List.mem_of_getElem? (i := 850) (by decide +kernel)) (by decide +kernel)
theorem k_851 : (.instanceMethod y_Mod_commit : Cond) ∈ lw_tb := tb_in (List.mem_of_getElem? (i := 851) (by decide +kernel)) (by decide +kernel)
theorem k_852 : (.selects R_Mod y_Mod_commit y_Mod_commit : Cond) ∈ lw_tb := tb_in (List.mem_of_getElem? (i := 852) (by decide +kernel)) (by decide +kernel)
theorem k_853 : (.code y_Mod_commit b_Mod_commit 1 (some .int) : Cond) ∈ lw_tb := tb_in (List.mem_of_getElem? (i := 853) (by decide +kernel)) (by decide +kernel)
theorem k_854 : (.methodLink R_Law 110 y_Mod_drop : Cond) ∈ lw_tb := tb_in (List.mem_of_getElem? (i := 854) (by decide +kernel)) (by decide +kernel)
theorem k_855 : (.instanceMethod y_Mod_drop : Cond) ∈ lw_tb := tb_in (List.mem_of_getElem? (i := 855) (by decide +kernel)) (by decide +kernel)
theorem k_856 : (.selects R_Mod y_Mod_drop y_Mod_drop : Cond) ∈ lw_tb := tb_in (List.mem_of_getElem? (i := 856) (by decide +kernel)) (by decide +kernel)
theorem k_857 : (.code y_Mod_drop b_Mod_drop 2 (some .int) : Cond) ∈ lw_tb := tb_in (List.mem_of_getElem? (i := 857) (by decide +kernel)) (by decide +kernel)
theorem k_858 : (.methodLink R_Law 113 y_Mod_node : Cond) ∈ lw_tb := tb_in (List.mem_of_getElem? (i := 858) (by decide +kernel)) (by decide +kernel)
theorem k_859 : (.instanceMethod y_Mod_node : Cond) ∈ lw_tb := tb_in (List.mem_of_getElem? (i := 859) (by decide +kernel)) (by decide +kernel)
theorem k_860 : (.selects R_Mod y_Mod_node y_Mod_node : Cond) ∈ lw_tb := tb_in (List.mem_of_getElem? (i := 860) (by decide +kernel)) (by decide +kernel)
theorem k_861 : (.code y_Mod_node b_Mod_node 3 (some .int) : Cond) ∈ lw_tb := tb_in (List.mem_of_getElem? (i := 861) (by decide +kernel)) (by decide +kernel)
theorem k_862 : (.methodLink R_Law 116 y_Mod_at : Cond) ∈ lw_tb := tb_in (List.mem_of_getElem? (i := 862) (by decide +kernel)) (by decide +kernel)
theorem k_863 : (.instanceMethod y_Mod_at : Cond) ∈ lw_tb := tb_in (List.mem_of_getElem? (i := 863) (by decide +kernel)) (by decide +kernel)
theorem k_864 : (.selects R_Mod y_Mod_at y_Mod_at : Cond) ∈ lw_tb := tb_in (List.mem_of_getElem? (i := 864) (by decide +kernel)) (by decide +kernel)
theorem k_865 : (.code y_Mod_at b_Mod_at 4 (some .int) : Cond) ∈ lw_tb := tb_in (List.mem_of_getElem? (i := 865) (by decide +kernel)) (by decide +kernel)
theorem k_866 : (.methodLink R_Law 120 y_Mod_changed : Cond) ∈ lw_tb := tb_in (List.mem_of_getElem? (i := 866) (by decide +kernel)) (by decide +kernel)
theorem k_867 : (.instanceMethod y_Mod_changed : Cond) ∈ lw_tb := tb_in (List.mem_of_getElem? (i := 867) (by decide +kernel)) (by decide +kernel)
theorem k_868 : (.selects R_Mod y_Mod_changed y_Mod_changed : Cond) ∈ lw_tb := tb_in (List.mem_of_getElem? (i := 868) (by decide +kernel)) (by decide +kernel)
theorem k_869 : (.code y_Mod_changed b_Mod_changed 4 (some .int) : Cond) ∈ lw_tb := tb_in (List.mem_of_getElem? (i := 869) (by decide +kernel)) (by decide +kernel)
theorem k_870 : (.methodLink R_Law 123 y_Mod_look : Cond) ∈ lw_tb := tb_in (List.mem_of_getElem? (i := 870) (by decide +kernel)) (by decide +kernel)
theorem k_871 : (.instanceMethod y_Mod_look : Cond) ∈ lw_tb := tb_in (List.mem_of_getElem? (i := 871) (by decide +kernel)) (by decide +kernel)
theorem k_872 : (.selects R_Mod y_Mod_look y_Mod_look : Cond) ∈ lw_tb := tb_in (List.mem_of_getElem? (i := 872) (by decide +kernel)) (by decide +kernel)
theorem k_873 : (.code y_Mod_look b_Mod_look 6 (some .int) : Cond) ∈ lw_tb := tb_in (List.mem_of_getElem? (i := 873) (by decide +kernel)) (by decide +kernel)
theorem k_874 : (.constantLong R_Law 69 (4294967295) : Cond) ∈ lw_tb := tb_in (List.mem_of_getElem? (i := 874) (by decide +kernel)) (by decide +kernel)
