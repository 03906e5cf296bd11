/-! The program's tables, written by program (wip/gen/gen_tables.py) -/
/-- words that stay true whatever the machine loads -/
def pg_gd (w : Cond) : Bool := (w.onTables && w.keeps) || (match w with | .arrayClass _ => true | _ => false)
def pg_words : List Cond := lw_tbl.filter pg_gd
def pg_num : Nat := 132
def pg_cnL : List String := ["TwigMerge", "TwigMerge$Forest", "TwigMerge$Script", "TwigMerge$Partners", "TwigMerge$Difference", "TwigMerge$Merger", "TwigMergeModel", "TwigMergeLaw", "java/util/Arrays", "java/lang/Integer"]
def pg_cn (c : Nat) : String := pg_cnL.getD c ""
def pg_yL : List MethodName := [⟨"TwigMerge", "<init>", "()V"⟩, ⟨"TwigMerge$Forest", "<init>", "(I)V"⟩, ⟨"java/util/Arrays", "fill", "([II)V"⟩, ⟨"TwigMerge$Difference", "<init>", "()V"⟩, ⟨"TwigMerge$Partners", "<init>", "()V"⟩, ⟨"TwigMerge$Script", "<init>", "()V"⟩, ⟨"TwigMerge$Merger", "<init>", "()V"⟩, ⟨"TwigMerge", "add", "(IIII)I"⟩, ⟨"TwigMerge", "isTree", "(I)Z"⟩, ⟨"TwigMerge$Forest", "has", "(I)Z"⟩, ⟨"TwigMerge$Forest", "childCount", "(I)I"⟩, ⟨"TwigMerge$Forest", "childAt", "(II)I"⟩, ⟨"TwigMerge$Forest", "make", "(III)V"⟩, ⟨"TwigMerge$Forest", "putBehind", "(III)V"⟩, ⟨"TwigMerge", "clear", "(I)Z"⟩, ⟨"TwigMerge$Forest", "wipe", "()V"⟩, ⟨"TwigMerge", "size", "(I)I"⟩, ⟨"TwigMerge", "height", "(II)I"⟩, ⟨"TwigMerge$Forest", "measureHeights", "([I)V"⟩, ⟨"TwigMerge", "alike", "(IIII)Z"⟩, ⟨"TwigMerge$Forest", "sameTwig", "(LTwigMerge$Forest;ILTwigMerge$Forest;II)Z"⟩, ⟨"TwigMerge", "diff", "(II)I"⟩, ⟨"TwigMerge", "isFilled", "(I)Z"⟩, ⟨"TwigMerge$Forest", "copyFrom", "(LTwigMerge$Forest;)V"⟩, ⟨"TwigMerge$Difference", "find", "(LTwigMerge$Forest;LTwigMerge$Forest;)V"⟩, ⟨"TwigMerge$Partners", "find", "(LTwigMerge$Forest;LTwigMerge$Forest;)V"⟩, ⟨"TwigMerge$Forest", "markBelow", "([I)V"⟩, ⟨"TwigMerge$Partners", "markAlikes", "()V"⟩, ⟨"TwigMerge$Partners", "joinBestAlikes", "()Z"⟩, ⟨"TwigMerge$Partners", "areFreeAlikes", "(II)Z"⟩, ⟨"TwigMerge$Partners", "shareOfParents", "(II)I"⟩, ⟨"TwigMerge$Partners", "share", "(II)I"⟩, ⟨"TwigMerge$Partners", "joinTwigs", "(III)V"⟩, ⟨"TwigMerge$Partners", "join", "(II)V"⟩, ⟨"TwigMerge$Partners", "joinByShare", "()V"⟩, ⟨"TwigMerge$Partners", "bestByShare", "(I)I"⟩, ⟨"java/lang/Integer", "bitCount", "(I)I"⟩, ⟨"TwigMerge$Partners", "pairChildren", "(II)V"⟩, ⟨"TwigMerge$Partners", "pairChildrenOnce", "(IIZ)V"⟩, ⟨"TwigMerge$Partners", "firstFreeChild", "(IIZ)I"⟩, ⟨"TwigMerge$Partners", "joinRoots", "()V"⟩, ⟨"TwigMerge$Difference", "settleAll", "()V"⟩, ⟨"TwigMerge$Difference", "settleChildren", "(II)V"⟩, ⟨"TwigMerge$Difference", "gatherKept", "(II)I"⟩, ⟨"TwigMerge$Partners", "partnerOf", "(I)I"⟩, ⟨"TwigMerge$Difference", "measureReach", "(I)I"⟩, ⟨"TwigMerge$Script", "wipe", "()V"⟩, ⟨"TwigMerge$Difference", "writeTwig", "(IIII)I"⟩, ⟨"TwigMerge$Difference", "writeNode", "(III)I"⟩, ⟨"TwigMerge$Partners", "ownerOf", "(I)I"⟩, ⟨"TwigMerge$Script", "insertNode", "(IIIII)V"⟩, ⟨"TwigMerge$Script", "write", "(IIIIII)V"⟩, ⟨"TwigMerge$Script", "updateNode", "(II)V"⟩, ⟨"TwigMerge$Script", "moveNode", "(III)V"⟩, ⟨"TwigMerge$Difference", "writeDeletes", "()V"⟩, ⟨"TwigMerge$Script", "deleteNode", "(I)V"⟩, ⟨"TwigMerge", "partner", "(I)I"⟩, ⟨"TwigMerge", "step", "(II)I"⟩, ⟨"TwigMerge$Script", "part", "(II)I"⟩, ⟨"TwigMerge", "count", "(I)I"⟩, ⟨"TwigMerge$Script", "countOf", "(I)I"⟩, ⟨"TwigMerge", "replay", "(I)I"⟩, ⟨"TwigMerge$Script", "performFirst", "(ILTwigMerge$Forest;)V"⟩, ⟨"TwigMerge$Script", "perform", "(ILTwigMerge$Forest;)V"⟩, ⟨"TwigMerge$Forest", "relabel", "(II)V"⟩, ⟨"TwigMerge$Forest", "takeOut", "(I)V"⟩, ⟨"TwigMerge$Forest", "countThere", "()I"⟩, ⟨"TwigMerge", "merge", "()I"⟩, ⟨"TwigMerge$Merger", "run", "(LTwigMerge$Forest;LTwigMerge$Forest;LTwigMerge$Forest;)I"⟩, ⟨"TwigMerge$Merger", "mergeStep", "(I)Z"⟩, ⟨"TwigMerge$Merger", "mergeInsert", "(I)Z"⟩, ⟨"TwigMerge$Merger", "meaning", "(I)I"⟩, ⟨"TwigMerge$Merger", "findTwin", "(III)I"⟩, ⟨"TwigMerge$Merger", "isPutAt", "(III)Z"⟩, ⟨"TwigMerge$Merger", "remember", "(I)V"⟩, ⟨"TwigMerge$Merger", "canPut", "(II)Z"⟩, ⟨"TwigMerge$Merger", "mergeUpdate", "(I)Z"⟩, ⟨"TwigMerge$Script", "find", "(II)I"⟩, ⟨"TwigMerge$Merger", "mergeMove", "(I)Z"⟩, ⟨"TwigMerge$Forest", "isAtOrBelow", "(II)Z"⟩, ⟨"TwigMerge$Merger", "mergeDelete", "(I)Z"⟩, ⟨"TwigMerge", "node", "(II)I"⟩, ⟨"TwigMerge", "equal", "(I)Z"⟩, ⟨"TwigMergeModel", "<init>", "()V"⟩, ⟨"TwigMergeModel", "add", "(IIII)I"⟩, ⟨"TwigMergeModel", "isTree", "(I)Z"⟩, ⟨"TwigMergeModel", "isNode", "(II)Z"⟩, ⟨"TwigMergeModel", "clear", "(I)Z"⟩, ⟨"TwigMergeModel", "size", "(I)I"⟩, ⟨"TwigMergeModel", "height", "(II)I"⟩, ⟨"TwigMergeModel", "alike", "(IIII)Z"⟩, ⟨"TwigMergeModel", "compare", "(II)V"⟩, ⟨"TwigMergeModel", "child", "(III)I"⟩, ⟨"TwigMergeModel", "diff", "(II)I"⟩, ⟨"TwigMergeModel", "work", "(II)V"⟩, ⟨"TwigMergeModel", "partners", "()V"⟩, ⟨"TwigMergeModel", "look", "()V"⟩, ⟨"TwigMergeModel", "isBelow", "(III)Z"⟩, ⟨"TwigMergeModel", "best", "()I"⟩, ⟨"TwigMergeModel", "share", "(II)I"⟩, ⟨"TwigMergeModel", "wed", "(II)V"⟩, ⟨"TwigMergeModel", "marry", "(II)V"⟩, ⟨"TwigMergeModel", "likely", "(I)I"⟩, ⟨"TwigMergeModel", "paired", "(II)V"⟩, ⟨"TwigMergeModel", "script", "()V"⟩, ⟨"TwigMergeModel", "settle", "(I)V"⟩, ⟨"TwigMergeModel", "walk", "()V"⟩, ⟨"TwigMergeModel", "put", "(IIIIII)V"⟩, ⟨"TwigMergeModel", "keep", "(I)V"⟩, ⟨"TwigMergeModel", "partner", "(I)I"⟩, ⟨"TwigMergeModel", "step", "(II)I"⟩, ⟨"TwigMergeModel", "count", "(I)I"⟩, ⟨"TwigMergeModel", "replay", "(I)I"⟩, ⟨"TwigMergeModel", "begin", "(I)V"⟩, ⟨"TwigMergeModel", "does", "(IIII)V"⟩, ⟨"TwigMergeModel", "inserted", "(IIIII)V"⟩, ⟨"TwigMergeModel", "into", "(III)V"⟩, ⟨"TwigMergeModel", "out", "(I)V"⟩, ⟨"TwigMergeModel", "nodes", "()I"⟩, ⟨"TwigMergeModel", "merge", "()I"⟩, ⟨"TwigMergeModel", "second", "(II)Z"⟩, ⟨"TwigMergeModel", "named", "(II)I"⟩, ⟨"TwigMergeModel", "adds", "(IIII)Z"⟩, ⟨"TwigMergeModel", "alikeInsert", "(IIII)I"⟩, ⟨"TwigMergeModel", "fitsUnder", "(II)Z"⟩, ⟨"TwigMergeModel", "present", "(I)Z"⟩, ⟨"TwigMergeModel", "first", "(II)I"⟩, ⟨"TwigMergeModel", "hasChildren", "(I)Z"⟩, ⟨"TwigMergeModel", "within", "(II)Z"⟩, ⟨"TwigMergeModel", "node", "(II)I"⟩, ⟨"TwigMergeModel", "equal", "(I)Z"⟩, ⟨"TwigMergeModel", "twig", "(II)I"⟩, ⟨"TwigMergeLaw", "law", "([I)Z"⟩]
def pg_y (z : Nat) : MethodName := pg_yL.getD z ⟨"", "", ""⟩
def pg_codeL : List ByteArray := [prog_1_method_1_code, prog_3_method_1_code, prog_12_method_103_code, prog_2_method_1_code, prog_5_method_1_code, prog_6_method_1_code, prog_4_method_1_code, prog_1_method_2_code, prog_1_method_15_code, prog_3_method_4_code, prog_3_method_6_code, prog_3_method_7_code, prog_3_method_8_code, prog_3_method_9_code, prog_1_method_3_code, prog_3_method_2_code, prog_1_method_4_code, prog_1_method_5_code, prog_3_method_13_code, prog_1_method_6_code, prog_3_method_15_code, prog_1_method_7_code, prog_1_method_16_code, prog_3_method_3_code, prog_2_method_2_code, prog_5_method_4_code, prog_3_method_14_code, prog_5_method_7_code, prog_5_method_8_code, prog_5_method_9_code, prog_5_method_10_code, prog_5_method_6_code, prog_5_method_11_code, prog_5_method_5_code, prog_5_method_12_code, prog_5_method_13_code, prog_9_method_49_code, prog_5_method_15_code, prog_5_method_16_code, prog_5_method_17_code, prog_5_method_14_code, prog_2_method_3_code, prog_2_method_4_code, prog_2_method_5_code, prog_5_method_2_code, prog_2_method_6_code, prog_6_method_2_code, prog_2_method_7_code, prog_2_method_8_code, prog_5_method_3_code, prog_6_method_3_code, prog_6_method_7_code, prog_6_method_4_code, prog_6_method_5_code, prog_2_method_9_code, prog_6_method_6_code, prog_1_method_8_code, prog_1_method_9_code, prog_6_method_8_code, prog_1_method_10_code, prog_6_method_9_code, prog_1_method_11_code, prog_6_method_11_code, prog_6_method_12_code, prog_3_method_11_code, prog_3_method_10_code, prog_3_method_5_code, prog_1_method_12_code, prog_4_method_2_code, prog_4_method_3_code, prog_4_method_4_code, prog_4_method_12_code, prog_4_method_8_code, prog_4_method_9_code, prog_4_method_11_code, prog_4_method_10_code, prog_4_method_5_code, prog_6_method_10_code, prog_4_method_6_code, prog_3_method_12_code, prog_4_method_7_code, prog_1_method_13_code, prog_1_method_14_code, prog_8_method_1_code, prog_8_method_4_code, prog_8_method_2_code, prog_8_method_3_code, prog_8_method_5_code, prog_8_method_6_code, prog_8_method_7_code, prog_8_method_10_code, prog_8_method_8_code, prog_8_method_9_code, prog_8_method_26_code, prog_8_method_24_code, prog_8_method_19_code, prog_8_method_13_code, prog_8_method_11_code, prog_8_method_15_code, prog_8_method_12_code, prog_8_method_16_code, prog_8_method_14_code, prog_8_method_18_code, prog_8_method_17_code, prog_8_method_23_code, prog_8_method_20_code, prog_8_method_22_code, prog_8_method_21_code, prog_8_method_25_code, prog_8_method_27_code, prog_8_method_28_code, prog_8_method_29_code, prog_8_method_36_code, prog_8_method_30_code, prog_8_method_34_code, prog_8_method_33_code, prog_8_method_32_code, prog_8_method_31_code, prog_8_method_35_code, prog_8_method_46_code, prog_8_method_44_code, prog_8_method_37_code, prog_8_method_45_code, prog_8_method_39_code, prog_8_method_41_code, prog_8_method_40_code, prog_8_method_38_code, prog_8_method_43_code, prog_8_method_42_code, prog_8_method_47_code, prog_8_method_49_code, prog_8_method_48_code, code]
def pg_code (z : Nat) : ByteArray := pg_codeL.getD z ⟨#[]⟩
/-- own class, locals, kind of answer (0 none, 1 an int, 2 a boolean), kind (0 of an object, 1 a constructor, 2 static), parameters -/
def pg_M : List (Nat × Nat × Nat × Nat × Nat) := [(0, 2, 0, 1, 0), (1, 2, 0, 1, 1), (8, 4, 0, 2, 2), (4, 1, 0, 1, 0), (3, 1, 0, 1, 0), (2, 1, 0, 1, 0), (5, 1, 0, 1, 0), (0, 9, 1, 0, 4), (0, 1, 2, 2, 1), (1, 2, 2, 0, 1), (1, 4, 1, 0, 1), (1, 4, 1, 0, 2), (1, 4, 0, 0, 3), (1, 6, 0, 0, 3), (0, 2, 2, 0, 1), (1, 1, 0, 0, 0), (0, 2, 1, 0, 1), (0, 3, 1, 0, 2), (1, 3, 0, 0, 1), (0, 5, 2, 0, 4), (1, 7, 2, 2, 5), (0, 3, 1, 0, 2), (0, 2, 2, 0, 1), (1, 2, 0, 0, 1), (4, 3, 0, 0, 2), (3, 5, 0, 0, 2), (1, 3, 0, 0, 1), (3, 3, 0, 0, 0), (3, 8, 2, 0, 0), (3, 3, 2, 0, 2), (3, 3, 1, 0, 2), (3, 6, 1, 0, 2), (3, 6, 0, 0, 3), (3, 3, 0, 0, 2), (3, 3, 0, 0, 0), (3, 9, 1, 0, 1), (9, 1, 1, 2, 1), (3, 3, 0, 0, 2), (3, 6, 0, 0, 3), (3, 8, 1, 0, 3), (3, 2, 0, 0, 0), (4, 2, 0, 0, 0), (4, 7, 0, 0, 2), (4, 6, 1, 0, 2), (3, 2, 1, 0, 1), (4, 5, 1, 0, 1), (2, 1, 0, 0, 0), (4, 8, 1, 0, 4), (4, 6, 1, 0, 3), (3, 2, 1, 0, 1), (2, 6, 0, 0, 5), (2, 7, 0, 0, 6), (2, 3, 0, 0, 2), (2, 4, 0, 0, 3), (4, 2, 0, 0, 0), (2, 2, 0, 0, 1), (0, 2, 1, 0, 1), (0, 3, 1, 0, 2), (2, 3, 1, 0, 2), (0, 2, 1, 0, 1), (2, 4, 1, 0, 1), (0, 2, 1, 0, 1), (2, 4, 0, 0, 2), (2, 4, 0, 0, 2), (1, 3, 0, 0, 2), (1, 3, 0, 0, 1), (1, 3, 1, 0, 0), (0, 2, 1, 0, 0), (5, 5, 1, 0, 3), (5, 2, 2, 0, 1), (5, 6, 2, 0, 1), (5, 3, 1, 0, 1), (5, 6, 1, 0, 3), (5, 4, 2, 0, 3), (5, 2, 0, 0, 1), (5, 5, 2, 0, 2), (5, 5, 2, 0, 1), (2, 4, 1, 0, 2), (5, 6, 2, 0, 1), (1, 5, 2, 0, 2), (5, 4, 2, 0, 1), (0, 3, 1, 0, 2), (0, 2, 2, 0, 1), (6, 1, 0, 1, 0), (6, 6, 1, 0, 4), (6, 1, 2, 2, 1), (6, 3, 2, 0, 2), (6, 2, 2, 0, 1), (6, 2, 1, 0, 1), (6, 7, 1, 0, 2), (6, 5, 2, 0, 4), (6, 9, 0, 0, 2), (6, 6, 1, 0, 3), (6, 4, 1, 0, 2), (6, 3, 0, 0, 2), (6, 4, 0, 0, 0), (6, 3, 0, 0, 0), (6, 5, 2, 0, 3), (6, 8, 1, 0, 0), (6, 5, 1, 0, 2), (6, 7, 0, 0, 2), (6, 3, 0, 0, 2), (6, 8, 1, 0, 1), (6, 8, 0, 0, 2), (6, 6, 0, 0, 0), (6, 10, 0, 0, 1), (6, 6, 0, 0, 0), (6, 8, 0, 0, 6), (6, 3, 0, 0, 1), (6, 2, 1, 0, 1), (6, 4, 1, 0, 2), (6, 4, 1, 0, 1), (6, 3, 1, 0, 1), (6, 3, 0, 0, 1), (6, 5, 0, 0, 4), (6, 6, 0, 0, 5), (6, 6, 0, 0, 3), (6, 4, 0, 0, 1), (6, 3, 1, 0, 0), (6, 2, 1, 0, 0), (6, 7, 2, 0, 2), (6, 3, 1, 0, 2), (6, 7, 2, 0, 4), (6, 7, 1, 0, 4), (6, 3, 2, 0, 2), (6, 2, 2, 0, 1), (6, 4, 1, 0, 2), (6, 4, 2, 0, 1), (6, 5, 2, 0, 2), (6, 5, 1, 0, 2), (6, 7, 2, 0, 1), (6, 5, 1, 0, 2), (7, 4, 2, 2, 1)]
def pg_own (z : Nat) : Nat := (pg_M.getD z (99, 0, 9, 9, 0)).1
def pg_maxL (z : Nat) : Nat := (pg_M.getD z (99, 0, 9, 9, 0)).2.1
def pg_rk (z : Nat) : Nat := (pg_M.getD z (99, 0, 9, 9, 0)).2.2.1
def pg_mk (z : Nat) : Nat := (pg_M.getD z (99, 0, 9, 9, 0)).2.2.2.1
def pg_np (z : Nat) : Nat := (pg_M.getD z (99, 0, 9, 9, 0)).2.2.2.2
def pg_ret (z : Nat) : Option FieldType := match pg_rk z with
  | 0 => none
  | 1 => some .int
  | _ => some .boolean
def pg_ini (z : Nat) : Bool := pg_mk z == 1
def pg_w (z : Nat) : List Cond := Cond.code (pg_y z) (pg_code z) (pg_maxL z) (pg_ret z) :: pg_words
def pg_T0 : u_T := fun k => match k with
  | 0 => ("TwigMerge", "trees", "[LTwigMerge$Forest;", true)
  | 1 => ("TwigMerge", "heights", "[I", true)
  | 2 => ("TwigMerge", "start", "LTwigMerge$Forest;", true)
  | 3 => ("TwigMerge", "latest", "LTwigMerge$Difference;", true)
  | 4 => ("TwigMerge", "merger", "LTwigMerge$Merger;", true)
  | 5 => ("TwigMerge", "result", "LTwigMerge$Forest;", true)
  | 6 => ("TwigMerge", "hasDiff", "Z", false)
  | _ => ("TwigMerge", "hasResult", "Z", false)
def pg_t0 : Nat → FieldType := fun k => match k with
  | 0 => .array (.object "TwigMerge$Forest")
  | 1 => .array .int
  | 2 => .object "TwigMerge$Forest"
  | 3 => .object "TwigMerge$Difference"
  | 4 => .object "TwigMerge$Merger"
  | 5 => .object "TwigMerge$Forest"
  | 6 => .boolean
  | _ => .boolean
def pg_T1 : u_T := fun k => match k with
  | 0 => ("TwigMerge$Forest", "parent", "[I", true)
  | 1 => ("TwigMerge$Forest", "place", "[I", true)
  | 2 => ("TwigMerge$Forest", "type", "[I", true)
  | 3 => ("TwigMerge$Forest", "label", "[I", true)
  | _ => ("TwigMerge$Forest", "used", "I", false)
def pg_t1 : Nat → FieldType := fun k => match k with
  | 0 => .array .int
  | 1 => .array .int
  | 2 => .array .int
  | 3 => .array .int
  | _ => .int
def pg_T2 : u_T := fun k => match k with
  | 0 => ("TwigMerge$Script", "parts", "[[I", true)
  | _ => ("TwigMerge$Script", "length", "I", false)
def pg_t2 : Nat → FieldType := fun k => match k with
  | 0 => .array (.array .int)
  | _ => .int
def pg_T3 : u_T := fun k => match k with
  | 0 => ("TwigMerge$Partners", "partner", "[I", true)
  | 1 => ("TwigMerge$Partners", "owner", "[I", true)
  | 2 => ("TwigMerge$Partners", "fromHeights", "[I", true)
  | 3 => ("TwigMerge$Partners", "fromBelow", "[I", true)
  | 4 => ("TwigMerge$Partners", "toBelow", "[I", true)
  | 5 => ("TwigMerge$Partners", "alikes", "[I", true)
  | 6 => ("TwigMerge$Partners", "from", "LTwigMerge$Forest;", false)
  | _ => ("TwigMerge$Partners", "to", "LTwigMerge$Forest;", false)
def pg_t3 : Nat → FieldType := fun k => match k with
  | 0 => .array .int
  | 1 => .array .int
  | 2 => .array .int
  | 3 => .array .int
  | 4 => .array .int
  | 5 => .array .int
  | 6 => .object "TwigMerge$Forest"
  | _ => .object "TwigMerge$Forest"
def pg_T4 : u_T := fun k => match k with
  | 0 => ("TwigMerge$Difference", "partners", "LTwigMerge$Partners;", true)
  | 1 => ("TwigMerge$Difference", "script", "LTwigMerge$Script;", true)
  | 2 => ("TwigMerge$Difference", "settled", "[Z", true)
  | 3 => ("TwigMerge$Difference", "row", "[I", true)
  | 4 => ("TwigMerge$Difference", "places", "[I", true)
  | 5 => ("TwigMerge$Difference", "reach", "[I", true)
  | 6 => ("TwigMerge$Difference", "from", "LTwigMerge$Forest;", false)
  | 7 => ("TwigMerge$Difference", "to", "LTwigMerge$Forest;", false)
  | _ => ("TwigMerge$Difference", "inserts", "I", false)
def pg_t4 : Nat → FieldType := fun k => match k with
  | 0 => .object "TwigMerge$Partners"
  | 1 => .object "TwigMerge$Script"
  | 2 => .array .boolean
  | 3 => .array .int
  | 4 => .array .int
  | 5 => .array .int
  | 6 => .object "TwigMerge$Forest"
  | 7 => .object "TwigMerge$Forest"
  | _ => .int
def pg_T5 : u_T := fun k => match k with
  | 0 => ("TwigMerge$Merger", "result", "LTwigMerge$Forest;", true)
  | 1 => ("TwigMerge$Merger", "toLeft", "LTwigMerge$Difference;", true)
  | 2 => ("TwigMerge$Merger", "toRight", "LTwigMerge$Difference;", true)
  | 3 => ("TwigMerge$Merger", "first", "LTwigMerge$Script;", true)
  | 4 => ("TwigMerge$Merger", "second", "LTwigMerge$Script;", true)
  | 5 => ("TwigMerge$Merger", "taken", "[Z", true)
  | 6 => ("TwigMerge$Merger", "meant", "[I", true)
  | 7 => ("TwigMerge$Merger", "baseSize", "I", false)
  | _ => ("TwigMerge$Merger", "inserts", "I", false)
def pg_t5 : Nat → FieldType := fun k => match k with
  | 0 => .object "TwigMerge$Forest"
  | 1 => .object "TwigMerge$Difference"
  | 2 => .object "TwigMerge$Difference"
  | 3 => .object "TwigMerge$Script"
  | 4 => .object "TwigMerge$Script"
  | 5 => .array .boolean
  | 6 => .array .int
  | 7 => .int
  | _ => .int
def pg_T6 : u_T := fun k => match k with
  | 0 => ("TwigMergeModel", "size", "[I", true)
  | 1 => ("TwigMergeModel", "parent", "[I", true)
  | 2 => ("TwigMergeModel", "type", "[I", true)
  | 3 => ("TwigMergeModel", "label", "[I", true)
  | 4 => ("TwigMergeModel", "mate", "[I", true)
  | 5 => ("TwigMergeModel", "back", "[I", true)
  | 6 => ("TwigMergeModel", "same", "[Z", true)
  | 7 => ("TwigMergeModel", "lowFrom", "[Z", true)
  | 8 => ("TwigMergeModel", "lowTo", "[Z", true)
  | 9 => ("TwigMergeModel", "manyFrom", "[I", true)
  | 10 => ("TwigMergeModel", "manyTo", "[I", true)
  | 11 => ("TwigMergeModel", "tall", "[I", true)
  | 12 => ("TwigMergeModel", "settled", "[Z", true)
  | 13 => ("TwigMergeModel", "stands", "[I", true)
  | 14 => ("TwigMergeModel", "row", "[I", true)
  | 15 => ("TwigMergeModel", "kids", "[I", true)
  | 16 => ("TwigMergeModel", "from", "I", false)
  | 17 => ("TwigMergeModel", "to", "I", false)
  | 18 => ("TwigMergeModel", "steps", "[I", true)
  | 19 => ("TwigMergeModel", "kind", "[I", true)
  | 20 => ("TwigMergeModel", "node", "[I", true)
  | 21 => ("TwigMergeModel", "under", "[I", true)
  | 22 => ("TwigMergeModel", "behind", "[I", true)
  | 23 => ("TwigMergeModel", "kinds", "[I", true)
  | 24 => ("TwigMergeModel", "labels", "[I", true)
  | 25 => ("TwigMergeModel", "inserts", "[I", true)
  | 26 => ("TwigMergeModel", "found", "Z", false)
  | 27 => ("TwigMergeModel", "kept", "[I", true)
  | 28 => ("TwigMergeModel", "result", "Z", false)
  | 29 => ("TwigMergeModel", "names", "I", false)
  | 30 => ("TwigMergeModel", "there", "[Z", true)
  | 31 => ("TwigMergeModel", "above", "[I", true)
  | 32 => ("TwigMergeModel", "sort", "[I", true)
  | 33 => ("TwigMergeModel", "text", "[I", true)
  | 34 => ("TwigMergeModel", "line", "[I", true)
  | 35 => ("TwigMergeModel", "length", "I", false)
  | 36 => ("TwigMergeModel", "pairs", "[I", true)
  | 37 => ("TwigMergeModel", "others", "[I", true)
  | 38 => ("TwigMergeModel", "taken", "[Z", true)
  | _ => ("TwigMergeModel", "means", "[I", true)
def pg_t6 : Nat → FieldType := fun k => match k with
  | 0 => .array .int
  | 1 => .array .int
  | 2 => .array .int
  | 3 => .array .int
  | 4 => .array .int
  | 5 => .array .int
  | 6 => .array .boolean
  | 7 => .array .boolean
  | 8 => .array .boolean
  | 9 => .array .int
  | 10 => .array .int
  | 11 => .array .int
  | 12 => .array .boolean
  | 13 => .array .int
  | 14 => .array .int
  | 15 => .array .int
  | 16 => .int
  | 17 => .int
  | 18 => .array .int
  | 19 => .array .int
  | 20 => .array .int
  | 21 => .array .int
  | 22 => .array .int
  | 23 => .array .int
  | 24 => .array .int
  | 25 => .array .int
  | 26 => .boolean
  | 27 => .array .int
  | 28 => .boolean
  | 29 => .int
  | 30 => .array .boolean
  | 31 => .array .int
  | 32 => .array .int
  | 33 => .array .int
  | 34 => .array .int
  | 35 => .int
  | 36 => .array .int
  | 37 => .array .int
  | 38 => .array .boolean
  | _ => .array .int
def pg_T (ci : Nat) : u_T := match ci with
  | 0 => pg_T0
  | 1 => pg_T1
  | 2 => pg_T2
  | 3 => pg_T3
  | 4 => pg_T4
  | 5 => pg_T5
  | _ => pg_T6
def pg_t (ci : Nat) : Nat → FieldType := match ci with
  | 0 => pg_t0
  | 1 => pg_t1
  | 2 => pg_t2
  | 3 => pg_t3
  | 4 => pg_t4
  | 5 => pg_t5
  | _ => pg_t6
def pg_NL : List Nat := [8, 5, 2, 8, 9, 9, 40]
def pg_N (ci : Nat) : Nat := pg_NL.getD ci 0
def pg_cl : List vw_C := [("TwigMerge", pg_T0, 8), ("TwigMerge$Forest", pg_T1, 5), ("TwigMerge$Script", pg_T2, 2), ("TwigMerge$Partners", pg_T3, 8), ("TwigMerge$Difference", pg_T4, 9), ("TwigMerge$Merger", pg_T5, 9), ("TwigMergeModel", pg_T6, 40)]
def am_kd (ty : FieldType) : Nat := match ty with
  | .int => 0
  | .boolean => 1
  | .object _ => 2
  | .array _ => 2
  | _ => 9
def pg_fk (ci k : Nat) : Nat := am_kd (pg_t ci k)
def pg_ff (ci k : Nat) : Bool := (pg_T ci k).2.2.2
def pg_defL : List (List Value) := [[.null, .null, .null, .null, .null, .null, .int 0, .int 0], [.null, .null, .null, .null, .int 0], [.null, .int 0], [.null, .null, .null, .null, .null, .null, .null, .null], [.null, .null, .null, .null, .null, .null, .null, .null, .int 0], [.null, .null, .null, .null, .null, .null, .null, .int 0, .int 0], [.null, .null, .null, .null, .null, .null, .null, .null, .null, .null, .null, .null, .null, .null, .null, .null, .int 0, .int 0, .null, .null, .null, .null, .null, .null, .null, .null, .int 0, .null, .int 0, .int 0, .null, .null, .null, .null, .null, .int 0, .null, .null, .null, .null]]
def pg_def (ci : Nat) : List Value := pg_defL.getD ci []
def pg_ae : Nat := 1
def pg_tys (dA : Nat → ClassId) : List (ClassId × FieldType) := [(dA 0, .int), (dA 1, .boolean), (dA 2, .object (pg_cn pg_ae)), (dA 3, .array .int)]
/-- own class, pool number, class, field, place among the words -/
def pg_fldL : List (Nat × Nat × Nat × Nat × Nat) := [(0, 11, 0, 0, 259), (0, 18, 0, 1, 260), (0, 22, 0, 2, 261), (0, 29, 0, 3, 262), (0, 36, 0, 4, 263), (0, 40, 5, 0, 231), (0, 43, 0, 5, 264), (0, 44, 0, 6, 265), (0, 48, 0, 7, 266), (0, 55, 1, 4, 115), (0, 99, 4, 1, 192), (0, 103, 2, 1, 180), (0, 108, 4, 0, 189), (0, 135, 1, 0, 101), (0, 138, 1, 1, 104), (0, 141, 1, 2, 108), (0, 144, 1, 3, 111), (1, 9, 1, 0, 97), (1, 15, 1, 1, 102), (1, 18, 1, 2, 105), (1, 21, 1, 3, 109), (1, 30, 1, 4, 113), (2, 11, 2, 0, 177), (2, 16, 2, 1, 178), (3, 9, 3, 0, 144), (3, 15, 3, 1, 145), (3, 18, 3, 2, 146), (3, 21, 3, 3, 147), (3, 24, 3, 4, 148), (3, 27, 3, 5, 149), (3, 35, 3, 6, 150), (3, 39, 3, 7, 151), (3, 68, 1, 4, 117), (3, 88, 1, 0, 99), (3, 115, 1, 2, 107), (3, 131, 1, 3, 112), (4, 12, 4, 0, 188), (4, 21, 4, 1, 190), (4, 25, 4, 2, 193), (4, 29, 4, 3, 194), (4, 33, 4, 4, 195), (4, 36, 4, 5, 196), (4, 44, 4, 6, 197), (4, 48, 4, 7, 198), (4, 51, 4, 8, 199), (4, 72, 1, 4, 116), (4, 90, 1, 0, 98), (4, 93, 1, 1, 103), (4, 108, 1, 2, 106), (4, 111, 1, 3, 110), (5, 14, 5, 0, 230), (5, 23, 5, 1, 232), (5, 27, 5, 2, 233), (5, 30, 4, 1, 191), (5, 34, 5, 3, 234), (5, 37, 5, 4, 235), (5, 40, 5, 5, 236), (5, 44, 5, 6, 237), (5, 48, 5, 7, 238), (5, 52, 5, 8, 239), (5, 59, 1, 4, 114), (5, 66, 2, 1, 179), (5, 142, 1, 0, 100), (6, 7, 6, 0, 629), (6, 13, 6, 1, 630), (6, 16, 6, 2, 631), (6, 19, 6, 3, 632), (6, 22, 6, 4, 633), (6, 25, 6, 5, 634), (6, 28, 6, 6, 635), (6, 32, 6, 7, 636), (6, 35, 6, 8, 637), (6, 38, 6, 9, 638), (6, 41, 6, 10, 639), (6, 44, 6, 11, 640), (6, 47, 6, 12, 641), (6, 50, 6, 13, 642), (6, 53, 6, 14, 643), (6, 56, 6, 15, 644), (6, 59, 6, 18, 647), (6, 62, 6, 19, 648), (6, 65, 6, 20, 649), (6, 68, 6, 21, 650), (6, 71, 6, 22, 651), (6, 74, 6, 23, 652), (6, 77, 6, 24, 653), (6, 80, 6, 25, 654), (6, 83, 6, 27, 656), (6, 86, 6, 30, 659), (6, 89, 6, 31, 660), (6, 92, 6, 32, 661), (6, 95, 6, 33, 662), (6, 98, 6, 34, 663), (6, 101, 6, 36, 665), (6, 104, 6, 37, 666), (6, 107, 6, 38, 667), (6, 110, 6, 39, 668), (6, 129, 6, 16, 645), (6, 141, 6, 17, 646), (6, 190, 6, 26, 655), (6, 194, 6, 29, 658), (6, 197, 6, 35, 664), (6, 218, 6, 28, 657)]
def pg_fld (own idx : Nat) : Option (Nat × Nat) := (pg_fldL.find? (fun q => q.1 == own && q.2.1 == idx)).map (fun q => (q.2.2.1, q.2.2.2.1))
/-- own class, pool number, method, place among the words, a nest mate's -/
def pg_mthL : List (Nat × Nat × Nat × Nat × Nat) := [(0, 3, 1000, 84, 0), (0, 15, 1, 90, 0), (0, 28, 3, 132, 0), (0, 35, 6, 222, 0), (0, 51, 8, 288, 0), (0, 59, 9, 291, 0), (0, 62, 10, 295, 0), (0, 66, 11, 299, 0), (0, 70, 12, 303, 0), (0, 74, 13, 310, 0), (0, 77, 15, 319, 0), (0, 80, 18, 331, 0), (0, 84, 20, 339, 1), (0, 88, 22, 349, 0), (0, 91, 23, 353, 0), (0, 95, 24, 364, 0), (0, 112, 44, 505, 0), (0, 117, 58, 510, 0), (0, 120, 60, 518, 0), (0, 123, 62, 526, 0), (0, 127, 66, 544, 0), (0, 131, 68, 552, 0), (1, 3, 1000, 93, 0), (1, 24, 2, 94, 0), (1, 34, 15, 357, 0), (1, 37, 1002, 358, 0), (1, 43, 1003, 361, 0), (1, 49, 1001, 307, 0), (1, 52, 9, 314, 0), (1, 56, 10, 342, 0), (1, 60, 11, 343, 0), (1, 63, 20, 344, 0), (2, 3, 1000, 174, 0), (2, 20, 51, 481, 0), (2, 24, 63, 530, 0), (2, 28, 12, 534, 0), (2, 34, 13, 535, 0), (2, 37, 64, 536, 0), (2, 41, 65, 540, 0), (3, 3, 1000, 141, 0), (3, 32, 1, 143, 0), (3, 42, 2, 372, 0), (3, 48, 18, 373, 0), (3, 52, 26, 374, 0), (3, 55, 27, 378, 0), (3, 58, 28, 383, 0), (3, 62, 34, 410, 0), (3, 65, 40, 436, 0), (3, 72, 20, 382, 1), (3, 76, 29, 387, 0), (3, 80, 30, 391, 0), (3, 84, 32, 399, 0), (3, 91, 31, 395, 0), (3, 94, 9, 403, 0), (3, 98, 33, 404, 0), (3, 102, 10, 408, 0), (3, 106, 11, 409, 0), (3, 109, 35, 414, 0), (3, 112, 37, 424, 0), (3, 118, 36, 418, 0), (3, 123, 38, 428, 0), (3, 127, 39, 432, 0), (4, 3, 1000, 135, 0), (4, 11, 4, 138, 0), (4, 20, 5, 171, 0), (4, 41, 1, 187, 0), (4, 55, 25, 368, 0), (4, 59, 41, 440, 0), (4, 62, 46, 461, 0), (4, 65, 47, 465, 0), (4, 69, 54, 493, 0), (4, 75, 42, 444, 0), (4, 79, 44, 452, 0), (4, 83, 43, 448, 0), (4, 87, 45, 456, 0), (4, 96, 1001, 460, 0), (4, 101, 48, 469, 0), (4, 105, 49, 473, 0), (4, 114, 50, 477, 0), (4, 118, 52, 485, 0), (4, 121, 53, 489, 0), (4, 125, 55, 497, 0), (5, 3, 1000, 225, 0), (5, 11, 1, 227, 0), (5, 22, 3, 229, 0), (5, 55, 24, 556, 0), (5, 62, 23, 557, 0), (5, 71, 62, 558, 0), (5, 75, 69, 559, 0), (5, 79, 58, 563, 0), (5, 83, 70, 564, 0), (5, 86, 76, 592, 0), (5, 89, 78, 601, 0), (5, 92, 80, 610, 0), (5, 95, 71, 568, 0), (5, 99, 72, 572, 0), (5, 103, 74, 580, 0), (5, 106, 60, 584, 0), (5, 109, 75, 585, 0), (5, 113, 12, 590, 0), (5, 117, 13, 591, 0), (5, 120, 9, 589, 0), (5, 123, 77, 596, 0), (5, 125, 64, 600, 0), (5, 129, 73, 576, 0), (5, 133, 79, 605, 0), (5, 136, 65, 609, 0), (5, 139, 10, 614, 0), (6, 1, 1000, 628, 0), (6, 113, 85, 754, 0), (6, 117, 86, 757, 0), (6, 121, 92, 781, 0), (6, 125, 91, 777, 0), (6, 133, 89, 801, 0), (6, 137, 97, 802, 0), (6, 144, 99, 810, 0), (6, 147, 101, 818, 0), (6, 150, 96, 797, 0), (6, 153, 98, 806, 0), (6, 157, 100, 814, 0), (6, 160, 102, 822, 0), (6, 164, 103, 826, 0), (6, 167, 105, 834, 0), (6, 171, 106, 838, 0), (6, 174, 107, 842, 0), (6, 178, 95, 793, 0), (6, 181, 104, 830, 0), (6, 184, 94, 789, 0), (6, 187, 108, 846, 0), (6, 200, 116, 878, 0), (6, 204, 115, 874, 0), (6, 208, 117, 882, 0), (6, 211, 113, 866, 0), (6, 214, 114, 870, 0), (6, 221, 118, 886, 0), (6, 224, 125, 914, 0), (6, 227, 121, 898, 0), (6, 230, 122, 902, 0), (6, 234, 126, 918, 0), (6, 237, 127, 922, 0), (6, 240, 124, 910, 0), (6, 243, 128, 926, 0), (6, 246, 123, 906, 0), (6, 250, 120, 894, 0), (6, 253, 131, 938, 0), (7, 9, 0, 81, 0), (7, 12, 83, 625, 0), (7, 13, 7, 284, 0), (7, 17, 84, 750, 0), (7, 18, 14, 315, 0), (7, 22, 87, 761, 0), (7, 23, 16, 323, 0), (7, 27, 88, 765, 0), (7, 28, 17, 327, 0), (7, 32, 89, 769, 0), (7, 33, 19, 335, 0), (7, 37, 90, 773, 0), (7, 38, 21, 345, 0), (7, 41, 93, 785, 0), (7, 42, 56, 501, 0), (7, 45, 109, 850, 0), (7, 46, 57, 506, 0), (7, 49, 110, 854, 0), (7, 50, 59, 514, 0), (7, 53, 111, 858, 0), (7, 54, 61, 522, 0), (7, 57, 112, 862, 0), (7, 58, 67, 548, 0), (7, 62, 119, 890, 0), (7, 63, 81, 615, 0), (7, 66, 129, 930, 0), (7, 67, 82, 619, 0), (7, 70, 130, 934, 0)]
def pg_mth (own idx : Nat) : Option Nat := (pg_mthL.find? (fun q => q.1 == own && q.2.1 == idx)).map (fun q => q.2.2.1)
def pg_newL : List (Nat × Nat × Nat × Nat) := [(0, 9, 1, 87), (0, 26, 4, 130), (0, 33, 5, 220), (4, 9, 3, 136), (4, 18, 2, 169), (4, 39, 1, 186), (5, 9, 1, 226), (5, 20, 4, 228), (3, 30, 1, 142), (7, 7, 0, 79), (7, 10, 6, 623)]
def pg_new (own idx : Nat) : Option Nat := (pg_newL.find? (fun q => q.1 == own && q.2.1 == idx)).map (fun q => q.2.2.1)
def pg_ana (own idx : Nat) : Bool := pg_newL.any (fun q => q.1 == own && q.2.1 == idx && q.2.2.1 == pg_ae)
def pg_mna (own idx : Nat) : Bool := own == 2 && idx == 9
def pg_ldcL : List (Nat × Nat × Int32 × Nat) := [(9, 265, 1431655765, 421), (9, 266, 858993459, 422), (9, 267, 252645135, 423)]
def pg_ldc (own idx : Nat) : Option Int32 := (pg_ldcL.find? (fun q => q.1 == own && q.2.1 == idx)).map (fun q => q.2.2.1)
def pg_Z : List (Nat × Nat × Nat × Nat) := [(83, 82, 0, 68), (92, 91, 0, 69), (96, 95, 0, 70), (134, 133, 0, 71), (140, 139, 0, 72), (173, 172, 0, 73), (224, 223, 0, 74), (287, 285, 286, 68), (290, 289, 0, 68), (294, 292, 293, 69), (298, 296, 297, 69), (302, 300, 301, 69), (306, 304, 305, 69), (313, 311, 312, 69), (318, 316, 317, 68), (322, 320, 321, 69), (326, 324, 325, 68), (330, 328, 329, 68), (334, 332, 333, 69), (338, 336, 337, 68), (341, 340, 0, 69), (348, 346, 347, 68), (352, 351, 0, 68), (356, 354, 355, 69), (367, 365, 366, 71), (371, 369, 370, 72), (377, 375, 376, 69), (381, 380, 1, 72), (386, 385, 2, 72), (390, 389, 3, 72), (394, 393, 4, 72), (398, 397, 5, 72), (402, 401, 6, 72), (407, 406, 7, 72), (413, 412, 8, 72), (417, 416, 9, 72), (420, 419, 0, 78), (427, 426, 10, 72), (431, 430, 11, 72), (435, 434, 12, 72), (439, 438, 13, 72), (443, 442, 14, 71), (447, 446, 15, 71), (451, 450, 16, 71), (455, 453, 454, 72), (459, 458, 17, 71), (464, 462, 463, 73), (468, 467, 18, 71), (472, 471, 19, 71), (476, 474, 475, 72), (480, 478, 479, 73), (484, 483, 20, 73), (488, 486, 487, 73), (492, 490, 491, 73), (496, 495, 21, 71), (500, 498, 499, 73), (504, 502, 503, 68), (509, 507, 508, 68), (513, 511, 512, 73), (517, 515, 516, 68), (521, 519, 520, 73), (525, 523, 524, 68), (529, 527, 528, 73), (533, 532, 22, 73), (539, 537, 538, 69), (543, 541, 542, 69), (547, 545, 546, 69), (551, 549, 550, 68), (555, 553, 554, 74), (562, 561, 23, 74), (567, 566, 24, 74), (571, 570, 25, 74), (575, 574, 26, 74), (579, 578, 27, 74), (583, 582, 28, 74), (588, 587, 29, 74), (595, 594, 30, 74), (599, 597, 598, 73), (604, 603, 31, 74), (608, 606, 607, 69), (613, 612, 32, 74), (618, 616, 617, 68), (622, 620, 621, 68), (627, 626, 0, 75), (753, 751, 752, 75), (756, 755, 0, 75), (760, 759, 33, 75), (764, 762, 763, 75), (768, 766, 767, 75), (772, 770, 771, 75), (776, 774, 775, 75), (780, 779, 34, 75), (784, 783, 35, 75), (788, 786, 787, 75), (792, 791, 36, 75), (796, 795, 37, 75), (800, 799, 38, 75), (805, 804, 39, 75), (809, 808, 40, 75), (813, 812, 41, 75), (817, 816, 42, 75), (821, 820, 43, 75), (825, 824, 44, 75), (829, 828, 45, 75), (833, 832, 46, 75), (837, 836, 47, 75), (841, 840, 48, 75), (845, 844, 49, 75), (849, 848, 50, 75), (853, 851, 852, 75), (857, 855, 856, 75), (861, 859, 860, 75), (865, 863, 864, 75), (869, 868, 51, 75), (873, 872, 52, 75), (877, 876, 53, 75), (881, 880, 54, 75), (885, 884, 55, 75), (889, 888, 56, 75), (893, 891, 892, 75), (897, 896, 57, 75), (901, 900, 58, 75), (905, 904, 59, 75), (909, 908, 60, 75), (913, 912, 61, 75), (917, 916, 62, 75), (921, 920, 63, 75), (925, 924, 64, 75), (929, 928, 65, 75), (933, 931, 932, 75), (937, 935, 936, 75), (941, 940, 66, 75)]
def pg_zi (z : Nat) : Nat × Nat × Nat × Nat := pg_Z.getD z (0, 0, 0, 0)
