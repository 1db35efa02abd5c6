/-! Every method: its name, code, places, answer. -/
def mD_init : zM := (⟨"DepotServer", "<init>", "()V"⟩, prog_1_method_1_code, 1, none, none)
def mD_write : zM := (⟨"DepotServer", "write", "(C)Z"⟩, prog_1_method_2_code, 2, some .boolean, none)
def mD_file : zM := (⟨"DepotServer", "file", "()I"⟩, prog_1_method_3_code, 2, some .int, none)
def mD_line : zM := (⟨"DepotServer", "line", "()I"⟩, prog_1_method_4_code, 2, some .int, none)
def mD_view : zM := (⟨"DepotServer", "view", "(III)Z"⟩, prog_1_method_5_code, 4, some .boolean, none)
def mD_mapped : zM := (⟨"DepotServer", "mapped", "(II)Z"⟩, prog_1_method_6_code, 3, some .boolean, none)
def mD_place : zM := (⟨"DepotServer", "place", "(III)I"⟩, prog_1_method_7_code, 5, some .int, none)
def mD_where : zM := (⟨"DepotServer", "where", "(I)I"⟩, prog_1_method_8_code, 3, some .int, none)
def mD_add : zM := (⟨"DepotServer", "add", "(IIIZ)I"⟩, prog_1_method_9_code, 6, some .int, none)
def mD_edit : zM := (⟨"DepotServer", "edit", "(III)I"⟩, prog_1_method_10_code, 4, some .int, none)
def mD_remove : zM := (⟨"DepotServer", "remove", "(III)I"⟩, prog_1_method_11_code, 4, some .int, none)
def mD_store : zM := (⟨"DepotServer", "store", "(III)Z"⟩, prog_1_method_12_code, 5, some .boolean, none)
def mD_reopen : zM := (⟨"DepotServer", "reopen", "(III)Z"⟩, prog_1_method_13_code, 4, some .boolean, none)
def mD_revert : zM := (⟨"DepotServer", "revert", "(II)Z"⟩, prog_1_method_14_code, 4, some .boolean, none)
def mD_sync : zM := (⟨"DepotServer", "sync", "(II)I"⟩, prog_1_method_15_code, 6, some .int, none)
def mD_join : zM := (⟨"DepotServer", "join", "(IIII)I"⟩, prog_1_method_16_code, 8, some .int, none)
def mD_resolve : zM := (⟨"DepotServer", "resolve", "(III)I"⟩, prog_1_method_17_code, 7, some .int, none)
def mD_submit : zM := (⟨"DepotServer", "submit", "(II)I"⟩, prog_1_method_18_code, 6, some .int, none)
def mD_crash : zM := (⟨"DepotServer", "crash", "(I)I"⟩, prog_1_method_19_code, 2, some .int, none)
def mD_journal : zM := (⟨"DepotServer", "journal", "()I"⟩, prog_1_method_20_code, 1, some .int, none)
def mD_changes : zM := (⟨"DepotServer", "changes", "()I"⟩, prog_1_method_21_code, 1, some .int, none)
def mD_joins : zM := (⟨"DepotServer", "joins", "()I"⟩, prog_1_method_22_code, 1, some .int, none)
def mD_head : zM := (⟨"DepotServer", "head", "(I)I"⟩, prog_1_method_23_code, 2, some .int, none)
def mD_revision : zM := (⟨"DepotServer", "revision", "(III)I"⟩, prog_1_method_24_code, 5, some .int, none)
def mD_have : zM := (⟨"DepotServer", "have", "(II)I"⟩, prog_1_method_25_code, 3, some .int, none)
def mD_text : zM := (⟨"DepotServer", "text", "(II)I"⟩, prog_1_method_26_code, 3, some .int, none)
def mD_opened : zM := (⟨"DepotServer", "opened", "(III)I"⟩, prog_1_method_27_code, 4, some .int, none)
def mD_joined : zM := (⟨"DepotServer", "joined", "(II)I"⟩, prog_1_method_28_code, 3, some .int, none)
def mD_isClient : zM := (⟨"DepotServer", "isClient", "(I)Z"⟩, prog_1_method_29_code, 1, some .boolean, none)
def mD_isList : zM := (⟨"DepotServer", "isList", "(I)Z"⟩, prog_1_method_30_code, 1, some .boolean, none)
def mD_isFile : zM := (⟨"DepotServer", "isFile", "(I)Z"⟩, prog_1_method_31_code, 2, some .boolean, none)
def mD_isMapped : zM := (⟨"DepotServer", "isMapped", "(II)Z"⟩, prog_1_method_32_code, 3, some .boolean, none)
def mD_isOpenAt : zM := (⟨"DepotServer", "isOpenAt", "(II)Z"⟩, prog_1_method_33_code, 3, some .boolean, none)
def mD_isGone : zM := (⟨"DepotServer", "isGone", "(I)Z"⟩, prog_1_method_34_code, 2, some .boolean, none)
def mD_isHindered : zM := (⟨"DepotServer", "isHindered", "(IIZ)Z"⟩, prog_1_method_35_code, 6, some .boolean, none)
def mD_contentOf : zM := (⟨"DepotServer", "contentOf", "(II)I"⟩, prog_1_method_36_code, 4, some .int, none)
def mD_fileAt : zM := (⟨"DepotServer", "fileAt", "(I)I"⟩, prog_1_method_37_code, 3, some .int, none)
def mD_refusalToJoin : zM := (⟨"DepotServer", "refusalToJoin", "(III)I"⟩, prog_1_method_38_code, 7, some .int, none)
def mD_refusalToSubmit : zM := (⟨"DepotServer", "refusalToSubmit", "(II)I"⟩, prog_1_method_39_code, 8, some .int, none)
def mD_isOutdated : zM := (⟨"DepotServer", "isOutdated", "(LDepotServer$Work;I)Z"⟩, prog_1_method_40_code, 3, some .boolean, none)
def mD_openHeldFor : zM := (⟨"DepotServer", "openHeldFor", "(IIII)I"⟩, prog_1_method_41_code, 6, some .int, none)
def mD_wanted : zM := (⟨"DepotServer", "wanted", "(II)I"⟩, prog_1_method_42_code, 4, some .int, none)
def mD_bring : zM := (⟨"DepotServer", "bring", "(LDepotServer$Work;II)Z"⟩, prog_1_method_43_code, 4, some .boolean, none)
def mD_theirContent : zM := (⟨"DepotServer", "theirContent", "(LDepotServer$Work;I)I"⟩, prog_1_method_44_code, 3, some .int, none)
def mD_mergeBase : zM := (⟨"DepotServer", "mergeBase", "(LDepotServer$Work;I)I"⟩, prog_1_method_45_code, 3, some .int, none)
def mD_clash : zM := (⟨"DepotServer", "clash", "(III)Z"⟩, prog_1_method_46_code, 7, some .boolean, none)
def mD_merged : zM := (⟨"DepotServer", "merged", "(III)I"⟩, prog_1_method_47_code, 7, some .int, none)
def mD_submitFile : zM := (⟨"DepotServer", "submitFile", "(LDepotServer$Work;I)V"⟩, prog_1_method_48_code, 7, none, none)
def mM_init : zM := (⟨"DepotServerModel", "<init>", "()V"⟩, prog_11_method_1_code, 1, none, none)
def mM_isClient : zM := (⟨"DepotServerModel", "isClient", "(I)Z"⟩, prog_11_method_2_code, 1, some .boolean, none)
def mM_isFile : zM := (⟨"DepotServerModel", "isFile", "(I)Z"⟩, prog_11_method_3_code, 2, some .boolean, none)
def mM_isList : zM := (⟨"DepotServerModel", "isList", "(I)Z"⟩, prog_11_method_4_code, 1, some .boolean, none)
def mM_both : zM := (⟨"DepotServerModel", "both", "(II)Z"⟩, prog_11_method_5_code, 3, some .boolean, none)
def mM_write : zM := (⟨"DepotServerModel", "write", "(C)Z"⟩, prog_11_method_6_code, 2, some .boolean, none)
def mM_letter : zM := (⟨"DepotServerModel", "letter", "(C)Z"⟩, prog_11_method_7_code, 1, some .boolean, none)
def mM_isPath : zM := (⟨"DepotServerModel", "isPath", "()Z"⟩, prog_11_method_8_code, 3, some .boolean, none)
def mM_isPathOf : zM := (⟨"DepotServerModel", "isPathOf", "(I)Z"⟩, prog_11_method_9_code, 4, some .boolean, none)
def mM_file : zM := (⟨"DepotServerModel", "file", "()I"⟩, prog_11_method_10_code, 4, some .int, none)
def mM_wild : zM := (⟨"DepotServerModel", "wild", "(C)Z"⟩, prog_11_method_11_code, 1, some .boolean, none)
def mM_wildcards : zM := (⟨"DepotServerModel", "wildcards", "(II)I"⟩, prog_11_method_12_code, 6, some .int, none)
def mM_wildcard : zM := (⟨"DepotServerModel", "wildcard", "(III)C"⟩, prog_11_method_13_code, 6, some .char, none)
def mM_split : zM := (⟨"DepotServerModel", "split", "()I"⟩, prog_11_method_14_code, 4, some .int, none)
def mM_line : zM := (⟨"DepotServerModel", "line", "()I"⟩, prog_11_method_15_code, 7, some .int, none)
def mM_fitsWith : zM := (⟨"DepotServerModel", "fitsWith", "(IIII)Z"⟩, prog_11_method_16_code, 11, some .boolean, none)
def mM_fits : zM := (⟨"DepotServerModel", "fits", "(II)Z"⟩, prog_11_method_17_code, 5, some .boolean, none)
def mM_find : zM := (⟨"DepotServerModel", "find", "(II)V"⟩, prog_11_method_18_code, 11, none, none)
def mM_samePlace : zM := (⟨"DepotServerModel", "samePlace", "(II)Z"⟩, prog_11_method_19_code, 5, some .boolean, none)
def mM_look : zM := (⟨"DepotServerModel", "look", "()V"⟩, prog_11_method_20_code, 5, none, none)
def mM_mapped : zM := (⟨"DepotServerModel", "mapped", "(II)Z"⟩, prog_11_method_21_code, 3, some .boolean, none)
def mM_place : zM := (⟨"DepotServerModel", "place", "(III)I"⟩, prog_11_method_22_code, 5, some .int, none)
def mM_where : zM := (⟨"DepotServerModel", "where", "(I)I"⟩, prog_11_method_23_code, 7, some .int, none)
def mM_head : zM := (⟨"DepotServerModel", "head", "(I)I"⟩, prog_11_method_24_code, 4, some .int, none)
def mM_row : zM := (⟨"DepotServerModel", "row", "(II)I"⟩, prog_11_method_25_code, 5, some .int, none)
def mM_content : zM := (⟨"DepotServerModel", "content", "(II)I"⟩, prog_11_method_26_code, 4, some .int, none)
def mM_gone : zM := (⟨"DepotServerModel", "gone", "(I)Z"⟩, prog_11_method_27_code, 3, some .boolean, none)
def mM_exclusive : zM := (⟨"DepotServerModel", "exclusive", "(I)Z"⟩, prog_11_method_28_code, 3, some .boolean, none)
def mM_revision : zM := (⟨"DepotServerModel", "revision", "(III)I"⟩, prog_11_method_29_code, 6, some .int, none)
def mM_hindered : zM := (⟨"DepotServerModel", "hindered", "(IIZ)Z"⟩, prog_11_method_30_code, 7, some .boolean, none)
def mM_note : zM := (⟨"DepotServerModel", "note", "(IIIII)V"⟩, prog_11_method_31_code, 6, none, none)
def mM_again : zM := (⟨"DepotServerModel", "again", "(I)V"⟩, prog_11_method_32_code, 4, none, none)
def mM_crash : zM := (⟨"DepotServerModel", "crash", "(I)I"⟩, prog_11_method_33_code, 3, some .int, none)
def mM_empty : zM := (⟨"DepotServerModel", "empty", "()V"⟩, prog_11_method_34_code, 2, none, none)
def mM_forget : zM := (⟨"DepotServerModel", "forget", "(I)V"⟩, prog_11_method_35_code, 2, none, none)
def mM_journal : zM := (⟨"DepotServerModel", "journal", "()I"⟩, prog_11_method_36_code, 1, some .int, none)
def mM_set : zM := (⟨"DepotServerModel", "set", "(III)V"⟩, prog_11_method_37_code, 4, none, none)
def mM_view : zM := (⟨"DepotServerModel", "view", "(III)Z"⟩, prog_11_method_38_code, 4, some .boolean, none)
def mM_opn : zM := (⟨"DepotServerModel", "open", "(IIIZ)V"⟩, prog_11_method_39_code, 5, none, none)
def mM_add : zM := (⟨"DepotServerModel", "add", "(IIIZ)I"⟩, prog_11_method_40_code, 6, some .int, none)
def mM_begin : zM := (⟨"DepotServerModel", "begin", "(IIII)I"⟩, prog_11_method_41_code, 6, some .int, none)
def mM_edit : zM := (⟨"DepotServerModel", "edit", "(III)I"⟩, prog_11_method_42_code, 4, some .int, none)
def mM_remove : zM := (⟨"DepotServerModel", "remove", "(III)I"⟩, prog_11_method_43_code, 4, some .int, none)
def mM_isOpen : zM := (⟨"DepotServerModel", "isOpen", "(II)Z"⟩, prog_11_method_44_code, 3, some .boolean, none)
def mM_store : zM := (⟨"DepotServerModel", "store", "(III)Z"⟩, prog_11_method_45_code, 4, some .boolean, none)
def mM_reopen : zM := (⟨"DepotServerModel", "reopen", "(III)Z"⟩, prog_11_method_46_code, 4, some .boolean, none)
def mM_close : zM := (⟨"DepotServerModel", "close", "(II)V"⟩, prog_11_method_47_code, 3, none, none)
def mM_revert : zM := (⟨"DepotServerModel", "revert", "(II)Z"⟩, prog_11_method_48_code, 3, some .boolean, none)
def mM_wanted : zM := (⟨"DepotServerModel", "wanted", "(III)I"⟩, prog_11_method_49_code, 8, some .int, none)
def mM_bring : zM := (⟨"DepotServerModel", "bring", "(II)I"⟩, prog_11_method_50_code, 7, some .int, none)
def mM_sync : zM := (⟨"DepotServerModel", "sync", "(II)I"⟩, prog_11_method_51_code, 3, some .int, none)
def mM_joining : zM := (⟨"DepotServerModel", "joining", "(IIII)I"⟩, prog_11_method_52_code, 8, some .int, none)
def mM_join : zM := (⟨"DepotServerModel", "join", "(IIII)I"⟩, prog_11_method_53_code, 9, some .int, none)
def mM_digit : zM := (⟨"DepotServerModel", "digit", "(IIII)I"⟩, prog_11_method_54_code, 7, some .int, none)
def mM_clashes : zM := (⟨"DepotServerModel", "clashes", "(III)Z"⟩, prog_11_method_55_code, 5, some .boolean, none)
def mM_merged : zM := (⟨"DepotServerModel", "merged", "(III)I"⟩, prog_11_method_56_code, 5, some .int, none)
def mM_theirs : zM := (⟨"DepotServerModel", "theirs", "(II)I"⟩, prog_11_method_57_code, 3, some .int, none)
def mM_old : zM := (⟨"DepotServerModel", "old", "(II)I"⟩, prog_11_method_58_code, 4, some .int, none)
def mM_settle : zM := (⟨"DepotServerModel", "settle", "(III)V"⟩, prog_11_method_59_code, 6, none, none)
def mM_resolve : zM := (⟨"DepotServerModel", "resolve", "(III)I"⟩, prog_11_method_60_code, 7, some .int, none)
def mM_change : zM := (⟨"DepotServerModel", "change", "(II)I"⟩, prog_11_method_61_code, 5, some .int, none)
def mM_enter : zM := (⟨"DepotServerModel", "enter", "(II)V"⟩, prog_11_method_62_code, 8, none, none)
def mM_submit : zM := (⟨"DepotServerModel", "submit", "(II)I"⟩, prog_11_method_63_code, 8, some .int, none)
def mM_changes : zM := (⟨"DepotServerModel", "changes", "()I"⟩, prog_11_method_64_code, 1, some .int, none)
def mM_joins : zM := (⟨"DepotServerModel", "joins", "()I"⟩, prog_11_method_65_code, 1, some .int, none)
def mM_have : zM := (⟨"DepotServerModel", "have", "(II)I"⟩, prog_11_method_66_code, 3, some .int, none)
def mM_text : zM := (⟨"DepotServerModel", "text", "(II)I"⟩, prog_11_method_67_code, 3, some .int, none)
def mM_opened : zM := (⟨"DepotServerModel", "opened", "(III)I"⟩, prog_11_method_68_code, 5, some .int, none)
def mM_joined : zM := (⟨"DepotServerModel", "joined", "(II)I"⟩, prog_11_method_69_code, 3, some .int, none)
def mCat_init : zM := (⟨"DepotServer$Catalog", "<init>", "()V"⟩, prog_2_method_1_code, 2, none, none)
def mCat_isPathCharacter : zM := (⟨"DepotServer$Catalog", "isPathCharacter", "(C)Z"⟩, prog_2_method_2_code, 1, some .boolean, none)
def mCat_hasLine : zM := (⟨"DepotServer$Catalog", "hasLine", "(I)Z"⟩, prog_2_method_3_code, 2, some .boolean, none)
def mCat_fileFor : zM := (⟨"DepotServer$Catalog", "fileFor", "(LDepotServer$Row;)I"⟩, prog_2_method_4_code, 3, some .int, none)
def mCat_newLine : zM := (⟨"DepotServer$Catalog", "newLine", "(LDepotServer$Row;)I"⟩, prog_2_method_5_code, 2, some .int, none)
def mCat_isPath : zM := (⟨"DepotServer$Catalog", "isPath", "(LDepotServer$Row;)Z"⟩, prog_2_method_6_code, 4, some .boolean, none)
def mJou_init : zM := (⟨"DepotServer$Journal", "<init>", "()V"⟩, prog_3_method_1_code, 2, none, none)
def mJou_note : zM := (⟨"DepotServer$Journal", "note", "(LDepotServer$State;)V"⟩, prog_3_method_2_code, 2, none, none)
def mJou_lose : zM := (⟨"DepotServer$Journal", "lose", "(ILDepotServer$State;)V"⟩, prog_3_method_3_code, 3, none, none)
def mLine_init : zM := (⟨"DepotServer$Line", "<init>", "()V"⟩, prog_4_method_1_code, 1, none, none)
def mLine_isWildcard : zM := (⟨"DepotServer$Line", "isWildcard", "(C)Z"⟩, prog_4_method_2_code, 1, some .boolean, none)
def mLine_isLine : zM := (⟨"DepotServer$Line", "isLine", "(LDepotServer$Row;)Z"⟩, prog_4_method_3_code, 3, some .boolean, none)
def mLine_fill : zM := (⟨"DepotServer$Line", "fill", "(LDepotServer$Row;)V"⟩, prog_4_method_4_code, 3, none, none)
def mLine_middleOf : zM := (⟨"DepotServer$Line", "middleOf", "(LDepotServer$Row;)I"⟩, prog_4_method_5_code, 2, some .int, none)
def mLine_isSide : zM := (⟨"DepotServer$Line", "isSide", "(LDepotServer$Row;II)Z"⟩, prog_4_method_6_code, 6, some .boolean, none)
def mLine_haveSameWildcards : zM := (⟨"DepotServer$Line", "haveSameWildcards", "(LDepotServer$Row;I)Z"⟩, prog_4_method_7_code, 5, some .boolean, none)
def mLine_wildcardOf : zM := (⟨"DepotServer$Line", "wildcardOf", "(LDepotServer$Row;III)C"⟩, prog_4_method_8_code, 6, some .char, none)
def mPl_init : zM := (⟨"DepotServer$Places", "<init>", "()V"⟩, prog_5_method_1_code, 2, none, none)
def mPl_layAll : zM := (⟨"DepotServer$Places", "layAll", "(LDepotServer$State;ILDepotServer$Catalog;)V"⟩, prog_5_method_2_code, 5, none, none)
def mPl_layOne : zM := (⟨"DepotServer$Places", "layOne", "(LDepotServer$State;ILDepotServer$Catalog;I)V"⟩, prog_5_method_3_code, 8, none, none)
def mPl_isFirst : zM := (⟨"DepotServer$Places", "isFirst", "(I)Z"⟩, prog_5_method_4_code, 3, some .boolean, none)
def mPl_fits : zM := (⟨"DepotServer$Places", "fits", "(LDepotServer$Row;ILDepotServer$Row;II)Z"⟩, prog_5_method_5_code, 9, some .boolean, none)
def mPl_layBy : zM := (⟨"DepotServer$Places", "layBy", "(LDepotServer$Line;LDepotServer$Row;I)V"⟩, prog_5_method_6_code, 7, none, none)
def mRev_init : zM := (⟨"DepotServer$Revision", "<init>", "()V"⟩, prog_6_method_1_code, 1, none, none)
def mRev_init2 : zM := (⟨"DepotServer$Revision", "<init>", "(LDepotServer$Revision;IIZZ)V"⟩, prog_6_method_2_code, 6, none, none)
def mRev_find : zM := (⟨"DepotServer$Revision", "find", "(I)LDepotServer$Revision;"⟩, prog_6_method_3_code, 3, some (.object "DepotServer$Revision"), none)
def mRev_findBy : zM := (⟨"DepotServer$Revision", "findBy", "(I)LDepotServer$Revision;"⟩, prog_6_method_4_code, 3, some (.object "DepotServer$Revision"), none)
def mRev_tell : zM := (⟨"DepotServer$Revision", "tell", "(I)I"⟩, prog_6_method_5_code, 2, some .int, none)
def mRow_init : zM := (⟨"DepotServer$Row", "<init>", "(I)V"⟩, prog_7_method_1_code, 2, none, none)
def mRow_size : zM := (⟨"DepotServer$Row", "size", "()I"⟩, prog_7_method_2_code, 1, some .int, none)
def mRow_at : zM := (⟨"DepotServer$Row", "at", "(I)C"⟩, prog_7_method_3_code, 2, some .char, none)
def mRow_append : zM := (⟨"DepotServer$Row", "append", "(C)Z"⟩, prog_7_method_4_code, 2, some .boolean, none)
def mRow_clear : zM := (⟨"DepotServer$Row", "clear", "()V"⟩, prog_7_method_5_code, 1, none, none)
def mRow_appendPart : zM := (⟨"DepotServer$Row", "appendPart", "(LDepotServer$Row;II)V"⟩, prog_7_method_6_code, 5, none, none)
def mRow_same : zM := (⟨"DepotServer$Row", "same", "(LDepotServer$Row;)Z"⟩, prog_7_method_7_code, 3, some .boolean, none)
def mSta_init : zM := (⟨"DepotServer$State", "<init>", "()V"⟩, prog_8_method_1_code, 3, none, none)
def mSta_work : zM := (⟨"DepotServer$State", "work", "(II)LDepotServer$Work;"⟩, prog_8_method_2_code, 3, some (.object "DepotServer$Work"), none)
def mSta_joinedUpTo : zM := (⟨"DepotServer$State", "joinedUpTo", "(II)I"⟩, prog_8_method_3_code, 3, some .int, none)
def mSta_raiseJoined : zM := (⟨"DepotServer$State", "raiseJoined", "(III)V"⟩, prog_8_method_4_code, 5, none, none)
def mSta_copyFrom : zM := (⟨"DepotServer$State", "copyFrom", "(LDepotServer$State;)V"⟩, prog_8_method_5_code, 3, none, none)
def mWork_init : zM := (⟨"DepotServer$Work", "<init>", "()V"⟩, prog_9_method_1_code, 1, none, none)
def mWork_isOpen : zM := (⟨"DepotServer$Work", "isOpen", "()Z"⟩, prog_9_method_2_code, 1, some .boolean, none)
def mWork_isOn : zM := (⟨"DepotServer$Work", "isOn", "(I)Z"⟩, prog_9_method_3_code, 2, some .boolean, none)
def mWork_owes : zM := (⟨"DepotServer$Work", "owes", "()Z"⟩, prog_9_method_4_code, 1, some .boolean, none)
def mWork_openForAdd : zM := (⟨"DepotServer$Work", "openForAdd", "(IZI)V"⟩, prog_9_method_5_code, 4, none, none)
def mWork_openHeld : zM := (⟨"DepotServer$Work", "openHeld", "(II)V"⟩, prog_9_method_6_code, 3, none, none)
def mWork_giveCredit : zM := (⟨"DepotServer$Work", "giveCredit", "(IIZ)V"⟩, prog_9_method_7_code, 4, none, none)
def mWork_settle : zM := (⟨"DepotServer$Work", "settle", "(Z)V"⟩, prog_9_method_8_code, 2, none, none)
def mWork_close : zM := (⟨"DepotServer$Work", "close", "()V"⟩, prog_9_method_9_code, 1, none, none)
def mWork_tell : zM := (⟨"DepotServer$Work", "tell", "(I)I"⟩, prog_9_method_10_code, 2, some .int, none)
def mWork_copyFrom : zM := (⟨"DepotServer$Work", "copyFrom", "(LDepotServer$Work;)V"⟩, prog_9_method_11_code, 2, none, none)
def mLaw (z : Nat × Nat × (Nat → Int32)) : zM := (x, code, 4, some .boolean, some z)
def z0 : zM := (⟨"", "", ""⟩, ⟨#[]⟩, 0, none, none)
def zdec (c : ByteArray) : Nat → List zIns → Bool
  | _, [] => true
  | pc, i :: r => decide (decode c pc = .ok (i.1, i.2.1)) && zdec c (pc + i.2.1) r
def zoks (me : zM) : Nat → List zIns → Prop
  | _, [] => True
  | pc, i :: r => zok me pc i ∧ zoks me (pc + i.2.1) r
theorem zoks_cons {me : zM} {pc : Nat} {i : zIns} {r : List zIns} (h1 : zok me pc i) (h2 : zoks me (pc + i.2.1) r) : zoks me pc (i :: r) := ⟨h1, h2⟩
theorem zcode_of {me : zM} : ∀ {is : List zIns} {pc : Nat}, zdec me.2.1 pc is = true → zoks me pc is → zcode me pc is
  | [], _, _, _ => trivial
  | i :: r, pc, h, ho => by
    simp only [zdec, Bool.and_eq_true, decide_eq_true_eq] at h
    exact ⟨⟨h.1, ho.1⟩, zcode_of h.2 ho.2⟩
theorem kL0 : Cond.methodLink "DepotServer" 3 objectInit ∈ zT := zT_of (zT_p1 (List.mem_of_getElem? (i := 18) rfl)) rfl
theorem kN0 : zNl "DepotServer" 9 0 2 := ⟨RRow, TRow, rfl, zT_of (zT_p1 (List.mem_of_getElem? (i := 21) rfl)) rfl⟩
theorem kY0 : zYok mRow_init 1 := ⟨zT_of (zT_p1 (List.mem_of_getElem? (i := 25) rfl)) rfl, zT_of (zT_p1 (List.mem_of_getElem? (i := 2) rfl)) rfl, ⟨by decide, by decide⟩, by decide +kernel, by decide⟩
theorem kI0 : zIl "DepotServer" 11 mRow_init 1 := ⟨Or.inl (zT_of (zT_p1 (List.mem_of_getElem? (i := 23) rfl)) rfl), rfl, zT_of (zT_p1 (List.mem_of_getElem? (i := 24) rfl)) rfl, rfl, kY0⟩
theorem kP0 : zFp ⟨"DepotServer", "<init>", "()V"⟩ 14 8 0 := ⟨RD, TD, 5, rfl, by decide, Or.inr ⟨rfl, rfl, rfl, zT_of (zT_p2 (List.mem_of_getElem? (i := 9) rfl)) rfl⟩⟩
theorem kN1 : zNl "DepotServer" 18 2 4 := ⟨RCat, TCat, rfl, zT_of (zT_p1 (List.mem_of_getElem? (i := 35) rfl)) rfl⟩
theorem kY1 : zYok mCat_init 0 := ⟨zT_of (zT_p1 (List.mem_of_getElem? (i := 39) rfl)) rfl, zT_of (zT_p1 (List.mem_of_getElem? (i := 3) rfl)) rfl, ⟨by decide, by decide⟩, by decide +kernel, by decide⟩
theorem kI1 : zIl "DepotServer" 20 mCat_init 0 := ⟨Or.inl (zT_of (zT_p1 (List.mem_of_getElem? (i := 37) rfl)) rfl), rfl, zT_of (zT_p1 (List.mem_of_getElem? (i := 38) rfl)) rfl, rfl, kY1⟩
theorem kP1 : zFp ⟨"DepotServer", "<init>", "()V"⟩ 21 8 1 := ⟨RD, TD, 5, rfl, by decide, Or.inr ⟨rfl, rfl, rfl, zT_of (zT_p2 (List.mem_of_getElem? (i := 10) rfl)) rfl⟩⟩
theorem kN2 : zNl "DepotServer" 25 3 4 := ⟨RPl, TPl, rfl, zT_of (zT_p1 (List.mem_of_getElem? (i := 83) rfl)) rfl⟩
theorem kY2 : zYok mPl_init 0 := ⟨zT_of (zT_p1 (List.mem_of_getElem? (i := 87) rfl)) rfl, zT_of (zT_p1 (List.mem_of_getElem? (i := 5) rfl)) rfl, ⟨by decide, by decide⟩, by decide +kernel, by decide⟩
theorem kI2 : zIl "DepotServer" 27 mPl_init 0 := ⟨Or.inl (zT_of (zT_p1 (List.mem_of_getElem? (i := 85) rfl)) rfl), rfl, zT_of (zT_p1 (List.mem_of_getElem? (i := 86) rfl)) rfl, rfl, kY2⟩
theorem kP2 : zFp ⟨"DepotServer", "<init>", "()V"⟩ 28 8 2 := ⟨RD, TD, 5, rfl, by decide, Or.inr ⟨rfl, rfl, rfl, zT_of (zT_p2 (List.mem_of_getElem? (i := 11) rfl)) rfl⟩⟩
theorem kN3 : zNl "DepotServer" 32 6 7 := ⟨RSta, TSta, rfl, zT_of (zT_p1 (List.mem_of_getElem? (i := 108) rfl)) rfl⟩
theorem kY3 : zYok mSta_init 0 := ⟨zT_of (zT_p1 (List.mem_of_getElem? (i := 112) rfl)) rfl, zT_of (zT_p1 (List.mem_of_getElem? (i := 6) rfl)) rfl, ⟨by decide, by decide⟩, by decide +kernel, by decide⟩
theorem kI3 : zIl "DepotServer" 34 mSta_init 0 := ⟨Or.inl (zT_of (zT_p1 (List.mem_of_getElem? (i := 110) rfl)) rfl), rfl, zT_of (zT_p1 (List.mem_of_getElem? (i := 111) rfl)) rfl, rfl, kY3⟩
theorem kP3 : zFp ⟨"DepotServer", "<init>", "()V"⟩ 35 8 3 := ⟨RD, TD, 5, rfl, by decide, Or.inr ⟨rfl, rfl, rfl, zT_of (zT_p2 (List.mem_of_getElem? (i := 12) rfl)) rfl⟩⟩
theorem kN4 : zNl "DepotServer" 39 7 3 := ⟨RJou, TJou, rfl, zT_of (zT_p1 (List.mem_of_getElem? (i := 228) rfl)) rfl⟩
theorem kY4 : zYok mJou_init 0 := ⟨zT_of (zT_p1 (List.mem_of_getElem? (i := 232) rfl)) rfl, zT_of (zT_p1 (List.mem_of_getElem? (i := 9) rfl)) rfl, ⟨by decide, by decide⟩, by decide +kernel, by decide⟩
theorem kI4 : zIl "DepotServer" 41 mJou_init 0 := ⟨Or.inl (zT_of (zT_p1 (List.mem_of_getElem? (i := 230) rfl)) rfl), rfl, zT_of (zT_p1 (List.mem_of_getElem? (i := 231) rfl)) rfl, rfl, kY4⟩
theorem kP4 : zFp ⟨"DepotServer", "<init>", "()V"⟩ 42 8 4 := ⟨RD, TD, 5, rfl, by decide, Or.inr ⟨rfl, rfl, rfl, zT_of (zT_p2 (List.mem_of_getElem? (i := 13) rfl)) rfl⟩⟩
theorem kF0 : zFl "DepotServer" 14 8 0 := ⟨RD, TD, 5, rfl, by decide, Or.inl (zT_of (zT_p2 (List.mem_of_getElem? (i := 9) rfl)) rfl)⟩
theorem kY5 : zYok mRow_append 1 := ⟨zT_of (zT_p2 (List.mem_of_getElem? (i := 32) rfl)) rfl, zT_of (zT_p1 (List.mem_of_getElem? (i := 2) rfl)) rfl, ⟨by decide, by decide⟩, by decide +kernel, by decide⟩
theorem kV0 : zVl "DepotServer" 46 mRow_append 1 0 := ⟨Or.inl (zT_of (zT_p2 (List.mem_of_getElem? (i := 29) rfl)) rfl), zT_of (zT_p2 (List.mem_of_getElem? (i := 30) rfl)) rfl, zT_of (zT_p2 (List.mem_of_getElem? (i := 31) rfl)) rfl, kY5, TRow, 2, rfl⟩
theorem kF1 : zFl "DepotServer" 21 8 1 := ⟨RD, TD, 5, rfl, by decide, Or.inl (zT_of (zT_p2 (List.mem_of_getElem? (i := 10) rfl)) rfl)⟩
theorem kY6 : zYok mCat_fileFor 1 := ⟨zT_of (zT_p2 (List.mem_of_getElem? (i := 40) rfl)) rfl, zT_of (zT_p1 (List.mem_of_getElem? (i := 3) rfl)) rfl, ⟨by decide, by decide⟩, by decide +kernel, by decide⟩
theorem kV1 : zVl "DepotServer" 50 mCat_fileFor 1 2 := ⟨Or.inl (zT_of (zT_p2 (List.mem_of_getElem? (i := 37) rfl)) rfl), zT_of (zT_p2 (List.mem_of_getElem? (i := 38) rfl)) rfl, zT_of (zT_p2 (List.mem_of_getElem? (i := 39) rfl)) rfl, kY6, TCat, 4, rfl⟩
theorem kY7 : zYok mRow_clear 0 := ⟨zT_of (zT_p2 (List.mem_of_getElem? (i := 68) rfl)) rfl, zT_of (zT_p1 (List.mem_of_getElem? (i := 2) rfl)) rfl, ⟨by decide, by decide⟩, by decide +kernel, by decide⟩
theorem kV2 : zVl "DepotServer" 54 mRow_clear 0 0 := ⟨Or.inl (zT_of (zT_p2 (List.mem_of_getElem? (i := 65) rfl)) rfl), zT_of (zT_p2 (List.mem_of_getElem? (i := 66) rfl)) rfl, zT_of (zT_p2 (List.mem_of_getElem? (i := 67) rfl)) rfl, kY7, TRow, 2, rfl⟩
theorem kY8 : zYok mCat_newLine 1 := ⟨zT_of (zT_p2 (List.mem_of_getElem? (i := 76) rfl)) rfl, zT_of (zT_p1 (List.mem_of_getElem? (i := 3) rfl)) rfl, ⟨by decide, by decide⟩, by decide +kernel, by decide⟩
theorem kV3 : zVl "DepotServer" 57 mCat_newLine 1 2 := ⟨Or.inl (zT_of (zT_p2 (List.mem_of_getElem? (i := 73) rfl)) rfl), zT_of (zT_p2 (List.mem_of_getElem? (i := 74) rfl)) rfl, zT_of (zT_p2 (List.mem_of_getElem? (i := 75) rfl)) rfl, kY8, TCat, 4, rfl⟩
theorem kY9 : zYok mD_isClient 1 := ⟨zT_of (zT_p2 (List.mem_of_getElem? (i := 109) rfl)) rfl, zT_of (zT_p1 (List.mem_of_getElem? (i := 1) rfl)) rfl, ⟨by decide, by decide⟩, by decide +kernel, by decide⟩
theorem kS0 : zSl "DepotServer" 60 mD_isClient 1 := ⟨Or.inl (zT_of (zT_p2 (List.mem_of_getElem? (i := 107) rfl)) rfl), zT_of (zT_p2 (List.mem_of_getElem? (i := 108) rfl)) rfl, kY9⟩
theorem kY10 : zYok mCat_hasLine 1 := ⟨zT_of (zT_p2 (List.mem_of_getElem? (i := 113) rfl)) rfl, zT_of (zT_p1 (List.mem_of_getElem? (i := 3) rfl)) rfl, ⟨by decide, by decide⟩, by decide +kernel, by decide⟩
theorem kV4 : zVl "DepotServer" 64 mCat_hasLine 1 2 := ⟨Or.inl (zT_of (zT_p2 (List.mem_of_getElem? (i := 110) rfl)) rfl), zT_of (zT_p2 (List.mem_of_getElem? (i := 111) rfl)) rfl, zT_of (zT_p2 (List.mem_of_getElem? (i := 112) rfl)) rfl, kY10, TCat, 4, rfl⟩
theorem kF2 : zFl "DepotServer" 42 8 4 := ⟨RD, TD, 5, rfl, by decide, Or.inl (zT_of (zT_p2 (List.mem_of_getElem? (i := 13) rfl)) rfl)⟩
theorem kF3 : zFl "DepotServer" 35 8 3 := ⟨RD, TD, 5, rfl, by decide, Or.inl (zT_of (zT_p2 (List.mem_of_getElem? (i := 12) rfl)) rfl)⟩
theorem kY11 : zYok mJou_note 1 := ⟨zT_of (zT_p2 (List.mem_of_getElem? (i := 117) rfl)) rfl, zT_of (zT_p1 (List.mem_of_getElem? (i := 9) rfl)) rfl, ⟨by decide, by decide⟩, by decide +kernel, by decide⟩
theorem kV5 : zVl "DepotServer" 67 mJou_note 1 7 := ⟨Or.inl (zT_of (zT_p2 (List.mem_of_getElem? (i := 114) rfl)) rfl), zT_of (zT_p2 (List.mem_of_getElem? (i := 115) rfl)) rfl, zT_of (zT_p2 (List.mem_of_getElem? (i := 116) rfl)) rfl, kY11, TJou, 3, rfl⟩
theorem kF4 : zFl "DepotServer" 71 6 0 := ⟨RSta, TSta, 7, rfl, by decide, Or.inl (zT_of (zT_p1 (List.mem_of_getElem? (i := 202) rfl)) rfl)⟩
theorem kY12 : zYok mD_isFile 1 := ⟨zT_of (zT_p2 (List.mem_of_getElem? (i := 143) rfl)) rfl, zT_of (zT_p1 (List.mem_of_getElem? (i := 1) rfl)) rfl, ⟨by decide, by decide⟩, by decide +kernel, by decide⟩
theorem kV6 : zVl "DepotServer" 75 mD_isFile 1 8 := ⟨Or.inl (zT_of (zT_p2 (List.mem_of_getElem? (i := 140) rfl)) rfl), zT_of (zT_p2 (List.mem_of_getElem? (i := 142) rfl)) rfl, zT_se (List.mem_of_getElem? (i := 0) rfl) rfl, kY12, TD, 5, rfl⟩
theorem kY13 : zYok mD_isMapped 2 := ⟨zT_of (zT_p2 (List.mem_of_getElem? (i := 147) rfl)) rfl, zT_of (zT_p1 (List.mem_of_getElem? (i := 1) rfl)) rfl, ⟨by decide, by decide⟩, by decide +kernel, by decide⟩
theorem kV7 : zVl "DepotServer" 78 mD_isMapped 2 8 := ⟨Or.inl (zT_of (zT_p2 (List.mem_of_getElem? (i := 144) rfl)) rfl), zT_of (zT_p2 (List.mem_of_getElem? (i := 146) rfl)) rfl, zT_se (List.mem_of_getElem? (i := 1) rfl) rfl, kY13, TD, 5, rfl⟩
theorem kF5 : zFl "DepotServer" 28 8 2 := ⟨RD, TD, 5, rfl, by decide, Or.inl (zT_of (zT_p2 (List.mem_of_getElem? (i := 11) rfl)) rfl)⟩
theorem kY14 : zYok mPl_layOne 4 := ⟨zT_of (zT_p2 (List.mem_of_getElem? (i := 155) rfl)) rfl, zT_of (zT_p1 (List.mem_of_getElem? (i := 5) rfl)) rfl, ⟨by decide, by decide⟩, by decide +kernel, by decide⟩
theorem kV8 : zVl "DepotServer" 82 mPl_layOne 4 3 := ⟨Or.inl (zT_of (zT_p2 (List.mem_of_getElem? (i := 180) rfl)) rfl), zT_of (zT_p2 (List.mem_of_getElem? (i := 153) rfl)) rfl, zT_of (zT_p2 (List.mem_of_getElem? (i := 154) rfl)) rfl, kY14, TPl, 4, rfl⟩
theorem kF6 : zFl "DepotServer" 86 3 1 := ⟨RPl, TPl, 4, rfl, by decide, Or.inl (zT_of (zT_p1 (List.mem_of_getElem? (i := 94) rfl)) rfl)⟩
theorem kF7 : zFl "DepotServer" 90 3 0 := ⟨RPl, TPl, 4, rfl, by decide, Or.inl (zT_of (zT_p1 (List.mem_of_getElem? (i := 92) rfl)) rfl)⟩
theorem kY15 : zYok mRow_size 0 := ⟨zT_of (zT_p2 (List.mem_of_getElem? (i := 47) rfl)) rfl, zT_of (zT_p1 (List.mem_of_getElem? (i := 2) rfl)) rfl, ⟨by decide, by decide⟩, by decide +kernel, by decide⟩
theorem kV9 : zVl "DepotServer" 94 mRow_size 0 0 := ⟨Or.inl (zT_of (zT_p2 (List.mem_of_getElem? (i := 181) rfl)) rfl), zT_of (zT_p2 (List.mem_of_getElem? (i := 45) rfl)) rfl, zT_of (zT_p2 (List.mem_of_getElem? (i := 46) rfl)) rfl, kY15, TRow, 2, rfl⟩
theorem kY16 : zYok mRow_at 1 := ⟨zT_of (zT_p2 (List.mem_of_getElem? (i := 51) rfl)) rfl, zT_of (zT_p1 (List.mem_of_getElem? (i := 2) rfl)) rfl, ⟨by decide, by decide⟩, by decide +kernel, by decide⟩
theorem kV10 : zVl "DepotServer" 98 mRow_at 1 0 := ⟨Or.inl (zT_of (zT_p2 (List.mem_of_getElem? (i := 182) rfl)) rfl), zT_of (zT_p2 (List.mem_of_getElem? (i := 49) rfl)) rfl, zT_of (zT_p2 (List.mem_of_getElem? (i := 50) rfl)) rfl, kY16, TRow, 2, rfl⟩
theorem kY17 : zYok mD_fileAt 1 := ⟨zT_of (zT_p2 (List.mem_of_getElem? (i := 190) rfl)) rfl, zT_of (zT_p1 (List.mem_of_getElem? (i := 1) rfl)) rfl, ⟨by decide, by decide⟩, by decide +kernel, by decide⟩
theorem kV11 : zVl "DepotServer" 102 mD_fileAt 1 8 := ⟨Or.inl (zT_of (zT_p2 (List.mem_of_getElem? (i := 187) rfl)) rfl), zT_of (zT_p2 (List.mem_of_getElem? (i := 189) rfl)) rfl, zT_se (List.mem_of_getElem? (i := 4) rfl) rfl, kY17, TD, 5, rfl⟩
theorem kY18 : zYok mD_isList 1 := ⟨zT_of (zT_p2 (List.mem_of_getElem? (i := 198) rfl)) rfl, zT_of (zT_p1 (List.mem_of_getElem? (i := 1) rfl)) rfl, ⟨by decide, by decide⟩, by decide +kernel, by decide⟩
theorem kS1 : zSl "DepotServer" 106 mD_isList 1 := ⟨Or.inl (zT_of (zT_p2 (List.mem_of_getElem? (i := 196) rfl)) rfl), zT_of (zT_p2 (List.mem_of_getElem? (i := 197) rfl)) rfl, kY18⟩
theorem kY19 : zYok mSta_work 2 := ⟨zT_of (zT_p2 (List.mem_of_getElem? (i := 202) rfl)) rfl, zT_of (zT_p1 (List.mem_of_getElem? (i := 6) rfl)) rfl, ⟨by decide, by decide⟩, by decide +kernel, by decide⟩
theorem kV12 : zVl "DepotServer" 109 mSta_work 2 6 := ⟨Or.inl (zT_of (zT_p2 (List.mem_of_getElem? (i := 199) rfl)) rfl), zT_of (zT_p2 (List.mem_of_getElem? (i := 200) rfl)) rfl, zT_of (zT_p2 (List.mem_of_getElem? (i := 201) rfl)) rfl, kY19, TSta, 7, rfl⟩
theorem kY20 : zYok mD_isGone 1 := ⟨zT_of (zT_p2 (List.mem_of_getElem? (i := 206) rfl)) rfl, zT_of (zT_p1 (List.mem_of_getElem? (i := 1) rfl)) rfl, ⟨by decide, by decide⟩, by decide +kernel, by decide⟩
theorem kV13 : zVl "DepotServer" 113 mD_isGone 1 8 := ⟨Or.inl (zT_of (zT_p2 (List.mem_of_getElem? (i := 203) rfl)) rfl), zT_of (zT_p2 (List.mem_of_getElem? (i := 205) rfl)) rfl, zT_se (List.mem_of_getElem? (i := 5) rfl) rfl, kY20, TD, 5, rfl⟩
theorem kF8 : zFl "DepotServer" 116 5 0 := ⟨RWork, TWork, 12, rfl, by decide, Or.inl (zT_of (zT_p1 (List.mem_of_getElem? (i := 152) rfl)) rfl)⟩
theorem kY21 : zYok mWork_isOpen 0 := ⟨zT_of (zT_p2 (List.mem_of_getElem? (i := 210) rfl)) rfl, zT_of (zT_p1 (List.mem_of_getElem? (i := 8) rfl)) rfl, ⟨by decide, by decide⟩, by decide +kernel, by decide⟩
theorem kV14 : zVl "DepotServer" 122 mWork_isOpen 0 5 := ⟨Or.inl (zT_of (zT_p2 (List.mem_of_getElem? (i := 207) rfl)) rfl), zT_of (zT_p2 (List.mem_of_getElem? (i := 208) rfl)) rfl, zT_of (zT_p2 (List.mem_of_getElem? (i := 209) rfl)) rfl, kY21, TWork, 12, rfl⟩
theorem kY22 : zYok mD_isHindered 3 := ⟨zT_of (zT_p2 (List.mem_of_getElem? (i := 214) rfl)) rfl, zT_of (zT_p1 (List.mem_of_getElem? (i := 1) rfl)) rfl, ⟨by decide, by decide⟩, by decide +kernel, by decide⟩
theorem kV15 : zVl "DepotServer" 126 mD_isHindered 3 8 := ⟨Or.inl (zT_of (zT_p2 (List.mem_of_getElem? (i := 211) rfl)) rfl), zT_of (zT_p2 (List.mem_of_getElem? (i := 213) rfl)) rfl, zT_se (List.mem_of_getElem? (i := 6) rfl) rfl, kY22, TD, 5, rfl⟩
theorem kY23 : zYok mWork_openForAdd 3 := ⟨zT_of (zT_p2 (List.mem_of_getElem? (i := 218) rfl)) rfl, zT_of (zT_p1 (List.mem_of_getElem? (i := 8) rfl)) rfl, ⟨by decide, by decide⟩, by decide +kernel, by decide⟩
theorem kV16 : zVl "DepotServer" 130 mWork_openForAdd 3 5 := ⟨Or.inl (zT_of (zT_p2 (List.mem_of_getElem? (i := 215) rfl)) rfl), zT_of (zT_p2 (List.mem_of_getElem? (i := 216) rfl)) rfl, zT_of (zT_p2 (List.mem_of_getElem? (i := 217) rfl)) rfl, kY23, TWork, 12, rfl⟩
theorem kY24 : zYok mD_openHeldFor 4 := ⟨zT_of (zT_p2 (List.mem_of_getElem? (i := 226) rfl)) rfl, zT_of (zT_p1 (List.mem_of_getElem? (i := 1) rfl)) rfl, ⟨by decide, by decide⟩, by decide +kernel, by decide⟩
theorem kV17 : zVl "DepotServer" 134 mD_openHeldFor 4 8 := ⟨Or.inl (zT_of (zT_p2 (List.mem_of_getElem? (i := 223) rfl)) rfl), zT_of (zT_p2 (List.mem_of_getElem? (i := 225) rfl)) rfl, zT_se (List.mem_of_getElem? (i := 7) rfl) rfl, kY24, TD, 5, rfl⟩
theorem kY25 : zYok mD_isOpenAt 2 := ⟨zT_of (zT_p3 (List.mem_of_getElem? (i := 2) rfl)) rfl, zT_of (zT_p1 (List.mem_of_getElem? (i := 1) rfl)) rfl, ⟨by decide, by decide⟩, by decide +kernel, by decide⟩
theorem kV18 : zVl "DepotServer" 138 mD_isOpenAt 2 8 := ⟨Or.inl (zT_of (zT_p2 (List.mem_of_getElem? (i := 239) rfl)) rfl), zT_of (zT_p3 (List.mem_of_getElem? (i := 1) rfl)) rfl, zT_se (List.mem_of_getElem? (i := 8) rfl) rfl, kY25, TD, 5, rfl⟩
theorem kF9 : zFl "DepotServer" 141 5 2 := ⟨RWork, TWork, 12, rfl, by decide, Or.inl (zT_of (zT_p1 (List.mem_of_getElem? (i := 156) rfl)) rfl)⟩
theorem kP5 {y : MethodName} (hy : y.cls = "DepotServer") : zFp y 144 5 1 := ⟨RWork, TWork, 12, rfl, by decide, Or.inl ⟨rfl, Or.inl (by rw [hy]; exact zT_of (zT_p1 (List.mem_of_getElem? (i := 154) rfl)) rfl)⟩⟩
theorem kP6 {y : MethodName} (hy : y.cls = "DepotServer") : zFp y 147 5 3 := ⟨RWork, TWork, 12, rfl, by decide, Or.inl ⟨rfl, Or.inl (by rw [hy]; exact zT_of (zT_p1 (List.mem_of_getElem? (i := 158) rfl)) rfl)⟩⟩
theorem kY26 : zYok mWork_close 0 := ⟨zT_of (zT_p3 (List.mem_of_getElem? (i := 14) rfl)) rfl, zT_of (zT_p1 (List.mem_of_getElem? (i := 8) rfl)) rfl, ⟨by decide, by decide⟩, by decide +kernel, by decide⟩
theorem kV19 : zVl "DepotServer" 150 mWork_close 0 5 := ⟨Or.inl (zT_of (zT_p3 (List.mem_of_getElem? (i := 11) rfl)) rfl), zT_of (zT_p3 (List.mem_of_getElem? (i := 12) rfl)) rfl, zT_of (zT_p3 (List.mem_of_getElem? (i := 13) rfl)) rfl, kY26, TWork, 12, rfl⟩
theorem kY27 : zYok mD_contentOf 2 := ⟨zT_of (zT_p3 (List.mem_of_getElem? (i := 18) rfl)) rfl, zT_of (zT_p1 (List.mem_of_getElem? (i := 1) rfl)) rfl, ⟨by decide, by decide⟩, by decide +kernel, by decide⟩
theorem kV20 : zVl "DepotServer" 153 mD_contentOf 2 8 := ⟨Or.inl (zT_of (zT_p3 (List.mem_of_getElem? (i := 15) rfl)) rfl), zT_of (zT_p3 (List.mem_of_getElem? (i := 17) rfl)) rfl, zT_se (List.mem_of_getElem? (i := 9) rfl) rfl, kY27, TD, 5, rfl⟩
theorem kY28 : zYok mPl_layAll 3 := ⟨zT_of (zT_p2 (List.mem_of_getElem? (i := 151) rfl)) rfl, zT_of (zT_p1 (List.mem_of_getElem? (i := 5) rfl)) rfl, ⟨by decide, by decide⟩, by decide +kernel, by decide⟩
theorem kV21 : zVl "DepotServer" 157 mPl_layAll 3 3 := ⟨Or.inl (zT_of (zT_p2 (List.mem_of_getElem? (i := 148) rfl)) rfl), zT_of (zT_p2 (List.mem_of_getElem? (i := 149) rfl)) rfl, zT_of (zT_p2 (List.mem_of_getElem? (i := 150) rfl)) rfl, kY28, TPl, 4, rfl⟩
theorem kF10 : zFl "DepotServer" 161 6 3 := ⟨RSta, TSta, 7, rfl, by decide, Or.inl (zT_of (zT_p1 (List.mem_of_getElem? (i := 208) rfl)) rfl)⟩
theorem kF11 : zFl "DepotServer" 164 2 2 := ⟨RCat, TCat, 4, rfl, by decide, Or.inl (zT_of (zT_p1 (List.mem_of_getElem? (i := 72) rfl)) rfl)⟩
theorem kY29 : zYok mD_wanted 2 := ⟨zT_of (zT_p3 (List.mem_of_getElem? (i := 30) rfl)) rfl, zT_of (zT_p1 (List.mem_of_getElem? (i := 1) rfl)) rfl, ⟨by decide, by decide⟩, by decide +kernel, by decide⟩
theorem kV22 : zVl "DepotServer" 167 mD_wanted 2 8 := ⟨Or.inl (zT_of (zT_p3 (List.mem_of_getElem? (i := 27) rfl)) rfl), zT_of (zT_p3 (List.mem_of_getElem? (i := 29) rfl)) rfl, zT_se (List.mem_of_getElem? (i := 10) rfl) rfl, kY29, TD, 5, rfl⟩
theorem kY30 : zYok mD_bring 3 := ⟨zT_of (zT_p3 (List.mem_of_getElem? (i := 38) rfl)) rfl, zT_of (zT_p1 (List.mem_of_getElem? (i := 1) rfl)) rfl, ⟨by decide, by decide⟩, by decide +kernel, by decide⟩
theorem kV23 : zVl "DepotServer" 170 mD_bring 3 8 := ⟨Or.inl (zT_of (zT_p3 (List.mem_of_getElem? (i := 35) rfl)) rfl), zT_of (zT_p3 (List.mem_of_getElem? (i := 37) rfl)) rfl, zT_se (List.mem_of_getElem? (i := 11) rfl) rfl, kY30, TD, 5, rfl⟩
theorem kY31 : zYok mD_refusalToJoin 3 := ⟨zT_of (zT_p3 (List.mem_of_getElem? (i := 46) rfl)) rfl, zT_of (zT_p1 (List.mem_of_getElem? (i := 1) rfl)) rfl, ⟨by decide, by decide⟩, by decide +kernel, by decide⟩
theorem kV24 : zVl "DepotServer" 174 mD_refusalToJoin 3 8 := ⟨Or.inl (zT_of (zT_p3 (List.mem_of_getElem? (i := 43) rfl)) rfl), zT_of (zT_p3 (List.mem_of_getElem? (i := 45) rfl)) rfl, zT_se (List.mem_of_getElem? (i := 12) rfl) rfl, kY31, TD, 5, rfl⟩
theorem kF12 : zFl "DepotServer" 178 6 1 := ⟨RSta, TSta, 7, rfl, by decide, Or.inl (zT_of (zT_p1 (List.mem_of_getElem? (i := 204) rfl)) rfl)⟩
theorem kF13 : zFl "DepotServer" 182 4 4 := ⟨RRev, TRev, 6, rfl, by decide, Or.inl (zT_of (zT_p1 (List.mem_of_getElem? (i := 131) rfl)) rfl)⟩
theorem kF14 : zFl "DepotServer" 188 4 2 := ⟨RRev, TRev, 6, rfl, by decide, Or.inl (zT_of (zT_p1 (List.mem_of_getElem? (i := 127) rfl)) rfl)⟩
theorem kF15 : zFl "DepotServer" 191 4 0 := ⟨RRev, TRev, 6, rfl, by decide, Or.inl (zT_of (zT_p1 (List.mem_of_getElem? (i := 124) rfl)) rfl)⟩
theorem kY32 : zYok mWork_giveCredit 3 := ⟨zT_of (zT_p2 (List.mem_of_getElem? (i := 132) rfl)) rfl, zT_of (zT_p1 (List.mem_of_getElem? (i := 8) rfl)) rfl, ⟨by decide, by decide⟩, by decide +kernel, by decide⟩
theorem kV25 : zVl "DepotServer" 194 mWork_giveCredit 3 5 := ⟨Or.inl (zT_of (zT_p3 (List.mem_of_getElem? (i := 51) rfl)) rfl), zT_of (zT_p2 (List.mem_of_getElem? (i := 130) rfl)) rfl, zT_of (zT_p2 (List.mem_of_getElem? (i := 131) rfl)) rfl, kY32, TWork, 12, rfl⟩
theorem kY33 : zYok mWork_openHeld 2 := ⟨zT_of (zT_p2 (List.mem_of_getElem? (i := 230) rfl)) rfl, zT_of (zT_p1 (List.mem_of_getElem? (i := 8) rfl)) rfl, ⟨by decide, by decide⟩, by decide +kernel, by decide⟩
theorem kV26 : zVl "DepotServer" 198 mWork_openHeld 2 5 := ⟨Or.inl (zT_of (zT_p2 (List.mem_of_getElem? (i := 227) rfl)) rfl), zT_of (zT_p2 (List.mem_of_getElem? (i := 228) rfl)) rfl, zT_of (zT_p2 (List.mem_of_getElem? (i := 229) rfl)) rfl, kY33, TWork, 12, rfl⟩
theorem kP7 {y : MethodName} (hy : y.cls = "DepotServer") : zFp y 202 5 7 := ⟨RWork, TWork, 12, rfl, by decide, Or.inl ⟨rfl, Or.inl (by rw [hy]; exact zT_of (zT_p1 (List.mem_of_getElem? (i := 166) rfl)) rfl)⟩⟩
theorem kP8 {y : MethodName} (hy : y.cls = "DepotServer") : zFp y 205 5 8 := ⟨RWork, TWork, 12, rfl, by decide, Or.inl ⟨rfl, Or.inl (by rw [hy]; exact zT_of (zT_p1 (List.mem_of_getElem? (i := 168) rfl)) rfl)⟩⟩
theorem kY34 : zYok mWork_owes 0 := ⟨zT_of (zT_p3 (List.mem_of_getElem? (i := 59) rfl)) rfl, zT_of (zT_p1 (List.mem_of_getElem? (i := 8) rfl)) rfl, ⟨by decide, by decide⟩, by decide +kernel, by decide⟩
theorem kV27 : zVl "DepotServer" 208 mWork_owes 0 5 := ⟨Or.inl (zT_of (zT_p3 (List.mem_of_getElem? (i := 56) rfl)) rfl), zT_of (zT_p3 (List.mem_of_getElem? (i := 57) rfl)) rfl, zT_of (zT_p3 (List.mem_of_getElem? (i := 58) rfl)) rfl, kY34, TWork, 12, rfl⟩
theorem kY35 : zYok mD_theirContent 2 := ⟨zT_of (zT_p3 (List.mem_of_getElem? (i := 63) rfl)) rfl, zT_of (zT_p1 (List.mem_of_getElem? (i := 1) rfl)) rfl, ⟨by decide, by decide⟩, by decide +kernel, by decide⟩
theorem kV28 : zVl "DepotServer" 211 mD_theirContent 2 8 := ⟨Or.inl (zT_of (zT_p3 (List.mem_of_getElem? (i := 60) rfl)) rfl), zT_of (zT_p3 (List.mem_of_getElem? (i := 62) rfl)) rfl, zT_se (List.mem_of_getElem? (i := 13) rfl) rfl, kY35, TD, 5, rfl⟩
theorem kY36 : zYok mD_mergeBase 2 := ⟨zT_of (zT_p3 (List.mem_of_getElem? (i := 67) rfl)) rfl, zT_of (zT_p1 (List.mem_of_getElem? (i := 1) rfl)) rfl, ⟨by decide, by decide⟩, by decide +kernel, by decide⟩
theorem kV29 : zVl "DepotServer" 215 mD_mergeBase 2 8 := ⟨Or.inl (zT_of (zT_p3 (List.mem_of_getElem? (i := 64) rfl)) rfl), zT_of (zT_p3 (List.mem_of_getElem? (i := 66) rfl)) rfl, zT_se (List.mem_of_getElem? (i := 14) rfl) rfl, kY36, TD, 5, rfl⟩
theorem kF16 : zFl "DepotServer" 144 5 1 := ⟨RWork, TWork, 12, rfl, by decide, Or.inl (zT_of (zT_p1 (List.mem_of_getElem? (i := 154) rfl)) rfl)⟩
theorem kY37 : zYok mD_clash 3 := ⟨zT_of (zT_p3 (List.mem_of_getElem? (i := 70) rfl)) rfl, zT_of (zT_p1 (List.mem_of_getElem? (i := 1) rfl)) rfl, ⟨by decide, by decide⟩, by decide +kernel, by decide⟩
theorem kS2 : zSl "DepotServer" 218 mD_clash 3 := ⟨Or.inl (zT_of (zT_p3 (List.mem_of_getElem? (i := 68) rfl)) rfl), zT_of (zT_p3 (List.mem_of_getElem? (i := 69) rfl)) rfl, kY37⟩
theorem kY38 : zYok mD_merged 3 := ⟨zT_of (zT_p3 (List.mem_of_getElem? (i := 73) rfl)) rfl, zT_of (zT_p1 (List.mem_of_getElem? (i := 1) rfl)) rfl, ⟨by decide, by decide⟩, by decide +kernel, by decide⟩
theorem kS3 : zSl "DepotServer" 222 mD_merged 3 := ⟨Or.inl (zT_of (zT_p3 (List.mem_of_getElem? (i := 71) rfl)) rfl), zT_of (zT_p3 (List.mem_of_getElem? (i := 72) rfl)) rfl, kY38⟩
theorem kY39 : zYok mWork_settle 1 := ⟨zT_of (zT_p3 (List.mem_of_getElem? (i := 77) rfl)) rfl, zT_of (zT_p1 (List.mem_of_getElem? (i := 8) rfl)) rfl, ⟨by decide, by decide⟩, by decide +kernel, by decide⟩
theorem kV30 : zVl "DepotServer" 225 mWork_settle 1 5 := ⟨Or.inl (zT_of (zT_p3 (List.mem_of_getElem? (i := 74) rfl)) rfl), zT_of (zT_p3 (List.mem_of_getElem? (i := 75) rfl)) rfl, zT_of (zT_p3 (List.mem_of_getElem? (i := 76) rfl)) rfl, kY39, TWork, 12, rfl⟩
theorem kY40 : zYok mD_refusalToSubmit 2 := ⟨zT_of (zT_p3 (List.mem_of_getElem? (i := 85) rfl)) rfl, zT_of (zT_p1 (List.mem_of_getElem? (i := 1) rfl)) rfl, ⟨by decide, by decide⟩, by decide +kernel, by decide⟩
theorem kV31 : zVl "DepotServer" 229 mD_refusalToSubmit 2 8 := ⟨Or.inl (zT_of (zT_p3 (List.mem_of_getElem? (i := 82) rfl)) rfl), zT_of (zT_p3 (List.mem_of_getElem? (i := 84) rfl)) rfl, zT_se (List.mem_of_getElem? (i := 15) rfl) rfl, kY40, TD, 5, rfl⟩
theorem kP9 {y : MethodName} (hy : y.cls = "DepotServer") : zFp y 161 6 3 := ⟨RSta, TSta, 7, rfl, by decide, Or.inl ⟨rfl, Or.inl (by rw [hy]; exact zT_of (zT_p1 (List.mem_of_getElem? (i := 208) rfl)) rfl)⟩⟩
theorem kY41 : zYok mWork_isOn 1 := ⟨zT_of (zT_p3 (List.mem_of_getElem? (i := 89) rfl)) rfl, zT_of (zT_p1 (List.mem_of_getElem? (i := 8) rfl)) rfl, ⟨by decide, by decide⟩, by decide +kernel, by decide⟩
theorem kV32 : zVl "DepotServer" 232 mWork_isOn 1 5 := ⟨Or.inl (zT_of (zT_p3 (List.mem_of_getElem? (i := 86) rfl)) rfl), zT_of (zT_p3 (List.mem_of_getElem? (i := 87) rfl)) rfl, zT_of (zT_p3 (List.mem_of_getElem? (i := 88) rfl)) rfl, kY41, TWork, 12, rfl⟩
theorem kY42 : zYok mD_submitFile 2 := ⟨zT_of (zT_p3 (List.mem_of_getElem? (i := 98) rfl)) rfl, zT_of (zT_p1 (List.mem_of_getElem? (i := 1) rfl)) rfl, ⟨by decide, by decide⟩, by decide +kernel, by decide⟩
theorem kV33 : zVl "DepotServer" 235 mD_submitFile 2 8 := ⟨Or.inl (zT_of (zT_p3 (List.mem_of_getElem? (i := 95) rfl)) rfl), zT_of (zT_p3 (List.mem_of_getElem? (i := 97) rfl)) rfl, zT_se (List.mem_of_getElem? (i := 17) rfl) rfl, kY42, TD, 5, rfl⟩
theorem kF17 : zFl "DepotServer" 239 7 1 := ⟨RJou, TJou, 3, rfl, by decide, Or.inl (zT_of (zT_p2 (List.mem_of_getElem? (i := 0) rfl)) rfl)⟩
theorem kY43 : zYok mJou_lose 2 := ⟨zT_of (zT_p3 (List.mem_of_getElem? (i := 117) rfl)) rfl, zT_of (zT_p1 (List.mem_of_getElem? (i := 9) rfl)) rfl, ⟨by decide, by decide⟩, by decide +kernel, by decide⟩
theorem kV34 : zVl "DepotServer" 242 mJou_lose 2 7 := ⟨Or.inl (zT_of (zT_p3 (List.mem_of_getElem? (i := 114) rfl)) rfl), zT_of (zT_p3 (List.mem_of_getElem? (i := 115) rfl)) rfl, zT_of (zT_p3 (List.mem_of_getElem? (i := 116) rfl)) rfl, kY43, TJou, 3, rfl⟩
theorem kF18 : zFl "DepotServer" 246 7 0 := ⟨RJou, TJou, 3, rfl, by decide, Or.inl (zT_of (zT_p1 (List.mem_of_getElem? (i := 238) rfl)) rfl)⟩
theorem kF19 : zFl "DepotServer" 249 6 4 := ⟨RSta, TSta, 7, rfl, by decide, Or.inl (zT_of (zT_p1 (List.mem_of_getElem? (i := 210) rfl)) rfl)⟩
theorem kY44 : zYok mRev_find 1 := ⟨zT_of (zT_p3 (List.mem_of_getElem? (i := 22) rfl)) rfl, zT_of (zT_p1 (List.mem_of_getElem? (i := 7) rfl)) rfl, ⟨by decide, by decide⟩, by decide +kernel, by decide⟩
theorem kV35 : zVl "DepotServer" 252 mRev_find 1 4 := ⟨Or.inl (zT_of (zT_p3 (List.mem_of_getElem? (i := 19) rfl)) rfl), zT_of (zT_p3 (List.mem_of_getElem? (i := 20) rfl)) rfl, zT_of (zT_p3 (List.mem_of_getElem? (i := 21) rfl)) rfl, kY44, TRev, 6, rfl⟩
theorem kY45 : zYok mRev_tell 1 := ⟨zT_of (zT_p3 (List.mem_of_getElem? (i := 141) rfl)) rfl, zT_of (zT_p1 (List.mem_of_getElem? (i := 7) rfl)) rfl, ⟨by decide, by decide⟩, by decide +kernel, by decide⟩
theorem kV36 : zVl "DepotServer" 256 mRev_tell 1 4 := ⟨Or.inl (zT_of (zT_p3 (List.mem_of_getElem? (i := 138) rfl)) rfl), zT_of (zT_p3 (List.mem_of_getElem? (i := 139) rfl)) rfl, zT_of (zT_p3 (List.mem_of_getElem? (i := 140) rfl)) rfl, kY45, TRev, 6, rfl⟩
theorem kY46 : zYok mWork_tell 1 := ⟨zT_of (zT_p3 (List.mem_of_getElem? (i := 157) rfl)) rfl, zT_of (zT_p1 (List.mem_of_getElem? (i := 8) rfl)) rfl, ⟨by decide, by decide⟩, by decide +kernel, by decide⟩
theorem kV37 : zVl "DepotServer" 259 mWork_tell 1 5 := ⟨Or.inl (zT_of (zT_p3 (List.mem_of_getElem? (i := 154) rfl)) rfl), zT_of (zT_p3 (List.mem_of_getElem? (i := 155) rfl)) rfl, zT_of (zT_p3 (List.mem_of_getElem? (i := 156) rfl)) rfl, kY46, TWork, 12, rfl⟩
theorem kY47 : zYok mSta_joinedUpTo 2 := ⟨zT_of (zT_p3 (List.mem_of_getElem? (i := 50) rfl)) rfl, zT_of (zT_p1 (List.mem_of_getElem? (i := 6) rfl)) rfl, ⟨by decide, by decide⟩, by decide +kernel, by decide⟩
theorem kV38 : zVl "DepotServer" 260 mSta_joinedUpTo 2 6 := ⟨Or.inl (zT_of (zT_p3 (List.mem_of_getElem? (i := 47) rfl)) rfl), zT_of (zT_p3 (List.mem_of_getElem? (i := 48) rfl)) rfl, zT_of (zT_p3 (List.mem_of_getElem? (i := 49) rfl)) rfl, kY47, TSta, 7, rfl⟩
theorem kY48 : zYok mPl_isFirst 1 := ⟨zT_of (zT_p2 (List.mem_of_getElem? (i := 174) rfl)) rfl, zT_of (zT_p1 (List.mem_of_getElem? (i := 5) rfl)) rfl, ⟨by decide, by decide⟩, by decide +kernel, by decide⟩
theorem kV39 : zVl "DepotServer" 263 mPl_isFirst 1 3 := ⟨Or.inl (zT_of (zT_p2 (List.mem_of_getElem? (i := 171) rfl)) rfl), zT_of (zT_p2 (List.mem_of_getElem? (i := 172) rfl)) rfl, zT_of (zT_p2 (List.mem_of_getElem? (i := 173) rfl)) rfl, kY48, TPl, 4, rfl⟩
theorem kF20 : zFl "DepotServer" 266 4 3 := ⟨RRev, TRev, 6, rfl, by decide, Or.inl (zT_of (zT_p1 (List.mem_of_getElem? (i := 129) rfl)) rfl)⟩
theorem kF21 : zFl "DepotServer" 269 5 5 := ⟨RWork, TWork, 12, rfl, by decide, Or.inl (zT_of (zT_p1 (List.mem_of_getElem? (i := 162) rfl)) rfl)⟩
theorem kY49 : zYok mRow_same 1 := ⟨zT_of (zT_p2 (List.mem_of_getElem? (i := 58) rfl)) rfl, zT_of (zT_p1 (List.mem_of_getElem? (i := 2) rfl)) rfl, ⟨by decide, by decide⟩, by decide +kernel, by decide⟩
theorem kV40 : zVl "DepotServer" 270 mRow_same 1 0 := ⟨Or.inl (zT_of (zT_p2 (List.mem_of_getElem? (i := 191) rfl)) rfl), zT_of (zT_p2 (List.mem_of_getElem? (i := 56) rfl)) rfl, zT_of (zT_p2 (List.mem_of_getElem? (i := 57) rfl)) rfl, kY49, TRow, 2, rfl⟩
theorem kF22 : zFl "DepotServer" 202 5 7 := ⟨RWork, TWork, 12, rfl, by decide, Or.inl (zT_of (zT_p1 (List.mem_of_getElem? (i := 166) rfl)) rfl)⟩
theorem kF23 : zFl "DepotServer" 274 5 9 := ⟨RWork, TWork, 12, rfl, by decide, Or.inl (zT_of (zT_p1 (List.mem_of_getElem? (i := 170) rfl)) rfl)⟩
theorem kY50 : zYok mD_isOutdated 2 := ⟨zT_of (zT_p3 (List.mem_of_getElem? (i := 94) rfl)) rfl, zT_of (zT_p1 (List.mem_of_getElem? (i := 1) rfl)) rfl, ⟨by decide, by decide⟩, by decide +kernel, by decide⟩
theorem kV41 : zVl "DepotServer" 277 mD_isOutdated 2 8 := ⟨Or.inl (zT_of (zT_p3 (List.mem_of_getElem? (i := 91) rfl)) rfl), zT_of (zT_p3 (List.mem_of_getElem? (i := 93) rfl)) rfl, zT_se (List.mem_of_getElem? (i := 16) rfl) rfl, kY50, TD, 5, rfl⟩
theorem kF24 : zFl "DepotServer" 281 6 2 := ⟨RSta, TSta, 7, rfl, by decide, Or.inl (zT_of (zT_p1 (List.mem_of_getElem? (i := 206) rfl)) rfl)⟩
theorem kF25 : zFl "DepotServer" 284 5 4 := ⟨RWork, TWork, 12, rfl, by decide, Or.inl (zT_of (zT_p1 (List.mem_of_getElem? (i := 160) rfl)) rfl)⟩
theorem kY51 : zYok mRev_findBy 1 := ⟨zT_of (zT_p3 (List.mem_of_getElem? (i := 34) rfl)) rfl, zT_of (zT_p1 (List.mem_of_getElem? (i := 7) rfl)) rfl, ⟨by decide, by decide⟩, by decide +kernel, by decide⟩
theorem kV42 : zVl "DepotServer" 287 mRev_findBy 1 4 := ⟨Or.inl (zT_of (zT_p3 (List.mem_of_getElem? (i := 31) rfl)) rfl), zT_of (zT_p3 (List.mem_of_getElem? (i := 32) rfl)) rfl, zT_of (zT_p3 (List.mem_of_getElem? (i := 33) rfl)) rfl, kY51, TRev, 6, rfl⟩
theorem kP10 {y : MethodName} (hy : y.cls = "DepotServer") : zFp y 116 5 0 := ⟨RWork, TWork, 12, rfl, by decide, Or.inl ⟨rfl, Or.inl (by rw [hy]; exact zT_of (zT_p1 (List.mem_of_getElem? (i := 152) rfl)) rfl)⟩⟩
theorem kF26 : zFl "DepotServer" 290 5 6 := ⟨RWork, TWork, 12, rfl, by decide, Or.inl (zT_of (zT_p1 (List.mem_of_getElem? (i := 164) rfl)) rfl)⟩
theorem kP11 {y : MethodName} (hy : y.cls = "DepotServer") : zFp y 290 5 6 := ⟨RWork, TWork, 12, rfl, by decide, Or.inl ⟨rfl, Or.inl (by rw [hy]; exact zT_of (zT_p1 (List.mem_of_getElem? (i := 164) rfl)) rfl)⟩⟩
theorem kF27 : zFl "DepotServer" 205 5 8 := ⟨RWork, TWork, 12, rfl, by decide, Or.inl (zT_of (zT_p1 (List.mem_of_getElem? (i := 168) rfl)) rfl)⟩
theorem kN5 : zNl "DepotServer" 183 4 6 := ⟨RRev, TRev, rfl, zT_of (zT_p3 (List.mem_of_getElem? (i := 99) rfl)) rfl⟩
theorem kY52 : zYok mRev_init2 5 := ⟨zT_of (zT_p3 (List.mem_of_getElem? (i := 102) rfl)) rfl, zT_of (zT_p1 (List.mem_of_getElem? (i := 7) rfl)) rfl, ⟨by decide, by decide⟩, by decide +kernel, by decide⟩
theorem kI5 : zIl "DepotServer" 293 mRev_init2 5 := ⟨Or.inl (zT_of (zT_p3 (List.mem_of_getElem? (i := 100) rfl)) rfl), rfl, zT_of (zT_p3 (List.mem_of_getElem? (i := 101) rfl)) rfl, rfl, kY52⟩
theorem kP12 {y : MethodName} (hy : y.cls = "DepotServer") : zFp y 281 6 2 := ⟨RSta, TSta, 7, rfl, by decide, Or.inl ⟨rfl, Or.inl (by rw [hy]; exact zT_of (zT_p1 (List.mem_of_getElem? (i := 206) rfl)) rfl)⟩⟩
theorem kP13 {y : MethodName} (hy : y.cls = "DepotServer") : zFp y 249 6 4 := ⟨RSta, TSta, 7, rfl, by decide, Or.inl ⟨rfl, Or.inl (by rw [hy]; exact zT_of (zT_p1 (List.mem_of_getElem? (i := 210) rfl)) rfl)⟩⟩
theorem kF28 : zFl "DepotServer" 296 5 10 := ⟨RWork, TWork, 12, rfl, by decide, Or.inl (zT_of (zT_p1 (List.mem_of_getElem? (i := 172) rfl)) rfl)⟩
theorem kY53 : zYok mSta_raiseJoined 3 := ⟨zT_of (zT_p3 (List.mem_of_getElem? (i := 106) rfl)) rfl, zT_of (zT_p1 (List.mem_of_getElem? (i := 6) rfl)) rfl, ⟨by decide, by decide⟩, by decide +kernel, by decide⟩
theorem kV43 : zVl "DepotServer" 299 mSta_raiseJoined 3 6 := ⟨Or.inl (zT_of (zT_p3 (List.mem_of_getElem? (i := 103) rfl)) rfl), zT_of (zT_p3 (List.mem_of_getElem? (i := 104) rfl)) rfl, zT_of (zT_p3 (List.mem_of_getElem? (i := 105) rfl)) rfl, kY53, TSta, 7, rfl⟩
theorem kF29 : zFl "DepotServer" 303 5 11 := ⟨RWork, TWork, 12, rfl, by decide, Or.inl (zT_of (zT_p1 (List.mem_of_getElem? (i := 174) rfl)) rfl)⟩
theorem kL1 : Cond.methodLink "DepotServerModel" 1 objectInit ∈ zT := zT_of (zT_p3 (List.mem_of_getElem? (i := 167) rfl)) rfl
theorem kP14 : zFp ⟨"DepotServerModel", "<init>", "()V"⟩ 7 9 1 := ⟨RM, TM, 45, rfl, by decide, Or.inr ⟨rfl, rfl, rfl, zT_of (zT_p3 (List.mem_of_getElem? (i := 169) rfl)) rfl⟩⟩
theorem kP15 : zFp ⟨"DepotServerModel", "<init>", "()V"⟩ 13 9 3 := ⟨RM, TM, 45, rfl, by decide, Or.inr ⟨rfl, rfl, rfl, zT_of (zT_p3 (List.mem_of_getElem? (i := 171) rfl)) rfl⟩⟩
theorem kP16 : zFp ⟨"DepotServerModel", "<init>", "()V"⟩ 16 9 4 := ⟨RM, TM, 45, rfl, by decide, Or.inr ⟨rfl, rfl, rfl, zT_of (zT_p3 (List.mem_of_getElem? (i := 172) rfl)) rfl⟩⟩
theorem kP17 : zFp ⟨"DepotServerModel", "<init>", "()V"⟩ 20 9 6 := ⟨RM, TM, 45, rfl, by decide, Or.inr ⟨rfl, rfl, rfl, zT_of (zT_p3 (List.mem_of_getElem? (i := 174) rfl)) rfl⟩⟩
theorem kP18 : zFp ⟨"DepotServerModel", "<init>", "()V"⟩ 23 9 7 := ⟨RM, TM, 45, rfl, by decide, Or.inr ⟨rfl, rfl, rfl, zT_of (zT_p3 (List.mem_of_getElem? (i := 175) rfl)) rfl⟩⟩
theorem kP19 : zFp ⟨"DepotServerModel", "<init>", "()V"⟩ 26 9 8 := ⟨RM, TM, 45, rfl, by decide, Or.inr ⟨rfl, rfl, rfl, zT_of (zT_p3 (List.mem_of_getElem? (i := 176) rfl)) rfl⟩⟩
theorem kP20 : zFp ⟨"DepotServerModel", "<init>", "()V"⟩ 29 9 9 := ⟨RM, TM, 45, rfl, by decide, Or.inr ⟨rfl, rfl, rfl, zT_of (zT_p3 (List.mem_of_getElem? (i := 177) rfl)) rfl⟩⟩
theorem kP21 : zFp ⟨"DepotServerModel", "<init>", "()V"⟩ 32 9 11 := ⟨RM, TM, 45, rfl, by decide, Or.inr ⟨rfl, rfl, rfl, zT_of (zT_p3 (List.mem_of_getElem? (i := 179) rfl)) rfl⟩⟩
theorem kP22 : zFp ⟨"DepotServerModel", "<init>", "()V"⟩ 35 9 12 := ⟨RM, TM, 45, rfl, by decide, Or.inr ⟨rfl, rfl, rfl, zT_of (zT_p3 (List.mem_of_getElem? (i := 180) rfl)) rfl⟩⟩
theorem kP23 : zFp ⟨"DepotServerModel", "<init>", "()V"⟩ 38 9 13 := ⟨RM, TM, 45, rfl, by decide, Or.inr ⟨rfl, rfl, rfl, zT_of (zT_p3 (List.mem_of_getElem? (i := 181) rfl)) rfl⟩⟩
theorem kP24 : zFp ⟨"DepotServerModel", "<init>", "()V"⟩ 42 9 14 := ⟨RM, TM, 45, rfl, by decide, Or.inr ⟨rfl, rfl, rfl, zT_of (zT_p3 (List.mem_of_getElem? (i := 182) rfl)) rfl⟩⟩
theorem kP25 : zFp ⟨"DepotServerModel", "<init>", "()V"⟩ 45 9 15 := ⟨RM, TM, 45, rfl, by decide, Or.inr ⟨rfl, rfl, rfl, zT_of (zT_p3 (List.mem_of_getElem? (i := 183) rfl)) rfl⟩⟩
theorem kP26 : zFp ⟨"DepotServerModel", "<init>", "()V"⟩ 48 9 18 := ⟨RM, TM, 45, rfl, by decide, Or.inr ⟨rfl, rfl, rfl, zT_of (zT_p3 (List.mem_of_getElem? (i := 186) rfl)) rfl⟩⟩
theorem kP27 : zFp ⟨"DepotServerModel", "<init>", "()V"⟩ 51 9 19 := ⟨RM, TM, 45, rfl, by decide, Or.inr ⟨rfl, rfl, rfl, zT_of (zT_p3 (List.mem_of_getElem? (i := 187) rfl)) rfl⟩⟩
theorem kP28 : zFp ⟨"DepotServerModel", "<init>", "()V"⟩ 54 9 20 := ⟨RM, TM, 45, rfl, by decide, Or.inr ⟨rfl, rfl, rfl, zT_of (zT_p3 (List.mem_of_getElem? (i := 188) rfl)) rfl⟩⟩
theorem kP29 : zFp ⟨"DepotServerModel", "<init>", "()V"⟩ 57 9 21 := ⟨RM, TM, 45, rfl, by decide, Or.inr ⟨rfl, rfl, rfl, zT_of (zT_p3 (List.mem_of_getElem? (i := 189) rfl)) rfl⟩⟩
theorem kP30 : zFp ⟨"DepotServerModel", "<init>", "()V"⟩ 60 9 22 := ⟨RM, TM, 45, rfl, by decide, Or.inr ⟨rfl, rfl, rfl, zT_of (zT_p3 (List.mem_of_getElem? (i := 190) rfl)) rfl⟩⟩
theorem kP31 : zFp ⟨"DepotServerModel", "<init>", "()V"⟩ 63 9 23 := ⟨RM, TM, 45, rfl, by decide, Or.inr ⟨rfl, rfl, rfl, zT_of (zT_p3 (List.mem_of_getElem? (i := 191) rfl)) rfl⟩⟩
theorem kP32 : zFp ⟨"DepotServerModel", "<init>", "()V"⟩ 66 9 25 := ⟨RM, TM, 45, rfl, by decide, Or.inr ⟨rfl, rfl, rfl, zT_of (zT_p3 (List.mem_of_getElem? (i := 193) rfl)) rfl⟩⟩
theorem kP33 : zFp ⟨"DepotServerModel", "<init>", "()V"⟩ 69 9 26 := ⟨RM, TM, 45, rfl, by decide, Or.inr ⟨rfl, rfl, rfl, zT_of (zT_p3 (List.mem_of_getElem? (i := 194) rfl)) rfl⟩⟩
theorem kP34 : zFp ⟨"DepotServerModel", "<init>", "()V"⟩ 72 9 27 := ⟨RM, TM, 45, rfl, by decide, Or.inr ⟨rfl, rfl, rfl, zT_of (zT_p3 (List.mem_of_getElem? (i := 195) rfl)) rfl⟩⟩
theorem kP35 : zFp ⟨"DepotServerModel", "<init>", "()V"⟩ 75 9 28 := ⟨RM, TM, 45, rfl, by decide, Or.inr ⟨rfl, rfl, rfl, zT_of (zT_p3 (List.mem_of_getElem? (i := 196) rfl)) rfl⟩⟩
theorem kP36 : zFp ⟨"DepotServerModel", "<init>", "()V"⟩ 78 9 29 := ⟨RM, TM, 45, rfl, by decide, Or.inr ⟨rfl, rfl, rfl, zT_of (zT_p3 (List.mem_of_getElem? (i := 197) rfl)) rfl⟩⟩
theorem kP37 : zFp ⟨"DepotServerModel", "<init>", "()V"⟩ 81 9 32 := ⟨RM, TM, 45, rfl, by decide, Or.inr ⟨rfl, rfl, rfl, zT_of (zT_p3 (List.mem_of_getElem? (i := 200) rfl)) rfl⟩⟩
theorem kP38 : zFp ⟨"DepotServerModel", "<init>", "()V"⟩ 84 9 33 := ⟨RM, TM, 45, rfl, by decide, Or.inr ⟨rfl, rfl, rfl, zT_of (zT_p3 (List.mem_of_getElem? (i := 201) rfl)) rfl⟩⟩
theorem kP39 : zFp ⟨"DepotServerModel", "<init>", "()V"⟩ 87 9 34 := ⟨RM, TM, 45, rfl, by decide, Or.inr ⟨rfl, rfl, rfl, zT_of (zT_p3 (List.mem_of_getElem? (i := 202) rfl)) rfl⟩⟩
theorem kP40 : zFp ⟨"DepotServerModel", "<init>", "()V"⟩ 90 9 35 := ⟨RM, TM, 45, rfl, by decide, Or.inr ⟨rfl, rfl, rfl, zT_of (zT_p3 (List.mem_of_getElem? (i := 203) rfl)) rfl⟩⟩
theorem kP41 : zFp ⟨"DepotServerModel", "<init>", "()V"⟩ 93 9 36 := ⟨RM, TM, 45, rfl, by decide, Or.inr ⟨rfl, rfl, rfl, zT_of (zT_p3 (List.mem_of_getElem? (i := 204) rfl)) rfl⟩⟩
theorem kP42 : zFp ⟨"DepotServerModel", "<init>", "()V"⟩ 96 9 37 := ⟨RM, TM, 45, rfl, by decide, Or.inr ⟨rfl, rfl, rfl, zT_of (zT_p3 (List.mem_of_getElem? (i := 205) rfl)) rfl⟩⟩
theorem kP43 : zFp ⟨"DepotServerModel", "<init>", "()V"⟩ 99 9 38 := ⟨RM, TM, 45, rfl, by decide, Or.inr ⟨rfl, rfl, rfl, zT_of (zT_p3 (List.mem_of_getElem? (i := 206) rfl)) rfl⟩⟩
theorem kP44 : zFp ⟨"DepotServerModel", "<init>", "()V"⟩ 102 9 39 := ⟨RM, TM, 45, rfl, by decide, Or.inr ⟨rfl, rfl, rfl, zT_of (zT_p3 (List.mem_of_getElem? (i := 207) rfl)) rfl⟩⟩
theorem kP45 : zFp ⟨"DepotServerModel", "<init>", "()V"⟩ 105 9 40 := ⟨RM, TM, 45, rfl, by decide, Or.inr ⟨rfl, rfl, rfl, zT_of (zT_p3 (List.mem_of_getElem? (i := 208) rfl)) rfl⟩⟩
theorem kP46 : zFp ⟨"DepotServerModel", "<init>", "()V"⟩ 108 9 41 := ⟨RM, TM, 45, rfl, by decide, Or.inr ⟨rfl, rfl, rfl, zT_of (zT_p3 (List.mem_of_getElem? (i := 209) rfl)) rfl⟩⟩
theorem kP47 : zFp ⟨"DepotServerModel", "<init>", "()V"⟩ 111 9 42 := ⟨RM, TM, 45, rfl, by decide, Or.inr ⟨rfl, rfl, rfl, zT_of (zT_p3 (List.mem_of_getElem? (i := 210) rfl)) rfl⟩⟩
theorem kP48 : zFp ⟨"DepotServerModel", "<init>", "()V"⟩ 114 9 43 := ⟨RM, TM, 45, rfl, by decide, Or.inr ⟨rfl, rfl, rfl, zT_of (zT_p3 (List.mem_of_getElem? (i := 211) rfl)) rfl⟩⟩
theorem kP49 : zFp ⟨"DepotServerModel", "<init>", "()V"⟩ 117 9 44 := ⟨RM, TM, 45, rfl, by decide, Or.inr ⟨rfl, rfl, rfl, zT_of (zT_p3 (List.mem_of_getElem? (i := 212) rfl)) rfl⟩⟩
theorem kF30 : zFl "DepotServerModel" 120 9 2 := ⟨RM, TM, 45, rfl, by decide, Or.inl (zT_of (zT_p3 (List.mem_of_getElem? (i := 170) rfl)) rfl)⟩
theorem kY54 : zYok mM_isClient 1 := ⟨zT_of (zT_p4 (List.mem_of_getElem? (i := 112) rfl)) rfl, zT_of (zT_p1 (List.mem_of_getElem? (i := 10) rfl)) rfl, ⟨by decide, by decide⟩, by decide +kernel, by decide⟩
theorem kS4 : zSl "DepotServerModel" 124 mM_isClient 1 := ⟨Or.inl (zT_of (zT_p4 (List.mem_of_getElem? (i := 110) rfl)) rfl), zT_of (zT_p4 (List.mem_of_getElem? (i := 111) rfl)) rfl, kY54⟩
theorem kY55 : zYok mM_isFile 1 := ⟨zT_of (zT_p4 (List.mem_of_getElem? (i := 116) rfl)) rfl, zT_of (zT_p1 (List.mem_of_getElem? (i := 10) rfl)) rfl, ⟨by decide, by decide⟩, by decide +kernel, by decide⟩
theorem kV44 : zVl "DepotServerModel" 128 mM_isFile 1 9 := ⟨Or.inl (zT_of (zT_p4 (List.mem_of_getElem? (i := 113) rfl)) rfl), zT_of (zT_p4 (List.mem_of_getElem? (i := 115) rfl)) rfl, zT_se (List.mem_of_getElem? (i := 24) rfl) rfl, kY55, TM, 45, rfl⟩
theorem kF31 : zFl "DepotServerModel" 131 9 0 := ⟨RM, TM, 45, rfl, by decide, Or.inl (zT_of (zT_p3 (List.mem_of_getElem? (i := 168) rfl)) rfl)⟩
theorem kF32 : zFl "DepotServerModel" 7 9 1 := ⟨RM, TM, 45, rfl, by decide, Or.inl (zT_of (zT_p3 (List.mem_of_getElem? (i := 169) rfl)) rfl)⟩
theorem kP50 {y : MethodName} (hy : y.cls = "DepotServerModel") : zFp y 131 9 0 := ⟨RM, TM, 45, rfl, by decide, Or.inl ⟨rfl, Or.inl (by rw [hy]; exact zT_of (zT_p3 (List.mem_of_getElem? (i := 168) rfl)) rfl)⟩⟩
theorem kY56 : zYok mM_letter 1 := ⟨zT_of (zT_p4 (List.mem_of_getElem? (i := 78) rfl)) rfl, zT_of (zT_p1 (List.mem_of_getElem? (i := 10) rfl)) rfl, ⟨by decide, by decide⟩, by decide +kernel, by decide⟩
theorem kS5 : zSl "DepotServerModel" 134 mM_letter 1 := ⟨Or.inl (zT_of (zT_p4 (List.mem_of_getElem? (i := 76) rfl)) rfl), zT_of (zT_p4 (List.mem_of_getElem? (i := 77) rfl)) rfl, kY56⟩
theorem kF33 : zFl "DepotServerModel" 16 9 4 := ⟨RM, TM, 45, rfl, by decide, Or.inl (zT_of (zT_p3 (List.mem_of_getElem? (i := 172) rfl)) rfl)⟩
theorem kF34 : zFl "DepotServerModel" 13 9 3 := ⟨RM, TM, 45, rfl, by decide, Or.inl (zT_of (zT_p3 (List.mem_of_getElem? (i := 171) rfl)) rfl)⟩
theorem kY57 : zYok mM_isPath 0 := ⟨zT_of (zT_p4 (List.mem_of_getElem? (i := 75) rfl)) rfl, zT_of (zT_p1 (List.mem_of_getElem? (i := 10) rfl)) rfl, ⟨by decide, by decide⟩, by decide +kernel, by decide⟩
theorem kV45 : zVl "DepotServerModel" 138 mM_isPath 0 9 := ⟨Or.inl (zT_of (zT_p4 (List.mem_of_getElem? (i := 72) rfl)) rfl), zT_of (zT_p4 (List.mem_of_getElem? (i := 74) rfl)) rfl, zT_se (List.mem_of_getElem? (i := 18) rfl) rfl, kY57, TM, 45, rfl⟩
theorem kY58 : zYok mM_isPathOf 1 := ⟨zT_of (zT_p4 (List.mem_of_getElem? (i := 82) rfl)) rfl, zT_of (zT_p1 (List.mem_of_getElem? (i := 10) rfl)) rfl, ⟨by decide, by decide⟩, by decide +kernel, by decide⟩
theorem kV46 : zVl "DepotServerModel" 142 mM_isPathOf 1 9 := ⟨Or.inl (zT_of (zT_p4 (List.mem_of_getElem? (i := 79) rfl)) rfl), zT_of (zT_p4 (List.mem_of_getElem? (i := 81) rfl)) rfl, zT_se (List.mem_of_getElem? (i := 19) rfl) rfl, kY58, TM, 45, rfl⟩
theorem kP51 {y : MethodName} (hy : y.cls = "DepotServerModel") : zFp y 120 9 2 := ⟨RM, TM, 45, rfl, by decide, Or.inl ⟨rfl, Or.inl (by rw [hy]; exact zT_of (zT_p3 (List.mem_of_getElem? (i := 170) rfl)) rfl)⟩⟩
theorem kP52 {y : MethodName} (hy : y.cls = "DepotServerModel") : zFp y 145 9 10 := ⟨RM, TM, 45, rfl, by decide, Or.inl ⟨rfl, Or.inl (by rw [hy]; exact zT_of (zT_p3 (List.mem_of_getElem? (i := 178) rfl)) rfl)⟩⟩
theorem kY59 : zYok mM_wild 1 := ⟨zT_of (zT_p4 (List.mem_of_getElem? (i := 97) rfl)) rfl, zT_of (zT_p1 (List.mem_of_getElem? (i := 10) rfl)) rfl, ⟨by decide, by decide⟩, by decide +kernel, by decide⟩
theorem kS6 : zSl "DepotServerModel" 149 mM_wild 1 := ⟨Or.inl (zT_of (zT_p4 (List.mem_of_getElem? (i := 95) rfl)) rfl), zT_of (zT_p4 (List.mem_of_getElem? (i := 96) rfl)) rfl, kY59⟩
theorem kY60 : zYok mM_wildcards 2 := ⟨zT_of (zT_p4 (List.mem_of_getElem? (i := 94) rfl)) rfl, zT_of (zT_p1 (List.mem_of_getElem? (i := 10) rfl)) rfl, ⟨by decide, by decide⟩, by decide +kernel, by decide⟩
theorem kV47 : zVl "DepotServerModel" 152 mM_wildcards 2 9 := ⟨Or.inl (zT_of (zT_p4 (List.mem_of_getElem? (i := 91) rfl)) rfl), zT_of (zT_p4 (List.mem_of_getElem? (i := 93) rfl)) rfl, zT_se (List.mem_of_getElem? (i := 21) rfl) rfl, kY60, TM, 45, rfl⟩
theorem kY61 : zYok mM_wildcard 3 := ⟨zT_of (zT_p4 (List.mem_of_getElem? (i := 101) rfl)) rfl, zT_of (zT_p1 (List.mem_of_getElem? (i := 10) rfl)) rfl, ⟨by decide, by decide⟩, by decide +kernel, by decide⟩
theorem kV48 : zVl "DepotServerModel" 156 mM_wildcard 3 9 := ⟨Or.inl (zT_of (zT_p4 (List.mem_of_getElem? (i := 98) rfl)) rfl), zT_of (zT_p4 (List.mem_of_getElem? (i := 100) rfl)) rfl, zT_se (List.mem_of_getElem? (i := 22) rfl) rfl, kY61, TM, 45, rfl⟩
theorem kY62 : zYok mM_split 0 := ⟨zT_of (zT_p4 (List.mem_of_getElem? (i := 90) rfl)) rfl, zT_of (zT_p1 (List.mem_of_getElem? (i := 10) rfl)) rfl, ⟨by decide, by decide⟩, by decide +kernel, by decide⟩
theorem kV49 : zVl "DepotServerModel" 160 mM_split 0 9 := ⟨Or.inl (zT_of (zT_p4 (List.mem_of_getElem? (i := 87) rfl)) rfl), zT_of (zT_p4 (List.mem_of_getElem? (i := 89) rfl)) rfl, zT_se (List.mem_of_getElem? (i := 20) rfl) rfl, kY62, TM, 45, rfl⟩
theorem kF35 : zFl "DepotServerModel" 164 9 5 := ⟨RM, TM, 45, rfl, by decide, Or.inl (zT_of (zT_p3 (List.mem_of_getElem? (i := 173) rfl)) rfl)⟩
theorem kF36 : zFl "DepotServerModel" 26 9 8 := ⟨RM, TM, 45, rfl, by decide, Or.inl (zT_of (zT_p3 (List.mem_of_getElem? (i := 176) rfl)) rfl)⟩
theorem kF37 : zFl "DepotServerModel" 20 9 6 := ⟨RM, TM, 45, rfl, by decide, Or.inl (zT_of (zT_p3 (List.mem_of_getElem? (i := 174) rfl)) rfl)⟩
theorem kF38 : zFl "DepotServerModel" 29 9 9 := ⟨RM, TM, 45, rfl, by decide, Or.inl (zT_of (zT_p3 (List.mem_of_getElem? (i := 177) rfl)) rfl)⟩
theorem kF39 : zFl "DepotServerModel" 23 9 7 := ⟨RM, TM, 45, rfl, by decide, Or.inl (zT_of (zT_p3 (List.mem_of_getElem? (i := 175) rfl)) rfl)⟩
theorem kP53 {y : MethodName} (hy : y.cls = "DepotServerModel") : zFp y 164 9 5 := ⟨RM, TM, 45, rfl, by decide, Or.inl ⟨rfl, Or.inl (by rw [hy]; exact zT_of (zT_p3 (List.mem_of_getElem? (i := 173) rfl)) rfl)⟩⟩
theorem kF40 : zFl "DepotServerModel" 42 9 14 := ⟨RM, TM, 45, rfl, by decide, Or.inl (zT_of (zT_p3 (List.mem_of_getElem? (i := 182) rfl)) rfl)⟩
theorem kF41 : zFl "DepotServerModel" 45 9 15 := ⟨RM, TM, 45, rfl, by decide, Or.inl (zT_of (zT_p3 (List.mem_of_getElem? (i := 183) rfl)) rfl)⟩
theorem kY63 : zYok mM_fitsWith 4 := ⟨zT_of (zT_p4 (List.mem_of_getElem? (i := 132) rfl)) rfl, zT_of (zT_p1 (List.mem_of_getElem? (i := 10) rfl)) rfl, ⟨by decide, by decide⟩, by decide +kernel, by decide⟩
theorem kV50 : zVl "DepotServerModel" 167 mM_fitsWith 4 9 := ⟨Or.inl (zT_of (zT_p4 (List.mem_of_getElem? (i := 129) rfl)) rfl), zT_of (zT_p4 (List.mem_of_getElem? (i := 131) rfl)) rfl, zT_se (List.mem_of_getElem? (i := 28) rfl) rfl, kY63, TM, 45, rfl⟩
theorem kF42 : zFl "DepotServerModel" 63 9 23 := ⟨RM, TM, 45, rfl, by decide, Or.inl (zT_of (zT_p3 (List.mem_of_getElem? (i := 191) rfl)) rfl)⟩
theorem kY64 : zYok mM_fits 2 := ⟨zT_of (zT_p4 (List.mem_of_getElem? (i := 128) rfl)) rfl, zT_of (zT_p1 (List.mem_of_getElem? (i := 10) rfl)) rfl, ⟨by decide, by decide⟩, by decide +kernel, by decide⟩
theorem kV51 : zVl "DepotServerModel" 171 mM_fits 2 9 := ⟨Or.inl (zT_of (zT_p4 (List.mem_of_getElem? (i := 125) rfl)) rfl), zT_of (zT_p4 (List.mem_of_getElem? (i := 127) rfl)) rfl, zT_se (List.mem_of_getElem? (i := 27) rfl) rfl, kY64, TM, 45, rfl⟩
theorem kF43 : zFl "DepotServerModel" 35 9 12 := ⟨RM, TM, 45, rfl, by decide, Or.inl (zT_of (zT_p3 (List.mem_of_getElem? (i := 180) rfl)) rfl)⟩
theorem kF44 : zFl "DepotServerModel" 32 9 11 := ⟨RM, TM, 45, rfl, by decide, Or.inl (zT_of (zT_p3 (List.mem_of_getElem? (i := 179) rfl)) rfl)⟩
theorem kF45 : zFl "DepotServerModel" 145 9 10 := ⟨RM, TM, 45, rfl, by decide, Or.inl (zT_of (zT_p3 (List.mem_of_getElem? (i := 178) rfl)) rfl)⟩
theorem kY65 : zYok mM_find 2 := ⟨zT_of (zT_p4 (List.mem_of_getElem? (i := 124) rfl)) rfl, zT_of (zT_p1 (List.mem_of_getElem? (i := 10) rfl)) rfl, ⟨by decide, by decide⟩, by decide +kernel, by decide⟩
theorem kV52 : zVl "DepotServerModel" 175 mM_find 2 9 := ⟨Or.inl (zT_of (zT_p4 (List.mem_of_getElem? (i := 121) rfl)) rfl), zT_of (zT_p4 (List.mem_of_getElem? (i := 123) rfl)) rfl, zT_se (List.mem_of_getElem? (i := 26) rfl) rfl, kY65, TM, 45, rfl⟩
theorem kF46 : zFl "DepotServerModel" 38 9 13 := ⟨RM, TM, 45, rfl, by decide, Or.inl (zT_of (zT_p3 (List.mem_of_getElem? (i := 181) rfl)) rfl)⟩
theorem kY66 : zYok mM_samePlace 2 := ⟨zT_of (zT_p4 (List.mem_of_getElem? (i := 136) rfl)) rfl, zT_of (zT_p1 (List.mem_of_getElem? (i := 10) rfl)) rfl, ⟨by decide, by decide⟩, by decide +kernel, by decide⟩
theorem kV53 : zVl "DepotServerModel" 179 mM_samePlace 2 9 := ⟨Or.inl (zT_of (zT_p4 (List.mem_of_getElem? (i := 133) rfl)) rfl), zT_of (zT_p4 (List.mem_of_getElem? (i := 135) rfl)) rfl, zT_se (List.mem_of_getElem? (i := 29) rfl) rfl, kY66, TM, 45, rfl⟩
theorem kY67 : zYok mM_both 2 := ⟨zT_of (zT_p4 (List.mem_of_getElem? (i := 109) rfl)) rfl, zT_of (zT_p1 (List.mem_of_getElem? (i := 10) rfl)) rfl, ⟨by decide, by decide⟩, by decide +kernel, by decide⟩
theorem kV54 : zVl "DepotServerModel" 182 mM_both 2 9 := ⟨Or.inl (zT_of (zT_p4 (List.mem_of_getElem? (i := 106) rfl)) rfl), zT_of (zT_p4 (List.mem_of_getElem? (i := 108) rfl)) rfl, zT_se (List.mem_of_getElem? (i := 23) rfl) rfl, kY67, TM, 45, rfl⟩
theorem kY68 : zYok mM_look 0 := ⟨zT_of (zT_p4 (List.mem_of_getElem? (i := 120) rfl)) rfl, zT_of (zT_p1 (List.mem_of_getElem? (i := 10) rfl)) rfl, ⟨by decide, by decide⟩, by decide +kernel, by decide⟩
theorem kV55 : zVl "DepotServerModel" 185 mM_look 0 9 := ⟨Or.inl (zT_of (zT_p4 (List.mem_of_getElem? (i := 117) rfl)) rfl), zT_of (zT_p4 (List.mem_of_getElem? (i := 119) rfl)) rfl, zT_se (List.mem_of_getElem? (i := 25) rfl) rfl, kY68, TM, 45, rfl⟩
theorem kF47 : zFl "DepotServerModel" 188 9 24 := ⟨RM, TM, 45, rfl, by decide, Or.inl (zT_of (zT_p3 (List.mem_of_getElem? (i := 192) rfl)) rfl)⟩
theorem kF48 : zFl "DepotServerModel" 66 9 25 := ⟨RM, TM, 45, rfl, by decide, Or.inl (zT_of (zT_p3 (List.mem_of_getElem? (i := 193) rfl)) rfl)⟩
theorem kY69 : zYok mM_row 2 := ⟨zT_of (zT_p4 (List.mem_of_getElem? (i := 156) rfl)) rfl, zT_of (zT_p1 (List.mem_of_getElem? (i := 10) rfl)) rfl, ⟨by decide, by decide⟩, by decide +kernel, by decide⟩
theorem kV56 : zVl "DepotServerModel" 191 mM_row 2 9 := ⟨Or.inl (zT_of (zT_p4 (List.mem_of_getElem? (i := 153) rfl)) rfl), zT_of (zT_p4 (List.mem_of_getElem? (i := 155) rfl)) rfl, zT_se (List.mem_of_getElem? (i := 30) rfl) rfl, kY69, TM, 45, rfl⟩
theorem kF49 : zFl "DepotServerModel" 75 9 28 := ⟨RM, TM, 45, rfl, by decide, Or.inl (zT_of (zT_p3 (List.mem_of_getElem? (i := 196) rfl)) rfl)⟩
theorem kF50 : zFl "DepotServerModel" 72 9 27 := ⟨RM, TM, 45, rfl, by decide, Or.inl (zT_of (zT_p3 (List.mem_of_getElem? (i := 195) rfl)) rfl)⟩
theorem kY70 : zYok mM_head 1 := ⟨zT_of (zT_p4 (List.mem_of_getElem? (i := 148) rfl)) rfl, zT_of (zT_p1 (List.mem_of_getElem? (i := 10) rfl)) rfl, ⟨by decide, by decide⟩, by decide +kernel, by decide⟩
theorem kV57 : zVl "DepotServerModel" 194 mM_head 1 9 := ⟨Or.inl (zT_of (zT_p4 (List.mem_of_getElem? (i := 202) rfl)) rfl), zT_of (zT_p4 (List.mem_of_getElem? (i := 146) rfl)) rfl, zT_of (zT_p4 (List.mem_of_getElem? (i := 147) rfl)) rfl, kY70, TM, 45, rfl⟩
theorem kF51 : zFl "DepotServerModel" 78 9 29 := ⟨RM, TM, 45, rfl, by decide, Or.inl (zT_of (zT_p3 (List.mem_of_getElem? (i := 197) rfl)) rfl)⟩
theorem kF52 : zFl "DepotServerModel" 69 9 26 := ⟨RM, TM, 45, rfl, by decide, Or.inl (zT_of (zT_p3 (List.mem_of_getElem? (i := 194) rfl)) rfl)⟩
theorem kY71 : zYok mM_content 2 := ⟨zT_of (zT_p4 (List.mem_of_getElem? (i := 160) rfl)) rfl, zT_of (zT_p1 (List.mem_of_getElem? (i := 10) rfl)) rfl, ⟨by decide, by decide⟩, by decide +kernel, by decide⟩
theorem kV58 : zVl "DepotServerModel" 198 mM_content 2 9 := ⟨Or.inl (zT_of (zT_p4 (List.mem_of_getElem? (i := 157) rfl)) rfl), zT_of (zT_p4 (List.mem_of_getElem? (i := 159) rfl)) rfl, zT_se (List.mem_of_getElem? (i := 31) rfl) rfl, kY71, TM, 45, rfl⟩
theorem kF53 : zFl "DepotServerModel" 90 9 35 := ⟨RM, TM, 45, rfl, by decide, Or.inl (zT_of (zT_p3 (List.mem_of_getElem? (i := 203) rfl)) rfl)⟩
theorem kY72 : zYok mM_exclusive 1 := ⟨zT_of (zT_p4 (List.mem_of_getElem? (i := 210) rfl)) rfl, zT_of (zT_p1 (List.mem_of_getElem? (i := 10) rfl)) rfl, ⟨by decide, by decide⟩, by decide +kernel, by decide⟩
theorem kV59 : zVl "DepotServerModel" 201 mM_exclusive 1 9 := ⟨Or.inl (zT_of (zT_p4 (List.mem_of_getElem? (i := 207) rfl)) rfl), zT_of (zT_p4 (List.mem_of_getElem? (i := 209) rfl)) rfl, zT_se (List.mem_of_getElem? (i := 42) rfl) rfl, kY72, TM, 45, rfl⟩
theorem kF54 : zFl "DepotServerModel" 99 9 38 := ⟨RM, TM, 45, rfl, by decide, Or.inl (zT_of (zT_p3 (List.mem_of_getElem? (i := 206) rfl)) rfl)⟩
theorem kF55 : zFl "DepotServerModel" 48 9 18 := ⟨RM, TM, 45, rfl, by decide, Or.inl (zT_of (zT_p3 (List.mem_of_getElem? (i := 186) rfl)) rfl)⟩
theorem kF56 : zFl "DepotServerModel" 204 9 16 := ⟨RM, TM, 45, rfl, by decide, Or.inl (zT_of (zT_p3 (List.mem_of_getElem? (i := 184) rfl)) rfl)⟩
theorem kF57 : zFl "DepotServerModel" 51 9 19 := ⟨RM, TM, 45, rfl, by decide, Or.inl (zT_of (zT_p3 (List.mem_of_getElem? (i := 187) rfl)) rfl)⟩
theorem kF58 : zFl "DepotServerModel" 54 9 20 := ⟨RM, TM, 45, rfl, by decide, Or.inl (zT_of (zT_p3 (List.mem_of_getElem? (i := 188) rfl)) rfl)⟩
theorem kF59 : zFl "DepotServerModel" 57 9 21 := ⟨RM, TM, 45, rfl, by decide, Or.inl (zT_of (zT_p3 (List.mem_of_getElem? (i := 189) rfl)) rfl)⟩
theorem kF60 : zFl "DepotServerModel" 60 9 22 := ⟨RM, TM, 45, rfl, by decide, Or.inl (zT_of (zT_p3 (List.mem_of_getElem? (i := 190) rfl)) rfl)⟩
theorem kP54 {y : MethodName} (hy : y.cls = "DepotServerModel") : zFp y 204 9 16 := ⟨RM, TM, 45, rfl, by decide, Or.inl ⟨rfl, Or.inl (by rw [hy]; exact zT_of (zT_p3 (List.mem_of_getElem? (i := 184) rfl)) rfl)⟩⟩
theorem kF61 : zFl "DepotServerModel" 207 9 17 := ⟨RM, TM, 45, rfl, by decide, Or.inl (zT_of (zT_p3 (List.mem_of_getElem? (i := 185) rfl)) rfl)⟩
theorem kP55 {y : MethodName} (hy : y.cls = "DepotServerModel") : zFp y 207 9 17 := ⟨RM, TM, 45, rfl, by decide, Or.inl ⟨rfl, Or.inl (by rw [hy]; exact zT_of (zT_p3 (List.mem_of_getElem? (i := 185) rfl)) rfl)⟩⟩
theorem kY73 : zYok mM_set 3 := ⟨zT_of (zT_p4 (List.mem_of_getElem? (i := 180) rfl)) rfl, zT_of (zT_p1 (List.mem_of_getElem? (i := 10) rfl)) rfl, ⟨by decide, by decide⟩, by decide +kernel, by decide⟩
theorem kV60 : zVl "DepotServerModel" 210 mM_set 3 9 := ⟨Or.inl (zT_of (zT_p4 (List.mem_of_getElem? (i := 177) rfl)) rfl), zT_of (zT_p4 (List.mem_of_getElem? (i := 179) rfl)) rfl, zT_se (List.mem_of_getElem? (i := 35) rfl) rfl, kY73, TM, 45, rfl⟩
theorem kY74 : zYok mM_opn 4 := ⟨zT_of (zT_p4 (List.mem_of_getElem? (i := 184) rfl)) rfl, zT_of (zT_p1 (List.mem_of_getElem? (i := 10) rfl)) rfl, ⟨by decide, by decide⟩, by decide +kernel, by decide⟩
theorem kV61 : zVl "DepotServerModel" 214 mM_opn 4 9 := ⟨Or.inl (zT_of (zT_p4 (List.mem_of_getElem? (i := 181) rfl)) rfl), zT_of (zT_p4 (List.mem_of_getElem? (i := 183) rfl)) rfl, zT_se (List.mem_of_getElem? (i := 36) rfl) rfl, kY74, TM, 45, rfl⟩
theorem kF62 : zFl "DepotServerModel" 87 9 34 := ⟨RM, TM, 45, rfl, by decide, Or.inl (zT_of (zT_p3 (List.mem_of_getElem? (i := 202) rfl)) rfl)⟩
theorem kF63 : zFl "DepotServerModel" 93 9 36 := ⟨RM, TM, 45, rfl, by decide, Or.inl (zT_of (zT_p3 (List.mem_of_getElem? (i := 204) rfl)) rfl)⟩
theorem kY75 : zYok mM_close 2 := ⟨zT_of (zT_p4 (List.mem_of_getElem? (i := 188) rfl)) rfl, zT_of (zT_p1 (List.mem_of_getElem? (i := 10) rfl)) rfl, ⟨by decide, by decide⟩, by decide +kernel, by decide⟩
theorem kV62 : zVl "DepotServerModel" 218 mM_close 2 9 := ⟨Or.inl (zT_of (zT_p4 (List.mem_of_getElem? (i := 185) rfl)) rfl), zT_of (zT_p4 (List.mem_of_getElem? (i := 187) rfl)) rfl, zT_se (List.mem_of_getElem? (i := 37) rfl) rfl, kY75, TM, 45, rfl⟩
theorem kY76 : zYok mM_bring 2 := ⟨zT_of (zT_p4 (List.mem_of_getElem? (i := 192) rfl)) rfl, zT_of (zT_p1 (List.mem_of_getElem? (i := 10) rfl)) rfl, ⟨by decide, by decide⟩, by decide +kernel, by decide⟩
theorem kV63 : zVl "DepotServerModel" 221 mM_bring 2 9 := ⟨Or.inl (zT_of (zT_p4 (List.mem_of_getElem? (i := 189) rfl)) rfl), zT_of (zT_p4 (List.mem_of_getElem? (i := 191) rfl)) rfl, zT_se (List.mem_of_getElem? (i := 38) rfl) rfl, kY76, TM, 45, rfl⟩
theorem kY77 : zYok mM_joining 4 := ⟨zT_of (zT_p4 (List.mem_of_getElem? (i := 201) rfl)) rfl, zT_of (zT_p1 (List.mem_of_getElem? (i := 10) rfl)) rfl, ⟨by decide, by decide⟩, by decide +kernel, by decide⟩
theorem kV64 : zVl "DepotServerModel" 224 mM_joining 4 9 := ⟨Or.inl (zT_of (zT_p4 (List.mem_of_getElem? (i := 198) rfl)) rfl), zT_of (zT_p4 (List.mem_of_getElem? (i := 200) rfl)) rfl, zT_se (List.mem_of_getElem? (i := 40) rfl) rfl, kY77, TM, 45, rfl⟩
theorem kY78 : zYok mM_settle 3 := ⟨zT_of (zT_p4 (List.mem_of_getElem? (i := 214) rfl)) rfl, zT_of (zT_p1 (List.mem_of_getElem? (i := 10) rfl)) rfl, ⟨by decide, by decide⟩, by decide +kernel, by decide⟩
theorem kV65 : zVl "DepotServerModel" 228 mM_settle 3 9 := ⟨Or.inl (zT_of (zT_p4 (List.mem_of_getElem? (i := 211) rfl)) rfl), zT_of (zT_p4 (List.mem_of_getElem? (i := 213) rfl)) rfl, zT_se (List.mem_of_getElem? (i := 43) rfl) rfl, kY78, TM, 45, rfl⟩
theorem kY79 : zYok mM_change 2 := ⟨zT_of (zT_p4 (List.mem_of_getElem? (i := 232) rfl)) rfl, zT_of (zT_p1 (List.mem_of_getElem? (i := 10) rfl)) rfl, ⟨by decide, by decide⟩, by decide +kernel, by decide⟩
theorem kV66 : zVl "DepotServerModel" 231 mM_change 2 9 := ⟨Or.inl (zT_of (zT_p4 (List.mem_of_getElem? (i := 229) rfl)) rfl), zT_of (zT_p4 (List.mem_of_getElem? (i := 231) rfl)) rfl, zT_se (List.mem_of_getElem? (i := 46) rfl) rfl, kY79, TM, 45, rfl⟩
theorem kY80 : zYok mM_empty 0 := ⟨zT_of (zT_p4 (List.mem_of_getElem? (i := 168) rfl)) rfl, zT_of (zT_p1 (List.mem_of_getElem? (i := 10) rfl)) rfl, ⟨by decide, by decide⟩, by decide +kernel, by decide⟩
theorem kV67 : zVl "DepotServerModel" 234 mM_empty 0 9 := ⟨Or.inl (zT_of (zT_p4 (List.mem_of_getElem? (i := 165) rfl)) rfl), zT_of (zT_p4 (List.mem_of_getElem? (i := 167) rfl)) rfl, zT_se (List.mem_of_getElem? (i := 32) rfl) rfl, kY80, TM, 45, rfl⟩
theorem kY81 : zYok mM_again 1 := ⟨zT_of (zT_p4 (List.mem_of_getElem? (i := 176) rfl)) rfl, zT_of (zT_p1 (List.mem_of_getElem? (i := 10) rfl)) rfl, ⟨by decide, by decide⟩, by decide +kernel, by decide⟩
theorem kV68 : zVl "DepotServerModel" 237 mM_again 1 9 := ⟨Or.inl (zT_of (zT_p4 (List.mem_of_getElem? (i := 173) rfl)) rfl), zT_of (zT_p4 (List.mem_of_getElem? (i := 175) rfl)) rfl, zT_se (List.mem_of_getElem? (i := 34) rfl) rfl, kY81, TM, 45, rfl⟩
theorem kP56 {y : MethodName} (hy : y.cls = "DepotServerModel") : zFp y 188 9 24 := ⟨RM, TM, 45, rfl, by decide, Or.inl ⟨rfl, Or.inl (by rw [hy]; exact zT_of (zT_p3 (List.mem_of_getElem? (i := 192) rfl)) rfl)⟩⟩
theorem kP57 {y : MethodName} (hy : y.cls = "DepotServerModel") : zFp y 241 9 30 := ⟨RM, TM, 45, rfl, by decide, Or.inl ⟨rfl, Or.inl (by rw [hy]; exact zT_of (zT_p3 (List.mem_of_getElem? (i := 198) rfl)) rfl)⟩⟩
theorem kP58 {y : MethodName} (hy : y.cls = "DepotServerModel") : zFp y 244 9 31 := ⟨RM, TM, 45, rfl, by decide, Or.inl ⟨rfl, Or.inl (by rw [hy]; exact zT_of (zT_p3 (List.mem_of_getElem? (i := 199) rfl)) rfl)⟩⟩
theorem kF64 : zFl "DepotServerModel" 81 9 32 := ⟨RM, TM, 45, rfl, by decide, Or.inl (zT_of (zT_p3 (List.mem_of_getElem? (i := 200) rfl)) rfl)⟩
theorem kF65 : zFl "DepotServerModel" 84 9 33 := ⟨RM, TM, 45, rfl, by decide, Or.inl (zT_of (zT_p3 (List.mem_of_getElem? (i := 201) rfl)) rfl)⟩
theorem kY82 : zYok mM_forget 1 := ⟨zT_of (zT_p4 (List.mem_of_getElem? (i := 172) rfl)) rfl, zT_of (zT_p1 (List.mem_of_getElem? (i := 10) rfl)) rfl, ⟨by decide, by decide⟩, by decide +kernel, by decide⟩
theorem kV69 : zVl "DepotServerModel" 247 mM_forget 1 9 := ⟨Or.inl (zT_of (zT_p4 (List.mem_of_getElem? (i := 169) rfl)) rfl), zT_of (zT_p4 (List.mem_of_getElem? (i := 171) rfl)) rfl, zT_se (List.mem_of_getElem? (i := 33) rfl) rfl, kY82, TM, 45, rfl⟩
theorem kF66 : zFl "DepotServerModel" 102 9 39 := ⟨RM, TM, 45, rfl, by decide, Or.inl (zT_of (zT_p3 (List.mem_of_getElem? (i := 207) rfl)) rfl)⟩
theorem kF67 : zFl "DepotServerModel" 105 9 40 := ⟨RM, TM, 45, rfl, by decide, Or.inl (zT_of (zT_p3 (List.mem_of_getElem? (i := 208) rfl)) rfl)⟩
theorem kF68 : zFl "DepotServerModel" 111 9 42 := ⟨RM, TM, 45, rfl, by decide, Or.inl (zT_of (zT_p3 (List.mem_of_getElem? (i := 210) rfl)) rfl)⟩
theorem kY83 : zYok mM_note 5 := ⟨zT_of (zT_p5 (List.mem_of_getElem? (i := 8) rfl)) rfl, zT_of (zT_p1 (List.mem_of_getElem? (i := 10) rfl)) rfl, ⟨by decide, by decide⟩, by decide +kernel, by decide⟩
theorem kV70 : zVl "DepotServerModel" 250 mM_note 5 9 := ⟨Or.inl (zT_of (zT_p5 (List.mem_of_getElem? (i := 5) rfl)) rfl), zT_of (zT_p5 (List.mem_of_getElem? (i := 7) rfl)) rfl, zT_se (List.mem_of_getElem? (i := 48) rfl) rfl, kY83, TM, 45, rfl⟩
theorem kF69 : zFl "DepotServerModel" 96 9 37 := ⟨RM, TM, 45, rfl, by decide, Or.inl (zT_of (zT_p3 (List.mem_of_getElem? (i := 205) rfl)) rfl)⟩
theorem kY84 : zYok mM_isList 1 := ⟨zT_of (zT_p5 (List.mem_of_getElem? (i := 15) rfl)) rfl, zT_of (zT_p1 (List.mem_of_getElem? (i := 10) rfl)) rfl, ⟨by decide, by decide⟩, by decide +kernel, by decide⟩
theorem kS7 : zSl "DepotServerModel" 254 mM_isList 1 := ⟨Or.inl (zT_of (zT_p5 (List.mem_of_getElem? (i := 13) rfl)) rfl), zT_of (zT_p5 (List.mem_of_getElem? (i := 14) rfl)) rfl, kY84⟩
theorem kY85 : zYok mM_mapped 2 := ⟨zT_of (zT_p4 (List.mem_of_getElem? (i := 105) rfl)) rfl, zT_of (zT_p1 (List.mem_of_getElem? (i := 10) rfl)) rfl, ⟨by decide, by decide⟩, by decide +kernel, by decide⟩
theorem kV71 : zVl "DepotServerModel" 257 mM_mapped 2 9 := ⟨Or.inl (zT_of (zT_p4 (List.mem_of_getElem? (i := 197) rfl)) rfl), zT_of (zT_p4 (List.mem_of_getElem? (i := 103) rfl)) rfl, zT_of (zT_p4 (List.mem_of_getElem? (i := 104) rfl)) rfl, kY85, TM, 45, rfl⟩
theorem kY86 : zYok mM_gone 1 := ⟨zT_of (zT_p4 (List.mem_of_getElem? (i := 206) rfl)) rfl, zT_of (zT_p1 (List.mem_of_getElem? (i := 10) rfl)) rfl, ⟨by decide, by decide⟩, by decide +kernel, by decide⟩
theorem kV72 : zVl "DepotServerModel" 260 mM_gone 1 9 := ⟨Or.inl (zT_of (zT_p4 (List.mem_of_getElem? (i := 203) rfl)) rfl), zT_of (zT_p4 (List.mem_of_getElem? (i := 205) rfl)) rfl, zT_se (List.mem_of_getElem? (i := 41) rfl) rfl, kY86, TM, 45, rfl⟩
theorem kY87 : zYok mM_hindered 3 := ⟨zT_of (zT_p5 (List.mem_of_getElem? (i := 19) rfl)) rfl, zT_of (zT_p1 (List.mem_of_getElem? (i := 10) rfl)) rfl, ⟨by decide, by decide⟩, by decide +kernel, by decide⟩
theorem kV73 : zVl "DepotServerModel" 263 mM_hindered 3 9 := ⟨Or.inl (zT_of (zT_p5 (List.mem_of_getElem? (i := 16) rfl)) rfl), zT_of (zT_p5 (List.mem_of_getElem? (i := 18) rfl)) rfl, zT_se (List.mem_of_getElem? (i := 49) rfl) rfl, kY87, TM, 45, rfl⟩
theorem kY88 : zYok mM_begin 4 := ⟨zT_of (zT_p5 (List.mem_of_getElem? (i := 27) rfl)) rfl, zT_of (zT_p1 (List.mem_of_getElem? (i := 10) rfl)) rfl, ⟨by decide, by decide⟩, by decide +kernel, by decide⟩
theorem kV74 : zVl "DepotServerModel" 267 mM_begin 4 9 := ⟨Or.inl (zT_of (zT_p5 (List.mem_of_getElem? (i := 24) rfl)) rfl), zT_of (zT_p5 (List.mem_of_getElem? (i := 26) rfl)) rfl, zT_se (List.mem_of_getElem? (i := 50) rfl) rfl, kY88, TM, 45, rfl⟩
theorem kY89 : zYok mM_isOpen 2 := ⟨zT_of (zT_p5 (List.mem_of_getElem? (i := 39) rfl)) rfl, zT_of (zT_p1 (List.mem_of_getElem? (i := 10) rfl)) rfl, ⟨by decide, by decide⟩, by decide +kernel, by decide⟩
theorem kV75 : zVl "DepotServerModel" 270 mM_isOpen 2 9 := ⟨Or.inl (zT_of (zT_p5 (List.mem_of_getElem? (i := 36) rfl)) rfl), zT_of (zT_p5 (List.mem_of_getElem? (i := 38) rfl)) rfl, zT_se (List.mem_of_getElem? (i := 51) rfl) rfl, kY89, TM, 45, rfl⟩
theorem kY90 : zYok mM_wanted 3 := ⟨zT_of (zT_p4 (List.mem_of_getElem? (i := 196) rfl)) rfl, zT_of (zT_p1 (List.mem_of_getElem? (i := 10) rfl)) rfl, ⟨by decide, by decide⟩, by decide +kernel, by decide⟩
theorem kV76 : zVl "DepotServerModel" 273 mM_wanted 3 9 := ⟨Or.inl (zT_of (zT_p4 (List.mem_of_getElem? (i := 193) rfl)) rfl), zT_of (zT_p4 (List.mem_of_getElem? (i := 195) rfl)) rfl, zT_se (List.mem_of_getElem? (i := 39) rfl) rfl, kY90, TM, 45, rfl⟩
theorem kF70 : zFl "DepotServerModel" 114 9 43 := ⟨RM, TM, 45, rfl, by decide, Or.inl (zT_of (zT_p3 (List.mem_of_getElem? (i := 211) rfl)) rfl)⟩
theorem kF71 : zFl "DepotServerModel" 117 9 44 := ⟨RM, TM, 45, rfl, by decide, Or.inl (zT_of (zT_p3 (List.mem_of_getElem? (i := 212) rfl)) rfl)⟩
theorem kF72 : zFl "DepotServerModel" 108 9 41 := ⟨RM, TM, 45, rfl, by decide, Or.inl (zT_of (zT_p3 (List.mem_of_getElem? (i := 209) rfl)) rfl)⟩
theorem kY91 : zYok mM_digit 4 := ⟨zT_of (zT_p4 (List.mem_of_getElem? (i := 228) rfl)) rfl, zT_of (zT_p1 (List.mem_of_getElem? (i := 10) rfl)) rfl, ⟨by decide, by decide⟩, by decide +kernel, by decide⟩
theorem kS8 : zSl "DepotServerModel" 277 mM_digit 4 := ⟨Or.inl (zT_of (zT_p4 (List.mem_of_getElem? (i := 226) rfl)) rfl), zT_of (zT_p4 (List.mem_of_getElem? (i := 227) rfl)) rfl, kY91⟩
theorem kY92 : zYok mM_theirs 2 := ⟨zT_of (zT_p4 (List.mem_of_getElem? (i := 218) rfl)) rfl, zT_of (zT_p1 (List.mem_of_getElem? (i := 10) rfl)) rfl, ⟨by decide, by decide⟩, by decide +kernel, by decide⟩
theorem kV77 : zVl "DepotServerModel" 280 mM_theirs 2 9 := ⟨Or.inl (zT_of (zT_p4 (List.mem_of_getElem? (i := 215) rfl)) rfl), zT_of (zT_p4 (List.mem_of_getElem? (i := 217) rfl)) rfl, zT_se (List.mem_of_getElem? (i := 44) rfl) rfl, kY92, TM, 45, rfl⟩
theorem kY93 : zYok mM_old 2 := ⟨zT_of (zT_p4 (List.mem_of_getElem? (i := 222) rfl)) rfl, zT_of (zT_p1 (List.mem_of_getElem? (i := 10) rfl)) rfl, ⟨by decide, by decide⟩, by decide +kernel, by decide⟩
theorem kV78 : zVl "DepotServerModel" 283 mM_old 2 9 := ⟨Or.inl (zT_of (zT_p4 (List.mem_of_getElem? (i := 219) rfl)) rfl), zT_of (zT_p4 (List.mem_of_getElem? (i := 221) rfl)) rfl, zT_se (List.mem_of_getElem? (i := 45) rfl) rfl, kY93, TM, 45, rfl⟩
theorem kY94 : zYok mM_merged 3 := ⟨zT_of (zT_p4 (List.mem_of_getElem? (i := 225) rfl)) rfl, zT_of (zT_p1 (List.mem_of_getElem? (i := 10) rfl)) rfl, ⟨by decide, by decide⟩, by decide +kernel, by decide⟩
theorem kS9 : zSl "DepotServerModel" 286 mM_merged 3 := ⟨Or.inl (zT_of (zT_p4 (List.mem_of_getElem? (i := 223) rfl)) rfl), zT_of (zT_p4 (List.mem_of_getElem? (i := 224) rfl)) rfl, kY94⟩
theorem kY95 : zYok mM_clashes 3 := ⟨zT_of (zT_p5 (List.mem_of_getElem? (i := 62) rfl)) rfl, zT_of (zT_p1 (List.mem_of_getElem? (i := 10) rfl)) rfl, ⟨by decide, by decide⟩, by decide +kernel, by decide⟩
theorem kS10 : zSl "DepotServerModel" 289 mM_clashes 3 := ⟨Or.inl (zT_of (zT_p5 (List.mem_of_getElem? (i := 60) rfl)) rfl), zT_of (zT_p5 (List.mem_of_getElem? (i := 61) rfl)) rfl, kY95⟩
theorem kF73 : zFl "DepotServerModel" 241 9 30 := ⟨RM, TM, 45, rfl, by decide, Or.inl (zT_of (zT_p3 (List.mem_of_getElem? (i := 198) rfl)) rfl)⟩
theorem kY96 : zYok mM_enter 2 := ⟨zT_of (zT_p4 (List.mem_of_getElem? (i := 236) rfl)) rfl, zT_of (zT_p1 (List.mem_of_getElem? (i := 10) rfl)) rfl, ⟨by decide, by decide⟩, by decide +kernel, by decide⟩
theorem kV79 : zVl "DepotServerModel" 293 mM_enter 2 9 := ⟨Or.inl (zT_of (zT_p4 (List.mem_of_getElem? (i := 233) rfl)) rfl), zT_of (zT_p4 (List.mem_of_getElem? (i := 235) rfl)) rfl, zT_se (List.mem_of_getElem? (i := 47) rfl) rfl, kY96, TM, 45, rfl⟩
theorem kF74 : zFl "DepotServerModel" 244 9 31 := ⟨RM, TM, 45, rfl, by decide, Or.inl (zT_of (zT_p3 (List.mem_of_getElem? (i := 199) rfl)) rfl)⟩
theorem kL2 : Cond.methodLink "DepotServer$Catalog" 3 objectInit ∈ zT := zT_of (zT_p1 (List.mem_of_getElem? (i := 40) rfl)) rfl
theorem kA0 : zAl "DepotServer$Catalog" 9 3 := ⟨"DepotServer$Row", rfl, by decide, zT_of (zT_p1 (List.mem_of_getElem? (i := 41) rfl)) rfl⟩
theorem kP59 : zFp ⟨"DepotServer$Catalog", "<init>", "()V"⟩ 11 2 0 := ⟨RCat, TCat, 4, rfl, by decide, Or.inr ⟨rfl, rfl, rfl, zT_of (zT_p1 (List.mem_of_getElem? (i := 66) rfl)) rfl⟩⟩
theorem kA1 : zAl "DepotServer$Catalog" 17 4 := ⟨"DepotServer$Line", rfl, by decide, zT_of (zT_p1 (List.mem_of_getElem? (i := 43) rfl)) rfl⟩
theorem kP60 : zFp ⟨"DepotServer$Catalog", "<init>", "()V"⟩ 19 2 1 := ⟨RCat, TCat, 4, rfl, by decide, Or.inr ⟨rfl, rfl, rfl, zT_of (zT_p1 (List.mem_of_getElem? (i := 68) rfl)) rfl⟩⟩
theorem kF75 : zFl "DepotServer$Catalog" 11 2 0 := ⟨RCat, TCat, 4, rfl, by decide, Or.inl (zT_of (zT_p1 (List.mem_of_getElem? (i := 66) rfl)) rfl)⟩
theorem kN6 : zNl "DepotServer$Catalog" 9 0 2 := ⟨RRow, TRow, rfl, zT_of (zT_p1 (List.mem_of_getElem? (i := 41) rfl)) rfl⟩
theorem kI6 : zIl "DepotServer$Catalog" 23 mRow_init 1 := ⟨Or.inl (zT_of (zT_p1 (List.mem_of_getElem? (i := 45) rfl)) rfl), rfl, zT_of (zT_p1 (List.mem_of_getElem? (i := 24) rfl)) rfl, rfl, kY0⟩
theorem kF76 : zFl "DepotServer$Catalog" 19 2 1 := ⟨RCat, TCat, 4, rfl, by decide, Or.inl (zT_of (zT_p1 (List.mem_of_getElem? (i := 68) rfl)) rfl)⟩
theorem kN7 : zNl "DepotServer$Catalog" 17 1 3 := ⟨RLine, TLine, rfl, zT_of (zT_p1 (List.mem_of_getElem? (i := 43) rfl)) rfl⟩
theorem kY97 : zYok mLine_init 0 := ⟨zT_of (zT_p1 (List.mem_of_getElem? (i := 49) rfl)) rfl, zT_of (zT_p1 (List.mem_of_getElem? (i := 4) rfl)) rfl, ⟨by decide, by decide⟩, by decide +kernel, by decide⟩
theorem kI7 : zIl "DepotServer$Catalog" 26 mLine_init 0 := ⟨Or.inr ⟨"DepotServer", by decide⟩, rfl, zT_of (zT_p1 (List.mem_of_getElem? (i := 48) rfl)) rfl, rfl, kY97⟩
theorem kF77 : zFl "DepotServer$Catalog" 27 2 3 := ⟨RCat, TCat, 4, rfl, by decide, Or.inl (zT_of (zT_p1 (List.mem_of_getElem? (i := 73) rfl)) rfl)⟩
theorem kY98 : zYok mCat_isPath 1 := ⟨zT_of (zT_p2 (List.mem_of_getElem? (i := 43) rfl)) rfl, zT_of (zT_p1 (List.mem_of_getElem? (i := 3) rfl)) rfl, ⟨by decide, by decide⟩, by decide +kernel, by decide⟩
theorem kS11 : zSl "DepotServer$Catalog" 31 mCat_isPath 1 := ⟨Or.inl (zT_of (zT_p2 (List.mem_of_getElem? (i := 41) rfl)) rfl), zT_of (zT_p2 (List.mem_of_getElem? (i := 42) rfl)) rfl, kY98⟩
theorem kF78 : zFl "DepotServer$Catalog" 35 2 2 := ⟨RCat, TCat, 4, rfl, by decide, Or.inl (zT_of (zT_p1 (List.mem_of_getElem? (i := 71) rfl)) rfl)⟩
theorem kV80 : zVl "DepotServer$Catalog" 38 mRow_same 1 0 := ⟨Or.inl (zT_of (zT_p2 (List.mem_of_getElem? (i := 55) rfl)) rfl), zT_of (zT_p2 (List.mem_of_getElem? (i := 56) rfl)) rfl, zT_of (zT_p2 (List.mem_of_getElem? (i := 57) rfl)) rfl, kY49, TRow, 2, rfl⟩
theorem kV81 : zVl "DepotServer$Catalog" 41 mRow_size 0 0 := ⟨Or.inl (zT_of (zT_p2 (List.mem_of_getElem? (i := 44) rfl)) rfl), zT_of (zT_p2 (List.mem_of_getElem? (i := 45) rfl)) rfl, zT_of (zT_p2 (List.mem_of_getElem? (i := 46) rfl)) rfl, kY15, TRow, 2, rfl⟩
theorem kY99 : zYok mRow_appendPart 3 := ⟨zT_of (zT_p2 (List.mem_of_getElem? (i := 62) rfl)) rfl, zT_of (zT_p1 (List.mem_of_getElem? (i := 2) rfl)) rfl, ⟨by decide, by decide⟩, by decide +kernel, by decide⟩
theorem kV82 : zVl "DepotServer$Catalog" 45 mRow_appendPart 3 0 := ⟨Or.inl (zT_of (zT_p2 (List.mem_of_getElem? (i := 59) rfl)) rfl), zT_of (zT_p2 (List.mem_of_getElem? (i := 60) rfl)) rfl, zT_of (zT_p2 (List.mem_of_getElem? (i := 61) rfl)) rfl, kY99, TRow, 2, rfl⟩
theorem kP61 {y : MethodName} (hy : y.cls = "DepotServer$Catalog") : zFp y 35 2 2 := ⟨RCat, TCat, 4, rfl, by decide, Or.inl ⟨rfl, Or.inl (by rw [hy]; exact zT_of (zT_p1 (List.mem_of_getElem? (i := 71) rfl)) rfl)⟩⟩
theorem kY100 : zYok mLine_isLine 1 := ⟨zT_of (zT_p2 (List.mem_of_getElem? (i := 79) rfl)) rfl, zT_of (zT_p1 (List.mem_of_getElem? (i := 4) rfl)) rfl, ⟨by decide, by decide⟩, by decide +kernel, by decide⟩
theorem kS12 : zSl "DepotServer$Catalog" 49 mLine_isLine 1 := ⟨Or.inl (zT_of (zT_p2 (List.mem_of_getElem? (i := 77) rfl)) rfl), zT_of (zT_p2 (List.mem_of_getElem? (i := 78) rfl)) rfl, kY100⟩
theorem kY101 : zYok mLine_fill 1 := ⟨zT_of (zT_p2 (List.mem_of_getElem? (i := 101) rfl)) rfl, zT_of (zT_p1 (List.mem_of_getElem? (i := 4) rfl)) rfl, ⟨by decide, by decide⟩, by decide +kernel, by decide⟩
theorem kV83 : zVl "DepotServer$Catalog" 52 mLine_fill 1 1 := ⟨Or.inl (zT_of (zT_p2 (List.mem_of_getElem? (i := 98) rfl)) rfl), zT_of (zT_p2 (List.mem_of_getElem? (i := 99) rfl)) rfl, zT_of (zT_p2 (List.mem_of_getElem? (i := 100) rfl)) rfl, kY101, TLine, 3, rfl⟩
theorem kP62 {y : MethodName} (hy : y.cls = "DepotServer$Catalog") : zFp y 27 2 3 := ⟨RCat, TCat, 4, rfl, by decide, Or.inl ⟨rfl, Or.inl (by rw [hy]; exact zT_of (zT_p1 (List.mem_of_getElem? (i := 73) rfl)) rfl)⟩⟩
theorem kV84 : zVl "DepotServer$Catalog" 56 mRow_at 1 0 := ⟨Or.inl (zT_of (zT_p2 (List.mem_of_getElem? (i := 48) rfl)) rfl), zT_of (zT_p2 (List.mem_of_getElem? (i := 49) rfl)) rfl, zT_of (zT_p2 (List.mem_of_getElem? (i := 50) rfl)) rfl, kY16, TRow, 2, rfl⟩
theorem kY102 : zYok mCat_isPathCharacter 1 := ⟨zT_of (zT_p2 (List.mem_of_getElem? (i := 54) rfl)) rfl, zT_of (zT_p1 (List.mem_of_getElem? (i := 3) rfl)) rfl, ⟨by decide, by decide⟩, by decide +kernel, by decide⟩
theorem kS13 : zSl "DepotServer$Catalog" 60 mCat_isPathCharacter 1 := ⟨Or.inl (zT_of (zT_p2 (List.mem_of_getElem? (i := 52) rfl)) rfl), zT_of (zT_p2 (List.mem_of_getElem? (i := 53) rfl)) rfl, kY102⟩
theorem kL3 : Cond.methodLink "DepotServer$Journal" 3 objectInit ∈ zT := zT_of (zT_p1 (List.mem_of_getElem? (i := 233) rfl)) rfl
theorem kA2 : zAl "DepotServer$Journal" 9 7 := ⟨"DepotServer$State", rfl, by decide, zT_of (zT_p1 (List.mem_of_getElem? (i := 234) rfl)) rfl⟩
theorem kP63 : zFp ⟨"DepotServer$Journal", "<init>", "()V"⟩ 11 7 2 := ⟨RJou, TJou, 3, rfl, by decide, Or.inr ⟨rfl, rfl, rfl, zT_of (zT_p2 (List.mem_of_getElem? (i := 1) rfl)) rfl⟩⟩
theorem kF79 : zFl "DepotServer$Journal" 11 7 2 := ⟨RJou, TJou, 3, rfl, by decide, Or.inl (zT_of (zT_p2 (List.mem_of_getElem? (i := 1) rfl)) rfl)⟩
theorem kN8 : zNl "DepotServer$Journal" 9 6 7 := ⟨RSta, TSta, rfl, zT_of (zT_p1 (List.mem_of_getElem? (i := 234) rfl)) rfl⟩
theorem kI8 : zIl "DepotServer$Journal" 17 mSta_init 0 := ⟨Or.inl (zT_of (zT_p1 (List.mem_of_getElem? (i := 236) rfl)) rfl), rfl, zT_of (zT_p1 (List.mem_of_getElem? (i := 111) rfl)) rfl, rfl, kY3⟩
theorem kF80 : zFl "DepotServer$Journal" 18 7 0 := ⟨RJou, TJou, 3, rfl, by decide, Or.inl (zT_of (zT_p1 (List.mem_of_getElem? (i := 237) rfl)) rfl)⟩
theorem kY103 : zYok mSta_copyFrom 1 := ⟨zT_of (zT_p2 (List.mem_of_getElem? (i := 121) rfl)) rfl, zT_of (zT_p1 (List.mem_of_getElem? (i := 6) rfl)) rfl, ⟨by decide, by decide⟩, by decide +kernel, by decide⟩
theorem kV85 : zVl "DepotServer$Journal" 22 mSta_copyFrom 1 6 := ⟨Or.inl (zT_of (zT_p2 (List.mem_of_getElem? (i := 118) rfl)) rfl), zT_of (zT_p2 (List.mem_of_getElem? (i := 119) rfl)) rfl, zT_of (zT_p2 (List.mem_of_getElem? (i := 120) rfl)) rfl, kY103, TSta, 7, rfl⟩
theorem kP64 {y : MethodName} (hy : y.cls = "DepotServer$Journal") : zFp y 18 7 0 := ⟨RJou, TJou, 3, rfl, by decide, Or.inl ⟨rfl, Or.inl (by rw [hy]; exact zT_of (zT_p1 (List.mem_of_getElem? (i := 237) rfl)) rfl)⟩⟩
theorem kF81 : zFl "DepotServer$Journal" 26 7 1 := ⟨RJou, TJou, 3, rfl, by decide, Or.inl (zT_of (zT_p1 (List.mem_of_getElem? (i := 239) rfl)) rfl)⟩
theorem kL4 : Cond.methodLink "DepotServer$Journal" 29 Lib.Math.min.name ∈ zT := zT_of (zT_p2 (List.mem_of_getElem? (i := 133) rfl)) rfl
theorem kP65 {y : MethodName} (hy : y.cls = "DepotServer$Journal") : zFp y 26 7 1 := ⟨RJou, TJou, 3, rfl, by decide, Or.inl ⟨rfl, Or.inl (by rw [hy]; exact zT_of (zT_p1 (List.mem_of_getElem? (i := 239) rfl)) rfl)⟩⟩
theorem kL5 : Cond.methodLink "DepotServer$Line" 3 objectInit ∈ zT := zT_of (zT_p1 (List.mem_of_getElem? (i := 50) rfl)) rfl
theorem kN9 : zNl "DepotServer$Line" 9 0 2 := ⟨RRow, TRow, rfl, zT_of (zT_p1 (List.mem_of_getElem? (i := 51) rfl)) rfl⟩
theorem kI9 : zIl "DepotServer$Line" 11 mRow_init 1 := ⟨Or.inl (zT_of (zT_p1 (List.mem_of_getElem? (i := 52) rfl)) rfl), rfl, zT_of (zT_p1 (List.mem_of_getElem? (i := 24) rfl)) rfl, rfl, kY0⟩
theorem kP66 : zFp ⟨"DepotServer$Line", "<init>", "()V"⟩ 14 1 0 := ⟨RLine, TLine, 3, rfl, by decide, Or.inr ⟨rfl, rfl, rfl, zT_of (zT_p1 (List.mem_of_getElem? (i := 53) rfl)) rfl⟩⟩
theorem kP67 : zFp ⟨"DepotServer$Line", "<init>", "()V"⟩ 20 1 1 := ⟨RLine, TLine, 3, rfl, by decide, Or.inr ⟨rfl, rfl, rfl, zT_of (zT_p1 (List.mem_of_getElem? (i := 55) rfl)) rfl⟩⟩
theorem kV86 : zVl "DepotServer$Line" 23 mRow_size 0 0 := ⟨Or.inl (zT_of (zT_p2 (List.mem_of_getElem? (i := 80) rfl)) rfl), zT_of (zT_p2 (List.mem_of_getElem? (i := 45) rfl)) rfl, zT_of (zT_p2 (List.mem_of_getElem? (i := 46) rfl)) rfl, kY15, TRow, 2, rfl⟩
theorem kV87 : zVl "DepotServer$Line" 27 mRow_at 1 0 := ⟨Or.inl (zT_of (zT_p2 (List.mem_of_getElem? (i := 81) rfl)) rfl), zT_of (zT_p2 (List.mem_of_getElem? (i := 49) rfl)) rfl, zT_of (zT_p2 (List.mem_of_getElem? (i := 50) rfl)) rfl, kY16, TRow, 2, rfl⟩
theorem kY104 : zYok mLine_isSide 3 := ⟨zT_of (zT_p2 (List.mem_of_getElem? (i := 84) rfl)) rfl, zT_of (zT_p1 (List.mem_of_getElem? (i := 4) rfl)) rfl, ⟨by decide, by decide⟩, by decide +kernel, by decide⟩
theorem kS14 : zSl "DepotServer$Line" 31 mLine_isSide 3 := ⟨Or.inl (zT_of (zT_p2 (List.mem_of_getElem? (i := 82) rfl)) rfl), zT_of (zT_p2 (List.mem_of_getElem? (i := 83) rfl)) rfl, kY104⟩
theorem kY105 : zYok mLine_middleOf 1 := ⟨zT_of (zT_p2 (List.mem_of_getElem? (i := 91) rfl)) rfl, zT_of (zT_p1 (List.mem_of_getElem? (i := 4) rfl)) rfl, ⟨by decide, by decide⟩, by decide +kernel, by decide⟩
theorem kS15 : zSl "DepotServer$Line" 35 mLine_middleOf 1 := ⟨Or.inl (zT_of (zT_p2 (List.mem_of_getElem? (i := 89) rfl)) rfl), zT_of (zT_p2 (List.mem_of_getElem? (i := 90) rfl)) rfl, kY105⟩
theorem kY106 : zYok mLine_haveSameWildcards 2 := ⟨zT_of (zT_p2 (List.mem_of_getElem? (i := 94) rfl)) rfl, zT_of (zT_p1 (List.mem_of_getElem? (i := 4) rfl)) rfl, ⟨by decide, by decide⟩, by decide +kernel, by decide⟩
theorem kS16 : zSl "DepotServer$Line" 39 mLine_haveSameWildcards 2 := ⟨Or.inl (zT_of (zT_p2 (List.mem_of_getElem? (i := 92) rfl)) rfl), zT_of (zT_p2 (List.mem_of_getElem? (i := 93) rfl)) rfl, kY106⟩
theorem kP68 {y : MethodName} (hy : y.cls = "DepotServer$Line") : zFp y 43 1 2 := ⟨RLine, TLine, 3, rfl, by decide, Or.inl ⟨rfl, Or.inl (by rw [hy]; exact zT_of (zT_p1 (List.mem_of_getElem? (i := 57) rfl)) rfl)⟩⟩
theorem kF82 : zFl "DepotServer$Line" 14 1 0 := ⟨RLine, TLine, 3, rfl, by decide, Or.inl (zT_of (zT_p1 (List.mem_of_getElem? (i := 53) rfl)) rfl)⟩
theorem kF83 : zFl "DepotServer$Line" 43 1 2 := ⟨RLine, TLine, 3, rfl, by decide, Or.inl (zT_of (zT_p1 (List.mem_of_getElem? (i := 57) rfl)) rfl)⟩
theorem kV88 : zVl "DepotServer$Line" 47 mRow_appendPart 3 0 := ⟨Or.inl (zT_of (zT_p2 (List.mem_of_getElem? (i := 102) rfl)) rfl), zT_of (zT_p2 (List.mem_of_getElem? (i := 60) rfl)) rfl, zT_of (zT_p2 (List.mem_of_getElem? (i := 61) rfl)) rfl, kY99, TRow, 2, rfl⟩
theorem kF84 : zFl "DepotServer$Line" 20 1 1 := ⟨RLine, TLine, 3, rfl, by decide, Or.inl (zT_of (zT_p1 (List.mem_of_getElem? (i := 55) rfl)) rfl)⟩
theorem kY107 : zYok mLine_isWildcard 1 := ⟨zT_of (zT_p2 (List.mem_of_getElem? (i := 87) rfl)) rfl, zT_of (zT_p1 (List.mem_of_getElem? (i := 4) rfl)) rfl, ⟨by decide, by decide⟩, by decide +kernel, by decide⟩
theorem kS17 : zSl "DepotServer$Line" 51 mLine_isWildcard 1 := ⟨Or.inl (zT_of (zT_p2 (List.mem_of_getElem? (i := 85) rfl)) rfl), zT_of (zT_p2 (List.mem_of_getElem? (i := 86) rfl)) rfl, kY107⟩
theorem kS18 : zSl "DepotServer$Line" 55 mCat_isPathCharacter 1 := ⟨Or.inl (zT_of (zT_p2 (List.mem_of_getElem? (i := 88) rfl)) rfl), zT_of (zT_p2 (List.mem_of_getElem? (i := 53) rfl)) rfl, kY102⟩
theorem kY108 : zYok mLine_wildcardOf 4 := ⟨zT_of (zT_p2 (List.mem_of_getElem? (i := 97) rfl)) rfl, zT_of (zT_p1 (List.mem_of_getElem? (i := 4) rfl)) rfl, ⟨by decide, by decide⟩, by decide +kernel, by decide⟩
theorem kS19 : zSl "DepotServer$Line" 60 mLine_wildcardOf 4 := ⟨Or.inl (zT_of (zT_p2 (List.mem_of_getElem? (i := 95) rfl)) rfl), zT_of (zT_p2 (List.mem_of_getElem? (i := 96) rfl)) rfl, kY108⟩
theorem kL6 : Cond.methodLink "DepotServer$Places" 3 objectInit ∈ zT := zT_of (zT_p1 (List.mem_of_getElem? (i := 88) rfl)) rfl
theorem kA3 : zAl "DepotServer$Places" 9 3 := ⟨"DepotServer$Row", rfl, by decide, zT_of (zT_p1 (List.mem_of_getElem? (i := 89) rfl)) rfl⟩
theorem kP69 : zFp ⟨"DepotServer$Places", "<init>", "()V"⟩ 11 3 0 := ⟨RPl, TPl, 4, rfl, by decide, Or.inr ⟨rfl, rfl, rfl, zT_of (zT_p1 (List.mem_of_getElem? (i := 91) rfl)) rfl⟩⟩
theorem kP70 : zFp ⟨"DepotServer$Places", "<init>", "()V"⟩ 17 3 1 := ⟨RPl, TPl, 4, rfl, by decide, Or.inr ⟨rfl, rfl, rfl, zT_of (zT_p1 (List.mem_of_getElem? (i := 93) rfl)) rfl⟩⟩
theorem kP71 : zFp ⟨"DepotServer$Places", "<init>", "()V"⟩ 21 3 2 := ⟨RPl, TPl, 4, rfl, by decide, Or.inr ⟨rfl, rfl, rfl, zT_of (zT_p1 (List.mem_of_getElem? (i := 95) rfl)) rfl⟩⟩
theorem kP72 : zFp ⟨"DepotServer$Places", "<init>", "()V"⟩ 25 3 3 := ⟨RPl, TPl, 4, rfl, by decide, Or.inr ⟨rfl, rfl, rfl, zT_of (zT_p1 (List.mem_of_getElem? (i := 96) rfl)) rfl⟩⟩
theorem kF85 : zFl "DepotServer$Places" 11 3 0 := ⟨RPl, TPl, 4, rfl, by decide, Or.inl (zT_of (zT_p1 (List.mem_of_getElem? (i := 91) rfl)) rfl)⟩
theorem kN10 : zNl "DepotServer$Places" 9 0 2 := ⟨RRow, TRow, rfl, zT_of (zT_p1 (List.mem_of_getElem? (i := 89) rfl)) rfl⟩
theorem kI10 : zIl "DepotServer$Places" 28 mRow_init 1 := ⟨Or.inl (zT_of (zT_p1 (List.mem_of_getElem? (i := 90) rfl)) rfl), rfl, zT_of (zT_p1 (List.mem_of_getElem? (i := 24) rfl)) rfl, rfl, kY0⟩
theorem kF86 : zFl "DepotServer$Places" 31 2 2 := ⟨RCat, TCat, 4, rfl, by decide, Or.inl (zT_of (zT_p1 (List.mem_of_getElem? (i := 70) rfl)) rfl)⟩
theorem kV89 : zVl "DepotServer$Places" 37 mPl_layOne 4 3 := ⟨Or.inl (zT_of (zT_p2 (List.mem_of_getElem? (i := 152) rfl)) rfl), zT_of (zT_p2 (List.mem_of_getElem? (i := 153) rfl)) rfl, zT_of (zT_p2 (List.mem_of_getElem? (i := 154) rfl)) rfl, kY14, TPl, 4, rfl⟩
theorem kV90 : zVl "DepotServer$Places" 41 mRow_clear 0 0 := ⟨Or.inl (zT_of (zT_p2 (List.mem_of_getElem? (i := 156) rfl)) rfl), zT_of (zT_p2 (List.mem_of_getElem? (i := 66) rfl)) rfl, zT_of (zT_p2 (List.mem_of_getElem? (i := 67) rfl)) rfl, kY7, TRow, 2, rfl⟩
theorem kF87 : zFl "DepotServer$Places" 17 3 1 := ⟨RPl, TPl, 4, rfl, by decide, Or.inl (zT_of (zT_p1 (List.mem_of_getElem? (i := 93) rfl)) rfl)⟩
theorem kF88 : zFl "DepotServer$Places" 44 2 0 := ⟨RCat, TCat, 4, rfl, by decide, Or.inl (zT_of (zT_p1 (List.mem_of_getElem? (i := 67) rfl)) rfl)⟩
theorem kF89 : zFl "DepotServer$Places" 47 6 0 := ⟨RSta, TSta, 7, rfl, by decide, Or.inl (zT_of (zT_p1 (List.mem_of_getElem? (i := 201) rfl)) rfl)⟩
theorem kV91 : zVl "DepotServer$Places" 52 mCat_hasLine 1 2 := ⟨Or.inl (zT_of (zT_p2 (List.mem_of_getElem? (i := 157) rfl)) rfl), zT_of (zT_p2 (List.mem_of_getElem? (i := 111) rfl)) rfl, zT_of (zT_p2 (List.mem_of_getElem? (i := 112) rfl)) rfl, kY10, TCat, 4, rfl⟩
theorem kF90 : zFl "DepotServer$Places" 56 2 1 := ⟨RCat, TCat, 4, rfl, by decide, Or.inl (zT_of (zT_p1 (List.mem_of_getElem? (i := 69) rfl)) rfl)⟩
theorem kF91 : zFl "DepotServer$Places" 60 1 0 := ⟨RLine, TLine, 3, rfl, by decide, Or.inl (zT_of (zT_p1 (List.mem_of_getElem? (i := 54) rfl)) rfl)⟩
theorem kY109 : zYok mPl_fits 5 := ⟨zT_of (zT_p2 (List.mem_of_getElem? (i := 161) rfl)) rfl, zT_of (zT_p1 (List.mem_of_getElem? (i := 5) rfl)) rfl, ⟨by decide, by decide⟩, by decide +kernel, by decide⟩
theorem kV92 : zVl "DepotServer$Places" 66 mPl_fits 5 3 := ⟨Or.inl (zT_of (zT_p2 (List.mem_of_getElem? (i := 158) rfl)) rfl), zT_of (zT_p2 (List.mem_of_getElem? (i := 160) rfl)) rfl, zT_se (List.mem_of_getElem? (i := 2) rfl) rfl, kY109, TPl, 4, rfl⟩
theorem kY110 : zYok mPl_layBy 3 := ⟨zT_of (zT_p2 (List.mem_of_getElem? (i := 168) rfl)) rfl, zT_of (zT_p1 (List.mem_of_getElem? (i := 5) rfl)) rfl, ⟨by decide, by decide⟩, by decide +kernel, by decide⟩
theorem kV93 : zVl "DepotServer$Places" 70 mPl_layBy 3 3 := ⟨Or.inl (zT_of (zT_p2 (List.mem_of_getElem? (i := 165) rfl)) rfl), zT_of (zT_p2 (List.mem_of_getElem? (i := 167) rfl)) rfl, zT_se (List.mem_of_getElem? (i := 3) rfl) rfl, kY110, TPl, 4, rfl⟩
theorem kV94 : zVl "DepotServer$Places" 74 mRow_same 1 0 := ⟨Or.inl (zT_of (zT_p2 (List.mem_of_getElem? (i := 175) rfl)) rfl), zT_of (zT_p2 (List.mem_of_getElem? (i := 56) rfl)) rfl, zT_of (zT_p2 (List.mem_of_getElem? (i := 57) rfl)) rfl, kY49, TRow, 2, rfl⟩
theorem kV95 : zVl "DepotServer$Places" 78 mRow_size 0 0 := ⟨Or.inl (zT_of (zT_p2 (List.mem_of_getElem? (i := 162) rfl)) rfl), zT_of (zT_p2 (List.mem_of_getElem? (i := 45) rfl)) rfl, zT_of (zT_p2 (List.mem_of_getElem? (i := 46) rfl)) rfl, kY15, TRow, 2, rfl⟩
theorem kV96 : zVl "DepotServer$Places" 82 mRow_at 1 0 := ⟨Or.inl (zT_of (zT_p2 (List.mem_of_getElem? (i := 163) rfl)) rfl), zT_of (zT_p2 (List.mem_of_getElem? (i := 49) rfl)) rfl, zT_of (zT_p2 (List.mem_of_getElem? (i := 50) rfl)) rfl, kY16, TRow, 2, rfl⟩
theorem kS20 : zSl "DepotServer$Places" 86 mLine_isWildcard 1 := ⟨Or.inl (zT_of (zT_p2 (List.mem_of_getElem? (i := 164) rfl)) rfl), zT_of (zT_p2 (List.mem_of_getElem? (i := 86) rfl)) rfl, kY107⟩
theorem kF92 : zFl "DepotServer$Places" 21 3 2 := ⟨RPl, TPl, 4, rfl, by decide, Or.inl (zT_of (zT_p1 (List.mem_of_getElem? (i := 95) rfl)) rfl)⟩
theorem kF93 : zFl "DepotServer$Places" 25 3 3 := ⟨RPl, TPl, 4, rfl, by decide, Or.inl (zT_of (zT_p1 (List.mem_of_getElem? (i := 96) rfl)) rfl)⟩
theorem kF94 : zFl "DepotServer$Places" 90 1 2 := ⟨RLine, TLine, 3, rfl, by decide, Or.inl (zT_of (zT_p1 (List.mem_of_getElem? (i := 58) rfl)) rfl)⟩
theorem kF95 : zFl "DepotServer$Places" 94 1 1 := ⟨RLine, TLine, 3, rfl, by decide, Or.inl (zT_of (zT_p1 (List.mem_of_getElem? (i := 56) rfl)) rfl)⟩
theorem kV97 : zVl "DepotServer$Places" 97 mRow_appendPart 3 0 := ⟨Or.inl (zT_of (zT_p2 (List.mem_of_getElem? (i := 169) rfl)) rfl), zT_of (zT_p2 (List.mem_of_getElem? (i := 60) rfl)) rfl, zT_of (zT_p2 (List.mem_of_getElem? (i := 61) rfl)) rfl, kY99, TRow, 2, rfl⟩
theorem kV98 : zVl "DepotServer$Places" 101 mRow_append 1 0 := ⟨Or.inl (zT_of (zT_p2 (List.mem_of_getElem? (i := 170) rfl)) rfl), zT_of (zT_p2 (List.mem_of_getElem? (i := 30) rfl)) rfl, zT_of (zT_p2 (List.mem_of_getElem? (i := 31) rfl)) rfl, kY5, TRow, 2, rfl⟩
theorem kL7 : Cond.methodLink "DepotServer$Revision" 3 objectInit ∈ zT := zT_of (zT_p1 (List.mem_of_getElem? (i := 122) rfl)) rfl
theorem kP73 : zFp ⟨"DepotServer$Revision", "<init>", "()V"⟩ 9 4 0 := ⟨RRev, TRev, 6, rfl, by decide, Or.inr ⟨rfl, rfl, rfl, zT_of (zT_p1 (List.mem_of_getElem? (i := 123) rfl)) rfl⟩⟩
theorem kP74 : zFp ⟨"DepotServer$Revision", "<init>", "()V"⟩ 15 4 1 := ⟨RRev, TRev, 6, rfl, by decide, Or.inr ⟨rfl, rfl, rfl, zT_of (zT_p1 (List.mem_of_getElem? (i := 125) rfl)) rfl⟩⟩
theorem kP75 : zFp ⟨"DepotServer$Revision", "<init>", "()V"⟩ 18 4 2 := ⟨RRev, TRev, 6, rfl, by decide, Or.inr ⟨rfl, rfl, rfl, zT_of (zT_p1 (List.mem_of_getElem? (i := 126) rfl)) rfl⟩⟩
theorem kP76 : zFp ⟨"DepotServer$Revision", "<init>", "()V"⟩ 21 4 3 := ⟨RRev, TRev, 6, rfl, by decide, Or.inr ⟨rfl, rfl, rfl, zT_of (zT_p1 (List.mem_of_getElem? (i := 128) rfl)) rfl⟩⟩
theorem kP77 : zFp ⟨"DepotServer$Revision", "<init>", "()V"⟩ 25 4 4 := ⟨RRev, TRev, 6, rfl, by decide, Or.inr ⟨rfl, rfl, rfl, zT_of (zT_p1 (List.mem_of_getElem? (i := 130) rfl)) rfl⟩⟩
theorem kP78 : zFp ⟨"DepotServer$Revision", "<init>", "()V"⟩ 28 4 5 := ⟨RRev, TRev, 6, rfl, by decide, Or.inr ⟨rfl, rfl, rfl, zT_of (zT_p1 (List.mem_of_getElem? (i := 132) rfl)) rfl⟩⟩
theorem kF96 : zFl "DepotServer$Revision" 9 4 0 := ⟨RRev, TRev, 6, rfl, by decide, Or.inl (zT_of (zT_p1 (List.mem_of_getElem? (i := 123) rfl)) rfl)⟩
theorem kP79 : zFp ⟨"DepotServer$Revision", "<init>", "(LDepotServer$Revision;IIZZ)V"⟩ 9 4 0 := ⟨RRev, TRev, 6, rfl, by decide, Or.inr ⟨rfl, rfl, rfl, zT_of (zT_p1 (List.mem_of_getElem? (i := 123) rfl)) rfl⟩⟩
theorem kP80 : zFp ⟨"DepotServer$Revision", "<init>", "(LDepotServer$Revision;IIZZ)V"⟩ 15 4 1 := ⟨RRev, TRev, 6, rfl, by decide, Or.inr ⟨rfl, rfl, rfl, zT_of (zT_p1 (List.mem_of_getElem? (i := 125) rfl)) rfl⟩⟩
theorem kP81 : zFp ⟨"DepotServer$Revision", "<init>", "(LDepotServer$Revision;IIZZ)V"⟩ 18 4 2 := ⟨RRev, TRev, 6, rfl, by decide, Or.inr ⟨rfl, rfl, rfl, zT_of (zT_p1 (List.mem_of_getElem? (i := 126) rfl)) rfl⟩⟩
theorem kP82 : zFp ⟨"DepotServer$Revision", "<init>", "(LDepotServer$Revision;IIZZ)V"⟩ 21 4 3 := ⟨RRev, TRev, 6, rfl, by decide, Or.inr ⟨rfl, rfl, rfl, zT_of (zT_p1 (List.mem_of_getElem? (i := 128) rfl)) rfl⟩⟩
theorem kP83 : zFp ⟨"DepotServer$Revision", "<init>", "(LDepotServer$Revision;IIZZ)V"⟩ 25 4 4 := ⟨RRev, TRev, 6, rfl, by decide, Or.inr ⟨rfl, rfl, rfl, zT_of (zT_p1 (List.mem_of_getElem? (i := 130) rfl)) rfl⟩⟩
theorem kP84 : zFp ⟨"DepotServer$Revision", "<init>", "(LDepotServer$Revision;IIZZ)V"⟩ 28 4 5 := ⟨RRev, TRev, 6, rfl, by decide, Or.inr ⟨rfl, rfl, rfl, zT_of (zT_p1 (List.mem_of_getElem? (i := 132) rfl)) rfl⟩⟩
theorem kF97 : zFl "DepotServer$Revision" 28 4 5 := ⟨RRev, TRev, 6, rfl, by decide, Or.inl (zT_of (zT_p1 (List.mem_of_getElem? (i := 132) rfl)) rfl)⟩
theorem kF98 : zFl "DepotServer$Revision" 15 4 1 := ⟨RRev, TRev, 6, rfl, by decide, Or.inl (zT_of (zT_p1 (List.mem_of_getElem? (i := 125) rfl)) rfl)⟩
theorem kF99 : zFl "DepotServer$Revision" 18 4 2 := ⟨RRev, TRev, 6, rfl, by decide, Or.inl (zT_of (zT_p1 (List.mem_of_getElem? (i := 126) rfl)) rfl)⟩
theorem kF100 : zFl "DepotServer$Revision" 21 4 3 := ⟨RRev, TRev, 6, rfl, by decide, Or.inl (zT_of (zT_p1 (List.mem_of_getElem? (i := 128) rfl)) rfl)⟩
theorem kF101 : zFl "DepotServer$Revision" 25 4 4 := ⟨RRev, TRev, 6, rfl, by decide, Or.inl (zT_of (zT_p1 (List.mem_of_getElem? (i := 130) rfl)) rfl)⟩
theorem kL8 : Cond.methodLink "DepotServer$Row" 1 objectInit ∈ zT := zT_of (zT_p1 (List.mem_of_getElem? (i := 26) rfl)) rfl
theorem kP85 : zFp ⟨"DepotServer$Row", "<init>", "(I)V"⟩ 7 0 0 := ⟨RRow, TRow, 2, rfl, by decide, Or.inr ⟨rfl, rfl, rfl, zT_of (zT_p1 (List.mem_of_getElem? (i := 27) rfl)) rfl⟩⟩
theorem kF102 : zFl "DepotServer$Row" 13 0 1 := ⟨RRow, TRow, 2, rfl, by decide, Or.inl (zT_of (zT_p1 (List.mem_of_getElem? (i := 28) rfl)) rfl)⟩
theorem kF103 : zFl "DepotServer$Row" 7 0 0 := ⟨RRow, TRow, 2, rfl, by decide, Or.inl (zT_of (zT_p1 (List.mem_of_getElem? (i := 27) rfl)) rfl)⟩
theorem kP86 {y : MethodName} (hy : y.cls = "DepotServer$Row") : zFp y 13 0 1 := ⟨RRow, TRow, 2, rfl, by decide, Or.inl ⟨rfl, Or.inl (by rw [hy]; exact zT_of (zT_p1 (List.mem_of_getElem? (i := 28) rfl)) rfl)⟩⟩
theorem kV99 : zVl "DepotServer$Row" 17 mRow_at 1 0 := ⟨Or.inl (zT_of (zT_p2 (List.mem_of_getElem? (i := 63) rfl)) rfl), zT_of (zT_p2 (List.mem_of_getElem? (i := 49) rfl)) rfl, zT_of (zT_p2 (List.mem_of_getElem? (i := 50) rfl)) rfl, kY16, TRow, 2, rfl⟩
theorem kV100 : zVl "DepotServer$Row" 21 mRow_append 1 0 := ⟨Or.inl (zT_of (zT_p2 (List.mem_of_getElem? (i := 64) rfl)) rfl), zT_of (zT_p2 (List.mem_of_getElem? (i := 30) rfl)) rfl, zT_of (zT_p2 (List.mem_of_getElem? (i := 31) rfl)) rfl, kY5, TRow, 2, rfl⟩
theorem kL9 : Cond.methodLink "DepotServer$State" 3 objectInit ∈ zT := zT_of (zT_p1 (List.mem_of_getElem? (i := 113) rfl)) rfl
theorem kP87 : zFp ⟨"DepotServer$State", "<init>", "()V"⟩ 9 6 0 := ⟨RSta, TSta, 7, rfl, by decide, Or.inr ⟨rfl, rfl, rfl, zT_of (zT_p1 (List.mem_of_getElem? (i := 200) rfl)) rfl⟩⟩
theorem kA4 : zAl "DepotServer$State" 15 5 := ⟨"DepotServer$Revision", rfl, by decide, zT_of (zT_p1 (List.mem_of_getElem? (i := 114) rfl)) rfl⟩
theorem kP88 : zFp ⟨"DepotServer$State", "<init>", "()V"⟩ 17 6 1 := ⟨RSta, TSta, 7, rfl, by decide, Or.inr ⟨rfl, rfl, rfl, zT_of (zT_p1 (List.mem_of_getElem? (i := 203) rfl)) rfl⟩⟩
theorem kA5 : zAl "DepotServer$State" 21 6 := ⟨"DepotServer$Work", rfl, by decide, zT_of (zT_p1 (List.mem_of_getElem? (i := 116) rfl)) rfl⟩
theorem kP89 : zFp ⟨"DepotServer$State", "<init>", "()V"⟩ 23 6 5 := ⟨RSta, TSta, 7, rfl, by decide, Or.inr ⟨rfl, rfl, rfl, zT_of (zT_p1 (List.mem_of_getElem? (i := 211) rfl)) rfl⟩⟩
theorem kP90 : zFp ⟨"DepotServer$State", "<init>", "()V"⟩ 27 6 6 := ⟨RSta, TSta, 7, rfl, by decide, Or.inr ⟨rfl, rfl, rfl, zT_of (zT_p1 (List.mem_of_getElem? (i := 212) rfl)) rfl⟩⟩
theorem kF104 : zFl "DepotServer$State" 9 6 0 := ⟨RSta, TSta, 7, rfl, by decide, Or.inl (zT_of (zT_p1 (List.mem_of_getElem? (i := 200) rfl)) rfl)⟩
theorem kN11 : zNl "DepotServer$State" 15 4 6 := ⟨RRev, TRev, rfl, zT_of (zT_p1 (List.mem_of_getElem? (i := 114) rfl)) rfl⟩
theorem kY111 : zYok mRev_init 0 := ⟨zT_of (zT_p1 (List.mem_of_getElem? (i := 121) rfl)) rfl, zT_of (zT_p1 (List.mem_of_getElem? (i := 7) rfl)) rfl, ⟨by decide, by decide⟩, by decide +kernel, by decide⟩
theorem kI11 : zIl "DepotServer$State" 30 mRev_init 0 := ⟨Or.inl (zT_of (zT_p1 (List.mem_of_getElem? (i := 119) rfl)) rfl), rfl, zT_of (zT_p1 (List.mem_of_getElem? (i := 120) rfl)) rfl, rfl, kY111⟩
theorem kF105 : zFl "DepotServer$State" 17 6 1 := ⟨RSta, TSta, 7, rfl, by decide, Or.inl (zT_of (zT_p1 (List.mem_of_getElem? (i := 203) rfl)) rfl)⟩
theorem kF106 : zFl "DepotServer$State" 23 6 5 := ⟨RSta, TSta, 7, rfl, by decide, Or.inl (zT_of (zT_p1 (List.mem_of_getElem? (i := 211) rfl)) rfl)⟩
theorem kN12 : zNl "DepotServer$State" 21 5 12 := ⟨RWork, TWork, rfl, zT_of (zT_p1 (List.mem_of_getElem? (i := 116) rfl)) rfl⟩
theorem kY112 : zYok mWork_init 0 := ⟨zT_of (zT_p1 (List.mem_of_getElem? (i := 149) rfl)) rfl, zT_of (zT_p1 (List.mem_of_getElem? (i := 8) rfl)) rfl, ⟨by decide, by decide⟩, by decide +kernel, by decide⟩
theorem kI12 : zIl "DepotServer$State" 31 mWork_init 0 := ⟨Or.inr ⟨"DepotServer", by decide⟩, rfl, zT_of (zT_p1 (List.mem_of_getElem? (i := 148) rfl)) rfl, rfl, kY112⟩
theorem kF107 : zFl "DepotServer$State" 27 6 6 := ⟨RSta, TSta, 7, rfl, by decide, Or.inl (zT_of (zT_p1 (List.mem_of_getElem? (i := 212) rfl)) rfl)⟩
theorem kL10 : Cond.methodLink "DepotServer$State" 32 Lib.Math.max.name ∈ zT := zT_of (zT_p3 (List.mem_of_getElem? (i := 107) rfl)) rfl
theorem kL11 : Cond.methodLink "DepotServer$State" 38 arraycopyName ∈ zT := zT_of (zT_p2 (List.mem_of_getElem? (i := 122) rfl)) rfl
theorem kY113 : zYok mWork_copyFrom 1 := ⟨zT_of (zT_p2 (List.mem_of_getElem? (i := 128) rfl)) rfl, zT_of (zT_p1 (List.mem_of_getElem? (i := 8) rfl)) rfl, ⟨by decide, by decide⟩, by decide +kernel, by decide⟩
theorem kV101 : zVl "DepotServer$State" 44 mWork_copyFrom 1 5 := ⟨Or.inl (zT_of (zT_p2 (List.mem_of_getElem? (i := 125) rfl)) rfl), zT_of (zT_p2 (List.mem_of_getElem? (i := 126) rfl)) rfl, zT_of (zT_p2 (List.mem_of_getElem? (i := 127) rfl)) rfl, kY113, TWork, 12, rfl⟩
theorem kF108 : zFl "DepotServer$State" 48 6 2 := ⟨RSta, TSta, 7, rfl, by decide, Or.inl (zT_of (zT_p1 (List.mem_of_getElem? (i := 205) rfl)) rfl)⟩
theorem kP91 {y : MethodName} (hy : y.cls = "DepotServer$State") : zFp y 48 6 2 := ⟨RSta, TSta, 7, rfl, by decide, Or.inl ⟨rfl, Or.inl (by rw [hy]; exact zT_of (zT_p1 (List.mem_of_getElem? (i := 205) rfl)) rfl)⟩⟩
theorem kF109 : zFl "DepotServer$State" 52 6 3 := ⟨RSta, TSta, 7, rfl, by decide, Or.inl (zT_of (zT_p1 (List.mem_of_getElem? (i := 207) rfl)) rfl)⟩
theorem kP92 {y : MethodName} (hy : y.cls = "DepotServer$State") : zFp y 52 6 3 := ⟨RSta, TSta, 7, rfl, by decide, Or.inl ⟨rfl, Or.inl (by rw [hy]; exact zT_of (zT_p1 (List.mem_of_getElem? (i := 207) rfl)) rfl)⟩⟩
theorem kF110 : zFl "DepotServer$State" 55 6 4 := ⟨RSta, TSta, 7, rfl, by decide, Or.inl (zT_of (zT_p1 (List.mem_of_getElem? (i := 209) rfl)) rfl)⟩
theorem kP93 {y : MethodName} (hy : y.cls = "DepotServer$State") : zFp y 55 6 4 := ⟨RSta, TSta, 7, rfl, by decide, Or.inl ⟨rfl, Or.inl (by rw [hy]; exact zT_of (zT_p1 (List.mem_of_getElem? (i := 209) rfl)) rfl)⟩⟩
theorem kL12 : Cond.methodLink "DepotServer$Work" 3 objectInit ∈ zT := zT_of (zT_p1 (List.mem_of_getElem? (i := 150) rfl)) rfl
theorem kP94 {y : MethodName} (hy : y.cls = "DepotServer$Work") : zFp y 9 5 2 := ⟨RWork, TWork, 12, rfl, by decide, Or.inl ⟨rfl, Or.inl (by rw [hy]; exact zT_of (zT_p1 (List.mem_of_getElem? (i := 155) rfl)) rfl)⟩⟩
theorem kP95 {y : MethodName} (hy : y.cls = "DepotServer$Work") : zFp y 15 5 7 := ⟨RWork, TWork, 12, rfl, by decide, Or.inl ⟨rfl, Or.inl (by rw [hy]; exact zT_of (zT_p1 (List.mem_of_getElem? (i := 165) rfl)) rfl)⟩⟩
theorem kP96 {y : MethodName} (hy : y.cls = "DepotServer$Work") : zFp y 18 5 9 := ⟨RWork, TWork, 12, rfl, by decide, Or.inl ⟨rfl, Or.inl (by rw [hy]; exact zT_of (zT_p1 (List.mem_of_getElem? (i := 169) rfl)) rfl)⟩⟩
theorem kF111 : zFl "DepotServer$Work" 9 5 2 := ⟨RWork, TWork, 12, rfl, by decide, Or.inl (zT_of (zT_p1 (List.mem_of_getElem? (i := 155) rfl)) rfl)⟩
theorem kV102 : zVl "DepotServer$Work" 21 mWork_isOpen 0 5 := ⟨Or.inl (zT_of (zT_p3 (List.mem_of_getElem? (i := 90) rfl)) rfl), zT_of (zT_p2 (List.mem_of_getElem? (i := 208) rfl)) rfl, zT_of (zT_p2 (List.mem_of_getElem? (i := 209) rfl)) rfl, kY21, TWork, 12, rfl⟩
theorem kF112 : zFl "DepotServer$Work" 25 5 3 := ⟨RWork, TWork, 12, rfl, by decide, Or.inl (zT_of (zT_p1 (List.mem_of_getElem? (i := 157) rfl)) rfl)⟩
theorem kF113 : zFl "DepotServer$Work" 28 5 6 := ⟨RWork, TWork, 12, rfl, by decide, Or.inl (zT_of (zT_p1 (List.mem_of_getElem? (i := 163) rfl)) rfl)⟩
theorem kF114 : zFl "DepotServer$Work" 15 5 7 := ⟨RWork, TWork, 12, rfl, by decide, Or.inl (zT_of (zT_p1 (List.mem_of_getElem? (i := 165) rfl)) rfl)⟩
theorem kP97 {y : MethodName} (hy : y.cls = "DepotServer$Work") : zFp y 25 5 3 := ⟨RWork, TWork, 12, rfl, by decide, Or.inl ⟨rfl, Or.inl (by rw [hy]; exact zT_of (zT_p1 (List.mem_of_getElem? (i := 157) rfl)) rfl)⟩⟩
theorem kP98 {y : MethodName} (hy : y.cls = "DepotServer$Work") : zFp y 31 5 4 := ⟨RWork, TWork, 12, rfl, by decide, Or.inl ⟨rfl, Or.inl (by rw [hy]; exact zT_of (zT_p1 (List.mem_of_getElem? (i := 159) rfl)) rfl)⟩⟩
theorem kP99 {y : MethodName} (hy : y.cls = "DepotServer$Work") : zFp y 34 5 5 := ⟨RWork, TWork, 12, rfl, by decide, Or.inl ⟨rfl, Or.inl (by rw [hy]; exact zT_of (zT_p1 (List.mem_of_getElem? (i := 161) rfl)) rfl)⟩⟩
theorem kP100 {y : MethodName} (hy : y.cls = "DepotServer$Work") : zFp y 38 5 1 := ⟨RWork, TWork, 12, rfl, by decide, Or.inl ⟨rfl, Or.inl (by rw [hy]; exact zT_of (zT_p1 (List.mem_of_getElem? (i := 153) rfl)) rfl)⟩⟩
theorem kF115 : zFl "DepotServer$Work" 41 5 0 := ⟨RWork, TWork, 12, rfl, by decide, Or.inl (zT_of (zT_p1 (List.mem_of_getElem? (i := 151) rfl)) rfl)⟩
theorem kP101 {y : MethodName} (hy : y.cls = "DepotServer$Work") : zFp y 44 5 10 := ⟨RWork, TWork, 12, rfl, by decide, Or.inl ⟨rfl, Or.inl (by rw [hy]; exact zT_of (zT_p1 (List.mem_of_getElem? (i := 171) rfl)) rfl)⟩⟩
theorem kP102 {y : MethodName} (hy : y.cls = "DepotServer$Work") : zFp y 47 5 11 := ⟨RWork, TWork, 12, rfl, by decide, Or.inl ⟨rfl, Or.inl (by rw [hy]; exact zT_of (zT_p1 (List.mem_of_getElem? (i := 173) rfl)) rfl)⟩⟩
theorem kP103 {y : MethodName} (hy : y.cls = "DepotServer$Work") : zFp y 41 5 0 := ⟨RWork, TWork, 12, rfl, by decide, Or.inl ⟨rfl, Or.inl (by rw [hy]; exact zT_of (zT_p1 (List.mem_of_getElem? (i := 151) rfl)) rfl)⟩⟩
theorem kP104 {y : MethodName} (hy : y.cls = "DepotServer$Work") : zFp y 28 5 6 := ⟨RWork, TWork, 12, rfl, by decide, Or.inl ⟨rfl, Or.inl (by rw [hy]; exact zT_of (zT_p1 (List.mem_of_getElem? (i := 163) rfl)) rfl)⟩⟩
theorem kF116 : zFl "DepotServer$Work" 50 5 8 := ⟨RWork, TWork, 12, rfl, by decide, Or.inl (zT_of (zT_p1 (List.mem_of_getElem? (i := 167) rfl)) rfl)⟩
theorem kV103 : zVl "DepotServer$Work" 53 mWork_giveCredit 3 5 := ⟨Or.inl (zT_of (zT_p2 (List.mem_of_getElem? (i := 129) rfl)) rfl), zT_of (zT_p2 (List.mem_of_getElem? (i := 130) rfl)) rfl, zT_of (zT_p2 (List.mem_of_getElem? (i := 131) rfl)) rfl, kY32, TWork, 12, rfl⟩
theorem kP105 {y : MethodName} (hy : y.cls = "DepotServer$Work") : zFp y 50 5 8 := ⟨RWork, TWork, 12, rfl, by decide, Or.inl ⟨rfl, Or.inl (by rw [hy]; exact zT_of (zT_p1 (List.mem_of_getElem? (i := 167) rfl)) rfl)⟩⟩
theorem kF117 : zFl "DepotServer$Work" 31 5 4 := ⟨RWork, TWork, 12, rfl, by decide, Or.inl (zT_of (zT_p1 (List.mem_of_getElem? (i := 159) rfl)) rfl)⟩
theorem kF118 : zFl "DepotServer$Work" 18 5 9 := ⟨RWork, TWork, 12, rfl, by decide, Or.inl (zT_of (zT_p1 (List.mem_of_getElem? (i := 169) rfl)) rfl)⟩
theorem kF119 : zFl "DepotServer$Work" 38 5 1 := ⟨RWork, TWork, 12, rfl, by decide, Or.inl (zT_of (zT_p1 (List.mem_of_getElem? (i := 153) rfl)) rfl)⟩
theorem kF120 : zFl "DepotServer$Work" 34 5 5 := ⟨RWork, TWork, 12, rfl, by decide, Or.inl (zT_of (zT_p1 (List.mem_of_getElem? (i := 161) rfl)) rfl)⟩
theorem kF121 : zFl "DepotServer$Work" 44 5 10 := ⟨RWork, TWork, 12, rfl, by decide, Or.inl (zT_of (zT_p1 (List.mem_of_getElem? (i := 171) rfl)) rfl)⟩
theorem kF122 : zFl "DepotServer$Work" 47 5 11 := ⟨RWork, TWork, 12, rfl, by decide, Or.inl (zT_of (zT_p1 (List.mem_of_getElem? (i := 173) rfl)) rfl)⟩
theorem kN13 : zNl "DepotServerLaw" 7 8 5 := ⟨RD, TD, rfl, zT_of (zT_p1 (List.mem_of_getElem? (i := 13) rfl)) rfl⟩
theorem kY114 : zYok mD_init 0 := ⟨zT_of (zT_p1 (List.mem_of_getElem? (i := 17) rfl)) rfl, zT_of (zT_p1 (List.mem_of_getElem? (i := 1) rfl)) rfl, ⟨by decide, by decide⟩, by decide +kernel, by decide⟩
theorem kI13 : zIl "DepotServerLaw" 9 mD_init 0 := ⟨Or.inl (zT_of (zT_p1 (List.mem_of_getElem? (i := 15) rfl)) rfl), rfl, zT_of (zT_p1 (List.mem_of_getElem? (i := 16) rfl)) rfl, rfl, kY114⟩
theorem kN14 : zNl "DepotServerLaw" 10 9 45 := ⟨RM, TM, rfl, zT_of (zT_p3 (List.mem_of_getElem? (i := 162) rfl)) rfl⟩
theorem kY115 : zYok mM_init 0 := ⟨zT_of (zT_p3 (List.mem_of_getElem? (i := 166) rfl)) rfl, zT_of (zT_p1 (List.mem_of_getElem? (i := 10) rfl)) rfl, ⟨by decide, by decide⟩, by decide +kernel, by decide⟩
theorem kI14 : zIl "DepotServerLaw" 12 mM_init 0 := ⟨Or.inl (zT_of (zT_p3 (List.mem_of_getElem? (i := 164) rfl)) rfl), rfl, zT_of (zT_p3 (List.mem_of_getElem? (i := 165) rfl)) rfl, rfl, kY115⟩
theorem kY116 : zYok mD_write 1 := ⟨zT_of (zT_p2 (List.mem_of_getElem? (i := 28) rfl)) rfl, zT_of (zT_p1 (List.mem_of_getElem? (i := 1) rfl)) rfl, ⟨by decide, by decide⟩, by decide +kernel, by decide⟩
theorem kV104 : zVl "DepotServerLaw" 13 mD_write 1 8 := ⟨Or.inl (zT_of (zT_p2 (List.mem_of_getElem? (i := 25) rfl)) rfl), zT_of (zT_p2 (List.mem_of_getElem? (i := 26) rfl)) rfl, zT_of (zT_p2 (List.mem_of_getElem? (i := 27) rfl)) rfl, kY116, TD, 5, rfl⟩
theorem kY117 : zYok mM_write 1 := ⟨zT_of (zT_p4 (List.mem_of_getElem? (i := 67) rfl)) rfl, zT_of (zT_p1 (List.mem_of_getElem? (i := 10) rfl)) rfl, ⟨by decide, by decide⟩, by decide +kernel, by decide⟩
theorem kV105 : zVl "DepotServerLaw" 17 mM_write 1 9 := ⟨Or.inl (zT_of (zT_p4 (List.mem_of_getElem? (i := 64) rfl)) rfl), zT_of (zT_p4 (List.mem_of_getElem? (i := 65) rfl)) rfl, zT_of (zT_p4 (List.mem_of_getElem? (i := 66) rfl)) rfl, kY117, TM, 45, rfl⟩
theorem kY118 : zYok mD_file 0 := ⟨zT_of (zT_p2 (List.mem_of_getElem? (i := 36) rfl)) rfl, zT_of (zT_p1 (List.mem_of_getElem? (i := 1) rfl)) rfl, ⟨by decide, by decide⟩, by decide +kernel, by decide⟩
theorem kV106 : zVl "DepotServerLaw" 18 mD_file 0 8 := ⟨Or.inl (zT_of (zT_p2 (List.mem_of_getElem? (i := 33) rfl)) rfl), zT_of (zT_p2 (List.mem_of_getElem? (i := 34) rfl)) rfl, zT_of (zT_p2 (List.mem_of_getElem? (i := 35) rfl)) rfl, kY118, TD, 5, rfl⟩
theorem kY119 : zYok mM_file 0 := ⟨zT_of (zT_p4 (List.mem_of_getElem? (i := 71) rfl)) rfl, zT_of (zT_p1 (List.mem_of_getElem? (i := 10) rfl)) rfl, ⟨by decide, by decide⟩, by decide +kernel, by decide⟩
theorem kV107 : zVl "DepotServerLaw" 22 mM_file 0 9 := ⟨Or.inl (zT_of (zT_p4 (List.mem_of_getElem? (i := 68) rfl)) rfl), zT_of (zT_p4 (List.mem_of_getElem? (i := 69) rfl)) rfl, zT_of (zT_p4 (List.mem_of_getElem? (i := 70) rfl)) rfl, kY119, TM, 45, rfl⟩
theorem kY120 : zYok mD_line 0 := ⟨zT_of (zT_p2 (List.mem_of_getElem? (i := 72) rfl)) rfl, zT_of (zT_p1 (List.mem_of_getElem? (i := 1) rfl)) rfl, ⟨by decide, by decide⟩, by decide +kernel, by decide⟩
theorem kV108 : zVl "DepotServerLaw" 23 mD_line 0 8 := ⟨Or.inl (zT_of (zT_p2 (List.mem_of_getElem? (i := 69) rfl)) rfl), zT_of (zT_p2 (List.mem_of_getElem? (i := 70) rfl)) rfl, zT_of (zT_p2 (List.mem_of_getElem? (i := 71) rfl)) rfl, kY120, TD, 5, rfl⟩
theorem kY121 : zYok mM_line 0 := ⟨zT_of (zT_p4 (List.mem_of_getElem? (i := 86) rfl)) rfl, zT_of (zT_p1 (List.mem_of_getElem? (i := 10) rfl)) rfl, ⟨by decide, by decide⟩, by decide +kernel, by decide⟩
theorem kV109 : zVl "DepotServerLaw" 26 mM_line 0 9 := ⟨Or.inl (zT_of (zT_p4 (List.mem_of_getElem? (i := 83) rfl)) rfl), zT_of (zT_p4 (List.mem_of_getElem? (i := 84) rfl)) rfl, zT_of (zT_p4 (List.mem_of_getElem? (i := 85) rfl)) rfl, kY121, TM, 45, rfl⟩
theorem kY122 : zYok mD_view 3 := ⟨zT_of (zT_p2 (List.mem_of_getElem? (i := 106) rfl)) rfl, zT_of (zT_p1 (List.mem_of_getElem? (i := 1) rfl)) rfl, ⟨by decide, by decide⟩, by decide +kernel, by decide⟩
theorem kV110 : zVl "DepotServerLaw" 27 mD_view 3 8 := ⟨Or.inl (zT_of (zT_p2 (List.mem_of_getElem? (i := 103) rfl)) rfl), zT_of (zT_p2 (List.mem_of_getElem? (i := 104) rfl)) rfl, zT_of (zT_p2 (List.mem_of_getElem? (i := 105) rfl)) rfl, kY122, TD, 5, rfl⟩
theorem kY123 : zYok mM_view 3 := ⟨zT_of (zT_p5 (List.mem_of_getElem? (i := 4) rfl)) rfl, zT_of (zT_p1 (List.mem_of_getElem? (i := 10) rfl)) rfl, ⟨by decide, by decide⟩, by decide +kernel, by decide⟩
theorem kV111 : zVl "DepotServerLaw" 31 mM_view 3 9 := ⟨Or.inl (zT_of (zT_p5 (List.mem_of_getElem? (i := 1) rfl)) rfl), zT_of (zT_p5 (List.mem_of_getElem? (i := 2) rfl)) rfl, zT_of (zT_p5 (List.mem_of_getElem? (i := 3) rfl)) rfl, kY123, TM, 45, rfl⟩
theorem kY124 : zYok mD_add 4 := ⟨zT_of (zT_p2 (List.mem_of_getElem? (i := 195) rfl)) rfl, zT_of (zT_p1 (List.mem_of_getElem? (i := 1) rfl)) rfl, ⟨by decide, by decide⟩, by decide +kernel, by decide⟩
theorem kV112 : zVl "DepotServerLaw" 32 mD_add 4 8 := ⟨Or.inl (zT_of (zT_p2 (List.mem_of_getElem? (i := 192) rfl)) rfl), zT_of (zT_p2 (List.mem_of_getElem? (i := 193) rfl)) rfl, zT_of (zT_p2 (List.mem_of_getElem? (i := 194) rfl)) rfl, kY124, TD, 5, rfl⟩
theorem kY125 : zYok mM_add 4 := ⟨zT_of (zT_p5 (List.mem_of_getElem? (i := 12) rfl)) rfl, zT_of (zT_p1 (List.mem_of_getElem? (i := 10) rfl)) rfl, ⟨by decide, by decide⟩, by decide +kernel, by decide⟩
theorem kV113 : zVl "DepotServerLaw" 36 mM_add 4 9 := ⟨Or.inl (zT_of (zT_p5 (List.mem_of_getElem? (i := 9) rfl)) rfl), zT_of (zT_p5 (List.mem_of_getElem? (i := 10) rfl)) rfl, zT_of (zT_p5 (List.mem_of_getElem? (i := 11) rfl)) rfl, kY125, TM, 45, rfl⟩
theorem kY126 : zYok mD_edit 3 := ⟨zT_of (zT_p2 (List.mem_of_getElem? (i := 222) rfl)) rfl, zT_of (zT_p1 (List.mem_of_getElem? (i := 1) rfl)) rfl, ⟨by decide, by decide⟩, by decide +kernel, by decide⟩
theorem kV114 : zVl "DepotServerLaw" 37 mD_edit 3 8 := ⟨Or.inl (zT_of (zT_p2 (List.mem_of_getElem? (i := 219) rfl)) rfl), zT_of (zT_p2 (List.mem_of_getElem? (i := 220) rfl)) rfl, zT_of (zT_p2 (List.mem_of_getElem? (i := 221) rfl)) rfl, kY126, TD, 5, rfl⟩
theorem kY127 : zYok mM_edit 3 := ⟨zT_of (zT_p5 (List.mem_of_getElem? (i := 23) rfl)) rfl, zT_of (zT_p1 (List.mem_of_getElem? (i := 10) rfl)) rfl, ⟨by decide, by decide⟩, by decide +kernel, by decide⟩
theorem kV115 : zVl "DepotServerLaw" 41 mM_edit 3 9 := ⟨Or.inl (zT_of (zT_p5 (List.mem_of_getElem? (i := 20) rfl)) rfl), zT_of (zT_p5 (List.mem_of_getElem? (i := 21) rfl)) rfl, zT_of (zT_p5 (List.mem_of_getElem? (i := 22) rfl)) rfl, kY127, TM, 45, rfl⟩
theorem kY128 : zYok mD_remove 3 := ⟨zT_of (zT_p2 (List.mem_of_getElem? (i := 234) rfl)) rfl, zT_of (zT_p1 (List.mem_of_getElem? (i := 1) rfl)) rfl, ⟨by decide, by decide⟩, by decide +kernel, by decide⟩
theorem kV116 : zVl "DepotServerLaw" 42 mD_remove 3 8 := ⟨Or.inl (zT_of (zT_p2 (List.mem_of_getElem? (i := 231) rfl)) rfl), zT_of (zT_p2 (List.mem_of_getElem? (i := 232) rfl)) rfl, zT_of (zT_p2 (List.mem_of_getElem? (i := 233) rfl)) rfl, kY128, TD, 5, rfl⟩
theorem kY129 : zYok mM_remove 3 := ⟨zT_of (zT_p5 (List.mem_of_getElem? (i := 31) rfl)) rfl, zT_of (zT_p1 (List.mem_of_getElem? (i := 10) rfl)) rfl, ⟨by decide, by decide⟩, by decide +kernel, by decide⟩
theorem kV117 : zVl "DepotServerLaw" 45 mM_remove 3 9 := ⟨Or.inl (zT_of (zT_p5 (List.mem_of_getElem? (i := 28) rfl)) rfl), zT_of (zT_p5 (List.mem_of_getElem? (i := 29) rfl)) rfl, zT_of (zT_p5 (List.mem_of_getElem? (i := 30) rfl)) rfl, kY129, TM, 45, rfl⟩
theorem kY130 : zYok mD_store 3 := ⟨zT_of (zT_p2 (List.mem_of_getElem? (i := 238) rfl)) rfl, zT_of (zT_p1 (List.mem_of_getElem? (i := 1) rfl)) rfl, ⟨by decide, by decide⟩, by decide +kernel, by decide⟩
theorem kV118 : zVl "DepotServerLaw" 46 mD_store 3 8 := ⟨Or.inl (zT_of (zT_p2 (List.mem_of_getElem? (i := 235) rfl)) rfl), zT_of (zT_p2 (List.mem_of_getElem? (i := 236) rfl)) rfl, zT_of (zT_p2 (List.mem_of_getElem? (i := 237) rfl)) rfl, kY130, TD, 5, rfl⟩
theorem kY131 : zYok mM_store 3 := ⟨zT_of (zT_p5 (List.mem_of_getElem? (i := 35) rfl)) rfl, zT_of (zT_p1 (List.mem_of_getElem? (i := 10) rfl)) rfl, ⟨by decide, by decide⟩, by decide +kernel, by decide⟩
theorem kV119 : zVl "DepotServerLaw" 49 mM_store 3 9 := ⟨Or.inl (zT_of (zT_p5 (List.mem_of_getElem? (i := 32) rfl)) rfl), zT_of (zT_p5 (List.mem_of_getElem? (i := 33) rfl)) rfl, zT_of (zT_p5 (List.mem_of_getElem? (i := 34) rfl)) rfl, kY131, TM, 45, rfl⟩
theorem kY132 : zYok mD_reopen 3 := ⟨zT_of (zT_p3 (List.mem_of_getElem? (i := 6) rfl)) rfl, zT_of (zT_p1 (List.mem_of_getElem? (i := 1) rfl)) rfl, ⟨by decide, by decide⟩, by decide +kernel, by decide⟩
theorem kV120 : zVl "DepotServerLaw" 50 mD_reopen 3 8 := ⟨Or.inl (zT_of (zT_p3 (List.mem_of_getElem? (i := 3) rfl)) rfl), zT_of (zT_p3 (List.mem_of_getElem? (i := 4) rfl)) rfl, zT_of (zT_p3 (List.mem_of_getElem? (i := 5) rfl)) rfl, kY132, TD, 5, rfl⟩
theorem kY133 : zYok mM_reopen 3 := ⟨zT_of (zT_p5 (List.mem_of_getElem? (i := 43) rfl)) rfl, zT_of (zT_p1 (List.mem_of_getElem? (i := 10) rfl)) rfl, ⟨by decide, by decide⟩, by decide +kernel, by decide⟩
theorem kV121 : zVl "DepotServerLaw" 53 mM_reopen 3 9 := ⟨Or.inl (zT_of (zT_p5 (List.mem_of_getElem? (i := 40) rfl)) rfl), zT_of (zT_p5 (List.mem_of_getElem? (i := 41) rfl)) rfl, zT_of (zT_p5 (List.mem_of_getElem? (i := 42) rfl)) rfl, kY133, TM, 45, rfl⟩
theorem kY134 : zYok mD_revert 2 := ⟨zT_of (zT_p3 (List.mem_of_getElem? (i := 10) rfl)) rfl, zT_of (zT_p1 (List.mem_of_getElem? (i := 1) rfl)) rfl, ⟨by decide, by decide⟩, by decide +kernel, by decide⟩
theorem kV122 : zVl "DepotServerLaw" 54 mD_revert 2 8 := ⟨Or.inl (zT_of (zT_p3 (List.mem_of_getElem? (i := 7) rfl)) rfl), zT_of (zT_p3 (List.mem_of_getElem? (i := 8) rfl)) rfl, zT_of (zT_p3 (List.mem_of_getElem? (i := 9) rfl)) rfl, kY134, TD, 5, rfl⟩
theorem kY135 : zYok mM_revert 2 := ⟨zT_of (zT_p5 (List.mem_of_getElem? (i := 47) rfl)) rfl, zT_of (zT_p1 (List.mem_of_getElem? (i := 10) rfl)) rfl, ⟨by decide, by decide⟩, by decide +kernel, by decide⟩
theorem kV123 : zVl "DepotServerLaw" 58 mM_revert 2 9 := ⟨Or.inl (zT_of (zT_p5 (List.mem_of_getElem? (i := 44) rfl)) rfl), zT_of (zT_p5 (List.mem_of_getElem? (i := 45) rfl)) rfl, zT_of (zT_p5 (List.mem_of_getElem? (i := 46) rfl)) rfl, kY135, TM, 45, rfl⟩
theorem kY136 : zYok mD_sync 2 := ⟨zT_of (zT_p3 (List.mem_of_getElem? (i := 26) rfl)) rfl, zT_of (zT_p1 (List.mem_of_getElem? (i := 1) rfl)) rfl, ⟨by decide, by decide⟩, by decide +kernel, by decide⟩
theorem kV124 : zVl "DepotServerLaw" 59 mD_sync 2 8 := ⟨Or.inl (zT_of (zT_p3 (List.mem_of_getElem? (i := 23) rfl)) rfl), zT_of (zT_p3 (List.mem_of_getElem? (i := 24) rfl)) rfl, zT_of (zT_p3 (List.mem_of_getElem? (i := 25) rfl)) rfl, kY136, TD, 5, rfl⟩
theorem kY137 : zYok mM_sync 2 := ⟨zT_of (zT_p5 (List.mem_of_getElem? (i := 51) rfl)) rfl, zT_of (zT_p1 (List.mem_of_getElem? (i := 10) rfl)) rfl, ⟨by decide, by decide⟩, by decide +kernel, by decide⟩
theorem kV125 : zVl "DepotServerLaw" 63 mM_sync 2 9 := ⟨Or.inl (zT_of (zT_p5 (List.mem_of_getElem? (i := 48) rfl)) rfl), zT_of (zT_p5 (List.mem_of_getElem? (i := 49) rfl)) rfl, zT_of (zT_p5 (List.mem_of_getElem? (i := 50) rfl)) rfl, kY137, TM, 45, rfl⟩
theorem kY138 : zYok mD_join 4 := ⟨zT_of (zT_p3 (List.mem_of_getElem? (i := 42) rfl)) rfl, zT_of (zT_p1 (List.mem_of_getElem? (i := 1) rfl)) rfl, ⟨by decide, by decide⟩, by decide +kernel, by decide⟩
theorem kV126 : zVl "DepotServerLaw" 64 mD_join 4 8 := ⟨Or.inl (zT_of (zT_p3 (List.mem_of_getElem? (i := 39) rfl)) rfl), zT_of (zT_p3 (List.mem_of_getElem? (i := 40) rfl)) rfl, zT_of (zT_p3 (List.mem_of_getElem? (i := 41) rfl)) rfl, kY138, TD, 5, rfl⟩
theorem kY139 : zYok mM_join 4 := ⟨zT_of (zT_p5 (List.mem_of_getElem? (i := 55) rfl)) rfl, zT_of (zT_p1 (List.mem_of_getElem? (i := 10) rfl)) rfl, ⟨by decide, by decide⟩, by decide +kernel, by decide⟩
theorem kV127 : zVl "DepotServerLaw" 68 mM_join 4 9 := ⟨Or.inl (zT_of (zT_p5 (List.mem_of_getElem? (i := 52) rfl)) rfl), zT_of (zT_p5 (List.mem_of_getElem? (i := 53) rfl)) rfl, zT_of (zT_p5 (List.mem_of_getElem? (i := 54) rfl)) rfl, kY139, TM, 45, rfl⟩
theorem kY140 : zYok mD_resolve 3 := ⟨zT_of (zT_p3 (List.mem_of_getElem? (i := 55) rfl)) rfl, zT_of (zT_p1 (List.mem_of_getElem? (i := 1) rfl)) rfl, ⟨by decide, by decide⟩, by decide +kernel, by decide⟩
theorem kV128 : zVl "DepotServerLaw" 69 mD_resolve 3 8 := ⟨Or.inl (zT_of (zT_p3 (List.mem_of_getElem? (i := 52) rfl)) rfl), zT_of (zT_p3 (List.mem_of_getElem? (i := 53) rfl)) rfl, zT_of (zT_p3 (List.mem_of_getElem? (i := 54) rfl)) rfl, kY140, TD, 5, rfl⟩
theorem kY141 : zYok mM_resolve 3 := ⟨zT_of (zT_p5 (List.mem_of_getElem? (i := 59) rfl)) rfl, zT_of (zT_p1 (List.mem_of_getElem? (i := 10) rfl)) rfl, ⟨by decide, by decide⟩, by decide +kernel, by decide⟩
theorem kV129 : zVl "DepotServerLaw" 72 mM_resolve 3 9 := ⟨Or.inl (zT_of (zT_p5 (List.mem_of_getElem? (i := 56) rfl)) rfl), zT_of (zT_p5 (List.mem_of_getElem? (i := 57) rfl)) rfl, zT_of (zT_p5 (List.mem_of_getElem? (i := 58) rfl)) rfl, kY141, TM, 45, rfl⟩
theorem kY142 : zYok mD_submit 2 := ⟨zT_of (zT_p3 (List.mem_of_getElem? (i := 81) rfl)) rfl, zT_of (zT_p1 (List.mem_of_getElem? (i := 1) rfl)) rfl, ⟨by decide, by decide⟩, by decide +kernel, by decide⟩
theorem kV130 : zVl "DepotServerLaw" 73 mD_submit 2 8 := ⟨Or.inl (zT_of (zT_p3 (List.mem_of_getElem? (i := 78) rfl)) rfl), zT_of (zT_p3 (List.mem_of_getElem? (i := 79) rfl)) rfl, zT_of (zT_p3 (List.mem_of_getElem? (i := 80) rfl)) rfl, kY142, TD, 5, rfl⟩
theorem kY143 : zYok mM_submit 2 := ⟨zT_of (zT_p5 (List.mem_of_getElem? (i := 66) rfl)) rfl, zT_of (zT_p1 (List.mem_of_getElem? (i := 10) rfl)) rfl, ⟨by decide, by decide⟩, by decide +kernel, by decide⟩
theorem kV131 : zVl "DepotServerLaw" 76 mM_submit 2 9 := ⟨Or.inl (zT_of (zT_p5 (List.mem_of_getElem? (i := 63) rfl)) rfl), zT_of (zT_p5 (List.mem_of_getElem? (i := 64) rfl)) rfl, zT_of (zT_p5 (List.mem_of_getElem? (i := 65) rfl)) rfl, kY143, TM, 45, rfl⟩
theorem kY144 : zYok mD_crash 1 := ⟨zT_of (zT_p3 (List.mem_of_getElem? (i := 113) rfl)) rfl, zT_of (zT_p1 (List.mem_of_getElem? (i := 1) rfl)) rfl, ⟨by decide, by decide⟩, by decide +kernel, by decide⟩
theorem kV132 : zVl "DepotServerLaw" 77 mD_crash 1 8 := ⟨Or.inl (zT_of (zT_p3 (List.mem_of_getElem? (i := 110) rfl)) rfl), zT_of (zT_p3 (List.mem_of_getElem? (i := 111) rfl)) rfl, zT_of (zT_p3 (List.mem_of_getElem? (i := 112) rfl)) rfl, kY144, TD, 5, rfl⟩
theorem kY145 : zYok mM_crash 1 := ⟨zT_of (zT_p4 (List.mem_of_getElem? (i := 164) rfl)) rfl, zT_of (zT_p1 (List.mem_of_getElem? (i := 10) rfl)) rfl, ⟨by decide, by decide⟩, by decide +kernel, by decide⟩
theorem kV133 : zVl "DepotServerLaw" 81 mM_crash 1 9 := ⟨Or.inl (zT_of (zT_p4 (List.mem_of_getElem? (i := 161) rfl)) rfl), zT_of (zT_p4 (List.mem_of_getElem? (i := 162) rfl)) rfl, zT_of (zT_p4 (List.mem_of_getElem? (i := 163) rfl)) rfl, kY145, TM, 45, rfl⟩
theorem kY146 : zYok mD_journal 0 := ⟨zT_of (zT_p3 (List.mem_of_getElem? (i := 121) rfl)) rfl, zT_of (zT_p1 (List.mem_of_getElem? (i := 1) rfl)) rfl, ⟨by decide, by decide⟩, by decide +kernel, by decide⟩
theorem kV134 : zVl "DepotServerLaw" 82 mD_journal 0 8 := ⟨Or.inl (zT_of (zT_p3 (List.mem_of_getElem? (i := 118) rfl)) rfl), zT_of (zT_p3 (List.mem_of_getElem? (i := 119) rfl)) rfl, zT_of (zT_p3 (List.mem_of_getElem? (i := 120) rfl)) rfl, kY146, TD, 5, rfl⟩
theorem kY147 : zYok mM_journal 0 := ⟨zT_of (zT_p5 (List.mem_of_getElem? (i := 0) rfl)) rfl, zT_of (zT_p1 (List.mem_of_getElem? (i := 10) rfl)) rfl, ⟨by decide, by decide⟩, by decide +kernel, by decide⟩
theorem kV135 : zVl "DepotServerLaw" 85 mM_journal 0 9 := ⟨Or.inl (zT_of (zT_p4 (List.mem_of_getElem? (i := 237) rfl)) rfl), zT_of (zT_p4 (List.mem_of_getElem? (i := 238) rfl)) rfl, zT_of (zT_p4 (List.mem_of_getElem? (i := 239) rfl)) rfl, kY147, TM, 45, rfl⟩
theorem kY148 : zYok mD_changes 0 := ⟨zT_of (zT_p3 (List.mem_of_getElem? (i := 125) rfl)) rfl, zT_of (zT_p1 (List.mem_of_getElem? (i := 1) rfl)) rfl, ⟨by decide, by decide⟩, by decide +kernel, by decide⟩
theorem kV136 : zVl "DepotServerLaw" 86 mD_changes 0 8 := ⟨Or.inl (zT_of (zT_p3 (List.mem_of_getElem? (i := 122) rfl)) rfl), zT_of (zT_p3 (List.mem_of_getElem? (i := 123) rfl)) rfl, zT_of (zT_p3 (List.mem_of_getElem? (i := 124) rfl)) rfl, kY148, TD, 5, rfl⟩
theorem kY149 : zYok mM_changes 0 := ⟨zT_of (zT_p5 (List.mem_of_getElem? (i := 70) rfl)) rfl, zT_of (zT_p1 (List.mem_of_getElem? (i := 10) rfl)) rfl, ⟨by decide, by decide⟩, by decide +kernel, by decide⟩
theorem kV137 : zVl "DepotServerLaw" 89 mM_changes 0 9 := ⟨Or.inl (zT_of (zT_p5 (List.mem_of_getElem? (i := 67) rfl)) rfl), zT_of (zT_p5 (List.mem_of_getElem? (i := 68) rfl)) rfl, zT_of (zT_p5 (List.mem_of_getElem? (i := 69) rfl)) rfl, kY149, TM, 45, rfl⟩
theorem kY150 : zYok mD_joins 0 := ⟨zT_of (zT_p3 (List.mem_of_getElem? (i := 129) rfl)) rfl, zT_of (zT_p1 (List.mem_of_getElem? (i := 1) rfl)) rfl, ⟨by decide, by decide⟩, by decide +kernel, by decide⟩
theorem kV138 : zVl "DepotServerLaw" 90 mD_joins 0 8 := ⟨Or.inl (zT_of (zT_p3 (List.mem_of_getElem? (i := 126) rfl)) rfl), zT_of (zT_p3 (List.mem_of_getElem? (i := 127) rfl)) rfl, zT_of (zT_p3 (List.mem_of_getElem? (i := 128) rfl)) rfl, kY150, TD, 5, rfl⟩
theorem kY151 : zYok mM_joins 0 := ⟨zT_of (zT_p5 (List.mem_of_getElem? (i := 74) rfl)) rfl, zT_of (zT_p1 (List.mem_of_getElem? (i := 10) rfl)) rfl, ⟨by decide, by decide⟩, by decide +kernel, by decide⟩
theorem kV139 : zVl "DepotServerLaw" 93 mM_joins 0 9 := ⟨Or.inl (zT_of (zT_p5 (List.mem_of_getElem? (i := 71) rfl)) rfl), zT_of (zT_p5 (List.mem_of_getElem? (i := 72) rfl)) rfl, zT_of (zT_p5 (List.mem_of_getElem? (i := 73) rfl)) rfl, kY151, TM, 45, rfl⟩
theorem kY152 : zYok mD_head 1 := ⟨zT_of (zT_p3 (List.mem_of_getElem? (i := 133) rfl)) rfl, zT_of (zT_p1 (List.mem_of_getElem? (i := 1) rfl)) rfl, ⟨by decide, by decide⟩, by decide +kernel, by decide⟩
theorem kV140 : zVl "DepotServerLaw" 94 mD_head 1 8 := ⟨Or.inl (zT_of (zT_p3 (List.mem_of_getElem? (i := 130) rfl)) rfl), zT_of (zT_p3 (List.mem_of_getElem? (i := 131) rfl)) rfl, zT_of (zT_p3 (List.mem_of_getElem? (i := 132) rfl)) rfl, kY152, TD, 5, rfl⟩
theorem kV141 : zVl "DepotServerLaw" 97 mM_head 1 9 := ⟨Or.inl (zT_of (zT_p4 (List.mem_of_getElem? (i := 145) rfl)) rfl), zT_of (zT_p4 (List.mem_of_getElem? (i := 146) rfl)) rfl, zT_of (zT_p4 (List.mem_of_getElem? (i := 147) rfl)) rfl, kY70, TM, 45, rfl⟩
theorem kY153 : zYok mD_revision 3 := ⟨zT_of (zT_p3 (List.mem_of_getElem? (i := 137) rfl)) rfl, zT_of (zT_p1 (List.mem_of_getElem? (i := 1) rfl)) rfl, ⟨by decide, by decide⟩, by decide +kernel, by decide⟩
theorem kV142 : zVl "DepotServerLaw" 98 mD_revision 3 8 := ⟨Or.inl (zT_of (zT_p3 (List.mem_of_getElem? (i := 134) rfl)) rfl), zT_of (zT_p3 (List.mem_of_getElem? (i := 135) rfl)) rfl, zT_of (zT_p3 (List.mem_of_getElem? (i := 136) rfl)) rfl, kY153, TD, 5, rfl⟩
theorem kY154 : zYok mM_revision 3 := ⟨zT_of (zT_p4 (List.mem_of_getElem? (i := 152) rfl)) rfl, zT_of (zT_p1 (List.mem_of_getElem? (i := 10) rfl)) rfl, ⟨by decide, by decide⟩, by decide +kernel, by decide⟩
theorem kV143 : zVl "DepotServerLaw" 101 mM_revision 3 9 := ⟨Or.inl (zT_of (zT_p4 (List.mem_of_getElem? (i := 149) rfl)) rfl), zT_of (zT_p4 (List.mem_of_getElem? (i := 150) rfl)) rfl, zT_of (zT_p4 (List.mem_of_getElem? (i := 151) rfl)) rfl, kY154, TM, 45, rfl⟩
theorem kY155 : zYok mD_have 2 := ⟨zT_of (zT_p3 (List.mem_of_getElem? (i := 145) rfl)) rfl, zT_of (zT_p1 (List.mem_of_getElem? (i := 1) rfl)) rfl, ⟨by decide, by decide⟩, by decide +kernel, by decide⟩
theorem kV144 : zVl "DepotServerLaw" 102 mD_have 2 8 := ⟨Or.inl (zT_of (zT_p3 (List.mem_of_getElem? (i := 142) rfl)) rfl), zT_of (zT_p3 (List.mem_of_getElem? (i := 143) rfl)) rfl, zT_of (zT_p3 (List.mem_of_getElem? (i := 144) rfl)) rfl, kY155, TD, 5, rfl⟩
theorem kY156 : zYok mM_have 2 := ⟨zT_of (zT_p5 (List.mem_of_getElem? (i := 78) rfl)) rfl, zT_of (zT_p1 (List.mem_of_getElem? (i := 10) rfl)) rfl, ⟨by decide, by decide⟩, by decide +kernel, by decide⟩
theorem kV145 : zVl "DepotServerLaw" 105 mM_have 2 9 := ⟨Or.inl (zT_of (zT_p5 (List.mem_of_getElem? (i := 75) rfl)) rfl), zT_of (zT_p5 (List.mem_of_getElem? (i := 76) rfl)) rfl, zT_of (zT_p5 (List.mem_of_getElem? (i := 77) rfl)) rfl, kY156, TM, 45, rfl⟩
theorem kY157 : zYok mD_text 2 := ⟨zT_of (zT_p3 (List.mem_of_getElem? (i := 149) rfl)) rfl, zT_of (zT_p1 (List.mem_of_getElem? (i := 1) rfl)) rfl, ⟨by decide, by decide⟩, by decide +kernel, by decide⟩
theorem kV146 : zVl "DepotServerLaw" 106 mD_text 2 8 := ⟨Or.inl (zT_of (zT_p3 (List.mem_of_getElem? (i := 146) rfl)) rfl), zT_of (zT_p3 (List.mem_of_getElem? (i := 147) rfl)) rfl, zT_of (zT_p3 (List.mem_of_getElem? (i := 148) rfl)) rfl, kY157, TD, 5, rfl⟩
theorem kY158 : zYok mM_text 2 := ⟨zT_of (zT_p5 (List.mem_of_getElem? (i := 82) rfl)) rfl, zT_of (zT_p1 (List.mem_of_getElem? (i := 10) rfl)) rfl, ⟨by decide, by decide⟩, by decide +kernel, by decide⟩
theorem kV147 : zVl "DepotServerLaw" 109 mM_text 2 9 := ⟨Or.inl (zT_of (zT_p5 (List.mem_of_getElem? (i := 79) rfl)) rfl), zT_of (zT_p5 (List.mem_of_getElem? (i := 80) rfl)) rfl, zT_of (zT_p5 (List.mem_of_getElem? (i := 81) rfl)) rfl, kY158, TM, 45, rfl⟩
theorem kY159 : zYok mD_opened 3 := ⟨zT_of (zT_p3 (List.mem_of_getElem? (i := 153) rfl)) rfl, zT_of (zT_p1 (List.mem_of_getElem? (i := 1) rfl)) rfl, ⟨by decide, by decide⟩, by decide +kernel, by decide⟩
theorem kV148 : zVl "DepotServerLaw" 110 mD_opened 3 8 := ⟨Or.inl (zT_of (zT_p3 (List.mem_of_getElem? (i := 150) rfl)) rfl), zT_of (zT_p3 (List.mem_of_getElem? (i := 151) rfl)) rfl, zT_of (zT_p3 (List.mem_of_getElem? (i := 152) rfl)) rfl, kY159, TD, 5, rfl⟩
theorem kY160 : zYok mM_opened 3 := ⟨zT_of (zT_p5 (List.mem_of_getElem? (i := 86) rfl)) rfl, zT_of (zT_p1 (List.mem_of_getElem? (i := 10) rfl)) rfl, ⟨by decide, by decide⟩, by decide +kernel, by decide⟩
theorem kV149 : zVl "DepotServerLaw" 113 mM_opened 3 9 := ⟨Or.inl (zT_of (zT_p5 (List.mem_of_getElem? (i := 83) rfl)) rfl), zT_of (zT_p5 (List.mem_of_getElem? (i := 84) rfl)) rfl, zT_of (zT_p5 (List.mem_of_getElem? (i := 85) rfl)) rfl, kY160, TM, 45, rfl⟩
theorem kY161 : zYok mD_joined 2 := ⟨zT_of (zT_p3 (List.mem_of_getElem? (i := 161) rfl)) rfl, zT_of (zT_p1 (List.mem_of_getElem? (i := 1) rfl)) rfl, ⟨by decide, by decide⟩, by decide +kernel, by decide⟩
theorem kV150 : zVl "DepotServerLaw" 114 mD_joined 2 8 := ⟨Or.inl (zT_of (zT_p3 (List.mem_of_getElem? (i := 158) rfl)) rfl), zT_of (zT_p3 (List.mem_of_getElem? (i := 159) rfl)) rfl, zT_of (zT_p3 (List.mem_of_getElem? (i := 160) rfl)) rfl, kY161, TD, 5, rfl⟩
theorem kY162 : zYok mM_joined 2 := ⟨zT_of (zT_p5 (List.mem_of_getElem? (i := 90) rfl)) rfl, zT_of (zT_p1 (List.mem_of_getElem? (i := 10) rfl)) rfl, ⟨by decide, by decide⟩, by decide +kernel, by decide⟩
theorem kV151 : zVl "DepotServerLaw" 117 mM_joined 2 9 := ⟨Or.inl (zT_of (zT_p5 (List.mem_of_getElem? (i := 87) rfl)) rfl), zT_of (zT_p5 (List.mem_of_getElem? (i := 88) rfl)) rfl, zT_of (zT_p5 (List.mem_of_getElem? (i := 89) rfl)) rfl, kY162, TM, 45, rfl⟩
theorem kY163 : zYok mD_mapped 2 := ⟨zT_of (zT_p2 (List.mem_of_getElem? (i := 139) rfl)) rfl, zT_of (zT_p1 (List.mem_of_getElem? (i := 1) rfl)) rfl, ⟨by decide, by decide⟩, by decide +kernel, by decide⟩
theorem kV152 : zVl "DepotServerLaw" 118 mD_mapped 2 8 := ⟨Or.inl (zT_of (zT_p2 (List.mem_of_getElem? (i := 136) rfl)) rfl), zT_of (zT_p2 (List.mem_of_getElem? (i := 137) rfl)) rfl, zT_of (zT_p2 (List.mem_of_getElem? (i := 138) rfl)) rfl, kY163, TD, 5, rfl⟩
theorem kV153 : zVl "DepotServerLaw" 121 mM_mapped 2 9 := ⟨Or.inl (zT_of (zT_p4 (List.mem_of_getElem? (i := 102) rfl)) rfl), zT_of (zT_p4 (List.mem_of_getElem? (i := 103) rfl)) rfl, zT_of (zT_p4 (List.mem_of_getElem? (i := 104) rfl)) rfl, kY85, TM, 45, rfl⟩
theorem kY164 : zYok mD_place 3 := ⟨zT_of (zT_p2 (List.mem_of_getElem? (i := 179) rfl)) rfl, zT_of (zT_p1 (List.mem_of_getElem? (i := 1) rfl)) rfl, ⟨by decide, by decide⟩, by decide +kernel, by decide⟩
theorem kV154 : zVl "DepotServerLaw" 122 mD_place 3 8 := ⟨Or.inl (zT_of (zT_p2 (List.mem_of_getElem? (i := 176) rfl)) rfl), zT_of (zT_p2 (List.mem_of_getElem? (i := 177) rfl)) rfl, zT_of (zT_p2 (List.mem_of_getElem? (i := 178) rfl)) rfl, kY164, TD, 5, rfl⟩
theorem kY165 : zYok mM_place 3 := ⟨zT_of (zT_p4 (List.mem_of_getElem? (i := 140) rfl)) rfl, zT_of (zT_p1 (List.mem_of_getElem? (i := 10) rfl)) rfl, ⟨by decide, by decide⟩, by decide +kernel, by decide⟩
theorem kV155 : zVl "DepotServerLaw" 125 mM_place 3 9 := ⟨Or.inl (zT_of (zT_p4 (List.mem_of_getElem? (i := 137) rfl)) rfl), zT_of (zT_p4 (List.mem_of_getElem? (i := 138) rfl)) rfl, zT_of (zT_p4 (List.mem_of_getElem? (i := 139) rfl)) rfl, kY165, TM, 45, rfl⟩
theorem kY166 : zYok mD_where 1 := ⟨zT_of (zT_p2 (List.mem_of_getElem? (i := 186) rfl)) rfl, zT_of (zT_p1 (List.mem_of_getElem? (i := 1) rfl)) rfl, ⟨by decide, by decide⟩, by decide +kernel, by decide⟩
theorem kV156 : zVl "DepotServerLaw" 126 mD_where 1 8 := ⟨Or.inl (zT_of (zT_p2 (List.mem_of_getElem? (i := 183) rfl)) rfl), zT_of (zT_p2 (List.mem_of_getElem? (i := 184) rfl)) rfl, zT_of (zT_p2 (List.mem_of_getElem? (i := 185) rfl)) rfl, kY166, TD, 5, rfl⟩
theorem kY167 : zYok mM_where 1 := ⟨zT_of (zT_p4 (List.mem_of_getElem? (i := 144) rfl)) rfl, zT_of (zT_p1 (List.mem_of_getElem? (i := 10) rfl)) rfl, ⟨by decide, by decide⟩, by decide +kernel, by decide⟩
theorem kV157 : zVl "DepotServerLaw" 129 mM_where 1 9 := ⟨Or.inl (zT_of (zT_p4 (List.mem_of_getElem? (i := 141) rfl)) rfl), zT_of (zT_p4 (List.mem_of_getElem? (i := 142) rfl)) rfl, zT_of (zT_p4 (List.mem_of_getElem? (i := 143) rfl)) rfl, kY167, TM, 45, rfl⟩
