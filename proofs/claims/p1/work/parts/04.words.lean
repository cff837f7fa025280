def y_Pg_init : MethodName := ⟨"PlainPage", "<init>", "()V"⟩
def w_Pg_init : List Cond := .code y_Pg_init prog_1_method_1_code 1 none :: lw_g
def y_Pg_html : MethodName := ⟨"PlainPage", "html", "(C)Z"⟩
def w_Pg_html : List Cond := .code y_Pg_html prog_1_method_2_code 2 (some .boolean) :: lw_g
def y_Pg_css : MethodName := ⟨"PlainPage", "css", "(C)Z"⟩
def w_Pg_css : List Cond := .code y_Pg_css prog_1_method_3_code 2 (some .boolean) :: lw_g
def y_Pg_clear : MethodName := ⟨"PlainPage", "clear", "()V"⟩
def w_Pg_clear : List Cond := .code y_Pg_clear prog_1_method_4_code 1 none :: lw_g
def y_Pg_nodes : MethodName := ⟨"PlainPage", "nodes", "()I"⟩
def w_Pg_nodes : List Cond := .code y_Pg_nodes prog_1_method_5_code 1 (some .int) :: lw_g
def y_Pg_name : MethodName := ⟨"PlainPage", "name", "(I)I"⟩
def w_Pg_name : List Cond := .code y_Pg_name prog_1_method_6_code 3 (some .int) :: lw_g
def y_Pg_parent : MethodName := ⟨"PlainPage", "parent", "(I)I"⟩
def w_Pg_parent : List Cond := .code y_Pg_parent prog_1_method_7_code 3 (some .int) :: lw_g
def y_Pg_classes : MethodName := ⟨"PlainPage", "classes", "(I)I"⟩
def w_Pg_classes : List Cond := .code y_Pg_classes prog_1_method_8_code 3 (some .int) :: lw_g
def y_Pg_letter : MethodName := ⟨"PlainPage", "letter", "(II)I"⟩
def w_Pg_letter : List Cond := .code y_Pg_letter prog_1_method_9_code 4 (some .int) :: lw_g
def y_Pg_open : MethodName := ⟨"PlainPage", "open", "()I"⟩
def w_Pg_open : List Cond := .code y_Pg_open prog_1_method_10_code 1 (some .int) :: lw_g
def y_Pg_rules : MethodName := ⟨"PlainPage", "rules", "()I"⟩
def w_Pg_rules : List Cond := .code y_Pg_rules prog_1_method_11_code 1 (some .int) :: lw_g
def y_Pg_value : MethodName := ⟨"PlainPage", "value", "(IC)I"⟩
def w_Pg_value : List Cond := .code y_Pg_value prog_1_method_12_code 5 (some .int) :: lw_g
def y_Pg_layout : MethodName := ⟨"PlainPage", "layout", "(I)I"⟩
def w_Pg_layout : List Cond := .code y_Pg_layout prog_1_method_13_code 2 (some .int) :: lw_g
def y_Pg_box : MethodName := ⟨"PlainPage", "box", "(II)I"⟩
def w_Pg_box : List Cond := .code y_Pg_box prog_1_method_14_code 4 (some .int) :: lw_g
def y_Pg_place : MethodName := ⟨"PlainPage", "place", "(II)I"⟩
def w_Pg_place : List Cond := .code y_Pg_place prog_1_method_15_code 4 (some .int) :: lw_g
def y_Pg_lines : MethodName := ⟨"PlainPage", "lines", "()I"⟩
def w_Pg_lines : List Cond := .code y_Pg_lines prog_1_method_16_code 1 (some .int) :: lw_g
def y_Pg_pixel : MethodName := ⟨"PlainPage", "pixel", "(II)I"⟩
def w_Pg_pixel : List Cond := .code y_Pg_pixel prog_1_method_17_code 3 (some .int) :: lw_g
def y_Pg_startAnew : MethodName := ⟨"PlainPage", "startAnew", "()V"⟩
def w_Pg_startAnew : List Cond := .code y_Pg_startAnew prog_1_method_18_code 1 none :: lw_g
def y_Pg_forgetLayout : MethodName := ⟨"PlainPage", "forgetLayout", "()V"⟩
def w_Pg_forgetLayout : List Cond := .code y_Pg_forgetLayout prog_1_method_19_code 1 none :: lw_g
def y_Pg_dress : MethodName := ⟨"PlainPage", "dress", "()V"⟩
def w_Pg_dress : List Cond := .code y_Pg_dress prog_1_method_20_code 1 none :: lw_g
def y_Pg_canBeTyped : MethodName := ⟨"PlainPage", "canBeTyped", "(C)Z"⟩
def w_Pg_canBeTyped : List Cond := .code y_Pg_canBeTyped prog_1_method_21_code 1 (some .boolean) :: lw_g
def y_Pg_isSmall : MethodName := ⟨"PlainPage", "isSmall", "(I)Z"⟩
def w_Pg_isSmall : List Cond := .code y_Pg_isSmall prog_1_method_22_code 1 (some .boolean) :: lw_g
def y_Pg_isCapital : MethodName := ⟨"PlainPage", "isCapital", "(I)Z"⟩
def w_Pg_isCapital : List Cond := .code y_Pg_isCapital prog_1_method_23_code 1 (some .boolean) :: lw_g
def y_Pg_isDigit : MethodName := ⟨"PlainPage", "isDigit", "(I)Z"⟩
def w_Pg_isDigit : List Cond := .code y_Pg_isDigit prog_1_method_24_code 1 (some .boolean) :: lw_g
def y_Pg_isOneOf : MethodName := ⟨"PlainPage", "isOneOf", "(ILjava/lang/String;)Z"⟩
def w_Pg_isOneOf : List Cond := .code y_Pg_isOneOf prog_1_method_25_code 2 (some .boolean) :: lw_g
def y_Md_init : MethodName := ⟨"PlainPageModel", "<init>", "()V"⟩
def w_Md_init : List Cond := .code y_Md_init prog_14_method_1_code 1 none :: lw_g
def y_Md_html : MethodName := ⟨"PlainPageModel", "html", "(C)Z"⟩
def w_Md_html : List Cond := .code y_Md_html prog_14_method_2_code 2 (some .boolean) :: lw_g
def y_Md_css : MethodName := ⟨"PlainPageModel", "css", "(C)Z"⟩
def w_Md_css : List Cond := .code y_Md_css prog_14_method_3_code 2 (some .boolean) :: lw_g
def y_Md_clear : MethodName := ⟨"PlainPageModel", "clear", "()V"⟩
def w_Md_clear : List Cond := .code y_Md_clear prog_14_method_4_code 1 none :: lw_g
def y_Md_reset : MethodName := ⟨"PlainPageModel", "reset", "()V"⟩
def w_Md_reset : List Cond := .code y_Md_reset prog_14_method_5_code 1 none :: lw_g
def y_Md_small : MethodName := ⟨"PlainPageModel", "small", "(I)Z"⟩
def w_Md_small : List Cond := .code y_Md_small prog_14_method_6_code 1 (some .boolean) :: lw_g
def y_Md_capital : MethodName := ⟨"PlainPageModel", "capital", "(I)Z"⟩
def w_Md_capital : List Cond := .code y_Md_capital prog_14_method_7_code 1 (some .boolean) :: lw_g
def y_Md_closed : MethodName := ⟨"PlainPageModel", "closed", "(I)I"⟩
def w_Md_closed : List Cond := .code y_Md_closed prog_14_method_8_code 3 (some .int) :: lw_g
def y_Md_peek : MethodName := ⟨"PlainPageModel", "peek", "(I)I"⟩
def w_Md_peek : List Cond := .code y_Md_peek prog_14_method_9_code 2 (some .int) :: lw_g
def y_Md_read : MethodName := ⟨"PlainPageModel", "read", "()V"⟩
def w_Md_read : List Cond := .code y_Md_read prog_14_method_10_code 4 none :: lw_g
def y_Md_tag : MethodName := ⟨"PlainPageModel", "tag", "(II)I"⟩
def w_Md_tag : List Cond := .code y_Md_tag prog_14_method_11_code 8 (some .int) :: lw_g
def y_Md_entity : MethodName := ⟨"PlainPageModel", "entity", "(II)I"⟩
def w_Md_entity : List Cond := .code y_Md_entity prog_14_method_12_code 4 (some .int) :: lw_g
def y_Md_bit : MethodName := ⟨"PlainPageModel", "bit", "(I)I"⟩
def w_Md_bit : List Cond := .code y_Md_bit prog_14_method_13_code 1 (some .int) :: lw_g
def y_Md_named : MethodName := ⟨"PlainPageModel", "named", "(II)Z"⟩
def w_Md_named : List Cond := .code y_Md_named prog_14_method_14_code 3 (some .boolean) :: lw_g
def y_Md_seat : MethodName := ⟨"PlainPageModel", "seat", "(I)I"⟩
def w_Md_seat : List Cond := .code y_Md_seat prog_14_method_15_code 4 (some .int) :: lw_g
def y_Md_behind : MethodName := ⟨"PlainPageModel", "behind", "(I)I"⟩
def w_Md_behind : List Cond := .code y_Md_behind prog_14_method_16_code 3 (some .int) :: lw_g
def y_Md_topmost : MethodName := ⟨"PlainPageModel", "topmost", "(I)I"⟩
def w_Md_topmost : List Cond := .code y_Md_topmost prog_14_method_17_code 4 (some .int) :: lw_g
def y_Md_above : MethodName := ⟨"PlainPageModel", "above", "(II)Z"⟩
def w_Md_above : List Cond := .code y_Md_above prog_14_method_18_code 5 (some .boolean) :: lw_g
def y_Md_reach : MethodName := ⟨"PlainPageModel", "reach", "(II)Z"⟩
def w_Md_reach : List Cond := .code y_Md_reach prog_14_method_19_code 4 (some .boolean) :: lw_g
def y_Md_opened : MethodName := ⟨"PlainPageModel", "opened", "(I)I"⟩
def w_Md_opened : List Cond := .code y_Md_opened prog_14_method_20_code 4 (some .int) :: lw_g
def y_Md_insideTop : MethodName := ⟨"PlainPageModel", "insideTop", "(I)V"⟩
def w_Md_insideTop : List Cond := .code y_Md_insideTop prog_14_method_21_code 3 none :: lw_g
def y_Md_findPlace : MethodName := ⟨"PlainPageModel", "findPlace", "(I)V"⟩
def w_Md_findPlace : List Cond := .code y_Md_findPlace prog_14_method_22_code 5 none :: lw_g
def y_Md_create : MethodName := ⟨"PlainPageModel", "create", "(II)I"⟩
def w_Md_create : List Cond := .code y_Md_create prog_14_method_23_code 4 (some .int) :: lw_g
def y_Md_push : MethodName := ⟨"PlainPageModel", "push", "(I)V"⟩
def w_Md_push : List Cond := .code y_Md_push prog_14_method_24_code 2 none :: lw_g
def y_Md_listOwner : MethodName := ⟨"PlainPageModel", "listOwner", "()I"⟩
def w_Md_listOwner : List Cond := .code y_Md_listOwner prog_14_method_25_code 2 (some .int) :: lw_g
def y_Md_renew : MethodName := ⟨"PlainPageModel", "renew", "()V"⟩
def w_Md_renew : List Cond := .code y_Md_renew prog_14_method_26_code 5 none :: lw_g
def y_Md_dropEntry : MethodName := ⟨"PlainPageModel", "dropEntry", "(I)V"⟩
def w_Md_dropEntry : List Cond := .code y_Md_dropEntry prog_14_method_27_code 3 none :: lw_g
def y_Md_clearWay : MethodName := ⟨"PlainPageModel", "clearWay", "(I)Z"⟩
def w_Md_clearWay : List Cond := .code y_Md_clearWay prog_14_method_28_code 6 (some .boolean) :: lw_g
def y_Md_list : MethodName := ⟨"PlainPageModel", "list", "(II)V"⟩
def w_Md_list : List Cond := .code y_Md_list prog_14_method_29_code 6 none :: lw_g
def y_Md_start : MethodName := ⟨"PlainPageModel", "start", "(II)V"⟩
def w_Md_start : List Cond := .code y_Md_start prog_14_method_30_code 5 none :: lw_g
def y_Md_end : MethodName := ⟨"PlainPageModel", "end", "(I)V"⟩
def w_Md_end : List Cond := .code y_Md_end prog_14_method_31_code 3 none :: lw_g
def y_Md_endOther : MethodName := ⟨"PlainPageModel", "endOther", "(I)V"⟩
def w_Md_endOther : List Cond := .code y_Md_endOther prog_14_method_32_code 6 none :: lw_g
def y_Md_adopt : MethodName := ⟨"PlainPageModel", "adopt", "(II)V"⟩
def w_Md_adopt : List Cond := .code y_Md_adopt prog_14_method_33_code 10 none :: lw_g
def y_Md_character : MethodName := ⟨"PlainPageModel", "character", "(I)V"⟩
def w_Md_character : List Cond := .code y_Md_character prog_14_method_34_code 4 none :: lw_g
def y_Md_none : MethodName := ⟨"PlainPageModel", "none", "(I)Z"⟩
def w_Md_none : List Cond := .code y_Md_none prog_14_method_35_code 2 (some .boolean) :: lw_g
def y_Md_nodes : MethodName := ⟨"PlainPageModel", "nodes", "()I"⟩
def w_Md_nodes : List Cond := .code y_Md_nodes prog_14_method_36_code 1 (some .int) :: lw_g
def y_Md_name : MethodName := ⟨"PlainPageModel", "name", "(I)I"⟩
def w_Md_name : List Cond := .code y_Md_name prog_14_method_37_code 2 (some .int) :: lw_g
def y_Md_parentOf : MethodName := ⟨"PlainPageModel", "parentOf", "(I)I"⟩
def w_Md_parentOf : List Cond := .code y_Md_parentOf prog_14_method_38_code 3 (some .int) :: lw_g
def y_Md_parent : MethodName := ⟨"PlainPageModel", "parent", "(I)I"⟩
def w_Md_parent : List Cond := .code y_Md_parent prog_14_method_39_code 2 (some .int) :: lw_g
def y_Md_classes : MethodName := ⟨"PlainPageModel", "classes", "(I)I"⟩
def w_Md_classes : List Cond := .code y_Md_classes prog_14_method_40_code 2 (some .int) :: lw_g
def y_Md_find : MethodName := ⟨"PlainPageModel", "find", "(II)I"⟩
def w_Md_find : List Cond := .code y_Md_find prog_14_method_41_code 5 (some .int) :: lw_g
def y_Md_letter : MethodName := ⟨"PlainPageModel", "letter", "(II)I"⟩
def w_Md_letter : List Cond := .code y_Md_letter prog_14_method_42_code 4 (some .int) :: lw_g
def y_Md_open : MethodName := ⟨"PlainPageModel", "open", "()I"⟩
def w_Md_open : List Cond := .code y_Md_open prog_14_method_43_code 1 (some .int) :: lw_g
def y_Md_rules : MethodName := ⟨"PlainPageModel", "rules", "()I"⟩
def w_Md_rules : List Cond := .code y_Md_rules prog_14_method_44_code 1 (some .int) :: lw_g
def y_Md_nextSign : MethodName := ⟨"PlainPageModel", "nextSign", "(II)I"⟩
def w_Md_nextSign : List Cond := .code y_Md_nextSign prog_14_method_45_code 4 (some .int) :: lw_g
def y_Md_readSheet : MethodName := ⟨"PlainPageModel", "readSheet", "()V"⟩
def w_Md_readSheet : List Cond := .code y_Md_readSheet prog_14_method_46_code 4 none :: lw_g
def y_Md_blanks : MethodName := ⟨"PlainPageModel", "blanks", "(II)I"⟩
def w_Md_blanks : List Cond := .code y_Md_blanks prog_14_method_47_code 4 (some .int) :: lw_g
def y_Md_selector : MethodName := ⟨"PlainPageModel", "selector", "(II)Z"⟩
def w_Md_selector : List Cond := .code y_Md_selector prog_14_method_48_code 9 (some .boolean) :: lw_g
def y_Md_match : MethodName := ⟨"PlainPageModel", "match", "(I)V"⟩
def w_Md_match : List Cond := .code y_Md_match prog_14_method_49_code 10 none :: lw_g
def y_Md_propertyIndex : MethodName := ⟨"PlainPageModel", "propertyIndex", "(I)I"⟩
def w_Md_propertyIndex : List Cond := .code y_Md_propertyIndex prog_14_method_50_code 1 (some .int) :: lw_g
def y_Md_digit : MethodName := ⟨"PlainPageModel", "digit", "(I)Z"⟩
def w_Md_digit : List Cond := .code y_Md_digit prog_14_method_51_code 1 (some .boolean) :: lw_g
def y_Md_declared : MethodName := ⟨"PlainPageModel", "declared", "(II)I"⟩
def w_Md_declared : List Cond := .code y_Md_declared prog_14_method_52_code 4 (some .int) :: lw_g
def y_Md_declare : MethodName := ⟨"PlainPageModel", "declare", "(I)V"⟩
def w_Md_declare : List Cond := .code y_Md_declare prog_14_method_53_code 8 none :: lw_g
def y_Md_style : MethodName := ⟨"PlainPageModel", "style", "()V"⟩
def w_Md_style : List Cond := .code y_Md_style prog_14_method_54_code 3 none :: lw_g
def y_Md_initial : MethodName := ⟨"PlainPageModel", "initial", "(II)I"⟩
def w_Md_initial : List Cond := .code y_Md_initial prog_14_method_55_code 3 (some .int) :: lw_g
def y_Md_value : MethodName := ⟨"PlainPageModel", "value", "(IC)I"⟩
def w_Md_value : List Cond := .code y_Md_value prog_14_method_56_code 4 (some .int) :: lw_g
def y_Md_layout : MethodName := ⟨"PlainPageModel", "layout", "(I)I"⟩
def w_Md_layout : List Cond := .code y_Md_layout prog_14_method_57_code 3 (some .int) :: lw_g
def y_Md_border : MethodName := ⟨"PlainPageModel", "border", "(II)I"⟩
def w_Md_border : List Cond := .code y_Md_border prog_14_method_58_code 3 (some .int) :: lw_g
def y_Md_widths : MethodName := ⟨"PlainPageModel", "widths", "(II)V"⟩
def w_Md_widths : List Cond := .code y_Md_widths prog_14_method_59_code 10 none :: lw_g
def y_Md_within : MethodName := ⟨"PlainPageModel", "within", "(II)Z"⟩
def w_Md_within : List Cond := .code y_Md_within prog_14_method_60_code 6 (some .boolean) :: lw_g
def y_Md_heights : MethodName := ⟨"PlainPageModel", "heights", "(I)V"⟩
def w_Md_heights : List Cond := .code y_Md_heights prog_14_method_61_code 11 none :: lw_g
def y_Md_gather : MethodName := ⟨"PlainPageModel", "gather", "(I)V"⟩
def w_Md_gather : List Cond := .code y_Md_gather prog_14_method_62_code 4 none :: lw_g
def y_Md_runs : MethodName := ⟨"PlainPageModel", "runs", "()Z"⟩
def w_Md_runs : List Cond := .code y_Md_runs prog_14_method_63_code 3 (some .boolean) :: lw_g
def y_Md_size : MethodName := ⟨"PlainPageModel", "size", "(I)I"⟩
def w_Md_size : List Cond := .code y_Md_size prog_14_method_64_code 3 (some .int) :: lw_g
def y_Md_lay : MethodName := ⟨"PlainPageModel", "lay", "(II)I"⟩
def w_Md_lay : List Cond := .code y_Md_lay prog_14_method_65_code 8 (some .int) :: lw_g
def y_Md_newLine : MethodName := ⟨"PlainPageModel", "newLine", "(I)V"⟩
def w_Md_newLine : List Cond := .code y_Md_newLine prog_14_method_66_code 2 none :: lw_g
def y_Md_endLine : MethodName := ⟨"PlainPageModel", "endLine", "(I)V"⟩
def w_Md_endLine : List Cond := .code y_Md_endLine prog_14_method_67_code 3 none :: lw_g
def y_Md_putWord : MethodName := ⟨"PlainPageModel", "putWord", "(IIII)V"⟩
def w_Md_putWord : List Cond := .code y_Md_putWord prog_14_method_68_code 9 none :: lw_g
def y_Md_places : MethodName := ⟨"PlainPageModel", "places", "()V"⟩
def w_Md_places : List Cond := .code y_Md_places prog_14_method_69_code 2 none :: lw_g
def y_Md_box : MethodName := ⟨"PlainPageModel", "box", "(II)I"⟩
def w_Md_box : List Cond := .code y_Md_box prog_14_method_70_code 3 (some .int) :: lw_g
def y_Md_place : MethodName := ⟨"PlainPageModel", "place", "(II)I"⟩
def w_Md_place : List Cond := .code y_Md_place prog_14_method_71_code 4 (some .int) :: lw_g
def y_Md_lines : MethodName := ⟨"PlainPageModel", "lines", "()I"⟩
def w_Md_lines : List Cond := .code y_Md_lines prog_14_method_72_code 1 (some .int) :: lw_g
def y_Md_pixel : MethodName := ⟨"PlainPageModel", "pixel", "(II)I"⟩
def w_Md_pixel : List Cond := .code y_Md_pixel prog_14_method_73_code 6 (some .int) :: lw_g
def y_Md_inked : MethodName := ⟨"PlainPageModel", "inked", "(IIII)Z"⟩
def w_Md_inked : List Cond := .code y_Md_inked prog_14_method_74_code 7 (some .boolean) :: lw_g
def y_Box_init : MethodName := ⟨"PlainPage$Box", "<init>", "()V"⟩
def w_Box_init : List Cond := .code y_Box_init prog_2_method_1_code 1 none :: lw_g
def y_FormattingList_init : MethodName := ⟨"PlainPage$FormattingList", "<init>", "()V"⟩
def w_FormattingList_init : List Cond := .code y_FormattingList_init prog_3_method_1_code 1 none :: lw_g
def y_FormattingList_add : MethodName := ⟨"PlainPage$FormattingList", "add", "(LPlainPage$Node;)V"⟩
def w_FormattingList_add : List Cond := .code y_FormattingList_add prog_3_method_2_code 2 none :: lw_g
def y_FormattingList_remove : MethodName := ⟨"PlainPage$FormattingList", "remove", "(LPlainPage$Node;)V"⟩
def w_FormattingList_remove : List Cond := .code y_FormattingList_remove prog_3_method_3_code 3 none :: lw_g
def y_FormattingList_removeAt : MethodName := ⟨"PlainPage$FormattingList", "removeAt", "(I)V"⟩
def w_FormattingList_removeAt : List Cond := .code y_FormattingList_removeAt prog_3_method_4_code 3 none :: lw_g
def y_FormattingList_lastNamed : MethodName := ⟨"PlainPage$FormattingList", "lastNamed", "(I)LPlainPage$Node;"⟩
def w_FormattingList_lastNamed : List Cond := .code y_FormattingList_lastNamed prog_3_method_5_code 3 (some (.object "PlainPage$Node")) :: lw_g
def y_FormattingList_behindLastOpen : MethodName := ⟨"PlainPage$FormattingList", "behindLastOpen", "()I"⟩
def w_FormattingList_behindLastOpen : List Cond := .code y_FormattingList_behindLastOpen prog_3_method_6_code 2 (some .int) :: lw_g
def y_Layout_init : MethodName := ⟨"PlainPage$Layout", "<init>", "()V"⟩
def w_Layout_init : List Cond := .code y_Layout_init prog_4_method_1_code 1 none :: lw_g
def y_Layout_lay : MethodName := ⟨"PlainPage$Layout", "lay", "(LPlainPage$Tree;I)V"⟩
def w_Layout_lay : List Cond := .code y_Layout_lay prog_4_method_2_code 4 none :: lw_g
def y_Layout_layBox : MethodName := ⟨"PlainPage$Layout", "layBox", "(LPlainPage$Node;IIII)V"⟩
def w_Layout_layBox : List Cond := .code y_Layout_layBox prog_4_method_3_code 10 none :: lw_g
def y_Layout_layCells : MethodName := ⟨"PlainPage$Layout", "layCells", "(LPlainPage$Node;I)I"⟩
def w_Layout_layCells : List Cond := .code y_Layout_layCells prog_4_method_4_code 10 (some .int) :: lw_g
def y_Layout_isBox : MethodName := ⟨"PlainPage$Layout", "isBox", "(LPlainPage$Node;)Z"⟩
def w_Layout_isBox : List Cond := .code y_Layout_isBox prog_4_method_5_code 1 (some .boolean) :: lw_g
def y_Layout_layItems : MethodName := ⟨"PlainPage$Layout", "layItems", "(LPlainPage$Node;LPlainPage$Box;I)V"⟩
def w_Layout_layItems : List Cond := .code y_Layout_layItems prog_4_method_6_code 5 none :: lw_g
def y_Layout_layBelow : MethodName := ⟨"PlainPage$Layout", "layBelow", "(LPlainPage$Node;LPlainPage$Box;I)V"⟩
def w_Layout_layBelow : List Cond := .code y_Layout_layBelow prog_4_method_7_code 6 none :: lw_g
def y_Layout_paintedAt : MethodName := ⟨"PlainPage$Layout", "paintedAt", "(LPlainPage$Tree;II)I"⟩
def w_Layout_paintedAt : List Cond := .code y_Layout_paintedAt prog_4_method_8_code 8 (some .int) :: lw_g
def y_Layout_covers : MethodName := ⟨"PlainPage$Layout", "covers", "(LPlainPage$Box;II)Z"⟩
def w_Layout_covers : List Cond := .code y_Layout_covers prog_4_method_9_code 3 (some .boolean) :: lw_g
def y_Layout_marks : MethodName := ⟨"PlainPage$Layout", "marks", "(LPlainPage$Letter;II)Z"⟩
def w_Layout_marks : List Cond := .code y_Layout_marks prog_4_method_10_code 7 (some .boolean) :: lw_g
def y_Letter_init : MethodName := ⟨"PlainPage$Letter", "<init>", "()V"⟩
def w_Letter_init : List Cond := .code y_Letter_init prog_5_method_1_code 1 none :: lw_g
def y_Node_init : MethodName := ⟨"PlainPage$Node", "<init>", "()V"⟩
def w_Node_init : List Cond := .code y_Node_init prog_6_method_1_code 1 none :: lw_g
def y_Node_become : MethodName := ⟨"PlainPage$Node", "become", "(II)V"⟩
def w_Node_become : List Cond := .code y_Node_become prog_6_method_2_code 3 none :: lw_g
def y_Node_isElement : MethodName := ⟨"PlainPage$Node", "isElement", "()Z"⟩
def w_Node_isElement : List Cond := .code y_Node_isElement prog_6_method_3_code 1 (some .boolean) :: lw_g
def y_Node_insert : MethodName := ⟨"PlainPage$Node", "insert", "(LPlainPage$Node;LPlainPage$Node;)V"⟩
def w_Node_insert : List Cond := .code y_Node_insert prog_6_method_4_code 3 none :: lw_g
def y_Node_leaveParent : MethodName := ⟨"PlainPage$Node", "leaveParent", "()V"⟩
def w_Node_leaveParent : List Cond := .code y_Node_leaveParent prog_6_method_5_code 1 none :: lw_g
def y_Node_giveChildrenTo : MethodName := ⟨"PlainPage$Node", "giveChildrenTo", "(LPlainPage$Node;)V"⟩
def w_Node_giveChildrenTo : List Cond := .code y_Node_giveChildrenTo prog_6_method_6_code 3 none :: lw_g
def y_Node_addLetter : MethodName := ⟨"PlainPage$Node", "addLetter", "(LPlainPage$Letter;)V"⟩
def w_Node_addLetter : List Cond := .code y_Node_addLetter prog_6_method_7_code 2 none :: lw_g
def y_Node_nextInDocument : MethodName := ⟨"PlainPage$Node", "nextInDocument", "()LPlainPage$Node;"⟩
def w_Node_nextInDocument : List Cond := .code y_Node_nextInDocument prog_6_method_8_code 2 (some (.object "PlainPage$Node")) :: lw_g
def y_OpenStack_init : MethodName := ⟨"PlainPage$OpenStack", "<init>", "()V"⟩
def w_OpenStack_init : List Cond := .code y_OpenStack_init prog_7_method_1_code 1 none :: lw_g
def y_OpenStack_push : MethodName := ⟨"PlainPage$OpenStack", "push", "(LPlainPage$Node;)V"⟩
def w_OpenStack_push : List Cond := .code y_OpenStack_push prog_7_method_2_code 2 none :: lw_g
def y_OpenStack_top : MethodName := ⟨"PlainPage$OpenStack", "top", "()LPlainPage$Node;"⟩
def w_OpenStack_top : List Cond := .code y_OpenStack_top prog_7_method_3_code 1 (some (.object "PlainPage$Node")) :: lw_g
def y_OpenStack_inReach : MethodName := ⟨"PlainPage$OpenStack", "inReach", "(ILjava/lang/String;)LPlainPage$Node;"⟩
def w_OpenStack_inReach : List Cond := .code y_OpenStack_inReach prog_7_method_4_code 4 (some (.object "PlainPage$Node")) :: lw_g
def y_OpenStack_topmost : MethodName := ⟨"PlainPage$OpenStack", "topmost", "(I)LPlainPage$Node;"⟩
def w_OpenStack_topmost : List Cond := .code y_OpenStack_topmost prog_7_method_5_code 3 (some (.object "PlainPage$Node")) :: lw_g
def y_OpenStack_rowOfTable : MethodName := ⟨"PlainPage$OpenStack", "rowOfTable", "()LPlainPage$Node;"⟩
def w_OpenStack_rowOfTable : List Cond := .code y_OpenStack_rowOfTable prog_7_method_6_code 1 (some (.object "PlainPage$Node")) :: lw_g
def y_OpenStack_tableUnderTop : MethodName := ⟨"PlainPage$OpenStack", "tableUnderTop", "(I)LPlainPage$Node;"⟩
def w_OpenStack_tableUnderTop : List Cond := .code y_OpenStack_tableUnderTop prog_7_method_7_code 3 (some (.object "PlainPage$Node")) :: lw_g
def y_OpenStack_indexOf : MethodName := ⟨"PlainPage$OpenStack", "indexOf", "(LPlainPage$Node;)I"⟩
def w_OpenStack_indexOf : List Cond := .code y_OpenStack_indexOf prog_7_method_8_code 3 (some .int) :: lw_g
def y_OpenStack_lowestAbove : MethodName := ⟨"PlainPage$OpenStack", "lowestAbove", "(LPlainPage$Node;Ljava/lang/String;)LPlainPage$Node;"⟩
def w_OpenStack_lowestAbove : List Cond := .code y_OpenStack_lowestAbove prog_7_method_9_code 4 (some (.object "PlainPage$Node")) :: lw_g
def y_OpenStack_closeTo : MethodName := ⟨"PlainPage$OpenStack", "closeTo", "(LPlainPage$Node;)V"⟩
def w_OpenStack_closeTo : List Cond := .code y_OpenStack_closeTo prog_7_method_10_code 2 none :: lw_g
def y_OpenStack_closeAbove : MethodName := ⟨"PlainPage$OpenStack", "closeAbove", "(LPlainPage$Node;)V"⟩
def w_OpenStack_closeAbove : List Cond := .code y_OpenStack_closeAbove prog_7_method_11_code 2 none :: lw_g
def y_OpenStack_takeOut : MethodName := ⟨"PlainPage$OpenStack", "takeOut", "(II)V"⟩
def w_OpenStack_takeOut : List Cond := .code y_OpenStack_takeOut prog_7_method_12_code 4 none :: lw_g
def y_Rule_init : MethodName := ⟨"PlainPage$Rule", "<init>", "()V"⟩
def w_Rule_init : List Cond := .code y_Rule_init prog_8_method_1_code 1 none :: lw_g
def y_Rule_readSelector : MethodName := ⟨"PlainPage$Rule", "readSelector", "([CI)Z"⟩
def w_Rule_readSelector : List Cond := .code y_Rule_readSelector prog_8_method_2_code 5 (some .boolean) :: lw_g
def y_Rule_skipBlanks : MethodName := ⟨"PlainPage$Rule", "skipBlanks", "([CI)V"⟩
def w_Rule_skipBlanks : List Cond := .code y_Rule_skipBlanks prog_8_method_3_code 3 none :: lw_g
def y_Rule_readPart : MethodName := ⟨"PlainPage$Rule", "readPart", "([CI)Z"⟩
def w_Rule_readPart : List Cond := .code y_Rule_readPart prog_8_method_4_code 4 (some .boolean) :: lw_g
def y_Rule_readBody : MethodName := ⟨"PlainPage$Rule", "readBody", "([CI)V"⟩
def w_Rule_readBody : List Cond := .code y_Rule_readBody prog_8_method_5_code 5 none :: lw_g
def y_Rule_readDeclaration : MethodName := ⟨"PlainPage$Rule", "readDeclaration", "([CII)V"⟩
def w_Rule_readDeclaration : List Cond := .code y_Rule_readDeclaration prog_8_method_6_code 8 none :: lw_g
def y_Rule_readValue : MethodName := ⟨"PlainPage$Rule", "readValue", "(I[CII)I"⟩
def w_Rule_readValue : List Cond := .code y_Rule_readValue prog_8_method_7_code 6 (some .int) :: lw_g
def y_Rule_readLength : MethodName := ⟨"PlainPage$Rule", "readLength", "([CII)I"⟩
def w_Rule_readLength : List Cond := .code y_Rule_readLength prog_8_method_8_code 5 (some .int) :: lw_g
def y_Rule_declared : MethodName := ⟨"PlainPage$Rule", "declared", "(IZ)I"⟩
def w_Rule_declared : List Cond := .code y_Rule_declared prog_8_method_9_code 3 (some .int) :: lw_g
def y_Rule_weighsMoreThan : MethodName := ⟨"PlainPage$Rule", "weighsMoreThan", "(LPlainPage$Rule;)Z"⟩
def w_Rule_weighsMoreThan : List Cond := .code y_Rule_weighsMoreThan prog_8_method_10_code 2 (some .boolean) :: lw_g
def y_Rule_fits : MethodName := ⟨"PlainPage$Rule", "fits", "(LPlainPage$Node;)Z"⟩
def w_Rule_fits : List Cond := .code y_Rule_fits prog_8_method_11_code 2 (some .boolean) :: lw_g
def y_Rule_fitsUpTo : MethodName := ⟨"PlainPage$Rule", "fitsUpTo", "(ILPlainPage$Node;)Z"⟩
def w_Rule_fitsUpTo : List Cond := .code y_Rule_fitsUpTo prog_8_method_12_code 4 (some .boolean) :: lw_g
def y_Rule_partFits : MethodName := ⟨"PlainPage$Rule", "partFits", "(ILPlainPage$Node;)Z"⟩
def w_Rule_partFits : List Cond := .code y_Rule_partFits prog_8_method_13_code 3 (some .boolean) :: lw_g
def y_Run_init : MethodName := ⟨"PlainPage$Run", "<init>", "()V"⟩
def w_Run_init : List Cond := .code y_Run_init prog_9_method_1_code 1 none :: lw_g
def y_Run_beginIn : MethodName := ⟨"PlainPage$Run", "beginIn", "(LPlainPage$Box;)V"⟩
def w_Run_beginIn : List Cond := .code y_Run_beginIn prog_9_method_2_code 2 none :: lw_g
def y_Run_addText : MethodName := ⟨"PlainPage$Run", "addText", "(LPlainPage$Node;I)V"⟩
def w_Run_addText : List Cond := .code y_Run_addText prog_9_method_3_code 4 none :: lw_g
def y_Run_addBreak : MethodName := ⟨"PlainPage$Run", "addBreak", "(I)V"⟩
def w_Run_addBreak : List Cond := .code y_Run_addBreak prog_9_method_4_code 2 none :: lw_g
def y_Run_endIn : MethodName := ⟨"PlainPage$Run", "endIn", "(LPlainPage$Box;)V"⟩
def w_Run_endIn : List Cond := .code y_Run_endIn prog_9_method_5_code 2 none :: lw_g
def y_Run_endWord : MethodName := ⟨"PlainPage$Run", "endWord", "()V"⟩
def w_Run_endWord : List Cond := .code y_Run_endWord prog_9_method_6_code 2 none :: lw_g
def y_Run_endLine : MethodName := ⟨"PlainPage$Run", "endLine", "()V"⟩
def w_Run_endLine : List Cond := .code y_Run_endLine prog_9_method_7_code 2 none :: lw_g
def y_Sheet_init : MethodName := ⟨"PlainPage$Sheet", "<init>", "()V"⟩
def w_Sheet_init : List Cond := .code y_Sheet_init prog_10_method_1_code 2 none :: lw_g
def y_Sheet_empty : MethodName := ⟨"PlainPage$Sheet", "empty", "()V"⟩
def w_Sheet_empty : List Cond := .code y_Sheet_empty prog_10_method_2_code 1 none :: lw_g
def y_Sheet_type : MethodName := ⟨"PlainPage$Sheet", "type", "(C)V"⟩
def w_Sheet_type : List Cond := .code y_Sheet_type prog_10_method_3_code 2 none :: lw_g
def y_Sheet_endRule : MethodName := ⟨"PlainPage$Sheet", "endRule", "()V"⟩
def w_Sheet_endRule : List Cond := .code y_Sheet_endRule prog_10_method_4_code 1 none :: lw_g
def y_Sheet_dress : MethodName := ⟨"PlainPage$Sheet", "dress", "(LPlainPage$Tree;)V"⟩
def w_Sheet_dress : List Cond := .code y_Sheet_dress prog_10_method_5_code 4 none :: lw_g
def y_Sheet_setDefaults : MethodName := ⟨"PlainPage$Sheet", "setDefaults", "(LPlainPage$Node;)V"⟩
def w_Sheet_setDefaults : List Cond := .code y_Sheet_setDefaults prog_10_method_6_code 3 none :: lw_g
def y_Sheet_setDeclared : MethodName := ⟨"PlainPage$Sheet", "setDeclared", "(LPlainPage$Node;)V"⟩
def w_Sheet_setDeclared : List Cond := .code y_Sheet_setDeclared prog_10_method_7_code 4 none :: lw_g
def y_Sheet_strongest : MethodName := ⟨"PlainPage$Sheet", "strongest", "(IZ)I"⟩
def w_Sheet_strongest : List Cond := .code y_Sheet_strongest prog_10_method_8_code 6 (some .int) :: lw_g
def y_Tree_init : MethodName := ⟨"PlainPage$Tree", "<init>", "()V"⟩
def w_Tree_init : List Cond := .code y_Tree_init prog_11_method_1_code 2 none :: lw_g
def y_Tree_empty : MethodName := ⟨"PlainPage$Tree", "empty", "()V"⟩
def w_Tree_empty : List Cond := .code y_Tree_empty prog_11_method_2_code 1 none :: lw_g
def y_Tree_number : MethodName := ⟨"PlainPage$Tree", "number", "()V"⟩
def w_Tree_number : List Cond := .code y_Tree_number prog_11_method_3_code 3 none :: lw_g
def y_Tree_nodeAt : MethodName := ⟨"PlainPage$Tree", "nodeAt", "(I)LPlainPage$Node;"⟩
def w_Tree_nodeAt : List Cond := .code y_Tree_nodeAt prog_11_method_4_code 2 (some (.object "PlainPage$Node")) :: lw_g
def y_Tree_letterAt : MethodName := ⟨"PlainPage$Tree", "letterAt", "(II)LPlainPage$Letter;"⟩
def w_Tree_letterAt : List Cond := .code y_Tree_letterAt prog_11_method_5_code 6 (some (.object "PlainPage$Letter")) :: lw_g
def y_Tree_startTag : MethodName := ⟨"PlainPage$Tree", "startTag", "(II)V"⟩
def w_Tree_startTag : List Cond := .code y_Tree_startTag prog_11_method_6_code 4 none :: lw_g
def y_Tree_startRowOrCell : MethodName := ⟨"PlainPage$Tree", "startRowOrCell", "(II)V"⟩
def w_Tree_startRowOrCell : List Cond := .code y_Tree_startRowOrCell prog_11_method_7_code 5 none :: lw_g
def y_Tree_endTag : MethodName := ⟨"PlainPage$Tree", "endTag", "(I)V"⟩
def w_Tree_endTag : List Cond := .code y_Tree_endTag prog_11_method_8_code 2 none :: lw_g
def y_Tree_endParagraph : MethodName := ⟨"PlainPage$Tree", "endParagraph", "()V"⟩
def w_Tree_endParagraph : List Cond := .code y_Tree_endParagraph prog_11_method_9_code 2 none :: lw_g
def y_Tree_endOther : MethodName := ⟨"PlainPage$Tree", "endOther", "(I)V"⟩
def w_Tree_endOther : List Cond := .code y_Tree_endOther prog_11_method_10_code 5 none :: lw_g
def y_Tree_adopt : MethodName := ⟨"PlainPage$Tree", "adopt", "(LPlainPage$Node;LPlainPage$Node;)V"⟩
def w_Tree_adopt : List Cond := .code y_Tree_adopt prog_11_method_11_code 5 none :: lw_g
def y_Tree_character : MethodName := ⟨"PlainPage$Tree", "character", "(I)V"⟩
def w_Tree_character : List Cond := .code y_Tree_character prog_11_method_12_code 4 none :: lw_g
def y_Tree_theList : MethodName := ⟨"PlainPage$Tree", "theList", "()LPlainPage$FormattingList;"⟩
def w_Tree_theList : List Cond := .code y_Tree_theList prog_11_method_13_code 2 (some (.object "PlainPage$FormattingList")) :: lw_g
def y_Tree_renew : MethodName := ⟨"PlainPage$Tree", "renew", "()V"⟩
def w_Tree_renew : List Cond := .code y_Tree_renew prog_11_method_14_code 4 none :: lw_g
def y_Tree_nodeBeforePlace : MethodName := ⟨"PlainPage$Tree", "nodeBeforePlace", "()LPlainPage$Node;"⟩
def w_Tree_nodeBeforePlace : List Cond := .code y_Tree_nodeBeforePlace prog_11_method_15_code 2 (some (.object "PlainPage$Node")) :: lw_g
def y_Tree_putNew : MethodName := ⟨"PlainPage$Tree", "putNew", "(II)LPlainPage$Node;"⟩
def w_Tree_putNew : List Cond := .code y_Tree_putNew prog_11_method_16_code 4 (some (.object "PlainPage$Node")) :: lw_g
def y_Tree_putAtPlace : MethodName := ⟨"PlainPage$Tree", "putAtPlace", "(LPlainPage$Node;I)V"⟩
def w_Tree_putAtPlace : List Cond := .code y_Tree_putAtPlace prog_11_method_17_code 4 none :: lw_g
def y_Tree_openInTop : MethodName := ⟨"PlainPage$Tree", "openInTop", "(II)V"⟩
def w_Tree_openInTop : List Cond := .code y_Tree_openInTop prog_11_method_18_code 4 none :: lw_g
def y_Tree_make : MethodName := ⟨"PlainPage$Tree", "make", "(II)LPlainPage$Node;"⟩
def w_Tree_make : List Cond := .code y_Tree_make prog_11_method_19_code 4 (some (.object "PlainPage$Node")) :: lw_g
def y_Typist_init : MethodName := ⟨"PlainPage$Typist", "<init>", "()V"⟩
def w_Typist_init : List Cond := .code y_Typist_init prog_12_method_1_code 1 none :: lw_g
def y_Typist_empty : MethodName := ⟨"PlainPage$Typist", "empty", "()V"⟩
def w_Typist_empty : List Cond := .code y_Typist_empty prog_12_method_2_code 1 none :: lw_g
def y_Typist_type : MethodName := ⟨"PlainPage$Typist", "type", "(CLPlainPage$Tree;)V"⟩
def w_Typist_type : List Cond := .code y_Typist_type prog_12_method_3_code 3 none :: lw_g
def y_Typist_goesOn : MethodName := ⟨"PlainPage$Typist", "goesOn", "(C)Z"⟩
def w_Typist_goesOn : List Cond := .code y_Typist_goesOn prog_12_method_4_code 2 (some .boolean) :: lw_g
def y_Typist_giveUpHeld : MethodName := ⟨"PlainPage$Typist", "giveUpHeld", "(LPlainPage$Tree;)V"⟩
def w_Typist_giveUpHeld : List Cond := .code y_Typist_giveUpHeld prog_12_method_5_code 2 none :: lw_g
def y_Typist_typeInText : MethodName := ⟨"PlainPage$Typist", "typeInText", "(CLPlainPage$Tree;)V"⟩
def w_Typist_typeInText : List Cond := .code y_Typist_typeInText prog_12_method_6_code 3 none :: lw_g
def y_Typist_typeAfterLess : MethodName := ⟨"PlainPage$Typist", "typeAfterLess", "(C)V"⟩
def w_Typist_typeAfterLess : List Cond := .code y_Typist_typeAfterLess prog_12_method_7_code 2 none :: lw_g
def y_Typist_typeAfterLessSlash : MethodName := ⟨"PlainPage$Typist", "typeAfterLessSlash", "(C)V"⟩
def w_Typist_typeAfterLessSlash : List Cond := .code y_Typist_typeAfterLessSlash prog_12_method_8_code 2 none :: lw_g
def y_Typist_typeInTag : MethodName := ⟨"PlainPage$Typist", "typeInTag", "(CLPlainPage$Tree;)V"⟩
def w_Typist_typeInTag : List Cond := .code y_Typist_typeInTag prog_12_method_9_code 3 none :: lw_g
def y_Typist_meaningOf : MethodName := ⟨"PlainPage$Typist", "meaningOf", "(I)I"⟩
def w_Typist_meaningOf : List Cond := .code y_Typist_meaningOf prog_12_method_10_code 1 (some .int) :: lw_g
def y_String_indexOf : MethodName := ⟨"java/lang/String", "indexOf", "(I)I"⟩
def w_String_indexOf : List Cond := .code y_String_indexOf prog_17_method_79_code 2 (some .int) :: lw_g
def y_Arrays_fill : MethodName := ⟨"java/util/Arrays", "fill", "([II)V"⟩
def w_Arrays_fill : List Cond := .code y_Arrays_fill prog_20_method_103_code 4 none :: lw_g
def strTab : List (String × Nat × String × Nat) := [("PlainPage$Typist", 48, "lga", 0), ("PlainPage$Tree", 81, "rc", 1), ("PlainPage$OpenStack", 32, "t", 2), ("PlainPage$Tree", 90, "pdulht", 3), ("PlainPage$Tree", 92, "c", 4), ("PlainPage$Tree", 104, "uc", 5), ("PlainPage$Tree", 110, "hk", 6), ("PlainPage$Tree", 112, "bis", 7), ("PlainPage$Tree", 138, "t", 2), ("PlainPage$Tree", 147, "pdulhtrc", 8), ("PlainPage$Rule", 66, "cbsdmpw", 9), ("PlainPage$Rule", 81, "bin", 10), ("PlainPage", 110, "cbsdmpw", 9), ("PlainPage$Sheet", 84, "pdulhtrc", 8), ("PlainPage$Sheet", 98, "trc", 11)]
def nestTab : List (String × Nat × MethodName × String) := [("PlainPage$Tree", 28, y_OpenStack_init, "PlainPage"), ("PlainPage$Tree", 33, y_Node_init, "PlainPage"), ("PlainPage$Node", 11, y_FormattingList_init, "PlainPage"), ("PlainPage$Node", 24, y_Box_init, "PlainPage"), ("PlainPage$Tree", 34, y_Letter_init, "PlainPage"), ("PlainPage", 18, y_Typist_init, "PlainPage"), ("PlainPage$Sheet", 25, y_Rule_init, "PlainPage"), ("PlainPage", 32, y_Layout_init, "PlainPage"), ("PlainPage$Layout", 11, y_Run_init, "PlainPage"), ("PlainPage$Typist", 50, y_Pg_isOneOf, "PlainPage"), ("PlainPage$Typist", 56, y_Pg_isSmall, "PlainPage"), ("PlainPage$Typist", 66, y_Pg_isCapital, "PlainPage"), ("PlainPage$Tree", 83, y_Pg_isOneOf, "PlainPage"), ("PlainPage$OpenStack", 28, y_Pg_isOneOf, "PlainPage"), ("PlainPage$Rule", 49, y_Pg_isSmall, "PlainPage"), ("PlainPage$Rule", 53, y_Pg_isCapital, "PlainPage"), ("PlainPage$Rule", 78, y_Pg_isDigit, "PlainPage"), ("PlainPage$Rule", 83, y_Pg_isOneOf, "PlainPage"), ("PlainPage$Sheet", 86, y_Pg_isOneOf, "PlainPage")]
def lenS : List Nat := [3, 2, 1, 6, 1, 2, 2, 3, 8, 7, 3, 3]
def bytS : List (List Int32) := [[108, 103, 97], [114, 99], [116], [112, 100, 117, 108, 104, 116], [99], [117, 99], [104, 107], [98, 105, 115], [112, 100, 117, 108, 104, 116, 114, 99], [99, 98, 115, 100, 109, 112, 119], [98, 105, 110], [116, 114, 99]]
def qX (adK adV : Nat → Nat) (K b : Nat) (U : State) : Prop := vk_S 12 lenS bytS adK adV (qA K b) U U.heap ∧ (∀ q ∈ strTab, vk_R q.1 q.2.1 q.2.2.1 (adK q.2.2.2) U) ∧ (∀ q ∈ nestTab, va_Nw (.methodLinkNest q.1 q.2.1 q.2.2.1 q.2.2.2) U) ∧ va_Z "java/lang/String" "COMPACT_STRINGS" "Z" (.int 1) (qA K b) U U.heap
theorem qX_ok (adK adV : Nat → Nat) (K b : Nat) : qXok K b (qX adK adV K b) := by
  refine ⟨fun U g mk a h => ?_, fun s U locs h S hW => ?_⟩
  · exact ⟨vk_S.moved (u := U) (U := U.calling g mk a) (Vm.Alike.refl U.vm) h.1, fun q hq => vk_R.same (u := U) (U := U.calling g mk a) rfl (h.2.1 q hq), fun q hq => va_Nw.same (u := U) (U := U.calling g mk a) rfl rfl (h.2.2.1 q hq), va_Z.moved (u := U) (U := U.calling g mk a) (Vm.Alike.refl U.vm) h.2.2.2⟩
  · exact ⟨vk_S.moved hW.alike (h.1.kept fun a ha hn => S.2.1 a ha hn), fun q hq => (h.2.1 q hq).warm hW, fun q hq => va_Nw.warmM hW (h.2.2.1 q hq), va_Z.moved hW.alike (h.2.2.2.kept fun a ha hn => S.2.1 a ha hn)⟩
theorem qT_ok {K b : Nat} : qXok K b (fun _ => True) := ⟨fun _ _ _ _ _ => trivial, fun _ _ _ _ _ _ => trivial⟩
theorem q_t1 {w : Cond} (h : w ∈ tables_1_1) : w ∈ lw_tbl := List.mem_append_right _ (List.mem_append_left _ h)
theorem q_t2 {w : Cond} (h : w ∈ tables_1_2) : w ∈ lw_tbl := List.mem_append_right _ (List.mem_append_right _ (List.mem_append_left _ h))
theorem q_t3 {w : Cond} (h : w ∈ tables_1_3) : w ∈ lw_tbl := List.mem_append_right _ (List.mem_append_right _ (List.mem_append_right _ (List.mem_append_left _ h)))
theorem q_t4 {w : Cond} (h : w ∈ tables_1_4) : w ∈ lw_tbl := List.mem_append_right _ (List.mem_append_right _ (List.mem_append_right _ (List.mem_append_right _ (List.mem_append_left _ h))))
theorem q_t5 {w : Cond} (h : w ∈ tables_1_5) : w ∈ lw_tbl := List.mem_append_right _ (List.mem_append_right _ (List.mem_append_right _ (List.mem_append_right _ (List.mem_append_right _ (List.mem_append_left _ h)))))
theorem q_t6 {w : Cond} (h : w ∈ tables_1_6) : w ∈ lw_tbl := List.mem_append_right _ (List.mem_append_right _ (List.mem_append_right _ (List.mem_append_right _ (List.mem_append_right _ (List.mem_append_right _ (List.mem_append_left _ h))))))
theorem q_t7 {w : Cond} (h : w ∈ tables_1_7) : w ∈ lw_tbl := List.mem_append_right _ (List.mem_append_right _ (List.mem_append_right _ (List.mem_append_right _ (List.mem_append_right _ (List.mem_append_right _ (List.mem_append_right _ h))))))
set_option maxRecDepth 10000 in
theorem tw_0 : Cond.fieldLink "PlainPage" 133 "PlainPage" "laidOut" "Z" ∈ lw_g := q_g (q_t2 (List.mem_of_getElem? (i := 225) rfl)) rfl
set_option maxRecDepth 10000 in
theorem tw_1 : Cond.fieldLink "PlainPage" 185 "PlainPage" "dressed" "Z" ∈ lw_g := q_g (q_t2 (List.mem_of_getElem? (i := 224) rfl)) rfl
set_option maxRecDepth 10000 in
theorem tw_2 : Cond.methodLink "PlainPage" 112 y_String_indexOf ∈ lw_g := q_g (q_t3 (List.mem_of_getElem? (i := 22) rfl)) rfl
set_option maxRecDepth 10000 in
theorem tw_3 : Cond.fieldLink "PlainPage$Typist" 9 "PlainPage$Typist" "state" "I" ∈ lw_g := q_g (q_t2 (List.mem_of_getElem? (i := 39) rfl)) rfl
set_option maxRecDepth 10000 in
theorem tw_4 : Cond.initialized "PlainPage" ∈ lw_g := q_g (q_t1 (List.mem_of_getElem? (i := 1) rfl)) rfl
set_option maxRecDepth 10000 in
theorem tw_5 : Cond.code y_Pg_isOneOf prog_1_method_25_code 2 (some .boolean) ∈ lw_g := q_g (q_t3 (List.mem_of_getElem? (i := 21) rfl)) rfl
set_option maxRecDepth 10000 in
theorem tw_6 : Cond.static y_Pg_isOneOf ∈ lw_g := q_g (q_t3 (List.mem_of_getElem? (i := 20) rfl)) rfl
set_option maxRecDepth 10000 in
theorem tw_7 : Cond.code y_Pg_isSmall prog_1_method_22_code 1 (some .boolean) ∈ lw_g := q_g (q_t3 (List.mem_of_getElem? (i := 110) rfl)) rfl
set_option maxRecDepth 10000 in
theorem tw_8 : Cond.static y_Pg_isSmall ∈ lw_g := q_g (q_t3 (List.mem_of_getElem? (i := 109) rfl)) rfl
set_option maxRecDepth 10000 in
theorem tw_9 : Cond.fieldLink "PlainPage$OpenStack" 17 "PlainPage$OpenStack" "size" "I" ∈ lw_g := q_g (q_t1 (List.mem_of_getElem? (i := 48) rfl)) rfl
set_option maxRecDepth 10000 in
theorem tw_10 : Cond.fieldLink "PlainPage$OpenStack" 11 "PlainPage$OpenStack" "items" "[LPlainPage$Node;" ∈ lw_g := q_g (q_t1 (List.mem_of_getElem? (i := 46) rfl)) rfl
set_option maxRecDepth 10000 in
theorem tw_11 : Cond.fieldLink "PlainPage$OpenStack" 25 "PlainPage$Node" "name" "I" ∈ lw_g := q_g (q_t1 (List.mem_of_getElem? (i := 127) rfl)) rfl
set_option maxRecDepth 10000 in
theorem tw_12 : Cond.fieldLink "PlainPage$Tree" 29 "PlainPage$Tree" "stack" "LPlainPage$OpenStack;" ∈ lw_g := q_g (q_t2 (List.mem_of_getElem? (i := 3) rfl)) rfl
set_option maxRecDepth 10000 in
theorem tw_13 : Cond.initialized "PlainPage$OpenStack" ∈ lw_g := q_g (q_t1 (List.mem_of_getElem? (i := 3) rfl)) rfl
set_option maxRecDepth 10000 in
theorem tw_14 : Cond.code y_OpenStack_topmost prog_7_method_5_code 3 (some (.object "PlainPage$Node")) ∈ lw_g := q_g (q_t3 (List.mem_of_getElem? (i := 134) rfl)) rfl
set_option maxRecDepth 10000 in
theorem tw_15 : Cond.methodLink "PlainPage$Tree" 123 y_OpenStack_topmost ∈ lw_g := q_g (q_t3 (List.mem_of_getElem? (i := 131) rfl)) rfl
set_option maxRecDepth 10000 in
theorem tw_16 : Cond.instanceMethod y_OpenStack_topmost ∈ lw_g := q_g (q_t3 (List.mem_of_getElem? (i := 132) rfl)) rfl
set_option maxRecDepth 10000 in
theorem tw_17 : Cond.selects "PlainPage$OpenStack" y_OpenStack_topmost y_OpenStack_topmost ∈ lw_g := q_g (q_t3 (List.mem_of_getElem? (i := 133) rfl)) rfl
set_option maxRecDepth 10000 in
theorem tw_18 : Cond.fieldLink "PlainPage$Tree" 35 "PlainPage$Tree" "root" "LPlainPage$Node;" ∈ lw_g := q_g (q_t2 (List.mem_of_getElem? (i := 5) rfl)) rfl
set_option maxRecDepth 10000 in
theorem tw_19 : Cond.fieldLink "PlainPage$Tree" 205 "PlainPage$Node" "list" "LPlainPage$FormattingList;" ∈ lw_g := q_g (q_t1 (List.mem_of_getElem? (i := 163) rfl)) rfl
set_option maxRecDepth 10000 in
theorem tw_20 : Cond.fieldLink "PlainPage$FormattingList" 17 "PlainPage$FormattingList" "size" "I" ∈ lw_g := q_g (q_t1 (List.mem_of_getElem? (i := 70) rfl)) rfl
set_option maxRecDepth 10000 in
theorem tw_21 : Cond.fieldLink "PlainPage$FormattingList" 11 "PlainPage$FormattingList" "items" "[LPlainPage$Node;" ∈ lw_g := q_g (q_t1 (List.mem_of_getElem? (i := 68) rfl)) rfl
set_option maxRecDepth 10000 in
theorem tw_22 : Cond.fieldLink "PlainPage$FormattingList" 28 "PlainPage$Node" "isOpen" "Z" ∈ lw_g := q_g (q_t1 (List.mem_of_getElem? (i := 141) rfl)) rfl
set_option maxRecDepth 10000 in
theorem tw_23 : Cond.fieldLink "PlainPage$Node" 29 "PlainPage$Node" "name" "I" ∈ lw_g := q_g (q_t1 (List.mem_of_getElem? (i := 125) rfl)) rfl
set_option maxRecDepth 10000 in
theorem tw_24 : Cond.fieldLink "PlainPage$Node" 33 "PlainPage$Node" "classes" "I" ∈ lw_g := q_g (q_t1 (List.mem_of_getElem? (i := 133) rfl)) rfl
set_option maxRecDepth 10000 in
theorem tw_25 : Cond.fieldLink "PlainPage$Node" 36 "PlainPage$Node" "isOpen" "Z" ∈ lw_g := q_g (q_t1 (List.mem_of_getElem? (i := 139) rfl)) rfl
set_option maxRecDepth 10000 in
theorem tw_26 : Cond.fieldLink "PlainPage$Node" 40 "PlainPage$Node" "parent" "LPlainPage$Node;" ∈ lw_g := q_g (q_t1 (List.mem_of_getElem? (i := 143) rfl)) rfl
set_option maxRecDepth 10000 in
theorem tw_27 : Cond.fieldLink "PlainPage$Node" 44 "PlainPage$Node" "first" "LPlainPage$Node;" ∈ lw_g := q_g (q_t1 (List.mem_of_getElem? (i := 149) rfl)) rfl
set_option maxRecDepth 10000 in
theorem tw_28 : Cond.fieldLink "PlainPage$Node" 47 "PlainPage$Node" "last" "LPlainPage$Node;" ∈ lw_g := q_g (q_t1 (List.mem_of_getElem? (i := 151) rfl)) rfl
set_option maxRecDepth 10000 in
theorem tw_29 : Cond.fieldLink "PlainPage$Node" 50 "PlainPage$Node" "before" "LPlainPage$Node;" ∈ lw_g := q_g (q_t1 (List.mem_of_getElem? (i := 153) rfl)) rfl
set_option maxRecDepth 10000 in
theorem tw_30 : Cond.fieldLink "PlainPage$Node" 53 "PlainPage$Node" "after" "LPlainPage$Node;" ∈ lw_g := q_g (q_t1 (List.mem_of_getElem? (i := 155) rfl)) rfl
set_option maxRecDepth 10000 in
theorem tw_31 : Cond.fieldLink "PlainPage$Node" 56 "PlainPage$Node" "firstLetter" "LPlainPage$Letter;" ∈ lw_g := q_g (q_t1 (List.mem_of_getElem? (i := 157) rfl)) rfl
set_option maxRecDepth 10000 in
theorem tw_32 : Cond.fieldLink "PlainPage$Node" 60 "PlainPage$Node" "lastLetter" "LPlainPage$Letter;" ∈ lw_g := q_g (q_t1 (List.mem_of_getElem? (i := 161) rfl)) rfl
set_option maxRecDepth 10000 in
theorem tw_33 : Cond.fieldLink "PlainPage$Node" 12 "PlainPage$Node" "list" "LPlainPage$FormattingList;" ∈ lw_g := q_g (q_t1 (List.mem_of_getElem? (i := 162) rfl)) rfl
set_option maxRecDepth 10000 in
theorem tw_34 : Cond.fieldLink "PlainPage$Node" 63 "PlainPage$FormattingList" "size" "I" ∈ lw_g := q_g (q_t1 (List.mem_of_getElem? (i := 71) rfl)) rfl
set_option maxRecDepth 10000 in
theorem tw_35 : Cond.fieldLink "PlainPage$Tree" 47 "PlainPage$Tree" "used" "I" ∈ lw_g := q_g (q_t2 (List.mem_of_getElem? (i := 8) rfl)) rfl
set_option maxRecDepth 10000 in
theorem tw_36 : Cond.fieldLink "PlainPage$Tree" 11 "PlainPage$Tree" "pool" "[LPlainPage$Node;" ∈ lw_g := q_g (q_t1 (List.mem_of_getElem? (i := 237) rfl)) rfl
set_option maxRecDepth 10000 in
theorem tw_37 : Cond.initialized "PlainPage$Node" ∈ lw_g := q_g (q_t1 (List.mem_of_getElem? (i := 4) rfl)) rfl
set_option maxRecDepth 10000 in
theorem tw_38 : Cond.code y_Node_become prog_6_method_2_code 3 none ∈ lw_g := q_g (q_t2 (List.mem_of_getElem? (i := 193) rfl)) rfl
set_option maxRecDepth 10000 in
theorem tw_39 : Cond.methodLink "PlainPage$Tree" 50 y_Node_become ∈ lw_g := q_g (q_t2 (List.mem_of_getElem? (i := 190) rfl)) rfl
set_option maxRecDepth 10000 in
theorem tw_40 : Cond.instanceMethod y_Node_become ∈ lw_g := q_g (q_t2 (List.mem_of_getElem? (i := 191) rfl)) rfl
set_option maxRecDepth 10000 in
theorem tw_41 : Cond.selects "PlainPage$Node" y_Node_become y_Node_become ∈ lw_g := q_g (q_t2 (List.mem_of_getElem? (i := 192) rfl)) rfl
set_option maxRecDepth 10000 in
theorem tw_42 : Cond.fieldLink "PlainPage$Tree" 39 "PlainPage$Tree" "broken" "Z" ∈ lw_g := q_g (q_t2 (List.mem_of_getElem? (i := 14) rfl)) rfl
set_option maxRecDepth 10000 in
theorem tw_43 : Cond.code y_OpenStack_tableUnderTop prog_7_method_7_code 3 (some (.object "PlainPage$Node")) ∈ lw_g := q_g (q_t3 (List.mem_of_getElem? (i := 122) rfl)) rfl
set_option maxRecDepth 10000 in
theorem tw_44 : Cond.methodLink "PlainPage$Tree" 192 y_OpenStack_tableUnderTop ∈ lw_g := q_g (q_t3 (List.mem_of_getElem? (i := 119) rfl)) rfl
set_option maxRecDepth 10000 in
theorem tw_45 : Cond.instanceMethod y_OpenStack_tableUnderTop ∈ lw_g := q_g (q_t3 (List.mem_of_getElem? (i := 120) rfl)) rfl
set_option maxRecDepth 10000 in
theorem tw_46 : Cond.selects "PlainPage$OpenStack" y_OpenStack_tableUnderTop y_OpenStack_tableUnderTop ∈ lw_g := q_g (q_t3 (List.mem_of_getElem? (i := 121) rfl)) rfl
set_option maxRecDepth 10000 in
theorem tw_47 : Cond.fieldLink "PlainPage$Tree" 229 "PlainPage$OpenStack" "items" "[LPlainPage$Node;" ∈ lw_g := q_g (q_t1 (List.mem_of_getElem? (i := 47) rfl)) rfl
set_option maxRecDepth 10000 in
theorem tw_48 : Cond.code y_Node_insert prog_6_method_4_code 3 none ∈ lw_g := q_g (q_t3 (List.mem_of_getElem? (i := 150) rfl)) rfl
set_option maxRecDepth 10000 in
theorem tw_49 : Cond.methodLink "PlainPage$Tree" 189 y_Node_insert ∈ lw_g := q_g (q_t3 (List.mem_of_getElem? (i := 147) rfl)) rfl
set_option maxRecDepth 10000 in
theorem tw_50 : Cond.instanceMethod y_Node_insert ∈ lw_g := q_g (q_t3 (List.mem_of_getElem? (i := 148) rfl)) rfl
set_option maxRecDepth 10000 in
theorem tw_51 : Cond.selects "PlainPage$Node" y_Node_insert y_Node_insert ∈ lw_g := q_g (q_t3 (List.mem_of_getElem? (i := 149) rfl)) rfl
set_option maxRecDepth 10000 in
theorem tw_52 : Cond.fieldLink "PlainPage$Tree" 226 "PlainPage$Node" "parent" "LPlainPage$Node;" ∈ lw_g := q_g (q_t1 (List.mem_of_getElem? (i := 148) rfl)) rfl
set_option maxRecDepth 10000 in
theorem tw_53 : Cond.fieldLink "PlainPage$OpenStack" 21 "PlainPage$Node" "isOpen" "Z" ∈ lw_g := q_g (q_t1 (List.mem_of_getElem? (i := 140) rfl)) rfl
set_option maxRecDepth 10000 in
theorem tw_54 : Cond.initialized "PlainPage$Tree" ∈ lw_g := q_g (q_t1 (List.mem_of_getElem? (i := 2) rfl)) rfl
set_option maxRecDepth 10000 in
theorem tw_55 : Cond.code y_Tree_theList prog_11_method_13_code 2 (some (.object "PlainPage$FormattingList")) ∈ lw_g := q_g (q_t3 (List.mem_of_getElem? (i := 130) rfl)) rfl
set_option maxRecDepth 10000 in
theorem tw_56 : Cond.methodLink "PlainPage$Tree" 114 y_Tree_theList ∈ lw_g := q_g (q_t3 (List.mem_of_getElem? (i := 127) rfl)) rfl
set_option maxRecDepth 10000 in
theorem tw_57 : Cond.instanceMethod y_Tree_theList ∈ lw_g := q_g (q_t3 (List.mem_of_getElem? (i := 129) rfl)) rfl
set_option maxRecDepth 10000 in
theorem tw_58 : Cond.selects "PlainPage$Tree" y_Tree_theList y_Tree_theList ∈ lw_g := q_g (List.mem_of_getElem? (i := 5) rfl) rfl
set_option maxRecDepth 10000 in
theorem tw_59 : Cond.initialized "PlainPage$FormattingList" ∈ lw_g := q_g (q_t1 (List.mem_of_getElem? (i := 5) rfl)) rfl
set_option maxRecDepth 10000 in
theorem tw_60 : Cond.code y_FormattingList_behindLastOpen prog_3_method_6_code 2 (some .int) ∈ lw_g := q_g (q_t3 (List.mem_of_getElem? (i := 138) rfl)) rfl
set_option maxRecDepth 10000 in
theorem tw_61 : Cond.methodLink "PlainPage$Tree" 209 y_FormattingList_behindLastOpen ∈ lw_g := q_g (q_t3 (List.mem_of_getElem? (i := 135) rfl)) rfl
set_option maxRecDepth 10000 in
theorem tw_62 : Cond.instanceMethod y_FormattingList_behindLastOpen ∈ lw_g := q_g (q_t3 (List.mem_of_getElem? (i := 136) rfl)) rfl
set_option maxRecDepth 10000 in
theorem tw_63 : Cond.selects "PlainPage$FormattingList" y_FormattingList_behindLastOpen y_FormattingList_behindLastOpen ∈ lw_g := q_g (q_t3 (List.mem_of_getElem? (i := 137) rfl)) rfl
set_option maxRecDepth 10000 in
theorem tw_64 : Cond.fieldLink "PlainPage$Tree" 213 "PlainPage$FormattingList" "size" "I" ∈ lw_g := q_g (q_t1 (List.mem_of_getElem? (i := 72) rfl)) rfl
set_option maxRecDepth 10000 in
theorem tw_65 : Cond.fieldLink "PlainPage$Tree" 214 "PlainPage$FormattingList" "items" "[LPlainPage$Node;" ∈ lw_g := q_g (q_t1 (List.mem_of_getElem? (i := 69) rfl)) rfl
set_option maxRecDepth 10000 in
theorem tw_66 : Cond.fieldLink "PlainPage$Tree" 177 "PlainPage$Node" "name" "I" ∈ lw_g := q_g (q_t1 (List.mem_of_getElem? (i := 131) rfl)) rfl
set_option maxRecDepth 10000 in
theorem tw_67 : Cond.fieldLink "PlainPage$Tree" 180 "PlainPage$Node" "classes" "I" ∈ lw_g := q_g (q_t1 (List.mem_of_getElem? (i := 135) rfl)) rfl
set_option maxRecDepth 10000 in
theorem tw_68 : Cond.code y_Tree_make prog_11_method_19_code 4 (some (.object "PlainPage$Node")) ∈ lw_g := q_g (q_t3 (List.mem_of_getElem? (i := 142) rfl)) rfl
set_option maxRecDepth 10000 in
theorem tw_69 : Cond.methodLink "PlainPage$Tree" 183 y_Tree_make ∈ lw_g := q_g (q_t3 (List.mem_of_getElem? (i := 139) rfl)) rfl
set_option maxRecDepth 10000 in
theorem tw_70 : Cond.instanceMethod y_Tree_make ∈ lw_g := q_g (q_t3 (List.mem_of_getElem? (i := 141) rfl)) rfl
set_option maxRecDepth 10000 in
theorem tw_71 : Cond.selects "PlainPage$Tree" y_Tree_make y_Tree_make ∈ lw_g := q_g (List.mem_of_getElem? (i := 6) rfl) rfl
set_option maxRecDepth 10000 in
theorem tw_72 : Cond.fieldLink "PlainPage$Tree" 54 "PlainPage$OpenStack" "size" "I" ∈ lw_g := q_g (q_t1 (List.mem_of_getElem? (i := 49) rfl)) rfl
set_option maxRecDepth 10000 in
theorem tw_73 : Cond.code y_Tree_putAtPlace prog_11_method_17_code 4 none ∈ lw_g := q_g (q_t3 (List.mem_of_getElem? (i := 146) rfl)) rfl
set_option maxRecDepth 10000 in
theorem tw_74 : Cond.methodLink "PlainPage$Tree" 173 y_Tree_putAtPlace ∈ lw_g := q_g (q_t3 (List.mem_of_getElem? (i := 143) rfl)) rfl
set_option maxRecDepth 10000 in
theorem tw_75 : Cond.instanceMethod y_Tree_putAtPlace ∈ lw_g := q_g (q_t3 (List.mem_of_getElem? (i := 145) rfl)) rfl
set_option maxRecDepth 10000 in
theorem tw_76 : Cond.selects "PlainPage$Tree" y_Tree_putAtPlace y_Tree_putAtPlace ∈ lw_g := q_g (List.mem_of_getElem? (i := 7) rfl) rfl
set_option maxRecDepth 10000 in
theorem tw_77 : Cond.code y_OpenStack_push prog_7_method_2_code 2 none ∈ lw_g := q_g (q_t2 (List.mem_of_getElem? (i := 197) rfl)) rfl
set_option maxRecDepth 10000 in
theorem tw_78 : Cond.methodLink "PlainPage$Tree" 57 y_OpenStack_push ∈ lw_g := q_g (q_t2 (List.mem_of_getElem? (i := 194) rfl)) rfl
set_option maxRecDepth 10000 in
theorem tw_79 : Cond.instanceMethod y_OpenStack_push ∈ lw_g := q_g (q_t2 (List.mem_of_getElem? (i := 195) rfl)) rfl
set_option maxRecDepth 10000 in
theorem tw_80 : Cond.selects "PlainPage$OpenStack" y_OpenStack_push y_OpenStack_push ∈ lw_g := q_g (q_t2 (List.mem_of_getElem? (i := 196) rfl)) rfl
set_option maxRecDepth 10000 in
theorem tw_81 : Cond.code y_OpenStack_top prog_7_method_3_code 1 (some (.object "PlainPage$Node")) ∈ lw_g := q_g (q_t3 (List.mem_of_getElem? (i := 158) rfl)) rfl
set_option maxRecDepth 10000 in
theorem tw_82 : Cond.methodLink "PlainPage$Tree" 217 y_OpenStack_top ∈ lw_g := q_g (q_t3 (List.mem_of_getElem? (i := 155) rfl)) rfl
set_option maxRecDepth 10000 in
theorem tw_83 : Cond.instanceMethod y_OpenStack_top ∈ lw_g := q_g (q_t3 (List.mem_of_getElem? (i := 156) rfl)) rfl
set_option maxRecDepth 10000 in
theorem tw_84 : Cond.selects "PlainPage$OpenStack" y_OpenStack_top y_OpenStack_top ∈ lw_g := q_g (q_t3 (List.mem_of_getElem? (i := 157) rfl)) rfl
set_option maxRecDepth 10000 in
theorem tw_85 : Cond.fieldLink "PlainPage$Tree" 220 "PlainPage$Node" "last" "LPlainPage$Node;" ∈ lw_g := q_g (q_t1 (List.mem_of_getElem? (i := 152) rfl)) rfl
set_option maxRecDepth 10000 in
theorem tw_86 : Cond.fieldLink "PlainPage$Tree" 223 "PlainPage$Node" "before" "LPlainPage$Node;" ∈ lw_g := q_g (q_t1 (List.mem_of_getElem? (i := 154) rfl)) rfl
set_option maxRecDepth 10000 in
theorem tw_87 : Cond.fieldLink "PlainPage$Node" 66 "PlainPage$Letter" "next" "LPlainPage$Letter;" ∈ lw_g := q_g (q_t1 (List.mem_of_getElem? (i := 211) rfl)) rfl
set_option maxRecDepth 10000 in
theorem tw_88 : Cond.code y_Tree_renew prog_11_method_14_code 4 none ∈ lw_g := q_g (q_t3 (List.mem_of_getElem? (i := 126) rfl)) rfl
set_option maxRecDepth 10000 in
theorem tw_89 : Cond.methodLink "PlainPage$Tree" 101 y_Tree_renew ∈ lw_g := q_g (q_t3 (List.mem_of_getElem? (i := 123) rfl)) rfl
set_option maxRecDepth 10000 in
theorem tw_90 : Cond.instanceMethod y_Tree_renew ∈ lw_g := q_g (q_t3 (List.mem_of_getElem? (i := 125) rfl)) rfl
set_option maxRecDepth 10000 in
theorem tw_91 : Cond.selects "PlainPage$Tree" y_Tree_renew y_Tree_renew ∈ lw_g := q_g (List.mem_of_getElem? (i := 4) rfl) rfl
set_option maxRecDepth 10000 in
theorem tw_92 : Cond.code y_Tree_nodeBeforePlace prog_11_method_15_code 2 (some (.object "PlainPage$Node")) ∈ lw_g := q_g (q_t3 (List.mem_of_getElem? (i := 154) rfl)) rfl
set_option maxRecDepth 10000 in
theorem tw_93 : Cond.methodLink "PlainPage$Tree" 195 y_Tree_nodeBeforePlace ∈ lw_g := q_g (q_t3 (List.mem_of_getElem? (i := 151) rfl)) rfl
set_option maxRecDepth 10000 in
theorem tw_94 : Cond.instanceMethod y_Tree_nodeBeforePlace ∈ lw_g := q_g (q_t3 (List.mem_of_getElem? (i := 153) rfl)) rfl
set_option maxRecDepth 10000 in
theorem tw_95 : Cond.selects "PlainPage$Tree" y_Tree_nodeBeforePlace y_Tree_nodeBeforePlace ∈ lw_g := q_g (List.mem_of_getElem? (i := 8) rfl) rfl
set_option maxRecDepth 10000 in
theorem tw_96 : Cond.fieldLink "PlainPage$Tree" 43 "PlainPage$Tree" "usedLetters" "I" ∈ lw_g := q_g (q_t2 (List.mem_of_getElem? (i := 12) rfl)) rfl
set_option maxRecDepth 10000 in
theorem tw_97 : Cond.fieldLink "PlainPage$Tree" 22 "PlainPage$Tree" "letters" "[LPlainPage$Letter;" ∈ lw_g := q_g (q_t2 (List.mem_of_getElem? (i := 1) rfl)) rfl
set_option maxRecDepth 10000 in
theorem tw_98 : Cond.fieldLink "PlainPage$Tree" 198 "PlainPage$Letter" "code" "I" ∈ lw_g := q_g (q_t1 (List.mem_of_getElem? (i := 208) rfl)) rfl
set_option maxRecDepth 10000 in
theorem tw_99 : Cond.fieldLink "PlainPage$Tree" 78 "PlainPage$Letter" "next" "LPlainPage$Letter;" ∈ lw_g := q_g (q_t1 (List.mem_of_getElem? (i := 210) rfl)) rfl
set_option maxRecDepth 10000 in
theorem tw_100 : Cond.code y_Node_addLetter prog_6_method_7_code 2 none ∈ lw_g := q_g (q_t3 (List.mem_of_getElem? (i := 166) rfl)) rfl
set_option maxRecDepth 10000 in
theorem tw_101 : Cond.methodLink "PlainPage$Tree" 201 y_Node_addLetter ∈ lw_g := q_g (q_t3 (List.mem_of_getElem? (i := 163) rfl)) rfl
set_option maxRecDepth 10000 in
theorem tw_102 : Cond.instanceMethod y_Node_addLetter ∈ lw_g := q_g (q_t3 (List.mem_of_getElem? (i := 164) rfl)) rfl
set_option maxRecDepth 10000 in
theorem tw_103 : Cond.selects "PlainPage$Node" y_Node_addLetter y_Node_addLetter ∈ lw_g := q_g (q_t3 (List.mem_of_getElem? (i := 165) rfl)) rfl
set_option maxRecDepth 10000 in
theorem tw_104 : Cond.code y_Tree_putNew prog_11_method_16_code 4 (some (.object "PlainPage$Node")) ∈ lw_g := q_g (q_t3 (List.mem_of_getElem? (i := 162) rfl)) rfl
set_option maxRecDepth 10000 in
theorem tw_105 : Cond.methodLink "PlainPage$Tree" 106 y_Tree_putNew ∈ lw_g := q_g (q_t3 (List.mem_of_getElem? (i := 159) rfl)) rfl
set_option maxRecDepth 10000 in
theorem tw_106 : Cond.instanceMethod y_Tree_putNew ∈ lw_g := q_g (q_t3 (List.mem_of_getElem? (i := 161) rfl)) rfl
set_option maxRecDepth 10000 in
theorem tw_107 : Cond.selects "PlainPage$Tree" y_Tree_putNew y_Tree_putNew ∈ lw_g := q_g (List.mem_of_getElem? (i := 9) rfl) rfl
set_option maxRecDepth 10000 in
theorem tw_108 : Cond.code y_Tree_character prog_11_method_12_code 4 none ∈ lw_g := q_g (q_t3 (List.mem_of_getElem? (i := 118) rfl)) rfl
set_option maxRecDepth 10000 in
theorem tw_109 : Cond.methodLink "PlainPage$Typist" 32 y_Tree_character ∈ lw_g := q_g (q_t3 (List.mem_of_getElem? (i := 115) rfl)) rfl
set_option maxRecDepth 10000 in
theorem tw_110 : Cond.instanceMethod y_Tree_character ∈ lw_g := q_g (q_t3 (List.mem_of_getElem? (i := 116) rfl)) rfl
set_option maxRecDepth 10000 in
theorem tw_111 : Cond.selects "PlainPage$Tree" y_Tree_character y_Tree_character ∈ lw_g := q_g (q_t3 (List.mem_of_getElem? (i := 117) rfl)) rfl
set_option maxRecDepth 10000 in
theorem tw_112 : Cond.fieldLink "PlainPage$Typist" 25 "PlainPage$Typist" "heldLetter" "I" ∈ lw_g := q_g (q_t2 (List.mem_of_getElem? (i := 40) rfl)) rfl
set_option maxRecDepth 10000 in
theorem tw_113 : Cond.fieldLink "PlainPage$Typist" 60 "PlainPage$Typist" "tagName" "I" ∈ lw_g := q_g (q_t2 (List.mem_of_getElem? (i := 41) rfl)) rfl
set_option maxRecDepth 10000 in
theorem tw_114 : Cond.fieldLink "PlainPage$Typist" 63 "PlainPage$Typist" "tagClasses" "I" ∈ lw_g := q_g (q_t2 (List.mem_of_getElem? (i := 42) rfl)) rfl
set_option maxRecDepth 10000 in
theorem tw_115 : Cond.code y_OpenStack_inReach prog_7_method_4_code 4 (some (.object "PlainPage$Node")) ∈ lw_g := q_g (q_t3 (List.mem_of_getElem? (i := 207) rfl)) rfl
set_option maxRecDepth 10000 in
theorem tw_116 : Cond.methodLink "PlainPage$OpenStack" 34 y_OpenStack_inReach ∈ lw_g := q_g (q_t3 (List.mem_of_getElem? (i := 204) rfl)) rfl
set_option maxRecDepth 10000 in
theorem tw_117 : Cond.instanceMethod y_OpenStack_inReach ∈ lw_g := q_g (q_t3 (List.mem_of_getElem? (i := 205) rfl)) rfl
set_option maxRecDepth 10000 in
theorem tw_118 : Cond.selects "PlainPage$OpenStack" y_OpenStack_inReach y_OpenStack_inReach ∈ lw_g := q_g (q_t3 (List.mem_of_getElem? (i := 206) rfl)) rfl
set_option maxRecDepth 10000 in
theorem tw_119 : Cond.code y_OpenStack_indexOf prog_7_method_8_code 3 (some .int) ∈ lw_g := q_g (q_t3 (List.mem_of_getElem? (i := 216) rfl)) rfl
set_option maxRecDepth 10000 in
theorem tw_120 : Cond.methodLink "PlainPage$OpenStack" 38 y_OpenStack_indexOf ∈ lw_g := q_g (q_t3 (List.mem_of_getElem? (i := 213) rfl)) rfl
set_option maxRecDepth 10000 in
theorem tw_121 : Cond.instanceMethod y_OpenStack_indexOf ∈ lw_g := q_g (q_t3 (List.mem_of_getElem? (i := 214) rfl)) rfl
set_option maxRecDepth 10000 in
theorem tw_122 : Cond.selects "PlainPage$OpenStack" y_OpenStack_indexOf y_OpenStack_indexOf ∈ lw_g := q_g (q_t3 (List.mem_of_getElem? (i := 215) rfl)) rfl
set_option maxRecDepth 10000 in
theorem tw_123 : Cond.code y_OpenStack_takeOut prog_7_method_12_code 4 none ∈ lw_g := q_g (q_t3 (List.mem_of_getElem? (i := 220) rfl)) rfl
set_option maxRecDepth 10000 in
theorem tw_124 : Cond.methodLink "PlainPage$OpenStack" 42 y_OpenStack_takeOut ∈ lw_g := q_g (q_t3 (List.mem_of_getElem? (i := 217) rfl)) rfl
set_option maxRecDepth 10000 in
theorem tw_125 : Cond.instanceMethod y_OpenStack_takeOut ∈ lw_g := q_g (q_t3 (List.mem_of_getElem? (i := 218) rfl)) rfl
set_option maxRecDepth 10000 in
theorem tw_126 : Cond.selects "PlainPage$OpenStack" y_OpenStack_takeOut y_OpenStack_takeOut ∈ lw_g := q_g (q_t3 (List.mem_of_getElem? (i := 219) rfl)) rfl
set_option maxRecDepth 10000 in
theorem tw_127 : Cond.code y_OpenStack_closeAbove prog_7_method_11_code 2 none ∈ lw_g := q_g (q_t3 (List.mem_of_getElem? (i := 212) rfl)) rfl
set_option maxRecDepth 10000 in
theorem tw_128 : Cond.methodLink "PlainPage$Tree" 129 y_OpenStack_closeAbove ∈ lw_g := q_g (q_t3 (List.mem_of_getElem? (i := 209) rfl)) rfl
set_option maxRecDepth 10000 in
theorem tw_129 : Cond.instanceMethod y_OpenStack_closeAbove ∈ lw_g := q_g (q_t3 (List.mem_of_getElem? (i := 210) rfl)) rfl
set_option maxRecDepth 10000 in
theorem tw_130 : Cond.selects "PlainPage$OpenStack" y_OpenStack_closeAbove y_OpenStack_closeAbove ∈ lw_g := q_g (q_t3 (List.mem_of_getElem? (i := 211) rfl)) rfl
set_option maxRecDepth 10000 in
theorem tw_131 : Cond.code y_Tree_openInTop prog_11_method_18_code 4 none ∈ lw_g := q_g (q_t3 (List.mem_of_getElem? (i := 224) rfl)) rfl
set_option maxRecDepth 10000 in
theorem tw_132 : Cond.methodLink "PlainPage$Tree" 132 y_Tree_openInTop ∈ lw_g := q_g (q_t3 (List.mem_of_getElem? (i := 221) rfl)) rfl
set_option maxRecDepth 10000 in
theorem tw_133 : Cond.instanceMethod y_Tree_openInTop ∈ lw_g := q_g (q_t3 (List.mem_of_getElem? (i := 223) rfl)) rfl
set_option maxRecDepth 10000 in
theorem tw_134 : Cond.selects "PlainPage$Tree" y_Tree_openInTop y_Tree_openInTop ∈ lw_g := q_g (List.mem_of_getElem? (i := 15) rfl) rfl
set_option maxRecDepth 10000 in
theorem tw_135 : Cond.code y_OpenStack_rowOfTable prog_7_method_6_code 1 (some (.object "PlainPage$Node")) ∈ lw_g := q_g (q_t3 (List.mem_of_getElem? (i := 202) rfl)) rfl
set_option maxRecDepth 10000 in
theorem tw_136 : Cond.methodLink "PlainPage$Tree" 126 y_OpenStack_rowOfTable ∈ lw_g := q_g (q_t3 (List.mem_of_getElem? (i := 199) rfl)) rfl
set_option maxRecDepth 10000 in
theorem tw_137 : Cond.instanceMethod y_OpenStack_rowOfTable ∈ lw_g := q_g (q_t3 (List.mem_of_getElem? (i := 200) rfl)) rfl
set_option maxRecDepth 10000 in
theorem tw_138 : Cond.selects "PlainPage$OpenStack" y_OpenStack_rowOfTable y_OpenStack_rowOfTable ∈ lw_g := q_g (q_t3 (List.mem_of_getElem? (i := 201) rfl)) rfl
set_option maxRecDepth 10000 in
theorem tw_139 : Cond.code y_FormattingList_removeAt prog_3_method_4_code 3 none ∈ lw_g := q_g (q_t4 (List.mem_of_getElem? (i := 2) rfl)) rfl
set_option maxRecDepth 10000 in
theorem tw_140 : Cond.methodLink "PlainPage$FormattingList" 21 y_FormattingList_removeAt ∈ lw_g := q_g (q_t3 (List.mem_of_getElem? (i := 239) rfl)) rfl
set_option maxRecDepth 10000 in
theorem tw_141 : Cond.instanceMethod y_FormattingList_removeAt ∈ lw_g := q_g (q_t4 (List.mem_of_getElem? (i := 1) rfl)) rfl
set_option maxRecDepth 10000 in
theorem tw_142 : Cond.selects "PlainPage$FormattingList" y_FormattingList_removeAt y_FormattingList_removeAt ∈ lw_g := q_g (List.mem_of_getElem? (i := 16) rfl) rfl
set_option maxRecDepth 10000 in
theorem tw_143 : Cond.code y_FormattingList_add prog_3_method_2_code 2 none ∈ lw_g := q_g (q_t3 (List.mem_of_getElem? (i := 238) rfl)) rfl
set_option maxRecDepth 10000 in
theorem tw_144 : Cond.methodLink "PlainPage$Tree" 118 y_FormattingList_add ∈ lw_g := q_g (q_t3 (List.mem_of_getElem? (i := 235) rfl)) rfl
set_option maxRecDepth 10000 in
theorem tw_145 : Cond.instanceMethod y_FormattingList_add ∈ lw_g := q_g (q_t3 (List.mem_of_getElem? (i := 236) rfl)) rfl
set_option maxRecDepth 10000 in
theorem tw_146 : Cond.selects "PlainPage$FormattingList" y_FormattingList_add y_FormattingList_add ∈ lw_g := q_g (q_t3 (List.mem_of_getElem? (i := 237) rfl)) rfl
set_option maxRecDepth 10000 in
theorem tw_147 : Cond.methodLink "PlainPage$Tree" 94 y_OpenStack_inReach ∈ lw_g := q_g (q_t3 (List.mem_of_getElem? (i := 227) rfl)) rfl
set_option maxRecDepth 10000 in
theorem tw_148 : Cond.code y_OpenStack_closeTo prog_7_method_10_code 2 none ∈ lw_g := q_g (q_t3 (List.mem_of_getElem? (i := 231) rfl)) rfl
set_option maxRecDepth 10000 in
theorem tw_149 : Cond.methodLink "PlainPage$Tree" 98 y_OpenStack_closeTo ∈ lw_g := q_g (q_t3 (List.mem_of_getElem? (i := 228) rfl)) rfl
set_option maxRecDepth 10000 in
theorem tw_150 : Cond.instanceMethod y_OpenStack_closeTo ∈ lw_g := q_g (q_t3 (List.mem_of_getElem? (i := 229) rfl)) rfl
set_option maxRecDepth 10000 in
theorem tw_151 : Cond.selects "PlainPage$OpenStack" y_OpenStack_closeTo y_OpenStack_closeTo ∈ lw_g := q_g (q_t3 (List.mem_of_getElem? (i := 230) rfl)) rfl
set_option maxRecDepth 10000 in
theorem tw_152 : Cond.code y_Tree_startRowOrCell prog_11_method_7_code 5 none ∈ lw_g := q_g (q_t3 (List.mem_of_getElem? (i := 198) rfl)) rfl
set_option maxRecDepth 10000 in
theorem tw_153 : Cond.methodLink "PlainPage$Tree" 87 y_Tree_startRowOrCell ∈ lw_g := q_g (q_t3 (List.mem_of_getElem? (i := 195) rfl)) rfl
set_option maxRecDepth 10000 in
theorem tw_154 : Cond.instanceMethod y_Tree_startRowOrCell ∈ lw_g := q_g (q_t3 (List.mem_of_getElem? (i := 197) rfl)) rfl
set_option maxRecDepth 10000 in
theorem tw_155 : Cond.selects "PlainPage$Tree" y_Tree_startRowOrCell y_Tree_startRowOrCell ∈ lw_g := q_g (List.mem_of_getElem? (i := 14) rfl) rfl
set_option maxRecDepth 10000 in
theorem tw_156 : Cond.fieldLink "PlainPage$FormattingList" 25 "PlainPage$Node" "name" "I" ∈ lw_g := q_g (q_t1 (List.mem_of_getElem? (i := 128) rfl)) rfl
set_option maxRecDepth 10000 in
theorem tw_157 : Cond.methodLink "PlainPage$Tree" 163 y_OpenStack_indexOf ∈ lw_g := q_g (q_t4 (List.mem_of_getElem? (i := 33) rfl)) rfl
set_option maxRecDepth 10000 in
theorem tw_158 : Cond.methodLink "PlainPage$Tree" 167 y_OpenStack_takeOut ∈ lw_g := q_g (q_t4 (List.mem_of_getElem? (i := 34) rfl)) rfl
set_option maxRecDepth 10000 in
theorem tw_159 : Cond.code y_Node_leaveParent prog_6_method_5_code 1 none ∈ lw_g := q_g (q_t4 (List.mem_of_getElem? (i := 38) rfl)) rfl
set_option maxRecDepth 10000 in
theorem tw_160 : Cond.methodLink "PlainPage$Tree" 170 y_Node_leaveParent ∈ lw_g := q_g (q_t4 (List.mem_of_getElem? (i := 35) rfl)) rfl
set_option maxRecDepth 10000 in
theorem tw_161 : Cond.instanceMethod y_Node_leaveParent ∈ lw_g := q_g (q_t4 (List.mem_of_getElem? (i := 36) rfl)) rfl
set_option maxRecDepth 10000 in
theorem tw_162 : Cond.selects "PlainPage$Node" y_Node_leaveParent y_Node_leaveParent ∈ lw_g := q_g (q_t4 (List.mem_of_getElem? (i := 37) rfl)) rfl
set_option maxRecDepth 10000 in
theorem tw_163 : Cond.code y_Node_giveChildrenTo prog_6_method_6_code 3 none ∈ lw_g := q_g (q_t4 (List.mem_of_getElem? (i := 42) rfl)) rfl
set_option maxRecDepth 10000 in
theorem tw_164 : Cond.methodLink "PlainPage$Tree" 186 y_Node_giveChildrenTo ∈ lw_g := q_g (q_t4 (List.mem_of_getElem? (i := 39) rfl)) rfl
set_option maxRecDepth 10000 in
theorem tw_165 : Cond.instanceMethod y_Node_giveChildrenTo ∈ lw_g := q_g (q_t4 (List.mem_of_getElem? (i := 40) rfl)) rfl
set_option maxRecDepth 10000 in
theorem tw_166 : Cond.selects "PlainPage$Node" y_Node_giveChildrenTo y_Node_giveChildrenTo ∈ lw_g := q_g (q_t4 (List.mem_of_getElem? (i := 41) rfl)) rfl
set_option maxRecDepth 10000 in
theorem tw_167 : Cond.fieldLink "PlainPage$Tree" 149 "PlainPage$Node" "isOpen" "Z" ∈ lw_g := q_g (q_t1 (List.mem_of_getElem? (i := 142) rfl)) rfl
set_option maxRecDepth 10000 in
theorem tw_168 : Cond.code y_OpenStack_lowestAbove prog_7_method_9_code 4 (some (.object "PlainPage$Node")) ∈ lw_g := q_g (q_t4 (List.mem_of_getElem? (i := 28) rfl)) rfl
set_option maxRecDepth 10000 in
theorem tw_169 : Cond.methodLink "PlainPage$Tree" 155 y_OpenStack_lowestAbove ∈ lw_g := q_g (q_t4 (List.mem_of_getElem? (i := 25) rfl)) rfl
set_option maxRecDepth 10000 in
theorem tw_170 : Cond.instanceMethod y_OpenStack_lowestAbove ∈ lw_g := q_g (q_t4 (List.mem_of_getElem? (i := 26) rfl)) rfl
set_option maxRecDepth 10000 in
theorem tw_171 : Cond.selects "PlainPage$OpenStack" y_OpenStack_lowestAbove y_OpenStack_lowestAbove ∈ lw_g := q_g (q_t4 (List.mem_of_getElem? (i := 27) rfl)) rfl
set_option maxRecDepth 10000 in
theorem tw_172 : Cond.code y_FormattingList_remove prog_3_method_3_code 3 none ∈ lw_g := q_g (q_t4 (List.mem_of_getElem? (i := 24) rfl)) rfl
set_option maxRecDepth 10000 in
theorem tw_173 : Cond.methodLink "PlainPage$Tree" 152 y_FormattingList_remove ∈ lw_g := q_g (q_t4 (List.mem_of_getElem? (i := 21) rfl)) rfl
set_option maxRecDepth 10000 in
theorem tw_174 : Cond.instanceMethod y_FormattingList_remove ∈ lw_g := q_g (q_t4 (List.mem_of_getElem? (i := 22) rfl)) rfl
set_option maxRecDepth 10000 in
theorem tw_175 : Cond.selects "PlainPage$FormattingList" y_FormattingList_remove y_FormattingList_remove ∈ lw_g := q_g (q_t4 (List.mem_of_getElem? (i := 23) rfl)) rfl
set_option maxRecDepth 10000 in
theorem tw_176 : Cond.code y_Tree_adopt prog_11_method_11_code 5 none ∈ lw_g := q_g (q_t4 (List.mem_of_getElem? (i := 32) rfl)) rfl
set_option maxRecDepth 10000 in
theorem tw_177 : Cond.methodLink "PlainPage$Tree" 159 y_Tree_adopt ∈ lw_g := q_g (q_t4 (List.mem_of_getElem? (i := 29) rfl)) rfl
set_option maxRecDepth 10000 in
theorem tw_178 : Cond.instanceMethod y_Tree_adopt ∈ lw_g := q_g (q_t4 (List.mem_of_getElem? (i := 31) rfl)) rfl
set_option maxRecDepth 10000 in
theorem tw_179 : Cond.selects "PlainPage$Tree" y_Tree_adopt y_Tree_adopt ∈ lw_g := q_g (List.mem_of_getElem? (i := 19) rfl) rfl
set_option maxRecDepth 10000 in
theorem tw_180 : Cond.code y_FormattingList_lastNamed prog_3_method_5_code 3 (some (.object "PlainPage$Node")) ∈ lw_g := q_g (q_t4 (List.mem_of_getElem? (i := 19) rfl)) rfl
set_option maxRecDepth 10000 in
theorem tw_181 : Cond.methodLink "PlainPage$Tree" 144 y_FormattingList_lastNamed ∈ lw_g := q_g (q_t4 (List.mem_of_getElem? (i := 16) rfl)) rfl
set_option maxRecDepth 10000 in
theorem tw_182 : Cond.instanceMethod y_FormattingList_lastNamed ∈ lw_g := q_g (q_t4 (List.mem_of_getElem? (i := 17) rfl)) rfl
set_option maxRecDepth 10000 in
theorem tw_183 : Cond.selects "PlainPage$FormattingList" y_FormattingList_lastNamed y_FormattingList_lastNamed ∈ lw_g := q_g (q_t4 (List.mem_of_getElem? (i := 18) rfl)) rfl
set_option maxRecDepth 10000 in
theorem tw_184 : Cond.code y_Tree_endOther prog_11_method_10_code 5 none ∈ lw_g := q_g (q_t4 (List.mem_of_getElem? (i := 15) rfl)) rfl
set_option maxRecDepth 10000 in
theorem tw_185 : Cond.methodLink "PlainPage$Tree" 140 y_Tree_endOther ∈ lw_g := q_g (q_t4 (List.mem_of_getElem? (i := 12) rfl)) rfl
set_option maxRecDepth 10000 in
theorem tw_186 : Cond.instanceMethod y_Tree_endOther ∈ lw_g := q_g (q_t4 (List.mem_of_getElem? (i := 14) rfl)) rfl
set_option maxRecDepth 10000 in
theorem tw_187 : Cond.selects "PlainPage$Tree" y_Tree_endOther y_Tree_endOther ∈ lw_g := q_g (List.mem_of_getElem? (i := 18) rfl) rfl
set_option maxRecDepth 10000 in
theorem tw_188 : Cond.code y_Tree_endParagraph prog_11_method_9_code 2 none ∈ lw_g := q_g (q_t4 (List.mem_of_getElem? (i := 10) rfl)) rfl
set_option maxRecDepth 10000 in
theorem tw_189 : Cond.methodLink "PlainPage$Tree" 135 y_Tree_endParagraph ∈ lw_g := q_g (q_t4 (List.mem_of_getElem? (i := 7) rfl)) rfl
set_option maxRecDepth 10000 in
theorem tw_190 : Cond.instanceMethod y_Tree_endParagraph ∈ lw_g := q_g (q_t4 (List.mem_of_getElem? (i := 9) rfl)) rfl
set_option maxRecDepth 10000 in
theorem tw_191 : Cond.selects "PlainPage$Tree" y_Tree_endParagraph y_Tree_endParagraph ∈ lw_g := q_g (List.mem_of_getElem? (i := 17) rfl) rfl
set_option maxRecDepth 10000 in
theorem tw_192 : Cond.code y_Tree_endTag prog_11_method_8_code 2 none ∈ lw_g := q_g (q_t4 (List.mem_of_getElem? (i := 6) rfl)) rfl
set_option maxRecDepth 10000 in
theorem tw_193 : Cond.methodLink "PlainPage$Typist" 73 y_Tree_endTag ∈ lw_g := q_g (q_t4 (List.mem_of_getElem? (i := 3) rfl)) rfl
set_option maxRecDepth 10000 in
theorem tw_194 : Cond.instanceMethod y_Tree_endTag ∈ lw_g := q_g (q_t4 (List.mem_of_getElem? (i := 4) rfl)) rfl
set_option maxRecDepth 10000 in
theorem tw_195 : Cond.selects "PlainPage$Tree" y_Tree_endTag y_Tree_endTag ∈ lw_g := q_g (q_t4 (List.mem_of_getElem? (i := 5) rfl)) rfl
set_option maxRecDepth 10000 in
theorem tw_196 : Cond.code y_Tree_startTag prog_11_method_6_code 4 none ∈ lw_g := q_g (q_t3 (List.mem_of_getElem? (i := 192) rfl)) rfl
set_option maxRecDepth 10000 in
theorem tw_197 : Cond.methodLink "PlainPage$Typist" 69 y_Tree_startTag ∈ lw_g := q_g (q_t3 (List.mem_of_getElem? (i := 189) rfl)) rfl
set_option maxRecDepth 10000 in
theorem tw_198 : Cond.instanceMethod y_Tree_startTag ∈ lw_g := q_g (q_t3 (List.mem_of_getElem? (i := 190) rfl)) rfl
set_option maxRecDepth 10000 in
theorem tw_199 : Cond.selects "PlainPage$Tree" y_Tree_startTag y_Tree_startTag ∈ lw_g := q_g (q_t3 (List.mem_of_getElem? (i := 191) rfl)) rfl
set_option maxRecDepth 10000 in
theorem tw_200 : Cond.code y_Pg_isCapital prog_1_method_23_code 1 (some .boolean) ∈ lw_g := q_g (q_t3 (List.mem_of_getElem? (i := 188) rfl)) rfl
set_option maxRecDepth 10000 in
theorem tw_201 : Cond.static y_Pg_isCapital ∈ lw_g := q_g (q_t3 (List.mem_of_getElem? (i := 187) rfl)) rfl
set_option maxRecDepth 10000 in
theorem tw_202 : Cond.initialized "PlainPage$Typist" ∈ lw_g := q_g (q_t1 (List.mem_of_getElem? (i := 8) rfl)) rfl
set_option maxRecDepth 10000 in
theorem tw_203 : Cond.code y_Typist_goesOn prog_12_method_4_code 2 (some .boolean) ∈ lw_g := q_g (q_t3 (List.mem_of_getElem? (i := 17) rfl)) rfl
set_option maxRecDepth 10000 in
theorem tw_204 : Cond.methodLink "PlainPage$Typist" 13 y_Typist_goesOn ∈ lw_g := q_g (q_t3 (List.mem_of_getElem? (i := 14) rfl)) rfl
set_option maxRecDepth 10000 in
theorem tw_205 : Cond.instanceMethod y_Typist_goesOn ∈ lw_g := q_g (q_t3 (List.mem_of_getElem? (i := 16) rfl)) rfl
set_option maxRecDepth 10000 in
theorem tw_206 : Cond.selects "PlainPage$Typist" y_Typist_goesOn y_Typist_goesOn ∈ lw_g := q_g (List.mem_of_getElem? (i := 2) rfl) rfl
set_option maxRecDepth 10000 in
theorem tw_207 : Cond.code y_Typist_typeInText prog_12_method_6_code 3 none ∈ lw_g := q_g (q_t3 (List.mem_of_getElem? (i := 170) rfl)) rfl
set_option maxRecDepth 10000 in
theorem tw_208 : Cond.methodLink "PlainPage$Typist" 21 y_Typist_typeInText ∈ lw_g := q_g (q_t3 (List.mem_of_getElem? (i := 167) rfl)) rfl
set_option maxRecDepth 10000 in
theorem tw_209 : Cond.instanceMethod y_Typist_typeInText ∈ lw_g := q_g (q_t3 (List.mem_of_getElem? (i := 169) rfl)) rfl
set_option maxRecDepth 10000 in
theorem tw_210 : Cond.selects "PlainPage$Typist" y_Typist_typeInText y_Typist_typeInText ∈ lw_g := q_g (List.mem_of_getElem? (i := 10) rfl) rfl
set_option maxRecDepth 10000 in
theorem tw_211 : Cond.code y_Typist_meaningOf prog_12_method_10_code 1 (some .int) ∈ lw_g := q_g (q_t3 (List.mem_of_getElem? (i := 173) rfl)) rfl
set_option maxRecDepth 10000 in
theorem tw_212 : Cond.methodLink "PlainPage$Typist" 28 y_Typist_meaningOf ∈ lw_g := q_g (q_t3 (List.mem_of_getElem? (i := 171) rfl)) rfl
set_option maxRecDepth 10000 in
theorem tw_213 : Cond.static y_Typist_meaningOf ∈ lw_g := q_g (q_t3 (List.mem_of_getElem? (i := 172) rfl)) rfl
set_option maxRecDepth 10000 in
theorem tw_214 : Cond.code y_Typist_typeAfterLess prog_12_method_7_code 2 none ∈ lw_g := q_g (q_t3 (List.mem_of_getElem? (i := 177) rfl)) rfl
set_option maxRecDepth 10000 in
theorem tw_215 : Cond.methodLink "PlainPage$Typist" 38 y_Typist_typeAfterLess ∈ lw_g := q_g (q_t3 (List.mem_of_getElem? (i := 174) rfl)) rfl
set_option maxRecDepth 10000 in
theorem tw_216 : Cond.instanceMethod y_Typist_typeAfterLess ∈ lw_g := q_g (q_t3 (List.mem_of_getElem? (i := 176) rfl)) rfl
set_option maxRecDepth 10000 in
theorem tw_217 : Cond.selects "PlainPage$Typist" y_Typist_typeAfterLess y_Typist_typeAfterLess ∈ lw_g := q_g (List.mem_of_getElem? (i := 11) rfl) rfl
set_option maxRecDepth 10000 in
theorem tw_218 : Cond.code y_Typist_typeAfterLessSlash prog_12_method_8_code 2 none ∈ lw_g := q_g (q_t3 (List.mem_of_getElem? (i := 181) rfl)) rfl
set_option maxRecDepth 10000 in
theorem tw_219 : Cond.methodLink "PlainPage$Typist" 42 y_Typist_typeAfterLessSlash ∈ lw_g := q_g (q_t3 (List.mem_of_getElem? (i := 178) rfl)) rfl
set_option maxRecDepth 10000 in
theorem tw_220 : Cond.instanceMethod y_Typist_typeAfterLessSlash ∈ lw_g := q_g (q_t3 (List.mem_of_getElem? (i := 180) rfl)) rfl
set_option maxRecDepth 10000 in
theorem tw_221 : Cond.selects "PlainPage$Typist" y_Typist_typeAfterLessSlash y_Typist_typeAfterLessSlash ∈ lw_g := q_g (List.mem_of_getElem? (i := 12) rfl) rfl
set_option maxRecDepth 10000 in
theorem tw_222 : Cond.code y_Typist_typeInTag prog_12_method_9_code 3 none ∈ lw_g := q_g (q_t3 (List.mem_of_getElem? (i := 185) rfl)) rfl
set_option maxRecDepth 10000 in
theorem tw_223 : Cond.methodLink "PlainPage$Typist" 45 y_Typist_typeInTag ∈ lw_g := q_g (q_t3 (List.mem_of_getElem? (i := 182) rfl)) rfl
set_option maxRecDepth 10000 in
theorem tw_224 : Cond.instanceMethod y_Typist_typeInTag ∈ lw_g := q_g (q_t3 (List.mem_of_getElem? (i := 184) rfl)) rfl
set_option maxRecDepth 10000 in
theorem tw_225 : Cond.selects "PlainPage$Typist" y_Typist_typeInTag y_Typist_typeInTag ∈ lw_g := q_g (List.mem_of_getElem? (i := 13) rfl) rfl
set_option maxRecDepth 10000 in
theorem tw_226 : Cond.code y_Typist_giveUpHeld prog_12_method_5_code 2 none ∈ lw_g := q_g (q_t3 (List.mem_of_getElem? (i := 114) rfl)) rfl
set_option maxRecDepth 10000 in
theorem tw_227 : Cond.methodLink "PlainPage$Typist" 17 y_Typist_giveUpHeld ∈ lw_g := q_g (q_t3 (List.mem_of_getElem? (i := 111) rfl)) rfl
set_option maxRecDepth 10000 in
theorem tw_228 : Cond.instanceMethod y_Typist_giveUpHeld ∈ lw_g := q_g (q_t3 (List.mem_of_getElem? (i := 113) rfl)) rfl
set_option maxRecDepth 10000 in
theorem tw_229 : Cond.selects "PlainPage$Typist" y_Typist_giveUpHeld y_Typist_giveUpHeld ∈ lw_g := q_g (List.mem_of_getElem? (i := 3) rfl) rfl
set_option maxRecDepth 10000 in
theorem tw_230 : Cond.fieldLink "PlainPage$Tree" 64 "PlainPage$Node" "number" "I" ∈ lw_g := q_g (q_t1 (List.mem_of_getElem? (i := 137) rfl)) rfl
set_option maxRecDepth 10000 in
theorem tw_231 : Cond.fieldLink "PlainPage$Tree" 17 "PlainPage$Tree" "order" "[LPlainPage$Node;" ∈ lw_g := q_g (q_t1 (List.mem_of_getElem? (i := 238) rfl)) rfl
set_option maxRecDepth 10000 in
theorem tw_232 : Cond.code y_Node_nextInDocument prog_6_method_8_code 2 (some (.object "PlainPage$Node")) ∈ lw_g := q_g (q_t2 (List.mem_of_getElem? (i := 205) rfl)) rfl
set_option maxRecDepth 10000 in
theorem tw_233 : Cond.methodLink "PlainPage$Tree" 66 y_Node_nextInDocument ∈ lw_g := q_g (q_t2 (List.mem_of_getElem? (i := 202) rfl)) rfl
set_option maxRecDepth 10000 in
theorem tw_234 : Cond.instanceMethod y_Node_nextInDocument ∈ lw_g := q_g (q_t2 (List.mem_of_getElem? (i := 203) rfl)) rfl
set_option maxRecDepth 10000 in
theorem tw_235 : Cond.selects "PlainPage$Node" y_Node_nextInDocument y_Node_nextInDocument ∈ lw_g := q_g (q_t2 (List.mem_of_getElem? (i := 204) rfl)) rfl
set_option maxRecDepth 10000 in
theorem tw_236 : Cond.code y_Pg_canBeTyped prog_1_method_21_code 1 (some .boolean) ∈ lw_g := q_g (q_t3 (List.mem_of_getElem? (i := 9) rfl)) rfl
set_option maxRecDepth 10000 in
theorem tw_237 : Cond.methodLink "PlainPage" 40 y_Pg_canBeTyped ∈ lw_g := q_g (q_t3 (List.mem_of_getElem? (i := 7) rfl)) rfl
set_option maxRecDepth 10000 in
theorem tw_238 : Cond.static y_Pg_canBeTyped ∈ lw_g := q_g (q_t3 (List.mem_of_getElem? (i := 8) rfl)) rfl
set_option maxRecDepth 10000 in
theorem tw_239 : Cond.fieldLink "PlainPage" 44 "PlainPage" "textLength" "I" ∈ lw_g := q_g (q_t2 (List.mem_of_getElem? (i := 222) rfl)) rfl
set_option maxRecDepth 10000 in
theorem tw_240 : Cond.fieldLink "PlainPage" 10 "PlainPage" "tree" "LPlainPage$Tree;" ∈ lw_g := q_g (q_t2 (List.mem_of_getElem? (i := 218) rfl)) rfl
set_option maxRecDepth 10000 in
theorem tw_241 : Cond.fieldLink "PlainPage" 48 "PlainPage$Tree" "broken" "Z" ∈ lw_g := q_g (q_t2 (List.mem_of_getElem? (i := 15) rfl)) rfl
set_option maxRecDepth 10000 in
theorem tw_242 : Cond.code y_Pg_forgetLayout prog_1_method_19_code 1 none ∈ lw_g := q_g (q_t2 (List.mem_of_getElem? (i := 217) rfl)) rfl
set_option maxRecDepth 10000 in
theorem tw_243 : Cond.methodLink "PlainPage" 52 y_Pg_forgetLayout ∈ lw_g := q_g (q_t2 (List.mem_of_getElem? (i := 214) rfl)) rfl
set_option maxRecDepth 10000 in
theorem tw_244 : Cond.instanceMethod y_Pg_forgetLayout ∈ lw_g := q_g (q_t2 (List.mem_of_getElem? (i := 216) rfl)) rfl
set_option maxRecDepth 10000 in
theorem tw_245 : Cond.selects "PlainPage" y_Pg_forgetLayout y_Pg_forgetLayout ∈ lw_g := q_g (List.mem_of_getElem? (i := 1) rfl) rfl
set_option maxRecDepth 10000 in
theorem tw_246 : Cond.fieldLink "PlainPage" 19 "PlainPage" "typist" "LPlainPage$Typist;" ∈ lw_g := q_g (q_t2 (List.mem_of_getElem? (i := 219) rfl)) rfl
set_option maxRecDepth 10000 in
theorem tw_247 : Cond.code y_Typist_type prog_12_method_3_code 3 none ∈ lw_g := q_g (q_t3 (List.mem_of_getElem? (i := 13) rfl)) rfl
set_option maxRecDepth 10000 in
theorem tw_248 : Cond.methodLink "PlainPage" 55 y_Typist_type ∈ lw_g := q_g (q_t3 (List.mem_of_getElem? (i := 10) rfl)) rfl
set_option maxRecDepth 10000 in
theorem tw_249 : Cond.instanceMethod y_Typist_type ∈ lw_g := q_g (q_t3 (List.mem_of_getElem? (i := 11) rfl)) rfl
set_option maxRecDepth 10000 in
theorem tw_250 : Cond.selects "PlainPage$Typist" y_Typist_type y_Typist_type ∈ lw_g := q_g (q_t3 (List.mem_of_getElem? (i := 12) rfl)) rfl
set_option maxRecDepth 10000 in
theorem tw_251 : Cond.code y_Tree_number prog_11_method_3_code 3 none ∈ lw_g := q_g (q_t2 (List.mem_of_getElem? (i := 201) rfl)) rfl
set_option maxRecDepth 10000 in
theorem tw_252 : Cond.methodLink "PlainPage" 59 y_Tree_number ∈ lw_g := q_g (q_t4 (List.mem_of_getElem? (i := 43) rfl)) rfl
set_option maxRecDepth 10000 in
theorem tw_253 : Cond.instanceMethod y_Tree_number ∈ lw_g := q_g (q_t2 (List.mem_of_getElem? (i := 199) rfl)) rfl
set_option maxRecDepth 10000 in
theorem tw_254 : Cond.selects "PlainPage$Tree" y_Tree_number y_Tree_number ∈ lw_g := q_g (q_t2 (List.mem_of_getElem? (i := 200) rfl)) rfl
set_option maxRecDepth 10000 in
theorem tw_255 : Cond.fieldLink "PlainPage$Rule" 35 "PlainPage$Rule" "cursor" "I" ∈ lw_g := q_g (q_t2 (List.mem_of_getElem? (i := 73) rfl)) rfl
set_option maxRecDepth 10000 in
theorem tw_256 : Cond.fieldLink "PlainPage$Rule" 9 "PlainPage$Rule" "partName" "[I" ∈ lw_g := q_g (q_t2 (List.mem_of_getElem? (i := 65) rfl)) rfl
set_option maxRecDepth 10000 in
theorem tw_257 : Cond.fieldLink "PlainPage$Rule" 42 "PlainPage$Rule" "parts" "I" ∈ lw_g := q_g (q_t2 (List.mem_of_getElem? (i := 70) rfl)) rfl
set_option maxRecDepth 10000 in
theorem tw_258 : Cond.fieldLink "PlainPage$Rule" 15 "PlainPage$Rule" "partClasses" "[I" ∈ lw_g := q_g (q_t2 (List.mem_of_getElem? (i := 66) rfl)) rfl
set_option maxRecDepth 10000 in
theorem tw_259 : Cond.fieldLink "PlainPage$Rule" 28 "PlainPage$Rule" "capitals" "I" ∈ lw_g := q_g (q_t2 (List.mem_of_getElem? (i := 71) rfl)) rfl
set_option maxRecDepth 10000 in
theorem tw_260 : Cond.fieldLink "PlainPage$Rule" 32 "PlainPage$Rule" "smalls" "I" ∈ lw_g := q_g (q_t2 (List.mem_of_getElem? (i := 72) rfl)) rfl
set_option maxRecDepth 10000 in
theorem tw_261 : Cond.initialized "PlainPage$Rule" ∈ lw_g := q_g (q_t1 (List.mem_of_getElem? (i := 10) rfl)) rfl
set_option maxRecDepth 10000 in
theorem tw_262 : Cond.code y_Rule_skipBlanks prog_8_method_3_code 3 none ∈ lw_g := q_g (q_t4 (List.mem_of_getElem? (i := 60) rfl)) rfl
set_option maxRecDepth 10000 in
theorem tw_263 : Cond.methodLink "PlainPage$Rule" 38 y_Rule_skipBlanks ∈ lw_g := q_g (q_t4 (List.mem_of_getElem? (i := 57) rfl)) rfl
set_option maxRecDepth 10000 in
theorem tw_264 : Cond.instanceMethod y_Rule_skipBlanks ∈ lw_g := q_g (q_t4 (List.mem_of_getElem? (i := 59) rfl)) rfl
set_option maxRecDepth 10000 in
theorem tw_265 : Cond.selects "PlainPage$Rule" y_Rule_skipBlanks y_Rule_skipBlanks ∈ lw_g := q_g (List.mem_of_getElem? (i := 20) rfl) rfl
set_option maxRecDepth 10000 in
theorem tw_266 : Cond.fieldLink "PlainPage$Rule" 18 "PlainPage$Rule" "partIsDirect" "[Z" ∈ lw_g := q_g (q_t2 (List.mem_of_getElem? (i := 67) rfl)) rfl
set_option maxRecDepth 10000 in
theorem tw_267 : Cond.code y_Rule_readPart prog_8_method_4_code 4 (some .boolean) ∈ lw_g := q_g (q_t4 (List.mem_of_getElem? (i := 64) rfl)) rfl
set_option maxRecDepth 10000 in
theorem tw_268 : Cond.methodLink "PlainPage$Rule" 45 y_Rule_readPart ∈ lw_g := q_g (q_t4 (List.mem_of_getElem? (i := 61) rfl)) rfl
set_option maxRecDepth 10000 in
theorem tw_269 : Cond.instanceMethod y_Rule_readPart ∈ lw_g := q_g (q_t4 (List.mem_of_getElem? (i := 63) rfl)) rfl
set_option maxRecDepth 10000 in
theorem tw_270 : Cond.selects "PlainPage$Rule" y_Rule_readPart y_Rule_readPart ∈ lw_g := q_g (List.mem_of_getElem? (i := 21) rfl) rfl
set_option maxRecDepth 10000 in
theorem tw_271 : Cond.code y_Pg_isDigit prog_1_method_24_code 1 (some .boolean) ∈ lw_g := q_g (q_t4 (List.mem_of_getElem? (i := 89) rfl)) rfl
set_option maxRecDepth 10000 in
theorem tw_272 : Cond.static y_Pg_isDigit ∈ lw_g := q_g (q_t4 (List.mem_of_getElem? (i := 88) rfl)) rfl
set_option maxRecDepth 10000 in
theorem tw_273 : Cond.code y_Rule_readLength prog_8_method_8_code 5 (some .int) ∈ lw_g := q_g (q_t4 (List.mem_of_getElem? (i := 94) rfl)) rfl
set_option maxRecDepth 10000 in
theorem tw_274 : Cond.methodLink "PlainPage$Rule" 87 y_Rule_readLength ∈ lw_g := q_g (q_t4 (List.mem_of_getElem? (i := 92) rfl)) rfl
set_option maxRecDepth 10000 in
theorem tw_275 : Cond.static y_Rule_readLength ∈ lw_g := q_g (q_t4 (List.mem_of_getElem? (i := 93) rfl)) rfl
set_option maxRecDepth 10000 in
theorem tw_276 : Cond.methodLink "PlainPage$Rule" 68 y_String_indexOf ∈ lw_g := q_g (q_t4 (List.mem_of_getElem? (i := 83) rfl)) rfl
set_option maxRecDepth 10000 in
theorem tw_277 : Cond.code y_Rule_readValue prog_8_method_7_code 6 (some .int) ∈ lw_g := q_g (q_t4 (List.mem_of_getElem? (i := 86) rfl)) rfl
set_option maxRecDepth 10000 in
theorem tw_278 : Cond.methodLink "PlainPage$Rule" 74 y_Rule_readValue ∈ lw_g := q_g (q_t4 (List.mem_of_getElem? (i := 84) rfl)) rfl
set_option maxRecDepth 10000 in
theorem tw_279 : Cond.static y_Rule_readValue ∈ lw_g := q_g (q_t4 (List.mem_of_getElem? (i := 85) rfl)) rfl
set_option maxRecDepth 10000 in
theorem tw_280 : Cond.fieldLink "PlainPage$Rule" 22 "PlainPage$Rule" "plain" "[I" ∈ lw_g := q_g (q_t2 (List.mem_of_getElem? (i := 68) rfl)) rfl
set_option maxRecDepth 10000 in
theorem tw_281 : Cond.fieldLink "PlainPage$Rule" 25 "PlainPage$Rule" "important" "[I" ∈ lw_g := q_g (q_t2 (List.mem_of_getElem? (i := 69) rfl)) rfl
set_option maxRecDepth 10000 in
theorem tw_282 : Cond.methodLink "PlainPage$Rule" 56 y_Arrays_fill ∈ lw_g := q_g (q_t4 (List.mem_of_getElem? (i := 75) rfl)) rfl
set_option maxRecDepth 10000 in
theorem tw_283 : Cond.code y_Rule_readDeclaration prog_8_method_6_code 8 none ∈ lw_g := q_g (q_t4 (List.mem_of_getElem? (i := 81) rfl)) rfl
set_option maxRecDepth 10000 in
theorem tw_284 : Cond.methodLink "PlainPage$Rule" 62 y_Rule_readDeclaration ∈ lw_g := q_g (q_t4 (List.mem_of_getElem? (i := 78) rfl)) rfl
set_option maxRecDepth 10000 in
theorem tw_285 : Cond.instanceMethod y_Rule_readDeclaration ∈ lw_g := q_g (q_t4 (List.mem_of_getElem? (i := 80) rfl)) rfl
set_option maxRecDepth 10000 in
theorem tw_286 : Cond.selects "PlainPage$Rule" y_Rule_readDeclaration y_Rule_readDeclaration ∈ lw_g := q_g (List.mem_of_getElem? (i := 23) rfl) rfl
set_option maxRecDepth 10000 in
theorem tw_287 : Cond.fieldLink "PlainPage$Sheet" 41 "PlainPage$Sheet" "selectorIsRight" "Z" ∈ lw_g := q_g (q_t2 (List.mem_of_getElem? (i := 100) rfl)) rfl
set_option maxRecDepth 10000 in
theorem tw_288 : Cond.fieldLink "PlainPage$Sheet" 26 "PlainPage$Sheet" "heldLength" "I" ∈ lw_g := q_g (q_t2 (List.mem_of_getElem? (i := 98) rfl)) rfl
set_option maxRecDepth 10000 in
theorem tw_289 : Cond.fieldLink "PlainPage$Sheet" 30 "PlainPage$Sheet" "inBody" "Z" ∈ lw_g := q_g (q_t2 (List.mem_of_getElem? (i := 99) rfl)) rfl
set_option maxRecDepth 10000 in
theorem tw_290 : Cond.fieldLink "PlainPage$Sheet" 34 "PlainPage$Sheet" "ruleCount" "I" ∈ lw_g := q_g (q_t2 (List.mem_of_getElem? (i := 101) rfl)) rfl
set_option maxRecDepth 10000 in
theorem tw_291 : Cond.fieldLink "PlainPage$Sheet" 11 "PlainPage$Sheet" "all" "[LPlainPage$Rule;" ∈ lw_g := q_g (q_t2 (List.mem_of_getElem? (i := 95) rfl)) rfl
set_option maxRecDepth 10000 in
theorem tw_292 : Cond.fieldLink "PlainPage$Sheet" 21 "PlainPage$Sheet" "held" "[C" ∈ lw_g := q_g (q_t2 (List.mem_of_getElem? (i := 97) rfl)) rfl
set_option maxRecDepth 10000 in
theorem tw_293 : Cond.code y_Rule_readBody prog_8_method_5_code 5 none ∈ lw_g := q_g (q_t4 (List.mem_of_getElem? (i := 74) rfl)) rfl
set_option maxRecDepth 10000 in
theorem tw_294 : Cond.methodLink "PlainPage$Sheet" 47 y_Rule_readBody ∈ lw_g := q_g (q_t4 (List.mem_of_getElem? (i := 71) rfl)) rfl
set_option maxRecDepth 10000 in
theorem tw_295 : Cond.instanceMethod y_Rule_readBody ∈ lw_g := q_g (q_t4 (List.mem_of_getElem? (i := 72) rfl)) rfl
set_option maxRecDepth 10000 in
theorem tw_296 : Cond.selects "PlainPage$Rule" y_Rule_readBody y_Rule_readBody ∈ lw_g := q_g (q_t4 (List.mem_of_getElem? (i := 73) rfl)) rfl
set_option maxRecDepth 10000 in
theorem tw_297 : Cond.initialized "PlainPage$Sheet" ∈ lw_g := q_g (q_t1 (List.mem_of_getElem? (i := 9) rfl)) rfl
set_option maxRecDepth 10000 in
theorem tw_298 : Cond.code y_Sheet_endRule prog_10_method_4_code 1 none ∈ lw_g := q_g (q_t4 (List.mem_of_getElem? (i := 70) rfl)) rfl
set_option maxRecDepth 10000 in
theorem tw_299 : Cond.methodLink "PlainPage$Sheet" 44 y_Sheet_endRule ∈ lw_g := q_g (q_t4 (List.mem_of_getElem? (i := 67) rfl)) rfl
set_option maxRecDepth 10000 in
theorem tw_300 : Cond.instanceMethod y_Sheet_endRule ∈ lw_g := q_g (q_t4 (List.mem_of_getElem? (i := 69) rfl)) rfl
set_option maxRecDepth 10000 in
theorem tw_301 : Cond.selects "PlainPage$Sheet" y_Sheet_endRule y_Sheet_endRule ∈ lw_g := q_g (List.mem_of_getElem? (i := 22) rfl) rfl
set_option maxRecDepth 10000 in
theorem tw_302 : Cond.code y_Rule_readSelector prog_8_method_2_code 5 (some .boolean) ∈ lw_g := q_g (q_t4 (List.mem_of_getElem? (i := 56) rfl)) rfl
set_option maxRecDepth 10000 in
theorem tw_303 : Cond.methodLink "PlainPage$Sheet" 37 y_Rule_readSelector ∈ lw_g := q_g (q_t4 (List.mem_of_getElem? (i := 53) rfl)) rfl
set_option maxRecDepth 10000 in
theorem tw_304 : Cond.instanceMethod y_Rule_readSelector ∈ lw_g := q_g (q_t4 (List.mem_of_getElem? (i := 54) rfl)) rfl
set_option maxRecDepth 10000 in
theorem tw_305 : Cond.selects "PlainPage$Rule" y_Rule_readSelector y_Rule_readSelector ∈ lw_g := q_g (q_t4 (List.mem_of_getElem? (i := 55) rfl)) rfl
set_option maxRecDepth 10000 in
theorem tw_306 : Cond.fieldLink "PlainPage" 62 "PlainPage" "sheetLength" "I" ∈ lw_g := q_g (q_t2 (List.mem_of_getElem? (i := 223) rfl)) rfl
set_option maxRecDepth 10000 in
theorem tw_307 : Cond.fieldLink "PlainPage" 26 "PlainPage" "sheet" "LPlainPage$Sheet;" ∈ lw_g := q_g (q_t2 (List.mem_of_getElem? (i := 220) rfl)) rfl
set_option maxRecDepth 10000 in
theorem tw_308 : Cond.code y_Sheet_type prog_10_method_3_code 2 none ∈ lw_g := q_g (q_t4 (List.mem_of_getElem? (i := 52) rfl)) rfl
set_option maxRecDepth 10000 in
theorem tw_309 : Cond.methodLink "PlainPage" 65 y_Sheet_type ∈ lw_g := q_g (q_t4 (List.mem_of_getElem? (i := 49) rfl)) rfl
set_option maxRecDepth 10000 in
theorem tw_310 : Cond.instanceMethod y_Sheet_type ∈ lw_g := q_g (q_t4 (List.mem_of_getElem? (i := 50) rfl)) rfl
set_option maxRecDepth 10000 in
theorem tw_311 : Cond.selects "PlainPage$Sheet" y_Sheet_type y_Sheet_type ∈ lw_g := q_g (q_t4 (List.mem_of_getElem? (i := 51) rfl)) rfl
set_option maxRecDepth 10000 in
theorem tw_312 : Cond.methodLink "PlainPage$Tree" 61 y_Tree_number ∈ lw_g := q_g (q_t2 (List.mem_of_getElem? (i := 198) rfl)) rfl
set_option maxRecDepth 10000 in
theorem tw_313 : Cond.code y_Tree_empty prog_11_method_2_code 1 none ∈ lw_g := q_g (q_t2 (List.mem_of_getElem? (i := 189) rfl)) rfl
set_option maxRecDepth 10000 in
theorem tw_314 : Cond.methodLink "PlainPage" 180 y_Tree_empty ∈ lw_g := q_g (q_t2 (List.mem_of_getElem? (i := 186) rfl)) rfl
set_option maxRecDepth 10000 in
theorem tw_315 : Cond.instanceMethod y_Tree_empty ∈ lw_g := q_g (q_t2 (List.mem_of_getElem? (i := 187) rfl)) rfl
set_option maxRecDepth 10000 in
theorem tw_316 : Cond.selects "PlainPage$Tree" y_Tree_empty y_Tree_empty ∈ lw_g := q_g (q_t2 (List.mem_of_getElem? (i := 188) rfl)) rfl
set_option maxRecDepth 10000 in
theorem tw_317 : Cond.code y_Typist_empty prog_12_method_2_code 1 none ∈ lw_g := q_g (q_t2 (List.mem_of_getElem? (i := 209) rfl)) rfl
set_option maxRecDepth 10000 in
theorem tw_318 : Cond.methodLink "PlainPage" 183 y_Typist_empty ∈ lw_g := q_g (q_t2 (List.mem_of_getElem? (i := 206) rfl)) rfl
set_option maxRecDepth 10000 in
theorem tw_319 : Cond.instanceMethod y_Typist_empty ∈ lw_g := q_g (q_t2 (List.mem_of_getElem? (i := 207) rfl)) rfl
set_option maxRecDepth 10000 in
theorem tw_320 : Cond.selects "PlainPage$Typist" y_Typist_empty y_Typist_empty ∈ lw_g := q_g (q_t2 (List.mem_of_getElem? (i := 208) rfl)) rfl
set_option maxRecDepth 10000 in
theorem tw_321 : Cond.code y_Sheet_empty prog_10_method_2_code 1 none ∈ lw_g := q_g (q_t2 (List.mem_of_getElem? (i := 213) rfl)) rfl
set_option maxRecDepth 10000 in
theorem tw_322 : Cond.methodLink "PlainPage" 184 y_Sheet_empty ∈ lw_g := q_g (q_t2 (List.mem_of_getElem? (i := 210) rfl)) rfl
set_option maxRecDepth 10000 in
theorem tw_323 : Cond.instanceMethod y_Sheet_empty ∈ lw_g := q_g (q_t2 (List.mem_of_getElem? (i := 211) rfl)) rfl
set_option maxRecDepth 10000 in
theorem tw_324 : Cond.selects "PlainPage$Sheet" y_Sheet_empty y_Sheet_empty ∈ lw_g := q_g (q_t2 (List.mem_of_getElem? (i := 212) rfl)) rfl
set_option maxRecDepth 10000 in
theorem tw_325 : Cond.code y_Pg_startAnew prog_1_method_18_code 1 none ∈ lw_g := q_g (q_t2 (List.mem_of_getElem? (i := 185) rfl)) rfl
set_option maxRecDepth 10000 in
theorem tw_326 : Cond.methodLink "PlainPage" 37 y_Pg_startAnew ∈ lw_g := q_g (q_t2 (List.mem_of_getElem? (i := 182) rfl)) rfl
set_option maxRecDepth 10000 in
theorem tw_327 : Cond.instanceMethod y_Pg_startAnew ∈ lw_g := q_g (q_t2 (List.mem_of_getElem? (i := 184) rfl)) rfl
set_option maxRecDepth 10000 in
theorem tw_328 : Cond.selects "PlainPage" y_Pg_startAnew y_Pg_startAnew ∈ lw_g := q_g (List.mem_of_getElem? (i := 0) rfl) rfl
set_option maxRecDepth 10000 in
theorem tw_329 : Cond.fieldLink "PlainPage" 68 "PlainPage$Tree" "used" "I" ∈ lw_g := q_g (q_t2 (List.mem_of_getElem? (i := 11) rfl)) rfl
set_option maxRecDepth 10000 in
theorem tw_330 : Cond.code y_Tree_nodeAt prog_11_method_4_code 2 (some (.object "PlainPage$Node")) ∈ lw_g := q_g (q_t4 (List.mem_of_getElem? (i := 110) rfl)) rfl
set_option maxRecDepth 10000 in
theorem tw_331 : Cond.methodLink "PlainPage" 71 y_Tree_nodeAt ∈ lw_g := q_g (q_t4 (List.mem_of_getElem? (i := 107) rfl)) rfl
set_option maxRecDepth 10000 in
theorem tw_332 : Cond.instanceMethod y_Tree_nodeAt ∈ lw_g := q_g (q_t4 (List.mem_of_getElem? (i := 108) rfl)) rfl
set_option maxRecDepth 10000 in
theorem tw_333 : Cond.selects "PlainPage$Tree" y_Tree_nodeAt y_Tree_nodeAt ∈ lw_g := q_g (q_t4 (List.mem_of_getElem? (i := 109) rfl)) rfl
set_option maxRecDepth 10000 in
theorem tw_334 : Cond.fieldLink "PlainPage" 75 "PlainPage$Node" "name" "I" ∈ lw_g := q_g (q_t1 (List.mem_of_getElem? (i := 130) rfl)) rfl
set_option maxRecDepth 10000 in
theorem tw_335 : Cond.fieldLink "PlainPage" 80 "PlainPage$Node" "parent" "LPlainPage$Node;" ∈ lw_g := q_g (q_t1 (List.mem_of_getElem? (i := 145) rfl)) rfl
set_option maxRecDepth 10000 in
theorem tw_336 : Cond.fieldLink "PlainPage" 84 "PlainPage$Node" "number" "I" ∈ lw_g := q_g (q_t1 (List.mem_of_getElem? (i := 138) rfl)) rfl
set_option maxRecDepth 10000 in
theorem tw_337 : Cond.fieldLink "PlainPage" 86 "PlainPage$Node" "classes" "I" ∈ lw_g := q_g (q_t1 (List.mem_of_getElem? (i := 134) rfl)) rfl
set_option maxRecDepth 10000 in
theorem tw_338 : Cond.methodLink "PlainPage$Tree" 70 y_Tree_nodeAt ∈ lw_g := q_g (q_t4 (List.mem_of_getElem? (i := 127) rfl)) rfl
set_option maxRecDepth 10000 in
theorem tw_339 : Cond.fieldLink "PlainPage$Tree" 74 "PlainPage$Node" "firstLetter" "LPlainPage$Letter;" ∈ lw_g := q_g (q_t1 (List.mem_of_getElem? (i := 159) rfl)) rfl
set_option maxRecDepth 10000 in
theorem tw_340 : Cond.code y_Tree_letterAt prog_11_method_5_code 6 (some (.object "PlainPage$Letter")) ∈ lw_g := q_g (q_t4 (List.mem_of_getElem? (i := 126) rfl)) rfl
set_option maxRecDepth 10000 in
theorem tw_341 : Cond.methodLink "PlainPage" 89 y_Tree_letterAt ∈ lw_g := q_g (q_t4 (List.mem_of_getElem? (i := 123) rfl)) rfl
set_option maxRecDepth 10000 in
theorem tw_342 : Cond.instanceMethod y_Tree_letterAt ∈ lw_g := q_g (q_t4 (List.mem_of_getElem? (i := 124) rfl)) rfl
set_option maxRecDepth 10000 in
theorem tw_343 : Cond.selects "PlainPage$Tree" y_Tree_letterAt y_Tree_letterAt ∈ lw_g := q_g (q_t4 (List.mem_of_getElem? (i := 125) rfl)) rfl
set_option maxRecDepth 10000 in
theorem tw_344 : Cond.fieldLink "PlainPage" 93 "PlainPage$Letter" "code" "I" ∈ lw_g := q_g (q_t1 (List.mem_of_getElem? (i := 206) rfl)) rfl
set_option maxRecDepth 10000 in
theorem tw_345 : Cond.fieldLink "PlainPage" 98 "PlainPage$Tree" "stack" "LPlainPage$OpenStack;" ∈ lw_g := q_g (q_t2 (List.mem_of_getElem? (i := 4) rfl)) rfl
set_option maxRecDepth 10000 in
theorem tw_346 : Cond.fieldLink "PlainPage" 102 "PlainPage$OpenStack" "size" "I" ∈ lw_g := q_g (q_t1 (List.mem_of_getElem? (i := 50) rfl)) rfl
set_option maxRecDepth 10000 in
theorem tw_347 : Cond.fieldLink "PlainPage" 107 "PlainPage$Sheet" "ruleCount" "I" ∈ lw_g := q_g (q_t2 (List.mem_of_getElem? (i := 102) rfl)) rfl
set_option maxRecDepth 10000 in
theorem tw_348 : Cond.fieldLink "PlainPage$Sheet" 76 "PlainPage$Node" "values" "[I" ∈ lw_g := q_g (q_t1 (List.mem_of_getElem? (i := 166) rfl)) rfl
set_option maxRecDepth 10000 in
theorem tw_349 : Cond.fieldLink "PlainPage$Sheet" 80 "PlainPage$Node" "parent" "LPlainPage$Node;" ∈ lw_g := q_g (q_t1 (List.mem_of_getElem? (i := 144) rfl)) rfl
set_option maxRecDepth 10000 in
theorem tw_350 : Cond.fieldLink "PlainPage$Sheet" 60 "PlainPage$Node" "name" "I" ∈ lw_g := q_g (q_t1 (List.mem_of_getElem? (i := 129) rfl)) rfl
set_option maxRecDepth 10000 in
theorem tw_351 : Cond.code y_Node_isElement prog_6_method_3_code 1 (some .boolean) ∈ lw_g := q_g (q_t4 (List.mem_of_getElem? (i := 144) rfl)) rfl
set_option maxRecDepth 10000 in
theorem tw_352 : Cond.methodLink "PlainPage$Rule" 104 y_Node_isElement ∈ lw_g := q_g (q_t4 (List.mem_of_getElem? (i := 175) rfl)) rfl
set_option maxRecDepth 10000 in
theorem tw_353 : Cond.instanceMethod y_Node_isElement ∈ lw_g := q_g (q_t4 (List.mem_of_getElem? (i := 142) rfl)) rfl
set_option maxRecDepth 10000 in
theorem tw_354 : Cond.selects "PlainPage$Node" y_Node_isElement y_Node_isElement ∈ lw_g := q_g (q_t4 (List.mem_of_getElem? (i := 143) rfl)) rfl
set_option maxRecDepth 10000 in
theorem tw_355 : Cond.fieldLink "PlainPage$Rule" 111 "PlainPage$Node" "classes" "I" ∈ lw_g := q_g (q_t1 (List.mem_of_getElem? (i := 136) rfl)) rfl
set_option maxRecDepth 10000 in
theorem tw_356 : Cond.fieldLink "PlainPage$Rule" 108 "PlainPage$Node" "name" "I" ∈ lw_g := q_g (q_t1 (List.mem_of_getElem? (i := 132) rfl)) rfl
set_option maxRecDepth 10000 in
theorem tw_357 : Cond.fieldLink "PlainPage$Sheet" 17 "PlainPage$Sheet" "fitting" "[Z" ∈ lw_g := q_g (q_t2 (List.mem_of_getElem? (i := 96) rfl)) rfl
set_option maxRecDepth 10000 in
theorem tw_358 : Cond.code y_Rule_declared prog_8_method_9_code 3 (some .int) ∈ lw_g := q_g (q_t4 (List.mem_of_getElem? (i := 183) rfl)) rfl
set_option maxRecDepth 10000 in
theorem tw_359 : Cond.methodLink "PlainPage$Sheet" 100 y_Rule_declared ∈ lw_g := q_g (q_t4 (List.mem_of_getElem? (i := 180) rfl)) rfl
set_option maxRecDepth 10000 in
theorem tw_360 : Cond.instanceMethod y_Rule_declared ∈ lw_g := q_g (q_t4 (List.mem_of_getElem? (i := 181) rfl)) rfl
set_option maxRecDepth 10000 in
theorem tw_361 : Cond.selects "PlainPage$Rule" y_Rule_declared y_Rule_declared ∈ lw_g := q_g (q_t4 (List.mem_of_getElem? (i := 182) rfl)) rfl
set_option maxRecDepth 10000 in
theorem tw_362 : Cond.code y_Rule_weighsMoreThan prog_8_method_10_code 2 (some .boolean) ∈ lw_g := q_g (q_t4 (List.mem_of_getElem? (i := 187) rfl)) rfl
set_option maxRecDepth 10000 in
theorem tw_363 : Cond.methodLink "PlainPage$Sheet" 103 y_Rule_weighsMoreThan ∈ lw_g := q_g (q_t4 (List.mem_of_getElem? (i := 184) rfl)) rfl
set_option maxRecDepth 10000 in
theorem tw_364 : Cond.instanceMethod y_Rule_weighsMoreThan ∈ lw_g := q_g (q_t4 (List.mem_of_getElem? (i := 185) rfl)) rfl
set_option maxRecDepth 10000 in
theorem tw_365 : Cond.selects "PlainPage$Rule" y_Rule_weighsMoreThan y_Rule_weighsMoreThan ∈ lw_g := q_g (q_t4 (List.mem_of_getElem? (i := 186) rfl)) rfl
set_option maxRecDepth 10000 in
theorem tw_366 : Cond.methodLink "PlainPage$Layout" 129 y_Node_isElement ∈ lw_g := q_g (q_t4 (List.mem_of_getElem? (i := 209) rfl)) rfl
set_option maxRecDepth 10000 in
theorem tw_367 : Cond.fieldLink "PlainPage$Layout" 66 "PlainPage$Node" "values" "[I" ∈ lw_g := q_g (q_t1 (List.mem_of_getElem? (i := 165) rfl)) rfl
set_option maxRecDepth 10000 in
theorem tw_368 : Cond.fieldLink "PlainPage$Run" 17 "PlainPage$Box" "contentLeft" "I" ∈ lw_g := q_g (q_t1 (List.mem_of_getElem? (i := 94) rfl)) rfl
set_option maxRecDepth 10000 in
theorem tw_369 : Cond.fieldLink "PlainPage$Run" 23 "PlainPage$Run" "left" "I" ∈ lw_g := q_g (q_t2 (List.mem_of_getElem? (i := 135) rfl)) rfl
set_option maxRecDepth 10000 in
theorem tw_370 : Cond.fieldLink "PlainPage$Run" 26 "PlainPage$Box" "end" "I" ∈ lw_g := q_g (q_t1 (List.mem_of_getElem? (i := 99) rfl)) rfl
set_option maxRecDepth 10000 in
theorem tw_371 : Cond.fieldLink "PlainPage$Run" 29 "PlainPage$Box" "last" "I" ∈ lw_g := q_g (q_t1 (List.mem_of_getElem? (i := 101) rfl)) rfl
set_option maxRecDepth 10000 in
theorem tw_372 : Cond.fieldLink "PlainPage$Run" 32 "PlainPage$Run" "top" "I" ∈ lw_g := q_g (q_t2 (List.mem_of_getElem? (i := 142) rfl)) rfl
set_option maxRecDepth 10000 in
theorem tw_373 : Cond.fieldLink "PlainPage$Run" 35 "PlainPage$Box" "contentWidth" "I" ∈ lw_g := q_g (q_t1 (List.mem_of_getElem? (i := 97) rfl)) rfl
set_option maxRecDepth 10000 in
theorem tw_374 : Cond.fieldLink "PlainPage$Run" 38 "PlainPage$Run" "width" "I" ∈ lw_g := q_g (q_t2 (List.mem_of_getElem? (i := 136) rfl)) rfl
set_option maxRecDepth 10000 in
theorem tw_375 : Cond.fieldLink "PlainPage$Run" 41 "PlainPage$Run" "lineStart" "I" ∈ lw_g := q_g (q_t2 (List.mem_of_getElem? (i := 132) rfl)) rfl
set_option maxRecDepth 10000 in
theorem tw_376 : Cond.fieldLink "PlainPage$Run" 44 "PlainPage$Run" "wordStart" "I" ∈ lw_g := q_g (q_t2 (List.mem_of_getElem? (i := 133) rfl)) rfl
set_option maxRecDepth 10000 in
theorem tw_377 : Cond.fieldLink "PlainPage$Run" 47 "PlainPage$Run" "rowEnd" "I" ∈ lw_g := q_g (q_t2 (List.mem_of_getElem? (i := 134) rfl)) rfl
set_option maxRecDepth 10000 in
theorem tw_378 : Cond.fieldLink "PlainPage$Run" 50 "PlainPage$Run" "usedWidth" "I" ∈ lw_g := q_g (q_t2 (List.mem_of_getElem? (i := 137) rfl)) rfl
set_option maxRecDepth 10000 in
theorem tw_379 : Cond.fieldLink "PlainPage$Run" 53 "PlainPage$Run" "wordWidth" "I" ∈ lw_g := q_g (q_t2 (List.mem_of_getElem? (i := 138) rfl)) rfl
set_option maxRecDepth 10000 in
theorem tw_380 : Cond.fieldLink "PlainPage$Run" 56 "PlainPage$Run" "lineHeight" "I" ∈ lw_g := q_g (q_t2 (List.mem_of_getElem? (i := 139) rfl)) rfl
set_option maxRecDepth 10000 in
theorem tw_381 : Cond.fieldLink "PlainPage$Run" 59 "PlainPage$Run" "gap" "I" ∈ lw_g := q_g (q_t2 (List.mem_of_getElem? (i := 140) rfl)) rfl
set_option maxRecDepth 10000 in
theorem tw_382 : Cond.fieldLink "PlainPage$Run" 62 "PlainPage$Run" "hasLines" "Z" ∈ lw_g := q_g (q_t2 (List.mem_of_getElem? (i := 141) rfl)) rfl
set_option maxRecDepth 10000 in
theorem tw_383 : Cond.fieldLink "PlainPage$Run" 11 "PlainPage$Run" "row" "[LPlainPage$Letter;" ∈ lw_g := q_g (q_t2 (List.mem_of_getElem? (i := 131) rfl)) rfl
set_option maxRecDepth 10000 in
theorem tw_384 : Cond.fieldLink "PlainPage$Run" 78 "PlainPage$Letter" "size" "I" ∈ lw_g := q_g (q_t1 (List.mem_of_getElem? (i := 216) rfl)) rfl
set_option maxRecDepth 10000 in
theorem tw_385 : Cond.fieldLink "PlainPage$Run" 97 "PlainPage$Letter" "top" "I" ∈ lw_g := q_g (q_t1 (List.mem_of_getElem? (i := 221) rfl)) rfl
set_option maxRecDepth 10000 in
theorem tw_386 : Cond.fieldLink "PlainPage$Run" 98 "PlainPage$Run" "allLines" "I" ∈ lw_g := q_g (q_t2 (List.mem_of_getElem? (i := 144) rfl)) rfl
set_option maxRecDepth 10000 in
theorem tw_387 : Cond.fieldLink "PlainPage$Run" 87 "PlainPage$Letter" "left" "I" ∈ lw_g := q_g (q_t1 (List.mem_of_getElem? (i := 218) rfl)) rfl
set_option maxRecDepth 10000 in
theorem tw_388 : Cond.fieldLink "PlainPage$Run" 88 "PlainPage$Letter" "hasPlace" "Z" ∈ lw_g := q_g (q_t1 (List.mem_of_getElem? (i := 214) rfl)) rfl
set_option maxRecDepth 10000 in
theorem tw_389 : Cond.methodLink "PlainPage$Run" 91 Lib.Math.max.name ∈ lw_g := q_g (q_t4 (List.mem_of_getElem? (i := 230) rfl)) rfl
set_option maxRecDepth 10000 in
theorem tw_390 : Cond.static Lib.Math.max.name ∈ lw_g := q_g (q_t3 (List.mem_of_getElem? (i := 51) rfl)) rfl
set_option maxRecDepth 10000 in
theorem tw_391 : Cond.initialized "java/lang/Math" ∈ lw_g := q_g (q_t1 (List.mem_of_getElem? (i := 16) rfl)) rfl
set_option maxRecDepth 10000 in
theorem tw_392 : Cond.code Lib.Math.max.name Lib.Math.max.code 2 (some .int) ∈ lw_g := q_g (q_t3 (List.mem_of_getElem? (i := 52) rfl)) rfl
set_option maxRecDepth 10000 in
theorem tw_393 : Cond.initialized "PlainPage$Run" ∈ lw_g := q_g (q_t1 (List.mem_of_getElem? (i := 12) rfl)) rfl
set_option maxRecDepth 10000 in
theorem tw_394 : Cond.code y_Run_endLine prog_9_method_7_code 2 none ∈ lw_g := q_g (q_t4 (List.mem_of_getElem? (i := 229) rfl)) rfl
set_option maxRecDepth 10000 in
theorem tw_395 : Cond.methodLink "PlainPage$Run" 84 y_Run_endLine ∈ lw_g := q_g (q_t4 (List.mem_of_getElem? (i := 226) rfl)) rfl
set_option maxRecDepth 10000 in
theorem tw_396 : Cond.instanceMethod y_Run_endLine ∈ lw_g := q_g (q_t4 (List.mem_of_getElem? (i := 228) rfl)) rfl
set_option maxRecDepth 10000 in
theorem tw_397 : Cond.selects "PlainPage$Run" y_Run_endLine y_Run_endLine ∈ lw_g := q_g (List.mem_of_getElem? (i := 33) rfl) rfl
set_option maxRecDepth 10000 in
theorem tw_398 : Cond.fieldLink "PlainPage$Run" 66 "PlainPage$Node" "firstLetter" "LPlainPage$Letter;" ∈ lw_g := q_g (q_t1 (List.mem_of_getElem? (i := 158) rfl)) rfl
set_option maxRecDepth 10000 in
theorem tw_399 : Cond.fieldLink "PlainPage$Run" 72 "PlainPage$Letter" "code" "I" ∈ lw_g := q_g (q_t1 (List.mem_of_getElem? (i := 205) rfl)) rfl
set_option maxRecDepth 10000 in
theorem tw_400 : Cond.fieldLink "PlainPage$Run" 81 "PlainPage$Letter" "next" "LPlainPage$Letter;" ∈ lw_g := q_g (q_t1 (List.mem_of_getElem? (i := 209) rfl)) rfl
set_option maxRecDepth 10000 in
theorem tw_401 : Cond.code y_Run_endWord prog_9_method_6_code 2 none ∈ lw_g := q_g (q_t4 (List.mem_of_getElem? (i := 225) rfl)) rfl
set_option maxRecDepth 10000 in
theorem tw_402 : Cond.methodLink "PlainPage$Run" 75 y_Run_endWord ∈ lw_g := q_g (q_t4 (List.mem_of_getElem? (i := 222) rfl)) rfl
set_option maxRecDepth 10000 in
theorem tw_403 : Cond.instanceMethod y_Run_endWord ∈ lw_g := q_g (q_t4 (List.mem_of_getElem? (i := 224) rfl)) rfl
set_option maxRecDepth 10000 in
theorem tw_404 : Cond.selects "PlainPage$Run" y_Run_endWord y_Run_endWord ∈ lw_g := q_g (List.mem_of_getElem? (i := 32) rfl) rfl
set_option maxRecDepth 10000 in
theorem tw_405 : Cond.fieldLink "PlainPage" 139 "PlainPage$Node" "box" "LPlainPage$Box;" ∈ lw_g := q_g (q_t1 (List.mem_of_getElem? (i := 170) rfl)) rfl
set_option maxRecDepth 10000 in
theorem tw_406 : Cond.fieldLink "PlainPage" 148 "PlainPage$Box" "isThere" "Z" ∈ lw_g := q_g (q_t1 (List.mem_of_getElem? (i := 85) rfl)) rfl
set_option maxRecDepth 10000 in
theorem tw_407 : Cond.fieldLink "PlainPage" 151 "PlainPage$Box" "left" "I" ∈ lw_g := q_g (q_t1 (List.mem_of_getElem? (i := 87) rfl)) rfl
set_option maxRecDepth 10000 in
theorem tw_408 : Cond.fieldLink "PlainPage" 154 "PlainPage$Box" "top" "I" ∈ lw_g := q_g (q_t1 (List.mem_of_getElem? (i := 89) rfl)) rfl
set_option maxRecDepth 10000 in
theorem tw_409 : Cond.fieldLink "PlainPage" 157 "PlainPage$Box" "width" "I" ∈ lw_g := q_g (q_t1 (List.mem_of_getElem? (i := 91) rfl)) rfl
set_option maxRecDepth 10000 in
theorem tw_410 : Cond.fieldLink "PlainPage" 143 "PlainPage$Box" "height" "I" ∈ lw_g := q_g (q_t1 (List.mem_of_getElem? (i := 93) rfl)) rfl
set_option maxRecDepth 10000 in
theorem tw_411 : Cond.fieldLink "PlainPage" 160 "PlainPage$Letter" "hasPlace" "Z" ∈ lw_g := q_g (q_t1 (List.mem_of_getElem? (i := 215) rfl)) rfl
set_option maxRecDepth 10000 in
theorem tw_412 : Cond.fieldLink "PlainPage" 163 "PlainPage$Letter" "left" "I" ∈ lw_g := q_g (q_t1 (List.mem_of_getElem? (i := 220) rfl)) rfl
set_option maxRecDepth 10000 in
theorem tw_413 : Cond.constant "PlainPage" 164 65536 ∈ lw_g := q_g (q_t5 (List.mem_of_getElem? (i := 11) rfl)) rfl
set_option maxRecDepth 10000 in
theorem tw_414 : Cond.fieldLink "PlainPage" 165 "PlainPage$Letter" "top" "I" ∈ lw_g := q_g (q_t1 (List.mem_of_getElem? (i := 223) rfl)) rfl
set_option maxRecDepth 10000 in
theorem tw_415 : Cond.fieldLink "PlainPage" 33 "PlainPage" "page" "LPlainPage$Layout;" ∈ lw_g := q_g (q_t2 (List.mem_of_getElem? (i := 221) rfl)) rfl
set_option maxRecDepth 10000 in
theorem tw_416 : Cond.fieldLink "PlainPage" 166 "PlainPage$Layout" "run" "LPlainPage$Run;" ∈ lw_g := q_g (q_t2 (List.mem_of_getElem? (i := 174) rfl)) rfl
set_option maxRecDepth 10000 in
theorem tw_417 : Cond.fieldLink "PlainPage" 170 "PlainPage$Run" "allLines" "I" ∈ lw_g := q_g (q_t2 (List.mem_of_getElem? (i := 145) rfl)) rfl
set_option maxRecDepth 10000 in
theorem tw_418 : Cond.fieldLink "PlainPage$Layout" 70 "PlainPage$Box" "left" "I" ∈ lw_g := q_g (q_t1 (List.mem_of_getElem? (i := 86) rfl)) rfl
set_option maxRecDepth 10000 in
theorem tw_419 : Cond.fieldLink "PlainPage$Layout" 91 "PlainPage$Box" "width" "I" ∈ lw_g := q_g (q_t1 (List.mem_of_getElem? (i := 90) rfl)) rfl
set_option maxRecDepth 10000 in
theorem tw_420 : Cond.fieldLink "PlainPage$Layout" 73 "PlainPage$Box" "top" "I" ∈ lw_g := q_g (q_t1 (List.mem_of_getElem? (i := 88) rfl)) rfl
set_option maxRecDepth 10000 in
theorem tw_421 : Cond.fieldLink "PlainPage$Layout" 116 "PlainPage$Box" "height" "I" ∈ lw_g := q_g (q_t1 (List.mem_of_getElem? (i := 92) rfl)) rfl
set_option maxRecDepth 10000 in
theorem tw_422 : Cond.fieldLink "PlainPage$Layout" 162 "PlainPage$Letter" "size" "I" ∈ lw_g := q_g (q_t1 (List.mem_of_getElem? (i := 217) rfl)) rfl
set_option maxRecDepth 10000 in
theorem tw_423 : Cond.fieldLink "PlainPage$Layout" 165 "PlainPage$Letter" "left" "I" ∈ lw_g := q_g (q_t1 (List.mem_of_getElem? (i := 219) rfl)) rfl
set_option maxRecDepth 10000 in
theorem tw_424 : Cond.fieldLink "PlainPage$Layout" 166 "PlainPage$Letter" "top" "I" ∈ lw_g := q_g (q_t1 (List.mem_of_getElem? (i := 222) rfl)) rfl
set_option maxRecDepth 10000 in
theorem tw_425 : Cond.fieldLink "PlainPage$Layout" 167 "PlainPage$Letter" "code" "I" ∈ lw_g := q_g (q_t1 (List.mem_of_getElem? (i := 207) rfl)) rfl
set_option maxRecDepth 10000 in
theorem tw_426 : Cond.fieldLink "PlainPage$Layout" 25 "PlainPage$Tree" "used" "I" ∈ lw_g := q_g (q_t2 (List.mem_of_getElem? (i := 9) rfl)) rfl
set_option maxRecDepth 10000 in
theorem tw_427 : Cond.fieldLink "PlainPage$Layout" 30 "PlainPage$Tree" "order" "[LPlainPage$Node;" ∈ lw_g := q_g (q_t1 (List.mem_of_getElem? (i := 239) rfl)) rfl
set_option maxRecDepth 10000 in
theorem tw_428 : Cond.fieldLink "PlainPage$Layout" 34 "PlainPage$Node" "box" "LPlainPage$Box;" ∈ lw_g := q_g (q_t1 (List.mem_of_getElem? (i := 169) rfl)) rfl
set_option maxRecDepth 10000 in
theorem tw_429 : Cond.fieldLink "PlainPage$Layout" 40 "PlainPage$Box" "isThere" "Z" ∈ lw_g := q_g (q_t1 (List.mem_of_getElem? (i := 84) rfl)) rfl
set_option maxRecDepth 10000 in
theorem tw_430 : Cond.initialized "PlainPage$Layout" ∈ lw_g := q_g (q_t1 (List.mem_of_getElem? (i := 11) rfl)) rfl
set_option maxRecDepth 10000 in
theorem tw_431 : Cond.code y_Layout_covers prog_4_method_9_code 3 (some .boolean) ∈ lw_g := q_g (q_t5 (List.mem_of_getElem? (i := 26) rfl)) rfl
set_option maxRecDepth 10000 in
theorem tw_432 : Cond.methodLink "PlainPage$Layout" 144 y_Layout_covers ∈ lw_g := q_g (q_t5 (List.mem_of_getElem? (i := 24) rfl)) rfl
set_option maxRecDepth 10000 in
theorem tw_433 : Cond.static y_Layout_covers ∈ lw_g := q_g (q_t5 (List.mem_of_getElem? (i := 25) rfl)) rfl
set_option maxRecDepth 10000 in
theorem tw_434 : Cond.fieldLink "PlainPage$Layout" 148 "PlainPage$Node" "firstLetter" "LPlainPage$Letter;" ∈ lw_g := q_g (q_t1 (List.mem_of_getElem? (i := 160) rfl)) rfl
set_option maxRecDepth 10000 in
theorem tw_435 : Cond.fieldLink "PlainPage$Layout" 53 "PlainPage$Letter" "hasPlace" "Z" ∈ lw_g := q_g (q_t1 (List.mem_of_getElem? (i := 213) rfl)) rfl
set_option maxRecDepth 10000 in
theorem tw_436 : Cond.fieldLink "PlainPage$Layout" 159 "PlainPage$Letter" "next" "LPlainPage$Letter;" ∈ lw_g := q_g (q_t1 (List.mem_of_getElem? (i := 212) rfl)) rfl
set_option maxRecDepth 10000 in
theorem tw_437 : Cond.fieldLink "PlainPage$Layout" 152 "PlainPage$Node" "parent" "LPlainPage$Node;" ∈ lw_g := q_g (q_t1 (List.mem_of_getElem? (i := 146) rfl)) rfl
set_option maxRecDepth 10000 in
theorem tw_438 : Cond.code y_Layout_marks prog_4_method_10_code 7 (some .boolean) ∈ lw_g := q_g (q_t5 (List.mem_of_getElem? (i := 29) rfl)) rfl
set_option maxRecDepth 10000 in
theorem tw_439 : Cond.methodLink "PlainPage$Layout" 155 y_Layout_marks ∈ lw_g := q_g (q_t5 (List.mem_of_getElem? (i := 27) rfl)) rfl
set_option maxRecDepth 10000 in
theorem tw_440 : Cond.static y_Layout_marks ∈ lw_g := q_g (q_t5 (List.mem_of_getElem? (i := 28) rfl)) rfl
set_option maxRecDepth 10000 in
theorem tw_441 : Cond.fieldLink "PlainPage" 175 "PlainPage$Layout" "width" "I" ∈ lw_g := q_g (q_t2 (List.mem_of_getElem? (i := 176) rfl)) rfl
set_option maxRecDepth 10000 in
theorem tw_442 : Cond.code y_Layout_paintedAt prog_4_method_8_code 8 (some .int) ∈ lw_g := q_g (q_t5 (List.mem_of_getElem? (i := 23) rfl)) rfl
set_option maxRecDepth 10000 in
theorem tw_443 : Cond.methodLink "PlainPage" 176 y_Layout_paintedAt ∈ lw_g := q_g (q_t5 (List.mem_of_getElem? (i := 20) rfl)) rfl
set_option maxRecDepth 10000 in
theorem tw_444 : Cond.instanceMethod y_Layout_paintedAt ∈ lw_g := q_g (q_t5 (List.mem_of_getElem? (i := 21) rfl)) rfl
set_option maxRecDepth 10000 in
theorem tw_445 : Cond.selects "PlainPage$Layout" y_Layout_paintedAt y_Layout_paintedAt ∈ lw_g := q_g (q_t5 (List.mem_of_getElem? (i := 22) rfl)) rfl
set_option maxRecDepth 10000 in
theorem tw_446 : Cond.fieldLink "PlainPageModel" 129 "PlainPageModel" "broken" "Z" ∈ lw_g := q_g (q_t5 (List.mem_of_getElem? (i := 44) rfl)) rfl
set_option maxRecDepth 10000 in
theorem tw_447 : Cond.fieldLink "PlainPageModel" 142 "PlainPageModel" "count" "I" ∈ lw_g := q_g (q_t5 (List.mem_of_getElem? (i := 45) rfl)) rfl
set_option maxRecDepth 10000 in
theorem tw_448 : Cond.fieldLink "PlainPageModel" 16 "PlainPageModel" "order" "[I" ∈ lw_g := q_g (q_t5 (List.mem_of_getElem? (i := 46) rfl)) rfl
set_option maxRecDepth 10000 in
theorem tw_449 : Cond.fieldLink "PlainPageModel" 145 "PlainPageModel" "made" "I" ∈ lw_g := q_g (q_t5 (List.mem_of_getElem? (i := 47) rfl)) rfl
set_option maxRecDepth 10000 in
theorem tw_450 : Cond.fieldLink "PlainPageModel" 19 "PlainPageModel" "nameOf" "[I" ∈ lw_g := q_g (q_t5 (List.mem_of_getElem? (i := 48) rfl)) rfl
set_option maxRecDepth 10000 in
theorem tw_451 : Cond.fieldLink "PlainPageModel" 22 "PlainPageModel" "classesOf" "[I" ∈ lw_g := q_g (q_t5 (List.mem_of_getElem? (i := 49) rfl)) rfl
set_option maxRecDepth 10000 in
theorem tw_452 : Cond.fieldLink "PlainPageModel" 25 "PlainPageModel" "depthOf" "[I" ∈ lw_g := q_g (q_t5 (List.mem_of_getElem? (i := 50) rfl)) rfl
set_option maxRecDepth 10000 in
theorem tw_453 : Cond.fieldLink "PlainPageModel" 31 "PlainPageModel" "stack" "[I" ∈ lw_g := q_g (q_t5 (List.mem_of_getElem? (i := 52) rfl)) rfl
set_option maxRecDepth 10000 in
theorem tw_454 : Cond.fieldLink "PlainPageModel" 148 "PlainPageModel" "height" "I" ∈ lw_g := q_g (q_t5 (List.mem_of_getElem? (i := 53) rfl)) rfl
set_option maxRecDepth 10000 in
theorem tw_455 : Cond.fieldLink "PlainPageModel" 151 "PlainPageModel" "entries" "I" ∈ lw_g := q_g (q_t5 (List.mem_of_getElem? (i := 56) rfl)) rfl
set_option maxRecDepth 10000 in
theorem tw_456 : Cond.fieldLink "PlainPageModel" 154 "PlainPageModel" "chars" "I" ∈ lw_g := q_g (q_t5 (List.mem_of_getElem? (i := 57) rfl)) rfl
set_option maxRecDepth 10000 in
theorem tw_457 : Cond.fieldLink "PlainPageModel" 125 "PlainPageModel" "typed" "I" ∈ lw_g := q_g (q_t5 (List.mem_of_getElem? (i := 40) rfl)) rfl
set_option maxRecDepth 10000 in
theorem tw_458 : Cond.fieldLink "PlainPageModel" 7 "PlainPageModel" "text" "[I" ∈ lw_g := q_g (q_t5 (List.mem_of_getElem? (i := 41) rfl)) rfl
set_option maxRecDepth 10000 in
theorem tw_459 : Cond.initialized "PlainPageModel" ∈ lw_g := q_g (q_t1 (List.mem_of_getElem? (i := 13) rfl)) rfl
set_option maxRecDepth 10000 in
theorem tw_460 : Cond.code y_Md_small prog_14_method_6_code 1 (some .boolean) ∈ lw_g := q_g (q_t5 (List.mem_of_getElem? (i := 229) rfl)) rfl
set_option maxRecDepth 10000 in
theorem tw_461 : Cond.methodLink "PlainPageModel" 161 y_Md_small ∈ lw_g := q_g (q_t5 (List.mem_of_getElem? (i := 227) rfl)) rfl
set_option maxRecDepth 10000 in
theorem tw_462 : Cond.static y_Md_small ∈ lw_g := q_g (q_t5 (List.mem_of_getElem? (i := 228) rfl)) rfl
set_option maxRecDepth 10000 in
theorem tw_463 : Cond.code y_Md_bit prog_14_method_13_code 1 (some .int) ∈ lw_g := q_g (q_t6 (List.mem_of_getElem? (i := 11) rfl)) rfl
set_option maxRecDepth 10000 in
theorem tw_464 : Cond.methodLink "PlainPageModel" 189 y_Md_bit ∈ lw_g := q_g (q_t6 (List.mem_of_getElem? (i := 9) rfl)) rfl
set_option maxRecDepth 10000 in
theorem tw_465 : Cond.static y_Md_bit ∈ lw_g := q_g (q_t6 (List.mem_of_getElem? (i := 10) rfl)) rfl
set_option maxRecDepth 10000 in
theorem tw_466 : Cond.code y_Md_named prog_14_method_14_code 3 (some .boolean) ∈ lw_g := q_g (q_t6 (List.mem_of_getElem? (i := 28) rfl)) rfl
set_option maxRecDepth 10000 in
theorem tw_467 : Cond.methodLink "PlainPageModel" 192 y_Md_named ∈ lw_g := q_g (q_t6 (List.mem_of_getElem? (i := 25) rfl)) rfl
set_option maxRecDepth 10000 in
theorem tw_468 : Cond.instanceMethod y_Md_named ∈ lw_g := q_g (q_t6 (List.mem_of_getElem? (i := 27) rfl)) rfl
set_option maxRecDepth 10000 in
theorem tw_469 : Cond.selects "PlainPageModel" y_Md_named y_Md_named ∈ lw_g := q_g (List.mem_of_getElem? (i := 45) rfl) rfl
set_option maxRecDepth 10000 in
theorem tw_470 : Cond.code y_Md_topmost prog_14_method_17_code 4 (some .int) ∈ lw_g := q_g (q_t6 (List.mem_of_getElem? (i := 16) rfl)) rfl
set_option maxRecDepth 10000 in
theorem tw_471 : Cond.methodLink "PlainPageModel" 196 y_Md_topmost ∈ lw_g := q_g (q_t6 (List.mem_of_getElem? (i := 13) rfl)) rfl
set_option maxRecDepth 10000 in
theorem tw_472 : Cond.instanceMethod y_Md_topmost ∈ lw_g := q_g (q_t6 (List.mem_of_getElem? (i := 15) rfl)) rfl
set_option maxRecDepth 10000 in
theorem tw_473 : Cond.selects "PlainPageModel" y_Md_topmost y_Md_topmost ∈ lw_g := q_g (List.mem_of_getElem? (i := 42) rfl) rfl
set_option maxRecDepth 10000 in
theorem tw_474 : Cond.code y_Md_above prog_14_method_18_code 5 (some .boolean) ∈ lw_g := q_g (q_t6 (List.mem_of_getElem? (i := 24) rfl)) rfl
set_option maxRecDepth 10000 in
theorem tw_475 : Cond.methodLink "PlainPageModel" 199 y_Md_above ∈ lw_g := q_g (q_t6 (List.mem_of_getElem? (i := 21) rfl)) rfl
set_option maxRecDepth 10000 in
theorem tw_476 : Cond.instanceMethod y_Md_above ∈ lw_g := q_g (q_t6 (List.mem_of_getElem? (i := 23) rfl)) rfl
set_option maxRecDepth 10000 in
theorem tw_477 : Cond.selects "PlainPageModel" y_Md_above y_Md_above ∈ lw_g := q_g (List.mem_of_getElem? (i := 44) rfl) rfl
set_option maxRecDepth 10000 in
theorem tw_478 : Cond.code y_Md_seat prog_14_method_15_code 4 (some .int) ∈ lw_g := q_g (q_t6 (List.mem_of_getElem? (i := 37) rfl)) rfl
set_option maxRecDepth 10000 in
theorem tw_479 : Cond.methodLink "PlainPageModel" 202 y_Md_seat ∈ lw_g := q_g (q_t6 (List.mem_of_getElem? (i := 34) rfl)) rfl
set_option maxRecDepth 10000 in
theorem tw_480 : Cond.instanceMethod y_Md_seat ∈ lw_g := q_g (q_t6 (List.mem_of_getElem? (i := 36) rfl)) rfl
set_option maxRecDepth 10000 in
theorem tw_481 : Cond.selects "PlainPageModel" y_Md_seat y_Md_seat ∈ lw_g := q_g (List.mem_of_getElem? (i := 47) rfl) rfl
set_option maxRecDepth 10000 in
theorem tw_482 : Cond.code y_Md_behind prog_14_method_16_code 3 (some .int) ∈ lw_g := q_g (q_t6 (List.mem_of_getElem? (i := 41) rfl)) rfl
set_option maxRecDepth 10000 in
theorem tw_483 : Cond.methodLink "PlainPageModel" 205 y_Md_behind ∈ lw_g := q_g (q_t6 (List.mem_of_getElem? (i := 38) rfl)) rfl
set_option maxRecDepth 10000 in
theorem tw_484 : Cond.instanceMethod y_Md_behind ∈ lw_g := q_g (q_t6 (List.mem_of_getElem? (i := 40) rfl)) rfl
set_option maxRecDepth 10000 in
theorem tw_485 : Cond.selects "PlainPageModel" y_Md_behind y_Md_behind ∈ lw_g := q_g (List.mem_of_getElem? (i := 48) rfl) rfl
set_option maxRecDepth 10000 in
theorem tw_486 : Cond.fieldLink "PlainPageModel" 208 "PlainPageModel" "placeAt" "I" ∈ lw_g := q_g (q_t5 (List.mem_of_getElem? (i := 60) rfl)) rfl
set_option maxRecDepth 10000 in
theorem tw_487 : Cond.fieldLink "PlainPageModel" 211 "PlainPageModel" "placeDepth" "I" ∈ lw_g := q_g (q_t5 (List.mem_of_getElem? (i := 61) rfl)) rfl
set_option maxRecDepth 10000 in
theorem tw_488 : Cond.constant "PlainPageModel" 214 524288 ∈ lw_g := q_g (q_t6 (List.mem_of_getElem? (i := 66) rfl)) rfl
set_option maxRecDepth 10000 in
theorem tw_489 : Cond.constant "PlainPageModel" 215 655360 ∈ lw_g := q_g (q_t6 (List.mem_of_getElem? (i := 67) rfl)) rfl
set_option maxRecDepth 10000 in
theorem tw_490 : Cond.code y_Md_insideTop prog_14_method_21_code 3 none ∈ lw_g := q_g (q_t6 (List.mem_of_getElem? (i := 33) rfl)) rfl
set_option maxRecDepth 10000 in
theorem tw_491 : Cond.methodLink "PlainPageModel" 216 y_Md_insideTop ∈ lw_g := q_g (q_t6 (List.mem_of_getElem? (i := 30) rfl)) rfl
set_option maxRecDepth 10000 in
theorem tw_492 : Cond.instanceMethod y_Md_insideTop ∈ lw_g := q_g (q_t6 (List.mem_of_getElem? (i := 32) rfl)) rfl
set_option maxRecDepth 10000 in
theorem tw_493 : Cond.selects "PlainPageModel" y_Md_insideTop y_Md_insideTop ∈ lw_g := q_g (List.mem_of_getElem? (i := 46) rfl) rfl
set_option maxRecDepth 10000 in
theorem tw_494 : Cond.code y_Md_listOwner prog_14_method_25_code 2 (some .int) ∈ lw_g := q_g (q_t6 (List.mem_of_getElem? (i := 57) rfl)) rfl
set_option maxRecDepth 10000 in
theorem tw_495 : Cond.methodLink "PlainPageModel" 219 y_Md_listOwner ∈ lw_g := q_g (q_t6 (List.mem_of_getElem? (i := 54) rfl)) rfl
set_option maxRecDepth 10000 in
theorem tw_496 : Cond.instanceMethod y_Md_listOwner ∈ lw_g := q_g (q_t6 (List.mem_of_getElem? (i := 56) rfl)) rfl
set_option maxRecDepth 10000 in
theorem tw_497 : Cond.selects "PlainPageModel" y_Md_listOwner y_Md_listOwner ∈ lw_g := q_g (List.mem_of_getElem? (i := 52) rfl) rfl
set_option maxRecDepth 10000 in
theorem tw_498 : Cond.fieldLink "PlainPageModel" 37 "PlainPageModel" "entryOf" "[I" ∈ lw_g := q_g (q_t5 (List.mem_of_getElem? (i := 55) rfl)) rfl
set_option maxRecDepth 10000 in
theorem tw_499 : Cond.fieldLink "PlainPageModel" 34 "PlainPageModel" "entry" "[I" ∈ lw_g := q_g (q_t5 (List.mem_of_getElem? (i := 54) rfl)) rfl
set_option maxRecDepth 10000 in
theorem tw_500 : Cond.code y_Md_opened prog_14_method_20_code 4 (some .int) ∈ lw_g := q_g (q_t6 (List.mem_of_getElem? (i := 61) rfl)) rfl
set_option maxRecDepth 10000 in
theorem tw_501 : Cond.methodLink "PlainPageModel" 223 y_Md_opened ∈ lw_g := q_g (q_t6 (List.mem_of_getElem? (i := 58) rfl)) rfl
set_option maxRecDepth 10000 in
theorem tw_502 : Cond.instanceMethod y_Md_opened ∈ lw_g := q_g (q_t6 (List.mem_of_getElem? (i := 60) rfl)) rfl
set_option maxRecDepth 10000 in
theorem tw_503 : Cond.selects "PlainPageModel" y_Md_opened y_Md_opened ∈ lw_g := q_g (List.mem_of_getElem? (i := 53) rfl) rfl
set_option maxRecDepth 10000 in
theorem tw_504 : Cond.code y_Md_findPlace prog_14_method_22_code 5 none ∈ lw_g := q_g (q_t6 (List.mem_of_getElem? (i := 65) rfl)) rfl
set_option maxRecDepth 10000 in
theorem tw_505 : Cond.methodLink "PlainPageModel" 226 y_Md_findPlace ∈ lw_g := q_g (q_t6 (List.mem_of_getElem? (i := 62) rfl)) rfl
set_option maxRecDepth 10000 in
theorem tw_506 : Cond.instanceMethod y_Md_findPlace ∈ lw_g := q_g (q_t6 (List.mem_of_getElem? (i := 64) rfl)) rfl
set_option maxRecDepth 10000 in
theorem tw_507 : Cond.selects "PlainPageModel" y_Md_findPlace y_Md_findPlace ∈ lw_g := q_g (List.mem_of_getElem? (i := 54) rfl) rfl
set_option maxRecDepth 10000 in
theorem tw_508 : Cond.code y_Md_create prog_14_method_23_code 4 (some .int) ∈ lw_g := q_g (q_t6 (List.mem_of_getElem? (i := 45) rfl)) rfl
set_option maxRecDepth 10000 in
theorem tw_509 : Cond.methodLink "PlainPageModel" 229 y_Md_create ∈ lw_g := q_g (q_t6 (List.mem_of_getElem? (i := 42) rfl)) rfl
set_option maxRecDepth 10000 in
theorem tw_510 : Cond.instanceMethod y_Md_create ∈ lw_g := q_g (q_t6 (List.mem_of_getElem? (i := 44) rfl)) rfl
set_option maxRecDepth 10000 in
theorem tw_511 : Cond.selects "PlainPageModel" y_Md_create y_Md_create ∈ lw_g := q_g (List.mem_of_getElem? (i := 49) rfl) rfl
set_option maxRecDepth 10000 in
theorem tw_512 : Cond.code y_Md_push prog_14_method_24_code 2 none ∈ lw_g := q_g (q_t6 (List.mem_of_getElem? (i := 49) rfl)) rfl
set_option maxRecDepth 10000 in
theorem tw_513 : Cond.methodLink "PlainPageModel" 232 y_Md_push ∈ lw_g := q_g (q_t6 (List.mem_of_getElem? (i := 46) rfl)) rfl
set_option maxRecDepth 10000 in
theorem tw_514 : Cond.instanceMethod y_Md_push ∈ lw_g := q_g (q_t6 (List.mem_of_getElem? (i := 48) rfl)) rfl
set_option maxRecDepth 10000 in
theorem tw_515 : Cond.selects "PlainPageModel" y_Md_push y_Md_push ∈ lw_g := q_g (List.mem_of_getElem? (i := 50) rfl) rfl
set_option maxRecDepth 10000 in
theorem tw_516 : Cond.constant "PlainPageModel" 235 1607816 ∈ lw_g := q_g (q_t6 (List.mem_of_getElem? (i := 12) rfl)) rfl
set_option maxRecDepth 10000 in
theorem tw_517 : Cond.code y_Md_renew prog_14_method_26_code 5 none ∈ lw_g := q_g (q_t6 (List.mem_of_getElem? (i := 53) rfl)) rfl
set_option maxRecDepth 10000 in
theorem tw_518 : Cond.methodLink "PlainPageModel" 240 y_Md_renew ∈ lw_g := q_g (q_t6 (List.mem_of_getElem? (i := 50) rfl)) rfl
set_option maxRecDepth 10000 in
theorem tw_519 : Cond.instanceMethod y_Md_renew ∈ lw_g := q_g (q_t6 (List.mem_of_getElem? (i := 52) rfl)) rfl
set_option maxRecDepth 10000 in
theorem tw_520 : Cond.selects "PlainPageModel" y_Md_renew y_Md_renew ∈ lw_g := q_g (List.mem_of_getElem? (i := 51) rfl) rfl
set_option maxRecDepth 10000 in
theorem tw_521 : Cond.constant "PlainPageModel" 239 1048580 ∈ lw_g := q_g (q_t6 (List.mem_of_getElem? (i := 29) rfl)) rfl
set_option maxRecDepth 10000 in
theorem tw_522 : Cond.code y_Md_reach prog_14_method_19_code 4 (some .boolean) ∈ lw_g := q_g (q_t6 (List.mem_of_getElem? (i := 20) rfl)) rfl
set_option maxRecDepth 10000 in
theorem tw_523 : Cond.methodLink "PlainPageModel" 236 y_Md_reach ∈ lw_g := q_g (q_t6 (List.mem_of_getElem? (i := 17) rfl)) rfl
set_option maxRecDepth 10000 in
theorem tw_524 : Cond.instanceMethod y_Md_reach ∈ lw_g := q_g (q_t6 (List.mem_of_getElem? (i := 19) rfl)) rfl
set_option maxRecDepth 10000 in
theorem tw_525 : Cond.selects "PlainPageModel" y_Md_reach y_Md_reach ∈ lw_g := q_g (List.mem_of_getElem? (i := 43) rfl) rfl
set_option maxRecDepth 10000 in
theorem tw_526 : Cond.code y_Md_dropEntry prog_14_method_27_code 3 none ∈ lw_g := q_g (q_t6 (List.mem_of_getElem? (i := 76) rfl)) rfl
set_option maxRecDepth 10000 in
theorem tw_527 : Cond.methodLink "PlainPageModel" 243 y_Md_dropEntry ∈ lw_g := q_g (q_t6 (List.mem_of_getElem? (i := 73) rfl)) rfl
set_option maxRecDepth 10000 in
theorem tw_528 : Cond.instanceMethod y_Md_dropEntry ∈ lw_g := q_g (q_t6 (List.mem_of_getElem? (i := 75) rfl)) rfl
set_option maxRecDepth 10000 in
theorem tw_529 : Cond.selects "PlainPageModel" y_Md_dropEntry y_Md_dropEntry ∈ lw_g := q_g (List.mem_of_getElem? (i := 56) rfl) rfl
set_option maxRecDepth 10000 in
theorem tw_530 : Cond.code y_Md_clearWay prog_14_method_28_code 6 (some .boolean) ∈ lw_g := q_g (q_t6 (List.mem_of_getElem? (i := 8) rfl)) rfl
set_option maxRecDepth 10000 in
theorem tw_531 : Cond.methodLink "PlainPageModel" 246 y_Md_clearWay ∈ lw_g := q_g (q_t6 (List.mem_of_getElem? (i := 5) rfl)) rfl
set_option maxRecDepth 10000 in
theorem tw_532 : Cond.instanceMethod y_Md_clearWay ∈ lw_g := q_g (q_t6 (List.mem_of_getElem? (i := 7) rfl)) rfl
set_option maxRecDepth 10000 in
theorem tw_533 : Cond.selects "PlainPageModel" y_Md_clearWay y_Md_clearWay ∈ lw_g := q_g (List.mem_of_getElem? (i := 41) rfl) rfl
set_option maxRecDepth 10000 in
theorem tw_534 : Cond.constant "PlainPageModel" 249 262402 ∈ lw_g := q_g (q_t6 (List.mem_of_getElem? (i := 68) rfl)) rfl
set_option maxRecDepth 10000 in
theorem tw_535 : Cond.code y_Md_list prog_14_method_29_code 6 none ∈ lw_g := q_g (q_t6 (List.mem_of_getElem? (i := 72) rfl)) rfl
set_option maxRecDepth 10000 in
theorem tw_536 : Cond.methodLink "PlainPageModel" 250 y_Md_list ∈ lw_g := q_g (q_t6 (List.mem_of_getElem? (i := 69) rfl)) rfl
set_option maxRecDepth 10000 in
theorem tw_537 : Cond.instanceMethod y_Md_list ∈ lw_g := q_g (q_t6 (List.mem_of_getElem? (i := 71) rfl)) rfl
set_option maxRecDepth 10000 in
theorem tw_538 : Cond.selects "PlainPageModel" y_Md_list y_Md_list ∈ lw_g := q_g (List.mem_of_getElem? (i := 55) rfl) rfl
set_option maxRecDepth 10000 in
theorem tw_539 : Cond.fieldLink "PlainPageModel" 28 "PlainPageModel" "moved" "[I" ∈ lw_g := q_g (q_t5 (List.mem_of_getElem? (i := 51) rfl)) rfl
set_option maxRecDepth 10000 in
theorem tw_540 : Cond.code y_Md_adopt prog_14_method_33_code 10 none ∈ lw_g := q_g (q_t6 (List.mem_of_getElem? (i := 89) rfl)) rfl
set_option maxRecDepth 10000 in
theorem tw_541 : Cond.methodLink "PlainPageModel" 257 y_Md_adopt ∈ lw_g := q_g (q_t6 (List.mem_of_getElem? (i := 86) rfl)) rfl
set_option maxRecDepth 10000 in
theorem tw_542 : Cond.instanceMethod y_Md_adopt ∈ lw_g := q_g (q_t6 (List.mem_of_getElem? (i := 88) rfl)) rfl
set_option maxRecDepth 10000 in
theorem tw_543 : Cond.selects "PlainPageModel" y_Md_adopt y_Md_adopt ∈ lw_g := q_g (List.mem_of_getElem? (i := 59) rfl) rfl
set_option maxRecDepth 10000 in
theorem tw_544 : Cond.constant "PlainPageModel" 256 1738892 ∈ lw_g := q_g (q_t6 (List.mem_of_getElem? (i := 85) rfl)) rfl
set_option maxRecDepth 10000 in
theorem tw_545 : Cond.code y_Md_endOther prog_14_method_32_code 6 none ∈ lw_g := q_g (q_t6 (List.mem_of_getElem? (i := 84) rfl)) rfl
set_option maxRecDepth 10000 in
theorem tw_546 : Cond.methodLink "PlainPageModel" 253 y_Md_endOther ∈ lw_g := q_g (q_t6 (List.mem_of_getElem? (i := 81) rfl)) rfl
set_option maxRecDepth 10000 in
theorem tw_547 : Cond.instanceMethod y_Md_endOther ∈ lw_g := q_g (q_t6 (List.mem_of_getElem? (i := 83) rfl)) rfl
set_option maxRecDepth 10000 in
theorem tw_548 : Cond.selects "PlainPageModel" y_Md_endOther y_Md_endOther ∈ lw_g := q_g (List.mem_of_getElem? (i := 58) rfl) rfl
set_option maxRecDepth 10000 in
theorem tw_549 : Cond.code y_Md_peek prog_14_method_9_code 2 (some .int) ∈ lw_g := q_g (q_t5 (List.mem_of_getElem? (i := 226) rfl)) rfl
set_option maxRecDepth 10000 in
theorem tw_550 : Cond.methodLink "PlainPageModel" 157 y_Md_peek ∈ lw_g := q_g (q_t5 (List.mem_of_getElem? (i := 223) rfl)) rfl
set_option maxRecDepth 10000 in
theorem tw_551 : Cond.instanceMethod y_Md_peek ∈ lw_g := q_g (q_t5 (List.mem_of_getElem? (i := 225) rfl)) rfl
set_option maxRecDepth 10000 in
theorem tw_552 : Cond.selects "PlainPageModel" y_Md_peek y_Md_peek ∈ lw_g := q_g (List.mem_of_getElem? (i := 37) rfl) rfl
set_option maxRecDepth 10000 in
theorem tw_553 : Cond.code y_Md_closed prog_14_method_8_code 3 (some .int) ∈ lw_g := q_g (q_t5 (List.mem_of_getElem? (i := 237) rfl)) rfl
set_option maxRecDepth 10000 in
theorem tw_554 : Cond.methodLink "PlainPageModel" 176 y_Md_closed ∈ lw_g := q_g (q_t5 (List.mem_of_getElem? (i := 234) rfl)) rfl
set_option maxRecDepth 10000 in
theorem tw_555 : Cond.instanceMethod y_Md_closed ∈ lw_g := q_g (q_t5 (List.mem_of_getElem? (i := 236) rfl)) rfl
set_option maxRecDepth 10000 in
theorem tw_556 : Cond.selects "PlainPageModel" y_Md_closed y_Md_closed ∈ lw_g := q_g (List.mem_of_getElem? (i := 39) rfl) rfl
set_option maxRecDepth 10000 in
theorem tw_557 : Cond.code y_Md_capital prog_14_method_7_code 1 (some .boolean) ∈ lw_g := q_g (q_t6 (List.mem_of_getElem? (i := 0) rfl)) rfl
set_option maxRecDepth 10000 in
theorem tw_558 : Cond.methodLink "PlainPageModel" 179 y_Md_capital ∈ lw_g := q_g (q_t5 (List.mem_of_getElem? (i := 238) rfl)) rfl
set_option maxRecDepth 10000 in
theorem tw_559 : Cond.static y_Md_capital ∈ lw_g := q_g (q_t5 (List.mem_of_getElem? (i := 239) rfl)) rfl
set_option maxRecDepth 10000 in
theorem tw_560 : Cond.code y_Md_end prog_14_method_31_code 3 none ∈ lw_g := q_g (q_t6 (List.mem_of_getElem? (i := 80) rfl)) rfl
set_option maxRecDepth 10000 in
theorem tw_561 : Cond.methodLink "PlainPageModel" 186 y_Md_end ∈ lw_g := q_g (q_t6 (List.mem_of_getElem? (i := 77) rfl)) rfl
set_option maxRecDepth 10000 in
theorem tw_562 : Cond.instanceMethod y_Md_end ∈ lw_g := q_g (q_t6 (List.mem_of_getElem? (i := 79) rfl)) rfl
set_option maxRecDepth 10000 in
theorem tw_563 : Cond.selects "PlainPageModel" y_Md_end y_Md_end ∈ lw_g := q_g (List.mem_of_getElem? (i := 57) rfl) rfl
set_option maxRecDepth 10000 in
theorem tw_564 : Cond.code y_Md_start prog_14_method_30_code 5 none ∈ lw_g := q_g (q_t6 (List.mem_of_getElem? (i := 4) rfl)) rfl
set_option maxRecDepth 10000 in
theorem tw_565 : Cond.methodLink "PlainPageModel" 182 y_Md_start ∈ lw_g := q_g (q_t6 (List.mem_of_getElem? (i := 1) rfl)) rfl
set_option maxRecDepth 10000 in
theorem tw_566 : Cond.instanceMethod y_Md_start ∈ lw_g := q_g (q_t6 (List.mem_of_getElem? (i := 3) rfl)) rfl
set_option maxRecDepth 10000 in
theorem tw_567 : Cond.selects "PlainPageModel" y_Md_start y_Md_start ∈ lw_g := q_g (List.mem_of_getElem? (i := 40) rfl) rfl
set_option maxRecDepth 10000 in
theorem tw_568 : Cond.fieldLink "PlainPageModel" 40 "PlainPageModel" "codeOf" "[I" ∈ lw_g := q_g (q_t5 (List.mem_of_getElem? (i := 58) rfl)) rfl
set_option maxRecDepth 10000 in
theorem tw_569 : Cond.fieldLink "PlainPageModel" 43 "PlainPageModel" "textOf" "[I" ∈ lw_g := q_g (q_t5 (List.mem_of_getElem? (i := 59) rfl)) rfl
set_option maxRecDepth 10000 in
theorem tw_570 : Cond.code y_Md_character prog_14_method_34_code 4 none ∈ lw_g := q_g (q_t6 (List.mem_of_getElem? (i := 97) rfl)) rfl
set_option maxRecDepth 10000 in
theorem tw_571 : Cond.methodLink "PlainPageModel" 172 y_Md_character ∈ lw_g := q_g (q_t6 (List.mem_of_getElem? (i := 94) rfl)) rfl
set_option maxRecDepth 10000 in
theorem tw_572 : Cond.instanceMethod y_Md_character ∈ lw_g := q_g (q_t6 (List.mem_of_getElem? (i := 96) rfl)) rfl
set_option maxRecDepth 10000 in
theorem tw_573 : Cond.selects "PlainPageModel" y_Md_character y_Md_character ∈ lw_g := q_g (List.mem_of_getElem? (i := 61) rfl) rfl
set_option maxRecDepth 10000 in
theorem tw_574 : Cond.code y_Md_reset prog_14_method_5_code 1 none ∈ lw_g := q_g (q_t5 (List.mem_of_getElem? (i := 39) rfl)) rfl
set_option maxRecDepth 10000 in
theorem tw_575 : Cond.methodLink "PlainPageModel" 122 y_Md_reset ∈ lw_g := q_g (q_t5 (List.mem_of_getElem? (i := 36) rfl)) rfl
set_option maxRecDepth 10000 in
theorem tw_576 : Cond.instanceMethod y_Md_reset ∈ lw_g := q_g (q_t5 (List.mem_of_getElem? (i := 38) rfl)) rfl
set_option maxRecDepth 10000 in
theorem tw_577 : Cond.selects "PlainPageModel" y_Md_reset y_Md_reset ∈ lw_g := q_g (List.mem_of_getElem? (i := 35) rfl) rfl
set_option maxRecDepth 10000 in
theorem tw_578 : Cond.code y_Md_entity prog_14_method_12_code 4 (some .int) ∈ lw_g := q_g (q_t6 (List.mem_of_getElem? (i := 93) rfl)) rfl
set_option maxRecDepth 10000 in
theorem tw_579 : Cond.methodLink "PlainPageModel" 169 y_Md_entity ∈ lw_g := q_g (q_t6 (List.mem_of_getElem? (i := 90) rfl)) rfl
set_option maxRecDepth 10000 in
theorem tw_580 : Cond.instanceMethod y_Md_entity ∈ lw_g := q_g (q_t6 (List.mem_of_getElem? (i := 92) rfl)) rfl
set_option maxRecDepth 10000 in
theorem tw_581 : Cond.selects "PlainPageModel" y_Md_entity y_Md_entity ∈ lw_g := q_g (List.mem_of_getElem? (i := 60) rfl) rfl
set_option maxRecDepth 10000 in
theorem tw_582 : Cond.code y_Md_tag prog_14_method_11_code 8 (some .int) ∈ lw_g := q_g (q_t5 (List.mem_of_getElem? (i := 233) rfl)) rfl
set_option maxRecDepth 10000 in
theorem tw_583 : Cond.methodLink "PlainPageModel" 165 y_Md_tag ∈ lw_g := q_g (q_t5 (List.mem_of_getElem? (i := 230) rfl)) rfl
set_option maxRecDepth 10000 in
theorem tw_584 : Cond.instanceMethod y_Md_tag ∈ lw_g := q_g (q_t5 (List.mem_of_getElem? (i := 232) rfl)) rfl
set_option maxRecDepth 10000 in
theorem tw_585 : Cond.selects "PlainPageModel" y_Md_tag y_Md_tag ∈ lw_g := q_g (List.mem_of_getElem? (i := 38) rfl) rfl
set_option maxRecDepth 10000 in
theorem tw_586 : Cond.fieldLink "PlainPageModel" 133 "PlainPageModel" "laid" "Z" ∈ lw_g := q_g (q_t5 (List.mem_of_getElem? (i := 77) rfl)) rfl
set_option maxRecDepth 10000 in
theorem tw_587 : Cond.code y_Md_read prog_14_method_10_code 4 none ∈ lw_g := q_g (q_t5 (List.mem_of_getElem? (i := 222) rfl)) rfl
set_option maxRecDepth 10000 in
theorem tw_588 : Cond.methodLink "PlainPageModel" 136 y_Md_read ∈ lw_g := q_g (q_t5 (List.mem_of_getElem? (i := 219) rfl)) rfl
set_option maxRecDepth 10000 in
theorem tw_589 : Cond.instanceMethod y_Md_read ∈ lw_g := q_g (q_t5 (List.mem_of_getElem? (i := 221) rfl)) rfl
set_option maxRecDepth 10000 in
theorem tw_590 : Cond.selects "PlainPageModel" y_Md_read y_Md_read ∈ lw_g := q_g (List.mem_of_getElem? (i := 36) rfl) rfl
set_option maxRecDepth 10000 in
theorem tw_591 : Cond.fieldLink "PlainPageModel" 139 "PlainPageModel" "styled" "I" ∈ lw_g := q_g (q_t5 (List.mem_of_getElem? (i := 42) rfl)) rfl
set_option maxRecDepth 10000 in
theorem tw_592 : Cond.fieldLink "PlainPageModel" 13 "PlainPageModel" "sheet" "[I" ∈ lw_g := q_g (q_t5 (List.mem_of_getElem? (i := 43) rfl)) rfl
set_option maxRecDepth 10000 in
theorem tw_593 : Cond.code y_Md_none prog_14_method_35_code 2 (some .boolean) ∈ lw_g := q_g (q_t6 (List.mem_of_getElem? (i := 117) rfl)) rfl
set_option maxRecDepth 10000 in
theorem tw_594 : Cond.methodLink "PlainPageModel" 260 y_Md_none ∈ lw_g := q_g (q_t6 (List.mem_of_getElem? (i := 114) rfl)) rfl
set_option maxRecDepth 10000 in
theorem tw_595 : Cond.instanceMethod y_Md_none ∈ lw_g := q_g (q_t6 (List.mem_of_getElem? (i := 116) rfl)) rfl
set_option maxRecDepth 10000 in
theorem tw_596 : Cond.selects "PlainPageModel" y_Md_none y_Md_none ∈ lw_g := q_g (List.mem_of_getElem? (i := 62) rfl) rfl
set_option maxRecDepth 10000 in
theorem tw_597 : Cond.code y_Md_parentOf prog_14_method_38_code 3 (some .int) ∈ lw_g := q_g (q_t6 (List.mem_of_getElem? (i := 125) rfl)) rfl
set_option maxRecDepth 10000 in
theorem tw_598 : Cond.methodLink "PlainPageModel" 263 y_Md_parentOf ∈ lw_g := q_g (q_t6 (List.mem_of_getElem? (i := 122) rfl)) rfl
set_option maxRecDepth 10000 in
theorem tw_599 : Cond.instanceMethod y_Md_parentOf ∈ lw_g := q_g (q_t6 (List.mem_of_getElem? (i := 124) rfl)) rfl
set_option maxRecDepth 10000 in
theorem tw_600 : Cond.selects "PlainPageModel" y_Md_parentOf y_Md_parentOf ∈ lw_g := q_g (List.mem_of_getElem? (i := 63) rfl) rfl
set_option maxRecDepth 10000 in
theorem tw_601 : Cond.code y_Md_find prog_14_method_41_code 5 (some .int) ∈ lw_g := q_g (q_t6 (List.mem_of_getElem? (i := 137) rfl)) rfl
set_option maxRecDepth 10000 in
theorem tw_602 : Cond.methodLink "PlainPageModel" 266 y_Md_find ∈ lw_g := q_g (q_t6 (List.mem_of_getElem? (i := 134) rfl)) rfl
set_option maxRecDepth 10000 in
theorem tw_603 : Cond.instanceMethod y_Md_find ∈ lw_g := q_g (q_t6 (List.mem_of_getElem? (i := 136) rfl)) rfl
set_option maxRecDepth 10000 in
theorem tw_604 : Cond.selects "PlainPageModel" y_Md_find y_Md_find ∈ lw_g := q_g (List.mem_of_getElem? (i := 64) rfl) rfl
set_option maxRecDepth 10000 in
theorem tw_605 : Cond.fieldLink "PlainPageModel" 272 "PlainPageModel" "ruleCount" "I" ∈ lw_g := q_g (q_t5 (List.mem_of_getElem? (i := 62) rfl)) rfl
set_option maxRecDepth 10000 in
theorem tw_606 : Cond.fieldLink "PlainPageModel" 59 "PlainPageModel" "capitals" "[I" ∈ lw_g := q_g (q_t5 (List.mem_of_getElem? (i := 67) rfl)) rfl
set_option maxRecDepth 10000 in
theorem tw_607 : Cond.fieldLink "PlainPageModel" 62 "PlainPageModel" "smalls" "[I" ∈ lw_g := q_g (q_t5 (List.mem_of_getElem? (i := 68) rfl)) rfl
set_option maxRecDepth 10000 in
theorem tw_608 : Cond.code y_Md_blanks prog_14_method_47_code 4 (some .int) ∈ lw_g := q_g (q_t6 (List.mem_of_getElem? (i := 161) rfl)) rfl
set_option maxRecDepth 10000 in
theorem tw_609 : Cond.methodLink "PlainPageModel" 281 y_Md_blanks ∈ lw_g := q_g (q_t6 (List.mem_of_getElem? (i := 158) rfl)) rfl
set_option maxRecDepth 10000 in
theorem tw_610 : Cond.instanceMethod y_Md_blanks ∈ lw_g := q_g (q_t6 (List.mem_of_getElem? (i := 160) rfl)) rfl
set_option maxRecDepth 10000 in
theorem tw_611 : Cond.selects "PlainPageModel" y_Md_blanks y_Md_blanks ∈ lw_g := q_g (List.mem_of_getElem? (i := 68) rfl) rfl
set_option maxRecDepth 10000 in
theorem tw_612 : Cond.fieldLink "PlainPageModel" 46 "PlainPageModel" "partName" "[I" ∈ lw_g := q_g (q_t5 (List.mem_of_getElem? (i := 63) rfl)) rfl
set_option maxRecDepth 10000 in
theorem tw_613 : Cond.fieldLink "PlainPageModel" 49 "PlainPageModel" "partClasses" "[I" ∈ lw_g := q_g (q_t5 (List.mem_of_getElem? (i := 64) rfl)) rfl
set_option maxRecDepth 10000 in
theorem tw_614 : Cond.fieldLink "PlainPageModel" 52 "PlainPageModel" "direct" "[Z" ∈ lw_g := q_g (q_t5 (List.mem_of_getElem? (i := 65) rfl)) rfl
set_option maxRecDepth 10000 in
theorem tw_615 : Cond.fieldLink "PlainPageModel" 56 "PlainPageModel" "parts" "[I" ∈ lw_g := q_g (q_t5 (List.mem_of_getElem? (i := 66) rfl)) rfl
set_option maxRecDepth 10000 in
theorem tw_616 : Cond.code y_Md_nextSign prog_14_method_45_code 4 (some .int) ∈ lw_g := q_g (q_t6 (List.mem_of_getElem? (i := 153) rfl)) rfl
set_option maxRecDepth 10000 in
theorem tw_617 : Cond.methodLink "PlainPageModel" 275 y_Md_nextSign ∈ lw_g := q_g (q_t6 (List.mem_of_getElem? (i := 150) rfl)) rfl
set_option maxRecDepth 10000 in
theorem tw_618 : Cond.instanceMethod y_Md_nextSign ∈ lw_g := q_g (q_t6 (List.mem_of_getElem? (i := 152) rfl)) rfl
set_option maxRecDepth 10000 in
theorem tw_619 : Cond.selects "PlainPageModel" y_Md_nextSign y_Md_nextSign ∈ lw_g := q_g (List.mem_of_getElem? (i := 66) rfl) rfl
set_option maxRecDepth 10000 in
theorem tw_620 : Cond.code y_Md_selector prog_14_method_48_code 9 (some .boolean) ∈ lw_g := q_g (q_t6 (List.mem_of_getElem? (i := 157) rfl)) rfl
set_option maxRecDepth 10000 in
theorem tw_621 : Cond.methodLink "PlainPageModel" 278 y_Md_selector ∈ lw_g := q_g (q_t6 (List.mem_of_getElem? (i := 154) rfl)) rfl
set_option maxRecDepth 10000 in
theorem tw_622 : Cond.instanceMethod y_Md_selector ∈ lw_g := q_g (q_t6 (List.mem_of_getElem? (i := 156) rfl)) rfl
set_option maxRecDepth 10000 in
theorem tw_623 : Cond.selects "PlainPageModel" y_Md_selector y_Md_selector ∈ lw_g := q_g (List.mem_of_getElem? (i := 67) rfl) rfl
set_option maxRecDepth 10000 in
theorem tw_624 : Cond.fieldLink "PlainPageModel" 65 "PlainPageModel" "bodyFrom" "[I" ∈ lw_g := q_g (q_t5 (List.mem_of_getElem? (i := 69) rfl)) rfl
set_option maxRecDepth 10000 in
theorem tw_625 : Cond.fieldLink "PlainPageModel" 68 "PlainPageModel" "bodyTo" "[I" ∈ lw_g := q_g (q_t5 (List.mem_of_getElem? (i := 70) rfl)) rfl
set_option maxRecDepth 10000 in
theorem tw_626 : Cond.code y_Md_readSheet prog_14_method_46_code 4 none ∈ lw_g := q_g (q_t6 (List.mem_of_getElem? (i := 149) rfl)) rfl
set_option maxRecDepth 10000 in
theorem tw_627 : Cond.methodLink "PlainPageModel" 269 y_Md_readSheet ∈ lw_g := q_g (q_t6 (List.mem_of_getElem? (i := 146) rfl)) rfl
set_option maxRecDepth 10000 in
theorem tw_628 : Cond.instanceMethod y_Md_readSheet ∈ lw_g := q_g (q_t6 (List.mem_of_getElem? (i := 148) rfl)) rfl
set_option maxRecDepth 10000 in
theorem tw_629 : Cond.selects "PlainPageModel" y_Md_readSheet y_Md_readSheet ∈ lw_g := q_g (List.mem_of_getElem? (i := 65) rfl) rfl
set_option maxRecDepth 10000 in
theorem tw_630 : Cond.fieldLink "PlainPageModel" 74 "PlainPageModel" "up" "[I" ∈ lw_g := q_g (q_t5 (List.mem_of_getElem? (i := 73) rfl)) rfl
set_option maxRecDepth 10000 in
theorem tw_631 : Cond.fieldLink "PlainPageModel" 77 "PlainPageModel" "fits" "[Z" ∈ lw_g := q_g (q_t5 (List.mem_of_getElem? (i := 74) rfl)) rfl
set_option maxRecDepth 10000 in
theorem tw_632 : Cond.fieldLink "PlainPageModel" 71 "PlainPageModel" "word" "[I" ∈ lw_g := q_g (q_t5 (List.mem_of_getElem? (i := 71) rfl)) rfl
set_option maxRecDepth 10000 in
theorem tw_633 : Cond.code y_Md_digit prog_14_method_51_code 1 (some .boolean) ∈ lw_g := q_g (q_t6 (List.mem_of_getElem? (i := 187) rfl)) rfl
set_option maxRecDepth 10000 in
theorem tw_634 : Cond.methodLink "PlainPageModel" 284 y_Md_digit ∈ lw_g := q_g (q_t6 (List.mem_of_getElem? (i := 185) rfl)) rfl
set_option maxRecDepth 10000 in
theorem tw_635 : Cond.static y_Md_digit ∈ lw_g := q_g (q_t6 (List.mem_of_getElem? (i := 186) rfl)) rfl
set_option maxRecDepth 10000 in
theorem tw_636 : Cond.fieldLink "PlainPageModel" 287 "PlainPageModel" "wordLength" "I" ∈ lw_g := q_g (q_t5 (List.mem_of_getElem? (i := 72) rfl)) rfl
set_option maxRecDepth 10000 in
theorem tw_637 : Cond.code y_Md_declared prog_14_method_52_code 4 (some .int) ∈ lw_g := q_g (q_t6 (List.mem_of_getElem? (i := 184) rfl)) rfl
set_option maxRecDepth 10000 in
theorem tw_638 : Cond.methodLink "PlainPageModel" 293 y_Md_declared ∈ lw_g := q_g (q_t6 (List.mem_of_getElem? (i := 181) rfl)) rfl
set_option maxRecDepth 10000 in
theorem tw_639 : Cond.instanceMethod y_Md_declared ∈ lw_g := q_g (q_t6 (List.mem_of_getElem? (i := 183) rfl)) rfl
set_option maxRecDepth 10000 in
theorem tw_640 : Cond.selects "PlainPageModel" y_Md_declared y_Md_declared ∈ lw_g := q_g (List.mem_of_getElem? (i := 72) rfl) rfl
set_option maxRecDepth 10000 in
theorem tw_641 : Cond.fieldLink "PlainPageModel" 80 "PlainPageModel" "key" "[I" ∈ lw_g := q_g (q_t5 (List.mem_of_getElem? (i := 75) rfl)) rfl
set_option maxRecDepth 10000 in
theorem tw_642 : Cond.fieldLink "PlainPageModel" 83 "PlainPageModel" "value" "[I" ∈ lw_g := q_g (q_t5 (List.mem_of_getElem? (i := 76) rfl)) rfl
set_option maxRecDepth 10000 in
theorem tw_643 : Cond.constant "PlainPageModel" 296 100000 ∈ lw_g := q_g (q_t6 (List.mem_of_getElem? (i := 188) rfl)) rfl
set_option maxRecDepth 10000 in
theorem tw_644 : Cond.code y_Md_propertyIndex prog_14_method_50_code 1 (some .int) ∈ lw_g := q_g (q_t6 (List.mem_of_getElem? (i := 168) rfl)) rfl
set_option maxRecDepth 10000 in
theorem tw_645 : Cond.methodLink "PlainPageModel" 290 y_Md_propertyIndex ∈ lw_g := q_g (q_t6 (List.mem_of_getElem? (i := 166) rfl)) rfl
set_option maxRecDepth 10000 in
theorem tw_646 : Cond.static y_Md_propertyIndex ∈ lw_g := q_g (q_t6 (List.mem_of_getElem? (i := 167) rfl)) rfl
set_option maxRecDepth 10000 in
theorem tw_647 : Cond.code y_Md_match prog_14_method_49_code 10 none ∈ lw_g := q_g (q_t6 (List.mem_of_getElem? (i := 176) rfl)) rfl
set_option maxRecDepth 10000 in
theorem tw_648 : Cond.methodLink "PlainPageModel" 297 y_Md_match ∈ lw_g := q_g (q_t6 (List.mem_of_getElem? (i := 173) rfl)) rfl
set_option maxRecDepth 10000 in
theorem tw_649 : Cond.instanceMethod y_Md_match ∈ lw_g := q_g (q_t6 (List.mem_of_getElem? (i := 175) rfl)) rfl
set_option maxRecDepth 10000 in
theorem tw_650 : Cond.selects "PlainPageModel" y_Md_match y_Md_match ∈ lw_g := q_g (List.mem_of_getElem? (i := 70) rfl) rfl
set_option maxRecDepth 10000 in
theorem tw_651 : Cond.code y_Md_declare prog_14_method_53_code 8 none ∈ lw_g := q_g (q_t6 (List.mem_of_getElem? (i := 180) rfl)) rfl
set_option maxRecDepth 10000 in
theorem tw_652 : Cond.methodLink "PlainPageModel" 300 y_Md_declare ∈ lw_g := q_g (q_t6 (List.mem_of_getElem? (i := 177) rfl)) rfl
set_option maxRecDepth 10000 in
theorem tw_653 : Cond.instanceMethod y_Md_declare ∈ lw_g := q_g (q_t6 (List.mem_of_getElem? (i := 179) rfl)) rfl
set_option maxRecDepth 10000 in
theorem tw_654 : Cond.selects "PlainPageModel" y_Md_declare y_Md_declare ∈ lw_g := q_g (List.mem_of_getElem? (i := 71) rfl) rfl
set_option maxRecDepth 10000 in
theorem tw_655 : Cond.code y_Md_initial prog_14_method_55_code 3 (some .int) ∈ lw_g := q_g (q_t6 (List.mem_of_getElem? (i := 192) rfl)) rfl
set_option maxRecDepth 10000 in
theorem tw_656 : Cond.methodLink "PlainPageModel" 303 y_Md_initial ∈ lw_g := q_g (q_t6 (List.mem_of_getElem? (i := 189) rfl)) rfl
set_option maxRecDepth 10000 in
theorem tw_657 : Cond.instanceMethod y_Md_initial ∈ lw_g := q_g (q_t6 (List.mem_of_getElem? (i := 191) rfl)) rfl
set_option maxRecDepth 10000 in
theorem tw_658 : Cond.selects "PlainPageModel" y_Md_initial y_Md_initial ∈ lw_g := q_g (List.mem_of_getElem? (i := 73) rfl) rfl
set_option maxRecDepth 10000 in
theorem tw_659 : Cond.constant "PlainPageModel" 306 655364 ∈ lw_g := q_g (q_t6 (List.mem_of_getElem? (i := 193) rfl)) rfl
set_option maxRecDepth 10000 in
theorem tw_660 : Cond.code y_Md_style prog_14_method_54_code 3 none ∈ lw_g := q_g (q_t6 (List.mem_of_getElem? (i := 172) rfl)) rfl
set_option maxRecDepth 10000 in
theorem tw_661 : Cond.methodLink "PlainPageModel" 307 y_Md_style ∈ lw_g := q_g (q_t6 (List.mem_of_getElem? (i := 169) rfl)) rfl
set_option maxRecDepth 10000 in
theorem tw_662 : Cond.instanceMethod y_Md_style ∈ lw_g := q_g (q_t6 (List.mem_of_getElem? (i := 171) rfl)) rfl
set_option maxRecDepth 10000 in
theorem tw_663 : Cond.selects "PlainPageModel" y_Md_style y_Md_style ∈ lw_g := q_g (List.mem_of_getElem? (i := 69) rfl) rfl
set_option maxRecDepth 10000 in
theorem tw_664 : Cond.fieldLink "PlainPageModel" 86 "PlainPageModel" "hidden" "[Z" ∈ lw_g := q_g (q_t5 (List.mem_of_getElem? (i := 80) rfl)) rfl
set_option maxRecDepth 10000 in
theorem tw_665 : Cond.fieldLink "PlainPageModel" 89 "PlainPageModel" "boxed" "[Z" ∈ lw_g := q_g (q_t5 (List.mem_of_getElem? (i := 81) rfl)) rfl
set_option maxRecDepth 10000 in
theorem tw_666 : Cond.fieldLink "PlainPageModel" 92 "PlainPageModel" "holder" "[I" ∈ lw_g := q_g (q_t5 (List.mem_of_getElem? (i := 82) rfl)) rfl
set_option maxRecDepth 10000 in
theorem tw_667 : Cond.fieldLink "PlainPageModel" 95 "PlainPageModel" "left" "[I" ∈ lw_g := q_g (q_t5 (List.mem_of_getElem? (i := 83) rfl)) rfl
set_option maxRecDepth 10000 in
theorem tw_668 : Cond.code y_Md_border prog_14_method_58_code 3 (some .int) ∈ lw_g := q_g (q_t6 (List.mem_of_getElem? (i := 205) rfl)) rfl
set_option maxRecDepth 10000 in
theorem tw_669 : Cond.methodLink "PlainPageModel" 325 y_Md_border ∈ lw_g := q_g (q_t6 (List.mem_of_getElem? (i := 202) rfl)) rfl
set_option maxRecDepth 10000 in
theorem tw_670 : Cond.instanceMethod y_Md_border ∈ lw_g := q_g (q_t6 (List.mem_of_getElem? (i := 204) rfl)) rfl
set_option maxRecDepth 10000 in
theorem tw_671 : Cond.selects "PlainPageModel" y_Md_border y_Md_border ∈ lw_g := q_g (List.mem_of_getElem? (i := 75) rfl) rfl
set_option maxRecDepth 10000 in
theorem tw_672 : Cond.fieldLink "PlainPageModel" 98 "PlainPageModel" "inner" "[I" ∈ lw_g := q_g (q_t5 (List.mem_of_getElem? (i := 84) rfl)) rfl
set_option maxRecDepth 10000 in
theorem tw_673 : Cond.code y_Md_within prog_14_method_60_code 6 (some .boolean) ∈ lw_g := q_g (q_t6 (List.mem_of_getElem? (i := 209) rfl)) rfl
set_option maxRecDepth 10000 in
theorem tw_674 : Cond.methodLink "PlainPageModel" 328 y_Md_within ∈ lw_g := q_g (q_t6 (List.mem_of_getElem? (i := 206) rfl)) rfl
set_option maxRecDepth 10000 in
theorem tw_675 : Cond.instanceMethod y_Md_within ∈ lw_g := q_g (q_t6 (List.mem_of_getElem? (i := 208) rfl)) rfl
set_option maxRecDepth 10000 in
theorem tw_676 : Cond.selects "PlainPageModel" y_Md_within y_Md_within ∈ lw_g := q_g (List.mem_of_getElem? (i := 76) rfl) rfl
set_option maxRecDepth 10000 in
theorem tw_677 : Cond.fieldLink "PlainPageModel" 331 "PlainPageModel" "runLength" "I" ∈ lw_g := q_g (q_t5 (List.mem_of_getElem? (i := 92) rfl)) rfl
set_option maxRecDepth 10000 in
theorem tw_678 : Cond.fieldLink "PlainPageModel" 119 "PlainPageModel" "run" "[I" ∈ lw_g := q_g (q_t5 (List.mem_of_getElem? (i := 91) rfl)) rfl
set_option maxRecDepth 10000 in
theorem tw_679 : Cond.fieldLink "PlainPageModel" 366 "PlainPageModel" "lineFrom" "I" ∈ lw_g := q_g (q_t5 (List.mem_of_getElem? (i := 94) rfl)) rfl
set_option maxRecDepth 10000 in
theorem tw_680 : Cond.fieldLink "PlainPageModel" 369 "PlainPageModel" "lineWidth" "I" ∈ lw_g := q_g (q_t5 (List.mem_of_getElem? (i := 95) rfl)) rfl
set_option maxRecDepth 10000 in
theorem tw_681 : Cond.fieldLink "PlainPageModel" 360 "PlainPageModel" "lineHeight" "I" ∈ lw_g := q_g (q_t5 (List.mem_of_getElem? (i := 96) rfl)) rfl
set_option maxRecDepth 10000 in
theorem tw_682 : Cond.fieldLink "PlainPageModel" 357 "PlainPageModel" "lineHas" "Z" ∈ lw_g := q_g (q_t5 (List.mem_of_getElem? (i := 97) rfl)) rfl
set_option maxRecDepth 10000 in
theorem tw_683 : Cond.fieldLink "PlainPageModel" 113 "PlainPageModel" "charY" "[I" ∈ lw_g := q_g (q_t5 (List.mem_of_getElem? (i := 89) rfl)) rfl
set_option maxRecDepth 10000 in
theorem tw_684 : Cond.fieldLink "PlainPageModel" 344 "PlainPageModel" "lineTop" "I" ∈ lw_g := q_g (q_t5 (List.mem_of_getElem? (i := 93) rfl)) rfl
set_option maxRecDepth 10000 in
theorem tw_685 : Cond.code y_Md_size prog_14_method_64_code 3 (some .int) ∈ lw_g := q_g (q_t6 (List.mem_of_getElem? (i := 233) rfl)) rfl
set_option maxRecDepth 10000 in
theorem tw_686 : Cond.methodLink "PlainPageModel" 354 y_Md_size ∈ lw_g := q_g (q_t6 (List.mem_of_getElem? (i := 230) rfl)) rfl
set_option maxRecDepth 10000 in
theorem tw_687 : Cond.instanceMethod y_Md_size ∈ lw_g := q_g (q_t6 (List.mem_of_getElem? (i := 232) rfl)) rfl
set_option maxRecDepth 10000 in
theorem tw_688 : Cond.selects "PlainPageModel" y_Md_size y_Md_size ∈ lw_g := q_g (List.mem_of_getElem? (i := 82) rfl) rfl
set_option maxRecDepth 10000 in
theorem tw_689 : Cond.fieldLink "PlainPageModel" 313 "PlainPageModel" "lineCount" "I" ∈ lw_g := q_g (q_t5 (List.mem_of_getElem? (i := 79) rfl)) rfl
set_option maxRecDepth 10000 in
theorem tw_690 : Cond.code y_Md_newLine prog_14_method_66_code 2 none ∈ lw_g := q_g (q_t6 (List.mem_of_getElem? (i := 225) rfl)) rfl
set_option maxRecDepth 10000 in
theorem tw_691 : Cond.methodLink "PlainPageModel" 347 y_Md_newLine ∈ lw_g := q_g (q_t6 (List.mem_of_getElem? (i := 222) rfl)) rfl
set_option maxRecDepth 10000 in
theorem tw_692 : Cond.instanceMethod y_Md_newLine ∈ lw_g := q_g (q_t6 (List.mem_of_getElem? (i := 224) rfl)) rfl
set_option maxRecDepth 10000 in
theorem tw_693 : Cond.selects "PlainPageModel" y_Md_newLine y_Md_newLine ∈ lw_g := q_g (List.mem_of_getElem? (i := 80) rfl) rfl
set_option maxRecDepth 10000 in
theorem tw_694 : Cond.fieldLink "PlainPageModel" 107 "PlainPageModel" "put" "[Z" ∈ lw_g := q_g (q_t5 (List.mem_of_getElem? (i := 87) rfl)) rfl
set_option maxRecDepth 10000 in
theorem tw_695 : Cond.fieldLink "PlainPageModel" 116 "PlainPageModel" "charBox" "[I" ∈ lw_g := q_g (q_t5 (List.mem_of_getElem? (i := 90) rfl)) rfl
set_option maxRecDepth 10000 in
theorem tw_696 : Cond.fieldLink "PlainPageModel" 110 "PlainPageModel" "charX" "[I" ∈ lw_g := q_g (q_t5 (List.mem_of_getElem? (i := 88) rfl)) rfl
set_option maxRecDepth 10000 in
theorem tw_697 : Cond.code y_Md_endLine prog_14_method_67_code 3 none ∈ lw_g := q_g (q_t6 (List.mem_of_getElem? (i := 237) rfl)) rfl
set_option maxRecDepth 10000 in
theorem tw_698 : Cond.methodLink "PlainPageModel" 363 y_Md_endLine ∈ lw_g := q_g (q_t6 (List.mem_of_getElem? (i := 234) rfl)) rfl
set_option maxRecDepth 10000 in
theorem tw_699 : Cond.instanceMethod y_Md_endLine ∈ lw_g := q_g (q_t6 (List.mem_of_getElem? (i := 236) rfl)) rfl
set_option maxRecDepth 10000 in
theorem tw_700 : Cond.selects "PlainPageModel" y_Md_endLine y_Md_endLine ∈ lw_g := q_g (List.mem_of_getElem? (i := 83) rfl) rfl
set_option maxRecDepth 10000 in
theorem tw_701 : Cond.code y_Md_putWord prog_14_method_68_code 9 none ∈ lw_g := q_g (q_t6 (List.mem_of_getElem? (i := 229) rfl)) rfl
set_option maxRecDepth 10000 in
theorem tw_702 : Cond.methodLink "PlainPageModel" 350 y_Md_putWord ∈ lw_g := q_g (q_t6 (List.mem_of_getElem? (i := 226) rfl)) rfl
set_option maxRecDepth 10000 in
theorem tw_703 : Cond.instanceMethod y_Md_putWord ∈ lw_g := q_g (q_t6 (List.mem_of_getElem? (i := 228) rfl)) rfl
set_option maxRecDepth 10000 in
theorem tw_704 : Cond.selects "PlainPageModel" y_Md_putWord y_Md_putWord ∈ lw_g := q_g (List.mem_of_getElem? (i := 81) rfl) rfl
set_option maxRecDepth 10000 in
theorem tw_705 : Cond.code y_Md_gather prog_14_method_62_code 4 none ∈ lw_g := q_g (q_t7 (List.mem_of_getElem? (i := 1) rfl)) rfl
set_option maxRecDepth 10000 in
theorem tw_706 : Cond.methodLink "PlainPageModel" 341 y_Md_gather ∈ lw_g := q_g (q_t6 (List.mem_of_getElem? (i := 238) rfl)) rfl
set_option maxRecDepth 10000 in
theorem tw_707 : Cond.instanceMethod y_Md_gather ∈ lw_g := q_g (q_t7 (List.mem_of_getElem? (i := 0) rfl)) rfl
set_option maxRecDepth 10000 in
theorem tw_708 : Cond.selects "PlainPageModel" y_Md_gather y_Md_gather ∈ lw_g := q_g (List.mem_of_getElem? (i := 84) rfl) rfl
set_option maxRecDepth 10000 in
theorem tw_709 : Cond.code y_Md_runs prog_14_method_63_code 3 (some .boolean) ∈ lw_g := q_g (q_t6 (List.mem_of_getElem? (i := 217) rfl)) rfl
set_option maxRecDepth 10000 in
theorem tw_710 : Cond.methodLink "PlainPageModel" 334 y_Md_runs ∈ lw_g := q_g (q_t6 (List.mem_of_getElem? (i := 214) rfl)) rfl
set_option maxRecDepth 10000 in
theorem tw_711 : Cond.instanceMethod y_Md_runs ∈ lw_g := q_g (q_t6 (List.mem_of_getElem? (i := 216) rfl)) rfl
set_option maxRecDepth 10000 in
theorem tw_712 : Cond.selects "PlainPageModel" y_Md_runs y_Md_runs ∈ lw_g := q_g (List.mem_of_getElem? (i := 78) rfl) rfl
set_option maxRecDepth 10000 in
theorem tw_713 : Cond.fieldLink "PlainPageModel" 104 "PlainPageModel" "top" "[I" ∈ lw_g := q_g (q_t5 (List.mem_of_getElem? (i := 86) rfl)) rfl
set_option maxRecDepth 10000 in
theorem tw_714 : Cond.fieldLink "PlainPageModel" 101 "PlainPageModel" "tall" "[I" ∈ lw_g := q_g (q_t5 (List.mem_of_getElem? (i := 85) rfl)) rfl
set_option maxRecDepth 10000 in
theorem tw_715 : Cond.code y_Md_lay prog_14_method_65_code 8 (some .int) ∈ lw_g := q_g (q_t6 (List.mem_of_getElem? (i := 221) rfl)) rfl
set_option maxRecDepth 10000 in
theorem tw_716 : Cond.methodLink "PlainPageModel" 338 y_Md_lay ∈ lw_g := q_g (q_t6 (List.mem_of_getElem? (i := 218) rfl)) rfl
set_option maxRecDepth 10000 in
theorem tw_717 : Cond.instanceMethod y_Md_lay ∈ lw_g := q_g (q_t6 (List.mem_of_getElem? (i := 220) rfl)) rfl
set_option maxRecDepth 10000 in
theorem tw_718 : Cond.selects "PlainPageModel" y_Md_lay y_Md_lay ∈ lw_g := q_g (List.mem_of_getElem? (i := 79) rfl) rfl
set_option maxRecDepth 10000 in
theorem tw_719 : Cond.fieldLink "PlainPageModel" 310 "PlainPageModel" "wide" "I" ∈ lw_g := q_g (q_t5 (List.mem_of_getElem? (i := 78) rfl)) rfl
set_option maxRecDepth 10000 in
theorem tw_720 : Cond.code y_Md_widths prog_14_method_59_code 10 none ∈ lw_g := q_g (q_t6 (List.mem_of_getElem? (i := 201) rfl)) rfl
set_option maxRecDepth 10000 in
theorem tw_721 : Cond.methodLink "PlainPageModel" 316 y_Md_widths ∈ lw_g := q_g (q_t6 (List.mem_of_getElem? (i := 198) rfl)) rfl
set_option maxRecDepth 10000 in
theorem tw_722 : Cond.instanceMethod y_Md_widths ∈ lw_g := q_g (q_t6 (List.mem_of_getElem? (i := 200) rfl)) rfl
set_option maxRecDepth 10000 in
theorem tw_723 : Cond.selects "PlainPageModel" y_Md_widths y_Md_widths ∈ lw_g := q_g (List.mem_of_getElem? (i := 74) rfl) rfl
set_option maxRecDepth 10000 in
theorem tw_724 : Cond.code y_Md_heights prog_14_method_61_code 11 none ∈ lw_g := q_g (q_t6 (List.mem_of_getElem? (i := 213) rfl)) rfl
set_option maxRecDepth 10000 in
theorem tw_725 : Cond.methodLink "PlainPageModel" 319 y_Md_heights ∈ lw_g := q_g (q_t6 (List.mem_of_getElem? (i := 210) rfl)) rfl
set_option maxRecDepth 10000 in
theorem tw_726 : Cond.instanceMethod y_Md_heights ∈ lw_g := q_g (q_t6 (List.mem_of_getElem? (i := 212) rfl)) rfl
set_option maxRecDepth 10000 in
theorem tw_727 : Cond.selects "PlainPageModel" y_Md_heights y_Md_heights ∈ lw_g := q_g (List.mem_of_getElem? (i := 77) rfl) rfl
set_option maxRecDepth 10000 in
theorem tw_728 : Cond.code y_Md_places prog_14_method_69_code 2 none ∈ lw_g := q_g (q_t7 (List.mem_of_getElem? (i := 5) rfl)) rfl
set_option maxRecDepth 10000 in
theorem tw_729 : Cond.methodLink "PlainPageModel" 322 y_Md_places ∈ lw_g := q_g (q_t7 (List.mem_of_getElem? (i := 2) rfl)) rfl
set_option maxRecDepth 10000 in
theorem tw_730 : Cond.instanceMethod y_Md_places ∈ lw_g := q_g (q_t7 (List.mem_of_getElem? (i := 4) rfl)) rfl
set_option maxRecDepth 10000 in
theorem tw_731 : Cond.selects "PlainPageModel" y_Md_places y_Md_places ∈ lw_g := q_g (List.mem_of_getElem? (i := 85) rfl) rfl
set_option maxRecDepth 10000 in
theorem tw_732 : Cond.constant "PlainPageModel" 372 65536 ∈ lw_g := q_g (q_t7 (List.mem_of_getElem? (i := 14) rfl)) rfl
set_option maxRecDepth 10000 in
theorem tw_733 : Cond.code y_Md_inked prog_14_method_74_code 7 (some .boolean) ∈ lw_g := q_g (q_t7 (List.mem_of_getElem? (i := 26) rfl)) rfl
set_option maxRecDepth 10000 in
theorem tw_734 : Cond.methodLink "PlainPageModel" 373 y_Md_inked ∈ lw_g := q_g (q_t7 (List.mem_of_getElem? (i := 23) rfl)) rfl
set_option maxRecDepth 10000 in
theorem tw_735 : Cond.instanceMethod y_Md_inked ∈ lw_g := q_g (q_t7 (List.mem_of_getElem? (i := 25) rfl)) rfl
set_option maxRecDepth 10000 in
theorem tw_736 : Cond.selects "PlainPageModel" y_Md_inked y_Md_inked ∈ lw_g := q_g (List.mem_of_getElem? (i := 86) rfl) rfl
set_option maxRecDepth 10000 in
theorem tw_737 : Cond.code y_String_indexOf prog_17_method_79_code 2 (some .int) ∈ lw_g := q_g (q_t3 (List.mem_of_getElem? (i := 25) rfl)) rfl
set_option maxRecDepth 10000 in
theorem tw_738 : Cond.initialized "java/lang/String" ∈ lw_g := q_g (q_t1 (List.mem_of_getElem? (i := 14) rfl)) rfl
set_option maxRecDepth 10000 in
theorem tw_739 : Cond.instanceMethod y_String_indexOf ∈ lw_g := q_g (q_t3 (List.mem_of_getElem? (i := 23) rfl)) rfl
set_option maxRecDepth 10000 in
theorem tw_740 : Cond.selects "java/lang/String" y_String_indexOf y_String_indexOf ∈ lw_g := q_g (q_t3 (List.mem_of_getElem? (i := 24) rfl)) rfl
set_option maxRecDepth 10000 in
theorem tw_741 : Cond.code y_Arrays_fill prog_20_method_103_code 4 none ∈ lw_g := q_g (q_t4 (List.mem_of_getElem? (i := 77) rfl)) rfl
set_option maxRecDepth 10000 in
theorem tw_742 : Cond.initialized "java/util/Arrays" ∈ lw_g := q_g (q_t1 (List.mem_of_getElem? (i := 20) rfl)) rfl
set_option maxRecDepth 10000 in
theorem tw_743 : Cond.static y_Arrays_fill ∈ lw_g := q_g (q_t4 (List.mem_of_getElem? (i := 76) rfl)) rfl
