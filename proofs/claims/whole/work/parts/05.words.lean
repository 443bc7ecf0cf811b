/-! WORDS OF THE TABLES, by their places; names of the methods -/
theorem sm_g0 {w : Cond} {i : Nat} (h : (k2_sels lw_privs)[i]? = some w) (hg : goodWord w = true) : w ∈ sm_G := sm_gin (List.mem_append_left _ (List.mem_of_getElem? h)) hg
theorem sm_g1 {w : Cond} {i : Nat} (h : tables_1_1[i]? = some w) (hg : goodWord w = true) : w ∈ sm_G := sm_gin (List.mem_append_right _ (List.mem_append_left _ (List.mem_of_getElem? h))) hg
theorem sm_g2 {w : Cond} {i : Nat} (h : tables_1_2[i]? = some w) (hg : goodWord w = true) : w ∈ sm_G := sm_gin (List.mem_append_right _ (List.mem_append_right _ (List.mem_append_left _ (List.mem_of_getElem? h)))) hg
theorem sm_g3 {w : Cond} {i : Nat} (h : tables_1_3[i]? = some w) (hg : goodWord w = true) : w ∈ sm_G := sm_gin (List.mem_append_right _ (List.mem_append_right _ (List.mem_append_right _ (List.mem_append_left _ (List.mem_of_getElem? h))))) hg
theorem sm_g4 {w : Cond} {i : Nat} (h : tables_1_4[i]? = some w) (hg : goodWord w = true) : w ∈ sm_G := sm_gin (List.mem_append_right _ (List.mem_append_right _ (List.mem_append_right _ (List.mem_append_right _ (List.mem_append_left _ (List.mem_of_getElem? h)))))) hg
theorem sm_g5 {w : Cond} {i : Nat} (h : tables_1_5[i]? = some w) (hg : goodWord w = true) : w ∈ sm_G := sm_gin (List.mem_append_right _ (List.mem_append_right _ (List.mem_append_right _ (List.mem_append_right _ (List.mem_append_right _ (List.mem_append_left _ (List.mem_of_getElem? h))))))) hg
theorem sm_g6 {w : Cond} {i : Nat} (h : tables_1_6[i]? = some w) (hg : goodWord w = true) : w ∈ sm_G := sm_gin (List.mem_append_right _ (List.mem_append_right _ (List.mem_append_right _ (List.mem_append_right _ (List.mem_append_right _ (List.mem_append_right _ ((List.mem_of_getElem? h)))))))) hg
def yX7_init : MethodName := ⟨"SmokeGoesTo", "<init>", "()V"⟩
def yX7_set : MethodName := ⟨"SmokeGoesTo", "set", "(III)I"⟩
def yX7_setSmoke : MethodName := ⟨"SmokeGoesTo", "setSmoke", "(I)I"⟩
def yX7_isPlace : MethodName := ⟨"SmokeGoesTo", "isPlace", "(I)Z"⟩
def yX7_setLeft : MethodName := ⟨"SmokeGoesTo", "setLeft", "(I)I"⟩
def yX7_setRight : MethodName := ⟨"SmokeGoesTo", "setRight", "(I)I"⟩
def yX7_setTents : MethodName := ⟨"SmokeGoesTo", "setTents", "(I)I"⟩
def yX7_setEddy : MethodName := ⟨"SmokeGoesTo", "setEddy", "(I)I"⟩
def yX7_setNumber : MethodName := ⟨"SmokeGoesTo", "setNumber", "(II)I"⟩
def yX7_setPlace : MethodName := ⟨"SmokeGoesTo", "setPlace", "(II)I"⟩
def yX7_sitter : MethodName := ⟨"SmokeGoesTo", "sitter", "(III)I"⟩
def yX7_told : MethodName := ⟨"SmokeGoesTo", "told", "(II)I"⟩
def yX7_round : MethodName := ⟨"SmokeGoesTo", "round", "(I)I"⟩
def yX7_feed : MethodName := ⟨"SmokeGoesTo", "feed", "(I)I"⟩
def yX7_text : MethodName := ⟨"SmokeGoesTo", "text", "()I"⟩
def yX7_force : MethodName := ⟨"SmokeGoesTo", "force", "(I)I"⟩
def yX7_night : MethodName := ⟨"SmokeGoesTo", "night", "(II)I"⟩
def yX7_isSheet : MethodName := ⟨"SmokeGoesTo", "isSheet", "(I)Z"⟩
def yX7_isNightWhat : MethodName := ⟨"SmokeGoesTo", "isNightWhat", "(I)Z"⟩
def yX7_thinkAsItIs : MethodName := ⟨"SmokeGoesTo", "thinkAsItIs", "()V"⟩
def yX7_sit : MethodName := ⟨"SmokeGoesTo", "sit", "(I)I"⟩
def yX7_refusal : MethodName := ⟨"SmokeGoesTo", "refusal", "(I)I"⟩
def yX7_likely : MethodName := ⟨"SmokeGoesTo", "likely", "(III)J"⟩
def yX7_isPart : MethodName := ⟨"SmokeGoesTo", "isPart", "(I)Z"⟩
def yX7_lowest : MethodName := ⟨"SmokeGoesTo", "lowest", "(JJI)J"⟩
def yX7_commonDivisor : MethodName := ⟨"SmokeGoesTo", "commonDivisor", "(JJ)J"⟩
def yX7_mean : MethodName := ⟨"SmokeGoesTo", "mean", "(III)J"⟩
def yX7_isMeanMinutes : MethodName := ⟨"SmokeGoesTo", "isMeanMinutes", "(I)Z"⟩
def yX7_seat : MethodName := ⟨"SmokeGoesTo", "seat", "(II)I"⟩
def yX7_gap : MethodName := ⟨"SmokeGoesTo", "gap", "(II)I"⟩
def yX7_leastOutside : MethodName := ⟨"SmokeGoesTo", "leastOutside", "(I)I"⟩
def yX7_placeOfBit : MethodName := ⟨"SmokeGoesTo", "placeOfBit", "(II)I"⟩
def yX7_stay : MethodName := ⟨"SmokeGoesTo", "stay", "(I)I"⟩
def yX7_costIf : MethodName := ⟨"SmokeGoesTo", "costIf", "(III)I"⟩
def yX7_eddies : MethodName := ⟨"SmokeGoesTo", "eddies", "(I)I"⟩
def yX7_costIfEddy : MethodName := ⟨"SmokeGoesTo", "costIfEddy", "(I)I"⟩
def yX7_best : MethodName := ⟨"SmokeGoesTo", "best", "(III)I"⟩
def yX7_eyes : MethodName := ⟨"SmokeGoesTo", "eyes", "(III)I"⟩
def yX7_rowsThatFit : MethodName := ⟨"SmokeGoesTo", "rowsThatFit", "(LSmokeGoesTo$Sheet;I)I"⟩
def yX7_rowsOf : MethodName := ⟨"SmokeGoesTo", "rowsOf", "(I)I"⟩
def yX7_fits : MethodName := ⟨"SmokeGoesTo", "fits", "(LSmokeGoesTo$Sheet;IIII)Z"⟩
def yX7_firstThatFits : MethodName := ⟨"SmokeGoesTo", "firstThatFits", "(LSmokeGoesTo$Sheet;I)I"⟩
def yX7_kindsThatFit : MethodName := ⟨"SmokeGoesTo", "kindsThatFit", "(LSmokeGoesTo$Sheet;II)I"⟩
def yX7_film : MethodName := ⟨"SmokeGoesTo", "film", "(II)I"⟩
def yX7_drawn : MethodName := ⟨"SmokeGoesTo", "drawn", "(I)I"⟩
def yX7_chance : MethodName := ⟨"SmokeGoesTo", "chance", "(III)J"⟩
def yX7_image : MethodName := ⟨"SmokeGoesTo", "image", "()I"⟩
def yX7_back : MethodName := ⟨"SmokeGoesTo", "back", "()I"⟩
def yX7_count : MethodName := ⟨"SmokeGoesTo", "count", "(I)I"⟩
def yX7_sheet : MethodName := ⟨"SmokeGoesTo", "sheet", "(III)I"⟩
def yX7_cell : MethodName := ⟨"SmokeGoesTo", "cell", "(III)I"⟩
def yX7_copy : MethodName := ⟨"SmokeGoesTo", "copy", "(IIIII)I"⟩
def yX7_sitters : MethodName := ⟨"SmokeGoesTo", "sitters", "(IIII)I"⟩
def yX7_taken : MethodName := ⟨"SmokeGoesTo", "taken", "(II)I"⟩
def yX0_init : MethodName := ⟨"SmokeGoesTo$Fire", "<init>", "()V"⟩
def yX0_has : MethodName := ⟨"SmokeGoesTo$Fire", "has", "(I)Z"⟩
def yX0_isFreeFor : MethodName := ⟨"SmokeGoesTo$Fire", "isFreeFor", "(II)Z"⟩
def yX0_whoIsOn : MethodName := ⟨"SmokeGoesTo$Fire", "whoIsOn", "(I)I"⟩
def yX0_come : MethodName := ⟨"SmokeGoesTo$Fire", "come", "(III)I"⟩
def yX0_become : MethodName := ⟨"SmokeGoesTo$Fire", "become", "(LSmokeGoesTo$Fire;)V"⟩
def yX0_hasTent : MethodName := ⟨"SmokeGoesTo$Fire", "hasTent", "(I)Z"⟩
def yX4_init : MethodName := ⟨"SmokeGoesTo$Reader", "<init>", "()V"⟩
def yX4_add : MethodName := ⟨"SmokeGoesTo$Reader", "add", "(I)Z"⟩
def yX4_read : MethodName := ⟨"SmokeGoesTo$Reader", "read", "(LSmokeGoesTo$Text;)I"⟩
def yX4_step : MethodName := ⟨"SmokeGoesTo$Reader", "step", "()V"⟩
def yX4_isDigit : MethodName := ⟨"SmokeGoesTo$Reader", "isDigit", "(I)Z"⟩
def yX4_stepNumber : MethodName := ⟨"SmokeGoesTo$Reader", "stepNumber", "()V"⟩
def yX4_isLetter : MethodName := ⟨"SmokeGoesTo$Reader", "isLetter", "(I)Z"⟩
def yX4_stepWord : MethodName := ⟨"SmokeGoesTo$Reader", "stepWord", "()V"⟩
def yX4_isWord : MethodName := ⟨"SmokeGoesTo$Reader", "isWord", "(I)Z"⟩
def yX4_accept : MethodName := ⟨"SmokeGoesTo$Reader", "accept", "(I)Z"⟩
def yX4_readOr : MethodName := ⟨"SmokeGoesTo$Reader", "readOr", "(I)Z"⟩
def yX4_readAnd : MethodName := ⟨"SmokeGoesTo$Reader", "readAnd", "(I)Z"⟩
def yX4_readNot : MethodName := ⟨"SmokeGoesTo$Reader", "readNot", "(I)Z"⟩
def yX4_readSum : MethodName := ⟨"SmokeGoesTo$Reader", "readSum", "(I)Z"⟩
def yX4_readTerm : MethodName := ⟨"SmokeGoesTo$Reader", "readTerm", "(I)Z"⟩
def yX4_readOne : MethodName := ⟨"SmokeGoesTo$Reader", "readOne", "(I)Z"⟩
def yX4_empty : MethodName := ⟨"SmokeGoesTo$Reader", "empty", "()V"⟩
def yX6_init : MethodName := ⟨"SmokeGoesTo$Text", "<init>", "()V"⟩
def yX6_clear : MethodName := ⟨"SmokeGoesTo$Text", "clear", "()V"⟩
def yX6_addOperator : MethodName := ⟨"SmokeGoesTo$Text", "addOperator", "(I)V"⟩
def yX6_addNumber : MethodName := ⟨"SmokeGoesTo$Text", "addNumber", "(I)V"⟩
def yX6_addName : MethodName := ⟨"SmokeGoesTo$Text", "addName", "(I)V"⟩
def yX6_endPart : MethodName := ⟨"SmokeGoesTo$Text", "endPart", "(I)V"⟩
def yX6_value : MethodName := ⟨"SmokeGoesTo$Text", "value", "(I[I[I)I"⟩
def yX6_joined : MethodName := ⟨"SmokeGoesTo$Text", "joined", "(III)I"⟩
def yX5_init : MethodName := ⟨"SmokeGoesTo$Sheet", "<init>", "()V"⟩
def yX5_isMissing : MethodName := ⟨"SmokeGoesTo$Sheet", "isMissing", "()Z"⟩
def yX5_item : MethodName := ⟨"SmokeGoesTo$Sheet", "item", "(I)I"⟩
def yX5_become : MethodName := ⟨"SmokeGoesTo$Sheet", "become", "(II)V"⟩
def yX5_put : MethodName := ⟨"SmokeGoesTo$Sheet", "put", "(II)V"⟩
def yX5_holds : MethodName := ⟨"SmokeGoesTo$Sheet", "holds", "(II)Z"⟩
def yX2_init : MethodName := ⟨"SmokeGoesTo$Night", "<init>", "()V"⟩
def yX2_takeWinds : MethodName := ⟨"SmokeGoesTo$Night", "takeWinds", "(LSmokeGoesTo$Sheet;)V"⟩
def yX2_begin : MethodName := ⟨"SmokeGoesTo$Night", "begin", "(LSmokeGoesTo$Fire;)V"⟩
def yX2_run : MethodName := ⟨"SmokeGoesTo$Night", "run", "(LSmokeGoesTo$Text;)V"⟩
def yX2_turn : MethodName := ⟨"SmokeGoesTo$Night", "turn", "(I)V"⟩
def yX2_feel : MethodName := ⟨"SmokeGoesTo$Night", "feel", "(IZI)V"⟩
def yX2_price : MethodName := ⟨"SmokeGoesTo$Night", "price", "(III)I"⟩
def yX2_rise : MethodName := ⟨"SmokeGoesTo$Night", "rise", "(III)V"⟩
def yX2_ofAll : MethodName := ⟨"SmokeGoesTo$Night", "ofAll", "(I)I"⟩
def yX2_costOfAll : MethodName := ⟨"SmokeGoesTo$Night", "costOfAll", "()I"⟩
def yX2_sum : MethodName := ⟨"SmokeGoesTo$Night", "sum", "([I)I"⟩
def yX2_upsOfAll : MethodName := ⟨"SmokeGoesTo$Night", "upsOfAll", "()I"⟩
def yX2_ofOne : MethodName := ⟨"SmokeGoesTo$Night", "ofOne", "(II)I"⟩
def yX2_takeRow : MethodName := ⟨"SmokeGoesTo$Night", "takeRow", "(II)V"⟩
def yX2_digits : MethodName := ⟨"SmokeGoesTo$Night", "digits", "()I"⟩
def yX2_drawWinds : MethodName := ⟨"SmokeGoesTo$Night", "drawWinds", "(III)V"⟩
def yX3_init : MethodName := ⟨"SmokeGoesTo$Odds", "<init>", "()V"⟩
def yX3_spread : MethodName := ⟨"SmokeGoesTo$Odds", "spread", "(LSmokeGoesTo$Fire;I)V"⟩
def yX3_pass : MethodName := ⟨"SmokeGoesTo$Odds", "pass", "(II)V"⟩
def yX1_exists : MethodName := ⟨"SmokeGoesTo$Kind", "exists", "(I)Z"⟩
def yX1_goes : MethodName := ⟨"SmokeGoesTo$Kind", "goes", "(III)I"⟩
def yX1_getsUp : MethodName := ⟨"SmokeGoesTo$Kind", "getsUp", "(III)Z"⟩
def yX1_bears : MethodName := ⟨"SmokeGoesTo$Kind", "bears", "(III)I"⟩
def yX1_isUnder : MethodName := ⟨"SmokeGoesTo$Kind", "isUnder", "(II)Z"⟩
def yX1_above : MethodName := ⟨"SmokeGoesTo$Kind", "above", "(I)I"⟩
def yX8_init : MethodName := ⟨"SmokeGoesToModel", "<init>", "()V"⟩
def yX8_spell : MethodName := ⟨"SmokeGoesToModel", "spell", "(IIIIIIIII)V"⟩
def yX8_set : MethodName := ⟨"SmokeGoesToModel", "set", "(III)I"⟩
def yX8_in : MethodName := ⟨"SmokeGoesToModel", "in", "(JJJ)Z"⟩
def yX8_isSitter : MethodName := ⟨"SmokeGoesToModel", "isSitter", "(I)Z"⟩
def yX8_onPlace : MethodName := ⟨"SmokeGoesToModel", "onPlace", "(II)I"⟩
def yX8_sitter : MethodName := ⟨"SmokeGoesToModel", "sitter", "(III)I"⟩
def yX8_isPlace : MethodName := ⟨"SmokeGoesToModel", "isPlace", "(I)Z"⟩
def yX8_told : MethodName := ⟨"SmokeGoesToModel", "told", "(II)I"⟩
def yX8_goesTo : MethodName := ⟨"SmokeGoesToModel", "goesTo", "(III)I"⟩
def yX8_round : MethodName := ⟨"SmokeGoesToModel", "round", "(I)I"⟩
def yX8_getsUp : MethodName := ⟨"SmokeGoesToModel", "getsUp", "(II)Z"⟩
def yX8_feed : MethodName := ⟨"SmokeGoesToModel", "feed", "(I)I"⟩
def yX8_text : MethodName := ⟨"SmokeGoesToModel", "text", "()I"⟩
def yX8_read : MethodName := ⟨"SmokeGoesToModel", "read", "(II)I"⟩
def yX8_next : MethodName := ⟨"SmokeGoesToModel", "next", "()V"⟩
def yX8_byteAt : MethodName := ⟨"SmokeGoesToModel", "byteAt", "(I)I"⟩
def yX8_isWord : MethodName := ⟨"SmokeGoesToModel", "isWord", "(IIIIIIII)Z"⟩
def yX8_isLetter : MethodName := ⟨"SmokeGoesToModel", "isLetter", "(II)Z"⟩
def yX8_part : MethodName := ⟨"SmokeGoesToModel", "part", "(Z)I"⟩
def yX8_fail : MethodName := ⟨"SmokeGoesToModel", "fail", "()V"⟩
def yX8_either : MethodName := ⟨"SmokeGoesToModel", "either", "()I"⟩
def yX8_both : MethodName := ⟨"SmokeGoesToModel", "both", "()I"⟩
def yX8_not : MethodName := ⟨"SmokeGoesToModel", "not", "()I"⟩
def yX8_opens : MethodName := ⟨"SmokeGoesToModel", "opens", "()Z"⟩
def yX8_added : MethodName := ⟨"SmokeGoesToModel", "added", "()I"⟩
def yX8_term : MethodName := ⟨"SmokeGoesToModel", "term", "()I"⟩
def yX8_atom : MethodName := ⟨"SmokeGoesToModel", "atom", "()I"⟩
def yX8_isSign : MethodName := ⟨"SmokeGoesToModel", "isSign", "(I)Z"⟩
def yX8_name : MethodName := ⟨"SmokeGoesToModel", "name", "()I"⟩
def yX8_force : MethodName := ⟨"SmokeGoesToModel", "force", "(I)I"⟩
def yX8_night : MethodName := ⟨"SmokeGoesToModel", "night", "(II)I"⟩
def yX8_isSheet : MethodName := ⟨"SmokeGoesToModel", "isSheet", "(I)Z"⟩
def yX8_layAside : MethodName := ⟨"SmokeGoesToModel", "layAside", "()V"⟩
def yX8_nights : MethodName := ⟨"SmokeGoesToModel", "nights", "(I)V"⟩
def yX8_begins : MethodName := ⟨"SmokeGoesToModel", "begins", "()V"⟩
def yX8_windOf : MethodName := ⟨"SmokeGoesToModel", "windOf", "(I)I"⟩
def yX8_passes : MethodName := ⟨"SmokeGoesToModel", "passes", "(II)V"⟩
def yX8_turns : MethodName := ⟨"SmokeGoesToModel", "turns", "(I)V"⟩
def yX8_bearsOf : MethodName := ⟨"SmokeGoesToModel", "bearsOf", "(III)I"⟩
def yX8_says : MethodName := ⟨"SmokeGoesToModel", "says", "(IIII)I"⟩
def yX8_within : MethodName := ⟨"SmokeGoesToModel", "within", "(III)I"⟩
def yX8_firstFree : MethodName := ⟨"SmokeGoesToModel", "firstFree", "(II)I"⟩
def yX8_sumOf : MethodName := ⟨"SmokeGoesToModel", "sumOf", "([I)I"⟩
def yX8_takeBack : MethodName := ⟨"SmokeGoesToModel", "takeBack", "()V"⟩
def yX8_sit : MethodName := ⟨"SmokeGoesToModel", "sit", "(I)I"⟩
def yX8_likely : MethodName := ⟨"SmokeGoesToModel", "likely", "(III)J"⟩
def yX8_spreads : MethodName := ⟨"SmokeGoesToModel", "spreads", "(I)V"⟩
def yX8_lowest : MethodName := ⟨"SmokeGoesToModel", "lowest", "(JJI)J"⟩
def yX8_mean : MethodName := ⟨"SmokeGoesToModel", "mean", "(III)J"⟩
def yX8_seat : MethodName := ⟨"SmokeGoesToModel", "seat", "(II)I"⟩
def yX8_gap : MethodName := ⟨"SmokeGoesToModel", "gap", "(II)I"⟩
def yX8_seatsFrom : MethodName := ⟨"SmokeGoesToModel", "seatsFrom", "(IIJ)V"⟩
def yX8_stay : MethodName := ⟨"SmokeGoesToModel", "stay", "(I)I"⟩
def yX8_costOf : MethodName := ⟨"SmokeGoesToModel", "costOf", "(I)I"⟩
def yX8_eddies : MethodName := ⟨"SmokeGoesToModel", "eddies", "(I)I"⟩
def yX8_best : MethodName := ⟨"SmokeGoesToModel", "best", "(III)I"⟩
def yX8_eyes : MethodName := ⟨"SmokeGoesToModel", "eyes", "(III)I"⟩
def yX8_rowsOf : MethodName := ⟨"SmokeGoesToModel", "rowsOf", "(II)V"⟩
def yX8_film : MethodName := ⟨"SmokeGoesToModel", "film", "(II)I"⟩
def yX8_sheet : MethodName := ⟨"SmokeGoesToModel", "sheet", "(III)I"⟩
def yX8_drawn : MethodName := ⟨"SmokeGoesToModel", "drawn", "(I)I"⟩
def yX8_draws : MethodName := ⟨"SmokeGoesToModel", "draws", "(I)I"⟩
def yX8_chance : MethodName := ⟨"SmokeGoesToModel", "chance", "(III)J"⟩
def yX8_image : MethodName := ⟨"SmokeGoesToModel", "image", "()I"⟩
def yX8_back : MethodName := ⟨"SmokeGoesToModel", "back", "()I"⟩
def yX8_count : MethodName := ⟨"SmokeGoesToModel", "count", "(I)I"⟩
def yX8_cell : MethodName := ⟨"SmokeGoesToModel", "cell", "(III)I"⟩
def yX8_copy : MethodName := ⟨"SmokeGoesToModel", "copy", "(IIIII)I"⟩
def yX8_sitters : MethodName := ⟨"SmokeGoesToModel", "sitters", "(IIII)I"⟩
def yX8_taken : MethodName := ⟨"SmokeGoesToModel", "taken", "(II)I"⟩
def yX8_over : MethodName := ⟨"SmokeGoesToModel", "over", "(I)I"⟩
def yJ0_length_8abf5 : MethodName := ⟨"java/lang/String", "length", "()I"⟩
def yJ0_coder_7d493 : MethodName := ⟨"java/lang/String", "coder", "()B"⟩
def yJ0_charAt_5068e : MethodName := ⟨"java/lang/String", "charAt", "(I)C"⟩
def yJ0_isLatin1_aae02 : MethodName := ⟨"java/lang/String", "isLatin1", "()Z"⟩
def yJ1_charAt_3b067 : MethodName := ⟨"java/lang/StringLatin1", "charAt", "([BI)C"⟩
def yJ0_checkIndex_df160 : MethodName := ⟨"java/lang/String", "checkIndex", "(II)V"⟩
def yJ3_checkIndex_8e157 : MethodName := ⟨"jdk/internal/util/Preconditions", "checkIndex", "(IILjava/util/function/BiFunction;)I"⟩
def yJ7_fill_53178 : MethodName := ⟨"java/util/Arrays", "fill", "([II)V"⟩
def yJ7_fill_d0a16 : MethodName := ⟨"java/util/Arrays", "fill", "([JJ)V"⟩
def yJ0_indexOf_0f7a4 : MethodName := ⟨"java/lang/String", "indexOf", "(I)I"⟩
def yJ0_indexOf_7cf53 : MethodName := ⟨"java/lang/String", "indexOf", "(II)I"⟩
def yJ1_indexOf_4cfef : MethodName := ⟨"java/lang/StringLatin1", "indexOf", "([BIII)I"⟩
def yJ1_canEncode_9a6ad : MethodName := ⟨"java/lang/StringLatin1", "canEncode", "(I)Z"⟩
def yJ1_indexOfChar_4cfef : MethodName := ⟨"java/lang/StringLatin1", "indexOfChar", "([BIII)I"⟩
set_option maxRecDepth 100000 in
theorem gc_X7_init : Cond.code yX7_init prog_1_method_1_code 2 none ∈ sm_G := sm_g1 (i := 22) rfl rfl
set_option maxRecDepth 100000 in
theorem gi_X7_init : Cond.instanceMethod yX7_init ∈ sm_G := sm_g1 (i := 21) rfl rfl
set_option maxRecDepth 100000 in
theorem gc_X7_set : Cond.code yX7_set prog_1_method_2_code 4 (some .int) ∈ sm_G := sm_g2 (i := 216) rfl rfl
set_option maxRecDepth 100000 in
theorem gi_X7_set : Cond.instanceMethod yX7_set ∈ sm_G := sm_g2 (i := 214) rfl rfl
set_option maxRecDepth 100000 in
theorem ge_X7_set : Cond.selects "SmokeGoesTo" yX7_set yX7_set ∈ sm_G := sm_g2 (i := 215) rfl rfl
set_option maxRecDepth 100000 in
theorem gc_X7_setSmoke : Cond.code yX7_setSmoke prog_1_method_3_code 3 (some .int) ∈ sm_G := sm_g2 (i := 220) rfl rfl
set_option maxRecDepth 100000 in
theorem gi_X7_setSmoke : Cond.instanceMethod yX7_setSmoke ∈ sm_G := sm_g2 (i := 219) rfl rfl
set_option maxRecDepth 100000 in
theorem ge_X7_setSmoke : Cond.selects "SmokeGoesTo" yX7_setSmoke yX7_setSmoke ∈ sm_G := sm_g0 (i := 11) rfl rfl
set_option maxRecDepth 100000 in
theorem gc_X7_isPlace : Cond.code yX7_isPlace prog_1_method_47_code 1 (some .boolean) ∈ sm_G := sm_g2 (i := 223) rfl rfl
set_option maxRecDepth 100000 in
theorem gs_X7_isPlace : Cond.static yX7_isPlace ∈ sm_G := sm_g2 (i := 222) rfl rfl
set_option maxRecDepth 100000 in
theorem gc_X7_setLeft : Cond.code yX7_setLeft prog_1_method_4_code 3 (some .int) ∈ sm_G := sm_g2 (i := 227) rfl rfl
set_option maxRecDepth 100000 in
theorem gi_X7_setLeft : Cond.instanceMethod yX7_setLeft ∈ sm_G := sm_g2 (i := 226) rfl rfl
set_option maxRecDepth 100000 in
theorem ge_X7_setLeft : Cond.selects "SmokeGoesTo" yX7_setLeft yX7_setLeft ∈ sm_G := sm_g0 (i := 12) rfl rfl
set_option maxRecDepth 100000 in
theorem gc_X7_setRight : Cond.code yX7_setRight prog_1_method_5_code 3 (some .int) ∈ sm_G := sm_g2 (i := 231) rfl rfl
set_option maxRecDepth 100000 in
theorem gi_X7_setRight : Cond.instanceMethod yX7_setRight ∈ sm_G := sm_g2 (i := 230) rfl rfl
set_option maxRecDepth 100000 in
theorem ge_X7_setRight : Cond.selects "SmokeGoesTo" yX7_setRight yX7_setRight ∈ sm_G := sm_g0 (i := 13) rfl rfl
set_option maxRecDepth 100000 in
theorem gc_X7_setTents : Cond.code yX7_setTents prog_1_method_6_code 3 (some .int) ∈ sm_G := sm_g2 (i := 235) rfl rfl
set_option maxRecDepth 100000 in
theorem gi_X7_setTents : Cond.instanceMethod yX7_setTents ∈ sm_G := sm_g2 (i := 234) rfl rfl
set_option maxRecDepth 100000 in
theorem ge_X7_setTents : Cond.selects "SmokeGoesTo" yX7_setTents yX7_setTents ∈ sm_G := sm_g0 (i := 14) rfl rfl
set_option maxRecDepth 100000 in
theorem gc_X7_setEddy : Cond.code yX7_setEddy prog_1_method_7_code 3 (some .int) ∈ sm_G := sm_g2 (i := 239) rfl rfl
set_option maxRecDepth 100000 in
theorem gi_X7_setEddy : Cond.instanceMethod yX7_setEddy ∈ sm_G := sm_g2 (i := 238) rfl rfl
set_option maxRecDepth 100000 in
theorem ge_X7_setEddy : Cond.selects "SmokeGoesTo" yX7_setEddy yX7_setEddy ∈ sm_G := sm_g0 (i := 15) rfl rfl
set_option maxRecDepth 100000 in
theorem gc_X7_setNumber : Cond.code yX7_setNumber prog_1_method_8_code 4 (some .int) ∈ sm_G := sm_g3 (i := 3) rfl rfl
set_option maxRecDepth 100000 in
theorem gi_X7_setNumber : Cond.instanceMethod yX7_setNumber ∈ sm_G := sm_g3 (i := 2) rfl rfl
set_option maxRecDepth 100000 in
theorem ge_X7_setNumber : Cond.selects "SmokeGoesTo" yX7_setNumber yX7_setNumber ∈ sm_G := sm_g0 (i := 16) rfl rfl
set_option maxRecDepth 100000 in
theorem gc_X7_setPlace : Cond.code yX7_setPlace prog_1_method_9_code 4 (some .int) ∈ sm_G := sm_g3 (i := 11) rfl rfl
set_option maxRecDepth 100000 in
theorem gi_X7_setPlace : Cond.instanceMethod yX7_setPlace ∈ sm_G := sm_g3 (i := 10) rfl rfl
set_option maxRecDepth 100000 in
theorem ge_X7_setPlace : Cond.selects "SmokeGoesTo" yX7_setPlace yX7_setPlace ∈ sm_G := sm_g0 (i := 17) rfl rfl
set_option maxRecDepth 100000 in
theorem gc_X7_sitter : Cond.code yX7_sitter prog_1_method_10_code 4 (some .int) ∈ sm_G := sm_g3 (i := 23) rfl rfl
set_option maxRecDepth 100000 in
theorem gi_X7_sitter : Cond.instanceMethod yX7_sitter ∈ sm_G := sm_g3 (i := 21) rfl rfl
set_option maxRecDepth 100000 in
theorem ge_X7_sitter : Cond.selects "SmokeGoesTo" yX7_sitter yX7_sitter ∈ sm_G := sm_g3 (i := 22) rfl rfl
set_option maxRecDepth 100000 in
theorem gc_X7_told : Cond.code yX7_told prog_1_method_11_code 4 (some .int) ∈ sm_G := sm_g3 (i := 35) rfl rfl
set_option maxRecDepth 100000 in
theorem gi_X7_told : Cond.instanceMethod yX7_told ∈ sm_G := sm_g3 (i := 33) rfl rfl
set_option maxRecDepth 100000 in
theorem ge_X7_told : Cond.selects "SmokeGoesTo" yX7_told yX7_told ∈ sm_G := sm_g3 (i := 34) rfl rfl
set_option maxRecDepth 100000 in
theorem gc_X7_round : Cond.code yX7_round prog_1_method_52_code 1 (some .int) ∈ sm_G := sm_g3 (i := 41) rfl rfl
set_option maxRecDepth 100000 in
theorem gs_X7_round : Cond.static yX7_round ∈ sm_G := sm_g3 (i := 40) rfl rfl
set_option maxRecDepth 100000 in
theorem gc_X7_feed : Cond.code yX7_feed prog_1_method_12_code 2 (some .int) ∈ sm_G := sm_g3 (i := 48) rfl rfl
set_option maxRecDepth 100000 in
theorem gi_X7_feed : Cond.instanceMethod yX7_feed ∈ sm_G := sm_g3 (i := 46) rfl rfl
set_option maxRecDepth 100000 in
theorem ge_X7_feed : Cond.selects "SmokeGoesTo" yX7_feed yX7_feed ∈ sm_G := sm_g3 (i := 47) rfl rfl
set_option maxRecDepth 100000 in
theorem gc_X7_text : Cond.code yX7_text prog_1_method_13_code 2 (some .int) ∈ sm_G := sm_g3 (i := 52) rfl rfl
set_option maxRecDepth 100000 in
theorem gi_X7_text : Cond.instanceMethod yX7_text ∈ sm_G := sm_g3 (i := 50) rfl rfl
set_option maxRecDepth 100000 in
theorem ge_X7_text : Cond.selects "SmokeGoesTo" yX7_text yX7_text ∈ sm_G := sm_g3 (i := 51) rfl rfl
set_option maxRecDepth 100000 in
theorem gc_X7_force : Cond.code yX7_force prog_1_method_14_code 3 (some .int) ∈ sm_G := sm_g3 (i := 56) rfl rfl
set_option maxRecDepth 100000 in
theorem gi_X7_force : Cond.instanceMethod yX7_force ∈ sm_G := sm_g3 (i := 54) rfl rfl
set_option maxRecDepth 100000 in
theorem ge_X7_force : Cond.selects "SmokeGoesTo" yX7_force yX7_force ∈ sm_G := sm_g3 (i := 55) rfl rfl
set_option maxRecDepth 100000 in
theorem gc_X7_night : Cond.code yX7_night prog_1_method_15_code 3 (some .int) ∈ sm_G := sm_g3 (i := 60) rfl rfl
set_option maxRecDepth 100000 in
theorem gi_X7_night : Cond.instanceMethod yX7_night ∈ sm_G := sm_g3 (i := 58) rfl rfl
set_option maxRecDepth 100000 in
theorem ge_X7_night : Cond.selects "SmokeGoesTo" yX7_night yX7_night ∈ sm_G := sm_g3 (i := 59) rfl rfl
set_option maxRecDepth 100000 in
theorem gc_X7_isSheet : Cond.code yX7_isSheet prog_1_method_49_code 1 (some .boolean) ∈ sm_G := sm_g3 (i := 63) rfl rfl
set_option maxRecDepth 100000 in
theorem gs_X7_isSheet : Cond.static yX7_isSheet ∈ sm_G := sm_g3 (i := 62) rfl rfl
set_option maxRecDepth 100000 in
theorem gc_X7_isNightWhat : Cond.code yX7_isNightWhat prog_1_method_16_code 2 (some .boolean) ∈ sm_G := sm_g3 (i := 67) rfl rfl
set_option maxRecDepth 100000 in
theorem gi_X7_isNightWhat : Cond.instanceMethod yX7_isNightWhat ∈ sm_G := sm_g3 (i := 66) rfl rfl
set_option maxRecDepth 100000 in
theorem ge_X7_isNightWhat : Cond.selects "SmokeGoesTo" yX7_isNightWhat yX7_isNightWhat ∈ sm_G := sm_g0 (i := 18) rfl rfl
set_option maxRecDepth 100000 in
theorem gc_X7_thinkAsItIs : Cond.code yX7_thinkAsItIs prog_1_method_18_code 1 none ∈ sm_G := sm_g3 (i := 83) rfl rfl
set_option maxRecDepth 100000 in
theorem gi_X7_thinkAsItIs : Cond.instanceMethod yX7_thinkAsItIs ∈ sm_G := sm_g3 (i := 82) rfl rfl
set_option maxRecDepth 100000 in
theorem ge_X7_thinkAsItIs : Cond.selects "SmokeGoesTo" yX7_thinkAsItIs yX7_thinkAsItIs ∈ sm_G := sm_g0 (i := 19) rfl rfl
set_option maxRecDepth 100000 in
theorem gc_X7_sit : Cond.code yX7_sit prog_1_method_17_code 3 (some .int) ∈ sm_G := sm_g3 (i := 160) rfl rfl
set_option maxRecDepth 100000 in
theorem gi_X7_sit : Cond.instanceMethod yX7_sit ∈ sm_G := sm_g3 (i := 158) rfl rfl
set_option maxRecDepth 100000 in
theorem ge_X7_sit : Cond.selects "SmokeGoesTo" yX7_sit yX7_sit ∈ sm_G := sm_g3 (i := 159) rfl rfl
set_option maxRecDepth 100000 in
theorem gc_X7_refusal : Cond.code yX7_refusal prog_1_method_51_code 2 (some .int) ∈ sm_G := sm_g3 (i := 164) rfl rfl
set_option maxRecDepth 100000 in
theorem gi_X7_refusal : Cond.instanceMethod yX7_refusal ∈ sm_G := sm_g3 (i := 163) rfl rfl
set_option maxRecDepth 100000 in
theorem ge_X7_refusal : Cond.selects "SmokeGoesTo" yX7_refusal yX7_refusal ∈ sm_G := sm_g0 (i := 24) rfl rfl
set_option maxRecDepth 100000 in
theorem gc_X7_likely : Cond.code yX7_likely prog_1_method_19_code 4 (some .long) ∈ sm_G := sm_g3 (i := 170) rfl rfl
set_option maxRecDepth 100000 in
theorem gi_X7_likely : Cond.instanceMethod yX7_likely ∈ sm_G := sm_g3 (i := 168) rfl rfl
set_option maxRecDepth 100000 in
theorem ge_X7_likely : Cond.selects "SmokeGoesTo" yX7_likely yX7_likely ∈ sm_G := sm_g3 (i := 169) rfl rfl
set_option maxRecDepth 100000 in
theorem gc_X7_isPart : Cond.code yX7_isPart prog_1_method_48_code 1 (some .boolean) ∈ sm_G := sm_g3 (i := 173) rfl rfl
set_option maxRecDepth 100000 in
theorem gs_X7_isPart : Cond.static yX7_isPart ∈ sm_G := sm_g3 (i := 172) rfl rfl
set_option maxRecDepth 100000 in
theorem gc_X7_lowest : Cond.code yX7_lowest prog_1_method_53_code 7 (some .long) ∈ sm_G := sm_g3 (i := 191) rfl rfl
set_option maxRecDepth 100000 in
theorem gs_X7_lowest : Cond.static yX7_lowest ∈ sm_G := sm_g3 (i := 190) rfl rfl
set_option maxRecDepth 100000 in
theorem gc_X7_commonDivisor : Cond.code yX7_commonDivisor prog_1_method_54_code 11 (some .long) ∈ sm_G := sm_g3 (i := 194) rfl rfl
set_option maxRecDepth 100000 in
theorem gs_X7_commonDivisor : Cond.static yX7_commonDivisor ∈ sm_G := sm_g3 (i := 193) rfl rfl
set_option maxRecDepth 100000 in
theorem gc_X7_mean : Cond.code yX7_mean prog_1_method_20_code 4 (some .long) ∈ sm_G := sm_g3 (i := 198) rfl rfl
set_option maxRecDepth 100000 in
theorem gi_X7_mean : Cond.instanceMethod yX7_mean ∈ sm_G := sm_g3 (i := 196) rfl rfl
set_option maxRecDepth 100000 in
theorem ge_X7_mean : Cond.selects "SmokeGoesTo" yX7_mean yX7_mean ∈ sm_G := sm_g3 (i := 197) rfl rfl
set_option maxRecDepth 100000 in
theorem gc_X7_isMeanMinutes : Cond.code yX7_isMeanMinutes prog_1_method_50_code 1 (some .boolean) ∈ sm_G := sm_g3 (i := 201) rfl rfl
set_option maxRecDepth 100000 in
theorem gs_X7_isMeanMinutes : Cond.static yX7_isMeanMinutes ∈ sm_G := sm_g3 (i := 200) rfl rfl
set_option maxRecDepth 100000 in
theorem gc_X7_seat : Cond.code yX7_seat prog_1_method_21_code 5 (some .int) ∈ sm_G := sm_g3 (i := 205) rfl rfl
set_option maxRecDepth 100000 in
theorem gi_X7_seat : Cond.instanceMethod yX7_seat ∈ sm_G := sm_g3 (i := 203) rfl rfl
set_option maxRecDepth 100000 in
theorem ge_X7_seat : Cond.selects "SmokeGoesTo" yX7_seat yX7_seat ∈ sm_G := sm_g3 (i := 204) rfl rfl
set_option maxRecDepth 100000 in
theorem gc_X7_gap : Cond.code yX7_gap prog_1_method_22_code 5 (some .int) ∈ sm_G := sm_g3 (i := 210) rfl rfl
set_option maxRecDepth 100000 in
theorem gi_X7_gap : Cond.instanceMethod yX7_gap ∈ sm_G := sm_g3 (i := 208) rfl rfl
set_option maxRecDepth 100000 in
theorem ge_X7_gap : Cond.selects "SmokeGoesTo" yX7_gap yX7_gap ∈ sm_G := sm_g3 (i := 209) rfl rfl
set_option maxRecDepth 100000 in
theorem gc_X7_leastOutside : Cond.code yX7_leastOutside prog_1_method_23_code 8 (some .int) ∈ sm_G := sm_g3 (i := 214) rfl rfl
set_option maxRecDepth 100000 in
theorem gi_X7_leastOutside : Cond.instanceMethod yX7_leastOutside ∈ sm_G := sm_g3 (i := 213) rfl rfl
set_option maxRecDepth 100000 in
theorem ge_X7_leastOutside : Cond.selects "SmokeGoesTo" yX7_leastOutside yX7_leastOutside ∈ sm_G := sm_g0 (i := 26) rfl rfl
set_option maxRecDepth 100000 in
theorem gc_X7_placeOfBit : Cond.code yX7_placeOfBit prog_1_method_24_code 4 (some .int) ∈ sm_G := sm_g3 (i := 218) rfl rfl
set_option maxRecDepth 100000 in
theorem gs_X7_placeOfBit : Cond.static yX7_placeOfBit ∈ sm_G := sm_g3 (i := 217) rfl rfl
set_option maxRecDepth 100000 in
theorem gc_X7_stay : Cond.code yX7_stay prog_1_method_25_code 6 (some .int) ∈ sm_G := sm_g3 (i := 222) rfl rfl
set_option maxRecDepth 100000 in
theorem gi_X7_stay : Cond.instanceMethod yX7_stay ∈ sm_G := sm_g3 (i := 220) rfl rfl
set_option maxRecDepth 100000 in
theorem ge_X7_stay : Cond.selects "SmokeGoesTo" yX7_stay yX7_stay ∈ sm_G := sm_g3 (i := 221) rfl rfl
set_option maxRecDepth 100000 in
theorem gc_X7_costIf : Cond.code yX7_costIf prog_1_method_29_code 4 (some .int) ∈ sm_G := sm_g3 (i := 226) rfl rfl
set_option maxRecDepth 100000 in
theorem gi_X7_costIf : Cond.instanceMethod yX7_costIf ∈ sm_G := sm_g3 (i := 225) rfl rfl
set_option maxRecDepth 100000 in
theorem ge_X7_costIf : Cond.selects "SmokeGoesTo" yX7_costIf yX7_costIf ∈ sm_G := sm_g0 (i := 27) rfl rfl
set_option maxRecDepth 100000 in
theorem gc_X7_eddies : Cond.code yX7_eddies prog_1_method_26_code 2 (some .int) ∈ sm_G := sm_g3 (i := 230) rfl rfl
set_option maxRecDepth 100000 in
theorem gi_X7_eddies : Cond.instanceMethod yX7_eddies ∈ sm_G := sm_g3 (i := 228) rfl rfl
set_option maxRecDepth 100000 in
theorem ge_X7_eddies : Cond.selects "SmokeGoesTo" yX7_eddies yX7_eddies ∈ sm_G := sm_g3 (i := 229) rfl rfl
set_option maxRecDepth 100000 in
theorem gc_X7_costIfEddy : Cond.code yX7_costIfEddy prog_1_method_27_code 2 (some .int) ∈ sm_G := sm_g3 (i := 235) rfl rfl
set_option maxRecDepth 100000 in
theorem gi_X7_costIfEddy : Cond.instanceMethod yX7_costIfEddy ∈ sm_G := sm_g3 (i := 234) rfl rfl
set_option maxRecDepth 100000 in
theorem ge_X7_costIfEddy : Cond.selects "SmokeGoesTo" yX7_costIfEddy yX7_costIfEddy ∈ sm_G := sm_g0 (i := 28) rfl rfl
set_option maxRecDepth 100000 in
theorem gc_X7_best : Cond.code yX7_best prog_1_method_28_code 8 (some .int) ∈ sm_G := sm_g3 (i := 239) rfl rfl
set_option maxRecDepth 100000 in
theorem gi_X7_best : Cond.instanceMethod yX7_best ∈ sm_G := sm_g3 (i := 237) rfl rfl
set_option maxRecDepth 100000 in
theorem ge_X7_best : Cond.selects "SmokeGoesTo" yX7_best yX7_best ∈ sm_G := sm_g3 (i := 238) rfl rfl
set_option maxRecDepth 100000 in
theorem gc_X7_eyes : Cond.code yX7_eyes prog_1_method_30_code 5 (some .int) ∈ sm_G := sm_g4 (i := 3) rfl rfl
set_option maxRecDepth 100000 in
theorem gi_X7_eyes : Cond.instanceMethod yX7_eyes ∈ sm_G := sm_g4 (i := 1) rfl rfl
set_option maxRecDepth 100000 in
theorem ge_X7_eyes : Cond.selects "SmokeGoesTo" yX7_eyes yX7_eyes ∈ sm_G := sm_g4 (i := 2) rfl rfl
set_option maxRecDepth 100000 in
theorem gc_X7_rowsThatFit : Cond.code yX7_rowsThatFit prog_1_method_31_code 6 (some .int) ∈ sm_G := sm_g4 (i := 7) rfl rfl
set_option maxRecDepth 100000 in
theorem gi_X7_rowsThatFit : Cond.instanceMethod yX7_rowsThatFit ∈ sm_G := sm_g4 (i := 6) rfl rfl
set_option maxRecDepth 100000 in
theorem ge_X7_rowsThatFit : Cond.selects "SmokeGoesTo" yX7_rowsThatFit yX7_rowsThatFit ∈ sm_G := sm_g0 (i := 29) rfl rfl
set_option maxRecDepth 100000 in
theorem gc_X7_rowsOf : Cond.code yX7_rowsOf prog_1_method_34_code 3 (some .int) ∈ sm_G := sm_g4 (i := 10) rfl rfl
set_option maxRecDepth 100000 in
theorem gs_X7_rowsOf : Cond.static yX7_rowsOf ∈ sm_G := sm_g4 (i := 9) rfl rfl
set_option maxRecDepth 100000 in
theorem gc_X7_fits : Cond.code yX7_fits prog_1_method_35_code 7 (some .boolean) ∈ sm_G := sm_g4 (i := 14) rfl rfl
set_option maxRecDepth 100000 in
theorem gi_X7_fits : Cond.instanceMethod yX7_fits ∈ sm_G := sm_g4 (i := 13) rfl rfl
set_option maxRecDepth 100000 in
theorem ge_X7_fits : Cond.selects "SmokeGoesTo" yX7_fits yX7_fits ∈ sm_G := sm_g0 (i := 30) rfl rfl
set_option maxRecDepth 100000 in
theorem gc_X7_firstThatFits : Cond.code yX7_firstThatFits prog_1_method_32_code 5 (some .int) ∈ sm_G := sm_g4 (i := 23) rfl rfl
set_option maxRecDepth 100000 in
theorem gi_X7_firstThatFits : Cond.instanceMethod yX7_firstThatFits ∈ sm_G := sm_g4 (i := 22) rfl rfl
set_option maxRecDepth 100000 in
theorem ge_X7_firstThatFits : Cond.selects "SmokeGoesTo" yX7_firstThatFits yX7_firstThatFits ∈ sm_G := sm_g0 (i := 31) rfl rfl
set_option maxRecDepth 100000 in
theorem gc_X7_kindsThatFit : Cond.code yX7_kindsThatFit prog_1_method_33_code 8 (some .int) ∈ sm_G := sm_g4 (i := 31) rfl rfl
set_option maxRecDepth 100000 in
theorem gi_X7_kindsThatFit : Cond.instanceMethod yX7_kindsThatFit ∈ sm_G := sm_g4 (i := 30) rfl rfl
set_option maxRecDepth 100000 in
theorem ge_X7_kindsThatFit : Cond.selects "SmokeGoesTo" yX7_kindsThatFit yX7_kindsThatFit ∈ sm_G := sm_g0 (i := 32) rfl rfl
set_option maxRecDepth 100000 in
theorem gc_X7_film : Cond.code yX7_film prog_1_method_36_code 4 (some .int) ∈ sm_G := sm_g4 (i := 35) rfl rfl
set_option maxRecDepth 100000 in
theorem gi_X7_film : Cond.instanceMethod yX7_film ∈ sm_G := sm_g4 (i := 33) rfl rfl
set_option maxRecDepth 100000 in
theorem ge_X7_film : Cond.selects "SmokeGoesTo" yX7_film yX7_film ∈ sm_G := sm_g4 (i := 34) rfl rfl
set_option maxRecDepth 100000 in
theorem gc_X7_drawn : Cond.code yX7_drawn prog_1_method_37_code 2 (some .int) ∈ sm_G := sm_g4 (i := 48) rfl rfl
set_option maxRecDepth 100000 in
theorem gi_X7_drawn : Cond.instanceMethod yX7_drawn ∈ sm_G := sm_g4 (i := 46) rfl rfl
set_option maxRecDepth 100000 in
theorem ge_X7_drawn : Cond.selects "SmokeGoesTo" yX7_drawn yX7_drawn ∈ sm_G := sm_g4 (i := 47) rfl rfl
set_option maxRecDepth 100000 in
theorem gc_X7_chance : Cond.code yX7_chance prog_1_method_38_code 6 (some .long) ∈ sm_G := sm_g4 (i := 57) rfl rfl
set_option maxRecDepth 100000 in
theorem gi_X7_chance : Cond.instanceMethod yX7_chance ∈ sm_G := sm_g4 (i := 55) rfl rfl
set_option maxRecDepth 100000 in
theorem ge_X7_chance : Cond.selects "SmokeGoesTo" yX7_chance yX7_chance ∈ sm_G := sm_g4 (i := 56) rfl rfl
set_option maxRecDepth 100000 in
theorem gc_X7_image : Cond.code yX7_image prog_1_method_39_code 1 (some .int) ∈ sm_G := sm_g4 (i := 62) rfl rfl
set_option maxRecDepth 100000 in
theorem gi_X7_image : Cond.instanceMethod yX7_image ∈ sm_G := sm_g4 (i := 60) rfl rfl
set_option maxRecDepth 100000 in
theorem ge_X7_image : Cond.selects "SmokeGoesTo" yX7_image yX7_image ∈ sm_G := sm_g4 (i := 61) rfl rfl
set_option maxRecDepth 100000 in
theorem gc_X7_back : Cond.code yX7_back prog_1_method_40_code 1 (some .int) ∈ sm_G := sm_g4 (i := 67) rfl rfl
set_option maxRecDepth 100000 in
theorem gi_X7_back : Cond.instanceMethod yX7_back ∈ sm_G := sm_g4 (i := 65) rfl rfl
set_option maxRecDepth 100000 in
theorem ge_X7_back : Cond.selects "SmokeGoesTo" yX7_back yX7_back ∈ sm_G := sm_g4 (i := 66) rfl rfl
set_option maxRecDepth 100000 in
theorem gc_X7_count : Cond.code yX7_count prog_1_method_41_code 2 (some .int) ∈ sm_G := sm_g4 (i := 71) rfl rfl
set_option maxRecDepth 100000 in
theorem gi_X7_count : Cond.instanceMethod yX7_count ∈ sm_G := sm_g4 (i := 69) rfl rfl
set_option maxRecDepth 100000 in
theorem ge_X7_count : Cond.selects "SmokeGoesTo" yX7_count yX7_count ∈ sm_G := sm_g4 (i := 70) rfl rfl
set_option maxRecDepth 100000 in
theorem gc_X7_sheet : Cond.code yX7_sheet prog_1_method_42_code 4 (some .int) ∈ sm_G := sm_g4 (i := 75) rfl rfl
set_option maxRecDepth 100000 in
theorem gi_X7_sheet : Cond.instanceMethod yX7_sheet ∈ sm_G := sm_g4 (i := 73) rfl rfl
set_option maxRecDepth 100000 in
theorem ge_X7_sheet : Cond.selects "SmokeGoesTo" yX7_sheet yX7_sheet ∈ sm_G := sm_g4 (i := 74) rfl rfl
set_option maxRecDepth 100000 in
theorem gc_X7_cell : Cond.code yX7_cell prog_1_method_43_code 5 (some .int) ∈ sm_G := sm_g4 (i := 79) rfl rfl
set_option maxRecDepth 100000 in
theorem gi_X7_cell : Cond.instanceMethod yX7_cell ∈ sm_G := sm_g4 (i := 77) rfl rfl
set_option maxRecDepth 100000 in
theorem ge_X7_cell : Cond.selects "SmokeGoesTo" yX7_cell yX7_cell ∈ sm_G := sm_g4 (i := 78) rfl rfl
set_option maxRecDepth 100000 in
theorem gc_X7_copy : Cond.code yX7_copy prog_1_method_44_code 8 (some .int) ∈ sm_G := sm_g4 (i := 83) rfl rfl
set_option maxRecDepth 100000 in
theorem gi_X7_copy : Cond.instanceMethod yX7_copy ∈ sm_G := sm_g4 (i := 81) rfl rfl
set_option maxRecDepth 100000 in
theorem ge_X7_copy : Cond.selects "SmokeGoesTo" yX7_copy yX7_copy ∈ sm_G := sm_g4 (i := 82) rfl rfl
set_option maxRecDepth 100000 in
theorem gc_X7_sitters : Cond.code yX7_sitters prog_1_method_45_code 9 (some .int) ∈ sm_G := sm_g4 (i := 91) rfl rfl
set_option maxRecDepth 100000 in
theorem gi_X7_sitters : Cond.instanceMethod yX7_sitters ∈ sm_G := sm_g4 (i := 89) rfl rfl
set_option maxRecDepth 100000 in
theorem ge_X7_sitters : Cond.selects "SmokeGoesTo" yX7_sitters yX7_sitters ∈ sm_G := sm_g4 (i := 90) rfl rfl
set_option maxRecDepth 100000 in
theorem gc_X7_taken : Cond.code yX7_taken prog_1_method_46_code 3 (some .int) ∈ sm_G := sm_g4 (i := 95) rfl rfl
set_option maxRecDepth 100000 in
theorem gi_X7_taken : Cond.instanceMethod yX7_taken ∈ sm_G := sm_g4 (i := 93) rfl rfl
set_option maxRecDepth 100000 in
theorem ge_X7_taken : Cond.selects "SmokeGoesTo" yX7_taken yX7_taken ∈ sm_G := sm_g4 (i := 94) rfl rfl
set_option maxRecDepth 100000 in
theorem gc_X0_init : Cond.code yX0_init prog_2_method_1_code 1 none ∈ sm_G := sm_g1 (i := 30) rfl rfl
set_option maxRecDepth 100000 in
theorem gi_X0_init : Cond.instanceMethod yX0_init ∈ sm_G := sm_g1 (i := 29) rfl rfl
set_option maxRecDepth 100000 in
theorem gc_X0_has : Cond.code yX0_has prog_2_method_3_code 2 (some .boolean) ∈ sm_G := sm_g3 (i := 7) rfl rfl
set_option maxRecDepth 100000 in
theorem gi_X0_has : Cond.instanceMethod yX0_has ∈ sm_G := sm_g3 (i := 5) rfl rfl
set_option maxRecDepth 100000 in
theorem ge_X0_has : Cond.selects "SmokeGoesTo$Fire" yX0_has yX0_has ∈ sm_G := sm_g3 (i := 6) rfl rfl
set_option maxRecDepth 100000 in
theorem gc_X0_isFreeFor : Cond.code yX0_isFreeFor prog_2_method_6_code 4 (some .boolean) ∈ sm_G := sm_g3 (i := 15) rfl rfl
set_option maxRecDepth 100000 in
theorem gi_X0_isFreeFor : Cond.instanceMethod yX0_isFreeFor ∈ sm_G := sm_g3 (i := 13) rfl rfl
set_option maxRecDepth 100000 in
theorem ge_X0_isFreeFor : Cond.selects "SmokeGoesTo$Fire" yX0_isFreeFor yX0_isFreeFor ∈ sm_G := sm_g3 (i := 14) rfl rfl
set_option maxRecDepth 100000 in
theorem gc_X0_whoIsOn : Cond.code yX0_whoIsOn prog_2_method_5_code 3 (some .int) ∈ sm_G := sm_g3 (i := 19) rfl rfl
set_option maxRecDepth 100000 in
theorem gi_X0_whoIsOn : Cond.instanceMethod yX0_whoIsOn ∈ sm_G := sm_g3 (i := 17) rfl rfl
set_option maxRecDepth 100000 in
theorem ge_X0_whoIsOn : Cond.selects "SmokeGoesTo$Fire" yX0_whoIsOn yX0_whoIsOn ∈ sm_G := sm_g3 (i := 18) rfl rfl
set_option maxRecDepth 100000 in
theorem gc_X0_come : Cond.code yX0_come prog_2_method_7_code 4 (some .int) ∈ sm_G := sm_g3 (i := 27) rfl rfl
set_option maxRecDepth 100000 in
theorem gi_X0_come : Cond.instanceMethod yX0_come ∈ sm_G := sm_g3 (i := 25) rfl rfl
set_option maxRecDepth 100000 in
theorem ge_X0_come : Cond.selects "SmokeGoesTo$Fire" yX0_come yX0_come ∈ sm_G := sm_g3 (i := 26) rfl rfl
set_option maxRecDepth 100000 in
theorem gc_X0_become : Cond.code yX0_become prog_2_method_2_code 2 none ∈ sm_G := sm_g3 (i := 91) rfl rfl
set_option maxRecDepth 100000 in
theorem gi_X0_become : Cond.instanceMethod yX0_become ∈ sm_G := sm_g3 (i := 89) rfl rfl
set_option maxRecDepth 100000 in
theorem ge_X0_become : Cond.selects "SmokeGoesTo$Fire" yX0_become yX0_become ∈ sm_G := sm_g3 (i := 90) rfl rfl
set_option maxRecDepth 100000 in
theorem gc_X0_hasTent : Cond.code yX0_hasTent prog_2_method_4_code 2 (some .boolean) ∈ sm_G := sm_g3 (i := 108) rfl rfl
set_option maxRecDepth 100000 in
theorem gi_X0_hasTent : Cond.instanceMethod yX0_hasTent ∈ sm_G := sm_g3 (i := 106) rfl rfl
set_option maxRecDepth 100000 in
theorem ge_X0_hasTent : Cond.selects "SmokeGoesTo$Fire" yX0_hasTent yX0_hasTent ∈ sm_G := sm_g3 (i := 107) rfl rfl
set_option maxRecDepth 100000 in
theorem gc_X4_init : Cond.code yX4_init prog_6_method_1_code 1 none ∈ sm_G := sm_g1 (i := 87) rfl rfl
set_option maxRecDepth 100000 in
theorem gi_X4_init : Cond.instanceMethod yX4_init ∈ sm_G := sm_g1 (i := 86) rfl rfl
set_option maxRecDepth 100000 in
theorem gc_X4_add : Cond.code yX4_add prog_6_method_2_code 2 (some .boolean) ∈ sm_G := sm_g2 (i := 39) rfl rfl
set_option maxRecDepth 100000 in
theorem gi_X4_add : Cond.instanceMethod yX4_add ∈ sm_G := sm_g2 (i := 37) rfl rfl
set_option maxRecDepth 100000 in
theorem ge_X4_add : Cond.selects "SmokeGoesTo$Reader" yX4_add yX4_add ∈ sm_G := sm_g2 (i := 38) rfl rfl
set_option maxRecDepth 100000 in
theorem gc_X4_read : Cond.code yX4_read prog_6_method_4_code 3 (some .int) ∈ sm_G := sm_g2 (i := 43) rfl rfl
set_option maxRecDepth 100000 in
theorem gi_X4_read : Cond.instanceMethod yX4_read ∈ sm_G := sm_g2 (i := 41) rfl rfl
set_option maxRecDepth 100000 in
theorem ge_X4_read : Cond.selects "SmokeGoesTo$Reader" yX4_read yX4_read ∈ sm_G := sm_g2 (i := 42) rfl rfl
set_option maxRecDepth 100000 in
theorem gc_X4_step : Cond.code yX4_step prog_6_method_12_code 1 none ∈ sm_G := sm_g2 (i := 54) rfl rfl
set_option maxRecDepth 100000 in
theorem gi_X4_step : Cond.instanceMethod yX4_step ∈ sm_G := sm_g2 (i := 53) rfl rfl
set_option maxRecDepth 100000 in
theorem ge_X4_step : Cond.selects "SmokeGoesTo$Reader" yX4_step yX4_step ∈ sm_G := sm_g0 (i := 0) rfl rfl
set_option maxRecDepth 100000 in
theorem gc_X4_isDigit : Cond.code yX4_isDigit prog_6_method_16_code 1 (some .boolean) ∈ sm_G := sm_g2 (i := 57) rfl rfl
set_option maxRecDepth 100000 in
theorem gs_X4_isDigit : Cond.static yX4_isDigit ∈ sm_G := sm_g2 (i := 56) rfl rfl
set_option maxRecDepth 100000 in
theorem gc_X4_stepNumber : Cond.code yX4_stepNumber prog_6_method_13_code 1 none ∈ sm_G := sm_g2 (i := 61) rfl rfl
set_option maxRecDepth 100000 in
theorem gi_X4_stepNumber : Cond.instanceMethod yX4_stepNumber ∈ sm_G := sm_g2 (i := 60) rfl rfl
set_option maxRecDepth 100000 in
theorem ge_X4_stepNumber : Cond.selects "SmokeGoesTo$Reader" yX4_stepNumber yX4_stepNumber ∈ sm_G := sm_g0 (i := 1) rfl rfl
set_option maxRecDepth 100000 in
theorem gc_X4_isLetter : Cond.code yX4_isLetter prog_6_method_17_code 1 (some .boolean) ∈ sm_G := sm_g2 (i := 64) rfl rfl
set_option maxRecDepth 100000 in
theorem gs_X4_isLetter : Cond.static yX4_isLetter ∈ sm_G := sm_g2 (i := 63) rfl rfl
set_option maxRecDepth 100000 in
theorem gc_X4_stepWord : Cond.code yX4_stepWord prog_6_method_14_code 2 none ∈ sm_G := sm_g2 (i := 68) rfl rfl
set_option maxRecDepth 100000 in
theorem gi_X4_stepWord : Cond.instanceMethod yX4_stepWord ∈ sm_G := sm_g2 (i := 67) rfl rfl
set_option maxRecDepth 100000 in
theorem ge_X4_stepWord : Cond.selects "SmokeGoesTo$Reader" yX4_stepWord yX4_stepWord ∈ sm_G := sm_g0 (i := 2) rfl rfl
set_option maxRecDepth 100000 in
theorem gc_X4_isWord : Cond.code yX4_isWord prog_6_method_15_code 4 (some .boolean) ∈ sm_G := sm_g2 (i := 72) rfl rfl
set_option maxRecDepth 100000 in
theorem gi_X4_isWord : Cond.instanceMethod yX4_isWord ∈ sm_G := sm_g2 (i := 71) rfl rfl
set_option maxRecDepth 100000 in
theorem ge_X4_isWord : Cond.selects "SmokeGoesTo$Reader" yX4_isWord yX4_isWord ∈ sm_G := sm_g0 (i := 3) rfl rfl
set_option maxRecDepth 100000 in
theorem gc_X4_accept : Cond.code yX4_accept prog_6_method_5_code 2 (some .boolean) ∈ sm_G := sm_g2 (i := 138) rfl rfl
set_option maxRecDepth 100000 in
theorem gi_X4_accept : Cond.instanceMethod yX4_accept ∈ sm_G := sm_g2 (i := 137) rfl rfl
set_option maxRecDepth 100000 in
theorem ge_X4_accept : Cond.selects "SmokeGoesTo$Reader" yX4_accept yX4_accept ∈ sm_G := sm_g0 (i := 4) rfl rfl
set_option maxRecDepth 100000 in
theorem gc_X4_readOr : Cond.code yX4_readOr prog_6_method_6_code 3 (some .boolean) ∈ sm_G := sm_g2 (i := 142) rfl rfl
set_option maxRecDepth 100000 in
theorem gi_X4_readOr : Cond.instanceMethod yX4_readOr ∈ sm_G := sm_g2 (i := 141) rfl rfl
set_option maxRecDepth 100000 in
theorem ge_X4_readOr : Cond.selects "SmokeGoesTo$Reader" yX4_readOr yX4_readOr ∈ sm_G := sm_g0 (i := 5) rfl rfl
set_option maxRecDepth 100000 in
theorem gc_X4_readAnd : Cond.code yX4_readAnd prog_6_method_7_code 3 (some .boolean) ∈ sm_G := sm_g2 (i := 146) rfl rfl
set_option maxRecDepth 100000 in
theorem gi_X4_readAnd : Cond.instanceMethod yX4_readAnd ∈ sm_G := sm_g2 (i := 145) rfl rfl
set_option maxRecDepth 100000 in
theorem ge_X4_readAnd : Cond.selects "SmokeGoesTo$Reader" yX4_readAnd yX4_readAnd ∈ sm_G := sm_g0 (i := 6) rfl rfl
set_option maxRecDepth 100000 in
theorem gc_X4_readNot : Cond.code yX4_readNot prog_6_method_8_code 3 (some .boolean) ∈ sm_G := sm_g2 (i := 150) rfl rfl
set_option maxRecDepth 100000 in
theorem gi_X4_readNot : Cond.instanceMethod yX4_readNot ∈ sm_G := sm_g2 (i := 149) rfl rfl
set_option maxRecDepth 100000 in
theorem ge_X4_readNot : Cond.selects "SmokeGoesTo$Reader" yX4_readNot yX4_readNot ∈ sm_G := sm_g0 (i := 7) rfl rfl
set_option maxRecDepth 100000 in
theorem gc_X4_readSum : Cond.code yX4_readSum prog_6_method_9_code 4 (some .boolean) ∈ sm_G := sm_g2 (i := 162) rfl rfl
set_option maxRecDepth 100000 in
theorem gi_X4_readSum : Cond.instanceMethod yX4_readSum ∈ sm_G := sm_g2 (i := 161) rfl rfl
set_option maxRecDepth 100000 in
theorem ge_X4_readSum : Cond.selects "SmokeGoesTo$Reader" yX4_readSum yX4_readSum ∈ sm_G := sm_g0 (i := 8) rfl rfl
set_option maxRecDepth 100000 in
theorem gc_X4_readTerm : Cond.code yX4_readTerm prog_6_method_10_code 3 (some .boolean) ∈ sm_G := sm_g2 (i := 166) rfl rfl
set_option maxRecDepth 100000 in
theorem gi_X4_readTerm : Cond.instanceMethod yX4_readTerm ∈ sm_G := sm_g2 (i := 165) rfl rfl
set_option maxRecDepth 100000 in
theorem ge_X4_readTerm : Cond.selects "SmokeGoesTo$Reader" yX4_readTerm yX4_readTerm ∈ sm_G := sm_g0 (i := 9) rfl rfl
set_option maxRecDepth 100000 in
theorem gc_X4_readOne : Cond.code yX4_readOne prog_6_method_11_code 2 (some .boolean) ∈ sm_G := sm_g2 (i := 170) rfl rfl
set_option maxRecDepth 100000 in
theorem gi_X4_readOne : Cond.instanceMethod yX4_readOne ∈ sm_G := sm_g2 (i := 169) rfl rfl
set_option maxRecDepth 100000 in
theorem ge_X4_readOne : Cond.selects "SmokeGoesTo$Reader" yX4_readOne yX4_readOne ∈ sm_G := sm_g0 (i := 10) rfl rfl
set_option maxRecDepth 100000 in
theorem gc_X4_empty : Cond.code yX4_empty prog_6_method_3_code 1 none ∈ sm_G := sm_g2 (i := 183) rfl rfl
set_option maxRecDepth 100000 in
theorem gi_X4_empty : Cond.instanceMethod yX4_empty ∈ sm_G := sm_g2 (i := 181) rfl rfl
set_option maxRecDepth 100000 in
theorem ge_X4_empty : Cond.selects "SmokeGoesTo$Reader" yX4_empty yX4_empty ∈ sm_G := sm_g2 (i := 182) rfl rfl
set_option maxRecDepth 100000 in
theorem gc_X6_init : Cond.code yX6_init prog_8_method_1_code 1 none ∈ sm_G := sm_g1 (i := 196) rfl rfl
set_option maxRecDepth 100000 in
theorem gi_X6_init : Cond.instanceMethod yX6_init ∈ sm_G := sm_g1 (i := 195) rfl rfl
set_option maxRecDepth 100000 in
theorem gc_X6_clear : Cond.code yX6_clear prog_8_method_2_code 1 none ∈ sm_G := sm_g2 (i := 47) rfl rfl
set_option maxRecDepth 100000 in
theorem gi_X6_clear : Cond.instanceMethod yX6_clear ∈ sm_G := sm_g2 (i := 45) rfl rfl
set_option maxRecDepth 100000 in
theorem ge_X6_clear : Cond.selects "SmokeGoesTo$Text" yX6_clear yX6_clear ∈ sm_G := sm_g2 (i := 46) rfl rfl
set_option maxRecDepth 100000 in
theorem gc_X6_addOperator : Cond.code yX6_addOperator prog_8_method_5_code 2 none ∈ sm_G := sm_g2 (i := 154) rfl rfl
set_option maxRecDepth 100000 in
theorem gi_X6_addOperator : Cond.instanceMethod yX6_addOperator ∈ sm_G := sm_g2 (i := 152) rfl rfl
set_option maxRecDepth 100000 in
theorem ge_X6_addOperator : Cond.selects "SmokeGoesTo$Text" yX6_addOperator yX6_addOperator ∈ sm_G := sm_g2 (i := 153) rfl rfl
set_option maxRecDepth 100000 in
theorem gc_X6_addNumber : Cond.code yX6_addNumber prog_8_method_3_code 2 none ∈ sm_G := sm_g2 (i := 158) rfl rfl
set_option maxRecDepth 100000 in
theorem gi_X6_addNumber : Cond.instanceMethod yX6_addNumber ∈ sm_G := sm_g2 (i := 156) rfl rfl
set_option maxRecDepth 100000 in
theorem ge_X6_addNumber : Cond.selects "SmokeGoesTo$Text" yX6_addNumber yX6_addNumber ∈ sm_G := sm_g2 (i := 157) rfl rfl
set_option maxRecDepth 100000 in
theorem gc_X6_addName : Cond.code yX6_addName prog_8_method_4_code 2 none ∈ sm_G := sm_g2 (i := 175) rfl rfl
set_option maxRecDepth 100000 in
theorem gi_X6_addName : Cond.instanceMethod yX6_addName ∈ sm_G := sm_g2 (i := 173) rfl rfl
set_option maxRecDepth 100000 in
theorem ge_X6_addName : Cond.selects "SmokeGoesTo$Text" yX6_addName yX6_addName ∈ sm_G := sm_g2 (i := 174) rfl rfl
set_option maxRecDepth 100000 in
theorem gc_X6_endPart : Cond.code yX6_endPart prog_8_method_6_code 2 none ∈ sm_G := sm_g2 (i := 179) rfl rfl
set_option maxRecDepth 100000 in
theorem gi_X6_endPart : Cond.instanceMethod yX6_endPart ∈ sm_G := sm_g2 (i := 177) rfl rfl
set_option maxRecDepth 100000 in
theorem ge_X6_endPart : Cond.selects "SmokeGoesTo$Text" yX6_endPart yX6_endPart ∈ sm_G := sm_g2 (i := 178) rfl rfl
set_option maxRecDepth 100000 in
theorem gc_X6_value : Cond.code yX6_value prog_8_method_7_code 8 (some .int) ∈ sm_G := sm_g3 (i := 121) rfl rfl
set_option maxRecDepth 100000 in
theorem gi_X6_value : Cond.instanceMethod yX6_value ∈ sm_G := sm_g3 (i := 119) rfl rfl
set_option maxRecDepth 100000 in
theorem ge_X6_value : Cond.selects "SmokeGoesTo$Text" yX6_value yX6_value ∈ sm_G := sm_g3 (i := 120) rfl rfl
set_option maxRecDepth 100000 in
theorem gc_X6_joined : Cond.code yX6_joined prog_8_method_8_code 3 (some .int) ∈ sm_G := sm_g3 (i := 124) rfl rfl
set_option maxRecDepth 100000 in
theorem gs_X6_joined : Cond.static yX6_joined ∈ sm_G := sm_g3 (i := 123) rfl rfl
set_option maxRecDepth 100000 in
theorem gc_X5_init : Cond.code yX5_init prog_7_method_1_code 1 none ∈ sm_G := sm_g1 (i := 211) rfl rfl
set_option maxRecDepth 100000 in
theorem gi_X5_init : Cond.instanceMethod yX5_init ∈ sm_G := sm_g1 (i := 210) rfl rfl
set_option maxRecDepth 100000 in
theorem gc_X5_isMissing : Cond.code yX5_isMissing prog_7_method_3_code 1 (some .boolean) ∈ sm_G := sm_g3 (i := 71) rfl rfl
set_option maxRecDepth 100000 in
theorem gi_X5_isMissing : Cond.instanceMethod yX5_isMissing ∈ sm_G := sm_g3 (i := 69) rfl rfl
set_option maxRecDepth 100000 in
theorem ge_X5_isMissing : Cond.selects "SmokeGoesTo$Sheet" yX5_isMissing yX5_isMissing ∈ sm_G := sm_g3 (i := 70) rfl rfl
set_option maxRecDepth 100000 in
theorem gc_X5_item : Cond.code yX5_item prog_7_method_5_code 2 (some .int) ∈ sm_G := sm_g3 (i := 79) rfl rfl
set_option maxRecDepth 100000 in
theorem gi_X5_item : Cond.instanceMethod yX5_item ∈ sm_G := sm_g3 (i := 77) rfl rfl
set_option maxRecDepth 100000 in
theorem ge_X5_item : Cond.selects "SmokeGoesTo$Sheet" yX5_item yX5_item ∈ sm_G := sm_g3 (i := 78) rfl rfl
set_option maxRecDepth 100000 in
theorem gc_X5_become : Cond.code yX5_become prog_7_method_2_code 3 none ∈ sm_G := sm_g4 (i := 39) rfl rfl
set_option maxRecDepth 100000 in
theorem gi_X5_become : Cond.instanceMethod yX5_become ∈ sm_G := sm_g4 (i := 37) rfl rfl
set_option maxRecDepth 100000 in
theorem ge_X5_become : Cond.selects "SmokeGoesTo$Sheet" yX5_become yX5_become ∈ sm_G := sm_g4 (i := 38) rfl rfl
set_option maxRecDepth 100000 in
theorem gc_X5_put : Cond.code yX5_put prog_7_method_6_code 3 none ∈ sm_G := sm_g4 (i := 44) rfl rfl
set_option maxRecDepth 100000 in
theorem gi_X5_put : Cond.instanceMethod yX5_put ∈ sm_G := sm_g4 (i := 42) rfl rfl
set_option maxRecDepth 100000 in
theorem ge_X5_put : Cond.selects "SmokeGoesTo$Sheet" yX5_put yX5_put ∈ sm_G := sm_g4 (i := 43) rfl rfl
set_option maxRecDepth 100000 in
theorem gc_X5_holds : Cond.code yX5_holds prog_7_method_4_code 3 (some .boolean) ∈ sm_G := sm_g4 (i := 87) rfl rfl
set_option maxRecDepth 100000 in
theorem gi_X5_holds : Cond.instanceMethod yX5_holds ∈ sm_G := sm_g4 (i := 85) rfl rfl
set_option maxRecDepth 100000 in
theorem ge_X5_holds : Cond.selects "SmokeGoesTo$Sheet" yX5_holds yX5_holds ∈ sm_G := sm_g4 (i := 86) rfl rfl
set_option maxRecDepth 100000 in
theorem gc_X2_init : Cond.code yX2_init prog_4_method_1_code 1 none ∈ sm_G := sm_g1 (i := 120) rfl rfl
set_option maxRecDepth 100000 in
theorem gi_X2_init : Cond.instanceMethod yX2_init ∈ sm_G := sm_g1 (i := 119) rfl rfl
set_option maxRecDepth 100000 in
theorem gc_X2_takeWinds : Cond.code yX2_takeWinds prog_4_method_2_code 4 none ∈ sm_G := sm_g3 (i := 75) rfl rfl
set_option maxRecDepth 100000 in
theorem gi_X2_takeWinds : Cond.instanceMethod yX2_takeWinds ∈ sm_G := sm_g3 (i := 73) rfl rfl
set_option maxRecDepth 100000 in
theorem ge_X2_takeWinds : Cond.selects "SmokeGoesTo$Night" yX2_takeWinds yX2_takeWinds ∈ sm_G := sm_g3 (i := 74) rfl rfl
set_option maxRecDepth 100000 in
theorem gc_X2_begin : Cond.code yX2_begin prog_4_method_6_code 2 none ∈ sm_G := sm_g3 (i := 87) rfl rfl
set_option maxRecDepth 100000 in
theorem gi_X2_begin : Cond.instanceMethod yX2_begin ∈ sm_G := sm_g3 (i := 85) rfl rfl
set_option maxRecDepth 100000 in
theorem ge_X2_begin : Cond.selects "SmokeGoesTo$Night" yX2_begin yX2_begin ∈ sm_G := sm_g3 (i := 86) rfl rfl
set_option maxRecDepth 100000 in
theorem gc_X2_run : Cond.code yX2_run prog_4_method_7_code 5 none ∈ sm_G := sm_g3 (i := 99) rfl rfl
set_option maxRecDepth 100000 in
theorem gi_X2_run : Cond.instanceMethod yX2_run ∈ sm_G := sm_g3 (i := 97) rfl rfl
set_option maxRecDepth 100000 in
theorem ge_X2_run : Cond.selects "SmokeGoesTo$Night" yX2_run yX2_run ∈ sm_G := sm_g3 (i := 98) rfl rfl
set_option maxRecDepth 100000 in
theorem gc_X2_turn : Cond.code yX2_turn prog_4_method_8_code 3 none ∈ sm_G := sm_g3 (i := 103) rfl rfl
set_option maxRecDepth 100000 in
theorem gi_X2_turn : Cond.instanceMethod yX2_turn ∈ sm_G := sm_g3 (i := 102) rfl rfl
set_option maxRecDepth 100000 in
theorem ge_X2_turn : Cond.selects "SmokeGoesTo$Night" yX2_turn yX2_turn ∈ sm_G := sm_g0 (i := 20) rfl rfl
set_option maxRecDepth 100000 in
theorem gc_X2_feel : Cond.code yX2_feel prog_4_method_9_code 4 none ∈ sm_G := sm_g3 (i := 113) rfl rfl
set_option maxRecDepth 100000 in
theorem gi_X2_feel : Cond.instanceMethod yX2_feel ∈ sm_G := sm_g3 (i := 112) rfl rfl
set_option maxRecDepth 100000 in
theorem ge_X2_feel : Cond.selects "SmokeGoesTo$Night" yX2_feel yX2_feel ∈ sm_G := sm_g0 (i := 21) rfl rfl
set_option maxRecDepth 100000 in
theorem gc_X2_price : Cond.code yX2_price prog_4_method_11_code 4 (some .int) ∈ sm_G := sm_g3 (i := 117) rfl rfl
set_option maxRecDepth 100000 in
theorem gi_X2_price : Cond.instanceMethod yX2_price ∈ sm_G := sm_g3 (i := 116) rfl rfl
set_option maxRecDepth 100000 in
theorem ge_X2_price : Cond.selects "SmokeGoesTo$Night" yX2_price yX2_price ∈ sm_G := sm_g0 (i := 22) rfl rfl
set_option maxRecDepth 100000 in
theorem gc_X2_rise : Cond.code yX2_rise prog_4_method_10_code 6 none ∈ sm_G := sm_g3 (i := 135) rfl rfl
set_option maxRecDepth 100000 in
theorem gi_X2_rise : Cond.instanceMethod yX2_rise ∈ sm_G := sm_g3 (i := 134) rfl rfl
set_option maxRecDepth 100000 in
theorem ge_X2_rise : Cond.selects "SmokeGoesTo$Night" yX2_rise yX2_rise ∈ sm_G := sm_g0 (i := 23) rfl rfl
set_option maxRecDepth 100000 in
theorem gc_X2_ofAll : Cond.code yX2_ofAll prog_4_method_12_code 2 (some .int) ∈ sm_G := sm_g3 (i := 141) rfl rfl
set_option maxRecDepth 100000 in
theorem gi_X2_ofAll : Cond.instanceMethod yX2_ofAll ∈ sm_G := sm_g3 (i := 139) rfl rfl
set_option maxRecDepth 100000 in
theorem ge_X2_ofAll : Cond.selects "SmokeGoesTo$Night" yX2_ofAll yX2_ofAll ∈ sm_G := sm_g3 (i := 140) rfl rfl
set_option maxRecDepth 100000 in
theorem gc_X2_costOfAll : Cond.code yX2_costOfAll prog_4_method_14_code 1 (some .int) ∈ sm_G := sm_g3 (i := 145) rfl rfl
set_option maxRecDepth 100000 in
theorem gi_X2_costOfAll : Cond.instanceMethod yX2_costOfAll ∈ sm_G := sm_g3 (i := 143) rfl rfl
set_option maxRecDepth 100000 in
theorem ge_X2_costOfAll : Cond.selects "SmokeGoesTo$Night" yX2_costOfAll yX2_costOfAll ∈ sm_G := sm_g3 (i := 144) rfl rfl
set_option maxRecDepth 100000 in
theorem gc_X2_sum : Cond.code yX2_sum prog_4_method_16_code 3 (some .int) ∈ sm_G := sm_g3 (i := 148) rfl rfl
set_option maxRecDepth 100000 in
theorem gs_X2_sum : Cond.static yX2_sum ∈ sm_G := sm_g3 (i := 147) rfl rfl
set_option maxRecDepth 100000 in
theorem gc_X2_upsOfAll : Cond.code yX2_upsOfAll prog_4_method_15_code 1 (some .int) ∈ sm_G := sm_g3 (i := 152) rfl rfl
set_option maxRecDepth 100000 in
theorem gi_X2_upsOfAll : Cond.instanceMethod yX2_upsOfAll ∈ sm_G := sm_g3 (i := 150) rfl rfl
set_option maxRecDepth 100000 in
theorem ge_X2_upsOfAll : Cond.selects "SmokeGoesTo$Night" yX2_upsOfAll yX2_upsOfAll ∈ sm_G := sm_g3 (i := 151) rfl rfl
set_option maxRecDepth 100000 in
theorem gc_X2_ofOne : Cond.code yX2_ofOne prog_4_method_13_code 3 (some .int) ∈ sm_G := sm_g3 (i := 156) rfl rfl
set_option maxRecDepth 100000 in
theorem gi_X2_ofOne : Cond.instanceMethod yX2_ofOne ∈ sm_G := sm_g3 (i := 154) rfl rfl
set_option maxRecDepth 100000 in
theorem ge_X2_ofOne : Cond.selects "SmokeGoesTo$Night" yX2_ofOne yX2_ofOne ∈ sm_G := sm_g3 (i := 155) rfl rfl
set_option maxRecDepth 100000 in
theorem gc_X2_takeRow : Cond.code yX2_takeRow prog_4_method_3_code 5 none ∈ sm_G := sm_g4 (i := 18) rfl rfl
set_option maxRecDepth 100000 in
theorem gi_X2_takeRow : Cond.instanceMethod yX2_takeRow ∈ sm_G := sm_g4 (i := 16) rfl rfl
set_option maxRecDepth 100000 in
theorem ge_X2_takeRow : Cond.selects "SmokeGoesTo$Night" yX2_takeRow yX2_takeRow ∈ sm_G := sm_g4 (i := 17) rfl rfl
set_option maxRecDepth 100000 in
theorem gc_X2_digits : Cond.code yX2_digits prog_4_method_5_code 3 (some .int) ∈ sm_G := sm_g4 (i := 27) rfl rfl
set_option maxRecDepth 100000 in
theorem gi_X2_digits : Cond.instanceMethod yX2_digits ∈ sm_G := sm_g4 (i := 25) rfl rfl
set_option maxRecDepth 100000 in
theorem ge_X2_digits : Cond.selects "SmokeGoesTo$Night" yX2_digits yX2_digits ∈ sm_G := sm_g4 (i := 26) rfl rfl
set_option maxRecDepth 100000 in
theorem gc_X2_drawWinds : Cond.code yX2_drawWinds prog_4_method_4_code 7 none ∈ sm_G := sm_g4 (i := 52) rfl rfl
set_option maxRecDepth 100000 in
theorem gi_X2_drawWinds : Cond.instanceMethod yX2_drawWinds ∈ sm_G := sm_g4 (i := 50) rfl rfl
set_option maxRecDepth 100000 in
theorem ge_X2_drawWinds : Cond.selects "SmokeGoesTo$Night" yX2_drawWinds yX2_drawWinds ∈ sm_G := sm_g4 (i := 51) rfl rfl
set_option maxRecDepth 100000 in
theorem gc_X3_init : Cond.code yX3_init prog_5_method_1_code 1 none ∈ sm_G := sm_g1 (i := 174) rfl rfl
set_option maxRecDepth 100000 in
theorem gi_X3_init : Cond.instanceMethod yX3_init ∈ sm_G := sm_g1 (i := 173) rfl rfl
set_option maxRecDepth 100000 in
theorem gc_X3_spread : Cond.code yX3_spread prog_5_method_2_code 4 none ∈ sm_G := sm_g3 (i := 178) rfl rfl
set_option maxRecDepth 100000 in
theorem gi_X3_spread : Cond.instanceMethod yX3_spread ∈ sm_G := sm_g3 (i := 176) rfl rfl
set_option maxRecDepth 100000 in
theorem ge_X3_spread : Cond.selects "SmokeGoesTo$Odds" yX3_spread yX3_spread ∈ sm_G := sm_g3 (i := 177) rfl rfl
set_option maxRecDepth 100000 in
theorem gc_X3_pass : Cond.code yX3_pass prog_5_method_3_code 4 none ∈ sm_G := sm_g3 (i := 186) rfl rfl
set_option maxRecDepth 100000 in
theorem gi_X3_pass : Cond.instanceMethod yX3_pass ∈ sm_G := sm_g3 (i := 185) rfl rfl
set_option maxRecDepth 100000 in
theorem ge_X3_pass : Cond.selects "SmokeGoesTo$Odds" yX3_pass yX3_pass ∈ sm_G := sm_g0 (i := 25) rfl rfl
set_option maxRecDepth 100000 in
theorem gc_X1_exists : Cond.code yX1_exists prog_3_method_2_code 1 (some .boolean) ∈ sm_G := sm_g3 (i := 30) rfl rfl
set_option maxRecDepth 100000 in
theorem gs_X1_exists : Cond.static yX1_exists ∈ sm_G := sm_g3 (i := 29) rfl rfl
set_option maxRecDepth 100000 in
theorem gc_X1_goes : Cond.code yX1_goes prog_3_method_6_code 3 (some .int) ∈ sm_G := sm_g3 (i := 38) rfl rfl
set_option maxRecDepth 100000 in
theorem gs_X1_goes : Cond.static yX1_goes ∈ sm_G := sm_g3 (i := 37) rfl rfl
set_option maxRecDepth 100000 in
theorem gc_X1_getsUp : Cond.code yX1_getsUp prog_3_method_5_code 3 (some .boolean) ∈ sm_G := sm_g3 (i := 44) rfl rfl
set_option maxRecDepth 100000 in
theorem gs_X1_getsUp : Cond.static yX1_getsUp ∈ sm_G := sm_g3 (i := 43) rfl rfl
set_option maxRecDepth 100000 in
theorem gc_X1_bears : Cond.code yX1_bears prog_3_method_7_code 3 (some .int) ∈ sm_G := sm_g3 (i := 129) rfl rfl
set_option maxRecDepth 100000 in
theorem gs_X1_bears : Cond.static yX1_bears ∈ sm_G := sm_g3 (i := 128) rfl rfl
set_option maxRecDepth 100000 in
theorem gc_X1_isUnder : Cond.code yX1_isUnder prog_3_method_3_code 4 (some .boolean) ∈ sm_G := sm_g4 (i := 99) rfl rfl
set_option maxRecDepth 100000 in
theorem gs_X1_isUnder : Cond.static yX1_isUnder ∈ sm_G := sm_g4 (i := 98) rfl rfl
set_option maxRecDepth 100000 in
theorem gc_X1_above : Cond.code yX1_above prog_3_method_4_code 1 (some .int) ∈ sm_G := sm_g4 (i := 102) rfl rfl
set_option maxRecDepth 100000 in
theorem gs_X1_above : Cond.static yX1_above ∈ sm_G := sm_g4 (i := 101) rfl rfl
set_option maxRecDepth 100000 in
theorem gc_X8_init : Cond.code yX8_init prog_10_method_5_code 1 none ∈ sm_G := sm_g4 (i := 107) rfl rfl
set_option maxRecDepth 100000 in
theorem gi_X8_init : Cond.instanceMethod yX8_init ∈ sm_G := sm_g4 (i := 106) rfl rfl
set_option maxRecDepth 100000 in
theorem gc_X8_spell : Cond.code yX8_spell prog_10_method_6_code 10 none ∈ sm_G := sm_g4 (i := 112) rfl rfl
set_option maxRecDepth 100000 in
theorem gi_X8_spell : Cond.instanceMethod yX8_spell ∈ sm_G := sm_g4 (i := 111) rfl rfl
set_option maxRecDepth 100000 in
theorem ge_X8_spell : Cond.selects "SmokeGoesToModel" yX8_spell yX8_spell ∈ sm_G := sm_g0 (i := 33) rfl rfl
set_option maxRecDepth 100000 in
theorem gc_X8_set : Cond.code yX8_set prog_10_method_10_code 6 (some .int) ∈ sm_G := sm_g5 (i := 48) rfl rfl
set_option maxRecDepth 100000 in
theorem gi_X8_set : Cond.instanceMethod yX8_set ∈ sm_G := sm_g5 (i := 46) rfl rfl
set_option maxRecDepth 100000 in
theorem ge_X8_set : Cond.selects "SmokeGoesToModel" yX8_set yX8_set ∈ sm_G := sm_g5 (i := 47) rfl rfl
set_option maxRecDepth 100000 in
theorem gc_X8_in : Cond.code yX8_in prog_10_method_2_code 6 (some .boolean) ∈ sm_G := sm_g5 (i := 52) rfl rfl
set_option maxRecDepth 100000 in
theorem gs_X8_in : Cond.static yX8_in ∈ sm_G := sm_g5 (i := 51) rfl rfl
set_option maxRecDepth 100000 in
theorem gc_X8_isSitter : Cond.code yX8_isSitter prog_10_method_7_code 2 (some .boolean) ∈ sm_G := sm_g5 (i := 56) rfl rfl
set_option maxRecDepth 100000 in
theorem gi_X8_isSitter : Cond.instanceMethod yX8_isSitter ∈ sm_G := sm_g5 (i := 55) rfl rfl
set_option maxRecDepth 100000 in
theorem ge_X8_isSitter : Cond.selects "SmokeGoesToModel" yX8_isSitter yX8_isSitter ∈ sm_G := sm_g0 (i := 34) rfl rfl
set_option maxRecDepth 100000 in
theorem gc_X8_onPlace : Cond.code yX8_onPlace prog_10_method_9_code 4 (some .int) ∈ sm_G := sm_g5 (i := 60) rfl rfl
set_option maxRecDepth 100000 in
theorem gi_X8_onPlace : Cond.instanceMethod yX8_onPlace ∈ sm_G := sm_g5 (i := 59) rfl rfl
set_option maxRecDepth 100000 in
theorem ge_X8_onPlace : Cond.selects "SmokeGoesToModel" yX8_onPlace yX8_onPlace ∈ sm_G := sm_g0 (i := 35) rfl rfl
set_option maxRecDepth 100000 in
theorem gc_X8_sitter : Cond.code yX8_sitter prog_10_method_11_code 4 (some .int) ∈ sm_G := sm_g5 (i := 64) rfl rfl
set_option maxRecDepth 100000 in
theorem gi_X8_sitter : Cond.instanceMethod yX8_sitter ∈ sm_G := sm_g5 (i := 62) rfl rfl
set_option maxRecDepth 100000 in
theorem ge_X8_sitter : Cond.selects "SmokeGoesToModel" yX8_sitter yX8_sitter ∈ sm_G := sm_g5 (i := 63) rfl rfl
set_option maxRecDepth 100000 in
theorem gc_X8_isPlace : Cond.code yX8_isPlace prog_10_method_8_code 1 (some .boolean) ∈ sm_G := sm_g5 (i := 69) rfl rfl
set_option maxRecDepth 100000 in
theorem gs_X8_isPlace : Cond.static yX8_isPlace ∈ sm_G := sm_g5 (i := 68) rfl rfl
set_option maxRecDepth 100000 in
theorem gc_X8_told : Cond.code yX8_told prog_10_method_14_code 3 (some .int) ∈ sm_G := sm_g5 (i := 74) rfl rfl
set_option maxRecDepth 100000 in
theorem gi_X8_told : Cond.instanceMethod yX8_told ∈ sm_G := sm_g5 (i := 72) rfl rfl
set_option maxRecDepth 100000 in
theorem ge_X8_told : Cond.selects "SmokeGoesToModel" yX8_told yX8_told ∈ sm_G := sm_g5 (i := 73) rfl rfl
set_option maxRecDepth 100000 in
theorem gc_X8_goesTo : Cond.code yX8_goesTo prog_10_method_13_code 5 (some .int) ∈ sm_G := sm_g5 (i := 78) rfl rfl
set_option maxRecDepth 100000 in
theorem gi_X8_goesTo : Cond.instanceMethod yX8_goesTo ∈ sm_G := sm_g5 (i := 77) rfl rfl
set_option maxRecDepth 100000 in
theorem ge_X8_goesTo : Cond.selects "SmokeGoesToModel" yX8_goesTo yX8_goesTo ∈ sm_G := sm_g0 (i := 36) rfl rfl
set_option maxRecDepth 100000 in
theorem gc_X8_round : Cond.code yX8_round prog_10_method_4_code 1 (some .int) ∈ sm_G := sm_g5 (i := 81) rfl rfl
set_option maxRecDepth 100000 in
theorem gs_X8_round : Cond.static yX8_round ∈ sm_G := sm_g5 (i := 80) rfl rfl
set_option maxRecDepth 100000 in
theorem gc_X8_getsUp : Cond.code yX8_getsUp prog_10_method_12_code 4 (some .boolean) ∈ sm_G := sm_g5 (i := 85) rfl rfl
set_option maxRecDepth 100000 in
theorem gi_X8_getsUp : Cond.instanceMethod yX8_getsUp ∈ sm_G := sm_g5 (i := 84) rfl rfl
set_option maxRecDepth 100000 in
theorem ge_X8_getsUp : Cond.selects "SmokeGoesToModel" yX8_getsUp yX8_getsUp ∈ sm_G := sm_g0 (i := 37) rfl rfl
set_option maxRecDepth 100000 in
theorem gc_X8_feed : Cond.code yX8_feed prog_10_method_15_code 2 (some .int) ∈ sm_G := sm_g5 (i := 89) rfl rfl
set_option maxRecDepth 100000 in
theorem gi_X8_feed : Cond.instanceMethod yX8_feed ∈ sm_G := sm_g5 (i := 87) rfl rfl
set_option maxRecDepth 100000 in
theorem ge_X8_feed : Cond.selects "SmokeGoesToModel" yX8_feed yX8_feed ∈ sm_G := sm_g5 (i := 88) rfl rfl
set_option maxRecDepth 100000 in
theorem gc_X8_text : Cond.code yX8_text prog_10_method_32_code 2 (some .int) ∈ sm_G := sm_g5 (i := 94) rfl rfl
set_option maxRecDepth 100000 in
theorem gi_X8_text : Cond.instanceMethod yX8_text ∈ sm_G := sm_g5 (i := 92) rfl rfl
set_option maxRecDepth 100000 in
theorem ge_X8_text : Cond.selects "SmokeGoesToModel" yX8_text yX8_text ∈ sm_G := sm_g5 (i := 93) rfl rfl
set_option maxRecDepth 100000 in
theorem gc_X8_read : Cond.code yX8_read prog_10_method_31_code 6 (some .int) ∈ sm_G := sm_g5 (i := 98) rfl rfl
set_option maxRecDepth 100000 in
theorem gi_X8_read : Cond.instanceMethod yX8_read ∈ sm_G := sm_g5 (i := 97) rfl rfl
set_option maxRecDepth 100000 in
theorem ge_X8_read : Cond.selects "SmokeGoesToModel" yX8_read yX8_read ∈ sm_G := sm_g0 (i := 38) rfl rfl
set_option maxRecDepth 100000 in
theorem gc_X8_next : Cond.code yX8_next prog_10_method_17_code 3 none ∈ sm_G := sm_g5 (i := 102) rfl rfl
set_option maxRecDepth 100000 in
theorem gi_X8_next : Cond.instanceMethod yX8_next ∈ sm_G := sm_g5 (i := 101) rfl rfl
set_option maxRecDepth 100000 in
theorem ge_X8_next : Cond.selects "SmokeGoesToModel" yX8_next yX8_next ∈ sm_G := sm_g0 (i := 39) rfl rfl
set_option maxRecDepth 100000 in
theorem gc_X8_byteAt : Cond.code yX8_byteAt prog_10_method_16_code 2 (some .int) ∈ sm_G := sm_g5 (i := 106) rfl rfl
set_option maxRecDepth 100000 in
theorem gi_X8_byteAt : Cond.instanceMethod yX8_byteAt ∈ sm_G := sm_g5 (i := 105) rfl rfl
set_option maxRecDepth 100000 in
theorem ge_X8_byteAt : Cond.selects "SmokeGoesToModel" yX8_byteAt yX8_byteAt ∈ sm_G := sm_g0 (i := 40) rfl rfl
set_option maxRecDepth 100000 in
theorem gc_X8_isWord : Cond.code yX8_isWord prog_10_method_20_code 9 (some .boolean) ∈ sm_G := sm_g5 (i := 115) rfl rfl
set_option maxRecDepth 100000 in
theorem gi_X8_isWord : Cond.instanceMethod yX8_isWord ∈ sm_G := sm_g5 (i := 114) rfl rfl
set_option maxRecDepth 100000 in
theorem ge_X8_isWord : Cond.selects "SmokeGoesToModel" yX8_isWord yX8_isWord ∈ sm_G := sm_g0 (i := 41) rfl rfl
set_option maxRecDepth 100000 in
theorem gc_X8_isLetter : Cond.code yX8_isLetter prog_10_method_19_code 3 (some .boolean) ∈ sm_G := sm_g5 (i := 119) rfl rfl
set_option maxRecDepth 100000 in
theorem gi_X8_isLetter : Cond.instanceMethod yX8_isLetter ∈ sm_G := sm_g5 (i := 118) rfl rfl
set_option maxRecDepth 100000 in
theorem ge_X8_isLetter : Cond.selects "SmokeGoesToModel" yX8_isLetter yX8_isLetter ∈ sm_G := sm_g0 (i := 42) rfl rfl
set_option maxRecDepth 100000 in
theorem gc_X8_part : Cond.code yX8_part prog_10_method_30_code 3 (some .int) ∈ sm_G := sm_g5 (i := 123) rfl rfl
set_option maxRecDepth 100000 in
theorem gi_X8_part : Cond.instanceMethod yX8_part ∈ sm_G := sm_g5 (i := 122) rfl rfl
set_option maxRecDepth 100000 in
theorem ge_X8_part : Cond.selects "SmokeGoesToModel" yX8_part yX8_part ∈ sm_G := sm_g0 (i := 43) rfl rfl
set_option maxRecDepth 100000 in
theorem gc_X8_fail : Cond.code yX8_fail prog_10_method_18_code 1 none ∈ sm_G := sm_g5 (i := 127) rfl rfl
set_option maxRecDepth 100000 in
theorem gi_X8_fail : Cond.instanceMethod yX8_fail ∈ sm_G := sm_g5 (i := 126) rfl rfl
set_option maxRecDepth 100000 in
theorem ge_X8_fail : Cond.selects "SmokeGoesToModel" yX8_fail yX8_fail ∈ sm_G := sm_g0 (i := 44) rfl rfl
set_option maxRecDepth 100000 in
theorem gc_X8_either : Cond.code yX8_either prog_10_method_29_code 3 (some .int) ∈ sm_G := sm_g5 (i := 131) rfl rfl
set_option maxRecDepth 100000 in
theorem gi_X8_either : Cond.instanceMethod yX8_either ∈ sm_G := sm_g5 (i := 130) rfl rfl
set_option maxRecDepth 100000 in
theorem ge_X8_either : Cond.selects "SmokeGoesToModel" yX8_either yX8_either ∈ sm_G := sm_g0 (i := 45) rfl rfl
set_option maxRecDepth 100000 in
theorem gc_X8_both : Cond.code yX8_both prog_10_method_28_code 3 (some .int) ∈ sm_G := sm_g5 (i := 135) rfl rfl
set_option maxRecDepth 100000 in
theorem gi_X8_both : Cond.instanceMethod yX8_both ∈ sm_G := sm_g5 (i := 134) rfl rfl
set_option maxRecDepth 100000 in
theorem ge_X8_both : Cond.selects "SmokeGoesToModel" yX8_both yX8_both ∈ sm_G := sm_g0 (i := 46) rfl rfl
set_option maxRecDepth 100000 in
theorem gc_X8_not : Cond.code yX8_not prog_10_method_27_code 4 (some .int) ∈ sm_G := sm_g5 (i := 139) rfl rfl
set_option maxRecDepth 100000 in
theorem gi_X8_not : Cond.instanceMethod yX8_not ∈ sm_G := sm_g5 (i := 138) rfl rfl
set_option maxRecDepth 100000 in
theorem ge_X8_not : Cond.selects "SmokeGoesToModel" yX8_not yX8_not ∈ sm_G := sm_g0 (i := 47) rfl rfl
set_option maxRecDepth 100000 in
theorem gc_X8_opens : Cond.code yX8_opens prog_10_method_22_code 1 (some .boolean) ∈ sm_G := sm_g5 (i := 143) rfl rfl
set_option maxRecDepth 100000 in
theorem gi_X8_opens : Cond.instanceMethod yX8_opens ∈ sm_G := sm_g5 (i := 142) rfl rfl
set_option maxRecDepth 100000 in
theorem ge_X8_opens : Cond.selects "SmokeGoesToModel" yX8_opens yX8_opens ∈ sm_G := sm_g0 (i := 48) rfl rfl
set_option maxRecDepth 100000 in
theorem gc_X8_added : Cond.code yX8_added prog_10_method_26_code 4 (some .int) ∈ sm_G := sm_g5 (i := 147) rfl rfl
set_option maxRecDepth 100000 in
theorem gi_X8_added : Cond.instanceMethod yX8_added ∈ sm_G := sm_g5 (i := 146) rfl rfl
set_option maxRecDepth 100000 in
theorem ge_X8_added : Cond.selects "SmokeGoesToModel" yX8_added yX8_added ∈ sm_G := sm_g0 (i := 49) rfl rfl
set_option maxRecDepth 100000 in
theorem gc_X8_term : Cond.code yX8_term prog_10_method_25_code 2 (some .int) ∈ sm_G := sm_g5 (i := 151) rfl rfl
set_option maxRecDepth 100000 in
theorem gi_X8_term : Cond.instanceMethod yX8_term ∈ sm_G := sm_g5 (i := 150) rfl rfl
set_option maxRecDepth 100000 in
theorem ge_X8_term : Cond.selects "SmokeGoesToModel" yX8_term yX8_term ∈ sm_G := sm_g0 (i := 50) rfl rfl
set_option maxRecDepth 100000 in
theorem gc_X8_atom : Cond.code yX8_atom prog_10_method_24_code 2 (some .int) ∈ sm_G := sm_g5 (i := 155) rfl rfl
set_option maxRecDepth 100000 in
theorem gi_X8_atom : Cond.instanceMethod yX8_atom ∈ sm_G := sm_g5 (i := 154) rfl rfl
set_option maxRecDepth 100000 in
theorem ge_X8_atom : Cond.selects "SmokeGoesToModel" yX8_atom yX8_atom ∈ sm_G := sm_g0 (i := 51) rfl rfl
set_option maxRecDepth 100000 in
theorem gc_X8_isSign : Cond.code yX8_isSign prog_10_method_21_code 2 (some .boolean) ∈ sm_G := sm_g5 (i := 159) rfl rfl
set_option maxRecDepth 100000 in
theorem gi_X8_isSign : Cond.instanceMethod yX8_isSign ∈ sm_G := sm_g5 (i := 158) rfl rfl
set_option maxRecDepth 100000 in
theorem ge_X8_isSign : Cond.selects "SmokeGoesToModel" yX8_isSign yX8_isSign ∈ sm_G := sm_g0 (i := 52) rfl rfl
set_option maxRecDepth 100000 in
theorem gc_X8_name : Cond.code yX8_name prog_10_method_23_code 1 (some .int) ∈ sm_G := sm_g5 (i := 163) rfl rfl
set_option maxRecDepth 100000 in
theorem gi_X8_name : Cond.instanceMethod yX8_name ∈ sm_G := sm_g5 (i := 162) rfl rfl
set_option maxRecDepth 100000 in
theorem ge_X8_name : Cond.selects "SmokeGoesToModel" yX8_name yX8_name ∈ sm_G := sm_g0 (i := 53) rfl rfl
set_option maxRecDepth 100000 in
theorem gc_X8_force : Cond.code yX8_force prog_10_method_33_code 3 (some .int) ∈ sm_G := sm_g5 (i := 169) rfl rfl
set_option maxRecDepth 100000 in
theorem gi_X8_force : Cond.instanceMethod yX8_force ∈ sm_G := sm_g5 (i := 167) rfl rfl
set_option maxRecDepth 100000 in
theorem ge_X8_force : Cond.selects "SmokeGoesToModel" yX8_force yX8_force ∈ sm_G := sm_g5 (i := 168) rfl rfl
set_option maxRecDepth 100000 in
theorem gc_X8_night : Cond.code yX8_night prog_10_method_46_code 5 (some .int) ∈ sm_G := sm_g5 (i := 173) rfl rfl
set_option maxRecDepth 100000 in
theorem gi_X8_night : Cond.instanceMethod yX8_night ∈ sm_G := sm_g5 (i := 171) rfl rfl
set_option maxRecDepth 100000 in
theorem ge_X8_night : Cond.selects "SmokeGoesToModel" yX8_night yX8_night ∈ sm_G := sm_g5 (i := 172) rfl rfl
set_option maxRecDepth 100000 in
theorem gc_X8_isSheet : Cond.code yX8_isSheet prog_10_method_67_code 1 (some .boolean) ∈ sm_G := sm_g5 (i := 176) rfl rfl
set_option maxRecDepth 100000 in
theorem gs_X8_isSheet : Cond.static yX8_isSheet ∈ sm_G := sm_g5 (i := 175) rfl rfl
set_option maxRecDepth 100000 in
theorem gc_X8_layAside : Cond.code yX8_layAside prog_10_method_40_code 2 none ∈ sm_G := sm_g5 (i := 182) rfl rfl
set_option maxRecDepth 100000 in
theorem gi_X8_layAside : Cond.instanceMethod yX8_layAside ∈ sm_G := sm_g5 (i := 181) rfl rfl
set_option maxRecDepth 100000 in
theorem ge_X8_layAside : Cond.selects "SmokeGoesToModel" yX8_layAside yX8_layAside ∈ sm_G := sm_g0 (i := 54) rfl rfl
set_option maxRecDepth 100000 in
theorem gc_X8_nights : Cond.code yX8_nights prog_10_method_43_code 3 none ∈ sm_G := sm_g5 (i := 186) rfl rfl
set_option maxRecDepth 100000 in
theorem gi_X8_nights : Cond.instanceMethod yX8_nights ∈ sm_G := sm_g5 (i := 185) rfl rfl
set_option maxRecDepth 100000 in
theorem ge_X8_nights : Cond.selects "SmokeGoesToModel" yX8_nights yX8_nights ∈ sm_G := sm_g0 (i := 55) rfl rfl
set_option maxRecDepth 100000 in
theorem gc_X8_begins : Cond.code yX8_begins prog_10_method_36_code 2 none ∈ sm_G := sm_g5 (i := 190) rfl rfl
set_option maxRecDepth 100000 in
theorem gi_X8_begins : Cond.instanceMethod yX8_begins ∈ sm_G := sm_g5 (i := 189) rfl rfl
set_option maxRecDepth 100000 in
theorem ge_X8_begins : Cond.selects "SmokeGoesToModel" yX8_begins yX8_begins ∈ sm_G := sm_g0 (i := 56) rfl rfl
set_option maxRecDepth 100000 in
theorem gc_X8_windOf : Cond.code yX8_windOf prog_10_method_42_code 1 (some .int) ∈ sm_G := sm_g5 (i := 193) rfl rfl
set_option maxRecDepth 100000 in
theorem gs_X8_windOf : Cond.static yX8_windOf ∈ sm_G := sm_g5 (i := 192) rfl rfl
set_option maxRecDepth 100000 in
theorem gc_X8_passes : Cond.code yX8_passes prog_10_method_39_code 6 none ∈ sm_G := sm_g5 (i := 197) rfl rfl
set_option maxRecDepth 100000 in
theorem gi_X8_passes : Cond.instanceMethod yX8_passes ∈ sm_G := sm_g5 (i := 196) rfl rfl
set_option maxRecDepth 100000 in
theorem ge_X8_passes : Cond.selects "SmokeGoesToModel" yX8_passes yX8_passes ∈ sm_G := sm_g0 (i := 57) rfl rfl
set_option maxRecDepth 100000 in
theorem gc_X8_turns : Cond.code yX8_turns prog_10_method_37_code 4 none ∈ sm_G := sm_g5 (i := 201) rfl rfl
set_option maxRecDepth 100000 in
theorem gi_X8_turns : Cond.instanceMethod yX8_turns ∈ sm_G := sm_g5 (i := 200) rfl rfl
set_option maxRecDepth 100000 in
theorem ge_X8_turns : Cond.selects "SmokeGoesToModel" yX8_turns yX8_turns ∈ sm_G := sm_g0 (i := 58) rfl rfl
set_option maxRecDepth 100000 in
theorem gc_X8_bearsOf : Cond.code yX8_bearsOf prog_10_method_35_code 7 (some .int) ∈ sm_G := sm_g5 (i := 205) rfl rfl
set_option maxRecDepth 100000 in
theorem gi_X8_bearsOf : Cond.instanceMethod yX8_bearsOf ∈ sm_G := sm_g5 (i := 204) rfl rfl
set_option maxRecDepth 100000 in
theorem ge_X8_bearsOf : Cond.selects "SmokeGoesToModel" yX8_bearsOf yX8_bearsOf ∈ sm_G := sm_g0 (i := 59) rfl rfl
set_option maxRecDepth 100000 in
theorem gc_X8_says : Cond.code yX8_says prog_10_method_34_code 5 (some .int) ∈ sm_G := sm_g5 (i := 209) rfl rfl
set_option maxRecDepth 100000 in
theorem gi_X8_says : Cond.instanceMethod yX8_says ∈ sm_G := sm_g5 (i := 208) rfl rfl
set_option maxRecDepth 100000 in
theorem ge_X8_says : Cond.selects "SmokeGoesToModel" yX8_says yX8_says ∈ sm_G := sm_g0 (i := 60) rfl rfl
set_option maxRecDepth 100000 in
theorem gc_X8_within : Cond.code yX8_within prog_10_method_3_code 3 (some .int) ∈ sm_G := sm_g5 (i := 212) rfl rfl
set_option maxRecDepth 100000 in
theorem gs_X8_within : Cond.static yX8_within ∈ sm_G := sm_g5 (i := 211) rfl rfl
set_option maxRecDepth 100000 in
theorem gc_X8_firstFree : Cond.code yX8_firstFree prog_10_method_38_code 4 (some .int) ∈ sm_G := sm_g5 (i := 216) rfl rfl
set_option maxRecDepth 100000 in
theorem gi_X8_firstFree : Cond.instanceMethod yX8_firstFree ∈ sm_G := sm_g5 (i := 215) rfl rfl
set_option maxRecDepth 100000 in
theorem ge_X8_firstFree : Cond.selects "SmokeGoesToModel" yX8_firstFree yX8_firstFree ∈ sm_G := sm_g0 (i := 61) rfl rfl
set_option maxRecDepth 100000 in
theorem gc_X8_sumOf : Cond.code yX8_sumOf prog_10_method_44_code 4 (some .int) ∈ sm_G := sm_g5 (i := 220) rfl rfl
set_option maxRecDepth 100000 in
theorem gi_X8_sumOf : Cond.instanceMethod yX8_sumOf ∈ sm_G := sm_g5 (i := 219) rfl rfl
set_option maxRecDepth 100000 in
theorem ge_X8_sumOf : Cond.selects "SmokeGoesToModel" yX8_sumOf yX8_sumOf ∈ sm_G := sm_g0 (i := 62) rfl rfl
set_option maxRecDepth 100000 in
theorem gc_X8_takeBack : Cond.code yX8_takeBack prog_10_method_41_code 2 none ∈ sm_G := sm_g5 (i := 224) rfl rfl
set_option maxRecDepth 100000 in
theorem gi_X8_takeBack : Cond.instanceMethod yX8_takeBack ∈ sm_G := sm_g5 (i := 223) rfl rfl
set_option maxRecDepth 100000 in
theorem ge_X8_takeBack : Cond.selects "SmokeGoesToModel" yX8_takeBack yX8_takeBack ∈ sm_G := sm_g0 (i := 63) rfl rfl
set_option maxRecDepth 100000 in
theorem gc_X8_sit : Cond.code yX8_sit prog_10_method_47_code 2 (some .int) ∈ sm_G := sm_g5 (i := 228) rfl rfl
set_option maxRecDepth 100000 in
theorem gi_X8_sit : Cond.instanceMethod yX8_sit ∈ sm_G := sm_g5 (i := 226) rfl rfl
set_option maxRecDepth 100000 in
theorem ge_X8_sit : Cond.selects "SmokeGoesToModel" yX8_sit yX8_sit ∈ sm_G := sm_g5 (i := 227) rfl rfl
set_option maxRecDepth 100000 in
theorem gc_X8_likely : Cond.code yX8_likely prog_10_method_50_code 4 (some .long) ∈ sm_G := sm_g5 (i := 232) rfl rfl
set_option maxRecDepth 100000 in
theorem gi_X8_likely : Cond.instanceMethod yX8_likely ∈ sm_G := sm_g5 (i := 230) rfl rfl
set_option maxRecDepth 100000 in
theorem ge_X8_likely : Cond.selects "SmokeGoesToModel" yX8_likely yX8_likely ∈ sm_G := sm_g5 (i := 231) rfl rfl
set_option maxRecDepth 100000 in
theorem gc_X8_spreads : Cond.code yX8_spreads prog_10_method_48_code 4 none ∈ sm_G := sm_g5 (i := 238) rfl rfl
set_option maxRecDepth 100000 in
theorem gi_X8_spreads : Cond.instanceMethod yX8_spreads ∈ sm_G := sm_g5 (i := 237) rfl rfl
set_option maxRecDepth 100000 in
theorem ge_X8_spreads : Cond.selects "SmokeGoesToModel" yX8_spreads yX8_spreads ∈ sm_G := sm_g0 (i := 64) rfl rfl
set_option maxRecDepth 100000 in
theorem gc_X8_lowest : Cond.code yX8_lowest prog_10_method_49_code 11 (some .long) ∈ sm_G := sm_g6 (i := 2) rfl rfl
set_option maxRecDepth 100000 in
theorem gs_X8_lowest : Cond.static yX8_lowest ∈ sm_G := sm_g6 (i := 1) rfl rfl
set_option maxRecDepth 100000 in
theorem gc_X8_mean : Cond.code yX8_mean prog_10_method_51_code 4 (some .long) ∈ sm_G := sm_g6 (i := 6) rfl rfl
set_option maxRecDepth 100000 in
theorem gi_X8_mean : Cond.instanceMethod yX8_mean ∈ sm_G := sm_g6 (i := 4) rfl rfl
set_option maxRecDepth 100000 in
theorem ge_X8_mean : Cond.selects "SmokeGoesToModel" yX8_mean yX8_mean ∈ sm_G := sm_g6 (i := 5) rfl rfl
set_option maxRecDepth 100000 in
theorem gc_X8_seat : Cond.code yX8_seat prog_10_method_52_code 6 (some .int) ∈ sm_G := sm_g6 (i := 10) rfl rfl
set_option maxRecDepth 100000 in
theorem gi_X8_seat : Cond.instanceMethod yX8_seat ∈ sm_G := sm_g6 (i := 8) rfl rfl
set_option maxRecDepth 100000 in
theorem ge_X8_seat : Cond.selects "SmokeGoesToModel" yX8_seat yX8_seat ∈ sm_G := sm_g6 (i := 9) rfl rfl
set_option maxRecDepth 100000 in
theorem gc_X8_gap : Cond.code yX8_gap prog_10_method_54_code 3 (some .int) ∈ sm_G := sm_g6 (i := 14) rfl rfl
set_option maxRecDepth 100000 in
theorem gi_X8_gap : Cond.instanceMethod yX8_gap ∈ sm_G := sm_g6 (i := 12) rfl rfl
set_option maxRecDepth 100000 in
theorem ge_X8_gap : Cond.selects "SmokeGoesToModel" yX8_gap yX8_gap ∈ sm_G := sm_g6 (i := 13) rfl rfl
set_option maxRecDepth 100000 in
theorem gc_X8_seatsFrom : Cond.code yX8_seatsFrom prog_10_method_53_code 6 none ∈ sm_G := sm_g6 (i := 18) rfl rfl
set_option maxRecDepth 100000 in
theorem gi_X8_seatsFrom : Cond.instanceMethod yX8_seatsFrom ∈ sm_G := sm_g6 (i := 17) rfl rfl
set_option maxRecDepth 100000 in
theorem ge_X8_seatsFrom : Cond.selects "SmokeGoesToModel" yX8_seatsFrom yX8_seatsFrom ∈ sm_G := sm_g0 (i := 65) rfl rfl
set_option maxRecDepth 100000 in
theorem gc_X8_stay : Cond.code yX8_stay prog_10_method_55_code 6 (some .int) ∈ sm_G := sm_g6 (i := 22) rfl rfl
set_option maxRecDepth 100000 in
theorem gi_X8_stay : Cond.instanceMethod yX8_stay ∈ sm_G := sm_g6 (i := 20) rfl rfl
set_option maxRecDepth 100000 in
theorem ge_X8_stay : Cond.selects "SmokeGoesToModel" yX8_stay yX8_stay ∈ sm_G := sm_g6 (i := 21) rfl rfl
set_option maxRecDepth 100000 in
theorem gc_X8_costOf : Cond.code yX8_costOf prog_10_method_45_code 2 (some .int) ∈ sm_G := sm_g6 (i := 26) rfl rfl
set_option maxRecDepth 100000 in
theorem gi_X8_costOf : Cond.instanceMethod yX8_costOf ∈ sm_G := sm_g6 (i := 25) rfl rfl
set_option maxRecDepth 100000 in
theorem ge_X8_costOf : Cond.selects "SmokeGoesToModel" yX8_costOf yX8_costOf ∈ sm_G := sm_g0 (i := 66) rfl rfl
set_option maxRecDepth 100000 in
theorem gc_X8_eddies : Cond.code yX8_eddies prog_10_method_56_code 5 (some .int) ∈ sm_G := sm_g6 (i := 30) rfl rfl
set_option maxRecDepth 100000 in
theorem gi_X8_eddies : Cond.instanceMethod yX8_eddies ∈ sm_G := sm_g6 (i := 28) rfl rfl
set_option maxRecDepth 100000 in
theorem ge_X8_eddies : Cond.selects "SmokeGoesToModel" yX8_eddies yX8_eddies ∈ sm_G := sm_g6 (i := 29) rfl rfl
set_option maxRecDepth 100000 in
theorem gc_X8_best : Cond.code yX8_best prog_10_method_57_code 8 (some .int) ∈ sm_G := sm_g6 (i := 35) rfl rfl
set_option maxRecDepth 100000 in
theorem gi_X8_best : Cond.instanceMethod yX8_best ∈ sm_G := sm_g6 (i := 33) rfl rfl
set_option maxRecDepth 100000 in
theorem ge_X8_best : Cond.selects "SmokeGoesToModel" yX8_best yX8_best ∈ sm_G := sm_g6 (i := 34) rfl rfl
set_option maxRecDepth 100000 in
theorem gc_X8_eyes : Cond.code yX8_eyes prog_10_method_59_code 7 (some .int) ∈ sm_G := sm_g6 (i := 39) rfl rfl
set_option maxRecDepth 100000 in
theorem gi_X8_eyes : Cond.instanceMethod yX8_eyes ∈ sm_G := sm_g6 (i := 37) rfl rfl
set_option maxRecDepth 100000 in
theorem ge_X8_eyes : Cond.selects "SmokeGoesToModel" yX8_eyes yX8_eyes ∈ sm_G := sm_g6 (i := 38) rfl rfl
set_option maxRecDepth 100000 in
theorem gc_X8_rowsOf : Cond.code yX8_rowsOf prog_10_method_58_code 9 none ∈ sm_G := sm_g6 (i := 45) rfl rfl
set_option maxRecDepth 100000 in
theorem gi_X8_rowsOf : Cond.instanceMethod yX8_rowsOf ∈ sm_G := sm_g6 (i := 44) rfl rfl
set_option maxRecDepth 100000 in
theorem ge_X8_rowsOf : Cond.selects "SmokeGoesToModel" yX8_rowsOf yX8_rowsOf ∈ sm_G := sm_g0 (i := 67) rfl rfl
set_option maxRecDepth 100000 in
theorem gc_X8_film : Cond.code yX8_film prog_10_method_60_code 4 (some .int) ∈ sm_G := sm_g6 (i := 49) rfl rfl
set_option maxRecDepth 100000 in
theorem gi_X8_film : Cond.instanceMethod yX8_film ∈ sm_G := sm_g6 (i := 47) rfl rfl
set_option maxRecDepth 100000 in
theorem ge_X8_film : Cond.selects "SmokeGoesToModel" yX8_film yX8_film ∈ sm_G := sm_g6 (i := 48) rfl rfl
set_option maxRecDepth 100000 in
theorem gc_X8_sheet : Cond.code yX8_sheet prog_10_method_68_code 5 (some .int) ∈ sm_G := sm_g6 (i := 53) rfl rfl
set_option maxRecDepth 100000 in
theorem gi_X8_sheet : Cond.instanceMethod yX8_sheet ∈ sm_G := sm_g6 (i := 51) rfl rfl
set_option maxRecDepth 100000 in
theorem ge_X8_sheet : Cond.selects "SmokeGoesToModel" yX8_sheet yX8_sheet ∈ sm_G := sm_g6 (i := 52) rfl rfl
set_option maxRecDepth 100000 in
theorem gc_X8_drawn : Cond.code yX8_drawn prog_10_method_62_code 2 (some .int) ∈ sm_G := sm_g6 (i := 58) rfl rfl
set_option maxRecDepth 100000 in
theorem gi_X8_drawn : Cond.instanceMethod yX8_drawn ∈ sm_G := sm_g6 (i := 56) rfl rfl
set_option maxRecDepth 100000 in
theorem ge_X8_drawn : Cond.selects "SmokeGoesToModel" yX8_drawn yX8_drawn ∈ sm_G := sm_g6 (i := 57) rfl rfl
set_option maxRecDepth 100000 in
theorem gc_X8_draws : Cond.code yX8_draws prog_10_method_61_code 5 (some .int) ∈ sm_G := sm_g6 (i := 62) rfl rfl
set_option maxRecDepth 100000 in
theorem gi_X8_draws : Cond.instanceMethod yX8_draws ∈ sm_G := sm_g6 (i := 61) rfl rfl
set_option maxRecDepth 100000 in
theorem ge_X8_draws : Cond.selects "SmokeGoesToModel" yX8_draws yX8_draws ∈ sm_G := sm_g0 (i := 68) rfl rfl
set_option maxRecDepth 100000 in
theorem gc_X8_chance : Cond.code yX8_chance prog_10_method_63_code 7 (some .long) ∈ sm_G := sm_g6 (i := 67) rfl rfl
set_option maxRecDepth 100000 in
theorem gi_X8_chance : Cond.instanceMethod yX8_chance ∈ sm_G := sm_g6 (i := 65) rfl rfl
set_option maxRecDepth 100000 in
theorem ge_X8_chance : Cond.selects "SmokeGoesToModel" yX8_chance yX8_chance ∈ sm_G := sm_g6 (i := 66) rfl rfl
set_option maxRecDepth 100000 in
theorem gc_X8_image : Cond.code yX8_image prog_10_method_64_code 2 (some .int) ∈ sm_G := sm_g6 (i := 72) rfl rfl
set_option maxRecDepth 100000 in
theorem gi_X8_image : Cond.instanceMethod yX8_image ∈ sm_G := sm_g6 (i := 70) rfl rfl
set_option maxRecDepth 100000 in
theorem ge_X8_image : Cond.selects "SmokeGoesToModel" yX8_image yX8_image ∈ sm_G := sm_g6 (i := 71) rfl rfl
set_option maxRecDepth 100000 in
theorem gc_X8_back : Cond.code yX8_back prog_10_method_65_code 2 (some .int) ∈ sm_G := sm_g6 (i := 76) rfl rfl
set_option maxRecDepth 100000 in
theorem gi_X8_back : Cond.instanceMethod yX8_back ∈ sm_G := sm_g6 (i := 74) rfl rfl
set_option maxRecDepth 100000 in
theorem ge_X8_back : Cond.selects "SmokeGoesToModel" yX8_back yX8_back ∈ sm_G := sm_g6 (i := 75) rfl rfl
set_option maxRecDepth 100000 in
theorem gc_X8_count : Cond.code yX8_count prog_10_method_66_code 2 (some .int) ∈ sm_G := sm_g6 (i := 80) rfl rfl
set_option maxRecDepth 100000 in
theorem gi_X8_count : Cond.instanceMethod yX8_count ∈ sm_G := sm_g6 (i := 78) rfl rfl
set_option maxRecDepth 100000 in
theorem ge_X8_count : Cond.selects "SmokeGoesToModel" yX8_count yX8_count ∈ sm_G := sm_g6 (i := 79) rfl rfl
set_option maxRecDepth 100000 in
theorem gc_X8_cell : Cond.code yX8_cell prog_10_method_69_code 4 (some .int) ∈ sm_G := sm_g6 (i := 85) rfl rfl
set_option maxRecDepth 100000 in
theorem gi_X8_cell : Cond.instanceMethod yX8_cell ∈ sm_G := sm_g6 (i := 83) rfl rfl
set_option maxRecDepth 100000 in
theorem ge_X8_cell : Cond.selects "SmokeGoesToModel" yX8_cell yX8_cell ∈ sm_G := sm_g6 (i := 84) rfl rfl
set_option maxRecDepth 100000 in
theorem gc_X8_copy : Cond.code yX8_copy prog_10_method_70_code 9 (some .int) ∈ sm_G := sm_g6 (i := 89) rfl rfl
set_option maxRecDepth 100000 in
theorem gi_X8_copy : Cond.instanceMethod yX8_copy ∈ sm_G := sm_g6 (i := 87) rfl rfl
set_option maxRecDepth 100000 in
theorem ge_X8_copy : Cond.selects "SmokeGoesToModel" yX8_copy yX8_copy ∈ sm_G := sm_g6 (i := 88) rfl rfl
set_option maxRecDepth 100000 in
theorem gc_X8_sitters : Cond.code yX8_sitters prog_10_method_71_code 8 (some .int) ∈ sm_G := sm_g6 (i := 93) rfl rfl
set_option maxRecDepth 100000 in
theorem gi_X8_sitters : Cond.instanceMethod yX8_sitters ∈ sm_G := sm_g6 (i := 91) rfl rfl
set_option maxRecDepth 100000 in
theorem ge_X8_sitters : Cond.selects "SmokeGoesToModel" yX8_sitters yX8_sitters ∈ sm_G := sm_g6 (i := 92) rfl rfl
set_option maxRecDepth 100000 in
theorem gc_X8_taken : Cond.code yX8_taken prog_10_method_73_code 4 (some .int) ∈ sm_G := sm_g6 (i := 98) rfl rfl
set_option maxRecDepth 100000 in
theorem gi_X8_taken : Cond.instanceMethod yX8_taken ∈ sm_G := sm_g6 (i := 96) rfl rfl
set_option maxRecDepth 100000 in
theorem ge_X8_taken : Cond.selects "SmokeGoesToModel" yX8_taken yX8_taken ∈ sm_G := sm_g6 (i := 97) rfl rfl
set_option maxRecDepth 100000 in
theorem gc_X8_over : Cond.code yX8_over prog_10_method_72_code 1 (some .int) ∈ sm_G := sm_g6 (i := 101) rfl rfl
set_option maxRecDepth 100000 in
theorem gs_X8_over : Cond.static yX8_over ∈ sm_G := sm_g6 (i := 100) rfl rfl
set_option maxRecDepth 100000 in
theorem gc_J0_length_8abf5 : Cond.code yJ0_length_8abf5 prog_13_method_54_code 1 (some .int) ∈ sm_G := sm_g1 (i := 231) rfl rfl
set_option maxRecDepth 100000 in
theorem gi_J0_length_8abf5 : Cond.instanceMethod yJ0_length_8abf5 ∈ sm_G := sm_g1 (i := 229) rfl rfl
set_option maxRecDepth 100000 in
theorem ge_J0_length_8abf5 : Cond.selects "java/lang/String" yJ0_length_8abf5 yJ0_length_8abf5 ∈ sm_G := sm_g1 (i := 230) rfl rfl
set_option maxRecDepth 100000 in
theorem gc_J0_coder_7d493 : Cond.code yJ0_coder_7d493 prog_13_method_152_code 1 (some .byte) ∈ sm_G := sm_g1 (i := 235) rfl rfl
set_option maxRecDepth 100000 in
theorem gi_J0_coder_7d493 : Cond.instanceMethod yJ0_coder_7d493 ∈ sm_G := sm_g1 (i := 233) rfl rfl
set_option maxRecDepth 100000 in
theorem ge_J0_coder_7d493 : Cond.selects "java/lang/String" yJ0_coder_7d493 yJ0_coder_7d493 ∈ sm_G := sm_g1 (i := 234) rfl rfl
set_option maxRecDepth 100000 in
theorem gc_J0_charAt_5068e : Cond.code yJ0_charAt_5068e prog_13_method_56_code 2 (some .char) ∈ sm_G := sm_g2 (i := 1) rfl rfl
set_option maxRecDepth 100000 in
theorem gi_J0_charAt_5068e : Cond.instanceMethod yJ0_charAt_5068e ∈ sm_G := sm_g1 (i := 239) rfl rfl
set_option maxRecDepth 100000 in
theorem ge_J0_charAt_5068e : Cond.selects "java/lang/String" yJ0_charAt_5068e yJ0_charAt_5068e ∈ sm_G := sm_g2 (i := 0) rfl rfl
set_option maxRecDepth 100000 in
theorem gc_J0_isLatin1_aae02 : Cond.code yJ0_isLatin1_aae02 prog_13_method_154_code 1 (some .boolean) ∈ sm_G := sm_g2 (i := 5) rfl rfl
set_option maxRecDepth 100000 in
theorem gi_J0_isLatin1_aae02 : Cond.instanceMethod yJ0_isLatin1_aae02 ∈ sm_G := sm_g2 (i := 3) rfl rfl
set_option maxRecDepth 100000 in
theorem ge_J0_isLatin1_aae02 : Cond.selects "java/lang/String" yJ0_isLatin1_aae02 yJ0_isLatin1_aae02 ∈ sm_G := sm_g2 (i := 4) rfl rfl
set_option maxRecDepth 100000 in
theorem gc_J1_charAt_3b067 : Cond.code yJ1_charAt_3b067 prog_14_method_2_code 2 (some .char) ∈ sm_G := sm_g2 (i := 8) rfl rfl
set_option maxRecDepth 100000 in
theorem gs_J1_charAt_3b067 : Cond.static yJ1_charAt_3b067 ∈ sm_G := sm_g2 (i := 7) rfl rfl
set_option maxRecDepth 100000 in
theorem gc_J0_checkIndex_df160 : Cond.code yJ0_checkIndex_df160 prog_13_method_155_code 2 none ∈ sm_G := sm_g2 (i := 11) rfl rfl
set_option maxRecDepth 100000 in
theorem gs_J0_checkIndex_df160 : Cond.static yJ0_checkIndex_df160 ∈ sm_G := sm_g2 (i := 10) rfl rfl
set_option maxRecDepth 100000 in
theorem gc_J3_checkIndex_8e157 : Cond.code yJ3_checkIndex_8e157 prog_18_method_11_code 3 (some .int) ∈ sm_G := sm_g2 (i := 16) rfl rfl
set_option maxRecDepth 100000 in
theorem gs_J3_checkIndex_8e157 : Cond.static yJ3_checkIndex_8e157 ∈ sm_G := sm_g2 (i := 15) rfl rfl
set_option maxRecDepth 100000 in
theorem gc_J7_fill_53178 : Cond.code yJ7_fill_53178 prog_17_method_103_code 4 none ∈ sm_G := sm_g2 (i := 50) rfl rfl
set_option maxRecDepth 100000 in
theorem gs_J7_fill_53178 : Cond.static yJ7_fill_53178 ∈ sm_G := sm_g2 (i := 49) rfl rfl
set_option maxRecDepth 100000 in
theorem gc_J7_fill_d0a16 : Cond.code yJ7_fill_d0a16 prog_17_method_101_code 5 none ∈ sm_G := sm_g3 (i := 181) rfl rfl
set_option maxRecDepth 100000 in
theorem gs_J7_fill_d0a16 : Cond.static yJ7_fill_d0a16 ∈ sm_G := sm_g3 (i := 180) rfl rfl
set_option maxRecDepth 100000 in
theorem gc_J0_indexOf_0f7a4 : Cond.code yJ0_indexOf_0f7a4 prog_13_method_79_code 2 (some .int) ∈ sm_G := sm_g2 (i := 79) rfl rfl
set_option maxRecDepth 100000 in
theorem gi_J0_indexOf_0f7a4 : Cond.instanceMethod yJ0_indexOf_0f7a4 ∈ sm_G := sm_g2 (i := 77) rfl rfl
set_option maxRecDepth 100000 in
theorem ge_J0_indexOf_0f7a4 : Cond.selects "java/lang/String" yJ0_indexOf_0f7a4 yJ0_indexOf_0f7a4 ∈ sm_G := sm_g2 (i := 78) rfl rfl
set_option maxRecDepth 100000 in
theorem gc_J0_indexOf_7cf53 : Cond.code yJ0_indexOf_7cf53 prog_13_method_80_code 3 (some .int) ∈ sm_G := sm_g2 (i := 83) rfl rfl
set_option maxRecDepth 100000 in
theorem gi_J0_indexOf_7cf53 : Cond.instanceMethod yJ0_indexOf_7cf53 ∈ sm_G := sm_g2 (i := 81) rfl rfl
set_option maxRecDepth 100000 in
theorem ge_J0_indexOf_7cf53 : Cond.selects "java/lang/String" yJ0_indexOf_7cf53 yJ0_indexOf_7cf53 ∈ sm_G := sm_g2 (i := 82) rfl rfl
set_option maxRecDepth 100000 in
theorem gc_J1_indexOf_4cfef : Cond.code yJ1_indexOf_4cfef prog_14_method_22_code 4 (some .int) ∈ sm_G := sm_g2 (i := 87) rfl rfl
set_option maxRecDepth 100000 in
theorem gs_J1_indexOf_4cfef : Cond.static yJ1_indexOf_4cfef ∈ sm_G := sm_g2 (i := 86) rfl rfl
set_option maxRecDepth 100000 in
theorem gc_J1_canEncode_9a6ad : Cond.code yJ1_canEncode_9a6ad prog_14_method_4_code 1 (some .boolean) ∈ sm_G := sm_g2 (i := 90) rfl rfl
set_option maxRecDepth 100000 in
theorem gs_J1_canEncode_9a6ad : Cond.static yJ1_canEncode_9a6ad ∈ sm_G := sm_g2 (i := 89) rfl rfl
set_option maxRecDepth 100000 in
theorem gc_J1_indexOfChar_4cfef : Cond.code yJ1_indexOfChar_4cfef prog_14_method_23_code 6 (some .int) ∈ sm_G := sm_g2 (i := 99) rfl rfl
set_option maxRecDepth 100000 in
theorem gs_J1_indexOfChar_4cfef : Cond.static yJ1_indexOfChar_4cfef ∈ sm_G := sm_g2 (i := 98) rfl rfl
set_option maxRecDepth 100000 in
theorem gn_Law : Cond.initialized "SmokeGoesToLaw" ∈ sm_G := sm_g1 (i := 0) rfl rfl
set_option maxRecDepth 100000 in
theorem gn_S : Cond.initialized "SmokeGoesTo" ∈ sm_G := sm_g1 (i := 1) rfl rfl
set_option maxRecDepth 100000 in
theorem gn_Fire : Cond.initialized "SmokeGoesTo$Fire" ∈ sm_G := sm_g1 (i := 2) rfl rfl
set_option maxRecDepth 100000 in
theorem gn_Reader : Cond.initialized "SmokeGoesTo$Reader" ∈ sm_G := sm_g1 (i := 3) rfl rfl
set_option maxRecDepth 100000 in
theorem gn_Night : Cond.initialized "SmokeGoesTo$Night" ∈ sm_G := sm_g1 (i := 4) rfl rfl
set_option maxRecDepth 100000 in
theorem gn_Odds : Cond.initialized "SmokeGoesTo$Odds" ∈ sm_G := sm_g1 (i := 5) rfl rfl
set_option maxRecDepth 100000 in
theorem gn_Text : Cond.initialized "SmokeGoesTo$Text" ∈ sm_G := sm_g1 (i := 6) rfl rfl
set_option maxRecDepth 100000 in
theorem gn_Sheet : Cond.initialized "SmokeGoesTo$Sheet" ∈ sm_G := sm_g1 (i := 7) rfl rfl
set_option maxRecDepth 100000 in
theorem gn_String : Cond.initialized "java/lang/String" ∈ sm_G := sm_g1 (i := 8) rfl rfl
set_option maxRecDepth 100000 in
theorem gn_Latin : Cond.initialized "java/lang/StringLatin1" ∈ sm_G := sm_g1 (i := 9) rfl rfl
set_option maxRecDepth 100000 in
theorem gn_Pre : Cond.initialized "jdk/internal/util/Preconditions" ∈ sm_G := sm_g1 (i := 10) rfl rfl
set_option maxRecDepth 100000 in
theorem gn_Utf : Cond.initialized "java/lang/StringUTF16" ∈ sm_G := sm_g1 (i := 11) rfl rfl
set_option maxRecDepth 100000 in
theorem gn_Arrays : Cond.initialized "java/util/Arrays" ∈ sm_G := sm_g1 (i := 12) rfl rfl
set_option maxRecDepth 100000 in
theorem gn_Math : Cond.initialized "java/lang/Math" ∈ sm_G := sm_g1 (i := 13) rfl rfl
set_option maxRecDepth 100000 in
theorem gn_Char : Cond.initialized "java/lang/Character" ∈ sm_G := sm_g1 (i := 14) rfl rfl
set_option maxRecDepth 100000 in
theorem gn_M : Cond.initialized "SmokeGoesToModel" ∈ sm_G := sm_g1 (i := 15) rfl rfl
set_option maxRecDepth 100000 in
theorem gn_Kind : Cond.initialized "SmokeGoesTo$Kind" ∈ sm_G := sm_g1 (i := 16) rfl rfl
set_option maxRecDepth 100000 in
theorem gn_Sys : Cond.initialized "java/lang/System" ∈ sm_G := sm_g1 (i := 17) rfl rfl
set_option maxRecDepth 100000 in
theorem gl_Law_9 : Cond.methodLink "SmokeGoesToLaw" 9 yX7_init ∈ sm_G := sm_g1 (i := 20) rfl rfl
set_option maxRecDepth 100000 in
theorem gl_S_3 : Cond.methodLink "SmokeGoesTo" 3 Lib.objectInit ∈ sm_G := sm_g1 (i := 23) rfl rfl
set_option maxRecDepth 100000 in
theorem gl_Fire_3 : Cond.methodLink "SmokeGoesTo$Fire" 3 Lib.objectInit ∈ sm_G := sm_g1 (i := 31) rfl rfl
set_option maxRecDepth 100000 in
theorem gl_Reader_7 : Cond.methodLink "SmokeGoesTo$Reader" 7 Lib.objectInit ∈ sm_G := sm_g1 (i := 88) rfl rfl
set_option maxRecDepth 100000 in
theorem gl_Night_3 : Cond.methodLink "SmokeGoesTo$Night" 3 Lib.objectInit ∈ sm_G := sm_g1 (i := 121) rfl rfl
set_option maxRecDepth 100000 in
theorem gl_Odds_3 : Cond.methodLink "SmokeGoesTo$Odds" 3 Lib.objectInit ∈ sm_G := sm_g1 (i := 175) rfl rfl
set_option maxRecDepth 100000 in
theorem gl_Text_3 : Cond.methodLink "SmokeGoesTo$Text" 3 Lib.objectInit ∈ sm_G := sm_g1 (i := 197) rfl rfl
set_option maxRecDepth 100000 in
theorem gl_Sheet_3 : Cond.methodLink "SmokeGoesTo$Sheet" 3 Lib.objectInit ∈ sm_G := sm_g1 (i := 212) rfl rfl
set_option maxRecDepth 100000 in
theorem gl_S_64 : Cond.methodLink "SmokeGoesTo" 64 yJ0_length_8abf5 ∈ sm_G := sm_g1 (i := 228) rfl rfl
set_option maxRecDepth 100000 in
theorem gl_String_335 : Cond.methodLink "java/lang/String" 335 yJ0_coder_7d493 ∈ sm_G := sm_g1 (i := 232) rfl rfl
set_option maxRecDepth 100000 in
theorem gl_S_70 : Cond.methodLink "SmokeGoesTo" 70 yJ0_charAt_5068e ∈ sm_G := sm_g1 (i := 238) rfl rfl
set_option maxRecDepth 100000 in
theorem gl_String_492 : Cond.methodLink "java/lang/String" 492 yJ0_isLatin1_aae02 ∈ sm_G := sm_g2 (i := 2) rfl rfl
set_option maxRecDepth 100000 in
theorem gl_String_495 : Cond.methodLink "java/lang/String" 495 yJ1_charAt_3b067 ∈ sm_G := sm_g2 (i := 6) rfl rfl
set_option maxRecDepth 100000 in
theorem gl_Latin_9 : Cond.methodLink "java/lang/StringLatin1" 9 yJ0_checkIndex_df160 ∈ sm_G := sm_g2 (i := 9) rfl rfl
set_option maxRecDepth 100000 in
theorem gl_String_1059 : Cond.methodLink "java/lang/String" 1059 yJ3_checkIndex_8e157 ∈ sm_G := sm_g2 (i := 14) rfl rfl
set_option maxRecDepth 100000 in
theorem gl_S_74 : Cond.methodLink "SmokeGoesTo" 74 yX4_add ∈ sm_G := sm_g2 (i := 36) rfl rfl
set_option maxRecDepth 100000 in
theorem gl_S_78 : Cond.methodLink "SmokeGoesTo" 78 yX4_read ∈ sm_G := sm_g2 (i := 40) rfl rfl
set_option maxRecDepth 100000 in
theorem gl_Reader_37 : Cond.methodLink "SmokeGoesTo$Reader" 37 yX6_clear ∈ sm_G := sm_g2 (i := 44) rfl rfl
set_option maxRecDepth 100000 in
theorem gl_Text_22 : Cond.methodLink "SmokeGoesTo$Text" 22 yJ7_fill_53178 ∈ sm_G := sm_g2 (i := 48) rfl rfl
set_option maxRecDepth 100000 in
theorem gl_Reader_40 : Cond.methodLink "SmokeGoesTo$Reader" 40 yX4_step ∈ sm_G := sm_g2 (i := 51) rfl rfl
set_option maxRecDepth 100000 in
theorem gl_Reader_78 : Cond.methodLink "SmokeGoesTo$Reader" 78 yX4_isDigit ∈ sm_G := sm_g2 (i := 55) rfl rfl
set_option maxRecDepth 100000 in
theorem gl_Reader_81 : Cond.methodLink "SmokeGoesTo$Reader" 81 yX4_stepNumber ∈ sm_G := sm_g2 (i := 58) rfl rfl
set_option maxRecDepth 100000 in
theorem gl_Reader_84 : Cond.methodLink "SmokeGoesTo$Reader" 84 yX4_isLetter ∈ sm_G := sm_g2 (i := 62) rfl rfl
set_option maxRecDepth 100000 in
theorem gl_Reader_87 : Cond.methodLink "SmokeGoesTo$Reader" 87 yX4_stepWord ∈ sm_G := sm_g2 (i := 65) rfl rfl
set_option maxRecDepth 100000 in
theorem gl_Reader_98 : Cond.methodLink "SmokeGoesTo$Reader" 98 yX4_isWord ∈ sm_G := sm_g2 (i := 69) rfl rfl
set_option maxRecDepth 100000 in
theorem gl_Reader_103 : Cond.methodLink "SmokeGoesTo$Reader" 103 yJ0_charAt_5068e ∈ sm_G := sm_g2 (i := 74) rfl rfl
set_option maxRecDepth 100000 in
theorem gl_Reader_92 : Cond.methodLink "SmokeGoesTo$Reader" 92 yJ0_indexOf_0f7a4 ∈ sm_G := sm_g2 (i := 76) rfl rfl
set_option maxRecDepth 100000 in
theorem gl_String_633 : Cond.methodLink "java/lang/String" 633 yJ0_indexOf_7cf53 ∈ sm_G := sm_g2 (i := 80) rfl rfl
set_option maxRecDepth 100000 in
theorem gl_String_505 : Cond.methodLink "java/lang/String" 505 yJ0_length_8abf5 ∈ sm_G := sm_g2 (i := 84) rfl rfl
set_option maxRecDepth 100000 in
theorem gl_String_637 : Cond.methodLink "java/lang/String" 637 yJ1_indexOf_4cfef ∈ sm_G := sm_g2 (i := 85) rfl rfl
set_option maxRecDepth 100000 in
theorem gl_Latin_88 : Cond.methodLink "java/lang/StringLatin1" 88 yJ1_canEncode_9a6ad ∈ sm_G := sm_g2 (i := 88) rfl rfl
set_option maxRecDepth 100000 in
theorem gl_Latin_92 : Cond.methodLink "java/lang/StringLatin1" 92 Lib.Math.max.name ∈ sm_G := sm_g2 (i := 91) rfl rfl
set_option maxRecDepth 100000 in
theorem gl_Latin_38 : Cond.methodLink "java/lang/StringLatin1" 38 Lib.Math.min.name ∈ sm_G := sm_g2 (i := 94) rfl rfl
set_option maxRecDepth 100000 in
theorem gl_Latin_95 : Cond.methodLink "java/lang/StringLatin1" 95 yJ1_indexOfChar_4cfef ∈ sm_G := sm_g2 (i := 97) rfl rfl
set_option maxRecDepth 100000 in
theorem gl_Reader_43 : Cond.methodLink "SmokeGoesTo$Reader" 43 yX4_accept ∈ sm_G := sm_g2 (i := 135) rfl rfl
set_option maxRecDepth 100000 in
theorem gl_Reader_47 : Cond.methodLink "SmokeGoesTo$Reader" 47 yX4_readOr ∈ sm_G := sm_g2 (i := 139) rfl rfl
set_option maxRecDepth 100000 in
theorem gl_Reader_54 : Cond.methodLink "SmokeGoesTo$Reader" 54 yX4_readAnd ∈ sm_G := sm_g2 (i := 143) rfl rfl
set_option maxRecDepth 100000 in
theorem gl_Reader_60 : Cond.methodLink "SmokeGoesTo$Reader" 60 yX4_readNot ∈ sm_G := sm_g2 (i := 147) rfl rfl
set_option maxRecDepth 100000 in
theorem gl_Reader_57 : Cond.methodLink "SmokeGoesTo$Reader" 57 yX6_addOperator ∈ sm_G := sm_g2 (i := 151) rfl rfl
set_option maxRecDepth 100000 in
theorem gl_Text_28 : Cond.methodLink "SmokeGoesTo$Text" 28 yX6_addNumber ∈ sm_G := sm_g2 (i := 155) rfl rfl
set_option maxRecDepth 100000 in
theorem gl_Reader_63 : Cond.methodLink "SmokeGoesTo$Reader" 63 yX4_readSum ∈ sm_G := sm_g2 (i := 159) rfl rfl
set_option maxRecDepth 100000 in
theorem gl_Reader_66 : Cond.methodLink "SmokeGoesTo$Reader" 66 yX4_readTerm ∈ sm_G := sm_g2 (i := 163) rfl rfl
set_option maxRecDepth 100000 in
theorem gl_Reader_69 : Cond.methodLink "SmokeGoesTo$Reader" 69 yX4_readOne ∈ sm_G := sm_g2 (i := 167) rfl rfl
set_option maxRecDepth 100000 in
theorem gl_Reader_72 : Cond.methodLink "SmokeGoesTo$Reader" 72 yX6_addNumber ∈ sm_G := sm_g2 (i := 171) rfl rfl
set_option maxRecDepth 100000 in
theorem gl_Reader_75 : Cond.methodLink "SmokeGoesTo$Reader" 75 yX6_addName ∈ sm_G := sm_g2 (i := 172) rfl rfl
set_option maxRecDepth 100000 in
theorem gl_Reader_50 : Cond.methodLink "SmokeGoesTo$Reader" 50 yX6_endPart ∈ sm_G := sm_g2 (i := 176) rfl rfl
set_option maxRecDepth 100000 in
theorem gl_S_82 : Cond.methodLink "SmokeGoesTo" 82 yX4_empty ∈ sm_G := sm_g2 (i := 180) rfl rfl
set_option maxRecDepth 100000 in
theorem gl_Law_13 : Cond.methodLink "SmokeGoesToLaw" 13 yX7_set ∈ sm_G := sm_g2 (i := 213) rfl rfl
set_option maxRecDepth 100000 in
theorem gl_S_85 : Cond.methodLink "SmokeGoesTo" 85 yX7_setSmoke ∈ sm_G := sm_g2 (i := 217) rfl rfl
set_option maxRecDepth 100000 in
theorem gl_S_108 : Cond.methodLink "SmokeGoesTo" 108 yX7_isPlace ∈ sm_G := sm_g2 (i := 221) rfl rfl
set_option maxRecDepth 100000 in
theorem gl_S_89 : Cond.methodLink "SmokeGoesTo" 89 yX7_setLeft ∈ sm_G := sm_g2 (i := 224) rfl rfl
set_option maxRecDepth 100000 in
theorem gl_S_92 : Cond.methodLink "SmokeGoesTo" 92 yX7_setRight ∈ sm_G := sm_g2 (i := 228) rfl rfl
set_option maxRecDepth 100000 in
theorem gl_S_95 : Cond.methodLink "SmokeGoesTo" 95 yX7_setTents ∈ sm_G := sm_g2 (i := 232) rfl rfl
set_option maxRecDepth 100000 in
theorem gl_S_98 : Cond.methodLink "SmokeGoesTo" 98 yX7_setEddy ∈ sm_G := sm_g2 (i := 236) rfl rfl
set_option maxRecDepth 100000 in
theorem gl_S_101 : Cond.methodLink "SmokeGoesTo" 101 yX7_setNumber ∈ sm_G := sm_g3 (i := 0) rfl rfl
set_option maxRecDepth 100000 in
theorem gl_S_126 : Cond.methodLink "SmokeGoesTo" 126 yX0_has ∈ sm_G := sm_g3 (i := 4) rfl rfl
set_option maxRecDepth 100000 in
theorem gl_S_105 : Cond.methodLink "SmokeGoesTo" 105 yX7_setPlace ∈ sm_G := sm_g3 (i := 8) rfl rfl
set_option maxRecDepth 100000 in
theorem gl_S_133 : Cond.methodLink "SmokeGoesTo" 133 yX0_isFreeFor ∈ sm_G := sm_g3 (i := 12) rfl rfl
set_option maxRecDepth 100000 in
theorem gl_Fire_49 : Cond.methodLink "SmokeGoesTo$Fire" 49 yX0_whoIsOn ∈ sm_G := sm_g3 (i := 16) rfl rfl
set_option maxRecDepth 100000 in
theorem gl_Law_18 : Cond.methodLink "SmokeGoesToLaw" 18 yX7_sitter ∈ sm_G := sm_g3 (i := 20) rfl rfl
set_option maxRecDepth 100000 in
theorem gl_S_140 : Cond.methodLink "SmokeGoesTo" 140 yX0_come ∈ sm_G := sm_g3 (i := 24) rfl rfl
set_option maxRecDepth 100000 in
theorem gl_Fire_53 : Cond.methodLink "SmokeGoesTo$Fire" 53 yX1_exists ∈ sm_G := sm_g3 (i := 28) rfl rfl
set_option maxRecDepth 100000 in
theorem gl_Law_22 : Cond.methodLink "SmokeGoesToLaw" 22 yX7_told ∈ sm_G := sm_g3 (i := 32) rfl rfl
set_option maxRecDepth 100000 in
theorem gl_S_147 : Cond.methodLink "SmokeGoesTo" 147 yX1_goes ∈ sm_G := sm_g3 (i := 36) rfl rfl
set_option maxRecDepth 100000 in
theorem gl_S_152 : Cond.methodLink "SmokeGoesTo" 152 yX1_getsUp ∈ sm_G := sm_g3 (i := 42) rfl rfl
set_option maxRecDepth 100000 in
theorem gl_Law_27 : Cond.methodLink "SmokeGoesToLaw" 27 yX7_feed ∈ sm_G := sm_g3 (i := 45) rfl rfl
set_option maxRecDepth 100000 in
theorem gl_Law_32 : Cond.methodLink "SmokeGoesToLaw" 32 yX7_text ∈ sm_G := sm_g3 (i := 49) rfl rfl
set_option maxRecDepth 100000 in
theorem gl_Law_37 : Cond.methodLink "SmokeGoesToLaw" 37 yX7_force ∈ sm_G := sm_g3 (i := 53) rfl rfl
set_option maxRecDepth 100000 in
theorem gl_Law_41 : Cond.methodLink "SmokeGoesToLaw" 41 yX7_night ∈ sm_G := sm_g3 (i := 57) rfl rfl
set_option maxRecDepth 100000 in
theorem gl_S_162 : Cond.methodLink "SmokeGoesTo" 162 yX7_isSheet ∈ sm_G := sm_g3 (i := 61) rfl rfl
set_option maxRecDepth 100000 in
theorem gl_S_165 : Cond.methodLink "SmokeGoesTo" 165 yX7_isNightWhat ∈ sm_G := sm_g3 (i := 64) rfl rfl
set_option maxRecDepth 100000 in
theorem gl_S_168 : Cond.methodLink "SmokeGoesTo" 168 yX5_isMissing ∈ sm_G := sm_g3 (i := 68) rfl rfl
set_option maxRecDepth 100000 in
theorem gl_S_172 : Cond.methodLink "SmokeGoesTo" 172 yX2_takeWinds ∈ sm_G := sm_g3 (i := 72) rfl rfl
set_option maxRecDepth 100000 in
theorem gl_Night_67 : Cond.methodLink "SmokeGoesTo$Night" 67 yX5_item ∈ sm_G := sm_g3 (i := 76) rfl rfl
set_option maxRecDepth 100000 in
theorem gl_S_176 : Cond.methodLink "SmokeGoesTo" 176 yX7_thinkAsItIs ∈ sm_G := sm_g3 (i := 80) rfl rfl
set_option maxRecDepth 100000 in
theorem gl_S_200 : Cond.methodLink "SmokeGoesTo" 200 yX2_begin ∈ sm_G := sm_g3 (i := 84) rfl rfl
set_option maxRecDepth 100000 in
theorem gl_Night_72 : Cond.methodLink "SmokeGoesTo$Night" 72 yX0_become ∈ sm_G := sm_g3 (i := 88) rfl rfl
set_option maxRecDepth 100000 in
theorem gl_Fire_43 : Cond.methodLink "SmokeGoesTo$Fire" 43 arraycopyName ∈ sm_G := sm_g3 (i := 92) rfl rfl
set_option maxRecDepth 100000 in
theorem gl_Night_76 : Cond.methodLink "SmokeGoesTo$Night" 76 yJ7_fill_53178 ∈ sm_G := sm_g3 (i := 95) rfl rfl
set_option maxRecDepth 100000 in
theorem gl_S_204 : Cond.methodLink "SmokeGoesTo" 204 yX2_run ∈ sm_G := sm_g3 (i := 96) rfl rfl
set_option maxRecDepth 100000 in
theorem gl_Night_82 : Cond.methodLink "SmokeGoesTo$Night" 82 yX2_turn ∈ sm_G := sm_g3 (i := 100) rfl rfl
set_option maxRecDepth 100000 in
theorem gl_Night_89 : Cond.methodLink "SmokeGoesTo$Night" 89 yX0_hasTent ∈ sm_G := sm_g3 (i := 105) rfl rfl
set_option maxRecDepth 100000 in
theorem gl_Night_93 : Cond.methodLink "SmokeGoesTo$Night" 93 yX0_whoIsOn ∈ sm_G := sm_g3 (i := 109) rfl rfl
set_option maxRecDepth 100000 in
theorem gl_Night_97 : Cond.methodLink "SmokeGoesTo$Night" 97 yX2_feel ∈ sm_G := sm_g3 (i := 110) rfl rfl
set_option maxRecDepth 100000 in
theorem gl_Night_126 : Cond.methodLink "SmokeGoesTo$Night" 126 yX2_price ∈ sm_G := sm_g3 (i := 114) rfl rfl
set_option maxRecDepth 100000 in
theorem gl_Night_146 : Cond.methodLink "SmokeGoesTo$Night" 146 yX6_value ∈ sm_G := sm_g3 (i := 118) rfl rfl
set_option maxRecDepth 100000 in
theorem gl_Text_34 : Cond.methodLink "SmokeGoesTo$Text" 34 yX6_joined ∈ sm_G := sm_g3 (i := 122) rfl rfl
set_option maxRecDepth 100000 in
theorem gl_Night_150 : Cond.methodLink "SmokeGoesTo$Night" 150 Lib.Math.min.name ∈ sm_G := sm_g3 (i := 125) rfl rfl
set_option maxRecDepth 100000 in
theorem gl_Night_130 : Cond.methodLink "SmokeGoesTo$Night" 130 Lib.Math.max.name ∈ sm_G := sm_g3 (i := 126) rfl rfl
set_option maxRecDepth 100000 in
theorem gl_Night_136 : Cond.methodLink "SmokeGoesTo$Night" 136 yX1_bears ∈ sm_G := sm_g3 (i := 127) rfl rfl
set_option maxRecDepth 100000 in
theorem gl_Kind_18 : Cond.methodLink "SmokeGoesTo$Kind" 18 Lib.Math.max.name ∈ sm_G := sm_g3 (i := 130) rfl rfl
set_option maxRecDepth 100000 in
theorem gl_Night_107 : Cond.methodLink "SmokeGoesTo$Night" 107 yX1_getsUp ∈ sm_G := sm_g3 (i := 131) rfl rfl
set_option maxRecDepth 100000 in
theorem gl_Night_113 : Cond.methodLink "SmokeGoesTo$Night" 113 yX2_rise ∈ sm_G := sm_g3 (i := 132) rfl rfl
set_option maxRecDepth 100000 in
theorem gl_Night_139 : Cond.methodLink "SmokeGoesTo$Night" 139 yX1_goes ∈ sm_G := sm_g3 (i := 136) rfl rfl
set_option maxRecDepth 100000 in
theorem gl_Night_142 : Cond.methodLink "SmokeGoesTo$Night" 142 yX0_isFreeFor ∈ sm_G := sm_g3 (i := 137) rfl rfl
set_option maxRecDepth 100000 in
theorem gl_S_179 : Cond.methodLink "SmokeGoesTo" 179 yX2_ofAll ∈ sm_G := sm_g3 (i := 138) rfl rfl
set_option maxRecDepth 100000 in
theorem gl_Night_153 : Cond.methodLink "SmokeGoesTo$Night" 153 yX2_costOfAll ∈ sm_G := sm_g3 (i := 142) rfl rfl
set_option maxRecDepth 100000 in
theorem gl_Night_160 : Cond.methodLink "SmokeGoesTo$Night" 160 yX2_sum ∈ sm_G := sm_g3 (i := 146) rfl rfl
set_option maxRecDepth 100000 in
theorem gl_Night_157 : Cond.methodLink "SmokeGoesTo$Night" 157 yX2_upsOfAll ∈ sm_G := sm_g3 (i := 149) rfl rfl
set_option maxRecDepth 100000 in
theorem gl_S_182 : Cond.methodLink "SmokeGoesTo" 182 yX2_ofOne ∈ sm_G := sm_g3 (i := 153) rfl rfl
set_option maxRecDepth 100000 in
theorem gl_Law_45 : Cond.methodLink "SmokeGoesToLaw" 45 yX7_sit ∈ sm_G := sm_g3 (i := 157) rfl rfl
set_option maxRecDepth 100000 in
theorem gl_S_185 : Cond.methodLink "SmokeGoesTo" 185 yX7_refusal ∈ sm_G := sm_g3 (i := 161) rfl rfl
set_option maxRecDepth 100000 in
theorem gl_S_191 : Cond.methodLink "SmokeGoesTo" 191 arraycopyName ∈ sm_G := sm_g3 (i := 165) rfl rfl
set_option maxRecDepth 100000 in
theorem gl_S_197 : Cond.methodLink "SmokeGoesTo" 197 yX2_costOfAll ∈ sm_G := sm_g3 (i := 166) rfl rfl
set_option maxRecDepth 100000 in
theorem gl_Law_49 : Cond.methodLink "SmokeGoesToLaw" 49 yX7_likely ∈ sm_G := sm_g3 (i := 167) rfl rfl
set_option maxRecDepth 100000 in
theorem gl_S_208 : Cond.methodLink "SmokeGoesTo" 208 yX7_isPart ∈ sm_G := sm_g3 (i := 171) rfl rfl
set_option maxRecDepth 100000 in
theorem gl_S_213 : Cond.methodLink "SmokeGoesTo" 213 yX3_spread ∈ sm_G := sm_g3 (i := 175) rfl rfl
set_option maxRecDepth 100000 in
theorem gl_Odds_25 : Cond.methodLink "SmokeGoesTo$Odds" 25 yJ7_fill_d0a16 ∈ sm_G := sm_g3 (i := 179) rfl rfl
set_option maxRecDepth 100000 in
theorem gl_Odds_47 : Cond.methodLink "SmokeGoesTo$Odds" 47 yX3_pass ∈ sm_G := sm_g3 (i := 183) rfl rfl
set_option maxRecDepth 100000 in
theorem gl_Odds_53 : Cond.methodLink "SmokeGoesTo$Odds" 53 arraycopyName ∈ sm_G := sm_g3 (i := 187) rfl rfl
set_option maxRecDepth 100000 in
theorem gl_S_225 : Cond.methodLink "SmokeGoesTo" 225 yX7_lowest ∈ sm_G := sm_g3 (i := 189) rfl rfl
set_option maxRecDepth 100000 in
theorem gl_S_321 : Cond.methodLink "SmokeGoesTo" 321 yX7_commonDivisor ∈ sm_G := sm_g3 (i := 192) rfl rfl
set_option maxRecDepth 100000 in
theorem gl_Law_54 : Cond.methodLink "SmokeGoesToLaw" 54 yX7_mean ∈ sm_G := sm_g3 (i := 195) rfl rfl
set_option maxRecDepth 100000 in
theorem gl_S_229 : Cond.methodLink "SmokeGoesTo" 229 yX7_isMeanMinutes ∈ sm_G := sm_g3 (i := 199) rfl rfl
set_option maxRecDepth 100000 in
theorem gl_Law_58 : Cond.methodLink "SmokeGoesToLaw" 58 yX7_seat ∈ sm_G := sm_g3 (i := 202) rfl rfl
set_option maxRecDepth 100000 in
theorem gl_S_235 : Cond.methodLink "SmokeGoesTo" 235 yX0_hasTent ∈ sm_G := sm_g3 (i := 206) rfl rfl
set_option maxRecDepth 100000 in
theorem gl_Law_62 : Cond.methodLink "SmokeGoesToLaw" 62 yX7_gap ∈ sm_G := sm_g3 (i := 207) rfl rfl
set_option maxRecDepth 100000 in
theorem gl_S_239 : Cond.methodLink "SmokeGoesTo" 239 yX7_leastOutside ∈ sm_G := sm_g3 (i := 211) rfl rfl
set_option maxRecDepth 100000 in
theorem gl_S_242 : Cond.methodLink "SmokeGoesTo" 242 yX7_placeOfBit ∈ sm_G := sm_g3 (i := 216) rfl rfl
set_option maxRecDepth 100000 in
theorem gl_Law_66 : Cond.methodLink "SmokeGoesToLaw" 66 yX7_stay ∈ sm_G := sm_g3 (i := 219) rfl rfl
set_option maxRecDepth 100000 in
theorem gl_S_249 : Cond.methodLink "SmokeGoesTo" 249 yX7_costIf ∈ sm_G := sm_g3 (i := 223) rfl rfl
set_option maxRecDepth 100000 in
theorem gl_Law_70 : Cond.methodLink "SmokeGoesToLaw" 70 yX7_eddies ∈ sm_G := sm_g3 (i := 227) rfl rfl
set_option maxRecDepth 100000 in
theorem gl_S_253 : Cond.methodLink "SmokeGoesTo" 253 yX7_costIfEddy ∈ sm_G := sm_g3 (i := 232) rfl rfl
set_option maxRecDepth 100000 in
theorem gl_Law_74 : Cond.methodLink "SmokeGoesToLaw" 74 yX7_best ∈ sm_G := sm_g3 (i := 236) rfl rfl
set_option maxRecDepth 100000 in
theorem gl_Law_78 : Cond.methodLink "SmokeGoesToLaw" 78 yX7_eyes ∈ sm_G := sm_g4 (i := 0) rfl rfl
set_option maxRecDepth 100000 in
theorem gl_S_260 : Cond.methodLink "SmokeGoesTo" 260 yX7_rowsThatFit ∈ sm_G := sm_g4 (i := 4) rfl rfl
set_option maxRecDepth 100000 in
theorem gl_S_271 : Cond.methodLink "SmokeGoesTo" 271 yX7_rowsOf ∈ sm_G := sm_g4 (i := 8) rfl rfl
set_option maxRecDepth 100000 in
theorem gl_S_274 : Cond.methodLink "SmokeGoesTo" 274 yX7_fits ∈ sm_G := sm_g4 (i := 11) rfl rfl
set_option maxRecDepth 100000 in
theorem gl_S_281 : Cond.methodLink "SmokeGoesTo" 281 yX2_takeRow ∈ sm_G := sm_g4 (i := 15) rfl rfl
set_option maxRecDepth 100000 in
theorem gl_S_288 : Cond.methodLink "SmokeGoesTo" 288 yX5_item ∈ sm_G := sm_g4 (i := 19) rfl rfl
set_option maxRecDepth 100000 in
theorem gl_S_264 : Cond.methodLink "SmokeGoesTo" 264 yX7_firstThatFits ∈ sm_G := sm_g4 (i := 20) rfl rfl
set_option maxRecDepth 100000 in
theorem gl_S_278 : Cond.methodLink "SmokeGoesTo" 278 yX2_digits ∈ sm_G := sm_g4 (i := 24) rfl rfl
set_option maxRecDepth 100000 in
theorem gl_S_267 : Cond.methodLink "SmokeGoesTo" 267 yX7_kindsThatFit ∈ sm_G := sm_g4 (i := 28) rfl rfl
set_option maxRecDepth 100000 in
theorem gl_Law_82 : Cond.methodLink "SmokeGoesToLaw" 82 yX7_film ∈ sm_G := sm_g4 (i := 32) rfl rfl
set_option maxRecDepth 100000 in
theorem gl_S_291 : Cond.methodLink "SmokeGoesTo" 291 yX5_become ∈ sm_G := sm_g4 (i := 36) rfl rfl
set_option maxRecDepth 100000 in
theorem gl_Sheet_22 : Cond.methodLink "SmokeGoesTo$Sheet" 22 yJ7_fill_53178 ∈ sm_G := sm_g4 (i := 40) rfl rfl
set_option maxRecDepth 100000 in
theorem gl_S_294 : Cond.methodLink "SmokeGoesTo" 294 yX5_put ∈ sm_G := sm_g4 (i := 41) rfl rfl
set_option maxRecDepth 100000 in
theorem gl_Law_86 : Cond.methodLink "SmokeGoesToLaw" 86 yX7_drawn ∈ sm_G := sm_g4 (i := 45) rfl rfl
set_option maxRecDepth 100000 in
theorem gl_S_297 : Cond.methodLink "SmokeGoesTo" 297 yX2_drawWinds ∈ sm_G := sm_g4 (i := 49) rfl rfl
set_option maxRecDepth 100000 in
theorem gl_Law_90 : Cond.methodLink "SmokeGoesToLaw" 90 yX7_chance ∈ sm_G := sm_g4 (i := 54) rfl rfl
set_option maxRecDepth 100000 in
theorem gl_S_301 : Cond.methodLink "SmokeGoesTo" 301 yX2_upsOfAll ∈ sm_G := sm_g4 (i := 58) rfl rfl
set_option maxRecDepth 100000 in
theorem gl_Law_94 : Cond.methodLink "SmokeGoesToLaw" 94 yX7_image ∈ sm_G := sm_g4 (i := 59) rfl rfl
set_option maxRecDepth 100000 in
theorem gl_S_304 : Cond.methodLink "SmokeGoesTo" 304 yX0_become ∈ sm_G := sm_g4 (i := 63) rfl rfl
set_option maxRecDepth 100000 in
theorem gl_Law_98 : Cond.methodLink "SmokeGoesToLaw" 98 yX7_back ∈ sm_G := sm_g4 (i := 64) rfl rfl
set_option maxRecDepth 100000 in
theorem gl_Law_102 : Cond.methodLink "SmokeGoesToLaw" 102 yX7_count ∈ sm_G := sm_g4 (i := 68) rfl rfl
set_option maxRecDepth 100000 in
theorem gl_Law_106 : Cond.methodLink "SmokeGoesToLaw" 106 yX7_sheet ∈ sm_G := sm_g4 (i := 72) rfl rfl
set_option maxRecDepth 100000 in
theorem gl_Law_110 : Cond.methodLink "SmokeGoesToLaw" 110 yX7_cell ∈ sm_G := sm_g4 (i := 76) rfl rfl
set_option maxRecDepth 100000 in
theorem gl_Law_114 : Cond.methodLink "SmokeGoesToLaw" 114 yX7_copy ∈ sm_G := sm_g4 (i := 80) rfl rfl
set_option maxRecDepth 100000 in
theorem gl_S_309 : Cond.methodLink "SmokeGoesTo" 309 yX5_holds ∈ sm_G := sm_g4 (i := 84) rfl rfl
set_option maxRecDepth 100000 in
theorem gl_Law_119 : Cond.methodLink "SmokeGoesToLaw" 119 yX7_sitters ∈ sm_G := sm_g4 (i := 88) rfl rfl
set_option maxRecDepth 100000 in
theorem gl_Law_124 : Cond.methodLink "SmokeGoesToLaw" 124 yX7_taken ∈ sm_G := sm_g4 (i := 92) rfl rfl
set_option maxRecDepth 100000 in
theorem gl_S_315 : Cond.methodLink "SmokeGoesTo" 315 yX1_exists ∈ sm_G := sm_g4 (i := 96) rfl rfl
set_option maxRecDepth 100000 in
theorem gl_S_318 : Cond.methodLink "SmokeGoesTo" 318 yX1_isUnder ∈ sm_G := sm_g4 (i := 97) rfl rfl
set_option maxRecDepth 100000 in
theorem gl_Kind_9 : Cond.methodLink "SmokeGoesTo$Kind" 9 yX1_above ∈ sm_G := sm_g4 (i := 100) rfl rfl
set_option maxRecDepth 100000 in
theorem gl_Law_12 : Cond.methodLink "SmokeGoesToLaw" 12 yX8_init ∈ sm_G := sm_g4 (i := 105) rfl rfl
set_option maxRecDepth 100000 in
theorem gl_M_7 : Cond.methodLink "SmokeGoesToModel" 7 Lib.objectInit ∈ sm_G := sm_g4 (i := 108) rfl rfl
set_option maxRecDepth 100000 in
theorem gl_M_94 : Cond.methodLink "SmokeGoesToModel" 94 yX8_spell ∈ sm_G := sm_g4 (i := 109) rfl rfl
set_option maxRecDepth 100000 in
theorem gl_Law_17 : Cond.methodLink "SmokeGoesToLaw" 17 yX8_set ∈ sm_G := sm_g5 (i := 45) rfl rfl
set_option maxRecDepth 100000 in
theorem gl_M_104 : Cond.methodLink "SmokeGoesToModel" 104 yX8_in ∈ sm_G := sm_g5 (i := 50) rfl rfl
set_option maxRecDepth 100000 in
theorem gl_M_112 : Cond.methodLink "SmokeGoesToModel" 112 yX8_isSitter ∈ sm_G := sm_g5 (i := 53) rfl rfl
set_option maxRecDepth 100000 in
theorem gl_M_116 : Cond.methodLink "SmokeGoesToModel" 116 yX8_onPlace ∈ sm_G := sm_g5 (i := 57) rfl rfl
set_option maxRecDepth 100000 in
theorem gl_Law_21 : Cond.methodLink "SmokeGoesToLaw" 21 yX8_sitter ∈ sm_G := sm_g5 (i := 61) rfl rfl
set_option maxRecDepth 100000 in
theorem gl_M_133 : Cond.methodLink "SmokeGoesToModel" 133 yX8_isPlace ∈ sm_G := sm_g5 (i := 67) rfl rfl
set_option maxRecDepth 100000 in
theorem gl_Law_26 : Cond.methodLink "SmokeGoesToLaw" 26 yX8_told ∈ sm_G := sm_g5 (i := 71) rfl rfl
set_option maxRecDepth 100000 in
theorem gl_M_140 : Cond.methodLink "SmokeGoesToModel" 140 yX8_goesTo ∈ sm_G := sm_g5 (i := 75) rfl rfl
set_option maxRecDepth 100000 in
theorem gl_M_136 : Cond.methodLink "SmokeGoesToModel" 136 yX8_round ∈ sm_G := sm_g5 (i := 79) rfl rfl
set_option maxRecDepth 100000 in
theorem gl_M_144 : Cond.methodLink "SmokeGoesToModel" 144 yX8_getsUp ∈ sm_G := sm_g5 (i := 82) rfl rfl
set_option maxRecDepth 100000 in
theorem gl_Law_31 : Cond.methodLink "SmokeGoesToLaw" 31 yX8_feed ∈ sm_G := sm_g5 (i := 86) rfl rfl
set_option maxRecDepth 100000 in
theorem gl_Law_36 : Cond.methodLink "SmokeGoesToLaw" 36 yX8_text ∈ sm_G := sm_g5 (i := 91) rfl rfl
set_option maxRecDepth 100000 in
theorem gl_M_263 : Cond.methodLink "SmokeGoesToModel" 263 yX8_read ∈ sm_G := sm_g5 (i := 95) rfl rfl
set_option maxRecDepth 100000 in
theorem gl_M_201 : Cond.methodLink "SmokeGoesToModel" 201 yX8_next ∈ sm_G := sm_g5 (i := 99) rfl rfl
set_option maxRecDepth 100000 in
theorem gl_M_162 : Cond.methodLink "SmokeGoesToModel" 162 yX8_byteAt ∈ sm_G := sm_g5 (i := 103) rfl rfl
set_option maxRecDepth 100000 in
theorem gl_M_204 : Cond.methodLink "SmokeGoesToModel" 204 yX8_isWord ∈ sm_G := sm_g5 (i := 112) rfl rfl
set_option maxRecDepth 100000 in
theorem gl_M_192 : Cond.methodLink "SmokeGoesToModel" 192 yX8_isLetter ∈ sm_G := sm_g5 (i := 116) rfl rfl
set_option maxRecDepth 100000 in
theorem gl_M_259 : Cond.methodLink "SmokeGoesToModel" 259 yX8_part ∈ sm_G := sm_g5 (i := 120) rfl rfl
set_option maxRecDepth 100000 in
theorem gl_M_198 : Cond.methodLink "SmokeGoesToModel" 198 yX8_fail ∈ sm_G := sm_g5 (i := 124) rfl rfl
set_option maxRecDepth 100000 in
theorem gl_M_237 : Cond.methodLink "SmokeGoesToModel" 237 yX8_either ∈ sm_G := sm_g5 (i := 128) rfl rfl
set_option maxRecDepth 100000 in
theorem gl_M_256 : Cond.methodLink "SmokeGoesToModel" 256 yX8_both ∈ sm_G := sm_g5 (i := 132) rfl rfl
set_option maxRecDepth 100000 in
theorem gl_M_248 : Cond.methodLink "SmokeGoesToModel" 248 yX8_not ∈ sm_G := sm_g5 (i := 136) rfl rfl
set_option maxRecDepth 100000 in
theorem gl_M_229 : Cond.methodLink "SmokeGoesToModel" 229 yX8_opens ∈ sm_G := sm_g5 (i := 140) rfl rfl
set_option maxRecDepth 100000 in
theorem gl_M_251 : Cond.methodLink "SmokeGoesToModel" 251 yX8_added ∈ sm_G := sm_g5 (i := 144) rfl rfl
set_option maxRecDepth 100000 in
theorem gl_M_243 : Cond.methodLink "SmokeGoesToModel" 243 yX8_term ∈ sm_G := sm_g5 (i := 148) rfl rfl
set_option maxRecDepth 100000 in
theorem gl_M_233 : Cond.methodLink "SmokeGoesToModel" 233 yX8_atom ∈ sm_G := sm_g5 (i := 152) rfl rfl
set_option maxRecDepth 100000 in
theorem gl_M_226 : Cond.methodLink "SmokeGoesToModel" 226 yX8_isSign ∈ sm_G := sm_g5 (i := 156) rfl rfl
set_option maxRecDepth 100000 in
theorem gl_M_240 : Cond.methodLink "SmokeGoesToModel" 240 yX8_name ∈ sm_G := sm_g5 (i := 160) rfl rfl
set_option maxRecDepth 100000 in
theorem gl_Law_40 : Cond.methodLink "SmokeGoesToLaw" 40 yX8_force ∈ sm_G := sm_g5 (i := 166) rfl rfl
set_option maxRecDepth 100000 in
theorem gl_Law_44 : Cond.methodLink "SmokeGoesToLaw" 44 yX8_night ∈ sm_G := sm_g5 (i := 170) rfl rfl
set_option maxRecDepth 100000 in
theorem gl_M_315 : Cond.methodLink "SmokeGoesToModel" 315 yX8_isSheet ∈ sm_G := sm_g5 (i := 174) rfl rfl
set_option maxRecDepth 100000 in
theorem gl_M_302 : Cond.methodLink "SmokeGoesToModel" 302 yX8_layAside ∈ sm_G := sm_g5 (i := 179) rfl rfl
set_option maxRecDepth 100000 in
theorem gl_M_305 : Cond.methodLink "SmokeGoesToModel" 305 yX8_nights ∈ sm_G := sm_g5 (i := 183) rfl rfl
set_option maxRecDepth 100000 in
theorem gl_M_292 : Cond.methodLink "SmokeGoesToModel" 292 yX8_begins ∈ sm_G := sm_g5 (i := 187) rfl rfl
set_option maxRecDepth 100000 in
theorem gl_M_295 : Cond.methodLink "SmokeGoesToModel" 295 yX8_windOf ∈ sm_G := sm_g5 (i := 191) rfl rfl
set_option maxRecDepth 100000 in
theorem gl_M_298 : Cond.methodLink "SmokeGoesToModel" 298 yX8_passes ∈ sm_G := sm_g5 (i := 194) rfl rfl
set_option maxRecDepth 100000 in
theorem gl_M_282 : Cond.methodLink "SmokeGoesToModel" 282 yX8_turns ∈ sm_G := sm_g5 (i := 198) rfl rfl
set_option maxRecDepth 100000 in
theorem gl_M_286 : Cond.methodLink "SmokeGoesToModel" 286 yX8_bearsOf ∈ sm_G := sm_g5 (i := 202) rfl rfl
set_option maxRecDepth 100000 in
theorem gl_M_272 : Cond.methodLink "SmokeGoesToModel" 272 yX8_says ∈ sm_G := sm_g5 (i := 206) rfl rfl
set_option maxRecDepth 100000 in
theorem gl_M_269 : Cond.methodLink "SmokeGoesToModel" 269 yX8_within ∈ sm_G := sm_g5 (i := 210) rfl rfl
set_option maxRecDepth 100000 in
theorem gl_M_289 : Cond.methodLink "SmokeGoesToModel" 289 yX8_firstFree ∈ sm_G := sm_g5 (i := 213) rfl rfl
set_option maxRecDepth 100000 in
theorem gl_M_311 : Cond.methodLink "SmokeGoesToModel" 311 yX8_sumOf ∈ sm_G := sm_g5 (i := 217) rfl rfl
set_option maxRecDepth 100000 in
theorem gl_M_308 : Cond.methodLink "SmokeGoesToModel" 308 yX8_takeBack ∈ sm_G := sm_g5 (i := 221) rfl rfl
set_option maxRecDepth 100000 in
theorem gl_Law_48 : Cond.methodLink "SmokeGoesToLaw" 48 yX8_sit ∈ sm_G := sm_g5 (i := 225) rfl rfl
set_option maxRecDepth 100000 in
theorem gl_Law_53 : Cond.methodLink "SmokeGoesToLaw" 53 yX8_likely ∈ sm_G := sm_g5 (i := 229) rfl rfl
set_option maxRecDepth 100000 in
theorem gl_M_331 : Cond.methodLink "SmokeGoesToModel" 331 yX8_spreads ∈ sm_G := sm_g5 (i := 235) rfl rfl
set_option maxRecDepth 100000 in
theorem gl_M_334 : Cond.methodLink "SmokeGoesToModel" 334 yX8_lowest ∈ sm_G := sm_g6 (i := 0) rfl rfl
set_option maxRecDepth 100000 in
theorem gl_Law_57 : Cond.methodLink "SmokeGoesToLaw" 57 yX8_mean ∈ sm_G := sm_g6 (i := 3) rfl rfl
set_option maxRecDepth 100000 in
theorem gl_Law_61 : Cond.methodLink "SmokeGoesToLaw" 61 yX8_seat ∈ sm_G := sm_g6 (i := 7) rfl rfl
set_option maxRecDepth 100000 in
theorem gl_Law_65 : Cond.methodLink "SmokeGoesToLaw" 65 yX8_gap ∈ sm_G := sm_g6 (i := 11) rfl rfl
set_option maxRecDepth 100000 in
theorem gl_M_344 : Cond.methodLink "SmokeGoesToModel" 344 yX8_seatsFrom ∈ sm_G := sm_g6 (i := 15) rfl rfl
set_option maxRecDepth 100000 in
theorem gl_Law_69 : Cond.methodLink "SmokeGoesToLaw" 69 yX8_stay ∈ sm_G := sm_g6 (i := 19) rfl rfl
set_option maxRecDepth 100000 in
theorem gl_M_348 : Cond.methodLink "SmokeGoesToModel" 348 yX8_costOf ∈ sm_G := sm_g6 (i := 23) rfl rfl
set_option maxRecDepth 100000 in
theorem gl_Law_73 : Cond.methodLink "SmokeGoesToLaw" 73 yX8_eddies ∈ sm_G := sm_g6 (i := 27) rfl rfl
set_option maxRecDepth 100000 in
theorem gl_Law_77 : Cond.methodLink "SmokeGoesToLaw" 77 yX8_best ∈ sm_G := sm_g6 (i := 32) rfl rfl
set_option maxRecDepth 100000 in
theorem gl_Law_81 : Cond.methodLink "SmokeGoesToLaw" 81 yX8_eyes ∈ sm_G := sm_g6 (i := 36) rfl rfl
set_option maxRecDepth 100000 in
theorem gl_M_362 : Cond.methodLink "SmokeGoesToModel" 362 yX8_rowsOf ∈ sm_G := sm_g6 (i := 42) rfl rfl
set_option maxRecDepth 100000 in
theorem gl_Law_85 : Cond.methodLink "SmokeGoesToLaw" 85 yX8_film ∈ sm_G := sm_g6 (i := 46) rfl rfl
set_option maxRecDepth 100000 in
theorem gl_M_365 : Cond.methodLink "SmokeGoesToModel" 365 yX8_sheet ∈ sm_G := sm_g6 (i := 50) rfl rfl
set_option maxRecDepth 100000 in
theorem gl_Law_89 : Cond.methodLink "SmokeGoesToLaw" 89 yX8_drawn ∈ sm_G := sm_g6 (i := 55) rfl rfl
set_option maxRecDepth 100000 in
theorem gl_M_369 : Cond.methodLink "SmokeGoesToModel" 369 yX8_draws ∈ sm_G := sm_g6 (i := 59) rfl rfl
set_option maxRecDepth 100000 in
theorem gl_Law_93 : Cond.methodLink "SmokeGoesToLaw" 93 yX8_chance ∈ sm_G := sm_g6 (i := 64) rfl rfl
set_option maxRecDepth 100000 in
theorem gl_Law_97 : Cond.methodLink "SmokeGoesToLaw" 97 yX8_image ∈ sm_G := sm_g6 (i := 69) rfl rfl
set_option maxRecDepth 100000 in
theorem gl_Law_101 : Cond.methodLink "SmokeGoesToLaw" 101 yX8_back ∈ sm_G := sm_g6 (i := 73) rfl rfl
set_option maxRecDepth 100000 in
theorem gl_Law_105 : Cond.methodLink "SmokeGoesToLaw" 105 yX8_count ∈ sm_G := sm_g6 (i := 77) rfl rfl
set_option maxRecDepth 100000 in
theorem gl_Law_109 : Cond.methodLink "SmokeGoesToLaw" 109 yX8_sheet ∈ sm_G := sm_g6 (i := 81) rfl rfl
set_option maxRecDepth 100000 in
theorem gl_Law_113 : Cond.methodLink "SmokeGoesToLaw" 113 yX8_cell ∈ sm_G := sm_g6 (i := 82) rfl rfl
set_option maxRecDepth 100000 in
theorem gl_Law_118 : Cond.methodLink "SmokeGoesToLaw" 118 yX8_copy ∈ sm_G := sm_g6 (i := 86) rfl rfl
set_option maxRecDepth 100000 in
theorem gl_Law_123 : Cond.methodLink "SmokeGoesToLaw" 123 yX8_sitters ∈ sm_G := sm_g6 (i := 90) rfl rfl
set_option maxRecDepth 100000 in
theorem gl_M_379 : Cond.methodLink "SmokeGoesToModel" 379 yX8_sitter ∈ sm_G := sm_g6 (i := 94) rfl rfl
set_option maxRecDepth 100000 in
theorem gl_Law_127 : Cond.methodLink "SmokeGoesToLaw" 127 yX8_taken ∈ sm_G := sm_g6 (i := 95) rfl rfl
set_option maxRecDepth 100000 in
theorem gl_M_382 : Cond.methodLink "SmokeGoesToModel" 382 yX8_over ∈ sm_G := sm_g6 (i := 99) rfl rfl
set_option maxRecDepth 100000 in
theorem gf_Fire_9 : Cond.fieldLink "SmokeGoesTo$Fire" 9 "SmokeGoesTo$Fire" "smoke" "I" ∈ sm_G := sm_g1 (i := 32) rfl rfl
set_option maxRecDepth 100000 in
theorem gf_Odds_31 : Cond.fieldLink "SmokeGoesTo$Odds" 31 "SmokeGoesTo$Fire" "smoke" "I" ∈ sm_G := sm_g1 (i := 33) rfl rfl
set_option maxRecDepth 100000 in
theorem gf_S_111 : Cond.fieldLink "SmokeGoesTo" 111 "SmokeGoesTo$Fire" "smoke" "I" ∈ sm_G := sm_g1 (i := 34) rfl rfl
set_option maxRecDepth 100000 in
theorem gf_Night_86 : Cond.fieldLink "SmokeGoesTo$Night" 86 "SmokeGoesTo$Fire" "smoke" "I" ∈ sm_G := sm_g1 (i := 35) rfl rfl
set_option maxRecDepth 100000 in
theorem gf_Fire_15 : Cond.fieldLink "SmokeGoesTo$Fire" 15 "SmokeGoesTo$Fire" "left" "I" ∈ sm_G := sm_g1 (i := 36) rfl rfl
set_option maxRecDepth 100000 in
theorem gf_Odds_41 : Cond.fieldLink "SmokeGoesTo$Odds" 41 "SmokeGoesTo$Fire" "left" "I" ∈ sm_G := sm_g1 (i := 37) rfl rfl
set_option maxRecDepth 100000 in
theorem gf_S_117 : Cond.fieldLink "SmokeGoesTo" 117 "SmokeGoesTo$Fire" "left" "I" ∈ sm_G := sm_g1 (i := 38) rfl rfl
set_option maxRecDepth 100000 in
theorem gf_Fire_18 : Cond.fieldLink "SmokeGoesTo$Fire" 18 "SmokeGoesTo$Fire" "right" "I" ∈ sm_G := sm_g1 (i := 39) rfl rfl
set_option maxRecDepth 100000 in
theorem gf_Odds_44 : Cond.fieldLink "SmokeGoesTo$Odds" 44 "SmokeGoesTo$Fire" "right" "I" ∈ sm_G := sm_g1 (i := 40) rfl rfl
set_option maxRecDepth 100000 in
theorem gf_S_114 : Cond.fieldLink "SmokeGoesTo" 114 "SmokeGoesTo$Fire" "right" "I" ∈ sm_G := sm_g1 (i := 41) rfl rfl
set_option maxRecDepth 100000 in
theorem gf_Fire_21 : Cond.fieldLink "SmokeGoesTo$Fire" 21 "SmokeGoesTo$Fire" "tents" "I" ∈ sm_G := sm_g1 (i := 42) rfl rfl
set_option maxRecDepth 100000 in
theorem gf_S_120 : Cond.fieldLink "SmokeGoesTo" 120 "SmokeGoesTo$Fire" "tents" "I" ∈ sm_G := sm_g1 (i := 43) rfl rfl
set_option maxRecDepth 100000 in
theorem gf_Fire_24 : Cond.fieldLink "SmokeGoesTo$Fire" 24 "SmokeGoesTo$Fire" "eddy" "I" ∈ sm_G := sm_g1 (i := 44) rfl rfl
set_option maxRecDepth 100000 in
theorem gf_S_123 : Cond.fieldLink "SmokeGoesTo" 123 "SmokeGoesTo$Fire" "eddy" "I" ∈ sm_G := sm_g1 (i := 45) rfl rfl
set_option maxRecDepth 100000 in
theorem gf_Night_120 : Cond.fieldLink "SmokeGoesTo$Night" 120 "SmokeGoesTo$Fire" "eddy" "I" ∈ sm_G := sm_g1 (i := 46) rfl rfl
set_option maxRecDepth 100000 in
theorem gf_Fire_27 : Cond.fieldLink "SmokeGoesTo$Fire" 27 "SmokeGoesTo$Fire" "rule" "I" ∈ sm_G := sm_g1 (i := 47) rfl rfl
set_option maxRecDepth 100000 in
theorem gf_S_159 : Cond.fieldLink "SmokeGoesTo" 159 "SmokeGoesTo$Fire" "rule" "I" ∈ sm_G := sm_g1 (i := 48) rfl rfl
set_option maxRecDepth 100000 in
theorem gf_Fire_30 : Cond.fieldLink "SmokeGoesTo$Fire" 30 "SmokeGoesTo$Fire" "size" "I" ∈ sm_G := sm_g1 (i := 49) rfl rfl
set_option maxRecDepth 100000 in
theorem gf_Night_96 : Cond.fieldLink "SmokeGoesTo$Night" 96 "SmokeGoesTo$Fire" "size" "I" ∈ sm_G := sm_g1 (i := 50) rfl rfl
set_option maxRecDepth 100000 in
theorem gf_S_238 : Cond.fieldLink "SmokeGoesTo" 238 "SmokeGoesTo$Fire" "size" "I" ∈ sm_G := sm_g1 (i := 51) rfl rfl
set_option maxRecDepth 100000 in
theorem gf_Fire_33 : Cond.fieldLink "SmokeGoesTo$Fire" 33 "SmokeGoesTo$Fire" "kinds" "[I" ∈ sm_G := sm_g1 (i := 52) rfl rfl
set_option maxRecDepth 100000 in
theorem gf_Night_101 : Cond.fieldLink "SmokeGoesTo$Night" 101 "SmokeGoesTo$Fire" "kinds" "[I" ∈ sm_G := sm_g1 (i := 53) rfl rfl
set_option maxRecDepth 100000 in
theorem gf_S_144 : Cond.fieldLink "SmokeGoesTo" 144 "SmokeGoesTo$Fire" "kinds" "[I" ∈ sm_G := sm_g1 (i := 54) rfl rfl
set_option maxRecDepth 100000 in
theorem gf_Fire_37 : Cond.fieldLink "SmokeGoesTo$Fire" 37 "SmokeGoesTo$Fire" "numbers" "[I" ∈ sm_G := sm_g1 (i := 55) rfl rfl
set_option maxRecDepth 100000 in
theorem gf_Night_104 : Cond.fieldLink "SmokeGoesTo$Night" 104 "SmokeGoesTo$Fire" "numbers" "[I" ∈ sm_G := sm_g1 (i := 56) rfl rfl
set_option maxRecDepth 100000 in
theorem gf_S_129 : Cond.fieldLink "SmokeGoesTo" 129 "SmokeGoesTo$Fire" "numbers" "[I" ∈ sm_G := sm_g1 (i := 57) rfl rfl
set_option maxRecDepth 100000 in
theorem gf_Fire_40 : Cond.fieldLink "SmokeGoesTo$Fire" 40 "SmokeGoesTo$Fire" "places" "[I" ∈ sm_G := sm_g1 (i := 58) rfl rfl
set_option maxRecDepth 100000 in
theorem gf_Night_123 : Cond.fieldLink "SmokeGoesTo$Night" 123 "SmokeGoesTo$Fire" "places" "[I" ∈ sm_G := sm_g1 (i := 59) rfl rfl
set_option maxRecDepth 100000 in
theorem gf_S_137 : Cond.fieldLink "SmokeGoesTo" 137 "SmokeGoesTo$Fire" "places" "[I" ∈ sm_G := sm_g1 (i := 60) rfl rfl
set_option maxRecDepth 100000 in
theorem gf_Reader_13 : Cond.fieldLink "SmokeGoesTo$Reader" 13 "SmokeGoesTo$Reader" "size" "I" ∈ sm_G := sm_g1 (i := 89) rfl rfl
set_option maxRecDepth 100000 in
theorem gf_S_156 : Cond.fieldLink "SmokeGoesTo" 156 "SmokeGoesTo$Reader" "size" "I" ∈ sm_G := sm_g1 (i := 90) rfl rfl
set_option maxRecDepth 100000 in
theorem gf_Reader_17 : Cond.fieldLink "SmokeGoesTo$Reader" 17 "SmokeGoesTo$Reader" "tape" "[I" ∈ sm_G := sm_g1 (i := 91) rfl rfl
set_option maxRecDepth 100000 in
theorem gf_Reader_21 : Cond.fieldLink "SmokeGoesTo$Reader" 21 "SmokeGoesTo$Reader" "token" "I" ∈ sm_G := sm_g1 (i := 92) rfl rfl
set_option maxRecDepth 100000 in
theorem gf_Reader_24 : Cond.fieldLink "SmokeGoesTo$Reader" 24 "SmokeGoesTo$Reader" "tokenStart" "I" ∈ sm_G := sm_g1 (i := 93) rfl rfl
set_option maxRecDepth 100000 in
theorem gf_Reader_27 : Cond.fieldLink "SmokeGoesTo$Reader" 27 "SmokeGoesTo$Reader" "next" "I" ∈ sm_G := sm_g1 (i := 94) rfl rfl
set_option maxRecDepth 100000 in
theorem gf_Reader_30 : Cond.fieldLink "SmokeGoesTo$Reader" 30 "SmokeGoesTo$Reader" "number" "I" ∈ sm_G := sm_g1 (i := 95) rfl rfl
set_option maxRecDepth 100000 in
theorem gf_Reader_33 : Cond.fieldLink "SmokeGoesTo$Reader" 33 "SmokeGoesTo$Reader" "out" "LSmokeGoesTo$Text;" ∈ sm_G := sm_g1 (i := 96) rfl rfl
set_option maxRecDepth 100000 in
theorem gf_Night_12 : Cond.fieldLink "SmokeGoesTo$Night" 12 "SmokeGoesTo$Night" "now" "LSmokeGoesTo$Fire;" ∈ sm_G := sm_g1 (i := 124) rfl rfl
set_option maxRecDepth 100000 in
theorem gf_S_188 : Cond.fieldLink "SmokeGoesTo" 188 "SmokeGoesTo$Night" "now" "LSmokeGoesTo$Fire;" ∈ sm_G := sm_g1 (i := 125) rfl rfl
set_option maxRecDepth 100000 in
theorem gf_Night_18 : Cond.fieldLink "SmokeGoesTo$Night" 18 "SmokeGoesTo$Night" "costs" "[I" ∈ sm_G := sm_g1 (i := 126) rfl rfl
set_option maxRecDepth 100000 in
theorem gf_S_256 : Cond.fieldLink "SmokeGoesTo" 256 "SmokeGoesTo$Night" "costs" "[I" ∈ sm_G := sm_g1 (i := 127) rfl rfl
set_option maxRecDepth 100000 in
theorem gf_Night_22 : Cond.fieldLink "SmokeGoesTo$Night" 22 "SmokeGoesTo$Night" "smoked" "[I" ∈ sm_G := sm_g1 (i := 128) rfl rfl
set_option maxRecDepth 100000 in
theorem gf_S_285 : Cond.fieldLink "SmokeGoesTo" 285 "SmokeGoesTo$Night" "smoked" "[I" ∈ sm_G := sm_g1 (i := 129) rfl rfl
set_option maxRecDepth 100000 in
theorem gf_Night_25 : Cond.fieldLink "SmokeGoesTo$Night" 25 "SmokeGoesTo$Night" "winds" "[I" ∈ sm_G := sm_g1 (i := 130) rfl rfl
set_option maxRecDepth 100000 in
theorem gf_Night_28 : Cond.fieldLink "SmokeGoesTo$Night" 28 "SmokeGoesTo$Night" "longest" "[I" ∈ sm_G := sm_g1 (i := 131) rfl rfl
set_option maxRecDepth 100000 in
theorem gf_Night_31 : Cond.fieldLink "SmokeGoesTo$Night" 31 "SmokeGoesTo$Night" "ups" "[I" ∈ sm_G := sm_g1 (i := 132) rfl rfl
set_option maxRecDepth 100000 in
theorem gf_Night_34 : Cond.fieldLink "SmokeGoesTo$Night" 34 "SmokeGoesTo$Night" "longs" "[I" ∈ sm_G := sm_g1 (i := 133) rfl rfl
set_option maxRecDepth 100000 in
theorem gf_Night_39 : Cond.fieldLink "SmokeGoesTo$Night" 39 "SmokeGoesTo$Night" "names" "[I" ∈ sm_G := sm_g1 (i := 134) rfl rfl
set_option maxRecDepth 100000 in
theorem gf_Night_42 : Cond.fieldLink "SmokeGoesTo$Night" 42 "SmokeGoesTo$Night" "stack" "[I" ∈ sm_G := sm_g1 (i := 135) rfl rfl
set_option maxRecDepth 100000 in
theorem gf_Night_45 : Cond.fieldLink "SmokeGoesTo$Night" 45 "SmokeGoesTo$Night" "minutes" "I" ∈ sm_G := sm_g1 (i := 136) rfl rfl
set_option maxRecDepth 100000 in
theorem gf_Night_49 : Cond.fieldLink "SmokeGoesTo$Night" 49 "SmokeGoesTo$Night" "needless" "I" ∈ sm_G := sm_g1 (i := 137) rfl rfl
set_option maxRecDepth 100000 in
theorem gf_Night_52 : Cond.fieldLink "SmokeGoesTo$Night" 52 "SmokeGoesTo$Night" "riser" "I" ∈ sm_G := sm_g1 (i := 138) rfl rfl
set_option maxRecDepth 100000 in
theorem gf_Night_55 : Cond.fieldLink "SmokeGoesTo$Night" 55 "SmokeGoesTo$Night" "leftPlace" "I" ∈ sm_G := sm_g1 (i := 139) rfl rfl
set_option maxRecDepth 100000 in
theorem gf_Night_58 : Cond.fieldLink "SmokeGoesTo$Night" 58 "SmokeGoesTo$Night" "rule" "LSmokeGoesTo$Text;" ∈ sm_G := sm_g1 (i := 140) rfl rfl
set_option maxRecDepth 100000 in
theorem gf_Odds_9 : Cond.fieldLink "SmokeGoesTo$Odds" 9 "SmokeGoesTo$Odds" "at" "[J" ∈ sm_G := sm_g1 (i := 176) rfl rfl
set_option maxRecDepth 100000 in
theorem gf_S_217 : Cond.fieldLink "SmokeGoesTo" 217 "SmokeGoesTo$Odds" "at" "[J" ∈ sm_G := sm_g1 (i := 177) rfl rfl
set_option maxRecDepth 100000 in
theorem gf_Odds_15 : Cond.fieldLink "SmokeGoesTo$Odds" 15 "SmokeGoesTo$Odds" "together" "[J" ∈ sm_G := sm_g1 (i := 178) rfl rfl
set_option maxRecDepth 100000 in
theorem gf_S_232 : Cond.fieldLink "SmokeGoesTo" 232 "SmokeGoesTo$Odds" "together" "[J" ∈ sm_G := sm_g1 (i := 179) rfl rfl
set_option maxRecDepth 100000 in
theorem gf_Odds_18 : Cond.fieldLink "SmokeGoesTo$Odds" 18 "SmokeGoesTo$Odds" "below" "J" ∈ sm_G := sm_g1 (i := 180) rfl rfl
set_option maxRecDepth 100000 in
theorem gf_S_221 : Cond.fieldLink "SmokeGoesTo" 221 "SmokeGoesTo$Odds" "below" "J" ∈ sm_G := sm_g1 (i := 181) rfl rfl
set_option maxRecDepth 100000 in
theorem gf_Odds_22 : Cond.fieldLink "SmokeGoesTo$Odds" 22 "SmokeGoesTo$Odds" "ahead" "[J" ∈ sm_G := sm_g1 (i := 182) rfl rfl
set_option maxRecDepth 100000 in
theorem gf_Text_9 : Cond.fieldLink "SmokeGoesTo$Text" 9 "SmokeGoesTo$Text" "code" "[I" ∈ sm_G := sm_g1 (i := 198) rfl rfl
set_option maxRecDepth 100000 in
theorem gf_Text_15 : Cond.fieldLink "SmokeGoesTo$Text" 15 "SmokeGoesTo$Text" "ends" "[I" ∈ sm_G := sm_g1 (i := 199) rfl rfl
set_option maxRecDepth 100000 in
theorem gf_Text_18 : Cond.fieldLink "SmokeGoesTo$Text" 18 "SmokeGoesTo$Text" "size" "I" ∈ sm_G := sm_g1 (i := 200) rfl rfl
set_option maxRecDepth 100000 in
theorem gf_Sheet_9 : Cond.fieldLink "SmokeGoesTo$Sheet" 9 "SmokeGoesTo$Sheet" "sort" "I" ∈ sm_G := sm_g1 (i := 213) rfl rfl
set_option maxRecDepth 100000 in
theorem gf_S_306 : Cond.fieldLink "SmokeGoesTo" 306 "SmokeGoesTo$Sheet" "sort" "I" ∈ sm_G := sm_g1 (i := 214) rfl rfl
set_option maxRecDepth 100000 in
theorem gf_Sheet_15 : Cond.fieldLink "SmokeGoesTo$Sheet" 15 "SmokeGoesTo$Sheet" "size" "I" ∈ sm_G := sm_g1 (i := 215) rfl rfl
set_option maxRecDepth 100000 in
theorem gf_Night_62 : Cond.fieldLink "SmokeGoesTo$Night" 62 "SmokeGoesTo$Sheet" "size" "I" ∈ sm_G := sm_g1 (i := 216) rfl rfl
set_option maxRecDepth 100000 in
theorem gf_S_259 : Cond.fieldLink "SmokeGoesTo" 259 "SmokeGoesTo$Sheet" "size" "I" ∈ sm_G := sm_g1 (i := 217) rfl rfl
set_option maxRecDepth 100000 in
theorem gf_Sheet_18 : Cond.fieldLink "SmokeGoesTo$Sheet" 18 "SmokeGoesTo$Sheet" "items" "[I" ∈ sm_G := sm_g1 (i := 218) rfl rfl
set_option maxRecDepth 100000 in
theorem gf_S_312 : Cond.fieldLink "SmokeGoesTo" 312 "SmokeGoesTo$Sheet" "items" "[I" ∈ sm_G := sm_g1 (i := 219) rfl rfl
set_option maxRecDepth 100000 in
theorem gf_String_38 : Cond.fieldLink "java/lang/String" 38 "java/lang/String" "COMPACT_STRINGS" "Z" ∈ sm_G := sm_g1 (i := 236) rfl rfl
set_option maxRecDepth 100000 in
theorem gf_String_1053 : Cond.fieldLink "java/lang/String" 1053 "jdk/internal/util/Preconditions" "SIOOBE_FORMATTER" "Ljava/util/function/BiFunction;" ∈ sm_G := sm_g2 (i := 12) rfl rfl
set_option maxRecDepth 100000 in
theorem gf_S_12 : Cond.fieldLink "SmokeGoesTo" 12 "SmokeGoesTo" "fire" "LSmokeGoesTo$Fire;" ∈ sm_G := sm_g2 (i := 184) rfl rfl
set_option maxRecDepth 100000 in
theorem gf_S_16 : Cond.fieldLink "SmokeGoesTo" 16 "SmokeGoesTo" "kept" "LSmokeGoesTo$Fire;" ∈ sm_G := sm_g2 (i := 185) rfl rfl
set_option maxRecDepth 100000 in
theorem gf_S_19 : Cond.fieldLink "SmokeGoesTo" 19 "SmokeGoesTo" "hasImage" "Z" ∈ sm_G := sm_g2 (i := 186) rfl rfl
set_option maxRecDepth 100000 in
theorem gf_S_26 : Cond.fieldLink "SmokeGoesTo" 26 "SmokeGoesTo" "reader" "LSmokeGoesTo$Reader;" ∈ sm_G := sm_g2 (i := 187) rfl rfl
set_option maxRecDepth 100000 in
theorem gf_S_32 : Cond.fieldLink "SmokeGoesTo" 32 "SmokeGoesTo" "texts" "[LSmokeGoesTo$Text;" ∈ sm_G := sm_g2 (i := 188) rfl rfl
set_option maxRecDepth 100000 in
theorem gf_S_36 : Cond.fieldLink "SmokeGoesTo" 36 "SmokeGoesTo" "textCount" "I" ∈ sm_G := sm_g2 (i := 189) rfl rfl
set_option maxRecDepth 100000 in
theorem gf_S_42 : Cond.fieldLink "SmokeGoesTo" 42 "SmokeGoesTo" "sheets" "[LSmokeGoesTo$Sheet;" ∈ sm_G := sm_g2 (i := 190) rfl rfl
set_option maxRecDepth 100000 in
theorem gf_S_49 : Cond.fieldLink "SmokeGoesTo" 49 "SmokeGoesTo" "thought" "LSmokeGoesTo$Night;" ∈ sm_G := sm_g2 (i := 191) rfl rfl
set_option maxRecDepth 100000 in
theorem gf_S_56 : Cond.fieldLink "SmokeGoesTo" 56 "SmokeGoesTo" "odds" "LSmokeGoesTo$Odds;" ∈ sm_G := sm_g2 (i := 192) rfl rfl
set_option maxRecDepth 100000 in
theorem gf_M_13 : Cond.fieldLink "SmokeGoesToModel" 13 "SmokeGoesToModel" "texts" "[I" ∈ sm_G := sm_g4 (i := 113) rfl rfl
set_option maxRecDepth 100000 in
theorem gf_M_17 : Cond.fieldLink "SmokeGoesToModel" 17 "SmokeGoesToModel" "textSize" "[I" ∈ sm_G := sm_g4 (i := 114) rfl rfl
set_option maxRecDepth 100000 in
theorem gf_M_98 : Cond.fieldLink "SmokeGoesToModel" 98 "SmokeGoesToModel" "textCount" "I" ∈ sm_G := sm_g4 (i := 115) rfl rfl
set_option maxRecDepth 100000 in
theorem gf_M_266 : Cond.fieldLink "SmokeGoesToModel" 266 "SmokeGoesToModel" "rule" "I" ∈ sm_G := sm_g4 (i := 116) rfl rfl
set_option maxRecDepth 100000 in
theorem gf_M_20 : Cond.fieldLink "SmokeGoesToModel" 20 "SmokeGoesToModel" "tape" "[I" ∈ sm_G := sm_g4 (i := 117) rfl rfl
set_option maxRecDepth 100000 in
theorem gf_M_150 : Cond.fieldLink "SmokeGoesToModel" 150 "SmokeGoesToModel" "taped" "I" ∈ sm_G := sm_g4 (i := 118) rfl rfl
set_option maxRecDepth 100000 in
theorem gf_M_120 : Cond.fieldLink "SmokeGoesToModel" 120 "SmokeGoesToModel" "smoke" "I" ∈ sm_G := sm_g4 (i := 119) rfl rfl
set_option maxRecDepth 100000 in
theorem gf_M_23 : Cond.fieldLink "SmokeGoesToModel" 23 "SmokeGoesToModel" "left" "I" ∈ sm_G := sm_g4 (i := 120) rfl rfl
set_option maxRecDepth 100000 in
theorem gf_M_26 : Cond.fieldLink "SmokeGoesToModel" 26 "SmokeGoesToModel" "right" "I" ∈ sm_G := sm_g4 (i := 121) rfl rfl
set_option maxRecDepth 100000 in
theorem gf_M_123 : Cond.fieldLink "SmokeGoesToModel" 123 "SmokeGoesToModel" "tents" "I" ∈ sm_G := sm_g4 (i := 122) rfl rfl
set_option maxRecDepth 100000 in
theorem gf_M_126 : Cond.fieldLink "SmokeGoesToModel" 126 "SmokeGoesToModel" "eddy" "I" ∈ sm_G := sm_g4 (i := 123) rfl rfl
set_option maxRecDepth 100000 in
theorem gf_M_29 : Cond.fieldLink "SmokeGoesToModel" 29 "SmokeGoesToModel" "kinds" "[I" ∈ sm_G := sm_g4 (i := 124) rfl rfl
set_option maxRecDepth 100000 in
theorem gf_M_32 : Cond.fieldLink "SmokeGoesToModel" 32 "SmokeGoesToModel" "numbers" "[I" ∈ sm_G := sm_g4 (i := 125) rfl rfl
set_option maxRecDepth 100000 in
theorem gf_M_35 : Cond.fieldLink "SmokeGoesToModel" 35 "SmokeGoesToModel" "places" "[I" ∈ sm_G := sm_g4 (i := 126) rfl rfl
set_option maxRecDepth 100000 in
theorem gf_M_101 : Cond.fieldLink "SmokeGoesToModel" 101 "SmokeGoesToModel" "sitterMany" "I" ∈ sm_G := sm_g4 (i := 127) rfl rfl
set_option maxRecDepth 100000 in
theorem gf_M_208 : Cond.fieldLink "SmokeGoesToModel" 208 "SmokeGoesToModel" "ofPlace" "I" ∈ sm_G := sm_g4 (i := 128) rfl rfl
set_option maxRecDepth 100000 in
theorem gf_M_211 : Cond.fieldLink "SmokeGoesToModel" 211 "SmokeGoesToModel" "ofSmoke" "I" ∈ sm_G := sm_g4 (i := 129) rfl rfl
set_option maxRecDepth 100000 in
theorem gf_M_214 : Cond.fieldLink "SmokeGoesToModel" 214 "SmokeGoesToModel" "ofMinute" "I" ∈ sm_G := sm_g4 (i := 130) rfl rfl
set_option maxRecDepth 100000 in
theorem gf_M_217 : Cond.fieldLink "SmokeGoesToModel" 217 "SmokeGoesToModel" "ofLong" "I" ∈ sm_G := sm_g4 (i := 131) rfl rfl
set_option maxRecDepth 100000 in
theorem gf_M_220 : Cond.fieldLink "SmokeGoesToModel" 220 "SmokeGoesToModel" "ofNumber" "I" ∈ sm_G := sm_g4 (i := 132) rfl rfl
set_option maxRecDepth 100000 in
theorem gf_M_223 : Cond.fieldLink "SmokeGoesToModel" 223 "SmokeGoesToModel" "ofSitter" "I" ∈ sm_G := sm_g4 (i := 133) rfl rfl
set_option maxRecDepth 100000 in
theorem gf_M_156 : Cond.fieldLink "SmokeGoesToModel" 156 "SmokeGoesToModel" "from" "I" ∈ sm_G := sm_g4 (i := 134) rfl rfl
set_option maxRecDepth 100000 in
theorem gf_M_153 : Cond.fieldLink "SmokeGoesToModel" 153 "SmokeGoesToModel" "size" "I" ∈ sm_G := sm_g4 (i := 135) rfl rfl
set_option maxRecDepth 100000 in
theorem gf_M_159 : Cond.fieldLink "SmokeGoesToModel" 159 "SmokeGoesToModel" "here" "I" ∈ sm_G := sm_g4 (i := 136) rfl rfl
set_option maxRecDepth 100000 in
theorem gf_M_168 : Cond.fieldLink "SmokeGoesToModel" 168 "SmokeGoesToModel" "token" "I" ∈ sm_G := sm_g4 (i := 137) rfl rfl
set_option maxRecDepth 100000 in
theorem gf_M_165 : Cond.fieldLink "SmokeGoesToModel" 165 "SmokeGoesToModel" "tokenAt" "I" ∈ sm_G := sm_g4 (i := 138) rfl rfl
set_option maxRecDepth 100000 in
theorem gf_M_179 : Cond.fieldLink "SmokeGoesToModel" 179 "SmokeGoesToModel" "tokenWorth" "J" ∈ sm_G := sm_g4 (i := 139) rfl rfl
set_option maxRecDepth 100000 in
theorem gf_M_195 : Cond.fieldLink "SmokeGoesToModel" 195 "SmokeGoesToModel" "open" "I" ∈ sm_G := sm_g4 (i := 140) rfl rfl
set_option maxRecDepth 100000 in
theorem gf_M_185 : Cond.fieldLink "SmokeGoesToModel" 185 "SmokeGoesToModel" "bad" "Z" ∈ sm_G := sm_g4 (i := 141) rfl rfl
set_option maxRecDepth 100000 in
theorem gf_M_189 : Cond.fieldLink "SmokeGoesToModel" 189 "SmokeGoesToModel" "fault" "I" ∈ sm_G := sm_g4 (i := 142) rfl rfl
set_option maxRecDepth 100000 in
theorem gf_M_38 : Cond.fieldLink "SmokeGoesToModel" 38 "SmokeGoesToModel" "longNow" "[I" ∈ sm_G := sm_g4 (i := 143) rfl rfl
set_option maxRecDepth 100000 in
theorem gf_M_41 : Cond.fieldLink "SmokeGoesToModel" 41 "SmokeGoesToModel" "costs" "[I" ∈ sm_G := sm_g4 (i := 144) rfl rfl
set_option maxRecDepth 100000 in
theorem gf_M_44 : Cond.fieldLink "SmokeGoesToModel" 44 "SmokeGoesToModel" "smoked" "[I" ∈ sm_G := sm_g4 (i := 145) rfl rfl
set_option maxRecDepth 100000 in
theorem gf_M_47 : Cond.fieldLink "SmokeGoesToModel" 47 "SmokeGoesToModel" "longest" "[I" ∈ sm_G := sm_g4 (i := 146) rfl rfl
set_option maxRecDepth 100000 in
theorem gf_M_50 : Cond.fieldLink "SmokeGoesToModel" 50 "SmokeGoesToModel" "risen" "[I" ∈ sm_G := sm_g4 (i := 147) rfl rfl
set_option maxRecDepth 100000 in
theorem gf_M_53 : Cond.fieldLink "SmokeGoesToModel" 53 "SmokeGoesToModel" "leftPlace" "[I" ∈ sm_G := sm_g4 (i := 148) rfl rfl
set_option maxRecDepth 100000 in
theorem gf_M_276 : Cond.fieldLink "SmokeGoesToModel" 276 "SmokeGoesToModel" "upNow" "I" ∈ sm_G := sm_g4 (i := 149) rfl rfl
set_option maxRecDepth 100000 in
theorem gf_M_279 : Cond.fieldLink "SmokeGoesToModel" 279 "SmokeGoesToModel" "needless" "I" ∈ sm_G := sm_g4 (i := 150) rfl rfl
set_option maxRecDepth 100000 in
theorem gf_M_56 : Cond.fieldLink "SmokeGoesToModel" 56 "SmokeGoesToModel" "aside" "[I" ∈ sm_G := sm_g4 (i := 151) rfl rfl
set_option maxRecDepth 100000 in
theorem gf_M_59 : Cond.fieldLink "SmokeGoesToModel" 59 "SmokeGoesToModel" "parts" "[J" ∈ sm_G := sm_g4 (i := 152) rfl rfl
set_option maxRecDepth 100000 in
theorem gf_M_63 : Cond.fieldLink "SmokeGoesToModel" 63 "SmokeGoesToModel" "then" "[J" ∈ sm_G := sm_g4 (i := 153) rfl rfl
set_option maxRecDepth 100000 in
theorem gf_M_66 : Cond.fieldLink "SmokeGoesToModel" 66 "SmokeGoesToModel" "means" "[J" ∈ sm_G := sm_g4 (i := 154) rfl rfl
set_option maxRecDepth 100000 in
theorem gf_M_322 : Cond.fieldLink "SmokeGoesToModel" 322 "SmokeGoesToModel" "below" "J" ∈ sm_G := sm_g4 (i := 155) rfl rfl
set_option maxRecDepth 100000 in
theorem gf_M_69 : Cond.fieldLink "SmokeGoesToModel" 69 "SmokeGoesToModel" "seats" "[I" ∈ sm_G := sm_g4 (i := 156) rfl rfl
set_option maxRecDepth 100000 in
theorem gf_M_72 : Cond.fieldLink "SmokeGoesToModel" 72 "SmokeGoesToModel" "bestSeats" "[I" ∈ sm_G := sm_g4 (i := 157) rfl rfl
set_option maxRecDepth 100000 in
theorem gf_M_341 : Cond.fieldLink "SmokeGoesToModel" 341 "SmokeGoesToModel" "bestSum" "J" ∈ sm_G := sm_g4 (i := 158) rfl rfl
set_option maxRecDepth 100000 in
theorem gf_M_338 : Cond.fieldLink "SmokeGoesToModel" 338 "SmokeGoesToModel" "isFound" "Z" ∈ sm_G := sm_g4 (i := 159) rfl rfl
set_option maxRecDepth 100000 in
theorem gf_M_352 : Cond.fieldLink "SmokeGoesToModel" 352 "SmokeGoesToModel" "rowsMany" "I" ∈ sm_G := sm_g4 (i := 160) rfl rfl
set_option maxRecDepth 100000 in
theorem gf_M_355 : Cond.fieldLink "SmokeGoesToModel" 355 "SmokeGoesToModel" "rowsFirst" "I" ∈ sm_G := sm_g4 (i := 161) rfl rfl
set_option maxRecDepth 100000 in
theorem gf_M_75 : Cond.fieldLink "SmokeGoesToModel" 75 "SmokeGoesToModel" "kept" "[I" ∈ sm_G := sm_g4 (i := 162) rfl rfl
set_option maxRecDepth 100000 in
theorem gf_M_78 : Cond.fieldLink "SmokeGoesToModel" 78 "SmokeGoesToModel" "manyKept" "I" ∈ sm_G := sm_g4 (i := 163) rfl rfl
set_option maxRecDepth 100000 in
theorem gf_M_374 : Cond.fieldLink "SmokeGoesToModel" 374 "SmokeGoesToModel" "ruleKept" "I" ∈ sm_G := sm_g4 (i := 164) rfl rfl
set_option maxRecDepth 100000 in
theorem gf_M_81 : Cond.fieldLink "SmokeGoesToModel" 81 "SmokeGoesToModel" "isThere" "[Z" ∈ sm_G := sm_g4 (i := 165) rfl rfl
set_option maxRecDepth 100000 in
theorem gf_M_85 : Cond.fieldLink "SmokeGoesToModel" 85 "SmokeGoesToModel" "sorts" "[I" ∈ sm_G := sm_g4 (i := 166) rfl rfl
set_option maxRecDepth 100000 in
theorem gf_M_88 : Cond.fieldLink "SmokeGoesToModel" 88 "SmokeGoesToModel" "sheetSize" "[I" ∈ sm_G := sm_g4 (i := 167) rfl rfl
set_option maxRecDepth 100000 in
theorem gf_M_91 : Cond.fieldLink "SmokeGoesToModel" 91 "SmokeGoesToModel" "items" "[I" ∈ sm_G := sm_g4 (i := 168) rfl rfl
set_option maxRecDepth 100000 in
theorem gf_String_9 : Cond.fieldLink "java/lang/String" 9 "java/lang/String" "value" "[B" ∈ sm_G := sm_g6 (i := 102) rfl rfl
set_option maxRecDepth 100000 in
theorem gf_String_15 : Cond.fieldLink "java/lang/String" 15 "java/lang/String" "coder" "B" ∈ sm_G := sm_g6 (i := 103) rfl rfl
theorem gl_S_11 : ("SmokeGoesTo", 11, yX0_init) ∈ sm_nl := List.mem_of_getElem? (i := 0) rfl
theorem gl_S_25 : ("SmokeGoesTo", 25, yX4_init) ∈ sm_nl := List.mem_of_getElem? (i := 1) rfl
theorem gl_S_48 : ("SmokeGoesTo", 48, yX2_init) ∈ sm_nl := List.mem_of_getElem? (i := 2) rfl
theorem gl_Night_11 : ("SmokeGoesTo$Night", 11, yX0_init) ∈ sm_nl := List.mem_of_getElem? (i := 3) rfl
theorem gl_S_55 : ("SmokeGoesTo", 55, yX3_init) ∈ sm_nl := List.mem_of_getElem? (i := 4) rfl
theorem gl_S_60 : ("SmokeGoesTo", 60, yX6_init) ∈ sm_nl := List.mem_of_getElem? (i := 5) rfl
theorem gl_S_61 : ("SmokeGoesTo", 61, yX5_init) ∈ sm_nl := List.mem_of_getElem? (i := 6) rfl
theorem gl_Fire_59 : ("SmokeGoesTo$Fire", 59, yX7_isPlace) ∈ sm_nl := List.mem_of_getElem? (i := 7) rfl
theorem gl_Kind_15 : ("SmokeGoesTo$Kind", 15, yX7_round) ∈ sm_nl := List.mem_of_getElem? (i := 8) rfl
theorem gl_Night_117 : ("SmokeGoesTo$Night", 117, yX7_round) ∈ sm_nl := List.mem_of_getElem? (i := 9) rfl
theorem gl_Odds_37 : ("SmokeGoesTo$Odds", 37, yX7_round) ∈ sm_nl := List.mem_of_getElem? (i := 10) rfl
set_option maxRecDepth 100000 in
theorem gk_S_252 : Cond.constant "SmokeGoesTo" 252 (-100000) ∈ sm_G := sm_g3 (i := 231) rfl rfl
set_option maxRecDepth 100000 in
theorem gk_Night_71 : Cond.constant "SmokeGoesTo$Night" 71 (1103515245) ∈ sm_G := sm_g4 (i := 53) rfl rfl
set_option maxRecDepth 100000 in
theorem gk_M_351 : Cond.constant "SmokeGoesToModel" 351 (-100000) ∈ sm_G := sm_g6 (i := 31) rfl rfl
set_option maxRecDepth 100000 in
theorem gk_M_368 : Cond.constant "SmokeGoesToModel" 368 (1103515245) ∈ sm_G := sm_g6 (i := 63) rfl rfl
set_option maxRecDepth 100000 in
theorem gk_S_211 : Cond.constantLong "SmokeGoesTo" 211 (-4611686018427387904) ∈ sm_G := sm_g3 (i := 174) rfl rfl
set_option maxRecDepth 100000 in
theorem gk_Odds_51 : Cond.constantLong "SmokeGoesTo$Odds" 51 (100) ∈ sm_G := sm_g3 (i := 188) rfl rfl
set_option maxRecDepth 100000 in
theorem gk_S_247 : Cond.constantLong "SmokeGoesTo" 247 (9223372036854775807) ∈ sm_G := sm_g3 (i := 215) rfl rfl
set_option maxRecDepth 100000 in
theorem gk_M_110 : Cond.constantLong "SmokeGoesToModel" 110 (6) ∈ sm_G := sm_g5 (i := 49) rfl rfl
set_option maxRecDepth 100000 in
theorem gk_M_129 : Cond.constantLong "SmokeGoesToModel" 129 (5) ∈ sm_G := sm_g5 (i := 65) rfl rfl
set_option maxRecDepth 100000 in
theorem gk_M_131 : Cond.constantLong "SmokeGoesToModel" 131 (9) ∈ sm_G := sm_g5 (i := 66) rfl rfl
set_option maxRecDepth 100000 in
theorem gk_M_108 : Cond.constantLong "SmokeGoesToModel" 108 (7) ∈ sm_G := sm_g5 (i := 70) rfl rfl
set_option maxRecDepth 100000 in
theorem gk_M_148 : Cond.constantLong "SmokeGoesToModel" 148 (255) ∈ sm_G := sm_g5 (i := 90) rfl rfl
set_option maxRecDepth 100000 in
theorem gk_M_171 : Cond.constantLong "SmokeGoesToModel" 171 (97) ∈ sm_G := sm_g5 (i := 107) rfl rfl
set_option maxRecDepth 100000 in
theorem gk_M_173 : Cond.constantLong "SmokeGoesToModel" 173 (122) ∈ sm_G := sm_g5 (i := 108) rfl rfl
set_option maxRecDepth 100000 in
theorem gk_M_175 : Cond.constantLong "SmokeGoesToModel" 175 (48) ∈ sm_G := sm_g5 (i := 109) rfl rfl
set_option maxRecDepth 100000 in
theorem gk_M_177 : Cond.constantLong "SmokeGoesToModel" 177 (57) ∈ sm_G := sm_g5 (i := 110) rfl rfl
set_option maxRecDepth 100000 in
theorem gk_M_183 : Cond.constantLong "SmokeGoesToModel" 183 (10) ∈ sm_G := sm_g5 (i := 111) rfl rfl
set_option maxRecDepth 100000 in
theorem gk_M_246 : Cond.constantLong "SmokeGoesToModel" 246 (43) ∈ sm_G := sm_g5 (i := 164) rfl rfl
set_option maxRecDepth 100000 in
theorem gk_M_254 : Cond.constantLong "SmokeGoesToModel" 254 (60) ∈ sm_G := sm_g5 (i := 165) rfl rfl
set_option maxRecDepth 100000 in
theorem gk_M_318 : Cond.constantLong "SmokeGoesToModel" 318 (3) ∈ sm_G := sm_g5 (i := 177) rfl rfl
set_option maxRecDepth 100000 in
theorem gk_M_320 : Cond.constantLong "SmokeGoesToModel" 320 (59) ∈ sm_G := sm_g5 (i := 178) rfl rfl
set_option maxRecDepth 100000 in
theorem gk_M_327 : Cond.constantLong "SmokeGoesToModel" 327 (8) ∈ sm_G := sm_g5 (i := 233) rfl rfl
set_option maxRecDepth 100000 in
theorem gk_M_329 : Cond.constantLong "SmokeGoesToModel" 329 (-4611686018427387904) ∈ sm_G := sm_g5 (i := 234) rfl rfl
set_option maxRecDepth 100000 in
theorem gk_M_325 : Cond.constantLong "SmokeGoesToModel" 325 (100) ∈ sm_G := sm_g5 (i := 239) rfl rfl
set_option maxRecDepth 100000 in
theorem gk_M_358 : Cond.constantLong "SmokeGoesToModel" 358 (-2) ∈ sm_G := sm_g6 (i := 40) rfl rfl
set_option maxRecDepth 100000 in
theorem gk_M_360 : Cond.constantLong "SmokeGoesToModel" 360 (-1) ∈ sm_G := sm_g6 (i := 41) rfl rfl
set_option maxRecDepth 100000 in
theorem gk_M_377 : Cond.constantLong "SmokeGoesToModel" 377 (2) ∈ sm_G := sm_g6 (i := 54) rfl rfl
set_option maxRecDepth 100000 in
theorem gk_M_372 : Cond.constantLong "SmokeGoesToModel" 372 (20) ∈ sm_G := sm_g6 (i := 68) rfl rfl
set_option maxRecDepth 100000 in
theorem gx_Law_7 : Cond.classLink "SmokeGoesToLaw" 7 "SmokeGoesTo" ∈ sm_G := sm_g1 (i := 18) rfl rfl
set_option maxRecDepth 100000 in
theorem gx_S_9 : Cond.classLink "SmokeGoesTo" 9 "SmokeGoesTo$Fire" ∈ sm_G := sm_g1 (i := 26) rfl rfl
set_option maxRecDepth 100000 in
theorem gx_S_23 : Cond.classLink "SmokeGoesTo" 23 "SmokeGoesTo$Reader" ∈ sm_G := sm_g1 (i := 83) rfl rfl
set_option maxRecDepth 100000 in
theorem gx_S_30 : Cond.classLink "SmokeGoesTo" 30 "SmokeGoesTo$Text" ∈ sm_G := sm_g1 (i := 112) rfl rfl
set_option maxRecDepth 100000 in
theorem gx_S_40 : Cond.classLink "SmokeGoesTo" 40 "SmokeGoesTo$Sheet" ∈ sm_G := sm_g1 (i := 114) rfl rfl
set_option maxRecDepth 100000 in
theorem gx_S_46 : Cond.classLink "SmokeGoesTo" 46 "SmokeGoesTo$Night" ∈ sm_G := sm_g1 (i := 116) rfl rfl
set_option maxRecDepth 100000 in
theorem gx_Night_9 : Cond.classLink "SmokeGoesTo$Night" 9 "SmokeGoesTo$Fire" ∈ sm_G := sm_g1 (i := 122) rfl rfl
set_option maxRecDepth 100000 in
theorem gx_S_53 : Cond.classLink "SmokeGoesTo" 53 "SmokeGoesTo$Odds" ∈ sm_G := sm_g1 (i := 170) rfl rfl
set_option maxRecDepth 100000 in
theorem gx_Law_10 : Cond.classLink "SmokeGoesToLaw" 10 "SmokeGoesToModel" ∈ sm_G := sm_g4 (i := 103) rfl rfl
set_option maxRecDepth 100000 in
theorem gt_S : Cond.instantiable "SmokeGoesTo" 9 ∈ sm_G := sm_g1 (i := 19) rfl rfl
set_option maxRecDepth 100000 in
theorem gt_Fire : Cond.instantiable "SmokeGoesTo$Fire" 10 ∈ sm_G := sm_g1 (i := 27) rfl rfl
set_option maxRecDepth 100000 in
theorem gt_Reader : Cond.instantiable "SmokeGoesTo$Reader" 7 ∈ sm_G := sm_g1 (i := 84) rfl rfl
set_option maxRecDepth 100000 in
theorem gt_Night : Cond.instantiable "SmokeGoesTo$Night" 14 ∈ sm_G := sm_g1 (i := 117) rfl rfl
set_option maxRecDepth 100000 in
theorem gt_Odds : Cond.instantiable "SmokeGoesTo$Odds" 4 ∈ sm_G := sm_g1 (i := 171) rfl rfl
set_option maxRecDepth 100000 in
theorem gt_Text : Cond.instantiable "SmokeGoesTo$Text" 3 ∈ sm_G := sm_g1 (i := 193) rfl rfl
set_option maxRecDepth 100000 in
theorem gt_Sheet : Cond.instantiable "SmokeGoesTo$Sheet" 3 ∈ sm_G := sm_g1 (i := 208) rfl rfl
set_option maxRecDepth 100000 in
theorem gt_M : Cond.instantiable "SmokeGoesToModel" 57 ∈ sm_G := sm_g4 (i := 104) rfl rfl
set_option maxRecDepth 100000 in
theorem gs_max : Cond.static Lib.Math.max.name ∈ sm_G := sm_g2 (i := 92) rfl rfl
set_option maxRecDepth 100000 in
theorem gc_max : Cond.code Lib.Math.max.name Lib.Math.max.code 2 (some .int) ∈ sm_G := sm_g2 (i := 93) rfl rfl
set_option maxRecDepth 100000 in
theorem gs_min : Cond.static Lib.Math.min.name ∈ sm_G := sm_g2 (i := 95) rfl rfl
set_option maxRecDepth 100000 in
theorem gc_min : Cond.code Lib.Math.min.name Lib.Math.min.code 2 (some .int) ∈ sm_G := sm_g2 (i := 96) rfl rfl
set_option maxRecDepth 100000 in
theorem gs_copy : Cond.static arraycopyName ∈ sm_G := sm_g3 (i := 93) rfl rfl
set_option maxRecDepth 100000 in
theorem gq_copy : Cond.native arraycopyName ∈ sm_G := sm_g3 (i := 94) rfl rfl
set_option maxRecDepth 100000 in
theorem gi_objinit : Cond.instanceMethod Lib.objectInit ∈ sm_G := sm_g1 (i := 24) rfl rfl
set_option maxRecDepth 100000 in
theorem gc_objinit : Cond.code Lib.objectInit ⟨#[0xb1]⟩ 1 none ∈ sm_G := sm_g1 (i := 25) rfl rfl
set_option maxRecDepth 100000 in
theorem ga_int : Cond.arrayClass .int ∈ sm_G := sm_g1 (i := 82) rfl rfl
set_option maxRecDepth 100000 in
theorem ga_long : Cond.arrayClass .long ∈ sm_G := sm_g1 (i := 192) rfl rfl
set_option maxRecDepth 100000 in
theorem ga_byte : Cond.arrayClass .byte ∈ sm_G := sm_g2 (i := 212) rfl rfl
set_option maxRecDepth 100000 in
theorem ga_boolean : Cond.arrayClass .boolean ∈ sm_G := sm_g5 (i := 44) rfl rfl
theorem gm_X7_init : sm_Mt yX7_init prog_1_method_1_code 2 none 0 := ⟨gc_X7_init, gn_S, by decide +kernel⟩
theorem gm_X7_set : sm_Mt yX7_set prog_1_method_2_code 4 (some .int) 3 := ⟨gc_X7_set, gn_S, by decide +kernel⟩
theorem gm_X7_setSmoke : sm_Mt yX7_setSmoke prog_1_method_3_code 3 (some .int) 1 := ⟨gc_X7_setSmoke, gn_S, by decide +kernel⟩
theorem gm_X7_isPlace : sm_Mt yX7_isPlace prog_1_method_47_code 1 (some .boolean) 1 := ⟨gc_X7_isPlace, gn_S, by decide +kernel⟩
theorem gm_X7_setLeft : sm_Mt yX7_setLeft prog_1_method_4_code 3 (some .int) 1 := ⟨gc_X7_setLeft, gn_S, by decide +kernel⟩
theorem gm_X7_setRight : sm_Mt yX7_setRight prog_1_method_5_code 3 (some .int) 1 := ⟨gc_X7_setRight, gn_S, by decide +kernel⟩
theorem gm_X7_setTents : sm_Mt yX7_setTents prog_1_method_6_code 3 (some .int) 1 := ⟨gc_X7_setTents, gn_S, by decide +kernel⟩
theorem gm_X7_setEddy : sm_Mt yX7_setEddy prog_1_method_7_code 3 (some .int) 1 := ⟨gc_X7_setEddy, gn_S, by decide +kernel⟩
theorem gm_X7_setNumber : sm_Mt yX7_setNumber prog_1_method_8_code 4 (some .int) 2 := ⟨gc_X7_setNumber, gn_S, by decide +kernel⟩
theorem gm_X7_setPlace : sm_Mt yX7_setPlace prog_1_method_9_code 4 (some .int) 2 := ⟨gc_X7_setPlace, gn_S, by decide +kernel⟩
theorem gm_X7_sitter : sm_Mt yX7_sitter prog_1_method_10_code 4 (some .int) 3 := ⟨gc_X7_sitter, gn_S, by decide +kernel⟩
theorem gm_X7_told : sm_Mt yX7_told prog_1_method_11_code 4 (some .int) 2 := ⟨gc_X7_told, gn_S, by decide +kernel⟩
theorem gm_X7_round : sm_Mt yX7_round prog_1_method_52_code 1 (some .int) 1 := ⟨gc_X7_round, gn_S, by decide +kernel⟩
theorem gm_X7_feed : sm_Mt yX7_feed prog_1_method_12_code 2 (some .int) 1 := ⟨gc_X7_feed, gn_S, by decide +kernel⟩
theorem gm_X7_text : sm_Mt yX7_text prog_1_method_13_code 2 (some .int) 0 := ⟨gc_X7_text, gn_S, by decide +kernel⟩
theorem gm_X7_force : sm_Mt yX7_force prog_1_method_14_code 3 (some .int) 1 := ⟨gc_X7_force, gn_S, by decide +kernel⟩
theorem gm_X7_night : sm_Mt yX7_night prog_1_method_15_code 3 (some .int) 2 := ⟨gc_X7_night, gn_S, by decide +kernel⟩
theorem gm_X7_isSheet : sm_Mt yX7_isSheet prog_1_method_49_code 1 (some .boolean) 1 := ⟨gc_X7_isSheet, gn_S, by decide +kernel⟩
theorem gm_X7_isNightWhat : sm_Mt yX7_isNightWhat prog_1_method_16_code 2 (some .boolean) 1 := ⟨gc_X7_isNightWhat, gn_S, by decide +kernel⟩
theorem gm_X7_thinkAsItIs : sm_Mt yX7_thinkAsItIs prog_1_method_18_code 1 none 0 := ⟨gc_X7_thinkAsItIs, gn_S, by decide +kernel⟩
theorem gm_X7_sit : sm_Mt yX7_sit prog_1_method_17_code 3 (some .int) 1 := ⟨gc_X7_sit, gn_S, by decide +kernel⟩
theorem gm_X7_refusal : sm_Mt yX7_refusal prog_1_method_51_code 2 (some .int) 1 := ⟨gc_X7_refusal, gn_S, by decide +kernel⟩
theorem gm_X7_likely : sm_Mt yX7_likely prog_1_method_19_code 4 (some .long) 3 := ⟨gc_X7_likely, gn_S, by decide +kernel⟩
theorem gm_X7_isPart : sm_Mt yX7_isPart prog_1_method_48_code 1 (some .boolean) 1 := ⟨gc_X7_isPart, gn_S, by decide +kernel⟩
theorem gm_X7_lowest : sm_Mt yX7_lowest prog_1_method_53_code 7 (some .long) 3 := ⟨gc_X7_lowest, gn_S, by decide +kernel⟩
theorem gm_X7_commonDivisor : sm_Mt yX7_commonDivisor prog_1_method_54_code 11 (some .long) 2 := ⟨gc_X7_commonDivisor, gn_S, by decide +kernel⟩
theorem gm_X7_mean : sm_Mt yX7_mean prog_1_method_20_code 4 (some .long) 3 := ⟨gc_X7_mean, gn_S, by decide +kernel⟩
theorem gm_X7_isMeanMinutes : sm_Mt yX7_isMeanMinutes prog_1_method_50_code 1 (some .boolean) 1 := ⟨gc_X7_isMeanMinutes, gn_S, by decide +kernel⟩
theorem gm_X7_seat : sm_Mt yX7_seat prog_1_method_21_code 5 (some .int) 2 := ⟨gc_X7_seat, gn_S, by decide +kernel⟩
theorem gm_X7_gap : sm_Mt yX7_gap prog_1_method_22_code 5 (some .int) 2 := ⟨gc_X7_gap, gn_S, by decide +kernel⟩
theorem gm_X7_leastOutside : sm_Mt yX7_leastOutside prog_1_method_23_code 8 (some .int) 1 := ⟨gc_X7_leastOutside, gn_S, by decide +kernel⟩
theorem gm_X7_placeOfBit : sm_Mt yX7_placeOfBit prog_1_method_24_code 4 (some .int) 2 := ⟨gc_X7_placeOfBit, gn_S, by decide +kernel⟩
theorem gm_X7_stay : sm_Mt yX7_stay prog_1_method_25_code 6 (some .int) 1 := ⟨gc_X7_stay, gn_S, by decide +kernel⟩
theorem gm_X7_costIf : sm_Mt yX7_costIf prog_1_method_29_code 4 (some .int) 3 := ⟨gc_X7_costIf, gn_S, by decide +kernel⟩
theorem gm_X7_eddies : sm_Mt yX7_eddies prog_1_method_26_code 2 (some .int) 1 := ⟨gc_X7_eddies, gn_S, by decide +kernel⟩
theorem gm_X7_costIfEddy : sm_Mt yX7_costIfEddy prog_1_method_27_code 2 (some .int) 1 := ⟨gc_X7_costIfEddy, gn_S, by decide +kernel⟩
theorem gm_X7_best : sm_Mt yX7_best prog_1_method_28_code 8 (some .int) 3 := ⟨gc_X7_best, gn_S, by decide +kernel⟩
theorem gm_X7_eyes : sm_Mt yX7_eyes prog_1_method_30_code 5 (some .int) 3 := ⟨gc_X7_eyes, gn_S, by decide +kernel⟩
theorem gm_X7_rowsThatFit : sm_Mt yX7_rowsThatFit prog_1_method_31_code 6 (some .int) 2 := ⟨gc_X7_rowsThatFit, gn_S, by decide +kernel⟩
theorem gm_X7_rowsOf : sm_Mt yX7_rowsOf prog_1_method_34_code 3 (some .int) 1 := ⟨gc_X7_rowsOf, gn_S, by decide +kernel⟩
theorem gm_X7_fits : sm_Mt yX7_fits prog_1_method_35_code 7 (some .boolean) 5 := ⟨gc_X7_fits, gn_S, by decide +kernel⟩
theorem gm_X7_firstThatFits : sm_Mt yX7_firstThatFits prog_1_method_32_code 5 (some .int) 2 := ⟨gc_X7_firstThatFits, gn_S, by decide +kernel⟩
theorem gm_X7_kindsThatFit : sm_Mt yX7_kindsThatFit prog_1_method_33_code 8 (some .int) 3 := ⟨gc_X7_kindsThatFit, gn_S, by decide +kernel⟩
theorem gm_X7_film : sm_Mt yX7_film prog_1_method_36_code 4 (some .int) 2 := ⟨gc_X7_film, gn_S, by decide +kernel⟩
theorem gm_X7_drawn : sm_Mt yX7_drawn prog_1_method_37_code 2 (some .int) 1 := ⟨gc_X7_drawn, gn_S, by decide +kernel⟩
theorem gm_X7_chance : sm_Mt yX7_chance prog_1_method_38_code 6 (some .long) 3 := ⟨gc_X7_chance, gn_S, by decide +kernel⟩
theorem gm_X7_image : sm_Mt yX7_image prog_1_method_39_code 1 (some .int) 0 := ⟨gc_X7_image, gn_S, by decide +kernel⟩
theorem gm_X7_back : sm_Mt yX7_back prog_1_method_40_code 1 (some .int) 0 := ⟨gc_X7_back, gn_S, by decide +kernel⟩
theorem gm_X7_count : sm_Mt yX7_count prog_1_method_41_code 2 (some .int) 1 := ⟨gc_X7_count, gn_S, by decide +kernel⟩
theorem gm_X7_sheet : sm_Mt yX7_sheet prog_1_method_42_code 4 (some .int) 3 := ⟨gc_X7_sheet, gn_S, by decide +kernel⟩
theorem gm_X7_cell : sm_Mt yX7_cell prog_1_method_43_code 5 (some .int) 3 := ⟨gc_X7_cell, gn_S, by decide +kernel⟩
theorem gm_X7_copy : sm_Mt yX7_copy prog_1_method_44_code 8 (some .int) 5 := ⟨gc_X7_copy, gn_S, by decide +kernel⟩
theorem gm_X7_sitters : sm_Mt yX7_sitters prog_1_method_45_code 9 (some .int) 4 := ⟨gc_X7_sitters, gn_S, by decide +kernel⟩
theorem gm_X7_taken : sm_Mt yX7_taken prog_1_method_46_code 3 (some .int) 2 := ⟨gc_X7_taken, gn_S, by decide +kernel⟩
theorem gm_X0_init : sm_Mt yX0_init prog_2_method_1_code 1 none 0 := ⟨gc_X0_init, gn_Fire, by decide +kernel⟩
theorem gm_X0_has : sm_Mt yX0_has prog_2_method_3_code 2 (some .boolean) 1 := ⟨gc_X0_has, gn_Fire, by decide +kernel⟩
theorem gm_X0_isFreeFor : sm_Mt yX0_isFreeFor prog_2_method_6_code 4 (some .boolean) 2 := ⟨gc_X0_isFreeFor, gn_Fire, by decide +kernel⟩
theorem gm_X0_whoIsOn : sm_Mt yX0_whoIsOn prog_2_method_5_code 3 (some .int) 1 := ⟨gc_X0_whoIsOn, gn_Fire, by decide +kernel⟩
theorem gm_X0_come : sm_Mt yX0_come prog_2_method_7_code 4 (some .int) 3 := ⟨gc_X0_come, gn_Fire, by decide +kernel⟩
theorem gm_X0_become : sm_Mt yX0_become prog_2_method_2_code 2 none 1 := ⟨gc_X0_become, gn_Fire, by decide +kernel⟩
theorem gm_X0_hasTent : sm_Mt yX0_hasTent prog_2_method_4_code 2 (some .boolean) 1 := ⟨gc_X0_hasTent, gn_Fire, by decide +kernel⟩
theorem gm_X4_init : sm_Mt yX4_init prog_6_method_1_code 1 none 0 := ⟨gc_X4_init, gn_Reader, by decide +kernel⟩
theorem gm_X4_add : sm_Mt yX4_add prog_6_method_2_code 2 (some .boolean) 1 := ⟨gc_X4_add, gn_Reader, by decide +kernel⟩
theorem gm_X4_read : sm_Mt yX4_read prog_6_method_4_code 3 (some .int) 1 := ⟨gc_X4_read, gn_Reader, by decide +kernel⟩
theorem gm_X4_step : sm_Mt yX4_step prog_6_method_12_code 1 none 0 := ⟨gc_X4_step, gn_Reader, by decide +kernel⟩
theorem gm_X4_isDigit : sm_Mt yX4_isDigit prog_6_method_16_code 1 (some .boolean) 1 := ⟨gc_X4_isDigit, gn_Reader, by decide +kernel⟩
theorem gm_X4_stepNumber : sm_Mt yX4_stepNumber prog_6_method_13_code 1 none 0 := ⟨gc_X4_stepNumber, gn_Reader, by decide +kernel⟩
theorem gm_X4_isLetter : sm_Mt yX4_isLetter prog_6_method_17_code 1 (some .boolean) 1 := ⟨gc_X4_isLetter, gn_Reader, by decide +kernel⟩
theorem gm_X4_stepWord : sm_Mt yX4_stepWord prog_6_method_14_code 2 none 0 := ⟨gc_X4_stepWord, gn_Reader, by decide +kernel⟩
theorem gm_X4_isWord : sm_Mt yX4_isWord prog_6_method_15_code 4 (some .boolean) 1 := ⟨gc_X4_isWord, gn_Reader, by decide +kernel⟩
theorem gm_X4_accept : sm_Mt yX4_accept prog_6_method_5_code 2 (some .boolean) 1 := ⟨gc_X4_accept, gn_Reader, by decide +kernel⟩
theorem gm_X4_readOr : sm_Mt yX4_readOr prog_6_method_6_code 3 (some .boolean) 1 := ⟨gc_X4_readOr, gn_Reader, by decide +kernel⟩
theorem gm_X4_readAnd : sm_Mt yX4_readAnd prog_6_method_7_code 3 (some .boolean) 1 := ⟨gc_X4_readAnd, gn_Reader, by decide +kernel⟩
theorem gm_X4_readNot : sm_Mt yX4_readNot prog_6_method_8_code 3 (some .boolean) 1 := ⟨gc_X4_readNot, gn_Reader, by decide +kernel⟩
theorem gm_X4_readSum : sm_Mt yX4_readSum prog_6_method_9_code 4 (some .boolean) 1 := ⟨gc_X4_readSum, gn_Reader, by decide +kernel⟩
theorem gm_X4_readTerm : sm_Mt yX4_readTerm prog_6_method_10_code 3 (some .boolean) 1 := ⟨gc_X4_readTerm, gn_Reader, by decide +kernel⟩
theorem gm_X4_readOne : sm_Mt yX4_readOne prog_6_method_11_code 2 (some .boolean) 1 := ⟨gc_X4_readOne, gn_Reader, by decide +kernel⟩
theorem gm_X4_empty : sm_Mt yX4_empty prog_6_method_3_code 1 none 0 := ⟨gc_X4_empty, gn_Reader, by decide +kernel⟩
theorem gm_X6_init : sm_Mt yX6_init prog_8_method_1_code 1 none 0 := ⟨gc_X6_init, gn_Text, by decide +kernel⟩
theorem gm_X6_clear : sm_Mt yX6_clear prog_8_method_2_code 1 none 0 := ⟨gc_X6_clear, gn_Text, by decide +kernel⟩
theorem gm_X6_addOperator : sm_Mt yX6_addOperator prog_8_method_5_code 2 none 1 := ⟨gc_X6_addOperator, gn_Text, by decide +kernel⟩
theorem gm_X6_addNumber : sm_Mt yX6_addNumber prog_8_method_3_code 2 none 1 := ⟨gc_X6_addNumber, gn_Text, by decide +kernel⟩
theorem gm_X6_addName : sm_Mt yX6_addName prog_8_method_4_code 2 none 1 := ⟨gc_X6_addName, gn_Text, by decide +kernel⟩
theorem gm_X6_endPart : sm_Mt yX6_endPart prog_8_method_6_code 2 none 1 := ⟨gc_X6_endPart, gn_Text, by decide +kernel⟩
theorem gm_X6_value : sm_Mt yX6_value prog_8_method_7_code 8 (some .int) 3 := ⟨gc_X6_value, gn_Text, by decide +kernel⟩
theorem gm_X6_joined : sm_Mt yX6_joined prog_8_method_8_code 3 (some .int) 3 := ⟨gc_X6_joined, gn_Text, by decide +kernel⟩
theorem gm_X5_init : sm_Mt yX5_init prog_7_method_1_code 1 none 0 := ⟨gc_X5_init, gn_Sheet, by decide +kernel⟩
theorem gm_X5_isMissing : sm_Mt yX5_isMissing prog_7_method_3_code 1 (some .boolean) 0 := ⟨gc_X5_isMissing, gn_Sheet, by decide +kernel⟩
theorem gm_X5_item : sm_Mt yX5_item prog_7_method_5_code 2 (some .int) 1 := ⟨gc_X5_item, gn_Sheet, by decide +kernel⟩
theorem gm_X5_become : sm_Mt yX5_become prog_7_method_2_code 3 none 2 := ⟨gc_X5_become, gn_Sheet, by decide +kernel⟩
theorem gm_X5_put : sm_Mt yX5_put prog_7_method_6_code 3 none 2 := ⟨gc_X5_put, gn_Sheet, by decide +kernel⟩
theorem gm_X5_holds : sm_Mt yX5_holds prog_7_method_4_code 3 (some .boolean) 2 := ⟨gc_X5_holds, gn_Sheet, by decide +kernel⟩
theorem gm_X2_init : sm_Mt yX2_init prog_4_method_1_code 1 none 0 := ⟨gc_X2_init, gn_Night, by decide +kernel⟩
theorem gm_X2_takeWinds : sm_Mt yX2_takeWinds prog_4_method_2_code 4 none 1 := ⟨gc_X2_takeWinds, gn_Night, by decide +kernel⟩
theorem gm_X2_begin : sm_Mt yX2_begin prog_4_method_6_code 2 none 1 := ⟨gc_X2_begin, gn_Night, by decide +kernel⟩
theorem gm_X2_run : sm_Mt yX2_run prog_4_method_7_code 5 none 1 := ⟨gc_X2_run, gn_Night, by decide +kernel⟩
theorem gm_X2_turn : sm_Mt yX2_turn prog_4_method_8_code 3 none 1 := ⟨gc_X2_turn, gn_Night, by decide +kernel⟩
theorem gm_X2_feel : sm_Mt yX2_feel prog_4_method_9_code 4 none 3 := ⟨gc_X2_feel, gn_Night, by decide +kernel⟩
theorem gm_X2_price : sm_Mt yX2_price prog_4_method_11_code 4 (some .int) 3 := ⟨gc_X2_price, gn_Night, by decide +kernel⟩
theorem gm_X2_rise : sm_Mt yX2_rise prog_4_method_10_code 6 none 3 := ⟨gc_X2_rise, gn_Night, by decide +kernel⟩
theorem gm_X2_ofAll : sm_Mt yX2_ofAll prog_4_method_12_code 2 (some .int) 1 := ⟨gc_X2_ofAll, gn_Night, by decide +kernel⟩
theorem gm_X2_costOfAll : sm_Mt yX2_costOfAll prog_4_method_14_code 1 (some .int) 0 := ⟨gc_X2_costOfAll, gn_Night, by decide +kernel⟩
theorem gm_X2_sum : sm_Mt yX2_sum prog_4_method_16_code 3 (some .int) 1 := ⟨gc_X2_sum, gn_Night, by decide +kernel⟩
theorem gm_X2_upsOfAll : sm_Mt yX2_upsOfAll prog_4_method_15_code 1 (some .int) 0 := ⟨gc_X2_upsOfAll, gn_Night, by decide +kernel⟩
theorem gm_X2_ofOne : sm_Mt yX2_ofOne prog_4_method_13_code 3 (some .int) 2 := ⟨gc_X2_ofOne, gn_Night, by decide +kernel⟩
theorem gm_X2_takeRow : sm_Mt yX2_takeRow prog_4_method_3_code 5 none 2 := ⟨gc_X2_takeRow, gn_Night, by decide +kernel⟩
theorem gm_X2_digits : sm_Mt yX2_digits prog_4_method_5_code 3 (some .int) 0 := ⟨gc_X2_digits, gn_Night, by decide +kernel⟩
theorem gm_X2_drawWinds : sm_Mt yX2_drawWinds prog_4_method_4_code 7 none 3 := ⟨gc_X2_drawWinds, gn_Night, by decide +kernel⟩
theorem gm_X3_init : sm_Mt yX3_init prog_5_method_1_code 1 none 0 := ⟨gc_X3_init, gn_Odds, by decide +kernel⟩
theorem gm_X3_spread : sm_Mt yX3_spread prog_5_method_2_code 4 none 2 := ⟨gc_X3_spread, gn_Odds, by decide +kernel⟩
theorem gm_X3_pass : sm_Mt yX3_pass prog_5_method_3_code 4 none 2 := ⟨gc_X3_pass, gn_Odds, by decide +kernel⟩
theorem gm_X1_exists : sm_Mt yX1_exists prog_3_method_2_code 1 (some .boolean) 1 := ⟨gc_X1_exists, gn_Kind, by decide +kernel⟩
theorem gm_X1_goes : sm_Mt yX1_goes prog_3_method_6_code 3 (some .int) 3 := ⟨gc_X1_goes, gn_Kind, by decide +kernel⟩
theorem gm_X1_getsUp : sm_Mt yX1_getsUp prog_3_method_5_code 3 (some .boolean) 3 := ⟨gc_X1_getsUp, gn_Kind, by decide +kernel⟩
theorem gm_X1_bears : sm_Mt yX1_bears prog_3_method_7_code 3 (some .int) 3 := ⟨gc_X1_bears, gn_Kind, by decide +kernel⟩
theorem gm_X1_isUnder : sm_Mt yX1_isUnder prog_3_method_3_code 4 (some .boolean) 2 := ⟨gc_X1_isUnder, gn_Kind, by decide +kernel⟩
theorem gm_X1_above : sm_Mt yX1_above prog_3_method_4_code 1 (some .int) 1 := ⟨gc_X1_above, gn_Kind, by decide +kernel⟩
theorem gm_X8_init : sm_Mt yX8_init prog_10_method_5_code 1 none 0 := ⟨gc_X8_init, gn_M, by decide +kernel⟩
theorem gm_X8_spell : sm_Mt yX8_spell prog_10_method_6_code 10 none 9 := ⟨gc_X8_spell, gn_M, by decide +kernel⟩
theorem gm_X8_set : sm_Mt yX8_set prog_10_method_10_code 6 (some .int) 3 := ⟨gc_X8_set, gn_M, by decide +kernel⟩
theorem gm_X8_in : sm_Mt yX8_in prog_10_method_2_code 6 (some .boolean) 3 := ⟨gc_X8_in, gn_M, by decide +kernel⟩
theorem gm_X8_isSitter : sm_Mt yX8_isSitter prog_10_method_7_code 2 (some .boolean) 1 := ⟨gc_X8_isSitter, gn_M, by decide +kernel⟩
theorem gm_X8_onPlace : sm_Mt yX8_onPlace prog_10_method_9_code 4 (some .int) 2 := ⟨gc_X8_onPlace, gn_M, by decide +kernel⟩
theorem gm_X8_sitter : sm_Mt yX8_sitter prog_10_method_11_code 4 (some .int) 3 := ⟨gc_X8_sitter, gn_M, by decide +kernel⟩
theorem gm_X8_isPlace : sm_Mt yX8_isPlace prog_10_method_8_code 1 (some .boolean) 1 := ⟨gc_X8_isPlace, gn_M, by decide +kernel⟩
theorem gm_X8_told : sm_Mt yX8_told prog_10_method_14_code 3 (some .int) 2 := ⟨gc_X8_told, gn_M, by decide +kernel⟩
theorem gm_X8_goesTo : sm_Mt yX8_goesTo prog_10_method_13_code 5 (some .int) 3 := ⟨gc_X8_goesTo, gn_M, by decide +kernel⟩
theorem gm_X8_round : sm_Mt yX8_round prog_10_method_4_code 1 (some .int) 1 := ⟨gc_X8_round, gn_M, by decide +kernel⟩
theorem gm_X8_getsUp : sm_Mt yX8_getsUp prog_10_method_12_code 4 (some .boolean) 2 := ⟨gc_X8_getsUp, gn_M, by decide +kernel⟩
theorem gm_X8_feed : sm_Mt yX8_feed prog_10_method_15_code 2 (some .int) 1 := ⟨gc_X8_feed, gn_M, by decide +kernel⟩
theorem gm_X8_text : sm_Mt yX8_text prog_10_method_32_code 2 (some .int) 0 := ⟨gc_X8_text, gn_M, by decide +kernel⟩
theorem gm_X8_read : sm_Mt yX8_read prog_10_method_31_code 6 (some .int) 2 := ⟨gc_X8_read, gn_M, by decide +kernel⟩
theorem gm_X8_next : sm_Mt yX8_next prog_10_method_17_code 3 none 0 := ⟨gc_X8_next, gn_M, by decide +kernel⟩
theorem gm_X8_byteAt : sm_Mt yX8_byteAt prog_10_method_16_code 2 (some .int) 1 := ⟨gc_X8_byteAt, gn_M, by decide +kernel⟩
theorem gm_X8_isWord : sm_Mt yX8_isWord prog_10_method_20_code 9 (some .boolean) 8 := ⟨gc_X8_isWord, gn_M, by decide +kernel⟩
theorem gm_X8_isLetter : sm_Mt yX8_isLetter prog_10_method_19_code 3 (some .boolean) 2 := ⟨gc_X8_isLetter, gn_M, by decide +kernel⟩
theorem gm_X8_part : sm_Mt yX8_part prog_10_method_30_code 3 (some .int) 1 := ⟨gc_X8_part, gn_M, by decide +kernel⟩
theorem gm_X8_fail : sm_Mt yX8_fail prog_10_method_18_code 1 none 0 := ⟨gc_X8_fail, gn_M, by decide +kernel⟩
theorem gm_X8_either : sm_Mt yX8_either prog_10_method_29_code 3 (some .int) 0 := ⟨gc_X8_either, gn_M, by decide +kernel⟩
theorem gm_X8_both : sm_Mt yX8_both prog_10_method_28_code 3 (some .int) 0 := ⟨gc_X8_both, gn_M, by decide +kernel⟩
theorem gm_X8_not : sm_Mt yX8_not prog_10_method_27_code 4 (some .int) 0 := ⟨gc_X8_not, gn_M, by decide +kernel⟩
theorem gm_X8_opens : sm_Mt yX8_opens prog_10_method_22_code 1 (some .boolean) 0 := ⟨gc_X8_opens, gn_M, by decide +kernel⟩
theorem gm_X8_added : sm_Mt yX8_added prog_10_method_26_code 4 (some .int) 0 := ⟨gc_X8_added, gn_M, by decide +kernel⟩
theorem gm_X8_term : sm_Mt yX8_term prog_10_method_25_code 2 (some .int) 0 := ⟨gc_X8_term, gn_M, by decide +kernel⟩
theorem gm_X8_atom : sm_Mt yX8_atom prog_10_method_24_code 2 (some .int) 0 := ⟨gc_X8_atom, gn_M, by decide +kernel⟩
theorem gm_X8_isSign : sm_Mt yX8_isSign prog_10_method_21_code 2 (some .boolean) 1 := ⟨gc_X8_isSign, gn_M, by decide +kernel⟩
theorem gm_X8_name : sm_Mt yX8_name prog_10_method_23_code 1 (some .int) 0 := ⟨gc_X8_name, gn_M, by decide +kernel⟩
theorem gm_X8_force : sm_Mt yX8_force prog_10_method_33_code 3 (some .int) 1 := ⟨gc_X8_force, gn_M, by decide +kernel⟩
theorem gm_X8_night : sm_Mt yX8_night prog_10_method_46_code 5 (some .int) 2 := ⟨gc_X8_night, gn_M, by decide +kernel⟩
theorem gm_X8_isSheet : sm_Mt yX8_isSheet prog_10_method_67_code 1 (some .boolean) 1 := ⟨gc_X8_isSheet, gn_M, by decide +kernel⟩
theorem gm_X8_layAside : sm_Mt yX8_layAside prog_10_method_40_code 2 none 0 := ⟨gc_X8_layAside, gn_M, by decide +kernel⟩
theorem gm_X8_nights : sm_Mt yX8_nights prog_10_method_43_code 3 none 1 := ⟨gc_X8_nights, gn_M, by decide +kernel⟩
theorem gm_X8_begins : sm_Mt yX8_begins prog_10_method_36_code 2 none 0 := ⟨gc_X8_begins, gn_M, by decide +kernel⟩
theorem gm_X8_windOf : sm_Mt yX8_windOf prog_10_method_42_code 1 (some .int) 1 := ⟨gc_X8_windOf, gn_M, by decide +kernel⟩
theorem gm_X8_passes : sm_Mt yX8_passes prog_10_method_39_code 6 none 2 := ⟨gc_X8_passes, gn_M, by decide +kernel⟩
theorem gm_X8_turns : sm_Mt yX8_turns prog_10_method_37_code 4 none 1 := ⟨gc_X8_turns, gn_M, by decide +kernel⟩
theorem gm_X8_bearsOf : sm_Mt yX8_bearsOf prog_10_method_35_code 7 (some .int) 3 := ⟨gc_X8_bearsOf, gn_M, by decide +kernel⟩
theorem gm_X8_says : sm_Mt yX8_says prog_10_method_34_code 5 (some .int) 4 := ⟨gc_X8_says, gn_M, by decide +kernel⟩
theorem gm_X8_within : sm_Mt yX8_within prog_10_method_3_code 3 (some .int) 3 := ⟨gc_X8_within, gn_M, by decide +kernel⟩
theorem gm_X8_firstFree : sm_Mt yX8_firstFree prog_10_method_38_code 4 (some .int) 2 := ⟨gc_X8_firstFree, gn_M, by decide +kernel⟩
theorem gm_X8_sumOf : sm_Mt yX8_sumOf prog_10_method_44_code 4 (some .int) 1 := ⟨gc_X8_sumOf, gn_M, by decide +kernel⟩
theorem gm_X8_takeBack : sm_Mt yX8_takeBack prog_10_method_41_code 2 none 0 := ⟨gc_X8_takeBack, gn_M, by decide +kernel⟩
theorem gm_X8_sit : sm_Mt yX8_sit prog_10_method_47_code 2 (some .int) 1 := ⟨gc_X8_sit, gn_M, by decide +kernel⟩
theorem gm_X8_likely : sm_Mt yX8_likely prog_10_method_50_code 4 (some .long) 3 := ⟨gc_X8_likely, gn_M, by decide +kernel⟩
theorem gm_X8_spreads : sm_Mt yX8_spreads prog_10_method_48_code 4 none 1 := ⟨gc_X8_spreads, gn_M, by decide +kernel⟩
theorem gm_X8_lowest : sm_Mt yX8_lowest prog_10_method_49_code 11 (some .long) 3 := ⟨gc_X8_lowest, gn_M, by decide +kernel⟩
theorem gm_X8_mean : sm_Mt yX8_mean prog_10_method_51_code 4 (some .long) 3 := ⟨gc_X8_mean, gn_M, by decide +kernel⟩
theorem gm_X8_seat : sm_Mt yX8_seat prog_10_method_52_code 6 (some .int) 2 := ⟨gc_X8_seat, gn_M, by decide +kernel⟩
theorem gm_X8_gap : sm_Mt yX8_gap prog_10_method_54_code 3 (some .int) 2 := ⟨gc_X8_gap, gn_M, by decide +kernel⟩
theorem gm_X8_seatsFrom : sm_Mt yX8_seatsFrom prog_10_method_53_code 6 none 3 := ⟨gc_X8_seatsFrom, gn_M, by decide +kernel⟩
theorem gm_X8_stay : sm_Mt yX8_stay prog_10_method_55_code 6 (some .int) 1 := ⟨gc_X8_stay, gn_M, by decide +kernel⟩
theorem gm_X8_costOf : sm_Mt yX8_costOf prog_10_method_45_code 2 (some .int) 1 := ⟨gc_X8_costOf, gn_M, by decide +kernel⟩
theorem gm_X8_eddies : sm_Mt yX8_eddies prog_10_method_56_code 5 (some .int) 1 := ⟨gc_X8_eddies, gn_M, by decide +kernel⟩
theorem gm_X8_best : sm_Mt yX8_best prog_10_method_57_code 8 (some .int) 3 := ⟨gc_X8_best, gn_M, by decide +kernel⟩
theorem gm_X8_eyes : sm_Mt yX8_eyes prog_10_method_59_code 7 (some .int) 3 := ⟨gc_X8_eyes, gn_M, by decide +kernel⟩
theorem gm_X8_rowsOf : sm_Mt yX8_rowsOf prog_10_method_58_code 9 none 2 := ⟨gc_X8_rowsOf, gn_M, by decide +kernel⟩
theorem gm_X8_film : sm_Mt yX8_film prog_10_method_60_code 4 (some .int) 2 := ⟨gc_X8_film, gn_M, by decide +kernel⟩
theorem gm_X8_sheet : sm_Mt yX8_sheet prog_10_method_68_code 5 (some .int) 3 := ⟨gc_X8_sheet, gn_M, by decide +kernel⟩
theorem gm_X8_drawn : sm_Mt yX8_drawn prog_10_method_62_code 2 (some .int) 1 := ⟨gc_X8_drawn, gn_M, by decide +kernel⟩
theorem gm_X8_draws : sm_Mt yX8_draws prog_10_method_61_code 5 (some .int) 1 := ⟨gc_X8_draws, gn_M, by decide +kernel⟩
theorem gm_X8_chance : sm_Mt yX8_chance prog_10_method_63_code 7 (some .long) 3 := ⟨gc_X8_chance, gn_M, by decide +kernel⟩
theorem gm_X8_image : sm_Mt yX8_image prog_10_method_64_code 2 (some .int) 0 := ⟨gc_X8_image, gn_M, by decide +kernel⟩
theorem gm_X8_back : sm_Mt yX8_back prog_10_method_65_code 2 (some .int) 0 := ⟨gc_X8_back, gn_M, by decide +kernel⟩
theorem gm_X8_count : sm_Mt yX8_count prog_10_method_66_code 2 (some .int) 1 := ⟨gc_X8_count, gn_M, by decide +kernel⟩
theorem gm_X8_cell : sm_Mt yX8_cell prog_10_method_69_code 4 (some .int) 3 := ⟨gc_X8_cell, gn_M, by decide +kernel⟩
theorem gm_X8_copy : sm_Mt yX8_copy prog_10_method_70_code 9 (some .int) 5 := ⟨gc_X8_copy, gn_M, by decide +kernel⟩
theorem gm_X8_sitters : sm_Mt yX8_sitters prog_10_method_71_code 8 (some .int) 4 := ⟨gc_X8_sitters, gn_M, by decide +kernel⟩
theorem gm_X8_taken : sm_Mt yX8_taken prog_10_method_73_code 4 (some .int) 2 := ⟨gc_X8_taken, gn_M, by decide +kernel⟩
theorem gm_X8_over : sm_Mt yX8_over prog_10_method_72_code 1 (some .int) 1 := ⟨gc_X8_over, gn_M, by decide +kernel⟩
theorem gm_J0_length_8abf5 : sm_Mt yJ0_length_8abf5 prog_13_method_54_code 1 (some .int) 0 := ⟨gc_J0_length_8abf5, gn_String, by decide +kernel⟩
theorem gm_J0_coder_7d493 : sm_Mt yJ0_coder_7d493 prog_13_method_152_code 1 (some .byte) 0 := ⟨gc_J0_coder_7d493, gn_String, by decide +kernel⟩
theorem gm_J0_charAt_5068e : sm_Mt yJ0_charAt_5068e prog_13_method_56_code 2 (some .char) 1 := ⟨gc_J0_charAt_5068e, gn_String, by decide +kernel⟩
theorem gm_J0_isLatin1_aae02 : sm_Mt yJ0_isLatin1_aae02 prog_13_method_154_code 1 (some .boolean) 0 := ⟨gc_J0_isLatin1_aae02, gn_String, by decide +kernel⟩
theorem gm_J1_charAt_3b067 : sm_Mt yJ1_charAt_3b067 prog_14_method_2_code 2 (some .char) 2 := ⟨gc_J1_charAt_3b067, gn_Latin, by decide +kernel⟩
theorem gm_J0_checkIndex_df160 : sm_Mt yJ0_checkIndex_df160 prog_13_method_155_code 2 none 2 := ⟨gc_J0_checkIndex_df160, gn_String, by decide +kernel⟩
theorem gm_J3_checkIndex_8e157 : sm_Mt yJ3_checkIndex_8e157 prog_18_method_11_code 3 (some .int) 3 := ⟨gc_J3_checkIndex_8e157, gn_Pre, by decide +kernel⟩
theorem gm_J7_fill_53178 : sm_Mt yJ7_fill_53178 prog_17_method_103_code 4 none 2 := ⟨gc_J7_fill_53178, gn_Arrays, by decide +kernel⟩
theorem gm_J7_fill_d0a16 : sm_Mt yJ7_fill_d0a16 prog_17_method_101_code 5 none 2 := ⟨gc_J7_fill_d0a16, gn_Arrays, by decide +kernel⟩
theorem gm_J0_indexOf_0f7a4 : sm_Mt yJ0_indexOf_0f7a4 prog_13_method_79_code 2 (some .int) 1 := ⟨gc_J0_indexOf_0f7a4, gn_String, by decide +kernel⟩
theorem gm_J0_indexOf_7cf53 : sm_Mt yJ0_indexOf_7cf53 prog_13_method_80_code 3 (some .int) 2 := ⟨gc_J0_indexOf_7cf53, gn_String, by decide +kernel⟩
theorem gm_J1_indexOf_4cfef : sm_Mt yJ1_indexOf_4cfef prog_14_method_22_code 4 (some .int) 4 := ⟨gc_J1_indexOf_4cfef, gn_Latin, by decide +kernel⟩
theorem gm_J1_canEncode_9a6ad : sm_Mt yJ1_canEncode_9a6ad prog_14_method_4_code 1 (some .boolean) 1 := ⟨gc_J1_canEncode_9a6ad, gn_Latin, by decide +kernel⟩
theorem gm_J1_indexOfChar_4cfef : sm_Mt yJ1_indexOfChar_4cfef prog_14_method_23_code 6 (some .int) 4 := ⟨gc_J1_indexOfChar_4cfef, gn_Latin, by decide +kernel⟩
