/-! the law's words, and where the tables have them -/
def wsL_law_r1 : List Cond := [Cond.classLink RL 7 RX7, Cond.instantiable RX7 10, Cond.initialized RX7, Cond.classLink RL 10 RX8, Cond.instantiable RX8 17, Cond.initialized RX8, Cond.methodLink RL 9 yX7_init, Cond.instanceMethod yX7_init, Cond.code yX7_init cX7_init 1 none, Cond.methodLink RX7 1 objectInit, Cond.instanceMethod objectInit, Cond.code objectInit ⟨#[0xb1]⟩ 1 none, Cond.classLink RX7 7 RX5, Cond.instantiable RX5 3, Cond.initialized RX5, Cond.fieldLink RX7 14 "IronedQuarrels" "rows" "LIronedQuarrels$Shelf;", Cond.fieldLink RX7 18 "IronedQuarrels" "texts" "LIronedQuarrels$Shelf;", Cond.classLink RX7 21 RX1, Cond.instantiable RX1 10, Cond.initialized RX1, Cond.fieldLink RX7 24 "IronedQuarrels" "heap" "LIronedQuarrels$Heap;", Cond.fieldLink RX7 28 "IronedQuarrels" "draft" "LIronedQuarrels$Heap;", Cond.fieldLink RX7 31 "IronedQuarrels" "kept" "[LIronedQuarrels$Heap;", Cond.classLink RX7 35 RX2]
def wsL_law_r2 : List Cond := [Cond.instantiable RX2 3, Cond.initialized RX2, Cond.fieldLink RX7 38 "IronedQuarrels" "ironing" "LIronedQuarrels$Ironing;", Cond.classLink RX7 42 RX0, Cond.instantiable RX0 1, Cond.initialized RX0, Cond.fieldLink RX7 45 "IronedQuarrels" "company" "LIronedQuarrels$Company;", Cond.classLink RX7 49 RX4, Cond.instantiable RX4 2, Cond.initialized RX4, Cond.fieldLink RX7 52 "IronedQuarrels" "share" "LIronedQuarrels$Share;", Cond.classLink RX7 56 RX6, Cond.instantiable RX6 2, Cond.initialized RX6, Cond.fieldLink RX7 59 "IronedQuarrels" "tally" "LIronedQuarrels$Tally;", Cond.fieldLink RX7 63 "IronedQuarrels" "lastTold" "I", Cond.methodLink RX7 11 yX5_init, Cond.instanceMethod yX5_init, Cond.code yX5_init cX5_init 3 none, Cond.methodLink RX5 3 objectInit, Cond.fieldLink RX5 9 "IronedQuarrels$Shelf" "width" "I", Cond.arrayClass .int, Cond.fieldLink RX5 15 "IronedQuarrels$Shelf" "sizes" "[I", Cond.fieldLink RX5 19 "IronedQuarrels$Shelf" "cells" "[I"]
def wsL_law_r3 : List Cond := [Cond.methodLink RX5 22 yJ7_fill_53178, Cond.static yJ7_fill_53178, Cond.initialized RJ7, Cond.code yJ7_fill_53178 cJ7_fill_53178 4 none, Cond.instanceMethod yX1_init, Cond.code yX1_init cX1_init 1 none, Cond.methodLink RX1 3 objectInit, Cond.fieldLink RX1 9 "IronedQuarrels$Heap" "kinds" "[I", Cond.fieldLink RX1 15 "IronedQuarrels$Heap" "whos" "[I", Cond.fieldLink RX1 18 "IronedQuarrels$Heap" "toWhoms" "[I", Cond.fieldLink RX1 21 "IronedQuarrels$Heap" "topics" "[I", Cond.fieldLink RX1 24 "IronedQuarrels$Heap" "weights" "[I", Cond.fieldLink RX1 27 "IronedQuarrels$Heap" "answered" "[I", Cond.fieldLink RX1 30 "IronedQuarrels$Heap" "deeds" "[I", Cond.fieldLink RX1 33 "IronedQuarrels$Heap" "size" "I", Cond.fieldLink RX1 37 "IronedQuarrels$Heap" "saidBits" "I", Cond.fieldLink RX1 40 "IronedQuarrels$Heap" "deedCount" "I", Cond.instanceMethod yX2_init, Cond.code yX2_init cX2_init 1 none, Cond.methodLink RX2 3 objectInit, Cond.fieldLink RX2 9 "IronedQuarrels$Ironing" "least" "[I", Cond.fieldLink RX2 15 "IronedQuarrels$Ironing" "others" "[I", Cond.fieldLink RX2 18 "IronedQuarrels$Ironing" "holders" "[I", Cond.instanceMethod yX0_init]
def wsL_law_r4 : List Cond := [Cond.code yX0_init cX0_init 1 none, Cond.methodLink RX0 3 objectInit, Cond.fieldLink RX0 9 "IronedQuarrels$Company" "tells" "[I", Cond.instanceMethod yX4_init, Cond.code yX4_init cX4_init 1 none, Cond.methodLink RX4 1 objectInit, Cond.fieldLink RX4 7 "IronedQuarrels$Share" "top" "J", Cond.fieldLink RX4 13 "IronedQuarrels$Share" "bottom" "J", Cond.instanceMethod yX6_init, Cond.code yX6_init cX6_init 1 none, Cond.methodLink RX6 3 objectInit, Cond.fieldLink RX6 9 "IronedQuarrels$Tally" "often" "[I", Cond.fieldLink RX6 15 "IronedQuarrels$Tally" "latest" "I", Cond.methodLink RL 12 yX8_init, Cond.instanceMethod yX8_init, Cond.code yX8_init cX8_init 2 none, Cond.methodLink RX8 1 objectInit, Cond.fieldLink RX8 7 "IronedQuarrelsModel" "rowSizes" "[I", Cond.fieldLink RX8 13 "IronedQuarrelsModel" "rows" "[I", Cond.fieldLink RX8 16 "IronedQuarrelsModel" "textSizes" "[I", Cond.fieldLink RX8 19 "IronedQuarrelsModel" "texts" "[I", Cond.fieldLink RX8 22 "IronedQuarrelsModel" "now" "[I", Cond.fieldLink RX8 25 "IronedQuarrelsModel" "keeps" "[I", Cond.arrayClass .boolean]
def wsL_law_r5 : List Cond := [Cond.fieldLink RX8 28 "IronedQuarrelsModel" "kept" "[Z", Cond.fieldLink RX8 32 "IronedQuarrelsModel" "lower" "J", Cond.fieldLink RX8 36 "IronedQuarrelsModel" "findings" "[I", Cond.fieldLink RX8 39 "IronedQuarrelsModel" "read" "[I", Cond.fieldLink RX8 42 "IronedQuarrelsModel" "costs" "[I", Cond.arrayClass .long, Cond.fieldLink RX8 45 "IronedQuarrelsModel" "ways" "[J", Cond.fieldLink RX8 49 "IronedQuarrelsModel" "reach" "[I", Cond.methodLink RL 13 yX7_row, Cond.instanceMethod yX7_row, Cond.selects RX7 yX7_row yX7_row, Cond.code yX7_row cX7_row 3 (some .int), Cond.methodLink RX7 67 yX5_hasNumber, Cond.instanceMethod yX5_hasNumber, Cond.selects RX5 yX5_hasNumber yX5_hasNumber, Cond.code yX5_hasNumber cX5_hasNumber 2 (some .boolean), Cond.methodLink RX7 71 yX6_note, Cond.instanceMethod yX6_note, Cond.selects RX6 yX6_note yX6_note, Cond.code yX6_note cX6_note 2 (some .int), Cond.methodLink RX7 75 yX5_makeAnew, Cond.instanceMethod yX5_makeAnew, Cond.selects RX5 yX5_makeAnew yX5_makeAnew, Cond.code yX5_makeAnew cX5_makeAnew 4 none]
def wsL_law_r6 : List Cond := [Cond.methodLink RX5 28 yJ7_fill_fda19, Cond.static yJ7_fill_fda19, Cond.code yJ7_fill_fda19 cJ7_fill_fda19 5 none, Cond.methodLink RJ7 13 yJ7_rangeCheck_23922, Cond.static yJ7_rangeCheck_23922, Cond.code yJ7_rangeCheck_23922 cJ7_rangeCheck_23922 3 none, Cond.methodLink RL 17 yX8_row, Cond.instanceMethod yX8_row, Cond.selects RX8 yX8_row yX8_row, Cond.code yX8_row cX8_row 4 (some .int), Cond.methodLink RX8 67 yX8_isRow, Cond.static yX8_isRow, Cond.code yX8_isRow cX8_isRow 1 (some .boolean), Cond.constantLong RX8 59 (5), Cond.methodLink RX8 61 yX8_in, Cond.static yX8_in, Cond.code yX8_in cX8_in 6 (some .boolean), Cond.methodLink RX8 71 yX8_found, Cond.instanceMethod yX8_found, Cond.selects RX8 yX8_found yX8_found, Cond.code yX8_found cX8_found 2 (some .int), Cond.fieldLink RX8 52 "IronedQuarrelsModel" "finding" "I", Cond.methodLink RL 18 yX7_lay, Cond.instanceMethod yX7_lay]
def wsL_law_r7 : List Cond := [Cond.selects RX7 yX7_lay yX7_lay, Cond.code yX7_lay cX7_lay 5 (some .int), Cond.methodLink RX7 79 yX7_refusalOfPlace, Cond.instanceMethod yX7_refusalOfPlace, Cond.selects RX7 yX7_refusalOfPlace yX7_refusalOfPlace, Cond.code yX7_refusalOfPlace cX7_refusalOfPlace 5 (some .int), Cond.methodLink RX7 90 yX7_refusalOfShelf, Cond.instanceMethod yX7_refusalOfShelf, Cond.selects RX7 yX7_refusalOfShelf yX7_refusalOfShelf, Cond.code yX7_refusalOfShelf cX7_refusalOfShelf 3 (some .int), Cond.methodLink RX7 98 yX5_isThere, Cond.instanceMethod yX5_isThere, Cond.selects RX5 yX5_isThere yX5_isThere, Cond.code yX5_isThere cX5_isThere 2 (some .boolean), Cond.methodLink RX7 319 yX5_hasPlace, Cond.instanceMethod yX5_hasPlace, Cond.selects RX5 yX5_hasPlace yX5_hasPlace, Cond.code yX5_hasPlace cX5_hasPlace 3 (some .boolean), Cond.methodLink RX7 83 yX5_cell, Cond.instanceMethod yX5_cell, Cond.selects RX5 yX5_cell yX5_cell, Cond.code yX5_cell cX5_cell 3 (some .int), Cond.methodLink RX7 87 yX5_setCell, Cond.instanceMethod yX5_setCell]
def wsL_law_r8 : List Cond := [Cond.selects RX5 yX5_setCell yX5_setCell, Cond.code yX5_setCell cX5_setCell 4 none, Cond.methodLink RL 22 yX8_lay, Cond.instanceMethod yX8_lay, Cond.selects RX8 yX8_lay yX8_lay, Cond.code yX8_lay cX8_lay 5 (some .int), Cond.methodLink RX8 75 yX8_tell, Cond.instanceMethod yX8_tell, Cond.selects RX8 yX8_tell yX8_tell, Cond.code yX8_tell cX8_tell 2 (some .int), Cond.fieldLink RX8 56 "IronedQuarrelsModel" "asked" "I", Cond.methodLink RL 23 yX7_at, Cond.instanceMethod yX7_at, Cond.selects RX7 yX7_at yX7_at, Cond.code yX7_at cX7_at 4 (some .int), Cond.methodLink RL 26 yX8_at, Cond.instanceMethod yX8_at, Cond.selects RX8 yX8_at yX8_at, Cond.code yX8_at cX8_at 3 (some .int), Cond.methodLink RL 27 yX7_tear, Cond.instanceMethod yX7_tear, Cond.selects RX7 yX7_tear yX7_tear, Cond.code yX7_tear cX7_tear 3 (some .int), Cond.methodLink RX7 94 yX5_drop]
def wsL_law_r9 : List Cond := [Cond.instanceMethod yX5_drop, Cond.selects RX5 yX5_drop yX5_drop, Cond.code yX5_drop cX5_drop 2 none, Cond.methodLink RL 31 yX8_tear, Cond.instanceMethod yX8_tear, Cond.selects RX8 yX8_tear yX8_tear, Cond.code yX8_tear cX8_tear 2 (some .int), Cond.methodLink RL 32 yX7_copy, Cond.instanceMethod yX7_copy, Cond.selects RX7 yX7_copy yX7_copy, Cond.code yX7_copy cX7_copy 6 (some .int), Cond.methodLink RX7 101 yX5_reaches, Cond.instanceMethod yX5_reaches, Cond.selects RX5 yX5_reaches yX5_reaches, Cond.code yX5_reaches cX5_reaches 4 (some .boolean), Cond.methodLink RX7 105 yX5_move, Cond.instanceMethod yX5_move, Cond.selects RX5 yX5_move yX5_move, Cond.code yX5_move cX5_move 6 none, Cond.methodLink RX5 31 arraycopyName, Cond.native arraycopyName, Cond.static arraycopyName, Cond.initialized "java/lang/System", Cond.methodLink RL 36 yX8_copy]
def wsL_law_r10 : List Cond := [Cond.instanceMethod yX8_copy, Cond.selects RX8 yX8_copy yX8_copy, Cond.code yX8_copy cX8_copy 8 (some .int), Cond.methodLink RL 37 yX7_mean, Cond.instanceMethod yX7_mean, Cond.selects RX7 yX7_mean yX7_mean, Cond.code yX7_mean cX7_mean 4 (some .int), Cond.methodLink RX7 109 yX5_sizeOf, Cond.instanceMethod yX5_sizeOf, Cond.selects RX5 yX5_sizeOf yX5_sizeOf, Cond.code yX5_sizeOf cX5_sizeOf 2 (some .int), Cond.methodLink RX7 112 yX5_sumOf, Cond.instanceMethod yX5_sumOf, Cond.selects RX5 yX5_sumOf yX5_sumOf, Cond.code yX5_sumOf cX5_sumOf 5 (some .long), Cond.methodLink RX5 37 yX5_cell, Cond.methodLink RL 40 yX8_mean, Cond.instanceMethod yX8_mean, Cond.selects RX8 yX8_mean yX8_mean, Cond.code yX8_mean cX8_mean 5 (some .int), Cond.methodLink RL 41 yX7_text, Cond.instanceMethod yX7_text, Cond.selects RX7 yX7_text yX7_text, Cond.code yX7_text cX7_text 3 (some .int)]
def wsL_law_r11 : List Cond := [Cond.methodLink RL 44 yX8_text, Cond.instanceMethod yX8_text, Cond.selects RX8 yX8_text yX8_text, Cond.code yX8_text cX8_text 4 (some .int), Cond.methodLink RX8 78 yX8_isText, Cond.static yX8_isText, Cond.code yX8_isText cX8_isText 1 (some .boolean), Cond.constantLong RX8 65 (3), Cond.methodLink RL 45 yX7_put, Cond.instanceMethod yX7_put, Cond.selects RX7 yX7_put yX7_put, Cond.code yX7_put cX7_put 6 (some .int), Cond.methodLink RL 48 yX8_put, Cond.instanceMethod yX8_put, Cond.selects RX8 yX8_put yX8_put, Cond.code yX8_put cX8_put 5 (some .int), Cond.methodLink RL 49 yX7_fault, Cond.instanceMethod yX7_fault, Cond.selects RX7 yX7_fault yX7_fault, Cond.code yX7_fault cX7_fault 3 (some .int), Cond.methodLink RX7 116 yX3_readInto, Cond.static yX3_readInto, Cond.initialized RX3, Cond.code yX3_readInto cX3_readInto 6 (some .int)]
def wsL_law_r12 : List Cond := [Cond.methodLink RX3 9 yX1_empty, Cond.instanceMethod yX1_empty, Cond.selects RX1 yX1_empty yX1_empty, Cond.code yX1_empty cX1_empty 1 none, Cond.methodLink RX3 14 yX5_sizeOf, Cond.methodLink RX3 20 yX5_cell, Cond.methodLink RX3 24 yX3_readItem, Cond.static yX3_readItem, Cond.code yX3_readItem cX3_readItem 10 (some .int), Cond.methodLink RX3 32 yJ0_length_8abf5, Cond.instanceMethod yJ0_length_8abf5, Cond.selects RJ0 yJ0_length_8abf5 yJ0_length_8abf5, Cond.initialized RJ0, Cond.code yJ0_length_8abf5 cJ0_length_8abf5 1 (some .int), Cond.fieldLink RJ0 9 "java/lang/String" "value" "[B", Cond.methodLink RJ0 335 yJ0_coder_7d493, Cond.instanceMethod yJ0_coder_7d493, Cond.selects RJ0 yJ0_coder_7d493 yJ0_coder_7d493, Cond.code yJ0_coder_7d493 cJ0_coder_7d493 1 (some .byte), Cond.fieldLink RJ0 38 "java/lang/String" "COMPACT_STRINGS" "Z", Cond.fieldLink RJ0 15 "java/lang/String" "coder" "B", Cond.methodLink RX3 38 yJ0_charAt_5068e, Cond.instanceMethod yJ0_charAt_5068e, Cond.selects RJ0 yJ0_charAt_5068e yJ0_charAt_5068e]
def wsL_law_r13 : List Cond := [Cond.code yJ0_charAt_5068e cJ0_charAt_5068e 2 (some .char), Cond.methodLink RJ0 492 yJ0_isLatin1_aae02, Cond.instanceMethod yJ0_isLatin1_aae02, Cond.selects RJ0 yJ0_isLatin1_aae02 yJ0_isLatin1_aae02, Cond.code yJ0_isLatin1_aae02 cJ0_isLatin1_aae02 1 (some .boolean), Cond.methodLink RJ0 495 yJ1_charAt_3b067, Cond.static yJ1_charAt_3b067, Cond.initialized RJ1, Cond.code yJ1_charAt_3b067 cJ1_charAt_3b067 2 (some .char), Cond.methodLink RJ1 9 yJ0_checkIndex_df160, Cond.static yJ0_checkIndex_df160, Cond.code yJ0_checkIndex_df160 cJ0_checkIndex_df160 2 none, Cond.fieldLink RJ0 1053 "jdk/internal/util/Preconditions" "SIOOBE_FORMATTER" "Ljava/util/function/BiFunction;", Cond.methodLink RJ0 1059 yJ3_checkIndex_8e157, Cond.static yJ3_checkIndex_8e157, Cond.initialized RJ3, Cond.code yJ3_checkIndex_8e157 cJ3_checkIndex_8e157 3 (some .int), Cond.methodLink RJ0 498 yJ2_charAt_3b067, Cond.static yJ2_charAt_3b067, Cond.initialized RJ2, Cond.code yJ2_charAt_3b067 cJ2_charAt_3b067 2 (some .char), Cond.methodLink RJ2 67 yJ2_checkIndex_2214a, Cond.static yJ2_checkIndex_2214a, Cond.code yJ2_checkIndex_2214a cJ2_checkIndex_2214a 2 none]
def wsL_law_r14 : List Cond := [Cond.methodLink RJ2 48 yJ2_length_9d52b, Cond.static yJ2_length_9d52b, Cond.code yJ2_length_9d52b cJ2_length_9d52b 1 (some .int), Cond.methodLink RJ2 414 yJ0_checkIndex_df160, Cond.methodLink RJ2 71 yJ2_getChar_3b067, Cond.static yJ2_getChar_3b067, Cond.code yJ2_getChar_3b067 cJ2_getChar_3b067 2 (some .char), Cond.fieldLink RJ2 44 "java/lang/StringUTF16" "$assertionsDisabled" "Z", Cond.fieldLink RJ2 59 "java/lang/StringUTF16" "HI_BYTE_SHIFT" "I", Cond.fieldLink RJ2 63 "java/lang/StringUTF16" "LO_BYTE_SHIFT" "I", Cond.methodLink RX3 42 yX3_signAt, Cond.static yX3_signAt, Cond.code yX3_signAt cX3_signAt 3 (some .int), Cond.methodLink RX3 61 yX5_hasPlace, Cond.methodLink RX3 46 yX1_isFull, Cond.instanceMethod yX1_isFull, Cond.selects RX1 yX1_isFull yX1_isFull, Cond.code yX1_isFull cX1_isFull 1 (some .boolean), Cond.methodLink RX3 50 yX3_figureAt, Cond.static yX3_figureAt, Cond.code yX3_figureAt cX3_figureAt 4 (some .int), Cond.methodLink RX3 53 yX1_hasNumber, Cond.instanceMethod yX1_hasNumber, Cond.selects RX1 yX1_hasNumber yX1_hasNumber]
def wsL_law_r15 : List Cond := [Cond.code yX1_hasNumber cX1_hasNumber 2 (some .boolean), Cond.methodLink RX3 57 yX1_add, Cond.instanceMethod yX1_add, Cond.selects RX1 yX1_add yX1_add, Cond.code yX1_add cX1_add 7 none, Cond.methodLink RX1 49 yX1_isFull, Cond.static yX7_bit, Cond.code yX7_bit cX7_bit 1 (some .int), Cond.methodLink RL 52 yX8_fault, Cond.instanceMethod yX8_fault, Cond.selects RX8 yX8_fault yX8_fault, Cond.code yX8_fault cX8_fault 2 (some .int), Cond.methodLink RX8 97 yX8_reads, Cond.instanceMethod yX8_reads, Cond.selects RX8 yX8_reads yX8_reads, Cond.code yX8_reads cX8_reads 3 (some .int), Cond.fieldLink RX8 81 "IronedQuarrelsModel" "at" "I", Cond.methodLink RX8 84 yX8_byteAt, Cond.instanceMethod yX8_byteAt, Cond.selects RX8 yX8_byteAt yX8_byteAt, Cond.code yX8_byteAt cX8_byteAt 2 (some .int), Cond.methodLink RX8 94 yX8_takesSaying, Cond.instanceMethod yX8_takesSaying, Cond.selects RX8 yX8_takesSaying yX8_takesSaying]
def wsL_law_r16 : List Cond := [Cond.code yX8_takesSaying cX8_takesSaying 5 (some .boolean), Cond.methodLink RX8 87 yX8_kindOf, Cond.static yX8_kindOf, Cond.code yX8_kindOf cX8_kindOf 1 (some .int), Cond.methodLink RX8 90 yX8_takes, Cond.instanceMethod yX8_takes, Cond.selects RX8 yX8_takes yX8_takes, Cond.code yX8_takes cX8_takes 6 (some .boolean), Cond.methodLink RL 53 yX7_heap, Cond.instanceMethod yX7_heap, Cond.selects RX7 yX7_heap yX7_heap, Cond.code yX7_heap cX7_heap 4 (some .int), Cond.methodLink RX7 122 yX1_becomeLike, Cond.instanceMethod yX1_becomeLike, Cond.selects RX1 yX1_becomeLike yX1_becomeLike, Cond.code yX1_becomeLike cX1_becomeLike 2 none, Cond.methodLink RX1 43 arraycopyName, Cond.methodLink RX7 126 yX1_howMany, Cond.instanceMethod yX1_howMany, Cond.selects RX1 yX1_howMany yX1_howMany, Cond.code yX1_howMany cX1_howMany 1 (some .int), Cond.methodLink RL 56 yX8_heap, Cond.instanceMethod yX8_heap, Cond.selects RX8 yX8_heap yX8_heap]
def wsL_law_r17 : List Cond := [Cond.code yX8_heap cX8_heap 3 (some .int), Cond.methodLink RX8 100 yX8_copies, Cond.static yX8_copies, Cond.code yX8_copies cX8_copies 5 none, Cond.methodLink RL 57 yX7_saying, Cond.instanceMethod yX7_saying, Cond.selects RX7 yX7_saying yX7_saying, Cond.code yX7_saying cX7_saying 3 (some .int), Cond.methodLink RX7 130 yX1_hasNumber, Cond.methodLink RX7 131 yX1_fact, Cond.instanceMethod yX1_fact, Cond.selects RX1 yX1_fact yX1_fact, Cond.code yX1_fact cX1_fact 3 (some .int), Cond.methodLink RX1 61 yX1_isSaid, Cond.instanceMethod yX1_isSaid, Cond.selects RX1 yX1_isSaid yX1_isSaid, Cond.code yX1_isSaid cX1_isSaid 2 (some .boolean), Cond.static yX7_hasBit, Cond.code yX7_hasBit cX7_hasBit 2 (some .boolean), Cond.methodLink RX1 65 yX1_priceNow, Cond.instanceMethod yX1_priceNow, Cond.selects RX1 yX1_priceNow yX1_priceNow, Cond.code yX1_priceNow cX1_priceNow 2 (some .int), Cond.methodLink RX1 90 yX1_priceAmong]
def wsL_law_r18 : List Cond := [Cond.instanceMethod yX1_priceAmong, Cond.selects RX1 yX1_priceAmong yX1_priceAmong, Cond.code yX1_priceAmong cX1_priceAmong 3 (some .int), Cond.methodLink RX1 82 yX1_others, Cond.instanceMethod yX1_others, Cond.selects RX1 yX1_others yX1_others, Cond.code yX1_others cX1_others 2 (some .int), Cond.methodLink RX1 78 yX1_between, Cond.instanceMethod yX1_between, Cond.selects RX1 yX1_between yX1_between, Cond.code yX1_between cX1_between 5 (some .int), Cond.methodLink RX1 85 yJ6_bitCount_0f7a4, Cond.static yJ6_bitCount_0f7a4, Cond.initialized RJ6, Cond.code yJ6_bitCount_0f7a4 cJ6_bitCount_0f7a4 1 (some .int), Cond.constant RJ6 265 (1431655765), Cond.constant RJ6 266 (858993459), Cond.constant RJ6 267 (252645135), Cond.methodLink RX1 93 yX1_priceAtHeat, Cond.instanceMethod yX1_priceAtHeat, Cond.selects RX1 yX1_priceAtHeat yX1_priceAtHeat, Cond.code yX1_priceAtHeat cX1_priceAtHeat 3 (some .int), Cond.methodLink RL 60 yX8_saying, Cond.instanceMethod yX8_saying]
def wsL_law_r19 : List Cond := [Cond.selects RX8 yX8_saying yX8_saying, Cond.code yX8_saying cX8_saying 3 (some .int), Cond.constantLong RX8 125 (7), Cond.methodLink RX8 122 yX8_isSaying, Cond.instanceMethod yX8_isSaying, Cond.selects RX8 yX8_isSaying yX8_isSaying, Cond.code yX8_isSaying cX8_isSaying 2 (some .boolean), Cond.methodLink RX8 127 yX8_told, Cond.instanceMethod yX8_told, Cond.selects RX8 yX8_told yX8_told, Cond.code yX8_told cX8_told 3 (some .int), Cond.methodLink RX8 119 yX8_price, Cond.instanceMethod yX8_price, Cond.selects RX8 yX8_price yX8_price, Cond.code yX8_price cX8_price 4 (some .int), Cond.methodLink RX8 112 yX8_heat, Cond.instanceMethod yX8_heat, Cond.selects RX8 yX8_heat yX8_heat, Cond.code yX8_heat cX8_heat 5 (some .int), Cond.methodLink RX8 104 yX8_has, Cond.static yX8_has, Cond.code yX8_has cX8_has 2 (some .boolean), Cond.methodLink RX8 108 yX8_isBetween, Cond.instanceMethod yX8_isBetween]
def wsL_law_r20 : List Cond := [Cond.selects RX8 yX8_isBetween yX8_isBetween, Cond.code yX8_isBetween cX8_isBetween 4 (some .boolean), Cond.methodLink RL 61 yX7_mark, Cond.instanceMethod yX7_mark, Cond.selects RX7 yX7_mark yX7_mark, Cond.code yX7_mark cX7_mark 3 (some .int), Cond.methodLink RX7 134 yX1_isOf, Cond.instanceMethod yX1_isOf, Cond.selects RX1 yX1_isOf yX1_isOf, Cond.code yX1_isOf cX1_isOf 4 (some .boolean), Cond.methodLink RX7 138 yX1_others, Cond.methodLink RX7 141 yX7_bitsBelow, Cond.static yX7_bitsBelow, Cond.code yX7_bitsBelow cX7_bitsBelow 1 (some .int), Cond.methodLink RX7 215 yX7_bit, Cond.methodLink RX7 144 yJ6_bitCount_0f7a4, Cond.methodLink RX7 149 yX0_suspects, Cond.instanceMethod yX0_suspects, Cond.selects RX0 yX0_suspects yX0_suspects, Cond.code yX0_suspects cX0_suspects 5 (some .int), Cond.methodLink RX0 15 yX1_answeredBy, Cond.instanceMethod yX1_answeredBy, Cond.selects RX1 yX1_answeredBy yX1_answeredBy, Cond.code yX1_answeredBy cX1_answeredBy 2 (some .int)]
def wsL_law_r21 : List Cond := [Cond.methodLink RX0 21 yX1_hasNumber, Cond.methodLink RX0 25 yX1_toldAhead, Cond.instanceMethod yX1_toldAhead, Cond.selects RX1 yX1_toldAhead yX1_toldAhead, Cond.code yX1_toldAhead cX1_toldAhead 4 (some .int), Cond.methodLink RX0 28 yX1_whoOf, Cond.instanceMethod yX1_whoOf, Cond.selects RX1 yX1_whoOf yX1_whoOf, Cond.code yX1_whoOf cX1_whoOf 2 (some .int), Cond.methodLink RX0 34 yX1_toWhomOf, Cond.instanceMethod yX1_toWhomOf, Cond.selects RX1 yX1_toWhomOf yX1_toWhomOf, Cond.code yX1_toWhomOf cX1_toWhomOf 2 (some .int), Cond.methodLink RX7 153 yX1_priceNow, Cond.methodLink RX7 156 yX1_heatNow, Cond.instanceMethod yX1_heatNow, Cond.selects RX1 yX1_heatNow yX1_heatNow, Cond.code yX1_heatNow cX1_heatNow 2 (some .int), Cond.methodLink RX7 159 yX1_weightOf, Cond.instanceMethod yX1_weightOf, Cond.selects RX1 yX1_weightOf yX1_weightOf, Cond.code yX1_weightOf cX1_weightOf 2 (some .int), Cond.methodLink RX7 162 yX1_answerers, Cond.instanceMethod yX1_answerers]
def wsL_law_r22 : List Cond := [Cond.selects RX1 yX1_answerers yX1_answerers, Cond.code yX1_answerers cX1_answerers 4 (some .int), Cond.methodLink RX7 165 yX1_saidBits, Cond.instanceMethod yX1_saidBits, Cond.selects RX1 yX1_saidBits yX1_saidBits, Cond.code yX1_saidBits cX1_saidBits 1 (some .int), Cond.methodLink RX7 168 yX1_alikeInBundle, Cond.instanceMethod yX1_alikeInBundle, Cond.selects RX1 yX1_alikeInBundle yX1_alikeInBundle, Cond.code yX1_alikeInBundle cX1_alikeInBundle 5 (some .int), Cond.methodLink RX1 114 yX1_beginningOf, Cond.instanceMethod yX1_beginningOf, Cond.selects RX1 yX1_beginningOf yX1_beginningOf, Cond.code yX1_beginningOf cX1_beginningOf 3 (some .int), Cond.methodLink RX1 108 yX1_leanedOn, Cond.instanceMethod yX1_leanedOn, Cond.selects RX1 yX1_leanedOn yX1_leanedOn, Cond.code yX1_leanedOn cX1_leanedOn 5 (some .int), Cond.methodLink RX1 72 yX1_hasNumber, Cond.static yX7_numberAt, Cond.code yX7_numberAt cX7_numberAt 4 (some .int), Cond.methodLink RX7 322 yX7_hasBit, Cond.methodLink RL 64 yX8_mark, Cond.instanceMethod yX8_mark]
def wsL_law_r23 : List Cond := [Cond.selects RX8 yX8_mark yX8_mark, Cond.code yX8_mark cX8_mark 5 (some .int), Cond.methodLink RX8 130 yX8_isOf, Cond.static yX8_isOf, Cond.code yX8_isOf cX8_isOf 2 (some .boolean), Cond.methodLink RX8 133 yX8_handsOf, Cond.instanceMethod yX8_handsOf, Cond.selects RX8 yX8_handsOf yX8_handsOf, Cond.code yX8_handsOf cX8_handsOf 5 (some .int), Cond.methodLink RX8 136 yX8_bits, Cond.static yX8_bits, Cond.code yX8_bits cX8_bits 3 (some .int), Cond.methodLink RX8 116 yX8_answering, Cond.instanceMethod yX8_answering, Cond.selects RX8 yX8_answering yX8_answering, Cond.code yX8_answering cX8_answering 5 (some .int), Cond.methodLink RX8 139 yX8_rootOf, Cond.instanceMethod yX8_rootOf, Cond.selects RX8 yX8_rootOf yX8_rootOf, Cond.code yX8_rootOf cX8_rootOf 3 (some .int), Cond.methodLink RL 65 yX7_say, Cond.instanceMethod yX7_say, Cond.selects RX7 yX7_say yX7_say, Cond.code yX7_say cX7_say 9 (some .int)]
def wsL_law_r24 : List Cond := [Cond.methodLink RX7 171 yX1_isFull, Cond.methodLink RX7 175 yX1_deedsAreFull, Cond.instanceMethod yX1_deedsAreFull, Cond.selects RX1 yX1_deedsAreFull yX1_deedsAreFull, Cond.code yX1_deedsAreFull cX1_deedsAreFull 1 (some .boolean), Cond.methodLink RX7 178 yX1_add, Cond.methodLink RX7 182 yX1_noteComing, Cond.instanceMethod yX1_noteComing, Cond.selects RX1 yX1_noteComing yX1_noteComing, Cond.code yX1_noteComing cX1_noteComing 1 none, Cond.methodLink RX1 68 yX1_noteDeed, Cond.instanceMethod yX1_noteDeed, Cond.selects RX1 yX1_noteDeed yX1_noteDeed, Cond.code yX1_noteDeed cX1_noteDeed 2 none, Cond.methodLink RX1 75 yX1_deedsAreFull, Cond.methodLink RL 69 yX8_say, Cond.instanceMethod yX8_say, Cond.selects RX8 yX8_say yX8_say, Cond.code yX8_say cX8_say 9 (some .int), Cond.constantLong RX8 142 (555), Cond.constantLong RX8 144 (9), Cond.methodLink RX8 146 yX8_isPerson, Cond.static yX8_isPerson, Cond.code yX8_isPerson cX8_isPerson 1 (some .boolean)]
def wsL_law_r25 : List Cond := [Cond.methodLink RX8 149 yX8_does, Cond.instanceMethod yX8_does, Cond.selects RX8 yX8_does yX8_does, Cond.code yX8_does cX8_does 2 none, Cond.methodLink RL 70 yX7_unsay, Cond.instanceMethod yX7_unsay, Cond.selects RX7 yX7_unsay yX7_unsay, Cond.code yX7_unsay cX7_unsay 2 (some .int), Cond.methodLink RX7 185 yX1_mayGo, Cond.instanceMethod yX1_mayGo, Cond.selects RX1 yX1_mayGo yX1_mayGo, Cond.code yX1_mayGo cX1_mayGo 3 (some .boolean), Cond.methodLink RX1 99 yX1_holders, Cond.instanceMethod yX1_holders, Cond.selects RX1 yX1_holders yX1_holders, Cond.code yX1_holders cX1_holders 2 (some .int), Cond.methodLink RX1 96 yX1_answerers, Cond.methodLink RX7 188 yX1_takeBack, Cond.instanceMethod yX1_takeBack, Cond.selects RX1 yX1_takeBack yX1_takeBack, Cond.code yX1_takeBack cX1_takeBack 3 (some .int), Cond.methodLink RL 73 yX8_unsay, Cond.instanceMethod yX8_unsay, Cond.selects RX8 yX8_unsay yX8_unsay]
def wsL_law_r26 : List Cond := [Cond.code yX8_unsay cX8_unsay 2 (some .int), Cond.methodLink RX8 153 yX8_mayBe, Cond.instanceMethod yX8_mayBe, Cond.selects RX8 yX8_mayBe yX8_mayBe, Cond.code yX8_mayBe cX8_mayBe 3 (some .boolean), Cond.methodLink RX8 156 yX8_unsays, Cond.instanceMethod yX8_unsays, Cond.selects RX8 yX8_unsays yX8_unsays, Cond.code yX8_unsays cX8_unsays 3 (some .int), Cond.methodLink RL 74 yX7_undo, Cond.instanceMethod yX7_undo, Cond.selects RX7 yX7_undo yX7_undo, Cond.code yX7_undo cX7_undo 3 (some .int), Cond.methodLink RX7 191 yX1_howManyDeeds, Cond.instanceMethod yX1_howManyDeeds, Cond.selects RX1 yX1_howManyDeeds yX1_howManyDeeds, Cond.code yX1_howManyDeeds cX1_howManyDeeds 1 (some .int), Cond.methodLink RX7 194 yX1_undoFrom, Cond.instanceMethod yX1_undoFrom, Cond.selects RX1 yX1_undoFrom yX1_undoFrom, Cond.code yX1_undoFrom cX1_undoFrom 3 none, Cond.methodLink RL 77 yX8_undo, Cond.instanceMethod yX8_undo, Cond.selects RX8 yX8_undo yX8_undo]
def wsL_law_r27 : List Cond := [Cond.code yX8_undo cX8_undo 5 (some .int), Cond.methodLink RL 78 yX7_said, Cond.instanceMethod yX7_said, Cond.selects RX7 yX7_said yX7_said, Cond.code yX7_said cX7_said 1 (some .int), Cond.methodLink RX7 197 yX1_freeAmong, Cond.instanceMethod yX1_freeAmong, Cond.selects RX1 yX1_freeAmong yX1_freeAmong, Cond.code yX1_freeAmong cX1_freeAmong 4 (some .int), Cond.methodLink RX1 102 yX1_mayGo, Cond.methodLink RL 82 yX8_said, Cond.instanceMethod yX8_said, Cond.selects RX8 yX8_said yX8_said, Cond.code yX8_said cX8_said 1 (some .int), Cond.methodLink RX8 159 yX8_allThatMay, Cond.instanceMethod yX8_allThatMay, Cond.selects RX8 yX8_allThatMay yX8_allThatMay, Cond.code yX8_allThatMay cX8_allThatMay 4 (some .int), Cond.methodLink RX8 162 yX8_answer, Cond.instanceMethod yX8_answer, Cond.selects RX8 yX8_answer yX8_answer, Cond.code yX8_answer cX8_answer 3 (some .int), Cond.methodLink RL 83 yX7_keep, Cond.instanceMethod yX7_keep]
def wsL_law_r28 : List Cond := [Cond.selects RX7 yX7_keep yX7_keep, Cond.code yX7_keep cX7_keep 3 (some .int), Cond.methodLink RL 86 yX8_keep, Cond.instanceMethod yX8_keep, Cond.selects RX8 yX8_keep yX8_keep, Cond.code yX8_keep cX8_keep 2 (some .int), Cond.constantLong RX8 165 (2), Cond.methodLink RL 87 yX7_on, Cond.instanceMethod yX7_on, Cond.selects RX7 yX7_on yX7_on, Cond.code yX7_on cX7_on 3 (some .int), Cond.methodLink RL 90 yX8_on, Cond.instanceMethod yX8_on, Cond.selects RX8 yX8_on yX8_on, Cond.code yX8_on cX8_on 2 (some .int), Cond.methodLink RL 91 yX7_leans, Cond.instanceMethod yX7_leans, Cond.selects RX7 yX7_leans yX7_leans, Cond.code yX7_leans cX7_leans 2 (some .int), Cond.methodLink RX7 200 yX1_leanedOn, Cond.methodLink RL 94 yX8_leans, Cond.instanceMethod yX8_leans, Cond.selects RX8 yX8_leans yX8_leans, Cond.code yX8_leans cX8_leans 2 (some .int)]
def wsL_law_r29 : List Cond := [Cond.methodLink RX8 167 yX8_leansOf, Cond.instanceMethod yX8_leansOf, Cond.selects RX8 yX8_leansOf yX8_leansOf, Cond.code yX8_leansOf cX8_leansOf 4 (some .int), Cond.methodLink RL 95 yX7_feeds, Cond.instanceMethod yX7_feeds, Cond.selects RX7 yX7_feeds yX7_feeds, Cond.code yX7_feeds cX7_feeds 2 (some .int), Cond.methodLink RX7 203 yX1_leaningOn, Cond.instanceMethod yX1_leaningOn, Cond.selects RX1 yX1_leaningOn yX1_leaningOn, Cond.code yX1_leaningOn cX1_leaningOn 4 (some .int), Cond.methodLink RL 98 yX8_feeds, Cond.instanceMethod yX8_feeds, Cond.selects RX8 yX8_feeds yX8_feeds, Cond.code yX8_feeds cX8_feeds 4 (some .int), Cond.methodLink RL 99 yX7_first, Cond.instanceMethod yX7_first, Cond.selects RX7 yX7_first yX7_first, Cond.code yX7_first cX7_first 2 (some .int), Cond.methodLink RX7 206 yX1_beginningOf, Cond.methodLink RL 102 yX8_first, Cond.instanceMethod yX8_first, Cond.selects RX8 yX8_first yX8_first]
def wsL_law_r30 : List Cond := [Cond.code yX8_first cX8_first 2 (some .int), Cond.methodLink RL 103 yX7_bundles, Cond.instanceMethod yX7_bundles, Cond.selects RX7 yX7_bundles yX7_bundles, Cond.code yX7_bundles cX7_bundles 1 (some .int), Cond.methodLink RX7 209 yX1_beginningsOfSaid, Cond.instanceMethod yX1_beginningsOfSaid, Cond.selects RX1 yX1_beginningsOfSaid yX1_beginningsOfSaid, Cond.code yX1_beginningsOfSaid cX1_beginningsOfSaid 3 (some .int), Cond.methodLink RL 106 yX8_bundles, Cond.instanceMethod yX8_bundles, Cond.selects RX8 yX8_bundles yX8_bundles, Cond.code yX8_bundles cX8_bundles 3 (some .int), Cond.methodLink RL 107 yX7_longest, Cond.instanceMethod yX7_longest, Cond.selects RX7 yX7_longest yX7_longest, Cond.code yX7_longest cX7_longest 6 (some .int), Cond.methodLink RX7 212 yX1_deepest, Cond.instanceMethod yX1_deepest, Cond.selects RX1 yX1_deepest yX1_deepest, Cond.code yX1_deepest cX1_deepest 5 (some .int), Cond.methodLink RX7 218 yX7_numberAt, Cond.methodLink RL 110 yX8_longest, Cond.instanceMethod yX8_longest]
def wsL_law_r31 : List Cond := [Cond.selects RX8 yX8_longest yX8_longest, Cond.code yX8_longest cX8_longest 6 (some .int), Cond.methodLink RX8 170 yX8_row, Cond.methodLink RL 111 yX7_cheapest, Cond.instanceMethod yX7_cheapest, Cond.selects RX7 yX7_cheapest yX7_cheapest, Cond.code yX7_cheapest cX7_cheapest 3 (some .int), Cond.methodLink RX7 221 yX2_weigh, Cond.instanceMethod yX2_weigh, Cond.selects RX2 yX2_weigh yX2_weigh, Cond.code yX2_weigh cX2_weigh 4 (some .int), Cond.methodLink RX2 21 yX1_saidBits, Cond.methodLink RX2 27 yX1_howMany, Cond.methodLink RX2 30 yX1_others, Cond.methodLink RX2 33 yX1_holders, Cond.methodLink RX2 35 yX2_leastOf, Cond.instanceMethod yX2_leastOf, Cond.selects RX2 yX2_leastOf yX2_leastOf, Cond.code yX2_leastOf cX2_leastOf 5 (some .int), Cond.constant RX2 39 (1000000), Cond.methodLink RX2 48 Lib.Math.min.name, Cond.static Lib.Math.min.name, Cond.initialized "java/lang/Math", Cond.code Lib.Math.min.name Lib.Math.min.code 2 (some .int)]
def wsL_law_r32 : List Cond := [Cond.methodLink RX2 40 yX2_canGo, Cond.instanceMethod yX2_canGo, Cond.selects RX2 yX2_canGo yX2_canGo, Cond.code yX2_canGo cX2_canGo 3 (some .boolean), Cond.methodLink RX2 44 yX2_costFrom, Cond.instanceMethod yX2_costFrom, Cond.selects RX2 yX2_costFrom yX2_costFrom, Cond.code yX2_costFrom cX2_costFrom 4 (some .int), Cond.methodLink RX2 57 yJ6_bitCount_0f7a4, Cond.methodLink RX2 62 yX1_priceAtHeat, Cond.methodLink RX7 225 yX2_writeCheapest, Cond.instanceMethod yX2_writeCheapest, Cond.selects RX2 yX2_writeCheapest yX2_writeCheapest, Cond.code yX2_writeCheapest cX2_writeCheapest 8 none, Cond.methodLink RX2 68 yX5_makeAnew, Cond.methodLink RX2 74 yX2_firstOfCheapest, Cond.instanceMethod yX2_firstOfCheapest, Cond.selects RX2 yX2_firstOfCheapest yX2_firstOfCheapest, Cond.code yX2_firstOfCheapest cX2_firstOfCheapest 4 (some .int), Cond.methodLink RX2 77 yX5_setCell, Cond.methodLink RL 114 yX8_cheapest, Cond.instanceMethod yX8_cheapest, Cond.selects RX8 yX8_cheapest yX8_cheapest, Cond.code yX8_cheapest cX8_cheapest 7 (some .int)]
def wsL_law_r33 : List Cond := [Cond.methodLink RX8 174 yX8_layOrders, Cond.instanceMethod yX8_layOrders, Cond.selects RX8 yX8_layOrders yX8_layOrders, Cond.code yX8_layOrders cX8_layOrders 7 none, Cond.constant RX8 173 (1000000), Cond.methodLink RL 115 yX7_orders, Cond.instanceMethod yX7_orders, Cond.selects RX7 yX7_orders yX7_orders, Cond.code yX7_orders cX7_orders 1 (some .int), Cond.methodLink RX7 229 yX2_howManyOrders, Cond.instanceMethod yX2_howManyOrders, Cond.selects RX2 yX2_howManyOrders yX2_howManyOrders, Cond.code yX2_howManyOrders cX2_howManyOrders 8 (some .long), Cond.methodLink RX2 87 Lib.Math.max.name, Cond.static Lib.Math.max.name, Cond.code Lib.Math.max.name Lib.Math.max.code 2 (some .int), Cond.methodLink RX2 80 yX1_isSaid, Cond.methodLink RX2 84 yX1_hasToGoWith, Cond.instanceMethod yX1_hasToGoWith, Cond.selects RX1 yX1_hasToGoWith yX1_hasToGoWith, Cond.code yX1_hasToGoWith cX1_hasToGoWith 4 (some .int), Cond.methodLink RX1 105 yX1_hasToGoAhead, Cond.instanceMethod yX1_hasToGoAhead, Cond.selects RX1 yX1_hasToGoAhead yX1_hasToGoAhead]
def wsL_law_r34 : List Cond := [Cond.code yX1_hasToGoAhead cX1_hasToGoAhead 3 (some .boolean), Cond.methodLink RX7 233 yX4_tell, Cond.instanceMethod yX4_tell, Cond.selects RX4 yX4_tell yX4_tell, Cond.code yX4_tell cX4_tell 7 none, Cond.methodLink RX4 20 Lib.MathLoose.max_long.x, Cond.static Lib.MathLoose.max_long.x, Cond.code Lib.MathLoose.max_long.x Lib.MathLoose.max_long.code 4 (some .long), Cond.methodLink RX4 16 yX4_commonOf, Cond.static yX4_commonOf, Cond.code yX4_commonOf cX4_commonOf 11 (some .long), Cond.methodLink RL 118 yX8_orders, Cond.instanceMethod yX8_orders, Cond.selects RX8 yX8_orders yX8_orders, Cond.code yX8_orders cX8_orders 1 (some .int), Cond.methodLink RX8 180 yX8_fraction, Cond.instanceMethod yX8_fraction, Cond.selects RX8 yX8_fraction yX8_fraction, Cond.code yX8_fraction cX8_fraction 11 (some .int), Cond.fieldLink RX8 177 "IronedQuarrelsModel" "upper" "J", Cond.methodLink RL 119 yX7_judge, Cond.instanceMethod yX7_judge, Cond.selects RX7 yX7_judge yX7_judge, Cond.code yX7_judge cX7_judge 8 (some .int)]
def wsL_law_r35 : List Cond := [Cond.methodLink RX7 237 yX1_priceAmong, Cond.methodLink RL 122 yX8_judge, Cond.instanceMethod yX8_judge, Cond.selects RX8 yX8_judge yX8_judge, Cond.code yX8_judge cX8_judge 7 (some .int), Cond.methodLink RL 123 yX7_last, Cond.instanceMethod yX7_last, Cond.selects RX7 yX7_last yX7_last, Cond.code yX7_last cX7_last 3 (some .int), Cond.methodLink RX7 240 yX1_isSaid, Cond.methodLink RX7 243 yX1_hasToGoAhead, Cond.methodLink RX7 246 yX1_hasToGoWith, Cond.methodLink RL 126 yX8_last, Cond.instanceMethod yX8_last, Cond.selects RX8 yX8_last yX8_last, Cond.code yX8_last cX8_last 4 (some .int), Cond.methodLink RL 127 yX7_end, Cond.instanceMethod yX7_end, Cond.selects RX7 yX7_end yX7_end, Cond.code yX7_end cX7_end 4 (some .int), Cond.methodLink RX7 249 yX0_hasNumber, Cond.instanceMethod yX0_hasNumber, Cond.selects RX0 yX0_hasNumber yX0_hasNumber, Cond.code yX0_hasNumber cX0_hasNumber 2 (some .boolean)]
def wsL_law_r36 : List Cond := [Cond.methodLink RX7 250 yX1_between, Cond.methodLink RL 130 yX8_end, Cond.instanceMethod yX8_end, Cond.selects RX8 yX8_end yX8_end, Cond.code yX8_end cX8_end 7 (some .int), Cond.methodLink RL 131 yX7_rings, Cond.instanceMethod yX7_rings, Cond.selects RX7 yX7_rings yX7_rings, Cond.code yX7_rings cX7_rings 1 (some .int), Cond.methodLink RX7 253 yX1_personsOfSaid, Cond.instanceMethod yX1_personsOfSaid, Cond.selects RX1 yX1_personsOfSaid yX1_personsOfSaid, Cond.code yX1_personsOfSaid cX1_personsOfSaid 3 (some .int), Cond.methodLink RX7 256 yX0_inRings, Cond.instanceMethod yX0_inRings, Cond.selects RX0 yX0_inRings yX0_inRings, Cond.code yX0_inRings cX0_inRings 5 (some .int), Cond.methodLink RX0 37 yX0_listen, Cond.instanceMethod yX0_listen, Cond.selects RX0 yX0_listen yX0_listen, Cond.code yX0_listen cX0_listen 6 none, Cond.methodLink RX0 45 yJ7_fill_53178, Cond.methodLink RX0 51 yX1_howMany, Cond.methodLink RX0 55 yX1_isSaid]
def wsL_law_r37 : List Cond := [Cond.methodLink RL 134 yX8_rings, Cond.instanceMethod yX8_rings, Cond.selects RX8 yX8_rings yX8_rings, Cond.code yX8_rings cX8_rings 3 (some .int), Cond.methodLink RX8 187 yX8_ringed, Cond.instanceMethod yX8_ringed, Cond.selects RX8 yX8_ringed yX8_ringed, Cond.code yX8_ringed cX8_ringed 4 (some .int), Cond.methodLink RX8 184 yX8_layReach, Cond.instanceMethod yX8_layReach, Cond.selects RX8 yX8_layReach yX8_layReach, Cond.code yX8_layReach cX8_layReach 5 none, Cond.methodLink RL 135 yX7_away, Cond.instanceMethod yX7_away, Cond.selects RX7 yX7_away yX7_away, Cond.code yX7_away cX7_away 1 (some .int), Cond.methodLink RX7 259 yX0_fewestAway, Cond.instanceMethod yX0_fewestAway, Cond.selects RX0 yX0_fewestAway yX0_fewestAway, Cond.code yX0_fewestAway cX0_fewestAway 4 (some .int), Cond.methodLink RX0 58 yJ6_bitCount_0f7a4, Cond.methodLink RX0 63 yX0_inRings, Cond.methodLink RL 138 yX8_away, Cond.instanceMethod yX8_away]
def wsL_law_r38 : List Cond := [Cond.selects RX8 yX8_away yX8_away, Cond.code yX8_away cX8_away 3 (some .int), Cond.methodLink RL 139 yX7_whose, Cond.instanceMethod yX7_whose, Cond.selects RX7 yX7_whose yX7_whose, Cond.code yX7_whose cX7_whose 2 (some .int), Cond.methodLink RL 142 yX8_whose, Cond.instanceMethod yX8_whose, Cond.selects RX8 yX8_whose yX8_whose, Cond.code yX8_whose cX8_whose 2 (some .int), Cond.methodLink RL 143 yX7_wash, Cond.instanceMethod yX7_wash, Cond.selects RX7 yX7_wash yX7_wash, Cond.code yX7_wash cX7_wash 4 (some .int), Cond.methodLink RX7 265 Lib.Math.min.name, Cond.methodLink RX7 262 yX1_saidBeginnings, Cond.instanceMethod yX1_saidBeginnings, Cond.selects RX1 yX1_saidBeginnings yX1_saidBeginnings, Cond.code yX1_saidBeginnings cX1_saidBeginnings 5 (some .int), Cond.methodLink RX1 120 yX1_isBeginning, Cond.instanceMethod yX1_isBeginning, Cond.selects RX1 yX1_isBeginning yX1_isBeginning, Cond.code yX1_isBeginning cX1_isBeginning 2 (some .boolean), Cond.methodLink RL 146 yX8_wash]
def wsL_law_r39 : List Cond := [Cond.instanceMethod yX8_wash, Cond.selects RX8 yX8_wash yX8_wash, Cond.code yX8_wash cX8_wash 4 (some .int), Cond.methodLink RX8 190 yX8_firsts, Cond.instanceMethod yX8_firsts, Cond.selects RX8 yX8_firsts yX8_firsts, Cond.code yX8_firsts cX8_firsts 5 (some .int), Cond.methodLink RL 147 yX7_bill, Cond.instanceMethod yX7_bill, Cond.selects RX7 yX7_bill yX7_bill, Cond.code yX7_bill cX7_bill 3 (some .int), Cond.methodLink RX7 270 yX1_begunBy, Cond.instanceMethod yX1_begunBy, Cond.selects RX1 yX1_begunBy yX1_begunBy, Cond.code yX1_begunBy cX1_begunBy 4 (some .int), Cond.methodLink RX7 273 yX1_pricesOf, Cond.instanceMethod yX1_pricesOf, Cond.selects RX1 yX1_pricesOf yX1_pricesOf, Cond.code yX1_pricesOf cX1_pricesOf 4 (some .int), Cond.methodLink RL 150 yX8_bill, Cond.instanceMethod yX8_bill, Cond.selects RX8 yX8_bill yX8_bill, Cond.code yX8_bill cX8_bill 2 (some .int), Cond.methodLink RX8 193 yX8_pricesOf]
def wsL_law_r40 : List Cond := [Cond.instanceMethod yX8_pricesOf, Cond.selects RX8 yX8_pricesOf yX8_pricesOf, Cond.code yX8_pricesOf cX8_pricesOf 5 (some .int), Cond.methodLink RL 151 yX7_colour, Cond.instanceMethod yX7_colour, Cond.selects RX7 yX7_colour yX7_colour, Cond.code yX7_colour cX7_colour 4 (some .int), Cond.methodLink RX7 276 yX1_topicOf, Cond.instanceMethod yX1_topicOf, Cond.selects RX1 yX1_topicOf yX1_topicOf, Cond.code yX1_topicOf cX1_topicOf 2 (some .int), Cond.methodLink RL 154 yX8_colour, Cond.instanceMethod yX8_colour, Cond.selects RX8 yX8_colour yX8_colour, Cond.code yX8_colour cX8_colour 4 (some .int), Cond.constantLong RX8 196 (20), Cond.methodLink RL 155 yX7_lots, Cond.instanceMethod yX7_lots, Cond.selects RX7 yX7_lots yX7_lots, Cond.code yX7_lots cX7_lots 8 (some .int), Cond.constantLong RX7 279 (2147483647), Cond.constantLong RX7 281 (48271), Cond.methodLink RL 158 yX8_lots, Cond.instanceMethod yX8_lots]
def wsL_law_r41 : List Cond := [Cond.selects RX8 yX8_lots yX8_lots, Cond.code yX8_lots cX8_lots 10 (some .int), Cond.constantLong RX8 198 (12), Cond.constantLong RX8 200 (2147483646), Cond.constantLong RX8 202 (48271), Cond.constantLong RX8 204 (2147483647), Cond.methodLink RL 159 yX7_asked, Cond.instanceMethod yX7_asked, Cond.selects RX7 yX7_asked yX7_asked, Cond.code yX7_asked cX7_asked 1 (some .int), Cond.methodLink RL 162 yX8_asked, Cond.instanceMethod yX8_asked, Cond.selects RX8 yX8_asked yX8_asked, Cond.code yX8_asked cX8_asked 1 (some .int), Cond.methodLink RL 163 yX7_upper, Cond.instanceMethod yX7_upper, Cond.selects RX7 yX7_upper yX7_upper, Cond.code yX7_upper cX7_upper 1 (some .long), Cond.methodLink RX7 283 yX4_top, Cond.instanceMethod yX4_top, Cond.selects RX4 yX4_top yX4_top, Cond.code yX4_top cX4_top 1 (some .long), Cond.methodLink RL 167 yX8_upper, Cond.instanceMethod yX8_upper]
def wsL_law_r42 : List Cond := [Cond.selects RX8 yX8_upper yX8_upper, Cond.code yX8_upper cX8_upper 1 (some .long), Cond.methodLink RL 168 yX7_lower, Cond.instanceMethod yX7_lower, Cond.selects RX7 yX7_lower yX7_lower, Cond.code yX7_lower cX7_lower 1 (some .long), Cond.methodLink RX7 287 yX4_bottom, Cond.instanceMethod yX4_bottom, Cond.selects RX4 yX4_bottom yX4_bottom, Cond.code yX4_bottom cX4_bottom 1 (some .long), Cond.methodLink RL 171 yX8_lower, Cond.instanceMethod yX8_lower, Cond.selects RX8 yX8_lower yX8_lower, Cond.code yX8_lower cX8_lower 1 (some .long), Cond.methodLink RL 172 yX7_count, Cond.instanceMethod yX7_count, Cond.selects RX7 yX7_count yX7_count, Cond.code yX7_count cX7_count 2 (some .int), Cond.methodLink RX7 290 yX1_beginners, Cond.instanceMethod yX1_beginners, Cond.selects RX1 yX1_beginners yX1_beginners, Cond.code yX1_beginners cX1_beginners 3 (some .int), Cond.methodLink RX7 293 yX1_howManyOf, Cond.instanceMethod yX1_howManyOf]
def wsL_law_r43 : List Cond := [Cond.selects RX1 yX1_howManyOf yX1_howManyOf, Cond.code yX1_howManyOf cX1_howManyOf 4 (some .int), Cond.methodLink RX1 117 yX1_isOf, Cond.methodLink RX7 296 yX5_howManyThere, Cond.instanceMethod yX5_howManyThere, Cond.selects RX5 yX5_howManyThere yX5_howManyThere, Cond.code yX5_howManyThere cX5_howManyThere 3 (some .int), Cond.methodLink RX5 41 yX5_isThere, Cond.methodLink RX7 299 yX7_howManyKept, Cond.instanceMethod yX7_howManyKept, Cond.selects RX7 yX7_howManyKept yX7_howManyKept, Cond.code yX7_howManyKept cX7_howManyKept 3 (some .int), Cond.methodLink RL 175 yX8_count, Cond.instanceMethod yX8_count, Cond.selects RX8 yX8_count yX8_count, Cond.code yX8_count cX8_count 2 (some .int), Cond.constantLong RX8 206 (8), Cond.methodLink RX8 208 yX8_counted, Cond.instanceMethod yX8_counted, Cond.selects RX8 yX8_counted yX8_counted, Cond.code yX8_counted cX8_counted 6 (some .int), Cond.methodLink RL 176 yX7_finding, Cond.instanceMethod yX7_finding, Cond.selects RX7 yX7_finding yX7_finding]
def wsL_law_r44 : List Cond := [Cond.code yX7_finding cX7_finding 1 (some .int), Cond.methodLink RX7 302 yX6_latest, Cond.instanceMethod yX6_latest, Cond.selects RX6 yX6_latest yX6_latest, Cond.code yX6_latest cX6_latest 1 (some .int), Cond.methodLink RL 179 yX8_finding, Cond.instanceMethod yX8_finding, Cond.selects RX8 yX8_finding yX8_finding, Cond.code yX8_finding cX8_finding 1 (some .int), Cond.methodLink RL 180 yX7_findings, Cond.instanceMethod yX7_findings, Cond.selects RX7 yX7_findings yX7_findings, Cond.code yX7_findings cX7_findings 2 (some .int), Cond.methodLink RX7 305 yX6_howOften, Cond.instanceMethod yX6_howOften, Cond.selects RX6 yX6_howOften yX6_howOften, Cond.code yX6_howOften cX6_howOften 2 (some .int), Cond.methodLink RL 183 yX8_findings, Cond.instanceMethod yX8_findings, Cond.selects RX8 yX8_findings yX8_findings, Cond.code yX8_findings cX8_findings 2 (some .int), Cond.methodLink RL 184 yX7_digest, Cond.instanceMethod yX7_digest, Cond.selects RX7 yX7_digest yX7_digest]
def wsL_law_r45 : List Cond := [Cond.code yX7_digest cX7_digest 5 (some .long), Cond.constantLong RX7 308 (17), Cond.constantLong RX7 310 (31), Cond.methodLink RX7 312 yX7_count, Cond.methodLink RX7 315 yX5_digestFrom, Cond.instanceMethod yX5_digestFrom, Cond.selects RX5 yX5_digestFrom yX5_digestFrom, Cond.code yX5_digestFrom cX5_digestFrom 7 (some .long), Cond.constantLong RX5 45 (31), Cond.methodLink RL 187 yX8_digest, Cond.instanceMethod yX8_digest, Cond.selects RX8 yX8_digest yX8_digest, Cond.code yX8_digest cX8_digest 5 (some .long), Cond.constantLong RX8 211 (17), Cond.constantLong RX8 213 (31)]
def wsL_law : List Cond := (wsL_law_r1 ++ (wsL_law_r2 ++ (wsL_law_r3 ++ (wsL_law_r4 ++ (wsL_law_r5 ++ (wsL_law_r6 ++ (wsL_law_r7 ++ (wsL_law_r8 ++ (wsL_law_r9 ++ (wsL_law_r10 ++ (wsL_law_r11 ++ (wsL_law_r12 ++ (wsL_law_r13 ++ (wsL_law_r14 ++ (wsL_law_r15 ++ (wsL_law_r16 ++ (wsL_law_r17 ++ (wsL_law_r18 ++ (wsL_law_r19 ++ (wsL_law_r20 ++ (wsL_law_r21 ++ (wsL_law_r22 ++ (wsL_law_r23 ++ (wsL_law_r24 ++ (wsL_law_r25 ++ (wsL_law_r26 ++ (wsL_law_r27 ++ (wsL_law_r28 ++ (wsL_law_r29 ++ (wsL_law_r30 ++ (wsL_law_r31 ++ (wsL_law_r32 ++ (wsL_law_r33 ++ (wsL_law_r34 ++ (wsL_law_r35 ++ (wsL_law_r36 ++ (wsL_law_r37 ++ (wsL_law_r38 ++ (wsL_law_r39 ++ (wsL_law_r40 ++ (wsL_law_r41 ++ (wsL_law_r42 ++ (wsL_law_r43 ++ (wsL_law_r44 ++ wsL_law_r45)))))))))))))))))))))))))))))))))))))))))))) ++ wsX70 ++ wsX80 ++ wsX50 ++ wsX10 ++ wsX20 ++ wsX00 ++ wsX40 ++ wsX60 ++ ([] : List Cond)
theorem in_ix {big : List Cond} (ws : List Cond) (ps : List Nat) (hp : ws = ps.filterMap (fun i => big[i]?)) : ∀ w ∈ ws, w ∈ big := by
  intro w hw
  rw [hp] at hw
  obtain ⟨i, -, hi⟩ := List.mem_filterMap.mp hw
  exact List.mem_of_getElem? hi
theorem wsL_in_r1 : ∀ w ∈ wsL_law_r1, w ∈ lw_tbl := in_ix _ [54, 55, 37, 851, 852, 45, 56, 57, 58, 59, 60, 61, 62, 63, 38, 172, 173, 82, 83, 40, 174, 175, 176, 120] (by decide +kernel)
theorem wsL_in_r2 : ∀ w ∈ wsL_law_r2, w ∈ lw_tbl := in_ix _ [121, 41, 177, 136, 137, 42, 178, 146, 147, 43, 179, 159, 160, 44, 180, 181, 64, 65, 66, 67, 71, 81, 72, 73] (by decide +kernel)
theorem wsL_in_r3 : ∀ w ∈ wsL_law_r3, w ∈ lw_tbl := in_ix _ [68, 69, 39, 70, 85, 86, 87, 88, 89, 90, 91, 92, 93, 94, 95, 96, 97, 123, 124, 125, 126, 127, 128, 139] (by decide +kernel)
theorem wsL_in_r4 : ∀ w ∈ wsL_law_r4, w ∈ lw_tbl := in_ix _ [140, 141, 142, 149, 150, 151, 152, 153, 162, 163, 164, 165, 166, 853, 854, 855, 856, 857, 858, 859, 860, 861, 862, 909] (by decide +kernel)
theorem wsL_in_r5 : ∀ w ∈ wsL_law_r5, w ∈ lw_tbl := in_ix _ [863, 866, 868, 869, 871, 910, 872, 873, 203, 204, 205, 206, 207, 208, 209, 210, 211, 212, 213, 214, 215, 216, 217, 218] (by decide +kernel)
theorem wsL_in_r6 : ∀ w ∈ wsL_law_r6, w ∈ lw_tbl := in_ix _ [219, 220, 221, 222, 223, 224, 911, 912, 913, 914, 915, 916, 917, 918, 919, 920, 921, 922, 924, 9, 925, 867, 225, 226] (by decide +kernel)
theorem wsL_in_r7 : ∀ w ∈ wsL_law_r7, w ∈ lw_tbl := in_ix _ [227, 228, 229, 231, 0, 232, 233, 235, 1, 236, 237, 238, 239, 240, 241, 242, 243, 244, 245, 246, 247, 248, 249, 250] (by decide +kernel)
theorem wsL_in_r8 : ∀ w ∈ wsL_law_r8, w ∈ lw_tbl := in_ix _ [251, 252, 926, 927, 928, 929, 930, 932, 10, 933, 864, 253, 254, 255, 256, 934, 935, 936, 937, 257, 258, 259, 260, 261] (by decide +kernel)
theorem wsL_in_r9 : ∀ w ∈ wsL_law_r9, w ∈ lw_tbl := in_ix _ [262, 263, 264, 938, 939, 940, 941, 265, 266, 267, 268, 269, 270, 271, 272, 273, 274, 275, 276, 277, 279, 278, 46, 942] (by decide +kernel)
theorem wsL_in_r10 : ∀ w ∈ wsL_law_r10, w ∈ lw_tbl := in_ix _ [943, 944, 945, 280, 281, 282, 283, 284, 285, 286, 287, 288, 289, 290, 291, 292, 946, 947, 948, 949, 293, 294, 295, 296] (by decide +kernel)
theorem wsL_in_r11 : ∀ w ∈ wsL_law_r11, w ∈ lw_tbl := in_ix _ [950, 951, 952, 953, 954, 955, 956, 957, 297, 298, 299, 300, 958, 959, 960, 961, 301, 302, 303, 304, 305, 306, 47, 307] (by decide +kernel)
theorem wsL_in_r12 : ∀ w ∈ wsL_law_r12, w ∈ lw_tbl := in_ix _ [308, 309, 310, 311, 312, 313, 314, 315, 316, 318, 319, 320, 48, 321, 1230, 322, 323, 324, 325, 326, 1231, 328, 329, 330] (by decide +kernel)
theorem wsL_in_r13 : ∀ w ∈ wsL_law_r13, w ∈ lw_tbl := in_ix _ [331, 332, 333, 334, 335, 336, 337, 49, 338, 339, 340, 341, 342, 344, 345, 50, 346, 347, 348, 51, 349, 350, 351, 352] (by decide +kernel)
theorem wsL_in_r14 : ∀ w ∈ wsL_law_r14, w ∈ lw_tbl := in_ix _ [353, 354, 355, 356, 357, 358, 359, 360, 362, 364, 366, 367, 368, 369, 370, 371, 372, 373, 374, 375, 376, 377, 378, 379] (by decide +kernel)
theorem wsL_in_r15 : ∀ w ∈ wsL_law_r15, w ∈ lw_tbl := in_ix _ [380, 381, 382, 383, 384, 385, 387, 388, 962, 963, 964, 965, 966, 968, 11, 969, 870, 970, 972, 12, 973, 974, 976, 13] (by decide +kernel)
theorem wsL_in_r16 : ∀ w ∈ wsL_law_r16, w ∈ lw_tbl := in_ix _ [977, 978, 979, 980, 981, 983, 14, 984, 390, 391, 392, 393, 394, 395, 396, 397, 398, 399, 400, 401, 402, 985, 986, 987] (by decide +kernel)
theorem wsL_in_r17 : ∀ w ∈ wsL_law_r17, w ∈ lw_tbl := in_ix _ [988, 989, 990, 991, 403, 404, 405, 406, 407, 408, 409, 410, 411, 412, 413, 414, 415, 417, 418, 419, 420, 421, 422, 423] (by decide +kernel)
theorem wsL_in_r18 : ∀ w ∈ wsL_law_r18, w ∈ lw_tbl := in_ix _ [424, 425, 426, 427, 428, 429, 430, 431, 432, 433, 434, 435, 436, 52, 437, 438, 439, 440, 441, 442, 443, 444, 992, 993] (by decide +kernel)
theorem wsL_in_r19 : ∀ w ∈ wsL_law_r19, w ∈ lw_tbl := in_ix _ [994, 995, 1000, 996, 998, 15, 999, 1001, 1003, 16, 1004, 1005, 1007, 17, 1008, 1009, 1011, 18, 1012, 1013, 1014, 1015, 1016, 1018] (by decide +kernel)
theorem wsL_in_r20 : ∀ w ∈ wsL_law_r20, w ∈ lw_tbl := in_ix _ [19, 1019, 445, 446, 447, 448, 449, 450, 451, 452, 453, 454, 455, 456, 457, 458, 459, 460, 461, 462, 463, 464, 465, 466] (by decide +kernel)
theorem wsL_in_r21 : ∀ w ∈ wsL_law_r21, w ∈ lw_tbl := in_ix _ [467, 468, 469, 470, 471, 472, 473, 474, 475, 477, 478, 479, 480, 481, 482, 483, 484, 485, 486, 487, 488, 489, 490, 491] (by decide +kernel)
theorem wsL_in_r22 : ∀ w ∈ wsL_law_r22, w ∈ lw_tbl := in_ix _ [492, 493, 494, 495, 496, 497, 498, 499, 500, 501, 502, 503, 504, 505, 506, 507, 508, 509, 510, 512, 513, 514, 1020, 1021] (by decide +kernel)
theorem wsL_in_r23 : ∀ w ∈ wsL_law_r23, w ∈ lw_tbl := in_ix _ [1022, 1023, 1024, 1025, 1026, 1027, 1029, 20, 1030, 1031, 1032, 1033, 1034, 1036, 21, 1037, 1038, 1040, 22, 1041, 515, 516, 517, 518] (by decide +kernel)
theorem wsL_in_r24 : ∀ w ∈ wsL_law_r24, w ∈ lw_tbl := in_ix _ [519, 520, 521, 522, 523, 524, 525, 526, 527, 528, 529, 531, 2, 532, 533, 1042, 1043, 1044, 1045, 1046, 1047, 1048, 1049, 1050] (by decide +kernel)
theorem wsL_in_r25 : ∀ w ∈ wsL_law_r25, w ∈ lw_tbl := in_ix _ [1051, 1053, 23, 1054, 534, 535, 536, 537, 538, 539, 540, 541, 542, 543, 544, 545, 546, 547, 548, 549, 550, 1055, 1056, 1057] (by decide +kernel)
theorem wsL_in_r26 : ∀ w ∈ wsL_law_r26, w ∈ lw_tbl := in_ix _ [1058, 1059, 1061, 24, 1062, 1063, 1065, 25, 1066, 551, 552, 553, 554, 555, 556, 557, 558, 559, 560, 561, 562, 1067, 1068, 1069] (by decide +kernel)
theorem wsL_in_r27 : ∀ w ∈ wsL_law_r27, w ∈ lw_tbl := in_ix _ [1070, 563, 564, 565, 566, 567, 568, 569, 570, 571, 1071, 1072, 1073, 1074, 1075, 1077, 26, 1078, 1079, 1081, 27, 1082, 572, 573] (by decide +kernel)
theorem wsL_in_r28 : ∀ w ∈ wsL_law_r28, w ∈ lw_tbl := in_ix _ [574, 575, 1083, 1084, 1085, 1086, 1087, 576, 577, 578, 579, 1088, 1089, 1090, 1091, 580, 581, 582, 583, 584, 1092, 1093, 1094, 1095] (by decide +kernel)
theorem wsL_in_r29 : ∀ w ∈ wsL_law_r29, w ∈ lw_tbl := in_ix _ [1096, 1098, 28, 1099, 585, 586, 587, 588, 589, 590, 591, 592, 1100, 1101, 1102, 1103, 593, 594, 595, 596, 597, 1104, 1105, 1106] (by decide +kernel)
theorem wsL_in_r30 : ∀ w ∈ wsL_law_r30, w ∈ lw_tbl := in_ix _ [1107, 598, 599, 600, 601, 602, 603, 604, 605, 1108, 1109, 1110, 1111, 606, 607, 608, 609, 610, 611, 612, 613, 614, 1112, 1113] (by decide +kernel)
theorem wsL_in_r31 : ∀ w ∈ wsL_law_r31, w ∈ lw_tbl := in_ix _ [1114, 1115, 1116, 615, 616, 617, 618, 619, 620, 621, 622, 623, 624, 625, 626, 627, 629, 3, 630, 631, 644, 645, 53, 646] (by decide +kernel)
theorem wsL_in_r32 : ∀ w ∈ wsL_law_r32, w ∈ lw_tbl := in_ix _ [632, 634, 4, 635, 637, 639, 5, 640, 641, 642, 647, 648, 649, 650, 651, 652, 654, 6, 655, 656, 1117, 1118, 1119, 1120] (by decide +kernel)
theorem wsL_in_r33 : ∀ w ∈ wsL_law_r33, w ∈ lw_tbl := in_ix _ [1121, 1123, 29, 1124, 1125, 657, 658, 659, 660, 661, 662, 663, 664, 674, 675, 676, 665, 666, 667, 668, 669, 670, 671, 672] (by decide +kernel)
theorem wsL_in_r34 : ∀ w ∈ wsL_law_r34, w ∈ lw_tbl := in_ix _ [673, 677, 678, 679, 680, 684, 685, 686, 681, 682, 683, 1126, 1127, 1128, 1129, 1130, 1132, 30, 1133, 865, 687, 688, 689, 690] (by decide +kernel)
theorem wsL_in_r35 : ∀ w ∈ wsL_law_r35, w ∈ lw_tbl := in_ix _ [691, 1134, 1135, 1136, 1137, 692, 693, 694, 695, 696, 697, 698, 1138, 1139, 1140, 1141, 699, 700, 701, 702, 703, 704, 705, 706] (by decide +kernel)
theorem wsL_in_r36 : ∀ w ∈ wsL_law_r36, w ∈ lw_tbl := in_ix _ [707, 1142, 1143, 1144, 1145, 708, 709, 710, 711, 712, 713, 714, 715, 716, 717, 718, 719, 720, 722, 7, 723, 724, 725, 726] (by decide +kernel)
theorem wsL_in_r37 : ∀ w ∈ wsL_law_r37, w ∈ lw_tbl := in_ix _ [1146, 1147, 1148, 1149, 1150, 1152, 31, 1153, 1154, 1156, 32, 1157, 728, 729, 730, 731, 732, 733, 734, 735, 736, 737, 1158, 1159] (by decide +kernel)
theorem wsL_in_r38 : ∀ w ∈ wsL_law_r38, w ∈ lw_tbl := in_ix _ [1160, 1161, 738, 739, 740, 741, 1162, 1163, 1164, 1165, 742, 743, 744, 745, 754, 746, 747, 748, 749, 750, 751, 752, 753, 1166] (by decide +kernel)
theorem wsL_in_r39 : ∀ w ∈ wsL_law_r39, w ∈ lw_tbl := in_ix _ [1167, 1168, 1169, 1170, 1172, 33, 1173, 755, 756, 757, 758, 759, 760, 761, 762, 763, 764, 765, 766, 1174, 1175, 1176, 1177, 1178] (by decide +kernel)
theorem wsL_in_r40 : ∀ w ∈ wsL_law_r40, w ∈ lw_tbl := in_ix _ [1180, 34, 1181, 767, 768, 769, 770, 771, 772, 773, 774, 1182, 1183, 1184, 1185, 1186, 775, 776, 777, 778, 779, 780, 1187, 1188] (by decide +kernel)
theorem wsL_in_r41 : ∀ w ∈ wsL_law_r41, w ∈ lw_tbl := in_ix _ [1189, 1190, 1191, 1192, 1193, 1194, 781, 782, 783, 784, 1195, 1196, 1197, 1198, 785, 786, 787, 788, 789, 790, 791, 792, 1199, 1200] (by decide +kernel)
theorem wsL_in_r42 : ∀ w ∈ wsL_law_r42, w ∈ lw_tbl := in_ix _ [1201, 1202, 793, 794, 795, 796, 797, 798, 799, 800, 1203, 1204, 1205, 1206, 801, 802, 803, 804, 805, 806, 807, 808, 809, 810] (by decide +kernel)
theorem wsL_in_r43 : ∀ w ∈ wsL_law_r43, w ∈ lw_tbl := in_ix _ [811, 812, 813, 814, 815, 816, 817, 818, 819, 821, 8, 822, 1207, 1208, 1209, 1210, 1211, 1212, 1214, 35, 1215, 823, 824, 825] (by decide +kernel)
theorem wsL_in_r44 : ∀ w ∈ wsL_law_r44, w ∈ lw_tbl := in_ix _ [826, 827, 828, 829, 830, 1216, 1217, 1218, 1219, 831, 832, 833, 834, 835, 836, 837, 838, 1220, 1221, 1222, 1223, 839, 840, 841] (by decide +kernel)
theorem wsL_in_r45 : ∀ w ∈ wsL_law_r45, w ∈ lw_tbl := in_ix _ [842, 843, 844, 845, 846, 847, 848, 849, 850, 1224, 1225, 1226, 1227, 1228, 1229] (by decide +kernel)
theorem inX7 : ∀ w ∈ wsX70, w ∈ lw_tbl := in_ix _ [182, 184, 186, 188, 190, 192, 194, 196, 198, 200] (by decide +kernel)
theorem inX8 : ∀ w ∈ wsX80, w ∈ lw_tbl := in_ix _ [874, 876, 878, 880, 882, 884, 886, 888, 890, 892, 894, 896, 898, 900, 902, 904, 906] (by decide +kernel)
theorem inX5 : ∀ w ∈ wsX50, w ∈ lw_tbl := in_ix _ [74, 76, 78] (by decide +kernel)
theorem inX1 : ∀ w ∈ wsX10, w ∈ lw_tbl := in_ix _ [98, 100, 102, 104, 106, 108, 110, 112, 114, 116] (by decide +kernel)
theorem inX2 : ∀ w ∈ wsX20, w ∈ lw_tbl := in_ix _ [129, 131, 133] (by decide +kernel)
theorem inX0 : ∀ w ∈ wsX00, w ∈ lw_tbl := in_ix _ [143] (by decide +kernel)
theorem inX4 : ∀ w ∈ wsX40, w ∈ lw_tbl := in_ix _ [154, 156] (by decide +kernel)
theorem inX6 : ∀ w ∈ wsX60, w ∈ lw_tbl := in_ix _ [167, 169] (by decide +kernel)
theorem wsL_law_in : ∀ w ∈ wsL_law, w ∈ lw_tbl := List.forall_mem_append.mpr ⟨List.forall_mem_append.mpr ⟨List.forall_mem_append.mpr ⟨List.forall_mem_append.mpr ⟨List.forall_mem_append.mpr ⟨List.forall_mem_append.mpr ⟨List.forall_mem_append.mpr ⟨List.forall_mem_append.mpr ⟨List.forall_mem_append.mpr ⟨List.forall_mem_append.mpr ⟨wsL_in_r1, List.forall_mem_append.mpr ⟨wsL_in_r2, List.forall_mem_append.mpr ⟨wsL_in_r3, List.forall_mem_append.mpr ⟨wsL_in_r4, List.forall_mem_append.mpr ⟨wsL_in_r5, List.forall_mem_append.mpr ⟨wsL_in_r6, List.forall_mem_append.mpr ⟨wsL_in_r7, List.forall_mem_append.mpr ⟨wsL_in_r8, List.forall_mem_append.mpr ⟨wsL_in_r9, List.forall_mem_append.mpr ⟨wsL_in_r10, List.forall_mem_append.mpr ⟨wsL_in_r11, List.forall_mem_append.mpr ⟨wsL_in_r12, List.forall_mem_append.mpr ⟨wsL_in_r13, List.forall_mem_append.mpr ⟨wsL_in_r14, List.forall_mem_append.mpr ⟨wsL_in_r15, List.forall_mem_append.mpr ⟨wsL_in_r16, List.forall_mem_append.mpr ⟨wsL_in_r17, List.forall_mem_append.mpr ⟨wsL_in_r18, List.forall_mem_append.mpr ⟨wsL_in_r19, List.forall_mem_append.mpr ⟨wsL_in_r20, List.forall_mem_append.mpr ⟨wsL_in_r21, List.forall_mem_append.mpr ⟨wsL_in_r22, List.forall_mem_append.mpr ⟨wsL_in_r23, List.forall_mem_append.mpr ⟨wsL_in_r24, List.forall_mem_append.mpr ⟨wsL_in_r25, List.forall_mem_append.mpr ⟨wsL_in_r26, List.forall_mem_append.mpr ⟨wsL_in_r27, List.forall_mem_append.mpr ⟨wsL_in_r28, List.forall_mem_append.mpr ⟨wsL_in_r29, List.forall_mem_append.mpr ⟨wsL_in_r30, List.forall_mem_append.mpr ⟨wsL_in_r31, List.forall_mem_append.mpr ⟨wsL_in_r32, List.forall_mem_append.mpr ⟨wsL_in_r33, List.forall_mem_append.mpr ⟨wsL_in_r34, List.forall_mem_append.mpr ⟨wsL_in_r35, List.forall_mem_append.mpr ⟨wsL_in_r36, List.forall_mem_append.mpr ⟨wsL_in_r37, List.forall_mem_append.mpr ⟨wsL_in_r38, List.forall_mem_append.mpr ⟨wsL_in_r39, List.forall_mem_append.mpr ⟨wsL_in_r40, List.forall_mem_append.mpr ⟨wsL_in_r41, List.forall_mem_append.mpr ⟨wsL_in_r42, List.forall_mem_append.mpr ⟨wsL_in_r43, List.forall_mem_append.mpr ⟨wsL_in_r44, wsL_in_r45⟩⟩⟩⟩⟩⟩⟩⟩⟩⟩⟩⟩⟩⟩⟩⟩⟩⟩⟩⟩⟩⟩⟩⟩⟩⟩⟩⟩⟩⟩⟩⟩⟩⟩⟩⟩⟩⟩⟩⟩⟩⟩⟩⟩, inX7⟩, inX8⟩, inX5⟩, inX1⟩, inX2⟩, inX0⟩, inX4⟩, inX6⟩, fun _ h => absurd h List.not_mem_nil⟩
theorem inlX0 : ∀ w ∈ wsX00, w ∈ wsL_law := fun _ h => List.mem_append_left _ (List.mem_append_left _ (List.mem_append_left _ (List.mem_append_right _ h)))
theorem inlX1 : ∀ w ∈ wsX10, w ∈ wsL_law := fun _ h => List.mem_append_left _ (List.mem_append_left _ (List.mem_append_left _ (List.mem_append_left _ (List.mem_append_left _ (List.mem_append_right _ h)))))
theorem inlX2 : ∀ w ∈ wsX20, w ∈ wsL_law := fun _ h => List.mem_append_left _ (List.mem_append_left _ (List.mem_append_left _ (List.mem_append_left _ (List.mem_append_right _ h))))
theorem inX3 : ∀ w ∈ wsX30, w ∈ lw_tbl := by decide +kernel
theorem inlX4 : ∀ w ∈ wsX40, w ∈ wsL_law := fun _ h => List.mem_append_left _ (List.mem_append_left _ (List.mem_append_right _ h))
theorem inlX5 : ∀ w ∈ wsX50, w ∈ wsL_law := fun _ h => List.mem_append_left _ (List.mem_append_left _ (List.mem_append_left _ (List.mem_append_left _ (List.mem_append_left _ (List.mem_append_left _ (List.mem_append_right _ h))))))
theorem inlX6 : ∀ w ∈ wsX60, w ∈ wsL_law := fun _ h => List.mem_append_left _ (List.mem_append_right _ h)
theorem inlX7 : ∀ w ∈ wsX70, w ∈ wsL_law := fun _ h => List.mem_append_left _ (List.mem_append_left _ (List.mem_append_left _ (List.mem_append_left _ (List.mem_append_left _ (List.mem_append_left _ (List.mem_append_left _ (List.mem_append_left _ (List.mem_append_right _ h))))))))
theorem inlX8 : ∀ w ∈ wsX80, w ∈ wsL_law := fun _ h => List.mem_append_left _ (List.mem_append_left _ (List.mem_append_left _ (List.mem_append_left _ (List.mem_append_left _ (List.mem_append_left _ (List.mem_append_left _ (List.mem_append_right _ h)))))))
theorem dL_law_0 : decode cL_law 0 = .ok (.new 7, 3) := by decide +kernel
theorem dL_law_3 : decode cL_law 3 = .ok (.dup, 1) := by decide +kernel
theorem dL_law_4 : decode cL_law 4 = .ok (.invokespecial 9, 3) := by decide +kernel
theorem dL_law_7 : decode cL_law 7 = .ok (.astore_n 1, 1) := by decide +kernel
theorem dL_law_8 : decode cL_law 8 = .ok (.new 10, 3) := by decide +kernel
theorem dL_law_11 : decode cL_law 11 = .ok (.dup, 1) := by decide +kernel
theorem dL_law_12 : decode cL_law 12 = .ok (.invokespecial 12, 3) := by decide +kernel
theorem dL_law_15 : decode cL_law 15 = .ok (.astore_n 2, 1) := by decide +kernel
theorem dL_law_16 : decode cL_law 16 = .ok (.iconst 0, 1) := by decide +kernel
theorem dL_law_17 : decode cL_law 17 = .ok (.istore_n 3, 1) := by decide +kernel
theorem dL_law_18 : decode cL_law 18 = .ok (.iload_n 3, 1) := by decide +kernel
theorem dL_law_19 : decode cL_law 19 = .ok (.aload_n 0, 1) := by decide +kernel
theorem dL_law_20 : decode cL_law 20 = .ok (.arraylength, 1) := by decide +kernel
theorem dL_law_21 : decode cL_law 21 = .ok (.bipush 6, 2) := by decide +kernel
theorem dL_law_23 : decode cL_law 23 = .ok (.isub, 1) := by decide +kernel
theorem dL_law_24 : decode cL_law 24 = .ok (.if_icmp .gt 1247, 3) := by decide +kernel
theorem dL_law_27 : decode cL_law 27 = .ok (.aload_n 0, 1) := by decide +kernel
theorem dL_law_28 : decode cL_law 28 = .ok (.iload_n 3, 1) := by decide +kernel
theorem dL_law_29 : decode cL_law 29 = .ok (.iaload, 1) := by decide +kernel
theorem dL_law_30 : decode cL_law 30 = .ok (.bipush 63, 2) := by decide +kernel
theorem dL_law_32 : decode cL_law 32 = .ok (.iand, 1) := by decide +kernel
theorem dL_law_33 : decode cL_law 33 = .ok (.tableswitch 1232 0 41 #[183, 216, 259, 292, 315, 378, 401, 434, 477, 500, 523, 556, 589, 642, 665, 688, 701, 724, 747, 770, 793, 816, 829, 852, 875, 888, 911, 934, 967, 980, 993, 1016, 1029, 1052, 1085, 1118, 1131, 1145, 1159, 1182, 1195, 1218], 183) := by decide +kernel
theorem dL_law_216 : decode cL_law 216 = .ok (.aload_n 1, 1) := by decide +kernel
theorem dL_law_217 : decode cL_law 217 = .ok (.aload_n 0, 1) := by decide +kernel
theorem dL_law_218 : decode cL_law 218 = .ok (.iload_n 3, 1) := by decide +kernel
theorem dL_law_219 : decode cL_law 219 = .ok (.iconst 1, 1) := by decide +kernel
theorem dL_law_220 : decode cL_law 220 = .ok (.iadd, 1) := by decide +kernel
theorem dL_law_221 : decode cL_law 221 = .ok (.iaload, 1) := by decide +kernel
theorem dL_law_222 : decode cL_law 222 = .ok (.aload_n 0, 1) := by decide +kernel
theorem dL_law_223 : decode cL_law 223 = .ok (.iload_n 3, 1) := by decide +kernel
theorem dL_law_224 : decode cL_law 224 = .ok (.iconst 2, 1) := by decide +kernel
theorem dL_law_225 : decode cL_law 225 = .ok (.iadd, 1) := by decide +kernel
theorem dL_law_226 : decode cL_law 226 = .ok (.iaload, 1) := by decide +kernel
theorem dL_law_227 : decode cL_law 227 = .ok (.invokevirtual 13, 3) := by decide +kernel
theorem dL_law_230 : decode cL_law 230 = .ok (.aload_n 2, 1) := by decide +kernel
theorem dL_law_231 : decode cL_law 231 = .ok (.aload_n 0, 1) := by decide +kernel
theorem dL_law_232 : decode cL_law 232 = .ok (.iload_n 3, 1) := by decide +kernel
theorem dL_law_233 : decode cL_law 233 = .ok (.iconst 1, 1) := by decide +kernel
theorem dL_law_234 : decode cL_law 234 = .ok (.iadd, 1) := by decide +kernel
theorem dL_law_235 : decode cL_law 235 = .ok (.iaload, 1) := by decide +kernel
theorem dL_law_236 : decode cL_law 236 = .ok (.aload_n 0, 1) := by decide +kernel
theorem dL_law_237 : decode cL_law 237 = .ok (.iload_n 3, 1) := by decide +kernel
theorem dL_law_238 : decode cL_law 238 = .ok (.iconst 2, 1) := by decide +kernel
theorem dL_law_239 : decode cL_law 239 = .ok (.iadd, 1) := by decide +kernel
theorem dL_law_240 : decode cL_law 240 = .ok (.iaload, 1) := by decide +kernel
theorem dL_law_241 : decode cL_law 241 = .ok (.invokevirtual 17, 3) := by decide +kernel
theorem dL_law_244 : decode cL_law 244 = .ok (.if_icmp .eq 1021, 3) := by decide +kernel
theorem dL_law_247 : decode cL_law 247 = .ok (.iconst 0, 1) := by decide +kernel
theorem dL_law_248 : decode cL_law 248 = .ok (.ireturn, 1) := by decide +kernel
theorem dL_law_249 : decode cL_law 249 = .ok (.aload_n 1, 1) := by decide +kernel
theorem dL_law_250 : decode cL_law 250 = .ok (.aload_n 0, 1) := by decide +kernel
theorem dL_law_251 : decode cL_law 251 = .ok (.iload_n 3, 1) := by decide +kernel
theorem dL_law_252 : decode cL_law 252 = .ok (.iconst 1, 1) := by decide +kernel
theorem dL_law_253 : decode cL_law 253 = .ok (.iadd, 1) := by decide +kernel
theorem dL_law_254 : decode cL_law 254 = .ok (.iaload, 1) := by decide +kernel
theorem dL_law_255 : decode cL_law 255 = .ok (.aload_n 0, 1) := by decide +kernel
theorem dL_law_256 : decode cL_law 256 = .ok (.iload_n 3, 1) := by decide +kernel
theorem dL_law_257 : decode cL_law 257 = .ok (.iconst 2, 1) := by decide +kernel
theorem dL_law_258 : decode cL_law 258 = .ok (.iadd, 1) := by decide +kernel
theorem dL_law_259 : decode cL_law 259 = .ok (.iaload, 1) := by decide +kernel
theorem dL_law_260 : decode cL_law 260 = .ok (.aload_n 0, 1) := by decide +kernel
theorem dL_law_261 : decode cL_law 261 = .ok (.iload_n 3, 1) := by decide +kernel
theorem dL_law_262 : decode cL_law 262 = .ok (.iconst 3, 1) := by decide +kernel
theorem dL_law_263 : decode cL_law 263 = .ok (.iadd, 1) := by decide +kernel
theorem dL_law_264 : decode cL_law 264 = .ok (.iaload, 1) := by decide +kernel
theorem dL_law_265 : decode cL_law 265 = .ok (.invokevirtual 18, 3) := by decide +kernel
theorem dL_law_268 : decode cL_law 268 = .ok (.aload_n 2, 1) := by decide +kernel
theorem dL_law_269 : decode cL_law 269 = .ok (.aload_n 0, 1) := by decide +kernel
theorem dL_law_270 : decode cL_law 270 = .ok (.iload_n 3, 1) := by decide +kernel
theorem dL_law_271 : decode cL_law 271 = .ok (.iconst 1, 1) := by decide +kernel
theorem dL_law_272 : decode cL_law 272 = .ok (.iadd, 1) := by decide +kernel
theorem dL_law_273 : decode cL_law 273 = .ok (.iaload, 1) := by decide +kernel
theorem dL_law_274 : decode cL_law 274 = .ok (.aload_n 0, 1) := by decide +kernel
theorem dL_law_275 : decode cL_law 275 = .ok (.iload_n 3, 1) := by decide +kernel
theorem dL_law_276 : decode cL_law 276 = .ok (.iconst 2, 1) := by decide +kernel
theorem dL_law_277 : decode cL_law 277 = .ok (.iadd, 1) := by decide +kernel
theorem dL_law_278 : decode cL_law 278 = .ok (.iaload, 1) := by decide +kernel
theorem dL_law_279 : decode cL_law 279 = .ok (.aload_n 0, 1) := by decide +kernel
theorem dL_law_280 : decode cL_law 280 = .ok (.iload_n 3, 1) := by decide +kernel
theorem dL_law_281 : decode cL_law 281 = .ok (.iconst 3, 1) := by decide +kernel
theorem dL_law_282 : decode cL_law 282 = .ok (.iadd, 1) := by decide +kernel
theorem dL_law_283 : decode cL_law 283 = .ok (.iaload, 1) := by decide +kernel
theorem dL_law_284 : decode cL_law 284 = .ok (.invokevirtual 22, 3) := by decide +kernel
theorem dL_law_287 : decode cL_law 287 = .ok (.if_icmp .eq 978, 3) := by decide +kernel
theorem dL_law_290 : decode cL_law 290 = .ok (.iconst 0, 1) := by decide +kernel
theorem dL_law_291 : decode cL_law 291 = .ok (.ireturn, 1) := by decide +kernel
theorem dL_law_292 : decode cL_law 292 = .ok (.aload_n 1, 1) := by decide +kernel
theorem dL_law_293 : decode cL_law 293 = .ok (.aload_n 0, 1) := by decide +kernel
theorem dL_law_294 : decode cL_law 294 = .ok (.iload_n 3, 1) := by decide +kernel
theorem dL_law_295 : decode cL_law 295 = .ok (.iconst 1, 1) := by decide +kernel
theorem dL_law_296 : decode cL_law 296 = .ok (.iadd, 1) := by decide +kernel
theorem dL_law_297 : decode cL_law 297 = .ok (.iaload, 1) := by decide +kernel
theorem dL_law_298 : decode cL_law 298 = .ok (.aload_n 0, 1) := by decide +kernel
theorem dL_law_299 : decode cL_law 299 = .ok (.iload_n 3, 1) := by decide +kernel
theorem dL_law_300 : decode cL_law 300 = .ok (.iconst 2, 1) := by decide +kernel
theorem dL_law_301 : decode cL_law 301 = .ok (.iadd, 1) := by decide +kernel
theorem dL_law_302 : decode cL_law 302 = .ok (.iaload, 1) := by decide +kernel
theorem dL_law_303 : decode cL_law 303 = .ok (.invokevirtual 23, 3) := by decide +kernel
theorem dL_law_306 : decode cL_law 306 = .ok (.aload_n 2, 1) := by decide +kernel
theorem dL_law_307 : decode cL_law 307 = .ok (.aload_n 0, 1) := by decide +kernel
theorem dL_law_308 : decode cL_law 308 = .ok (.iload_n 3, 1) := by decide +kernel
theorem dL_law_309 : decode cL_law 309 = .ok (.iconst 1, 1) := by decide +kernel
theorem dL_law_310 : decode cL_law 310 = .ok (.iadd, 1) := by decide +kernel
theorem dL_law_311 : decode cL_law 311 = .ok (.iaload, 1) := by decide +kernel
theorem dL_law_312 : decode cL_law 312 = .ok (.aload_n 0, 1) := by decide +kernel
theorem dL_law_313 : decode cL_law 313 = .ok (.iload_n 3, 1) := by decide +kernel
theorem dL_law_314 : decode cL_law 314 = .ok (.iconst 2, 1) := by decide +kernel
theorem dL_law_315 : decode cL_law 315 = .ok (.iadd, 1) := by decide +kernel
theorem dL_law_316 : decode cL_law 316 = .ok (.iaload, 1) := by decide +kernel
theorem dL_law_317 : decode cL_law 317 = .ok (.invokevirtual 26, 3) := by decide +kernel
theorem dL_law_320 : decode cL_law 320 = .ok (.if_icmp .eq 945, 3) := by decide +kernel
theorem dL_law_323 : decode cL_law 323 = .ok (.iconst 0, 1) := by decide +kernel
theorem dL_law_324 : decode cL_law 324 = .ok (.ireturn, 1) := by decide +kernel
theorem dL_law_325 : decode cL_law 325 = .ok (.aload_n 1, 1) := by decide +kernel
theorem dL_law_326 : decode cL_law 326 = .ok (.aload_n 0, 1) := by decide +kernel
theorem dL_law_327 : decode cL_law 327 = .ok (.iload_n 3, 1) := by decide +kernel
theorem dL_law_328 : decode cL_law 328 = .ok (.iconst 1, 1) := by decide +kernel
theorem dL_law_329 : decode cL_law 329 = .ok (.iadd, 1) := by decide +kernel
theorem dL_law_330 : decode cL_law 330 = .ok (.iaload, 1) := by decide +kernel
theorem dL_law_331 : decode cL_law 331 = .ok (.invokevirtual 27, 3) := by decide +kernel
theorem dL_law_334 : decode cL_law 334 = .ok (.aload_n 2, 1) := by decide +kernel
theorem dL_law_335 : decode cL_law 335 = .ok (.aload_n 0, 1) := by decide +kernel
theorem dL_law_336 : decode cL_law 336 = .ok (.iload_n 3, 1) := by decide +kernel
theorem dL_law_337 : decode cL_law 337 = .ok (.iconst 1, 1) := by decide +kernel
theorem dL_law_338 : decode cL_law 338 = .ok (.iadd, 1) := by decide +kernel
theorem dL_law_339 : decode cL_law 339 = .ok (.iaload, 1) := by decide +kernel
theorem dL_law_340 : decode cL_law 340 = .ok (.invokevirtual 31, 3) := by decide +kernel
theorem dL_law_343 : decode cL_law 343 = .ok (.if_icmp .eq 922, 3) := by decide +kernel
theorem dL_law_346 : decode cL_law 346 = .ok (.iconst 0, 1) := by decide +kernel
theorem dL_law_347 : decode cL_law 347 = .ok (.ireturn, 1) := by decide +kernel
theorem dL_law_348 : decode cL_law 348 = .ok (.aload_n 1, 1) := by decide +kernel
theorem dL_law_349 : decode cL_law 349 = .ok (.aload_n 0, 1) := by decide +kernel
theorem dL_law_350 : decode cL_law 350 = .ok (.iload_n 3, 1) := by decide +kernel
theorem dL_law_351 : decode cL_law 351 = .ok (.iconst 1, 1) := by decide +kernel
theorem dL_law_352 : decode cL_law 352 = .ok (.iadd, 1) := by decide +kernel
theorem dL_law_353 : decode cL_law 353 = .ok (.iaload, 1) := by decide +kernel
theorem dL_law_354 : decode cL_law 354 = .ok (.aload_n 0, 1) := by decide +kernel
theorem dL_law_355 : decode cL_law 355 = .ok (.iload_n 3, 1) := by decide +kernel
theorem dL_law_356 : decode cL_law 356 = .ok (.iconst 2, 1) := by decide +kernel
theorem dL_law_357 : decode cL_law 357 = .ok (.iadd, 1) := by decide +kernel
theorem dL_law_358 : decode cL_law 358 = .ok (.iaload, 1) := by decide +kernel
theorem dL_law_359 : decode cL_law 359 = .ok (.aload_n 0, 1) := by decide +kernel
theorem dL_law_360 : decode cL_law 360 = .ok (.iload_n 3, 1) := by decide +kernel
theorem dL_law_361 : decode cL_law 361 = .ok (.iconst 3, 1) := by decide +kernel
theorem dL_law_362 : decode cL_law 362 = .ok (.iadd, 1) := by decide +kernel
theorem dL_law_363 : decode cL_law 363 = .ok (.iaload, 1) := by decide +kernel
theorem dL_law_364 : decode cL_law 364 = .ok (.aload_n 0, 1) := by decide +kernel
theorem dL_law_365 : decode cL_law 365 = .ok (.iload_n 3, 1) := by decide +kernel
theorem dL_law_366 : decode cL_law 366 = .ok (.iconst 4, 1) := by decide +kernel
theorem dL_law_367 : decode cL_law 367 = .ok (.iadd, 1) := by decide +kernel
theorem dL_law_368 : decode cL_law 368 = .ok (.iaload, 1) := by decide +kernel
theorem dL_law_369 : decode cL_law 369 = .ok (.aload_n 0, 1) := by decide +kernel
theorem dL_law_370 : decode cL_law 370 = .ok (.iload_n 3, 1) := by decide +kernel
theorem dL_law_371 : decode cL_law 371 = .ok (.iconst 5, 1) := by decide +kernel
theorem dL_law_372 : decode cL_law 372 = .ok (.iadd, 1) := by decide +kernel
theorem dL_law_373 : decode cL_law 373 = .ok (.iaload, 1) := by decide +kernel
theorem dL_law_374 : decode cL_law 374 = .ok (.invokevirtual 32, 3) := by decide +kernel
theorem dL_law_377 : decode cL_law 377 = .ok (.aload_n 2, 1) := by decide +kernel
theorem dL_law_378 : decode cL_law 378 = .ok (.aload_n 0, 1) := by decide +kernel
theorem dL_law_379 : decode cL_law 379 = .ok (.iload_n 3, 1) := by decide +kernel
theorem dL_law_380 : decode cL_law 380 = .ok (.iconst 1, 1) := by decide +kernel
theorem dL_law_381 : decode cL_law 381 = .ok (.iadd, 1) := by decide +kernel
theorem dL_law_382 : decode cL_law 382 = .ok (.iaload, 1) := by decide +kernel
theorem dL_law_383 : decode cL_law 383 = .ok (.aload_n 0, 1) := by decide +kernel
theorem dL_law_384 : decode cL_law 384 = .ok (.iload_n 3, 1) := by decide +kernel
theorem dL_law_385 : decode cL_law 385 = .ok (.iconst 2, 1) := by decide +kernel
theorem dL_law_386 : decode cL_law 386 = .ok (.iadd, 1) := by decide +kernel
theorem dL_law_387 : decode cL_law 387 = .ok (.iaload, 1) := by decide +kernel
theorem dL_law_388 : decode cL_law 388 = .ok (.aload_n 0, 1) := by decide +kernel
theorem dL_law_389 : decode cL_law 389 = .ok (.iload_n 3, 1) := by decide +kernel
theorem dL_law_390 : decode cL_law 390 = .ok (.iconst 3, 1) := by decide +kernel
theorem dL_law_391 : decode cL_law 391 = .ok (.iadd, 1) := by decide +kernel
theorem dL_law_392 : decode cL_law 392 = .ok (.iaload, 1) := by decide +kernel
theorem dL_law_393 : decode cL_law 393 = .ok (.aload_n 0, 1) := by decide +kernel
theorem dL_law_394 : decode cL_law 394 = .ok (.iload_n 3, 1) := by decide +kernel
theorem dL_law_395 : decode cL_law 395 = .ok (.iconst 4, 1) := by decide +kernel
theorem dL_law_396 : decode cL_law 396 = .ok (.iadd, 1) := by decide +kernel
theorem dL_law_397 : decode cL_law 397 = .ok (.iaload, 1) := by decide +kernel
theorem dL_law_398 : decode cL_law 398 = .ok (.aload_n 0, 1) := by decide +kernel
theorem dL_law_399 : decode cL_law 399 = .ok (.iload_n 3, 1) := by decide +kernel
theorem dL_law_400 : decode cL_law 400 = .ok (.iconst 5, 1) := by decide +kernel
theorem dL_law_401 : decode cL_law 401 = .ok (.iadd, 1) := by decide +kernel
theorem dL_law_402 : decode cL_law 402 = .ok (.iaload, 1) := by decide +kernel
theorem dL_law_403 : decode cL_law 403 = .ok (.invokevirtual 36, 3) := by decide +kernel
theorem dL_law_406 : decode cL_law 406 = .ok (.if_icmp .eq 859, 3) := by decide +kernel
theorem dL_law_409 : decode cL_law 409 = .ok (.iconst 0, 1) := by decide +kernel
theorem dL_law_410 : decode cL_law 410 = .ok (.ireturn, 1) := by decide +kernel
theorem dL_law_411 : decode cL_law 411 = .ok (.aload_n 1, 1) := by decide +kernel
theorem dL_law_412 : decode cL_law 412 = .ok (.aload_n 0, 1) := by decide +kernel
theorem dL_law_413 : decode cL_law 413 = .ok (.iload_n 3, 1) := by decide +kernel
theorem dL_law_414 : decode cL_law 414 = .ok (.iconst 1, 1) := by decide +kernel
theorem dL_law_415 : decode cL_law 415 = .ok (.iadd, 1) := by decide +kernel
theorem dL_law_416 : decode cL_law 416 = .ok (.iaload, 1) := by decide +kernel
theorem dL_law_417 : decode cL_law 417 = .ok (.invokevirtual 37, 3) := by decide +kernel
theorem dL_law_420 : decode cL_law 420 = .ok (.aload_n 2, 1) := by decide +kernel
theorem dL_law_421 : decode cL_law 421 = .ok (.aload_n 0, 1) := by decide +kernel
theorem dL_law_422 : decode cL_law 422 = .ok (.iload_n 3, 1) := by decide +kernel
theorem dL_law_423 : decode cL_law 423 = .ok (.iconst 1, 1) := by decide +kernel
theorem dL_law_424 : decode cL_law 424 = .ok (.iadd, 1) := by decide +kernel
theorem dL_law_425 : decode cL_law 425 = .ok (.iaload, 1) := by decide +kernel
theorem dL_law_426 : decode cL_law 426 = .ok (.invokevirtual 40, 3) := by decide +kernel
theorem dL_law_429 : decode cL_law 429 = .ok (.if_icmp .eq 836, 3) := by decide +kernel
theorem dL_law_432 : decode cL_law 432 = .ok (.iconst 0, 1) := by decide +kernel
theorem dL_law_433 : decode cL_law 433 = .ok (.ireturn, 1) := by decide +kernel
theorem dL_law_434 : decode cL_law 434 = .ok (.aload_n 1, 1) := by decide +kernel
theorem dL_law_435 : decode cL_law 435 = .ok (.aload_n 0, 1) := by decide +kernel
theorem dL_law_436 : decode cL_law 436 = .ok (.iload_n 3, 1) := by decide +kernel
theorem dL_law_437 : decode cL_law 437 = .ok (.iconst 1, 1) := by decide +kernel
theorem dL_law_438 : decode cL_law 438 = .ok (.iadd, 1) := by decide +kernel
theorem dL_law_439 : decode cL_law 439 = .ok (.iaload, 1) := by decide +kernel
theorem dL_law_440 : decode cL_law 440 = .ok (.aload_n 0, 1) := by decide +kernel
theorem dL_law_441 : decode cL_law 441 = .ok (.iload_n 3, 1) := by decide +kernel
theorem dL_law_442 : decode cL_law 442 = .ok (.iconst 2, 1) := by decide +kernel
theorem dL_law_443 : decode cL_law 443 = .ok (.iadd, 1) := by decide +kernel
theorem dL_law_444 : decode cL_law 444 = .ok (.iaload, 1) := by decide +kernel
theorem dL_law_445 : decode cL_law 445 = .ok (.invokevirtual 41, 3) := by decide +kernel
theorem dL_law_448 : decode cL_law 448 = .ok (.aload_n 2, 1) := by decide +kernel
theorem dL_law_449 : decode cL_law 449 = .ok (.aload_n 0, 1) := by decide +kernel
theorem dL_law_450 : decode cL_law 450 = .ok (.iload_n 3, 1) := by decide +kernel
theorem dL_law_451 : decode cL_law 451 = .ok (.iconst 1, 1) := by decide +kernel
theorem dL_law_452 : decode cL_law 452 = .ok (.iadd, 1) := by decide +kernel
theorem dL_law_453 : decode cL_law 453 = .ok (.iaload, 1) := by decide +kernel
theorem dL_law_454 : decode cL_law 454 = .ok (.aload_n 0, 1) := by decide +kernel
theorem dL_law_455 : decode cL_law 455 = .ok (.iload_n 3, 1) := by decide +kernel
theorem dL_law_456 : decode cL_law 456 = .ok (.iconst 2, 1) := by decide +kernel
theorem dL_law_457 : decode cL_law 457 = .ok (.iadd, 1) := by decide +kernel
theorem dL_law_458 : decode cL_law 458 = .ok (.iaload, 1) := by decide +kernel
theorem dL_law_459 : decode cL_law 459 = .ok (.invokevirtual 44, 3) := by decide +kernel
theorem dL_law_462 : decode cL_law 462 = .ok (.if_icmp .eq 803, 3) := by decide +kernel
theorem dL_law_465 : decode cL_law 465 = .ok (.iconst 0, 1) := by decide +kernel
theorem dL_law_466 : decode cL_law 466 = .ok (.ireturn, 1) := by decide +kernel
theorem dL_law_467 : decode cL_law 467 = .ok (.aload_n 1, 1) := by decide +kernel
theorem dL_law_468 : decode cL_law 468 = .ok (.aload_n 0, 1) := by decide +kernel
theorem dL_law_469 : decode cL_law 469 = .ok (.iload_n 3, 1) := by decide +kernel
theorem dL_law_470 : decode cL_law 470 = .ok (.iconst 1, 1) := by decide +kernel
theorem dL_law_471 : decode cL_law 471 = .ok (.iadd, 1) := by decide +kernel
theorem dL_law_472 : decode cL_law 472 = .ok (.iaload, 1) := by decide +kernel
theorem dL_law_473 : decode cL_law 473 = .ok (.aload_n 0, 1) := by decide +kernel
theorem dL_law_474 : decode cL_law 474 = .ok (.iload_n 3, 1) := by decide +kernel
theorem dL_law_475 : decode cL_law 475 = .ok (.iconst 2, 1) := by decide +kernel
theorem dL_law_476 : decode cL_law 476 = .ok (.iadd, 1) := by decide +kernel
theorem dL_law_477 : decode cL_law 477 = .ok (.iaload, 1) := by decide +kernel
theorem dL_law_478 : decode cL_law 478 = .ok (.aload_n 0, 1) := by decide +kernel
theorem dL_law_479 : decode cL_law 479 = .ok (.iload_n 3, 1) := by decide +kernel
theorem dL_law_480 : decode cL_law 480 = .ok (.iconst 3, 1) := by decide +kernel
theorem dL_law_481 : decode cL_law 481 = .ok (.iadd, 1) := by decide +kernel
theorem dL_law_482 : decode cL_law 482 = .ok (.iaload, 1) := by decide +kernel
theorem dL_law_483 : decode cL_law 483 = .ok (.invokevirtual 45, 3) := by decide +kernel
theorem dL_law_486 : decode cL_law 486 = .ok (.aload_n 2, 1) := by decide +kernel
theorem dL_law_487 : decode cL_law 487 = .ok (.aload_n 0, 1) := by decide +kernel
theorem dL_law_488 : decode cL_law 488 = .ok (.iload_n 3, 1) := by decide +kernel
theorem dL_law_489 : decode cL_law 489 = .ok (.iconst 1, 1) := by decide +kernel
theorem dL_law_490 : decode cL_law 490 = .ok (.iadd, 1) := by decide +kernel
theorem dL_law_491 : decode cL_law 491 = .ok (.iaload, 1) := by decide +kernel
theorem dL_law_492 : decode cL_law 492 = .ok (.aload_n 0, 1) := by decide +kernel
theorem dL_law_493 : decode cL_law 493 = .ok (.iload_n 3, 1) := by decide +kernel
theorem dL_law_494 : decode cL_law 494 = .ok (.iconst 2, 1) := by decide +kernel
theorem dL_law_495 : decode cL_law 495 = .ok (.iadd, 1) := by decide +kernel
theorem dL_law_496 : decode cL_law 496 = .ok (.iaload, 1) := by decide +kernel
theorem dL_law_497 : decode cL_law 497 = .ok (.aload_n 0, 1) := by decide +kernel
theorem dL_law_498 : decode cL_law 498 = .ok (.iload_n 3, 1) := by decide +kernel
theorem dL_law_499 : decode cL_law 499 = .ok (.iconst 3, 1) := by decide +kernel
theorem dL_law_500 : decode cL_law 500 = .ok (.iadd, 1) := by decide +kernel
theorem dL_law_501 : decode cL_law 501 = .ok (.iaload, 1) := by decide +kernel
theorem dL_law_502 : decode cL_law 502 = .ok (.invokevirtual 48, 3) := by decide +kernel
theorem dL_law_505 : decode cL_law 505 = .ok (.if_icmp .eq 760, 3) := by decide +kernel
theorem dL_law_508 : decode cL_law 508 = .ok (.iconst 0, 1) := by decide +kernel
theorem dL_law_509 : decode cL_law 509 = .ok (.ireturn, 1) := by decide +kernel
theorem dL_law_510 : decode cL_law 510 = .ok (.aload_n 1, 1) := by decide +kernel
theorem dL_law_511 : decode cL_law 511 = .ok (.aload_n 0, 1) := by decide +kernel
theorem dL_law_512 : decode cL_law 512 = .ok (.iload_n 3, 1) := by decide +kernel
theorem dL_law_513 : decode cL_law 513 = .ok (.iconst 1, 1) := by decide +kernel
theorem dL_law_514 : decode cL_law 514 = .ok (.iadd, 1) := by decide +kernel
theorem dL_law_515 : decode cL_law 515 = .ok (.iaload, 1) := by decide +kernel
theorem dL_law_516 : decode cL_law 516 = .ok (.invokevirtual 49, 3) := by decide +kernel
theorem dL_law_519 : decode cL_law 519 = .ok (.aload_n 2, 1) := by decide +kernel
theorem dL_law_520 : decode cL_law 520 = .ok (.aload_n 0, 1) := by decide +kernel
theorem dL_law_521 : decode cL_law 521 = .ok (.iload_n 3, 1) := by decide +kernel
theorem dL_law_522 : decode cL_law 522 = .ok (.iconst 1, 1) := by decide +kernel
theorem dL_law_523 : decode cL_law 523 = .ok (.iadd, 1) := by decide +kernel
theorem dL_law_524 : decode cL_law 524 = .ok (.iaload, 1) := by decide +kernel
theorem dL_law_525 : decode cL_law 525 = .ok (.invokevirtual 52, 3) := by decide +kernel
theorem dL_law_528 : decode cL_law 528 = .ok (.if_icmp .eq 737, 3) := by decide +kernel
theorem dL_law_531 : decode cL_law 531 = .ok (.iconst 0, 1) := by decide +kernel
theorem dL_law_532 : decode cL_law 532 = .ok (.ireturn, 1) := by decide +kernel
theorem dL_law_533 : decode cL_law 533 = .ok (.aload_n 1, 1) := by decide +kernel
theorem dL_law_534 : decode cL_law 534 = .ok (.aload_n 0, 1) := by decide +kernel
theorem dL_law_535 : decode cL_law 535 = .ok (.iload_n 3, 1) := by decide +kernel
theorem dL_law_536 : decode cL_law 536 = .ok (.iconst 1, 1) := by decide +kernel
theorem dL_law_537 : decode cL_law 537 = .ok (.iadd, 1) := by decide +kernel
theorem dL_law_538 : decode cL_law 538 = .ok (.iaload, 1) := by decide +kernel
theorem dL_law_539 : decode cL_law 539 = .ok (.invokevirtual 53, 3) := by decide +kernel
theorem dL_law_542 : decode cL_law 542 = .ok (.aload_n 2, 1) := by decide +kernel
theorem dL_law_543 : decode cL_law 543 = .ok (.aload_n 0, 1) := by decide +kernel
theorem dL_law_544 : decode cL_law 544 = .ok (.iload_n 3, 1) := by decide +kernel
theorem dL_law_545 : decode cL_law 545 = .ok (.iconst 1, 1) := by decide +kernel
theorem dL_law_546 : decode cL_law 546 = .ok (.iadd, 1) := by decide +kernel
theorem dL_law_547 : decode cL_law 547 = .ok (.iaload, 1) := by decide +kernel
theorem dL_law_548 : decode cL_law 548 = .ok (.invokevirtual 56, 3) := by decide +kernel
theorem dL_law_551 : decode cL_law 551 = .ok (.if_icmp .eq 714, 3) := by decide +kernel
theorem dL_law_554 : decode cL_law 554 = .ok (.iconst 0, 1) := by decide +kernel
theorem dL_law_555 : decode cL_law 555 = .ok (.ireturn, 1) := by decide +kernel
theorem dL_law_556 : decode cL_law 556 = .ok (.aload_n 1, 1) := by decide +kernel
theorem dL_law_557 : decode cL_law 557 = .ok (.aload_n 0, 1) := by decide +kernel
theorem dL_law_558 : decode cL_law 558 = .ok (.iload_n 3, 1) := by decide +kernel
theorem dL_law_559 : decode cL_law 559 = .ok (.iconst 1, 1) := by decide +kernel
theorem dL_law_560 : decode cL_law 560 = .ok (.iadd, 1) := by decide +kernel
theorem dL_law_561 : decode cL_law 561 = .ok (.iaload, 1) := by decide +kernel
theorem dL_law_562 : decode cL_law 562 = .ok (.aload_n 0, 1) := by decide +kernel
theorem dL_law_563 : decode cL_law 563 = .ok (.iload_n 3, 1) := by decide +kernel
theorem dL_law_564 : decode cL_law 564 = .ok (.iconst 2, 1) := by decide +kernel
theorem dL_law_565 : decode cL_law 565 = .ok (.iadd, 1) := by decide +kernel
theorem dL_law_566 : decode cL_law 566 = .ok (.iaload, 1) := by decide +kernel
theorem dL_law_567 : decode cL_law 567 = .ok (.invokevirtual 57, 3) := by decide +kernel
theorem dL_law_570 : decode cL_law 570 = .ok (.aload_n 2, 1) := by decide +kernel
theorem dL_law_571 : decode cL_law 571 = .ok (.aload_n 0, 1) := by decide +kernel
theorem dL_law_572 : decode cL_law 572 = .ok (.iload_n 3, 1) := by decide +kernel
theorem dL_law_573 : decode cL_law 573 = .ok (.iconst 1, 1) := by decide +kernel
theorem dL_law_574 : decode cL_law 574 = .ok (.iadd, 1) := by decide +kernel
theorem dL_law_575 : decode cL_law 575 = .ok (.iaload, 1) := by decide +kernel
theorem dL_law_576 : decode cL_law 576 = .ok (.aload_n 0, 1) := by decide +kernel
theorem dL_law_577 : decode cL_law 577 = .ok (.iload_n 3, 1) := by decide +kernel
theorem dL_law_578 : decode cL_law 578 = .ok (.iconst 2, 1) := by decide +kernel
theorem dL_law_579 : decode cL_law 579 = .ok (.iadd, 1) := by decide +kernel
theorem dL_law_580 : decode cL_law 580 = .ok (.iaload, 1) := by decide +kernel
theorem dL_law_581 : decode cL_law 581 = .ok (.invokevirtual 60, 3) := by decide +kernel
theorem dL_law_584 : decode cL_law 584 = .ok (.if_icmp .eq 681, 3) := by decide +kernel
theorem dL_law_587 : decode cL_law 587 = .ok (.iconst 0, 1) := by decide +kernel
theorem dL_law_588 : decode cL_law 588 = .ok (.ireturn, 1) := by decide +kernel
theorem dL_law_589 : decode cL_law 589 = .ok (.aload_n 1, 1) := by decide +kernel
theorem dL_law_590 : decode cL_law 590 = .ok (.aload_n 0, 1) := by decide +kernel
theorem dL_law_591 : decode cL_law 591 = .ok (.iload_n 3, 1) := by decide +kernel
theorem dL_law_592 : decode cL_law 592 = .ok (.iconst 1, 1) := by decide +kernel
theorem dL_law_593 : decode cL_law 593 = .ok (.iadd, 1) := by decide +kernel
theorem dL_law_594 : decode cL_law 594 = .ok (.iaload, 1) := by decide +kernel
theorem dL_law_595 : decode cL_law 595 = .ok (.aload_n 0, 1) := by decide +kernel
theorem dL_law_596 : decode cL_law 596 = .ok (.iload_n 3, 1) := by decide +kernel
theorem dL_law_597 : decode cL_law 597 = .ok (.iconst 2, 1) := by decide +kernel
theorem dL_law_598 : decode cL_law 598 = .ok (.iadd, 1) := by decide +kernel
theorem dL_law_599 : decode cL_law 599 = .ok (.iaload, 1) := by decide +kernel
theorem dL_law_600 : decode cL_law 600 = .ok (.invokevirtual 61, 3) := by decide +kernel
theorem dL_law_603 : decode cL_law 603 = .ok (.aload_n 2, 1) := by decide +kernel
theorem dL_law_604 : decode cL_law 604 = .ok (.aload_n 0, 1) := by decide +kernel
theorem dL_law_605 : decode cL_law 605 = .ok (.iload_n 3, 1) := by decide +kernel
theorem dL_law_606 : decode cL_law 606 = .ok (.iconst 1, 1) := by decide +kernel
theorem dL_law_607 : decode cL_law 607 = .ok (.iadd, 1) := by decide +kernel
theorem dL_law_608 : decode cL_law 608 = .ok (.iaload, 1) := by decide +kernel
theorem dL_law_609 : decode cL_law 609 = .ok (.aload_n 0, 1) := by decide +kernel
theorem dL_law_610 : decode cL_law 610 = .ok (.iload_n 3, 1) := by decide +kernel
theorem dL_law_611 : decode cL_law 611 = .ok (.iconst 2, 1) := by decide +kernel
theorem dL_law_612 : decode cL_law 612 = .ok (.iadd, 1) := by decide +kernel
theorem dL_law_613 : decode cL_law 613 = .ok (.iaload, 1) := by decide +kernel
theorem dL_law_614 : decode cL_law 614 = .ok (.invokevirtual 64, 3) := by decide +kernel
theorem dL_law_617 : decode cL_law 617 = .ok (.if_icmp .eq 648, 3) := by decide +kernel
theorem dL_law_620 : decode cL_law 620 = .ok (.iconst 0, 1) := by decide +kernel
theorem dL_law_621 : decode cL_law 621 = .ok (.ireturn, 1) := by decide +kernel
theorem dL_law_622 : decode cL_law 622 = .ok (.aload_n 1, 1) := by decide +kernel
theorem dL_law_623 : decode cL_law 623 = .ok (.aload_n 0, 1) := by decide +kernel
theorem dL_law_624 : decode cL_law 624 = .ok (.iload_n 3, 1) := by decide +kernel
theorem dL_law_625 : decode cL_law 625 = .ok (.iconst 1, 1) := by decide +kernel
theorem dL_law_626 : decode cL_law 626 = .ok (.iadd, 1) := by decide +kernel
theorem dL_law_627 : decode cL_law 627 = .ok (.iaload, 1) := by decide +kernel
theorem dL_law_628 : decode cL_law 628 = .ok (.aload_n 0, 1) := by decide +kernel
theorem dL_law_629 : decode cL_law 629 = .ok (.iload_n 3, 1) := by decide +kernel
theorem dL_law_630 : decode cL_law 630 = .ok (.iconst 2, 1) := by decide +kernel
theorem dL_law_631 : decode cL_law 631 = .ok (.iadd, 1) := by decide +kernel
theorem dL_law_632 : decode cL_law 632 = .ok (.iaload, 1) := by decide +kernel
theorem dL_law_633 : decode cL_law 633 = .ok (.aload_n 0, 1) := by decide +kernel
theorem dL_law_634 : decode cL_law 634 = .ok (.iload_n 3, 1) := by decide +kernel
theorem dL_law_635 : decode cL_law 635 = .ok (.iconst 3, 1) := by decide +kernel
theorem dL_law_636 : decode cL_law 636 = .ok (.iadd, 1) := by decide +kernel
theorem dL_law_637 : decode cL_law 637 = .ok (.iaload, 1) := by decide +kernel
theorem dL_law_638 : decode cL_law 638 = .ok (.aload_n 0, 1) := by decide +kernel
theorem dL_law_639 : decode cL_law 639 = .ok (.iload_n 3, 1) := by decide +kernel
theorem dL_law_640 : decode cL_law 640 = .ok (.iconst 4, 1) := by decide +kernel
theorem dL_law_641 : decode cL_law 641 = .ok (.iadd, 1) := by decide +kernel
theorem dL_law_642 : decode cL_law 642 = .ok (.iaload, 1) := by decide +kernel
theorem dL_law_643 : decode cL_law 643 = .ok (.invokevirtual 65, 3) := by decide +kernel
theorem dL_law_646 : decode cL_law 646 = .ok (.aload_n 2, 1) := by decide +kernel
theorem dL_law_647 : decode cL_law 647 = .ok (.aload_n 0, 1) := by decide +kernel
theorem dL_law_648 : decode cL_law 648 = .ok (.iload_n 3, 1) := by decide +kernel
theorem dL_law_649 : decode cL_law 649 = .ok (.iconst 1, 1) := by decide +kernel
theorem dL_law_650 : decode cL_law 650 = .ok (.iadd, 1) := by decide +kernel
theorem dL_law_651 : decode cL_law 651 = .ok (.iaload, 1) := by decide +kernel
theorem dL_law_652 : decode cL_law 652 = .ok (.aload_n 0, 1) := by decide +kernel
theorem dL_law_653 : decode cL_law 653 = .ok (.iload_n 3, 1) := by decide +kernel
theorem dL_law_654 : decode cL_law 654 = .ok (.iconst 2, 1) := by decide +kernel
theorem dL_law_655 : decode cL_law 655 = .ok (.iadd, 1) := by decide +kernel
theorem dL_law_656 : decode cL_law 656 = .ok (.iaload, 1) := by decide +kernel
theorem dL_law_657 : decode cL_law 657 = .ok (.aload_n 0, 1) := by decide +kernel
theorem dL_law_658 : decode cL_law 658 = .ok (.iload_n 3, 1) := by decide +kernel
theorem dL_law_659 : decode cL_law 659 = .ok (.iconst 3, 1) := by decide +kernel
theorem dL_law_660 : decode cL_law 660 = .ok (.iadd, 1) := by decide +kernel
theorem dL_law_661 : decode cL_law 661 = .ok (.iaload, 1) := by decide +kernel
theorem dL_law_662 : decode cL_law 662 = .ok (.aload_n 0, 1) := by decide +kernel
theorem dL_law_663 : decode cL_law 663 = .ok (.iload_n 3, 1) := by decide +kernel
theorem dL_law_664 : decode cL_law 664 = .ok (.iconst 4, 1) := by decide +kernel
theorem dL_law_665 : decode cL_law 665 = .ok (.iadd, 1) := by decide +kernel
theorem dL_law_666 : decode cL_law 666 = .ok (.iaload, 1) := by decide +kernel
theorem dL_law_667 : decode cL_law 667 = .ok (.invokevirtual 69, 3) := by decide +kernel
theorem dL_law_670 : decode cL_law 670 = .ok (.if_icmp .eq 595, 3) := by decide +kernel
theorem dL_law_673 : decode cL_law 673 = .ok (.iconst 0, 1) := by decide +kernel
theorem dL_law_674 : decode cL_law 674 = .ok (.ireturn, 1) := by decide +kernel
theorem dL_law_675 : decode cL_law 675 = .ok (.aload_n 1, 1) := by decide +kernel
theorem dL_law_676 : decode cL_law 676 = .ok (.aload_n 0, 1) := by decide +kernel
theorem dL_law_677 : decode cL_law 677 = .ok (.iload_n 3, 1) := by decide +kernel
theorem dL_law_678 : decode cL_law 678 = .ok (.iconst 1, 1) := by decide +kernel
theorem dL_law_679 : decode cL_law 679 = .ok (.iadd, 1) := by decide +kernel
theorem dL_law_680 : decode cL_law 680 = .ok (.iaload, 1) := by decide +kernel
theorem dL_law_681 : decode cL_law 681 = .ok (.invokevirtual 70, 3) := by decide +kernel
theorem dL_law_684 : decode cL_law 684 = .ok (.aload_n 2, 1) := by decide +kernel
theorem dL_law_685 : decode cL_law 685 = .ok (.aload_n 0, 1) := by decide +kernel
theorem dL_law_686 : decode cL_law 686 = .ok (.iload_n 3, 1) := by decide +kernel
theorem dL_law_687 : decode cL_law 687 = .ok (.iconst 1, 1) := by decide +kernel
theorem dL_law_688 : decode cL_law 688 = .ok (.iadd, 1) := by decide +kernel
theorem dL_law_689 : decode cL_law 689 = .ok (.iaload, 1) := by decide +kernel
theorem dL_law_690 : decode cL_law 690 = .ok (.invokevirtual 73, 3) := by decide +kernel
theorem dL_law_693 : decode cL_law 693 = .ok (.if_icmp .eq 572, 3) := by decide +kernel
theorem dL_law_696 : decode cL_law 696 = .ok (.iconst 0, 1) := by decide +kernel
theorem dL_law_697 : decode cL_law 697 = .ok (.ireturn, 1) := by decide +kernel
theorem dL_law_698 : decode cL_law 698 = .ok (.aload_n 1, 1) := by decide +kernel
theorem dL_law_699 : decode cL_law 699 = .ok (.aload_n 0, 1) := by decide +kernel
theorem dL_law_700 : decode cL_law 700 = .ok (.iload_n 3, 1) := by decide +kernel
theorem dL_law_701 : decode cL_law 701 = .ok (.iconst 1, 1) := by decide +kernel
theorem dL_law_702 : decode cL_law 702 = .ok (.iadd, 1) := by decide +kernel
theorem dL_law_703 : decode cL_law 703 = .ok (.iaload, 1) := by decide +kernel
theorem dL_law_704 : decode cL_law 704 = .ok (.invokevirtual 74, 3) := by decide +kernel
theorem dL_law_707 : decode cL_law 707 = .ok (.aload_n 2, 1) := by decide +kernel
theorem dL_law_708 : decode cL_law 708 = .ok (.aload_n 0, 1) := by decide +kernel
theorem dL_law_709 : decode cL_law 709 = .ok (.iload_n 3, 1) := by decide +kernel
theorem dL_law_710 : decode cL_law 710 = .ok (.iconst 1, 1) := by decide +kernel
theorem dL_law_711 : decode cL_law 711 = .ok (.iadd, 1) := by decide +kernel
theorem dL_law_712 : decode cL_law 712 = .ok (.iaload, 1) := by decide +kernel
theorem dL_law_713 : decode cL_law 713 = .ok (.invokevirtual 77, 3) := by decide +kernel
theorem dL_law_716 : decode cL_law 716 = .ok (.if_icmp .eq 549, 3) := by decide +kernel
theorem dL_law_719 : decode cL_law 719 = .ok (.iconst 0, 1) := by decide +kernel
theorem dL_law_720 : decode cL_law 720 = .ok (.ireturn, 1) := by decide +kernel
theorem dL_law_721 : decode cL_law 721 = .ok (.aload_n 1, 1) := by decide +kernel
theorem dL_law_722 : decode cL_law 722 = .ok (.invokevirtual 78, 3) := by decide +kernel
theorem dL_law_725 : decode cL_law 725 = .ok (.aload_n 2, 1) := by decide +kernel
theorem dL_law_726 : decode cL_law 726 = .ok (.invokevirtual 82, 3) := by decide +kernel
theorem dL_law_729 : decode cL_law 729 = .ok (.if_icmp .eq 536, 3) := by decide +kernel
theorem dL_law_732 : decode cL_law 732 = .ok (.iconst 0, 1) := by decide +kernel
theorem dL_law_733 : decode cL_law 733 = .ok (.ireturn, 1) := by decide +kernel
theorem dL_law_734 : decode cL_law 734 = .ok (.aload_n 1, 1) := by decide +kernel
theorem dL_law_735 : decode cL_law 735 = .ok (.aload_n 0, 1) := by decide +kernel
theorem dL_law_736 : decode cL_law 736 = .ok (.iload_n 3, 1) := by decide +kernel
theorem dL_law_737 : decode cL_law 737 = .ok (.iconst 1, 1) := by decide +kernel
theorem dL_law_738 : decode cL_law 738 = .ok (.iadd, 1) := by decide +kernel
theorem dL_law_739 : decode cL_law 739 = .ok (.iaload, 1) := by decide +kernel
theorem dL_law_740 : decode cL_law 740 = .ok (.invokevirtual 83, 3) := by decide +kernel
theorem dL_law_743 : decode cL_law 743 = .ok (.aload_n 2, 1) := by decide +kernel
theorem dL_law_744 : decode cL_law 744 = .ok (.aload_n 0, 1) := by decide +kernel
theorem dL_law_745 : decode cL_law 745 = .ok (.iload_n 3, 1) := by decide +kernel
theorem dL_law_746 : decode cL_law 746 = .ok (.iconst 1, 1) := by decide +kernel
theorem dL_law_747 : decode cL_law 747 = .ok (.iadd, 1) := by decide +kernel
theorem dL_law_748 : decode cL_law 748 = .ok (.iaload, 1) := by decide +kernel
theorem dL_law_749 : decode cL_law 749 = .ok (.invokevirtual 86, 3) := by decide +kernel
theorem dL_law_752 : decode cL_law 752 = .ok (.if_icmp .eq 513, 3) := by decide +kernel
theorem dL_law_755 : decode cL_law 755 = .ok (.iconst 0, 1) := by decide +kernel
theorem dL_law_756 : decode cL_law 756 = .ok (.ireturn, 1) := by decide +kernel
theorem dL_law_757 : decode cL_law 757 = .ok (.aload_n 1, 1) := by decide +kernel
theorem dL_law_758 : decode cL_law 758 = .ok (.aload_n 0, 1) := by decide +kernel
theorem dL_law_759 : decode cL_law 759 = .ok (.iload_n 3, 1) := by decide +kernel
theorem dL_law_760 : decode cL_law 760 = .ok (.iconst 1, 1) := by decide +kernel
theorem dL_law_761 : decode cL_law 761 = .ok (.iadd, 1) := by decide +kernel
theorem dL_law_762 : decode cL_law 762 = .ok (.iaload, 1) := by decide +kernel
theorem dL_law_763 : decode cL_law 763 = .ok (.invokevirtual 87, 3) := by decide +kernel
theorem dL_law_766 : decode cL_law 766 = .ok (.aload_n 2, 1) := by decide +kernel
theorem dL_law_767 : decode cL_law 767 = .ok (.aload_n 0, 1) := by decide +kernel
theorem dL_law_768 : decode cL_law 768 = .ok (.iload_n 3, 1) := by decide +kernel
theorem dL_law_769 : decode cL_law 769 = .ok (.iconst 1, 1) := by decide +kernel
theorem dL_law_770 : decode cL_law 770 = .ok (.iadd, 1) := by decide +kernel
theorem dL_law_771 : decode cL_law 771 = .ok (.iaload, 1) := by decide +kernel
theorem dL_law_772 : decode cL_law 772 = .ok (.invokevirtual 90, 3) := by decide +kernel
theorem dL_law_775 : decode cL_law 775 = .ok (.if_icmp .eq 490, 3) := by decide +kernel
theorem dL_law_778 : decode cL_law 778 = .ok (.iconst 0, 1) := by decide +kernel
theorem dL_law_779 : decode cL_law 779 = .ok (.ireturn, 1) := by decide +kernel
theorem dL_law_780 : decode cL_law 780 = .ok (.aload_n 1, 1) := by decide +kernel
theorem dL_law_781 : decode cL_law 781 = .ok (.aload_n 0, 1) := by decide +kernel
theorem dL_law_782 : decode cL_law 782 = .ok (.iload_n 3, 1) := by decide +kernel
theorem dL_law_783 : decode cL_law 783 = .ok (.iconst 1, 1) := by decide +kernel
theorem dL_law_784 : decode cL_law 784 = .ok (.iadd, 1) := by decide +kernel
theorem dL_law_785 : decode cL_law 785 = .ok (.iaload, 1) := by decide +kernel
theorem dL_law_786 : decode cL_law 786 = .ok (.invokevirtual 91, 3) := by decide +kernel
theorem dL_law_789 : decode cL_law 789 = .ok (.aload_n 2, 1) := by decide +kernel
theorem dL_law_790 : decode cL_law 790 = .ok (.aload_n 0, 1) := by decide +kernel
theorem dL_law_791 : decode cL_law 791 = .ok (.iload_n 3, 1) := by decide +kernel
theorem dL_law_792 : decode cL_law 792 = .ok (.iconst 1, 1) := by decide +kernel
theorem dL_law_793 : decode cL_law 793 = .ok (.iadd, 1) := by decide +kernel
theorem dL_law_794 : decode cL_law 794 = .ok (.iaload, 1) := by decide +kernel
theorem dL_law_795 : decode cL_law 795 = .ok (.invokevirtual 94, 3) := by decide +kernel
theorem dL_law_798 : decode cL_law 798 = .ok (.if_icmp .eq 467, 3) := by decide +kernel
theorem dL_law_801 : decode cL_law 801 = .ok (.iconst 0, 1) := by decide +kernel
theorem dL_law_802 : decode cL_law 802 = .ok (.ireturn, 1) := by decide +kernel
theorem dL_law_803 : decode cL_law 803 = .ok (.aload_n 1, 1) := by decide +kernel
theorem dL_law_804 : decode cL_law 804 = .ok (.aload_n 0, 1) := by decide +kernel
theorem dL_law_805 : decode cL_law 805 = .ok (.iload_n 3, 1) := by decide +kernel
theorem dL_law_806 : decode cL_law 806 = .ok (.iconst 1, 1) := by decide +kernel
theorem dL_law_807 : decode cL_law 807 = .ok (.iadd, 1) := by decide +kernel
theorem dL_law_808 : decode cL_law 808 = .ok (.iaload, 1) := by decide +kernel
theorem dL_law_809 : decode cL_law 809 = .ok (.invokevirtual 95, 3) := by decide +kernel
theorem dL_law_812 : decode cL_law 812 = .ok (.aload_n 2, 1) := by decide +kernel
theorem dL_law_813 : decode cL_law 813 = .ok (.aload_n 0, 1) := by decide +kernel
theorem dL_law_814 : decode cL_law 814 = .ok (.iload_n 3, 1) := by decide +kernel
theorem dL_law_815 : decode cL_law 815 = .ok (.iconst 1, 1) := by decide +kernel
theorem dL_law_816 : decode cL_law 816 = .ok (.iadd, 1) := by decide +kernel
theorem dL_law_817 : decode cL_law 817 = .ok (.iaload, 1) := by decide +kernel
theorem dL_law_818 : decode cL_law 818 = .ok (.invokevirtual 98, 3) := by decide +kernel
theorem dL_law_821 : decode cL_law 821 = .ok (.if_icmp .eq 444, 3) := by decide +kernel
theorem dL_law_824 : decode cL_law 824 = .ok (.iconst 0, 1) := by decide +kernel
theorem dL_law_825 : decode cL_law 825 = .ok (.ireturn, 1) := by decide +kernel
theorem dL_law_826 : decode cL_law 826 = .ok (.aload_n 1, 1) := by decide +kernel
theorem dL_law_827 : decode cL_law 827 = .ok (.aload_n 0, 1) := by decide +kernel
theorem dL_law_828 : decode cL_law 828 = .ok (.iload_n 3, 1) := by decide +kernel
theorem dL_law_829 : decode cL_law 829 = .ok (.iconst 1, 1) := by decide +kernel
theorem dL_law_830 : decode cL_law 830 = .ok (.iadd, 1) := by decide +kernel
theorem dL_law_831 : decode cL_law 831 = .ok (.iaload, 1) := by decide +kernel
theorem dL_law_832 : decode cL_law 832 = .ok (.invokevirtual 99, 3) := by decide +kernel
theorem dL_law_835 : decode cL_law 835 = .ok (.aload_n 2, 1) := by decide +kernel
theorem dL_law_836 : decode cL_law 836 = .ok (.aload_n 0, 1) := by decide +kernel
theorem dL_law_837 : decode cL_law 837 = .ok (.iload_n 3, 1) := by decide +kernel
theorem dL_law_838 : decode cL_law 838 = .ok (.iconst 1, 1) := by decide +kernel
theorem dL_law_839 : decode cL_law 839 = .ok (.iadd, 1) := by decide +kernel
theorem dL_law_840 : decode cL_law 840 = .ok (.iaload, 1) := by decide +kernel
theorem dL_law_841 : decode cL_law 841 = .ok (.invokevirtual 102, 3) := by decide +kernel
theorem dL_law_844 : decode cL_law 844 = .ok (.if_icmp .eq 421, 3) := by decide +kernel
theorem dL_law_847 : decode cL_law 847 = .ok (.iconst 0, 1) := by decide +kernel
theorem dL_law_848 : decode cL_law 848 = .ok (.ireturn, 1) := by decide +kernel
theorem dL_law_849 : decode cL_law 849 = .ok (.aload_n 1, 1) := by decide +kernel
theorem dL_law_850 : decode cL_law 850 = .ok (.invokevirtual 103, 3) := by decide +kernel
theorem dL_law_853 : decode cL_law 853 = .ok (.aload_n 2, 1) := by decide +kernel
theorem dL_law_854 : decode cL_law 854 = .ok (.invokevirtual 106, 3) := by decide +kernel
theorem dL_law_857 : decode cL_law 857 = .ok (.if_icmp .eq 408, 3) := by decide +kernel
theorem dL_law_860 : decode cL_law 860 = .ok (.iconst 0, 1) := by decide +kernel
theorem dL_law_861 : decode cL_law 861 = .ok (.ireturn, 1) := by decide +kernel
theorem dL_law_862 : decode cL_law 862 = .ok (.aload_n 1, 1) := by decide +kernel
theorem dL_law_863 : decode cL_law 863 = .ok (.aload_n 0, 1) := by decide +kernel
theorem dL_law_864 : decode cL_law 864 = .ok (.iload_n 3, 1) := by decide +kernel
theorem dL_law_865 : decode cL_law 865 = .ok (.iconst 1, 1) := by decide +kernel
theorem dL_law_866 : decode cL_law 866 = .ok (.iadd, 1) := by decide +kernel
theorem dL_law_867 : decode cL_law 867 = .ok (.iaload, 1) := by decide +kernel
theorem dL_law_868 : decode cL_law 868 = .ok (.invokevirtual 107, 3) := by decide +kernel
theorem dL_law_871 : decode cL_law 871 = .ok (.aload_n 2, 1) := by decide +kernel
theorem dL_law_872 : decode cL_law 872 = .ok (.aload_n 0, 1) := by decide +kernel
theorem dL_law_873 : decode cL_law 873 = .ok (.iload_n 3, 1) := by decide +kernel
theorem dL_law_874 : decode cL_law 874 = .ok (.iconst 1, 1) := by decide +kernel
theorem dL_law_875 : decode cL_law 875 = .ok (.iadd, 1) := by decide +kernel
theorem dL_law_876 : decode cL_law 876 = .ok (.iaload, 1) := by decide +kernel
theorem dL_law_877 : decode cL_law 877 = .ok (.invokevirtual 110, 3) := by decide +kernel
theorem dL_law_880 : decode cL_law 880 = .ok (.if_icmp .eq 385, 3) := by decide +kernel
theorem dL_law_883 : decode cL_law 883 = .ok (.iconst 0, 1) := by decide +kernel
theorem dL_law_884 : decode cL_law 884 = .ok (.ireturn, 1) := by decide +kernel
theorem dL_law_885 : decode cL_law 885 = .ok (.aload_n 1, 1) := by decide +kernel
theorem dL_law_886 : decode cL_law 886 = .ok (.aload_n 0, 1) := by decide +kernel
theorem dL_law_887 : decode cL_law 887 = .ok (.iload_n 3, 1) := by decide +kernel
theorem dL_law_888 : decode cL_law 888 = .ok (.iconst 1, 1) := by decide +kernel
theorem dL_law_889 : decode cL_law 889 = .ok (.iadd, 1) := by decide +kernel
theorem dL_law_890 : decode cL_law 890 = .ok (.iaload, 1) := by decide +kernel
theorem dL_law_891 : decode cL_law 891 = .ok (.invokevirtual 111, 3) := by decide +kernel
theorem dL_law_894 : decode cL_law 894 = .ok (.aload_n 2, 1) := by decide +kernel
theorem dL_law_895 : decode cL_law 895 = .ok (.aload_n 0, 1) := by decide +kernel
theorem dL_law_896 : decode cL_law 896 = .ok (.iload_n 3, 1) := by decide +kernel
theorem dL_law_897 : decode cL_law 897 = .ok (.iconst 1, 1) := by decide +kernel
theorem dL_law_898 : decode cL_law 898 = .ok (.iadd, 1) := by decide +kernel
theorem dL_law_899 : decode cL_law 899 = .ok (.iaload, 1) := by decide +kernel
theorem dL_law_900 : decode cL_law 900 = .ok (.invokevirtual 114, 3) := by decide +kernel
theorem dL_law_903 : decode cL_law 903 = .ok (.if_icmp .eq 362, 3) := by decide +kernel
theorem dL_law_906 : decode cL_law 906 = .ok (.iconst 0, 1) := by decide +kernel
theorem dL_law_907 : decode cL_law 907 = .ok (.ireturn, 1) := by decide +kernel
theorem dL_law_908 : decode cL_law 908 = .ok (.aload_n 1, 1) := by decide +kernel
theorem dL_law_909 : decode cL_law 909 = .ok (.invokevirtual 115, 3) := by decide +kernel
theorem dL_law_912 : decode cL_law 912 = .ok (.aload_n 2, 1) := by decide +kernel
theorem dL_law_913 : decode cL_law 913 = .ok (.invokevirtual 118, 3) := by decide +kernel
theorem dL_law_916 : decode cL_law 916 = .ok (.if_icmp .eq 349, 3) := by decide +kernel
theorem dL_law_919 : decode cL_law 919 = .ok (.iconst 0, 1) := by decide +kernel
theorem dL_law_920 : decode cL_law 920 = .ok (.ireturn, 1) := by decide +kernel
theorem dL_law_921 : decode cL_law 921 = .ok (.aload_n 1, 1) := by decide +kernel
theorem dL_law_922 : decode cL_law 922 = .ok (.aload_n 0, 1) := by decide +kernel
theorem dL_law_923 : decode cL_law 923 = .ok (.iload_n 3, 1) := by decide +kernel
theorem dL_law_924 : decode cL_law 924 = .ok (.iconst 1, 1) := by decide +kernel
theorem dL_law_925 : decode cL_law 925 = .ok (.iadd, 1) := by decide +kernel
theorem dL_law_926 : decode cL_law 926 = .ok (.iaload, 1) := by decide +kernel
theorem dL_law_927 : decode cL_law 927 = .ok (.invokevirtual 119, 3) := by decide +kernel
theorem dL_law_930 : decode cL_law 930 = .ok (.aload_n 2, 1) := by decide +kernel
theorem dL_law_931 : decode cL_law 931 = .ok (.aload_n 0, 1) := by decide +kernel
theorem dL_law_932 : decode cL_law 932 = .ok (.iload_n 3, 1) := by decide +kernel
theorem dL_law_933 : decode cL_law 933 = .ok (.iconst 1, 1) := by decide +kernel
theorem dL_law_934 : decode cL_law 934 = .ok (.iadd, 1) := by decide +kernel
theorem dL_law_935 : decode cL_law 935 = .ok (.iaload, 1) := by decide +kernel
theorem dL_law_936 : decode cL_law 936 = .ok (.invokevirtual 122, 3) := by decide +kernel
theorem dL_law_939 : decode cL_law 939 = .ok (.if_icmp .eq 326, 3) := by decide +kernel
theorem dL_law_942 : decode cL_law 942 = .ok (.iconst 0, 1) := by decide +kernel
theorem dL_law_943 : decode cL_law 943 = .ok (.ireturn, 1) := by decide +kernel
theorem dL_law_944 : decode cL_law 944 = .ok (.aload_n 1, 1) := by decide +kernel
theorem dL_law_945 : decode cL_law 945 = .ok (.aload_n 0, 1) := by decide +kernel
theorem dL_law_946 : decode cL_law 946 = .ok (.iload_n 3, 1) := by decide +kernel
theorem dL_law_947 : decode cL_law 947 = .ok (.iconst 1, 1) := by decide +kernel
theorem dL_law_948 : decode cL_law 948 = .ok (.iadd, 1) := by decide +kernel
theorem dL_law_949 : decode cL_law 949 = .ok (.iaload, 1) := by decide +kernel
theorem dL_law_950 : decode cL_law 950 = .ok (.invokevirtual 123, 3) := by decide +kernel
theorem dL_law_953 : decode cL_law 953 = .ok (.aload_n 2, 1) := by decide +kernel
theorem dL_law_954 : decode cL_law 954 = .ok (.aload_n 0, 1) := by decide +kernel
theorem dL_law_955 : decode cL_law 955 = .ok (.iload_n 3, 1) := by decide +kernel
theorem dL_law_956 : decode cL_law 956 = .ok (.iconst 1, 1) := by decide +kernel
theorem dL_law_957 : decode cL_law 957 = .ok (.iadd, 1) := by decide +kernel
theorem dL_law_958 : decode cL_law 958 = .ok (.iaload, 1) := by decide +kernel
theorem dL_law_959 : decode cL_law 959 = .ok (.invokevirtual 126, 3) := by decide +kernel
theorem dL_law_962 : decode cL_law 962 = .ok (.if_icmp .eq 303, 3) := by decide +kernel
theorem dL_law_965 : decode cL_law 965 = .ok (.iconst 0, 1) := by decide +kernel
theorem dL_law_966 : decode cL_law 966 = .ok (.ireturn, 1) := by decide +kernel
theorem dL_law_967 : decode cL_law 967 = .ok (.aload_n 1, 1) := by decide +kernel
theorem dL_law_968 : decode cL_law 968 = .ok (.aload_n 0, 1) := by decide +kernel
theorem dL_law_969 : decode cL_law 969 = .ok (.iload_n 3, 1) := by decide +kernel
theorem dL_law_970 : decode cL_law 970 = .ok (.iconst 1, 1) := by decide +kernel
theorem dL_law_971 : decode cL_law 971 = .ok (.iadd, 1) := by decide +kernel
theorem dL_law_972 : decode cL_law 972 = .ok (.iaload, 1) := by decide +kernel
theorem dL_law_973 : decode cL_law 973 = .ok (.aload_n 0, 1) := by decide +kernel
theorem dL_law_974 : decode cL_law 974 = .ok (.iload_n 3, 1) := by decide +kernel
theorem dL_law_975 : decode cL_law 975 = .ok (.iconst 2, 1) := by decide +kernel
theorem dL_law_976 : decode cL_law 976 = .ok (.iadd, 1) := by decide +kernel
theorem dL_law_977 : decode cL_law 977 = .ok (.iaload, 1) := by decide +kernel
theorem dL_law_978 : decode cL_law 978 = .ok (.invokevirtual 127, 3) := by decide +kernel
theorem dL_law_981 : decode cL_law 981 = .ok (.aload_n 2, 1) := by decide +kernel
theorem dL_law_982 : decode cL_law 982 = .ok (.aload_n 0, 1) := by decide +kernel
theorem dL_law_983 : decode cL_law 983 = .ok (.iload_n 3, 1) := by decide +kernel
theorem dL_law_984 : decode cL_law 984 = .ok (.iconst 1, 1) := by decide +kernel
theorem dL_law_985 : decode cL_law 985 = .ok (.iadd, 1) := by decide +kernel
theorem dL_law_986 : decode cL_law 986 = .ok (.iaload, 1) := by decide +kernel
theorem dL_law_987 : decode cL_law 987 = .ok (.aload_n 0, 1) := by decide +kernel
theorem dL_law_988 : decode cL_law 988 = .ok (.iload_n 3, 1) := by decide +kernel
theorem dL_law_989 : decode cL_law 989 = .ok (.iconst 2, 1) := by decide +kernel
theorem dL_law_990 : decode cL_law 990 = .ok (.iadd, 1) := by decide +kernel
theorem dL_law_991 : decode cL_law 991 = .ok (.iaload, 1) := by decide +kernel
theorem dL_law_992 : decode cL_law 992 = .ok (.invokevirtual 130, 3) := by decide +kernel
theorem dL_law_995 : decode cL_law 995 = .ok (.if_icmp .eq 270, 3) := by decide +kernel
theorem dL_law_998 : decode cL_law 998 = .ok (.iconst 0, 1) := by decide +kernel
theorem dL_law_999 : decode cL_law 999 = .ok (.ireturn, 1) := by decide +kernel
theorem dL_law_1000 : decode cL_law 1000 = .ok (.aload_n 1, 1) := by decide +kernel
theorem dL_law_1001 : decode cL_law 1001 = .ok (.invokevirtual 131, 3) := by decide +kernel
theorem dL_law_1004 : decode cL_law 1004 = .ok (.aload_n 2, 1) := by decide +kernel
theorem dL_law_1005 : decode cL_law 1005 = .ok (.invokevirtual 134, 3) := by decide +kernel
theorem dL_law_1008 : decode cL_law 1008 = .ok (.if_icmp .eq 257, 3) := by decide +kernel
theorem dL_law_1011 : decode cL_law 1011 = .ok (.iconst 0, 1) := by decide +kernel
theorem dL_law_1012 : decode cL_law 1012 = .ok (.ireturn, 1) := by decide +kernel
theorem dL_law_1013 : decode cL_law 1013 = .ok (.aload_n 1, 1) := by decide +kernel
theorem dL_law_1014 : decode cL_law 1014 = .ok (.invokevirtual 135, 3) := by decide +kernel
theorem dL_law_1017 : decode cL_law 1017 = .ok (.aload_n 2, 1) := by decide +kernel
theorem dL_law_1018 : decode cL_law 1018 = .ok (.invokevirtual 138, 3) := by decide +kernel
theorem dL_law_1021 : decode cL_law 1021 = .ok (.if_icmp .eq 244, 3) := by decide +kernel
theorem dL_law_1024 : decode cL_law 1024 = .ok (.iconst 0, 1) := by decide +kernel
theorem dL_law_1025 : decode cL_law 1025 = .ok (.ireturn, 1) := by decide +kernel
theorem dL_law_1026 : decode cL_law 1026 = .ok (.aload_n 1, 1) := by decide +kernel
theorem dL_law_1027 : decode cL_law 1027 = .ok (.aload_n 0, 1) := by decide +kernel
theorem dL_law_1028 : decode cL_law 1028 = .ok (.iload_n 3, 1) := by decide +kernel
theorem dL_law_1029 : decode cL_law 1029 = .ok (.iconst 1, 1) := by decide +kernel
theorem dL_law_1030 : decode cL_law 1030 = .ok (.iadd, 1) := by decide +kernel
theorem dL_law_1031 : decode cL_law 1031 = .ok (.iaload, 1) := by decide +kernel
theorem dL_law_1032 : decode cL_law 1032 = .ok (.invokevirtual 139, 3) := by decide +kernel
theorem dL_law_1035 : decode cL_law 1035 = .ok (.aload_n 2, 1) := by decide +kernel
theorem dL_law_1036 : decode cL_law 1036 = .ok (.aload_n 0, 1) := by decide +kernel
theorem dL_law_1037 : decode cL_law 1037 = .ok (.iload_n 3, 1) := by decide +kernel
theorem dL_law_1038 : decode cL_law 1038 = .ok (.iconst 1, 1) := by decide +kernel
theorem dL_law_1039 : decode cL_law 1039 = .ok (.iadd, 1) := by decide +kernel
theorem dL_law_1040 : decode cL_law 1040 = .ok (.iaload, 1) := by decide +kernel
theorem dL_law_1041 : decode cL_law 1041 = .ok (.invokevirtual 142, 3) := by decide +kernel
theorem dL_law_1044 : decode cL_law 1044 = .ok (.if_icmp .eq 221, 3) := by decide +kernel
theorem dL_law_1047 : decode cL_law 1047 = .ok (.iconst 0, 1) := by decide +kernel
theorem dL_law_1048 : decode cL_law 1048 = .ok (.ireturn, 1) := by decide +kernel
theorem dL_law_1049 : decode cL_law 1049 = .ok (.aload_n 1, 1) := by decide +kernel
theorem dL_law_1050 : decode cL_law 1050 = .ok (.invokevirtual 143, 3) := by decide +kernel
theorem dL_law_1053 : decode cL_law 1053 = .ok (.aload_n 2, 1) := by decide +kernel
theorem dL_law_1054 : decode cL_law 1054 = .ok (.invokevirtual 146, 3) := by decide +kernel
theorem dL_law_1057 : decode cL_law 1057 = .ok (.if_icmp .eq 208, 3) := by decide +kernel
theorem dL_law_1060 : decode cL_law 1060 = .ok (.iconst 0, 1) := by decide +kernel
theorem dL_law_1061 : decode cL_law 1061 = .ok (.ireturn, 1) := by decide +kernel
theorem dL_law_1062 : decode cL_law 1062 = .ok (.aload_n 1, 1) := by decide +kernel
theorem dL_law_1063 : decode cL_law 1063 = .ok (.aload_n 0, 1) := by decide +kernel
theorem dL_law_1064 : decode cL_law 1064 = .ok (.iload_n 3, 1) := by decide +kernel
theorem dL_law_1065 : decode cL_law 1065 = .ok (.iconst 1, 1) := by decide +kernel
theorem dL_law_1066 : decode cL_law 1066 = .ok (.iadd, 1) := by decide +kernel
theorem dL_law_1067 : decode cL_law 1067 = .ok (.iaload, 1) := by decide +kernel
theorem dL_law_1068 : decode cL_law 1068 = .ok (.invokevirtual 147, 3) := by decide +kernel
theorem dL_law_1071 : decode cL_law 1071 = .ok (.aload_n 2, 1) := by decide +kernel
theorem dL_law_1072 : decode cL_law 1072 = .ok (.aload_n 0, 1) := by decide +kernel
theorem dL_law_1073 : decode cL_law 1073 = .ok (.iload_n 3, 1) := by decide +kernel
theorem dL_law_1074 : decode cL_law 1074 = .ok (.iconst 1, 1) := by decide +kernel
theorem dL_law_1075 : decode cL_law 1075 = .ok (.iadd, 1) := by decide +kernel
theorem dL_law_1076 : decode cL_law 1076 = .ok (.iaload, 1) := by decide +kernel
theorem dL_law_1077 : decode cL_law 1077 = .ok (.invokevirtual 150, 3) := by decide +kernel
theorem dL_law_1080 : decode cL_law 1080 = .ok (.if_icmp .eq 185, 3) := by decide +kernel
theorem dL_law_1083 : decode cL_law 1083 = .ok (.iconst 0, 1) := by decide +kernel
theorem dL_law_1084 : decode cL_law 1084 = .ok (.ireturn, 1) := by decide +kernel
theorem dL_law_1085 : decode cL_law 1085 = .ok (.aload_n 1, 1) := by decide +kernel
theorem dL_law_1086 : decode cL_law 1086 = .ok (.aload_n 0, 1) := by decide +kernel
theorem dL_law_1087 : decode cL_law 1087 = .ok (.iload_n 3, 1) := by decide +kernel
theorem dL_law_1088 : decode cL_law 1088 = .ok (.iconst 1, 1) := by decide +kernel
theorem dL_law_1089 : decode cL_law 1089 = .ok (.iadd, 1) := by decide +kernel
theorem dL_law_1090 : decode cL_law 1090 = .ok (.iaload, 1) := by decide +kernel
theorem dL_law_1091 : decode cL_law 1091 = .ok (.aload_n 0, 1) := by decide +kernel
theorem dL_law_1092 : decode cL_law 1092 = .ok (.iload_n 3, 1) := by decide +kernel
theorem dL_law_1093 : decode cL_law 1093 = .ok (.iconst 2, 1) := by decide +kernel
theorem dL_law_1094 : decode cL_law 1094 = .ok (.iadd, 1) := by decide +kernel
theorem dL_law_1095 : decode cL_law 1095 = .ok (.iaload, 1) := by decide +kernel
theorem dL_law_1096 : decode cL_law 1096 = .ok (.invokevirtual 151, 3) := by decide +kernel
theorem dL_law_1099 : decode cL_law 1099 = .ok (.aload_n 2, 1) := by decide +kernel
theorem dL_law_1100 : decode cL_law 1100 = .ok (.aload_n 0, 1) := by decide +kernel
theorem dL_law_1101 : decode cL_law 1101 = .ok (.iload_n 3, 1) := by decide +kernel
theorem dL_law_1102 : decode cL_law 1102 = .ok (.iconst 1, 1) := by decide +kernel
theorem dL_law_1103 : decode cL_law 1103 = .ok (.iadd, 1) := by decide +kernel
theorem dL_law_1104 : decode cL_law 1104 = .ok (.iaload, 1) := by decide +kernel
theorem dL_law_1105 : decode cL_law 1105 = .ok (.aload_n 0, 1) := by decide +kernel
theorem dL_law_1106 : decode cL_law 1106 = .ok (.iload_n 3, 1) := by decide +kernel
theorem dL_law_1107 : decode cL_law 1107 = .ok (.iconst 2, 1) := by decide +kernel
theorem dL_law_1108 : decode cL_law 1108 = .ok (.iadd, 1) := by decide +kernel
theorem dL_law_1109 : decode cL_law 1109 = .ok (.iaload, 1) := by decide +kernel
theorem dL_law_1110 : decode cL_law 1110 = .ok (.invokevirtual 154, 3) := by decide +kernel
theorem dL_law_1113 : decode cL_law 1113 = .ok (.if_icmp .eq 152, 3) := by decide +kernel
theorem dL_law_1116 : decode cL_law 1116 = .ok (.iconst 0, 1) := by decide +kernel
theorem dL_law_1117 : decode cL_law 1117 = .ok (.ireturn, 1) := by decide +kernel
theorem dL_law_1118 : decode cL_law 1118 = .ok (.aload_n 1, 1) := by decide +kernel
theorem dL_law_1119 : decode cL_law 1119 = .ok (.aload_n 0, 1) := by decide +kernel
theorem dL_law_1120 : decode cL_law 1120 = .ok (.iload_n 3, 1) := by decide +kernel
theorem dL_law_1121 : decode cL_law 1121 = .ok (.iconst 1, 1) := by decide +kernel
theorem dL_law_1122 : decode cL_law 1122 = .ok (.iadd, 1) := by decide +kernel
theorem dL_law_1123 : decode cL_law 1123 = .ok (.iaload, 1) := by decide +kernel
theorem dL_law_1124 : decode cL_law 1124 = .ok (.aload_n 0, 1) := by decide +kernel
theorem dL_law_1125 : decode cL_law 1125 = .ok (.iload_n 3, 1) := by decide +kernel
theorem dL_law_1126 : decode cL_law 1126 = .ok (.iconst 2, 1) := by decide +kernel
theorem dL_law_1127 : decode cL_law 1127 = .ok (.iadd, 1) := by decide +kernel
theorem dL_law_1128 : decode cL_law 1128 = .ok (.iaload, 1) := by decide +kernel
theorem dL_law_1129 : decode cL_law 1129 = .ok (.invokevirtual 155, 3) := by decide +kernel
theorem dL_law_1132 : decode cL_law 1132 = .ok (.aload_n 2, 1) := by decide +kernel
theorem dL_law_1133 : decode cL_law 1133 = .ok (.aload_n 0, 1) := by decide +kernel
theorem dL_law_1134 : decode cL_law 1134 = .ok (.iload_n 3, 1) := by decide +kernel
theorem dL_law_1135 : decode cL_law 1135 = .ok (.iconst 1, 1) := by decide +kernel
theorem dL_law_1136 : decode cL_law 1136 = .ok (.iadd, 1) := by decide +kernel
theorem dL_law_1137 : decode cL_law 1137 = .ok (.iaload, 1) := by decide +kernel
theorem dL_law_1138 : decode cL_law 1138 = .ok (.aload_n 0, 1) := by decide +kernel
theorem dL_law_1139 : decode cL_law 1139 = .ok (.iload_n 3, 1) := by decide +kernel
theorem dL_law_1140 : decode cL_law 1140 = .ok (.iconst 2, 1) := by decide +kernel
theorem dL_law_1141 : decode cL_law 1141 = .ok (.iadd, 1) := by decide +kernel
theorem dL_law_1142 : decode cL_law 1142 = .ok (.iaload, 1) := by decide +kernel
theorem dL_law_1143 : decode cL_law 1143 = .ok (.invokevirtual 158, 3) := by decide +kernel
theorem dL_law_1146 : decode cL_law 1146 = .ok (.if_icmp .eq 119, 3) := by decide +kernel
theorem dL_law_1149 : decode cL_law 1149 = .ok (.iconst 0, 1) := by decide +kernel
theorem dL_law_1150 : decode cL_law 1150 = .ok (.ireturn, 1) := by decide +kernel
theorem dL_law_1151 : decode cL_law 1151 = .ok (.aload_n 1, 1) := by decide +kernel
theorem dL_law_1152 : decode cL_law 1152 = .ok (.invokevirtual 159, 3) := by decide +kernel
theorem dL_law_1155 : decode cL_law 1155 = .ok (.aload_n 2, 1) := by decide +kernel
theorem dL_law_1156 : decode cL_law 1156 = .ok (.invokevirtual 162, 3) := by decide +kernel
theorem dL_law_1159 : decode cL_law 1159 = .ok (.if_icmp .eq 106, 3) := by decide +kernel
theorem dL_law_1162 : decode cL_law 1162 = .ok (.iconst 0, 1) := by decide +kernel
theorem dL_law_1163 : decode cL_law 1163 = .ok (.ireturn, 1) := by decide +kernel
theorem dL_law_1164 : decode cL_law 1164 = .ok (.aload_n 1, 1) := by decide +kernel
theorem dL_law_1165 : decode cL_law 1165 = .ok (.invokevirtual 163, 3) := by decide +kernel
theorem dL_law_1168 : decode cL_law 1168 = .ok (.aload_n 2, 1) := by decide +kernel
theorem dL_law_1169 : decode cL_law 1169 = .ok (.invokevirtual 167, 3) := by decide +kernel
theorem dL_law_1172 : decode cL_law 1172 = .ok (.lcmp, 1) := by decide +kernel
theorem dL_law_1173 : decode cL_law 1173 = .ok (.ifCond .eq 92, 3) := by decide +kernel
theorem dL_law_1176 : decode cL_law 1176 = .ok (.iconst 0, 1) := by decide +kernel
theorem dL_law_1177 : decode cL_law 1177 = .ok (.ireturn, 1) := by decide +kernel
theorem dL_law_1178 : decode cL_law 1178 = .ok (.aload_n 1, 1) := by decide +kernel
theorem dL_law_1179 : decode cL_law 1179 = .ok (.invokevirtual 168, 3) := by decide +kernel
theorem dL_law_1182 : decode cL_law 1182 = .ok (.aload_n 2, 1) := by decide +kernel
theorem dL_law_1183 : decode cL_law 1183 = .ok (.invokevirtual 171, 3) := by decide +kernel
theorem dL_law_1186 : decode cL_law 1186 = .ok (.lcmp, 1) := by decide +kernel
theorem dL_law_1187 : decode cL_law 1187 = .ok (.ifCond .eq 78, 3) := by decide +kernel
theorem dL_law_1190 : decode cL_law 1190 = .ok (.iconst 0, 1) := by decide +kernel
theorem dL_law_1191 : decode cL_law 1191 = .ok (.ireturn, 1) := by decide +kernel
theorem dL_law_1192 : decode cL_law 1192 = .ok (.aload_n 1, 1) := by decide +kernel
theorem dL_law_1193 : decode cL_law 1193 = .ok (.aload_n 0, 1) := by decide +kernel
theorem dL_law_1194 : decode cL_law 1194 = .ok (.iload_n 3, 1) := by decide +kernel
theorem dL_law_1195 : decode cL_law 1195 = .ok (.iconst 1, 1) := by decide +kernel
theorem dL_law_1196 : decode cL_law 1196 = .ok (.iadd, 1) := by decide +kernel
theorem dL_law_1197 : decode cL_law 1197 = .ok (.iaload, 1) := by decide +kernel
theorem dL_law_1198 : decode cL_law 1198 = .ok (.invokevirtual 172, 3) := by decide +kernel
theorem dL_law_1201 : decode cL_law 1201 = .ok (.aload_n 2, 1) := by decide +kernel
theorem dL_law_1202 : decode cL_law 1202 = .ok (.aload_n 0, 1) := by decide +kernel
theorem dL_law_1203 : decode cL_law 1203 = .ok (.iload_n 3, 1) := by decide +kernel
theorem dL_law_1204 : decode cL_law 1204 = .ok (.iconst 1, 1) := by decide +kernel
theorem dL_law_1205 : decode cL_law 1205 = .ok (.iadd, 1) := by decide +kernel
theorem dL_law_1206 : decode cL_law 1206 = .ok (.iaload, 1) := by decide +kernel
theorem dL_law_1207 : decode cL_law 1207 = .ok (.invokevirtual 175, 3) := by decide +kernel
theorem dL_law_1210 : decode cL_law 1210 = .ok (.if_icmp .eq 55, 3) := by decide +kernel
theorem dL_law_1213 : decode cL_law 1213 = .ok (.iconst 0, 1) := by decide +kernel
theorem dL_law_1214 : decode cL_law 1214 = .ok (.ireturn, 1) := by decide +kernel
theorem dL_law_1215 : decode cL_law 1215 = .ok (.aload_n 1, 1) := by decide +kernel
theorem dL_law_1216 : decode cL_law 1216 = .ok (.invokevirtual 176, 3) := by decide +kernel
theorem dL_law_1219 : decode cL_law 1219 = .ok (.aload_n 2, 1) := by decide +kernel
theorem dL_law_1220 : decode cL_law 1220 = .ok (.invokevirtual 179, 3) := by decide +kernel
theorem dL_law_1223 : decode cL_law 1223 = .ok (.if_icmp .eq 42, 3) := by decide +kernel
theorem dL_law_1226 : decode cL_law 1226 = .ok (.iconst 0, 1) := by decide +kernel
theorem dL_law_1227 : decode cL_law 1227 = .ok (.ireturn, 1) := by decide +kernel
theorem dL_law_1228 : decode cL_law 1228 = .ok (.aload_n 1, 1) := by decide +kernel
theorem dL_law_1229 : decode cL_law 1229 = .ok (.aload_n 0, 1) := by decide +kernel
theorem dL_law_1230 : decode cL_law 1230 = .ok (.iload_n 3, 1) := by decide +kernel
theorem dL_law_1231 : decode cL_law 1231 = .ok (.iconst 1, 1) := by decide +kernel
theorem dL_law_1232 : decode cL_law 1232 = .ok (.iadd, 1) := by decide +kernel
theorem dL_law_1233 : decode cL_law 1233 = .ok (.iaload, 1) := by decide +kernel
theorem dL_law_1234 : decode cL_law 1234 = .ok (.invokevirtual 180, 3) := by decide +kernel
theorem dL_law_1237 : decode cL_law 1237 = .ok (.aload_n 2, 1) := by decide +kernel
theorem dL_law_1238 : decode cL_law 1238 = .ok (.aload_n 0, 1) := by decide +kernel
theorem dL_law_1239 : decode cL_law 1239 = .ok (.iload_n 3, 1) := by decide +kernel
theorem dL_law_1240 : decode cL_law 1240 = .ok (.iconst 1, 1) := by decide +kernel
theorem dL_law_1241 : decode cL_law 1241 = .ok (.iadd, 1) := by decide +kernel
theorem dL_law_1242 : decode cL_law 1242 = .ok (.iaload, 1) := by decide +kernel
theorem dL_law_1243 : decode cL_law 1243 = .ok (.invokevirtual 183, 3) := by decide +kernel
theorem dL_law_1246 : decode cL_law 1246 = .ok (.if_icmp .eq 19, 3) := by decide +kernel
theorem dL_law_1249 : decode cL_law 1249 = .ok (.iconst 0, 1) := by decide +kernel
theorem dL_law_1250 : decode cL_law 1250 = .ok (.ireturn, 1) := by decide +kernel
theorem dL_law_1251 : decode cL_law 1251 = .ok (.aload_n 1, 1) := by decide +kernel
theorem dL_law_1252 : decode cL_law 1252 = .ok (.invokevirtual 184, 3) := by decide +kernel
theorem dL_law_1255 : decode cL_law 1255 = .ok (.aload_n 2, 1) := by decide +kernel
theorem dL_law_1256 : decode cL_law 1256 = .ok (.invokevirtual 187, 3) := by decide +kernel
theorem dL_law_1259 : decode cL_law 1259 = .ok (.lcmp, 1) := by decide +kernel
theorem dL_law_1260 : decode cL_law 1260 = .ok (.ifCond .eq 5, 3) := by decide +kernel
theorem dL_law_1263 : decode cL_law 1263 = .ok (.iconst 0, 1) := by decide +kernel
theorem dL_law_1264 : decode cL_law 1264 = .ok (.ireturn, 1) := by decide +kernel
theorem dL_law_1265 : decode cL_law 1265 = .ok (.iinc 3 6, 3) := by decide +kernel
theorem dL_law_1268 : decode cL_law 1268 = .ok (.goto (-1250), 3) := by decide +kernel
theorem dL_law_1271 : decode cL_law 1271 = .ok (.iconst 1, 1) := by decide +kernel
theorem dL_law_1272 : decode cL_law 1272 = .ok (.ireturn, 1) := by decide +kernel
