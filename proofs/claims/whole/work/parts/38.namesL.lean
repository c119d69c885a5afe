/-- NoSuchElementException(String) calls its superclass by entry 13, not 7 -/
def n13 : ByteArray := ⟨#[0x2a, 0x2b, 0xb7, 0x00, 0x0d, 0xb1]⟩
def vx_atN (own : String) (ic : Nat) : List Cond := (Bundle.ownAtomsX own ic "java/util/NoSuchElementException" 13 n13 ["java/lang/RuntimeException", "java/lang/Exception"]).filter vx_no
def wsX0_element : List Cond := .code yX0_element cX0_element 2 (some .int) :: ((wsX0_element_r1 ++ wsX0_element_r2) ++ wsX00 ++ (vx_atS RX0 63 "java/lang/IndexOutOfBoundsException" ["java/lang/RuntimeException", "java/lang/Exception"]).filter goodWord)
def wsX0_rank : List Cond := .code yX0_rank cX0_rank 2 (some .int) :: ((wsX0_rank_r1 ++ (wsX0_rank_r2 ++ wsX0_rank_r3)) ++ wsX00 ++ (vx_atS RX0 76 "java/lang/IllegalArgumentException" ["java/lang/RuntimeException", "java/lang/Exception"]).filter goodWord ++ (vx_atN RX0 81).filter goodWord)
def wsX0_least : List Cond := .code yX0_least cX0_least 2 (some .int) :: ((wsX0_least_r1 ++ wsX0_least_r2) ++ wsX00 ++ (vx_atS RX0 76 "java/lang/IllegalArgumentException" ["java/lang/RuntimeException", "java/lang/Exception"]).filter goodWord)
def wsL_element_r1 : List Cond := [Cond.classLink RL 13 "java/lang/IndexOutOfBoundsException", Cond.methodLink RL 7 yX0_element, Cond.instanceMethod yX0_element, Cond.selects RX0 yX0_element yX0_element, Cond.initialized RX0, Cond.code yX0_element cX0_element 2 (some .int), Cond.classLink RX0 59 "java/lang/IndexOutOfBoundsException", Cond.initialized "java/lang/IndexOutOfBoundsException", Cond.fieldLink RX0 66 "PermGroup" "identity" "I", Cond.methodLink RX0 53 yX0_fixersOfFirst, Cond.instanceMethod yX0_fixersOfFirst, Cond.selects RX0 yX0_fixersOfFirst yX0_fixersOfFirst, Cond.code yX0_fixersOfFirst cX0_fixersOfFirst 6 (some .int), Cond.fieldLink RX0 25 "PermGroup" "n" "I", Cond.methodLink RX0 97 yX0_entry, Cond.instanceMethod yX0_entry, Cond.selects RX0 yX0_entry yX0_entry, Cond.code yX0_entry cX0_entry 3 (some .int), Cond.fieldLink RX0 15 "PermGroup" "chains" "[[I", Cond.fieldLink RX0 33 "PermGroup" "count" "I", Cond.methodLink RX0 91 yX0_slotOf, Cond.static yX0_slotOf, Cond.code yX0_slotOf cX0_slotOf 2 (some .int), Cond.methodLink RX0 69 yX0_inCoset]
def wsL_element_r2 : List Cond := [Cond.instanceMethod yX0_inCoset, Cond.selects RX0 yX0_inCoset yX0_inCoset, Cond.code yX0_inCoset cX0_inCoset 10 (some .int), Cond.methodLink RX0 49 yX0_invert, Cond.instanceMethod yX0_invert, Cond.selects RX0 yX0_invert yX0_invert, Cond.code yX0_invert cX0_invert 4 (some .int), Cond.methodLink RX0 94 yX0_image, Cond.static yX0_image, Cond.code yX0_image cX0_image 2 (some .int), Cond.methodLink RX0 45 yX0_compose, Cond.instanceMethod yX0_compose, Cond.selects RX0 yX0_compose yX0_compose, Cond.code yX0_compose cX0_compose 5 (some .int)]
def wsL_element : List Cond := .codeWith yL_element cL_element 4 (some .int) [(0, 9, 12, 13)] :: ((wsL_element_r1 ++ wsL_element_r2) ++ wsX00 ++ (vx_atS RX0 63 "java/lang/IndexOutOfBoundsException" ["java/lang/RuntimeException", "java/lang/Exception"]).filter goodWord)
def wsL_rank_r1 : List Cond := [Cond.classLink RL 18 "java/lang/IllegalArgumentException", Cond.classLink RL 20 "java/util/NoSuchElementException", Cond.methodLink RL 15 yX0_rank, Cond.instanceMethod yX0_rank, Cond.selects RX0 yX0_rank yX0_rank, Cond.initialized RX0, Cond.code yX0_rank cX0_rank 2 (some .int), Cond.classLink RX0 72 "java/lang/IllegalArgumentException", Cond.initialized "java/lang/IllegalArgumentException", Cond.classLink RX0 77 "java/util/NoSuchElementException", Cond.initialized "java/util/NoSuchElementException", Cond.methodLink RX0 29 yX0_isPermutation, Cond.instanceMethod yX0_isPermutation, Cond.selects RX0 yX0_isPermutation yX0_isPermutation, Cond.code yX0_isPermutation cX0_isPermutation 4 (some .boolean), Cond.fieldLink RX0 25 "PermGroup" "n" "I", Cond.methodLink RX0 94 yX0_image, Cond.static yX0_image, Cond.code yX0_image cX0_image 2 (some .int), Cond.methodLink RX0 56 yX0_isElement, Cond.instanceMethod yX0_isElement, Cond.selects RX0 yX0_isElement yX0_isElement, Cond.code yX0_isElement cX0_isElement 2 (some .boolean), Cond.fieldLink RX0 66 "PermGroup" "identity" "I"]
def wsL_rank_r2 : List Cond := [Cond.methodLink RX0 100 yX0_residue, Cond.instanceMethod yX0_residue, Cond.selects RX0 yX0_residue yX0_residue, Cond.code yX0_residue cX0_residue 6 (some .int), Cond.methodLink RX0 97 yX0_entry, Cond.instanceMethod yX0_entry, Cond.selects RX0 yX0_entry yX0_entry, Cond.code yX0_entry cX0_entry 3 (some .int), Cond.fieldLink RX0 15 "PermGroup" "chains" "[[I", Cond.fieldLink RX0 33 "PermGroup" "count" "I", Cond.methodLink RX0 91 yX0_slotOf, Cond.static yX0_slotOf, Cond.code yX0_slotOf cX0_slotOf 2 (some .int), Cond.methodLink RX0 49 yX0_invert, Cond.instanceMethod yX0_invert, Cond.selects RX0 yX0_invert yX0_invert, Cond.code yX0_invert cX0_invert 4 (some .int), Cond.methodLink RX0 45 yX0_compose, Cond.instanceMethod yX0_compose, Cond.selects RX0 yX0_compose yX0_compose, Cond.code yX0_compose cX0_compose 5 (some .int), Cond.methodLink RX0 82 yX0_elementsBefore, Cond.instanceMethod yX0_elementsBefore, Cond.selects RX0 yX0_elementsBefore yX0_elementsBefore]
def wsL_rank_r3 : List Cond := [Cond.code yX0_elementsBefore cX0_elementsBefore 6 (some .int), Cond.methodLink RX0 123 yX0_entriesBelow, Cond.instanceMethod yX0_entriesBelow, Cond.selects RX0 yX0_entriesBelow yX0_entriesBelow, Cond.code yX0_entriesBelow cX0_entriesBelow 6 (some .int), Cond.methodLink RX0 53 yX0_fixersOfFirst, Cond.instanceMethod yX0_fixersOfFirst, Cond.selects RX0 yX0_fixersOfFirst yX0_fixersOfFirst, Cond.code yX0_fixersOfFirst cX0_fixersOfFirst 6 (some .int)]
def wsL_rank : List Cond := .codeWith yL_rank cL_rank 4 (some .int) [(0, 9, 12, 18), (0, 9, 15, 20)] :: ((wsL_rank_r1 ++ (wsL_rank_r2 ++ wsL_rank_r3)) ++ wsX00 ++ (vx_atS RX0 76 "java/lang/IllegalArgumentException" ["java/lang/RuntimeException", "java/lang/Exception"]).filter goodWord ++ (vx_atN RX0 81).filter goodWord)
def wsL_least_r1 : List Cond := [Cond.classLink RL 18 "java/lang/IllegalArgumentException", Cond.methodLink RL 22 yX0_least, Cond.instanceMethod yX0_least, Cond.selects RX0 yX0_least yX0_least, Cond.initialized RX0, Cond.code yX0_least cX0_least 2 (some .int), Cond.classLink RX0 72 "java/lang/IllegalArgumentException", Cond.initialized "java/lang/IllegalArgumentException", Cond.methodLink RX0 29 yX0_isPermutation, Cond.instanceMethod yX0_isPermutation, Cond.selects RX0 yX0_isPermutation yX0_isPermutation, Cond.code yX0_isPermutation cX0_isPermutation 4 (some .boolean), Cond.fieldLink RX0 25 "PermGroup" "n" "I", Cond.methodLink RX0 94 yX0_image, Cond.static yX0_image, Cond.code yX0_image cX0_image 2 (some .int), Cond.methodLink RX0 69 yX0_inCoset, Cond.instanceMethod yX0_inCoset, Cond.selects RX0 yX0_inCoset yX0_inCoset, Cond.code yX0_inCoset cX0_inCoset 10 (some .int), Cond.methodLink RX0 53 yX0_fixersOfFirst, Cond.instanceMethod yX0_fixersOfFirst, Cond.selects RX0 yX0_fixersOfFirst yX0_fixersOfFirst, Cond.code yX0_fixersOfFirst cX0_fixersOfFirst 6 (some .int)]
def wsL_least_r2 : List Cond := [Cond.methodLink RX0 97 yX0_entry, Cond.instanceMethod yX0_entry, Cond.selects RX0 yX0_entry yX0_entry, Cond.code yX0_entry cX0_entry 3 (some .int), Cond.fieldLink RX0 15 "PermGroup" "chains" "[[I", Cond.fieldLink RX0 33 "PermGroup" "count" "I", Cond.methodLink RX0 91 yX0_slotOf, Cond.static yX0_slotOf, Cond.code yX0_slotOf cX0_slotOf 2 (some .int), Cond.methodLink RX0 49 yX0_invert, Cond.instanceMethod yX0_invert, Cond.selects RX0 yX0_invert yX0_invert, Cond.code yX0_invert cX0_invert 4 (some .int), Cond.methodLink RX0 45 yX0_compose, Cond.instanceMethod yX0_compose, Cond.selects RX0 yX0_compose yX0_compose, Cond.code yX0_compose cX0_compose 5 (some .int)]
def wsL_least : List Cond := .codeWith yL_least cL_least 4 (some .int) [(0, 9, 12, 18)] :: ((wsL_least_r1 ++ wsL_least_r2) ++ wsX00 ++ (vx_atS RX0 76 "java/lang/IllegalArgumentException" ["java/lang/RuntimeException", "java/lang/Exception"]).filter goodWord)
def wsL_law0_r1 : List Cond := [Cond.classLink RL 8 RX0, Cond.instantiable RX0 7, Cond.initialized RX0, Cond.classLink RL 26 RX1, Cond.instantiable RX1 7, Cond.initialized RX1, Cond.arrayClass .long, Cond.methodLink RL 25 yX0_init, Cond.instanceMethod yX0_init, Cond.code yX0_init cX0_init 1 none, Cond.methodLink RX0 3 objectInit, Cond.instanceMethod objectInit, Cond.code objectInit ⟨#[0xb1]⟩ 1 none, Cond.arrayClass .int, Cond.fieldLink RX0 9 "PermGroup" "added" "[I", Cond.classLink RX0 13 "[[I", Cond.fieldLink RX0 15 "PermGroup" "chains" "[[I", Cond.fieldLink RX0 18 "PermGroup" "filled" "[I", Cond.methodLink RX0 21 yX0_begin, Cond.instanceMethod yX0_begin, Cond.selects RX0 yX0_begin yX0_begin, Cond.code yX0_begin cX0_begin 4 none, Cond.fieldLink RX0 25 "PermGroup" "n" "I", Cond.fieldLink RX0 33 "PermGroup" "count" "I"]
def wsL_law0_r2 : List Cond := [Cond.fieldLink RX0 66 "PermGroup" "identity" "I", Cond.methodLink RX0 91 yX0_slotOf, Cond.static yX0_slotOf, Cond.code yX0_slotOf cX0_slotOf 2 (some .int), Cond.methodLink RL 28 yX1_init, Cond.instanceMethod yX1_init, Cond.code yX1_init cX1_init 1 none, Cond.methodLink RX1 1 objectInit, Cond.fieldLink RX1 7 "PermGroupModel" "factorials" "[I", Cond.fieldLink RX1 13 "PermGroupModel" "gens" "[I", Cond.arrayClass .boolean, Cond.fieldLink RX1 16 "PermGroupModel" "in" "[Z", Cond.fieldLink RX1 20 "PermGroupModel" "waiting" "[I", Cond.fieldLink RX1 23 "PermGroupModel" "n" "I", Cond.methodLink RL 29 yX0_points, Cond.instanceMethod yX0_points, Cond.selects RX0 yX0_points yX0_points, Cond.code yX0_points cX0_points 2 (some .boolean), Cond.methodLink RL 33 yX1_points, Cond.instanceMethod yX1_points, Cond.selects RX1 yX1_points yX1_points, Cond.code yX1_points cX1_points 2 (some .boolean), Cond.fieldLink RX1 43 "PermGroupModel" "count" "I", Cond.methodLink RL 34 yX0_degree]
def wsL_law0_r3 : List Cond := [Cond.instanceMethod yX0_degree, Cond.selects RX0 yX0_degree yX0_degree, Cond.code yX0_degree cX0_degree 1 (some .int), Cond.methodLink RL 38 yX1_degree, Cond.instanceMethod yX1_degree, Cond.selects RX1 yX1_degree yX1_degree, Cond.code yX1_degree cX1_degree 1 (some .int), Cond.methodLink RL 39 yX0_add, Cond.instanceMethod yX0_add, Cond.selects RX0 yX0_add yX0_add, Cond.code yX0_add cX0_add 2 (some .int), Cond.methodLink RX0 36 arraycopyName, Cond.native arraycopyName, Cond.static arraycopyName, Cond.initialized "java/lang/System", Cond.methodLink RX0 29 yX0_isPermutation, Cond.instanceMethod yX0_isPermutation, Cond.selects RX0 yX0_isPermutation yX0_isPermutation, Cond.code yX0_isPermutation cX0_isPermutation 4 (some .boolean), Cond.methodLink RX0 94 yX0_image, Cond.static yX0_image, Cond.code yX0_image cX0_image 2 (some .int), Cond.methodLink RX0 42 yX0_extendBy, Cond.instanceMethod yX0_extendBy]
def wsL_law0_r4 : List Cond := [Cond.selects RX0 yX0_extendBy yX0_extendBy, Cond.code yX0_extendBy cX0_extendBy 5 none, Cond.fieldLink RX0 106 "PermGroup" "filledCount" "I", Cond.methodLink RX0 103 yX0_listFilled, Cond.instanceMethod yX0_listFilled, Cond.selects RX0 yX0_listFilled yX0_listFilled, Cond.code yX0_listFilled cX0_listFilled 3 none, Cond.methodLink RX0 97 yX0_entry, Cond.instanceMethod yX0_entry, Cond.selects RX0 yX0_entry yX0_entry, Cond.code yX0_entry cX0_entry 3 (some .int), Cond.methodLink RX0 120 yX0_noteFilled, Cond.instanceMethod yX0_noteFilled, Cond.selects RX0 yX0_noteFilled yX0_noteFilled, Cond.code yX0_noteFilled cX0_noteFilled 2 none, Cond.methodLink RX0 109 yX0_enter, Cond.instanceMethod yX0_enter, Cond.selects RX0 yX0_enter yX0_enter, Cond.code yX0_enter cX0_enter 5 none, Cond.methodLink RX0 100 yX0_residue, Cond.instanceMethod yX0_residue, Cond.selects RX0 yX0_residue yX0_residue, Cond.code yX0_residue cX0_residue 6 (some .int), Cond.methodLink RX0 49 yX0_invert]
def wsL_law0_r5 : List Cond := [Cond.instanceMethod yX0_invert, Cond.selects RX0 yX0_invert yX0_invert, Cond.code yX0_invert cX0_invert 4 (some .int), Cond.methodLink RX0 45 yX0_compose, Cond.instanceMethod yX0_compose, Cond.selects RX0 yX0_compose yX0_compose, Cond.code yX0_compose cX0_compose 5 (some .int), Cond.methodLink RX0 112 yX0_isFull, Cond.instanceMethod yX0_isFull, Cond.selects RX0 yX0_isFull yX0_isFull, Cond.code yX0_isFull cX0_isFull 1 (some .boolean), Cond.methodLink RX0 116 yX0_enterProduct, Cond.instanceMethod yX0_enterProduct, Cond.selects RX0 yX0_enterProduct yX0_enterProduct, Cond.code yX0_enterProduct cX0_enterProduct 4 none, Cond.methodLink RL 42 yX1_add, Cond.instanceMethod yX1_add, Cond.selects RX1 yX1_add yX1_add, Cond.code yX1_add cX1_add 2 (some .int), Cond.methodLink RX1 52 yX1_isPermutation, Cond.instanceMethod yX1_isPermutation, Cond.selects RX1 yX1_isPermutation yX1_isPermutation, Cond.code yX1_isPermutation cX1_isPermutation 4 (some .boolean), Cond.methodLink RX1 27 yX1_image]
def wsL_law0_r6 : List Cond := [Cond.static yX1_image, Cond.code yX1_image cX1_image 2 (some .int), Cond.methodLink RL 43 yX0_drop, Cond.instanceMethod yX0_drop, Cond.selects RX0 yX0_drop yX0_drop, Cond.code yX0_drop cX0_drop 1 (some .boolean), Cond.methodLink RL 47 yX1_drop, Cond.instanceMethod yX1_drop, Cond.selects RX1 yX1_drop yX1_drop, Cond.code yX1_drop cX1_drop 1 (some .boolean), Cond.methodLink RL 48 yX0_generators, Cond.instanceMethod yX0_generators, Cond.selects RX0 yX0_generators yX0_generators, Cond.code yX0_generators cX0_generators 1 (some .int), Cond.methodLink RL 51 yX1_generators, Cond.instanceMethod yX1_generators, Cond.selects RX1 yX1_generators yX1_generators, Cond.code yX1_generators cX1_generators 1 (some .int), Cond.methodLink RL 52 yX0_generator, Cond.instanceMethod yX0_generator, Cond.selects RX0 yX0_generator yX0_generator, Cond.code yX0_generator cX0_generator 2 (some .int), Cond.methodLink RL 55 yX1_generator, Cond.instanceMethod yX1_generator]
def wsL_law0_r7 : List Cond := [Cond.selects RX1 yX1_generator yX1_generator, Cond.code yX1_generator cX1_generator 2 (some .int), Cond.methodLink RL 56 yX0_product, Cond.instanceMethod yX0_product, Cond.selects RX0 yX0_product yX0_product, Cond.code yX0_product cX0_product 3 (some .int), Cond.methodLink RL 60 yX1_product, Cond.instanceMethod yX1_product, Cond.selects RX1 yX1_product yX1_product, Cond.code yX1_product cX1_product 3 (some .int), Cond.methodLink RX1 46 yX1_times, Cond.instanceMethod yX1_times, Cond.selects RX1 yX1_times yX1_times, Cond.code yX1_times cX1_times 5 (some .int), Cond.methodLink RL 61 yX0_inverse, Cond.instanceMethod yX0_inverse, Cond.selects RX0 yX0_inverse yX0_inverse, Cond.code yX0_inverse cX0_inverse 2 (some .int), Cond.methodLink RL 64 yX1_inverse, Cond.instanceMethod yX1_inverse, Cond.selects RX1 yX1_inverse yX1_inverse, Cond.code yX1_inverse cX1_inverse 2 (some .int), Cond.methodLink RX1 56 yX1_back, Cond.instanceMethod yX1_back]
def wsL_law0_r8 : List Cond := [Cond.selects RX1 yX1_back yX1_back, Cond.code yX1_back cX1_back 4 (some .int), Cond.methodLink RL 65 yX0_order, Cond.instanceMethod yX0_order, Cond.selects RX0 yX0_order yX0_order, Cond.code yX0_order cX0_order 1 (some .int), Cond.methodLink RX0 53 yX0_fixersOfFirst, Cond.instanceMethod yX0_fixersOfFirst, Cond.selects RX0 yX0_fixersOfFirst yX0_fixersOfFirst, Cond.code yX0_fixersOfFirst cX0_fixersOfFirst 6 (some .int), Cond.methodLink RL 68 yX1_order, Cond.instanceMethod yX1_order, Cond.selects RX1 yX1_order yX1_order, Cond.code yX1_order cX1_order 1 (some .int), Cond.methodLink RX1 59 yX1_fill, Cond.instanceMethod yX1_fill, Cond.selects RX1 yX1_fill yX1_fill, Cond.code yX1_fill cX1_fill 7 none, Cond.methodLink RX1 39 yX1_permutation, Cond.instanceMethod yX1_permutation, Cond.selects RX1 yX1_permutation yX1_permutation, Cond.code yX1_permutation cX1_permutation 7 (some .int), Cond.methodLink RX1 31 yX1_free, Cond.instanceMethod yX1_free]
def wsL_law0_r9 : List Cond := [Cond.selects RX1 yX1_free yX1_free, Cond.code yX1_free cX1_free 8 (some .int), Cond.methodLink RX1 35 yX1_isUsed, Cond.static yX1_isUsed, Cond.code yX1_isUsed cX1_isUsed 4 (some .boolean), Cond.methodLink RX1 49 yX1_numberOf, Cond.instanceMethod yX1_numberOf, Cond.selects RX1 yX1_numberOf yX1_numberOf, Cond.code yX1_numberOf cX1_numberOf 4 (some .int), Cond.methodLink RX1 62 yX1_all, Cond.instanceMethod yX1_all, Cond.selects RX1 yX1_all yX1_all, Cond.code yX1_all cX1_all 1 (some .int), Cond.methodLink RX1 66 yX1_below, Cond.instanceMethod yX1_below, Cond.selects RX1 yX1_below yX1_below, Cond.code yX1_below cX1_below 4 (some .int), Cond.methodLink RL 69 yX0_contains, Cond.instanceMethod yX0_contains, Cond.selects RX0 yX0_contains yX0_contains, Cond.code yX0_contains cX0_contains 2 (some .boolean), Cond.methodLink RX0 56 yX0_isElement, Cond.instanceMethod yX0_isElement, Cond.selects RX0 yX0_isElement yX0_isElement]
def wsL_law0_r10 : List Cond := [Cond.code yX0_isElement cX0_isElement 2 (some .boolean), Cond.methodLink RL 72 yX1_contains, Cond.instanceMethod yX1_contains, Cond.selects RX1 yX1_contains yX1_contains, Cond.code yX1_contains cX1_contains 2 (some .boolean), Cond.methodLink RL 73 yL_element, Cond.static yL_element, Cond.initialized RL, Cond.codeWith yL_element cL_element 4 (some .int) [(0, 9, 12, 13)], Cond.classLink RL 13 "java/lang/IndexOutOfBoundsException", Cond.methodLink RL 7 yX0_element, Cond.instanceMethod yX0_element, Cond.selects RX0 yX0_element yX0_element, Cond.code yX0_element cX0_element 2 (some .int), Cond.classLink RX0 59 "java/lang/IndexOutOfBoundsException", Cond.initialized "java/lang/IndexOutOfBoundsException", Cond.methodLink RX0 69 yX0_inCoset, Cond.instanceMethod yX0_inCoset, Cond.selects RX0 yX0_inCoset yX0_inCoset, Cond.code yX0_inCoset cX0_inCoset 10 (some .int), Cond.methodLink RL 78 yX1_element, Cond.instanceMethod yX1_element, Cond.selects RX1 yX1_element yX1_element, Cond.code yX1_element cX1_element 4 (some .int)]
def wsL_law0_r11 : List Cond := [Cond.fieldLink RX1 69 "PermGroupModel" "thrown" "I", Cond.methodLink RL 79 yX1_thrown, Cond.instanceMethod yX1_thrown, Cond.selects RX1 yX1_thrown yX1_thrown, Cond.code yX1_thrown cX1_thrown 1 (some .int), Cond.methodLink RL 82 yL_rank, Cond.static yL_rank, Cond.codeWith yL_rank cL_rank 4 (some .int) [(0, 9, 12, 18), (0, 9, 15, 20)], Cond.classLink RL 18 "java/lang/IllegalArgumentException", Cond.classLink RL 20 "java/util/NoSuchElementException", Cond.methodLink RL 15 yX0_rank, Cond.instanceMethod yX0_rank, Cond.selects RX0 yX0_rank yX0_rank, Cond.code yX0_rank cX0_rank 2 (some .int), Cond.classLink RX0 72 "java/lang/IllegalArgumentException", Cond.initialized "java/lang/IllegalArgumentException", Cond.classLink RX0 77 "java/util/NoSuchElementException", Cond.initialized "java/util/NoSuchElementException", Cond.methodLink RX0 82 yX0_elementsBefore, Cond.instanceMethod yX0_elementsBefore, Cond.selects RX0 yX0_elementsBefore yX0_elementsBefore, Cond.code yX0_elementsBefore cX0_elementsBefore 6 (some .int), Cond.methodLink RX0 123 yX0_entriesBelow, Cond.instanceMethod yX0_entriesBelow]
def wsL_law0_r12 : List Cond := [Cond.selects RX0 yX0_entriesBelow yX0_entriesBelow, Cond.code yX0_entriesBelow cX0_entriesBelow 6 (some .int), Cond.methodLink RL 84 yX1_rank, Cond.instanceMethod yX1_rank, Cond.selects RX1 yX1_rank yX1_rank, Cond.code yX1_rank cX1_rank 3 (some .int), Cond.methodLink RL 85 yL_least, Cond.static yL_least, Cond.codeWith yL_least cL_least 4 (some .int) [(0, 9, 12, 18)], Cond.methodLink RL 22 yX0_least, Cond.instanceMethod yX0_least, Cond.selects RX0 yX0_least yX0_least, Cond.code yX0_least cX0_least 2 (some .int), Cond.methodLink RL 87 yX1_least, Cond.instanceMethod yX1_least, Cond.selects RX1 yX1_least yX1_least, Cond.code yX1_least cX1_least 6 (some .int), Cond.methodLink RL 88 yX0_orbit, Cond.instanceMethod yX0_orbit, Cond.selects RX0 yX0_orbit yX0_orbit, Cond.code yX0_orbit cX0_orbit 5 (some .int), Cond.methodLink RX0 85 yX0_imagesOf, Cond.instanceMethod yX0_imagesOf, Cond.selects RX0 yX0_imagesOf yX0_imagesOf]
def wsL_law0_r13 : List Cond := [Cond.code yX0_imagesOf cX0_imagesOf 5 (some .int), Cond.methodLink RL 91 yX1_orbit, Cond.instanceMethod yX1_orbit, Cond.selects RX1 yX1_orbit yX1_orbit, Cond.code yX1_orbit cX1_orbit 5 (some .int), Cond.methodLink RL 92 yX0_fixing, Cond.instanceMethod yX0_fixing, Cond.selects RX0 yX0_fixing yX0_fixing, Cond.code yX0_fixing cX0_fixing 2 (some .int), Cond.methodLink RL 95 yX1_fixing, Cond.instanceMethod yX1_fixing, Cond.selects RX1 yX1_fixing yX1_fixing, Cond.code yX1_fixing cX1_fixing 7 (some .int), Cond.methodLink RL 96 yX0_even, Cond.instanceMethod yX0_even, Cond.selects RX0 yX0_even yX0_even, Cond.code yX0_even cX0_even 3 (some .int), Cond.methodLink RX0 88 yX0_isOdd, Cond.instanceMethod yX0_isOdd, Cond.selects RX0 yX0_isOdd yX0_isOdd, Cond.code yX0_isOdd cX0_isOdd 5 (some .boolean), Cond.methodLink RL 99 yX1_even, Cond.instanceMethod yX1_even, Cond.selects RX1 yX1_even yX1_even]
def wsL_law0_r14 : List Cond := [Cond.code yX1_even cX1_even 7 (some .int)]
def wsL_law0 : List Cond := (wsL_law0_r1 ++ (wsL_law0_r2 ++ (wsL_law0_r3 ++ (wsL_law0_r4 ++ (wsL_law0_r5 ++ (wsL_law0_r6 ++ (wsL_law0_r7 ++ (wsL_law0_r8 ++ (wsL_law0_r9 ++ (wsL_law0_r10 ++ (wsL_law0_r11 ++ (wsL_law0_r12 ++ (wsL_law0_r13 ++ wsL_law0_r14))))))))))))) ++ wsX00 ++ wsX10 ++ ([] : List Cond)
def wsL_law : List Cond := wsL_law0 ++ (vx_atS RX0 63 "java/lang/IndexOutOfBoundsException" ["java/lang/RuntimeException", "java/lang/Exception"]).filter goodWord ++ (vx_atS RX0 76 "java/lang/IllegalArgumentException" ["java/lang/RuntimeException", "java/lang/Exception"]).filter goodWord ++ (vx_atN RX0 81).filter goodWord
set_option maxRecDepth 20000 in
theorem wsL_law_in0 : ∀ w ∈ wsL_law0, w ∈ lw_tbl := fun w h => (goodIn_p wsL_law0 [43, 46, 52, 55, 337, 82, 365, 86, 369, 90, 94, 97, 104, 108, 112, 116, 120, 124, 128, 132, 136, 140, 373, 377, 380, 144, 384, 148, 388, 152, 392, 156, 396, 400, 160, 404, 408, 164, 168, 412, 416, 420, 424, 427, 431, 435, 439, 172, 176, 443, 204, 276, 447, 471, 285, 321, 325, 451, 332, 455, 180, 184, 459, 188, 463, 192, 196, 467] (by decide +kernel) (by decide +kernel) w h).1
theorem wsL_law_x0 : ∀ w ∈ (vx_atS RX0 63 "java/lang/IndexOutOfBoundsException" ["java/lang/RuntimeException", "java/lang/Exception"]).filter goodWord, w ∈ lw_tbl := by decide +kernel
theorem wsL_law_x1 : ∀ w ∈ (vx_atS RX0 76 "java/lang/IllegalArgumentException" ["java/lang/RuntimeException", "java/lang/Exception"]).filter goodWord, w ∈ lw_tbl := by decide +kernel
theorem wsL_law_x2 : ∀ w ∈ (vx_atN RX0 81).filter goodWord, w ∈ lw_tbl := by decide +kernel
theorem wsL_law_in : ∀ w ∈ wsL_law, w ∈ lw_tbl := fun w h => (List.mem_append.mp h).elim (fun h => (List.mem_append.mp h).elim (fun h => (List.mem_append.mp h).elim (fun h => wsL_law_in0 w h) (fun h => wsL_law_x0 w h)) (fun h => wsL_law_x1 w h)) (fun h => wsL_law_x2 w h)
theorem inlX0 : ∀ w ∈ wsX00, w ∈ wsL_law := fun _ h => List.mem_append_left _ (List.mem_append_left _ (List.mem_append_left _ (List.mem_append_left _ (List.mem_append_left _ (List.mem_append_right _ h)))))
theorem inX0 : ∀ w ∈ wsX00, w ∈ lw_tbl := fun w h => wsL_law_in w (inlX0 w h)
theorem inlX1 : ∀ w ∈ wsX10, w ∈ wsL_law := fun _ h => List.mem_append_left _ (List.mem_append_left _ (List.mem_append_left _ (List.mem_append_left _ (List.mem_append_right _ h))))
theorem inX1 : ∀ w ∈ wsX10, w ∈ lw_tbl := fun w h => wsL_law_in w (inlX1 w h)
theorem inJ0 : ∀ w ∈ wsJ00, w ∈ lw_tbl := by decide +kernel
theorem inJ10 : ∀ w ∈ wsJ100, w ∈ lw_tbl := by decide +kernel
set_option maxRecDepth 20000 in
theorem ggX0_element_X0_fixersOfFirst : GoodIn wsX0_element wsX0_fixersOfFirst := goodIn_r _ [8, 9, 10, 11, 12, 7, 13, 14, 15, 16, 17, 18, 34, 35, 36, 37, 38, 39, 40] (by decide +kernel) (by decide +kernel)
set_option maxRecDepth 20000 in
theorem gX0_element_X0_fixersOfFirst : GoodIn wsX0_element (wsV RX0 53 RX0 yX0_fixersOfFirst wsX0_fixersOfFirst) := goodIn_app (goodIn_of _ (by decide +kernel)) ggX0_element_X0_fixersOfFirst
set_option maxRecDepth 20000 in
theorem ggX0_element_X0_inCoset : GoodIn wsX0_element wsX0_inCoset := goodIn_r _ [22, 9, 4, 5, 6, 7, 8, 10, 11, 12, 13, 14, 15, 16, 17, 18, 23, 24, 25, 26, 27, 28, 29, 30, 31, 32, 33, 34, 35, 36, 37, 38, 39, 40] (by decide +kernel) (by decide +kernel)
set_option maxRecDepth 20000 in
theorem gX0_element_X0_inCoset : GoodIn wsX0_element (wsV RX0 69 RX0 yX0_inCoset wsX0_inCoset) := goodIn_app (goodIn_of _ (by decide +kernel)) ggX0_element_X0_inCoset
theorem dX0_element_0 : decode cX0_element 0 = .ok (.iload_n 1, 1) := by decide +kernel
theorem dX0_element_1 : decode cX0_element 1 = .ok (.ifCond .lt 12, 3) := by decide +kernel
theorem dX0_element_4 : decode cX0_element 4 = .ok (.iload_n 1, 1) := by decide +kernel
theorem dX0_element_5 : decode cX0_element 5 = .ok (.aload_n 0, 1) := by decide +kernel
theorem dX0_element_6 : decode cX0_element 6 = .ok (.iconst 0, 1) := by decide +kernel
theorem dX0_element_7 : decode cX0_element 7 = .ok (.invokevirtual 53, 3) := by decide +kernel
theorem dX0_element_10 : decode cX0_element 10 = .ok (.if_icmp .lt 13, 3) := by decide +kernel
theorem dX0_element_13 : decode cX0_element 13 = .ok (.new 59, 3) := by decide +kernel
theorem dX0_element_16 : decode cX0_element 16 = .ok (.dup, 1) := by decide +kernel
theorem dX0_element_17 : decode cX0_element 17 = .ok (.ldc 61, 2) := by decide +kernel
theorem dX0_element_19 : decode cX0_element 19 = .ok (.invokespecial 63, 3) := by decide +kernel
theorem dX0_element_22 : decode cX0_element 22 = .ok (.athrow, 1) := by decide +kernel
theorem dX0_element_23 : decode cX0_element 23 = .ok (.aload_n 0, 1) := by decide +kernel
theorem dX0_element_24 : decode cX0_element 24 = .ok (.aload_n 0, 1) := by decide +kernel
theorem dX0_element_25 : decode cX0_element 25 = .ok (.getfield 66, 3) := by decide +kernel
theorem dX0_element_28 : decode cX0_element 28 = .ok (.iload_n 1, 1) := by decide +kernel
theorem dX0_element_29 : decode cX0_element 29 = .ok (.invokevirtual 69, 3) := by decide +kernel
theorem dX0_element_32 : decode cX0_element 32 = .ok (.ireturn, 1) := by decide +kernel
set_option maxRecDepth 20000 in
theorem ggX0_rank_X0_isPermutation : GoodIn wsX0_rank wsX0_isPermutation := goodIn_r _ [9, 10, 11, 12, 8, 13, 52, 53, 54, 55, 56, 57, 58] (by decide +kernel) (by decide +kernel)
set_option maxRecDepth 20000 in
theorem gX0_rank_X0_isPermutation : GoodIn wsX0_rank (wsV RX0 29 RX0 yX0_isPermutation wsX0_isPermutation) := goodIn_app (goodIn_of _ (by decide +kernel)) ggX0_rank_X0_isPermutation
set_option maxRecDepth 20000 in
theorem ggX0_rank_X0_isElement : GoodIn wsX0_rank wsX0_isElement := goodIn_r _ [17, 18, 19, 20, 21, 8, 22, 10, 11, 12, 13, 23, 24, 25, 26, 27, 28, 29, 30, 31, 32, 33, 34, 35, 36, 37, 38, 39, 52, 53, 54, 55, 56, 57, 58] (by decide +kernel) (by decide +kernel)
set_option maxRecDepth 20000 in
theorem gX0_rank_X0_isElement : GoodIn wsX0_rank (wsV RX0 56 RX0 yX0_isElement wsX0_isElement) := goodIn_app (goodIn_of _ (by decide +kernel)) ggX0_rank_X0_isElement
set_option maxRecDepth 20000 in
theorem ggX0_rank_X0_elementsBefore : GoodIn wsX0_rank wsX0_elementsBefore := goodIn_r _ [43, 18, 10, 11, 12, 8, 13, 44, 45, 46, 47, 23, 24, 25, 26, 27, 28, 29, 30, 31, 48, 49, 50, 51, 32, 33, 34, 35, 36, 37, 38, 39, 52, 53, 54, 55, 56, 57, 58] (by decide +kernel) (by decide +kernel)
set_option maxRecDepth 20000 in
theorem gX0_rank_X0_elementsBefore : GoodIn wsX0_rank (wsV RX0 82 RX0 yX0_elementsBefore wsX0_elementsBefore) := goodIn_app (goodIn_of _ (by decide +kernel)) ggX0_rank_X0_elementsBefore
theorem dX0_rank_0 : decode cX0_rank 0 = .ok (.aload_n 0, 1) := by decide +kernel
theorem dX0_rank_1 : decode cX0_rank 1 = .ok (.iload_n 1, 1) := by decide +kernel
theorem dX0_rank_2 : decode cX0_rank 2 = .ok (.invokevirtual 29, 3) := by decide +kernel
theorem dX0_rank_5 : decode cX0_rank 5 = .ok (.ifCond .ne 13, 3) := by decide +kernel
theorem dX0_rank_8 : decode cX0_rank 8 = .ok (.new 72, 3) := by decide +kernel
theorem dX0_rank_11 : decode cX0_rank 11 = .ok (.dup, 1) := by decide +kernel
theorem dX0_rank_12 : decode cX0_rank 12 = .ok (.ldc 74, 2) := by decide +kernel
theorem dX0_rank_14 : decode cX0_rank 14 = .ok (.invokespecial 76, 3) := by decide +kernel
theorem dX0_rank_17 : decode cX0_rank 17 = .ok (.athrow, 1) := by decide +kernel
theorem dX0_rank_18 : decode cX0_rank 18 = .ok (.aload_n 0, 1) := by decide +kernel
theorem dX0_rank_19 : decode cX0_rank 19 = .ok (.iload_n 1, 1) := by decide +kernel
theorem dX0_rank_20 : decode cX0_rank 20 = .ok (.invokevirtual 56, 3) := by decide +kernel
theorem dX0_rank_23 : decode cX0_rank 23 = .ok (.ifCond .ne 13, 3) := by decide +kernel
theorem dX0_rank_26 : decode cX0_rank 26 = .ok (.new 77, 3) := by decide +kernel
theorem dX0_rank_29 : decode cX0_rank 29 = .ok (.dup, 1) := by decide +kernel
theorem dX0_rank_30 : decode cX0_rank 30 = .ok (.ldc 79, 2) := by decide +kernel
theorem dX0_rank_32 : decode cX0_rank 32 = .ok (.invokespecial 81, 3) := by decide +kernel
theorem dX0_rank_35 : decode cX0_rank 35 = .ok (.athrow, 1) := by decide +kernel
theorem dX0_rank_36 : decode cX0_rank 36 = .ok (.aload_n 0, 1) := by decide +kernel
theorem dX0_rank_37 : decode cX0_rank 37 = .ok (.iload_n 1, 1) := by decide +kernel
theorem dX0_rank_38 : decode cX0_rank 38 = .ok (.invokevirtual 82, 3) := by decide +kernel
theorem dX0_rank_41 : decode cX0_rank 41 = .ok (.ireturn, 1) := by decide +kernel
set_option maxRecDepth 20000 in
theorem ggX0_least_X0_isPermutation : GoodIn wsX0_least wsX0_isPermutation := goodIn_r _ [7, 8, 9, 10, 6, 11, 37, 38, 39, 40, 41, 42, 43] (by decide +kernel) (by decide +kernel)
set_option maxRecDepth 20000 in
theorem gX0_least_X0_isPermutation : GoodIn wsX0_least (wsV RX0 29 RX0 yX0_isPermutation wsX0_isPermutation) := goodIn_app (goodIn_of _ (by decide +kernel)) ggX0_least_X0_isPermutation
set_option maxRecDepth 20000 in
theorem ggX0_least_X0_inCoset : GoodIn wsX0_least wsX0_inCoset := goodIn_r _ [15, 8, 16, 17, 18, 6, 19, 20, 21, 22, 23, 24, 25, 26, 27, 28, 29, 30, 31, 32, 9, 10, 11, 33, 34, 35, 36, 37, 38, 39, 40, 41, 42, 43] (by decide +kernel) (by decide +kernel)
set_option maxRecDepth 20000 in
theorem gX0_least_X0_inCoset : GoodIn wsX0_least (wsV RX0 69 RX0 yX0_inCoset wsX0_inCoset) := goodIn_app (goodIn_of _ (by decide +kernel)) ggX0_least_X0_inCoset
theorem dX0_least_0 : decode cX0_least 0 = .ok (.aload_n 0, 1) := by decide +kernel
theorem dX0_least_1 : decode cX0_least 1 = .ok (.iload_n 1, 1) := by decide +kernel
theorem dX0_least_2 : decode cX0_least 2 = .ok (.invokevirtual 29, 3) := by decide +kernel
theorem dX0_least_5 : decode cX0_least 5 = .ok (.ifCond .ne 13, 3) := by decide +kernel
theorem dX0_least_8 : decode cX0_least 8 = .ok (.new 72, 3) := by decide +kernel
theorem dX0_least_11 : decode cX0_least 11 = .ok (.dup, 1) := by decide +kernel
theorem dX0_least_12 : decode cX0_least 12 = .ok (.ldc 74, 2) := by decide +kernel
theorem dX0_least_14 : decode cX0_least 14 = .ok (.invokespecial 76, 3) := by decide +kernel
theorem dX0_least_17 : decode cX0_least 17 = .ok (.athrow, 1) := by decide +kernel
theorem dX0_least_18 : decode cX0_least 18 = .ok (.aload_n 0, 1) := by decide +kernel
theorem dX0_least_19 : decode cX0_least 19 = .ok (.iload_n 1, 1) := by decide +kernel
theorem dX0_least_20 : decode cX0_least 20 = .ok (.iconst 0, 1) := by decide +kernel
theorem dX0_least_21 : decode cX0_least 21 = .ok (.invokevirtual 69, 3) := by decide +kernel
theorem dX0_least_24 : decode cX0_least 24 = .ok (.ireturn, 1) := by decide +kernel
set_option maxRecDepth 20000 in
theorem ggL_element_X0_element : GoodIn wsL_element wsX0_element := goodIn_ca (goodIn_r _ [6, 7, 8, 9, 10, 11, 12, 5, 13, 14, 15, 16, 17, 18, 19, 20, 21, 22, 23, 24, 25, 26, 27, 28, 29, 30, 31, 32, 33, 34, 35, 36, 37, 38, 39, 40, 41, 42, 43, 44, 45] (by decide +kernel) (by decide +kernel)) (goodIn_sub (fun _ h => List.mem_cons_of_mem _ (List.mem_append_right _ h)) (by decide +kernel))
set_option maxRecDepth 20000 in
theorem gL_element_X0_element : GoodIn wsL_element (wsV RL 7 RX0 yX0_element wsX0_element) := goodIn_app (goodIn_of _ (by decide +kernel)) ggL_element_X0_element
theorem dL_element_0 : decode cL_element 0 = .ok (.aload_n 2, 1) := by decide +kernel
theorem dL_element_1 : decode cL_element 1 = .ok (.iconst 0, 1) := by decide +kernel
theorem dL_element_2 : decode cL_element 2 = .ok (.aload_n 0, 1) := by decide +kernel
theorem dL_element_3 : decode cL_element 3 = .ok (.iload_n 1, 1) := by decide +kernel
theorem dL_element_4 : decode cL_element 4 = .ok (.invokevirtual 7, 3) := by decide +kernel
theorem dL_element_7 : decode cL_element 7 = .ok (.i2l, 1) := by decide +kernel
theorem dL_element_8 : decode cL_element 8 = .ok (.lastore, 1) := by decide +kernel
theorem dL_element_9 : decode cL_element 9 = .ok (.goto 6, 3) := by decide +kernel
theorem dL_element_12 : decode cL_element 12 = .ok (.astore_n 3, 1) := by decide +kernel
theorem dL_element_13 : decode cL_element 13 = .ok (.iconst 1, 1) := by decide +kernel
theorem dL_element_14 : decode cL_element 14 = .ok (.ireturn, 1) := by decide +kernel
theorem dL_element_15 : decode cL_element 15 = .ok (.iconst 0, 1) := by decide +kernel
theorem dL_element_16 : decode cL_element 16 = .ok (.ireturn, 1) := by decide +kernel
set_option maxRecDepth 20000 in
theorem ggL_rank_X0_rank : GoodIn wsL_rank wsX0_rank := goodIn_ca (goodIn_ca (goodIn_r _ [7, 8, 9, 10, 11, 12, 13, 14, 6, 15, 16, 17, 18, 19, 20, 21, 22, 23, 24, 25, 26, 27, 28, 29, 30, 31, 32, 33, 34, 35, 36, 37, 38, 39, 40, 41, 42, 43, 44, 45, 46, 47, 48, 49, 50, 51, 52, 53, 54, 55, 56, 57, 58, 59, 60, 61, 62, 63, 64] (by decide +kernel) (by decide +kernel)) (goodIn_sub (fun _ h => List.mem_cons_of_mem _ (List.mem_append_left _ (List.mem_append_right _ h))) (by decide +kernel))) (goodIn_sub (fun _ h => List.mem_cons_of_mem _ (List.mem_append_right _ h)) (by decide +kernel))
set_option maxRecDepth 20000 in
theorem gL_rank_X0_rank : GoodIn wsL_rank (wsV RL 15 RX0 yX0_rank wsX0_rank) := goodIn_app (goodIn_of _ (by decide +kernel)) ggL_rank_X0_rank
theorem dL_rank_0 : decode cL_rank 0 = .ok (.aload_n 2, 1) := by decide +kernel
theorem dL_rank_1 : decode cL_rank 1 = .ok (.iconst 0, 1) := by decide +kernel
theorem dL_rank_2 : decode cL_rank 2 = .ok (.aload_n 0, 1) := by decide +kernel
theorem dL_rank_3 : decode cL_rank 3 = .ok (.iload_n 1, 1) := by decide +kernel
theorem dL_rank_4 : decode cL_rank 4 = .ok (.invokevirtual 15, 3) := by decide +kernel
theorem dL_rank_7 : decode cL_rank 7 = .ok (.i2l, 1) := by decide +kernel
theorem dL_rank_8 : decode cL_rank 8 = .ok (.lastore, 1) := by decide +kernel
theorem dL_rank_9 : decode cL_rank 9 = .ok (.goto 9, 3) := by decide +kernel
theorem dL_rank_12 : decode cL_rank 12 = .ok (.astore_n 3, 1) := by decide +kernel
theorem dL_rank_13 : decode cL_rank 13 = .ok (.iconst 1, 1) := by decide +kernel
theorem dL_rank_14 : decode cL_rank 14 = .ok (.ireturn, 1) := by decide +kernel
theorem dL_rank_15 : decode cL_rank 15 = .ok (.astore_n 3, 1) := by decide +kernel
theorem dL_rank_16 : decode cL_rank 16 = .ok (.iconst 2, 1) := by decide +kernel
theorem dL_rank_17 : decode cL_rank 17 = .ok (.ireturn, 1) := by decide +kernel
theorem dL_rank_18 : decode cL_rank 18 = .ok (.iconst 0, 1) := by decide +kernel
theorem dL_rank_19 : decode cL_rank 19 = .ok (.ireturn, 1) := by decide +kernel
set_option maxRecDepth 20000 in
theorem ggL_least_X0_least : GoodIn wsL_least wsX0_least := goodIn_ca (goodIn_r _ [6, 7, 8, 9, 10, 11, 5, 12, 13, 14, 15, 16, 17, 18, 19, 20, 21, 22, 23, 24, 25, 26, 27, 28, 29, 30, 31, 32, 33, 34, 35, 36, 37, 38, 39, 40, 41, 42, 43, 44, 45, 46, 47, 48] (by decide +kernel) (by decide +kernel)) (goodIn_sub (fun _ h => List.mem_cons_of_mem _ (List.mem_append_right _ h)) (by decide +kernel))
set_option maxRecDepth 20000 in
theorem gL_least_X0_least : GoodIn wsL_least (wsV RL 22 RX0 yX0_least wsX0_least) := goodIn_app (goodIn_of _ (by decide +kernel)) ggL_least_X0_least
theorem dL_least_0 : decode cL_least 0 = .ok (.aload_n 2, 1) := by decide +kernel
theorem dL_least_1 : decode cL_least 1 = .ok (.iconst 0, 1) := by decide +kernel
theorem dL_least_2 : decode cL_least 2 = .ok (.aload_n 0, 1) := by decide +kernel
theorem dL_least_3 : decode cL_least 3 = .ok (.iload_n 1, 1) := by decide +kernel
theorem dL_least_4 : decode cL_least 4 = .ok (.invokevirtual 22, 3) := by decide +kernel
theorem dL_least_7 : decode cL_least 7 = .ok (.i2l, 1) := by decide +kernel
theorem dL_least_8 : decode cL_least 8 = .ok (.lastore, 1) := by decide +kernel
theorem dL_least_9 : decode cL_least 9 = .ok (.goto 6, 3) := by decide +kernel
theorem dL_least_12 : decode cL_least 12 = .ok (.astore_n 3, 1) := by decide +kernel
theorem dL_least_13 : decode cL_least 13 = .ok (.iconst 1, 1) := by decide +kernel
theorem dL_least_14 : decode cL_least 14 = .ok (.ireturn, 1) := by decide +kernel
theorem dL_least_15 : decode cL_least 15 = .ok (.iconst 0, 1) := by decide +kernel
theorem dL_least_16 : decode cL_least 16 = .ok (.ireturn, 1) := by decide +kernel
set_option maxRecDepth 20000 in
theorem ggL_law_X0_init : GoodIn wsL_law wsX0_init := goodIn_r _ [9, 10, 11, 12, 13, 14, 15, 16, 17, 18, 19, 20, 2, 21, 22, 23, 24, 25, 26, 27, 313, 314, 315, 316, 317, 318, 319] (by decide +kernel) (by decide +kernel)
set_option maxRecDepth 20000 in
theorem gL_law_X0_init : GoodIn wsL_law (wsX0_init) := ggL_law_X0_init
set_option maxRecDepth 20000 in
theorem ggL_law_X1_init : GoodIn wsL_law wsX1_init := goodIn_r _ [30, 31, 11, 12, 13, 32, 33, 34, 35, 36, 37, 320, 321, 322, 323, 324, 325, 326] (by decide +kernel) (by decide +kernel)
set_option maxRecDepth 20000 in
theorem gL_law_X1_init : GoodIn wsL_law (wsX1_init) := ggL_law_X1_init
set_option maxRecDepth 20000 in
theorem ggL_law_X0_points : GoodIn wsL_law wsX0_points := goodIn_r _ [41, 18, 19, 20, 2, 21, 22, 23, 24, 16, 25, 26, 27, 313, 314, 315, 316, 317, 318, 319] (by decide +kernel) (by decide +kernel)
set_option maxRecDepth 20000 in
theorem gL_law_X0_points : GoodIn wsL_law (wsV RL 29 RX0 yX0_points wsX0_points) := goodIn_app (goodIn_of _ (by decide +kernel)) ggL_law_X0_points
set_option maxRecDepth 20000 in
theorem ggL_law_X1_points : GoodIn wsL_law wsX1_points := goodIn_r _ [45, 37, 46, 320, 321, 322, 323, 324, 325, 326] (by decide +kernel) (by decide +kernel)
set_option maxRecDepth 20000 in
theorem gL_law_X1_points : GoodIn wsL_law (wsV RL 33 RX1 yX1_points wsX1_points) := goodIn_app (goodIn_of _ (by decide +kernel)) ggL_law_X1_points
set_option maxRecDepth 20000 in
theorem ggL_law_X0_degree : GoodIn wsL_law wsX0_degree := goodIn_r _ [50, 22, 313, 314, 315, 316, 317, 318, 319] (by decide +kernel) (by decide +kernel)
set_option maxRecDepth 20000 in
theorem gL_law_X0_degree : GoodIn wsL_law (wsV RL 34 RX0 yX0_degree wsX0_degree) := goodIn_app (goodIn_of _ (by decide +kernel)) ggL_law_X0_degree
set_option maxRecDepth 20000 in
theorem ggL_law_X1_degree : GoodIn wsL_law wsX1_degree := goodIn_r _ [54, 37, 320, 321, 322, 323, 324, 325, 326] (by decide +kernel) (by decide +kernel)
set_option maxRecDepth 20000 in
theorem gL_law_X1_degree : GoodIn wsL_law (wsV RL 38 RX1 yX1_degree wsX1_degree) := goodIn_app (goodIn_of _ (by decide +kernel)) ggL_law_X1_degree
set_option maxRecDepth 20000 in
theorem ggL_law_X0_add : GoodIn wsL_law wsX0_add := goodIn_r _ [58, 23, 14, 16, 59, 60, 61, 62, 63, 64, 65, 2, 66, 22, 67, 68, 69, 70, 71, 72, 73, 74, 17, 75, 76, 77, 78, 79, 80, 81, 82, 25, 26, 27, 83, 84, 85, 86, 87, 88, 89, 90, 91, 92, 93, 94, 95, 96, 97, 98, 99, 100, 101, 102, 103, 104, 105, 106, 107, 108, 109, 110, 313, 314, 315, 316, 317, 318, 319] (by decide +kernel) (by decide +kernel)
set_option maxRecDepth 20000 in
theorem gL_law_X0_add : GoodIn wsL_law (wsV RL 39 RX0 yX0_add wsX0_add) := goodIn_app (goodIn_of _ (by decide +kernel)) ggL_law_X0_add
set_option maxRecDepth 20000 in
theorem ggL_law_X1_add : GoodIn wsL_law wsX1_add := goodIn_r _ [114, 46, 33, 115, 116, 117, 5, 118, 37, 119, 120, 121, 320, 321, 322, 323, 324, 325, 326] (by decide +kernel) (by decide +kernel)
set_option maxRecDepth 20000 in
theorem gL_law_X1_add : GoodIn wsL_law (wsV RL 42 RX1 yX1_add wsX1_add) := goodIn_app (goodIn_of _ (by decide +kernel)) ggL_law_X1_add
set_option maxRecDepth 20000 in
theorem ggL_law_X0_drop : GoodIn wsL_law wsX0_drop := goodIn_r _ [125, 23, 313, 314, 315, 316, 317, 318, 319] (by decide +kernel) (by decide +kernel)
set_option maxRecDepth 20000 in
theorem gL_law_X0_drop : GoodIn wsL_law (wsV RL 43 RX0 yX0_drop wsX0_drop) := goodIn_app (goodIn_of _ (by decide +kernel)) ggL_law_X0_drop
set_option maxRecDepth 20000 in
theorem ggL_law_X1_drop : GoodIn wsL_law wsX1_drop := goodIn_r _ [129, 46, 320, 321, 322, 323, 324, 325, 326] (by decide +kernel) (by decide +kernel)
set_option maxRecDepth 20000 in
theorem gL_law_X1_drop : GoodIn wsL_law (wsV RL 47 RX1 yX1_drop wsX1_drop) := goodIn_app (goodIn_of _ (by decide +kernel)) ggL_law_X1_drop
set_option maxRecDepth 20000 in
theorem ggL_law_X0_generators : GoodIn wsL_law wsX0_generators := goodIn_r _ [133, 23, 313, 314, 315, 316, 317, 318, 319] (by decide +kernel) (by decide +kernel)
set_option maxRecDepth 20000 in
theorem gL_law_X0_generators : GoodIn wsL_law (wsV RL 48 RX0 yX0_generators wsX0_generators) := goodIn_app (goodIn_of _ (by decide +kernel)) ggL_law_X0_generators
set_option maxRecDepth 20000 in
theorem ggL_law_X1_generators : GoodIn wsL_law wsX1_generators := goodIn_r _ [137, 46, 320, 321, 322, 323, 324, 325, 326] (by decide +kernel) (by decide +kernel)
set_option maxRecDepth 20000 in
theorem gL_law_X1_generators : GoodIn wsL_law (wsV RL 51 RX1 yX1_generators wsX1_generators) := goodIn_app (goodIn_of _ (by decide +kernel)) ggL_law_X1_generators
set_option maxRecDepth 20000 in
theorem ggL_law_X0_generator : GoodIn wsL_law wsX0_generator := goodIn_r _ [141, 23, 14, 313, 314, 315, 316, 317, 318, 319] (by decide +kernel) (by decide +kernel)
set_option maxRecDepth 20000 in
theorem gL_law_X0_generator : GoodIn wsL_law (wsV RL 52 RX0 yX0_generator wsX0_generator) := goodIn_app (goodIn_of _ (by decide +kernel)) ggL_law_X0_generator
set_option maxRecDepth 20000 in
theorem ggL_law_X1_generator : GoodIn wsL_law wsX1_generator := goodIn_r _ [145, 46, 33, 320, 321, 322, 323, 324, 325, 326] (by decide +kernel) (by decide +kernel)
set_option maxRecDepth 20000 in
theorem gL_law_X1_generator : GoodIn wsL_law (wsV RL 55 RX1 yX1_generator wsX1_generator) := goodIn_app (goodIn_of _ (by decide +kernel)) ggL_law_X1_generator
set_option maxRecDepth 20000 in
theorem ggL_law_X0_product : GoodIn wsL_law wsX0_product := goodIn_r _ [149, 63, 64, 65, 2, 66, 22, 67, 68, 69, 99, 100, 101, 102, 313, 314, 315, 316, 317, 318, 319] (by decide +kernel) (by decide +kernel)
set_option maxRecDepth 20000 in
theorem gL_law_X0_product : GoodIn wsL_law (wsV RL 56 RX0 yX0_product wsX0_product) := goodIn_app (goodIn_of _ (by decide +kernel)) ggL_law_X0_product
set_option maxRecDepth 20000 in
theorem ggL_law_X1_product : GoodIn wsL_law wsX1_product := goodIn_r _ [153, 115, 116, 117, 5, 118, 37, 119, 120, 121, 154, 155, 156, 157, 320, 321, 322, 323, 324, 325, 326] (by decide +kernel) (by decide +kernel)
set_option maxRecDepth 20000 in
theorem gL_law_X1_product : GoodIn wsL_law (wsV RL 60 RX1 yX1_product wsX1_product) := goodIn_app (goodIn_of _ (by decide +kernel)) ggL_law_X1_product
set_option maxRecDepth 20000 in
theorem ggL_law_X0_inverse : GoodIn wsL_law wsX0_inverse := goodIn_r _ [161, 63, 64, 65, 2, 66, 22, 67, 68, 69, 95, 96, 97, 98, 313, 314, 315, 316, 317, 318, 319] (by decide +kernel) (by decide +kernel)
set_option maxRecDepth 20000 in
theorem gL_law_X0_inverse : GoodIn wsL_law (wsV RL 61 RX0 yX0_inverse wsX0_inverse) := goodIn_app (goodIn_of _ (by decide +kernel)) ggL_law_X0_inverse
set_option maxRecDepth 20000 in
theorem ggL_law_X1_inverse : GoodIn wsL_law wsX1_inverse := goodIn_r _ [165, 115, 116, 117, 5, 118, 37, 119, 120, 121, 166, 167, 168, 169, 320, 321, 322, 323, 324, 325, 326] (by decide +kernel) (by decide +kernel)
set_option maxRecDepth 20000 in
theorem gL_law_X1_inverse : GoodIn wsL_law (wsV RL 64 RX1 yX1_inverse wsX1_inverse) := goodIn_app (goodIn_of _ (by decide +kernel)) ggL_law_X1_inverse
set_option maxRecDepth 20000 in
theorem ggL_law_X0_order : GoodIn wsL_law wsX0_order := goodIn_r _ [173, 174, 175, 176, 2, 177, 22, 79, 80, 81, 82, 16, 23, 25, 26, 27, 313, 314, 315, 316, 317, 318, 319] (by decide +kernel) (by decide +kernel)
set_option maxRecDepth 20000 in
theorem gL_law_X0_order : GoodIn wsL_law (wsV RL 65 RX0 yX0_order wsX0_order) := goodIn_app (goodIn_of _ (by decide +kernel)) ggL_law_X0_order
set_option maxRecDepth 20000 in
theorem ggL_law_X1_order : GoodIn wsL_law wsX1_order := goodIn_r _ [181, 182, 183, 184, 5, 185, 35, 36, 46, 33, 186, 187, 188, 189, 37, 32, 190, 191, 192, 193, 119, 120, 121, 194, 195, 196, 154, 155, 156, 157, 197, 198, 199, 200, 201, 202, 203, 204, 205, 206, 207, 208, 320, 321, 322, 323, 324, 325, 326] (by decide +kernel) (by decide +kernel)
set_option maxRecDepth 20000 in
theorem gL_law_X1_order : GoodIn wsL_law (wsV RL 68 RX1 yX1_order wsX1_order) := goodIn_app (goodIn_of _ (by decide +kernel)) ggL_law_X1_order
set_option maxRecDepth 20000 in
theorem ggL_law_X0_contains : GoodIn wsL_law wsX0_contains := goodIn_r _ [212, 63, 64, 65, 2, 66, 22, 67, 68, 69, 213, 214, 215, 216, 24, 91, 92, 93, 94, 79, 80, 81, 82, 16, 23, 25, 26, 27, 95, 96, 97, 98, 99, 100, 101, 102, 313, 314, 315, 316, 317, 318, 319] (by decide +kernel) (by decide +kernel)
set_option maxRecDepth 20000 in
theorem gL_law_X0_contains : GoodIn wsL_law (wsV RL 69 RX0 yX0_contains wsX0_contains) := goodIn_app (goodIn_of _ (by decide +kernel)) ggL_law_X0_contains
set_option maxRecDepth 20000 in
theorem ggL_law_X1_contains : GoodIn wsL_law wsX1_contains := goodIn_r _ [220, 35, 115, 116, 117, 5, 118, 37, 119, 120, 121, 182, 183, 184, 185, 36, 46, 33, 186, 187, 188, 189, 32, 190, 191, 192, 193, 194, 195, 196, 154, 155, 156, 157, 197, 198, 199, 200, 320, 321, 322, 323, 324, 325, 326] (by decide +kernel) (by decide +kernel)
set_option maxRecDepth 20000 in
theorem gL_law_X1_contains : GoodIn wsL_law (wsV RL 72 RX1 yX1_contains wsX1_contains) := goodIn_app (goodIn_of _ (by decide +kernel)) ggL_law_X1_contains
set_option maxRecDepth 20000 in
theorem ggL_law_L_element : GoodIn wsL_law wsL_element := goodIn_ca (goodIn_r _ [224, 225, 226, 227, 228, 2, 229, 230, 231, 24, 174, 175, 176, 177, 22, 79, 80, 81, 82, 16, 23, 25, 26, 27, 232, 233, 234, 235, 95, 96, 97, 98, 67, 68, 69, 99, 100, 101, 102, 313, 314, 315, 316, 317, 318, 319] (by decide +kernel) (by decide +kernel)) (goodIn_sub (fun _ h => List.mem_append_left _ (List.mem_append_left _ (List.mem_append_right _ h))) (by decide +kernel))
set_option maxRecDepth 20000 in
theorem gL_law_L_element : GoodIn wsL_law (va_wsS RL 73 yL_element wsL_element) := goodIn_app (goodIn_of _ (by decide +kernel)) ggL_law_L_element
set_option maxRecDepth 20000 in
theorem ggL_law_X1_element : GoodIn wsL_law wsX1_element := goodIn_r _ [239, 240, 35, 182, 183, 184, 5, 185, 36, 46, 33, 186, 187, 188, 189, 37, 32, 190, 191, 192, 193, 119, 120, 121, 194, 195, 196, 154, 155, 156, 157, 197, 198, 199, 200, 201, 202, 203, 204, 205, 206, 207, 208, 320, 321, 322, 323, 324, 325, 326] (by decide +kernel) (by decide +kernel)
set_option maxRecDepth 20000 in
theorem gL_law_X1_element : GoodIn wsL_law (wsV RL 78 RX1 yX1_element wsX1_element) := goodIn_app (goodIn_of _ (by decide +kernel)) ggL_law_X1_element
set_option maxRecDepth 20000 in
theorem ggL_law_X1_thrown : GoodIn wsL_law wsX1_thrown := goodIn_r _ [244, 240, 320, 321, 322, 323, 324, 325, 326] (by decide +kernel) (by decide +kernel)
set_option maxRecDepth 20000 in
theorem gL_law_X1_thrown : GoodIn wsL_law (wsV RL 79 RX1 yX1_thrown wsX1_thrown) := goodIn_app (goodIn_of _ (by decide +kernel)) ggL_law_X1_thrown
set_option maxRecDepth 20000 in
theorem ggL_law_L_rank : GoodIn wsL_law wsL_rank := goodIn_ca (goodIn_ca (goodIn_r _ [247, 248, 249, 250, 251, 252, 2, 253, 254, 255, 256, 257, 63, 64, 65, 66, 22, 67, 68, 69, 213, 214, 215, 216, 24, 91, 92, 93, 94, 79, 80, 81, 82, 16, 23, 25, 26, 27, 95, 96, 97, 98, 99, 100, 101, 102, 258, 259, 260, 261, 262, 263, 264, 265, 174, 175, 176, 177, 313, 314, 315, 316, 317, 318, 319] (by decide +kernel) (by decide +kernel)) (goodIn_sub (fun _ h => List.mem_append_left _ (List.mem_append_right _ h)) (by decide +kernel))) (goodIn_sub (fun _ h => List.mem_append_right _ h) (by decide +kernel))
set_option maxRecDepth 20000 in
theorem gL_law_L_rank : GoodIn wsL_law (va_wsS RL 82 yL_rank wsL_rank) := goodIn_app (goodIn_of _ (by decide +kernel)) ggL_law_L_rank
set_option maxRecDepth 20000 in
theorem ggL_law_X1_rank : GoodIn wsL_law wsX1_rank := goodIn_r _ [269, 240, 35, 115, 116, 117, 5, 118, 37, 119, 120, 121, 182, 183, 184, 185, 36, 46, 33, 186, 187, 188, 189, 32, 190, 191, 192, 193, 194, 195, 196, 154, 155, 156, 157, 197, 198, 199, 200, 205, 206, 207, 208, 320, 321, 322, 323, 324, 325, 326] (by decide +kernel) (by decide +kernel)
set_option maxRecDepth 20000 in
theorem gL_law_X1_rank : GoodIn wsL_law (wsV RL 84 RX1 yX1_rank wsX1_rank) := goodIn_app (goodIn_of _ (by decide +kernel)) ggL_law_X1_rank
set_option maxRecDepth 20000 in
theorem ggL_law_L_least : GoodIn wsL_law wsL_least := goodIn_ca (goodIn_r _ [272, 248, 273, 274, 275, 2, 276, 254, 255, 63, 64, 65, 66, 22, 67, 68, 69, 232, 233, 234, 235, 174, 175, 176, 177, 79, 80, 81, 82, 16, 23, 25, 26, 27, 95, 96, 97, 98, 99, 100, 101, 102, 313, 314, 315, 316, 317, 318, 319] (by decide +kernel) (by decide +kernel)) (goodIn_sub (fun _ h => List.mem_append_left _ (List.mem_append_right _ h)) (by decide +kernel))
set_option maxRecDepth 20000 in
theorem gL_law_L_least : GoodIn wsL_law (va_wsS RL 85 yL_least wsL_least) := goodIn_app (goodIn_of _ (by decide +kernel)) ggL_law_L_least
set_option maxRecDepth 20000 in
theorem ggL_law_X1_least : GoodIn wsL_law wsX1_least := goodIn_r _ [280, 240, 35, 115, 116, 117, 5, 118, 37, 119, 120, 121, 182, 183, 184, 185, 36, 46, 33, 186, 187, 188, 189, 32, 190, 191, 192, 193, 194, 195, 196, 154, 155, 156, 157, 197, 198, 199, 200, 201, 202, 203, 204, 320, 321, 322, 323, 324, 325, 326] (by decide +kernel) (by decide +kernel)
set_option maxRecDepth 20000 in
theorem gL_law_X1_least : GoodIn wsL_law (wsV RL 87 RX1 yX1_least wsX1_least) := goodIn_app (goodIn_of _ (by decide +kernel)) ggL_law_X1_least
set_option maxRecDepth 20000 in
theorem ggL_law_X0_orbit : GoodIn wsL_law wsX0_orbit := goodIn_r _ [284, 22, 23, 14, 285, 286, 287, 2, 288, 67, 68, 69, 313, 314, 315, 316, 317, 318, 319] (by decide +kernel) (by decide +kernel)
set_option maxRecDepth 20000 in
theorem gL_law_X0_orbit : GoodIn wsL_law (wsV RL 88 RX0 yX0_orbit wsX0_orbit) := goodIn_app (goodIn_of _ (by decide +kernel)) ggL_law_X0_orbit
set_option maxRecDepth 20000 in
theorem ggL_law_X1_orbit : GoodIn wsL_law wsX1_orbit := goodIn_r _ [292, 37, 35, 182, 183, 184, 5, 185, 36, 46, 33, 186, 187, 188, 189, 32, 190, 191, 192, 193, 119, 120, 121, 194, 195, 196, 154, 155, 156, 157, 197, 198, 199, 200, 201, 202, 203, 204, 320, 321, 322, 323, 324, 325, 326] (by decide +kernel) (by decide +kernel)
set_option maxRecDepth 20000 in
theorem gL_law_X1_orbit : GoodIn wsL_law (wsV RL 91 RX1 yX1_orbit wsX1_orbit) := goodIn_app (goodIn_of _ (by decide +kernel)) ggL_law_X1_orbit
set_option maxRecDepth 20000 in
theorem ggL_law_X0_fixing : GoodIn wsL_law wsX0_fixing := goodIn_r _ [296, 22, 174, 175, 176, 2, 177, 79, 80, 81, 82, 16, 23, 25, 26, 27, 313, 314, 315, 316, 317, 318, 319] (by decide +kernel) (by decide +kernel)
set_option maxRecDepth 20000 in
theorem gL_law_X0_fixing : GoodIn wsL_law (wsV RL 92 RX0 yX0_fixing wsX0_fixing) := goodIn_app (goodIn_of _ (by decide +kernel)) ggL_law_X0_fixing
set_option maxRecDepth 20000 in
theorem ggL_law_X1_fixing : GoodIn wsL_law wsX1_fixing := goodIn_r _ [300, 37, 35, 182, 183, 184, 5, 185, 36, 46, 33, 186, 187, 188, 189, 32, 190, 191, 192, 193, 119, 120, 121, 194, 195, 196, 154, 155, 156, 157, 197, 198, 199, 200, 201, 202, 203, 204, 320, 321, 322, 323, 324, 325, 326] (by decide +kernel) (by decide +kernel)
set_option maxRecDepth 20000 in
theorem gL_law_X1_fixing : GoodIn wsL_law (wsV RL 95 RX1 yX1_fixing wsX1_fixing) := goodIn_app (goodIn_of _ (by decide +kernel)) ggL_law_X1_fixing
set_option maxRecDepth 20000 in
theorem ggL_law_X0_even : GoodIn wsL_law wsX0_even := goodIn_r _ [304, 23, 14, 174, 175, 176, 2, 177, 22, 79, 80, 81, 82, 16, 25, 26, 27, 305, 306, 307, 308, 67, 68, 69, 313, 314, 315, 316, 317, 318, 319] (by decide +kernel) (by decide +kernel)
set_option maxRecDepth 20000 in
theorem gL_law_X0_even : GoodIn wsL_law (wsV RL 96 RX0 yX0_even wsX0_even) := goodIn_app (goodIn_of _ (by decide +kernel)) ggL_law_X0_even
set_option maxRecDepth 20000 in
theorem ggL_law_X1_even : GoodIn wsL_law wsX1_even := goodIn_r _ [312, 35, 37, 182, 183, 184, 5, 185, 36, 46, 33, 186, 187, 188, 189, 32, 190, 191, 192, 193, 119, 120, 121, 194, 195, 196, 154, 155, 156, 157, 197, 198, 199, 200, 201, 202, 203, 204, 320, 321, 322, 323, 324, 325, 326] (by decide +kernel) (by decide +kernel)
set_option maxRecDepth 20000 in
theorem gL_law_X1_even : GoodIn wsL_law (wsV RL 99 RX1 yX1_even wsX1_even) := goodIn_app (goodIn_of _ (by decide +kernel)) ggL_law_X1_even
theorem dL_law_0 : decode cL_law 0 = .ok (.new 8, 3) := by decide +kernel
theorem dL_law_3 : decode cL_law 3 = .ok (.dup, 1) := by decide +kernel
theorem dL_law_4 : decode cL_law 4 = .ok (.invokespecial 25, 3) := by decide +kernel
theorem dL_law_7 : decode cL_law 7 = .ok (.astore_n 1, 1) := by decide +kernel
theorem dL_law_8 : decode cL_law 8 = .ok (.new 26, 3) := by decide +kernel
theorem dL_law_11 : decode cL_law 11 = .ok (.dup, 1) := by decide +kernel
theorem dL_law_12 : decode cL_law 12 = .ok (.invokespecial 28, 3) := by decide +kernel
theorem dL_law_15 : decode cL_law 15 = .ok (.astore_n 2, 1) := by decide +kernel
theorem dL_law_16 : decode cL_law 16 = .ok (.iconst 1, 1) := by decide +kernel
theorem dL_law_17 : decode cL_law 17 = .ok (.newarray .long, 2) := by decide +kernel
theorem dL_law_19 : decode cL_law 19 = .ok (.astore_n 3, 1) := by decide +kernel
theorem dL_law_20 : decode cL_law 20 = .ok (.iconst 0, 1) := by decide +kernel
theorem dL_law_21 : decode cL_law 21 = .ok (.istore 4, 2) := by decide +kernel
theorem dL_law_23 : decode cL_law 23 = .ok (.iload 4, 2) := by decide +kernel
theorem dL_law_25 : decode cL_law 25 = .ok (.aload_n 0, 1) := by decide +kernel
theorem dL_law_26 : decode cL_law 26 = .ok (.arraylength, 1) := by decide +kernel
theorem dL_law_27 : decode cL_law 27 = .ok (.iconst 3, 1) := by decide +kernel
theorem dL_law_28 : decode cL_law 28 = .ok (.isub, 1) := by decide +kernel
theorem dL_law_29 : decode cL_law 29 = .ok (.if_icmp .gt 538, 3) := by decide +kernel
theorem dL_law_32 : decode cL_law 32 = .ok (.aload_n 0, 1) := by decide +kernel
theorem dL_law_33 : decode cL_law 33 = .ok (.iload 4, 2) := by decide +kernel
theorem dL_law_35 : decode cL_law 35 = .ok (.iaload, 1) := by decide +kernel
theorem dL_law_36 : decode cL_law 36 = .ok (.bipush 15, 2) := by decide +kernel
theorem dL_law_38 : decode cL_law 38 = .ok (.iand, 1) := by decide +kernel
theorem dL_law_39 : decode cL_law 39 = .ok (.tableswitch 522 0 15 #[77, 102, 115, 140, 153, 166, 191, 228, 253, 266, 291, 347, 403, 459, 484, 509], 77) := by decide +kernel
theorem dL_law_116 : decode cL_law 116 = .ok (.aload_n 1, 1) := by decide +kernel
theorem dL_law_117 : decode cL_law 117 = .ok (.aload_n 0, 1) := by decide +kernel
theorem dL_law_118 : decode cL_law 118 = .ok (.iload 4, 2) := by decide +kernel
theorem dL_law_120 : decode cL_law 120 = .ok (.iconst 1, 1) := by decide +kernel
theorem dL_law_121 : decode cL_law 121 = .ok (.iadd, 1) := by decide +kernel
theorem dL_law_122 : decode cL_law 122 = .ok (.iaload, 1) := by decide +kernel
theorem dL_law_123 : decode cL_law 123 = .ok (.invokevirtual 29, 3) := by decide +kernel
theorem dL_law_126 : decode cL_law 126 = .ok (.aload_n 2, 1) := by decide +kernel
theorem dL_law_127 : decode cL_law 127 = .ok (.aload_n 0, 1) := by decide +kernel
theorem dL_law_128 : decode cL_law 128 = .ok (.iload 4, 2) := by decide +kernel
theorem dL_law_130 : decode cL_law 130 = .ok (.iconst 1, 1) := by decide +kernel
theorem dL_law_131 : decode cL_law 131 = .ok (.iadd, 1) := by decide +kernel
theorem dL_law_132 : decode cL_law 132 = .ok (.iaload, 1) := by decide +kernel
theorem dL_law_133 : decode cL_law 133 = .ok (.invokevirtual 33, 3) := by decide +kernel
theorem dL_law_136 : decode cL_law 136 = .ok (.if_icmp .eq 425, 3) := by decide +kernel
theorem dL_law_139 : decode cL_law 139 = .ok (.iconst 0, 1) := by decide +kernel
theorem dL_law_140 : decode cL_law 140 = .ok (.ireturn, 1) := by decide +kernel
theorem dL_law_141 : decode cL_law 141 = .ok (.aload_n 1, 1) := by decide +kernel
theorem dL_law_142 : decode cL_law 142 = .ok (.invokevirtual 34, 3) := by decide +kernel
theorem dL_law_145 : decode cL_law 145 = .ok (.aload_n 2, 1) := by decide +kernel
theorem dL_law_146 : decode cL_law 146 = .ok (.invokevirtual 38, 3) := by decide +kernel
theorem dL_law_149 : decode cL_law 149 = .ok (.if_icmp .eq 412, 3) := by decide +kernel
theorem dL_law_152 : decode cL_law 152 = .ok (.iconst 0, 1) := by decide +kernel
theorem dL_law_153 : decode cL_law 153 = .ok (.ireturn, 1) := by decide +kernel
theorem dL_law_154 : decode cL_law 154 = .ok (.aload_n 1, 1) := by decide +kernel
theorem dL_law_155 : decode cL_law 155 = .ok (.aload_n 0, 1) := by decide +kernel
theorem dL_law_156 : decode cL_law 156 = .ok (.iload 4, 2) := by decide +kernel
theorem dL_law_158 : decode cL_law 158 = .ok (.iconst 1, 1) := by decide +kernel
theorem dL_law_159 : decode cL_law 159 = .ok (.iadd, 1) := by decide +kernel
theorem dL_law_160 : decode cL_law 160 = .ok (.iaload, 1) := by decide +kernel
theorem dL_law_161 : decode cL_law 161 = .ok (.invokevirtual 39, 3) := by decide +kernel
theorem dL_law_164 : decode cL_law 164 = .ok (.aload_n 2, 1) := by decide +kernel
theorem dL_law_165 : decode cL_law 165 = .ok (.aload_n 0, 1) := by decide +kernel
theorem dL_law_166 : decode cL_law 166 = .ok (.iload 4, 2) := by decide +kernel
theorem dL_law_168 : decode cL_law 168 = .ok (.iconst 1, 1) := by decide +kernel
theorem dL_law_169 : decode cL_law 169 = .ok (.iadd, 1) := by decide +kernel
theorem dL_law_170 : decode cL_law 170 = .ok (.iaload, 1) := by decide +kernel
theorem dL_law_171 : decode cL_law 171 = .ok (.invokevirtual 42, 3) := by decide +kernel
theorem dL_law_174 : decode cL_law 174 = .ok (.if_icmp .eq 387, 3) := by decide +kernel
theorem dL_law_177 : decode cL_law 177 = .ok (.iconst 0, 1) := by decide +kernel
theorem dL_law_178 : decode cL_law 178 = .ok (.ireturn, 1) := by decide +kernel
theorem dL_law_179 : decode cL_law 179 = .ok (.aload_n 1, 1) := by decide +kernel
theorem dL_law_180 : decode cL_law 180 = .ok (.invokevirtual 43, 3) := by decide +kernel
theorem dL_law_183 : decode cL_law 183 = .ok (.aload_n 2, 1) := by decide +kernel
theorem dL_law_184 : decode cL_law 184 = .ok (.invokevirtual 47, 3) := by decide +kernel
theorem dL_law_187 : decode cL_law 187 = .ok (.if_icmp .eq 374, 3) := by decide +kernel
theorem dL_law_190 : decode cL_law 190 = .ok (.iconst 0, 1) := by decide +kernel
theorem dL_law_191 : decode cL_law 191 = .ok (.ireturn, 1) := by decide +kernel
theorem dL_law_192 : decode cL_law 192 = .ok (.aload_n 1, 1) := by decide +kernel
theorem dL_law_193 : decode cL_law 193 = .ok (.invokevirtual 48, 3) := by decide +kernel
theorem dL_law_196 : decode cL_law 196 = .ok (.aload_n 2, 1) := by decide +kernel
theorem dL_law_197 : decode cL_law 197 = .ok (.invokevirtual 51, 3) := by decide +kernel
theorem dL_law_200 : decode cL_law 200 = .ok (.if_icmp .eq 361, 3) := by decide +kernel
theorem dL_law_203 : decode cL_law 203 = .ok (.iconst 0, 1) := by decide +kernel
theorem dL_law_204 : decode cL_law 204 = .ok (.ireturn, 1) := by decide +kernel
theorem dL_law_205 : decode cL_law 205 = .ok (.aload_n 1, 1) := by decide +kernel
theorem dL_law_206 : decode cL_law 206 = .ok (.aload_n 0, 1) := by decide +kernel
theorem dL_law_207 : decode cL_law 207 = .ok (.iload 4, 2) := by decide +kernel
theorem dL_law_209 : decode cL_law 209 = .ok (.iconst 1, 1) := by decide +kernel
theorem dL_law_210 : decode cL_law 210 = .ok (.iadd, 1) := by decide +kernel
theorem dL_law_211 : decode cL_law 211 = .ok (.iaload, 1) := by decide +kernel
theorem dL_law_212 : decode cL_law 212 = .ok (.invokevirtual 52, 3) := by decide +kernel
theorem dL_law_215 : decode cL_law 215 = .ok (.aload_n 2, 1) := by decide +kernel
theorem dL_law_216 : decode cL_law 216 = .ok (.aload_n 0, 1) := by decide +kernel
theorem dL_law_217 : decode cL_law 217 = .ok (.iload 4, 2) := by decide +kernel
theorem dL_law_219 : decode cL_law 219 = .ok (.iconst 1, 1) := by decide +kernel
theorem dL_law_220 : decode cL_law 220 = .ok (.iadd, 1) := by decide +kernel
theorem dL_law_221 : decode cL_law 221 = .ok (.iaload, 1) := by decide +kernel
theorem dL_law_222 : decode cL_law 222 = .ok (.invokevirtual 55, 3) := by decide +kernel
theorem dL_law_225 : decode cL_law 225 = .ok (.if_icmp .eq 336, 3) := by decide +kernel
theorem dL_law_228 : decode cL_law 228 = .ok (.iconst 0, 1) := by decide +kernel
theorem dL_law_229 : decode cL_law 229 = .ok (.ireturn, 1) := by decide +kernel
theorem dL_law_230 : decode cL_law 230 = .ok (.aload_n 1, 1) := by decide +kernel
theorem dL_law_231 : decode cL_law 231 = .ok (.aload_n 0, 1) := by decide +kernel
theorem dL_law_232 : decode cL_law 232 = .ok (.iload 4, 2) := by decide +kernel
theorem dL_law_234 : decode cL_law 234 = .ok (.iconst 1, 1) := by decide +kernel
theorem dL_law_235 : decode cL_law 235 = .ok (.iadd, 1) := by decide +kernel
theorem dL_law_236 : decode cL_law 236 = .ok (.iaload, 1) := by decide +kernel
theorem dL_law_237 : decode cL_law 237 = .ok (.aload_n 0, 1) := by decide +kernel
theorem dL_law_238 : decode cL_law 238 = .ok (.iload 4, 2) := by decide +kernel
theorem dL_law_240 : decode cL_law 240 = .ok (.iconst 2, 1) := by decide +kernel
theorem dL_law_241 : decode cL_law 241 = .ok (.iadd, 1) := by decide +kernel
theorem dL_law_242 : decode cL_law 242 = .ok (.iaload, 1) := by decide +kernel
theorem dL_law_243 : decode cL_law 243 = .ok (.invokevirtual 56, 3) := by decide +kernel
theorem dL_law_246 : decode cL_law 246 = .ok (.aload_n 2, 1) := by decide +kernel
theorem dL_law_247 : decode cL_law 247 = .ok (.aload_n 0, 1) := by decide +kernel
theorem dL_law_248 : decode cL_law 248 = .ok (.iload 4, 2) := by decide +kernel
theorem dL_law_250 : decode cL_law 250 = .ok (.iconst 1, 1) := by decide +kernel
theorem dL_law_251 : decode cL_law 251 = .ok (.iadd, 1) := by decide +kernel
theorem dL_law_252 : decode cL_law 252 = .ok (.iaload, 1) := by decide +kernel
theorem dL_law_253 : decode cL_law 253 = .ok (.aload_n 0, 1) := by decide +kernel
theorem dL_law_254 : decode cL_law 254 = .ok (.iload 4, 2) := by decide +kernel
theorem dL_law_256 : decode cL_law 256 = .ok (.iconst 2, 1) := by decide +kernel
theorem dL_law_257 : decode cL_law 257 = .ok (.iadd, 1) := by decide +kernel
theorem dL_law_258 : decode cL_law 258 = .ok (.iaload, 1) := by decide +kernel
theorem dL_law_259 : decode cL_law 259 = .ok (.invokevirtual 60, 3) := by decide +kernel
theorem dL_law_262 : decode cL_law 262 = .ok (.if_icmp .eq 299, 3) := by decide +kernel
theorem dL_law_265 : decode cL_law 265 = .ok (.iconst 0, 1) := by decide +kernel
theorem dL_law_266 : decode cL_law 266 = .ok (.ireturn, 1) := by decide +kernel
theorem dL_law_267 : decode cL_law 267 = .ok (.aload_n 1, 1) := by decide +kernel
theorem dL_law_268 : decode cL_law 268 = .ok (.aload_n 0, 1) := by decide +kernel
theorem dL_law_269 : decode cL_law 269 = .ok (.iload 4, 2) := by decide +kernel
theorem dL_law_271 : decode cL_law 271 = .ok (.iconst 1, 1) := by decide +kernel
theorem dL_law_272 : decode cL_law 272 = .ok (.iadd, 1) := by decide +kernel
theorem dL_law_273 : decode cL_law 273 = .ok (.iaload, 1) := by decide +kernel
theorem dL_law_274 : decode cL_law 274 = .ok (.invokevirtual 61, 3) := by decide +kernel
theorem dL_law_277 : decode cL_law 277 = .ok (.aload_n 2, 1) := by decide +kernel
theorem dL_law_278 : decode cL_law 278 = .ok (.aload_n 0, 1) := by decide +kernel
theorem dL_law_279 : decode cL_law 279 = .ok (.iload 4, 2) := by decide +kernel
theorem dL_law_281 : decode cL_law 281 = .ok (.iconst 1, 1) := by decide +kernel
theorem dL_law_282 : decode cL_law 282 = .ok (.iadd, 1) := by decide +kernel
theorem dL_law_283 : decode cL_law 283 = .ok (.iaload, 1) := by decide +kernel
theorem dL_law_284 : decode cL_law 284 = .ok (.invokevirtual 64, 3) := by decide +kernel
theorem dL_law_287 : decode cL_law 287 = .ok (.if_icmp .eq 274, 3) := by decide +kernel
theorem dL_law_290 : decode cL_law 290 = .ok (.iconst 0, 1) := by decide +kernel
theorem dL_law_291 : decode cL_law 291 = .ok (.ireturn, 1) := by decide +kernel
theorem dL_law_292 : decode cL_law 292 = .ok (.aload_n 1, 1) := by decide +kernel
theorem dL_law_293 : decode cL_law 293 = .ok (.invokevirtual 65, 3) := by decide +kernel
theorem dL_law_296 : decode cL_law 296 = .ok (.aload_n 2, 1) := by decide +kernel
theorem dL_law_297 : decode cL_law 297 = .ok (.invokevirtual 68, 3) := by decide +kernel
theorem dL_law_300 : decode cL_law 300 = .ok (.if_icmp .eq 261, 3) := by decide +kernel
theorem dL_law_303 : decode cL_law 303 = .ok (.iconst 0, 1) := by decide +kernel
theorem dL_law_304 : decode cL_law 304 = .ok (.ireturn, 1) := by decide +kernel
theorem dL_law_305 : decode cL_law 305 = .ok (.aload_n 1, 1) := by decide +kernel
theorem dL_law_306 : decode cL_law 306 = .ok (.aload_n 0, 1) := by decide +kernel
theorem dL_law_307 : decode cL_law 307 = .ok (.iload 4, 2) := by decide +kernel
theorem dL_law_309 : decode cL_law 309 = .ok (.iconst 1, 1) := by decide +kernel
theorem dL_law_310 : decode cL_law 310 = .ok (.iadd, 1) := by decide +kernel
theorem dL_law_311 : decode cL_law 311 = .ok (.iaload, 1) := by decide +kernel
theorem dL_law_312 : decode cL_law 312 = .ok (.invokevirtual 69, 3) := by decide +kernel
theorem dL_law_315 : decode cL_law 315 = .ok (.aload_n 2, 1) := by decide +kernel
theorem dL_law_316 : decode cL_law 316 = .ok (.aload_n 0, 1) := by decide +kernel
theorem dL_law_317 : decode cL_law 317 = .ok (.iload 4, 2) := by decide +kernel
theorem dL_law_319 : decode cL_law 319 = .ok (.iconst 1, 1) := by decide +kernel
theorem dL_law_320 : decode cL_law 320 = .ok (.iadd, 1) := by decide +kernel
theorem dL_law_321 : decode cL_law 321 = .ok (.iaload, 1) := by decide +kernel
theorem dL_law_322 : decode cL_law 322 = .ok (.invokevirtual 72, 3) := by decide +kernel
theorem dL_law_325 : decode cL_law 325 = .ok (.if_icmp .eq 236, 3) := by decide +kernel
theorem dL_law_328 : decode cL_law 328 = .ok (.iconst 0, 1) := by decide +kernel
theorem dL_law_329 : decode cL_law 329 = .ok (.ireturn, 1) := by decide +kernel
theorem dL_law_330 : decode cL_law 330 = .ok (.aload_n 1, 1) := by decide +kernel
theorem dL_law_331 : decode cL_law 331 = .ok (.aload_n 0, 1) := by decide +kernel
theorem dL_law_332 : decode cL_law 332 = .ok (.iload 4, 2) := by decide +kernel
theorem dL_law_334 : decode cL_law 334 = .ok (.iconst 1, 1) := by decide +kernel
theorem dL_law_335 : decode cL_law 335 = .ok (.iadd, 1) := by decide +kernel
theorem dL_law_336 : decode cL_law 336 = .ok (.iaload, 1) := by decide +kernel
theorem dL_law_337 : decode cL_law 337 = .ok (.aload_n 3, 1) := by decide +kernel
theorem dL_law_338 : decode cL_law 338 = .ok (.invokestatic 73, 3) := by decide +kernel
theorem dL_law_341 : decode cL_law 341 = .ok (.istore 5, 2) := by decide +kernel
theorem dL_law_343 : decode cL_law 343 = .ok (.aload_n 2, 1) := by decide +kernel
theorem dL_law_344 : decode cL_law 344 = .ok (.aload_n 0, 1) := by decide +kernel
theorem dL_law_345 : decode cL_law 345 = .ok (.iload 4, 2) := by decide +kernel
theorem dL_law_347 : decode cL_law 347 = .ok (.iconst 1, 1) := by decide +kernel
theorem dL_law_348 : decode cL_law 348 = .ok (.iadd, 1) := by decide +kernel
theorem dL_law_349 : decode cL_law 349 = .ok (.iaload, 1) := by decide +kernel
theorem dL_law_350 : decode cL_law 350 = .ok (.invokevirtual 78, 3) := by decide +kernel
theorem dL_law_353 : decode cL_law 353 = .ok (.istore 6, 2) := by decide +kernel
theorem dL_law_355 : decode cL_law 355 = .ok (.aload_n 2, 1) := by decide +kernel
theorem dL_law_356 : decode cL_law 356 = .ok (.invokevirtual 79, 3) := by decide +kernel
theorem dL_law_359 : decode cL_law 359 = .ok (.iload 5, 2) := by decide +kernel
theorem dL_law_361 : decode cL_law 361 = .ok (.if_icmp .eq 5, 3) := by decide +kernel
theorem dL_law_364 : decode cL_law 364 = .ok (.iconst 0, 1) := by decide +kernel
theorem dL_law_365 : decode cL_law 365 = .ok (.ireturn, 1) := by decide +kernel
theorem dL_law_366 : decode cL_law 366 = .ok (.iload 5, 2) := by decide +kernel
theorem dL_law_368 : decode cL_law 368 = .ok (.ifCond .ne 15, 3) := by decide +kernel
theorem dL_law_371 : decode cL_law 371 = .ok (.aload_n 3, 1) := by decide +kernel
theorem dL_law_372 : decode cL_law 372 = .ok (.iconst 0, 1) := by decide +kernel
theorem dL_law_373 : decode cL_law 373 = .ok (.laload, 1) := by decide +kernel
theorem dL_law_374 : decode cL_law 374 = .ok (.iload 6, 2) := by decide +kernel
theorem dL_law_376 : decode cL_law 376 = .ok (.i2l, 1) := by decide +kernel
theorem dL_law_377 : decode cL_law 377 = .ok (.lcmp, 1) := by decide +kernel
theorem dL_law_378 : decode cL_law 378 = .ok (.ifCond .eq 5, 3) := by decide +kernel
theorem dL_law_381 : decode cL_law 381 = .ok (.iconst 0, 1) := by decide +kernel
theorem dL_law_382 : decode cL_law 382 = .ok (.ireturn, 1) := by decide +kernel
theorem dL_law_383 : decode cL_law 383 = .ok (.goto 178, 3) := by decide +kernel
theorem dL_law_386 : decode cL_law 386 = .ok (.aload_n 1, 1) := by decide +kernel
theorem dL_law_387 : decode cL_law 387 = .ok (.aload_n 0, 1) := by decide +kernel
theorem dL_law_388 : decode cL_law 388 = .ok (.iload 4, 2) := by decide +kernel
theorem dL_law_390 : decode cL_law 390 = .ok (.iconst 1, 1) := by decide +kernel
theorem dL_law_391 : decode cL_law 391 = .ok (.iadd, 1) := by decide +kernel
theorem dL_law_392 : decode cL_law 392 = .ok (.iaload, 1) := by decide +kernel
theorem dL_law_393 : decode cL_law 393 = .ok (.aload_n 3, 1) := by decide +kernel
theorem dL_law_394 : decode cL_law 394 = .ok (.invokestatic 82, 3) := by decide +kernel
theorem dL_law_397 : decode cL_law 397 = .ok (.istore 5, 2) := by decide +kernel
theorem dL_law_399 : decode cL_law 399 = .ok (.aload_n 2, 1) := by decide +kernel
theorem dL_law_400 : decode cL_law 400 = .ok (.aload_n 0, 1) := by decide +kernel
theorem dL_law_401 : decode cL_law 401 = .ok (.iload 4, 2) := by decide +kernel
theorem dL_law_403 : decode cL_law 403 = .ok (.iconst 1, 1) := by decide +kernel
theorem dL_law_404 : decode cL_law 404 = .ok (.iadd, 1) := by decide +kernel
theorem dL_law_405 : decode cL_law 405 = .ok (.iaload, 1) := by decide +kernel
theorem dL_law_406 : decode cL_law 406 = .ok (.invokevirtual 84, 3) := by decide +kernel
theorem dL_law_409 : decode cL_law 409 = .ok (.istore 6, 2) := by decide +kernel
theorem dL_law_411 : decode cL_law 411 = .ok (.aload_n 2, 1) := by decide +kernel
theorem dL_law_412 : decode cL_law 412 = .ok (.invokevirtual 79, 3) := by decide +kernel
theorem dL_law_415 : decode cL_law 415 = .ok (.iload 5, 2) := by decide +kernel
theorem dL_law_417 : decode cL_law 417 = .ok (.if_icmp .eq 5, 3) := by decide +kernel
theorem dL_law_420 : decode cL_law 420 = .ok (.iconst 0, 1) := by decide +kernel
theorem dL_law_421 : decode cL_law 421 = .ok (.ireturn, 1) := by decide +kernel
theorem dL_law_422 : decode cL_law 422 = .ok (.iload 5, 2) := by decide +kernel
theorem dL_law_424 : decode cL_law 424 = .ok (.ifCond .ne 15, 3) := by decide +kernel
theorem dL_law_427 : decode cL_law 427 = .ok (.aload_n 3, 1) := by decide +kernel
theorem dL_law_428 : decode cL_law 428 = .ok (.iconst 0, 1) := by decide +kernel
theorem dL_law_429 : decode cL_law 429 = .ok (.laload, 1) := by decide +kernel
theorem dL_law_430 : decode cL_law 430 = .ok (.iload 6, 2) := by decide +kernel
theorem dL_law_432 : decode cL_law 432 = .ok (.i2l, 1) := by decide +kernel
theorem dL_law_433 : decode cL_law 433 = .ok (.lcmp, 1) := by decide +kernel
theorem dL_law_434 : decode cL_law 434 = .ok (.ifCond .eq 5, 3) := by decide +kernel
theorem dL_law_437 : decode cL_law 437 = .ok (.iconst 0, 1) := by decide +kernel
theorem dL_law_438 : decode cL_law 438 = .ok (.ireturn, 1) := by decide +kernel
theorem dL_law_439 : decode cL_law 439 = .ok (.goto 122, 3) := by decide +kernel
theorem dL_law_442 : decode cL_law 442 = .ok (.aload_n 1, 1) := by decide +kernel
theorem dL_law_443 : decode cL_law 443 = .ok (.aload_n 0, 1) := by decide +kernel
theorem dL_law_444 : decode cL_law 444 = .ok (.iload 4, 2) := by decide +kernel
theorem dL_law_446 : decode cL_law 446 = .ok (.iconst 1, 1) := by decide +kernel
theorem dL_law_447 : decode cL_law 447 = .ok (.iadd, 1) := by decide +kernel
theorem dL_law_448 : decode cL_law 448 = .ok (.iaload, 1) := by decide +kernel
theorem dL_law_449 : decode cL_law 449 = .ok (.aload_n 3, 1) := by decide +kernel
theorem dL_law_450 : decode cL_law 450 = .ok (.invokestatic 85, 3) := by decide +kernel
theorem dL_law_453 : decode cL_law 453 = .ok (.istore 5, 2) := by decide +kernel
theorem dL_law_455 : decode cL_law 455 = .ok (.aload_n 2, 1) := by decide +kernel
theorem dL_law_456 : decode cL_law 456 = .ok (.aload_n 0, 1) := by decide +kernel
theorem dL_law_457 : decode cL_law 457 = .ok (.iload 4, 2) := by decide +kernel
theorem dL_law_459 : decode cL_law 459 = .ok (.iconst 1, 1) := by decide +kernel
theorem dL_law_460 : decode cL_law 460 = .ok (.iadd, 1) := by decide +kernel
theorem dL_law_461 : decode cL_law 461 = .ok (.iaload, 1) := by decide +kernel
theorem dL_law_462 : decode cL_law 462 = .ok (.invokevirtual 87, 3) := by decide +kernel
theorem dL_law_465 : decode cL_law 465 = .ok (.istore 6, 2) := by decide +kernel
theorem dL_law_467 : decode cL_law 467 = .ok (.aload_n 2, 1) := by decide +kernel
theorem dL_law_468 : decode cL_law 468 = .ok (.invokevirtual 79, 3) := by decide +kernel
theorem dL_law_471 : decode cL_law 471 = .ok (.iload 5, 2) := by decide +kernel
theorem dL_law_473 : decode cL_law 473 = .ok (.if_icmp .eq 5, 3) := by decide +kernel
theorem dL_law_476 : decode cL_law 476 = .ok (.iconst 0, 1) := by decide +kernel
theorem dL_law_477 : decode cL_law 477 = .ok (.ireturn, 1) := by decide +kernel
theorem dL_law_478 : decode cL_law 478 = .ok (.iload 5, 2) := by decide +kernel
theorem dL_law_480 : decode cL_law 480 = .ok (.ifCond .ne 15, 3) := by decide +kernel
theorem dL_law_483 : decode cL_law 483 = .ok (.aload_n 3, 1) := by decide +kernel
theorem dL_law_484 : decode cL_law 484 = .ok (.iconst 0, 1) := by decide +kernel
theorem dL_law_485 : decode cL_law 485 = .ok (.laload, 1) := by decide +kernel
theorem dL_law_486 : decode cL_law 486 = .ok (.iload 6, 2) := by decide +kernel
theorem dL_law_488 : decode cL_law 488 = .ok (.i2l, 1) := by decide +kernel
theorem dL_law_489 : decode cL_law 489 = .ok (.lcmp, 1) := by decide +kernel
theorem dL_law_490 : decode cL_law 490 = .ok (.ifCond .eq 5, 3) := by decide +kernel
theorem dL_law_493 : decode cL_law 493 = .ok (.iconst 0, 1) := by decide +kernel
theorem dL_law_494 : decode cL_law 494 = .ok (.ireturn, 1) := by decide +kernel
theorem dL_law_495 : decode cL_law 495 = .ok (.goto 66, 3) := by decide +kernel
theorem dL_law_498 : decode cL_law 498 = .ok (.aload_n 1, 1) := by decide +kernel
theorem dL_law_499 : decode cL_law 499 = .ok (.aload_n 0, 1) := by decide +kernel
theorem dL_law_500 : decode cL_law 500 = .ok (.iload 4, 2) := by decide +kernel
theorem dL_law_502 : decode cL_law 502 = .ok (.iconst 1, 1) := by decide +kernel
theorem dL_law_503 : decode cL_law 503 = .ok (.iadd, 1) := by decide +kernel
theorem dL_law_504 : decode cL_law 504 = .ok (.iaload, 1) := by decide +kernel
theorem dL_law_505 : decode cL_law 505 = .ok (.invokevirtual 88, 3) := by decide +kernel
theorem dL_law_508 : decode cL_law 508 = .ok (.aload_n 2, 1) := by decide +kernel
theorem dL_law_509 : decode cL_law 509 = .ok (.aload_n 0, 1) := by decide +kernel
theorem dL_law_510 : decode cL_law 510 = .ok (.iload 4, 2) := by decide +kernel
theorem dL_law_512 : decode cL_law 512 = .ok (.iconst 1, 1) := by decide +kernel
theorem dL_law_513 : decode cL_law 513 = .ok (.iadd, 1) := by decide +kernel
theorem dL_law_514 : decode cL_law 514 = .ok (.iaload, 1) := by decide +kernel
theorem dL_law_515 : decode cL_law 515 = .ok (.invokevirtual 91, 3) := by decide +kernel
theorem dL_law_518 : decode cL_law 518 = .ok (.if_icmp .eq 43, 3) := by decide +kernel
theorem dL_law_521 : decode cL_law 521 = .ok (.iconst 0, 1) := by decide +kernel
theorem dL_law_522 : decode cL_law 522 = .ok (.ireturn, 1) := by decide +kernel
theorem dL_law_523 : decode cL_law 523 = .ok (.aload_n 1, 1) := by decide +kernel
theorem dL_law_524 : decode cL_law 524 = .ok (.aload_n 0, 1) := by decide +kernel
theorem dL_law_525 : decode cL_law 525 = .ok (.iload 4, 2) := by decide +kernel
theorem dL_law_527 : decode cL_law 527 = .ok (.iconst 1, 1) := by decide +kernel
theorem dL_law_528 : decode cL_law 528 = .ok (.iadd, 1) := by decide +kernel
theorem dL_law_529 : decode cL_law 529 = .ok (.iaload, 1) := by decide +kernel
theorem dL_law_530 : decode cL_law 530 = .ok (.invokevirtual 92, 3) := by decide +kernel
theorem dL_law_533 : decode cL_law 533 = .ok (.aload_n 2, 1) := by decide +kernel
theorem dL_law_534 : decode cL_law 534 = .ok (.aload_n 0, 1) := by decide +kernel
theorem dL_law_535 : decode cL_law 535 = .ok (.iload 4, 2) := by decide +kernel
theorem dL_law_537 : decode cL_law 537 = .ok (.iconst 1, 1) := by decide +kernel
theorem dL_law_538 : decode cL_law 538 = .ok (.iadd, 1) := by decide +kernel
theorem dL_law_539 : decode cL_law 539 = .ok (.iaload, 1) := by decide +kernel
theorem dL_law_540 : decode cL_law 540 = .ok (.invokevirtual 95, 3) := by decide +kernel
theorem dL_law_543 : decode cL_law 543 = .ok (.if_icmp .eq 18, 3) := by decide +kernel
theorem dL_law_546 : decode cL_law 546 = .ok (.iconst 0, 1) := by decide +kernel
theorem dL_law_547 : decode cL_law 547 = .ok (.ireturn, 1) := by decide +kernel
theorem dL_law_548 : decode cL_law 548 = .ok (.aload_n 1, 1) := by decide +kernel
theorem dL_law_549 : decode cL_law 549 = .ok (.invokevirtual 96, 3) := by decide +kernel
theorem dL_law_552 : decode cL_law 552 = .ok (.aload_n 2, 1) := by decide +kernel
theorem dL_law_553 : decode cL_law 553 = .ok (.invokevirtual 99, 3) := by decide +kernel
theorem dL_law_556 : decode cL_law 556 = .ok (.if_icmp .eq 5, 3) := by decide +kernel
theorem dL_law_559 : decode cL_law 559 = .ok (.iconst 0, 1) := by decide +kernel
theorem dL_law_560 : decode cL_law 560 = .ok (.ireturn, 1) := by decide +kernel
theorem dL_law_561 : decode cL_law 561 = .ok (.iinc 4 3, 3) := by decide +kernel
theorem dL_law_564 : decode cL_law 564 = .ok (.goto (-541), 3) := by decide +kernel
theorem dL_law_567 : decode cL_law 567 = .ok (.iconst 1, 1) := by decide +kernel
theorem dL_law_568 : decode cL_law 568 = .ok (.ireturn, 1) := by decide +kernel
