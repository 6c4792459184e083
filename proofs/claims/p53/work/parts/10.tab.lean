theorem mx_iw {w : Cond} {i : Nat} (h : lw_tbl[i]? = some w) (hg : goodWord w = true) : w ∈ mx_ws := List.mem_filter.mpr ⟨List.mem_of_getElem? h, hg⟩
theorem mx_bn {w : Cond} {i : Nat} (h : lw_tbl[i]? = some w) (hg : mx_bad w = true) : w ∈ mx_nw := List.mem_filter.mpr ⟨List.mem_of_getElem? h, hg⟩
theorem mx_uin {ws : List Cond} (ps : List Nat) (hp : ws = ps.filterMap (fun i => lw_tbl[i]?)) (h : ws.all goodWord = true) : ∀ w ∈ ws, w ∈ mx_ws := fun w hw => List.mem_filter.mpr ⟨(goodIn_r ws ps hp h w hw).1, List.all_eq_true.mp h w hw⟩
def mx_nms : List String := ["java/lang/RuntimeException", "java/lang/Exception"]
theorem mx_nms_fit : ∀ n ∈ mx_nms, Bundle.fit n = true := by decide +kernel
theorem mx_okl {fs : List mx_V} (h : ∀ v ∈ fs, mx_ok v) : ∀ v ∈ fs, mx_ok v := h
theorem mx_atS {ws : List Cond} (h : ∀ w ∈ ws, w ∈ lw_tbl ∧ (goodWord w || mx_bad w) = true) : ∀ w ∈ ws, w ∈ mx_ws ∨ w ∈ mx_nw := fun w hw => by
  obtain ⟨h1, h2⟩ := h w hw
  rcases (Bool.or_eq_true _ _).mp h2 with g | g
  · exact Or.inl (List.mem_filter.mpr ⟨h1, g⟩)
  · exact Or.inr (List.mem_filter.mpr ⟨h1, g⟩)

def Y6_init : mx_M := (yX6_init, cX6_init, 1, none, 1, 20, [])
def Y0_init : mx_M := (yX0_init, cX0_init, 2, none, 2, 40, [])
def Y1_init : mx_M := (yX1_init, cX1_init, 1, none, 1, 20, [])
def Y8_init : mx_M := (yX8_init, cX8_init, 1, none, 1, 20, [])
def Y9_init : mx_M := (yX9_init, cX9_init, 1, none, 2, 40, [])
def YJ7_fill_53178 : mx_M := (yJ7_fill_53178, cJ7_fill_53178, 4, none, 0, 0, [])
def Y7_init : mx_M := (yX7_init, cX7_init, 1, none, 1, 23, [])
def Y2_init : mx_M := (yX2_init, cX2_init, 2, none, 3, 61, [])
def Y2_present : mx_M := (yX2_present, cX2_present, 1, some (.object "Suffixhall$View"), 0, 0, [])
def Y2_shelfOf : mx_M := (yX2_shelfOf, cX2_shelfOf, 3, some .int, 0, 0, [])
def Y2_shelf : mx_M := (yX2_shelf, cX2_shelf, 2, some (.object "Suffixhall$View"), 0, 0, [])
def Y2_viewOf : mx_M := (yX2_viewOf, cX2_viewOf, 2, some (.object "Suffixhall$View"), 1, 22, [])
def Y9_texts : mx_M := (yX9_texts, cX9_texts, 1, some (.object "Suffixhall$Texts"), 0, 0, [])
def Y8_many : mx_M := (yX8_many, cX8_many, 1, some .int, 0, 0, [])
def Y2_hasRoom : mx_M := (yX2_hasRoom, cX2_hasRoom, 1, some .boolean, 1, 20, [])
def Y8_isSlot : mx_M := (yX8_isSlot, cX8_isSlot, 2, some .boolean, 0, 0, [])
def Y8_sizeAt : mx_M := (yX8_sizeAt, cX8_sizeAt, 2, some .int, 1, 21, [])
def Y6_size : mx_M := (yX6_size, cX6_size, 1, some .int, 0, 0, [])
def Y6_sign : mx_M := (yX6_sign, cX6_sign, 2, some .char, 0, 0, [])
def Y8_widen : mx_M := (yX8_widen, cX8_widen, 8, none, 2, 42, [])
def Y8_append : mx_M := (yX8_append, cX8_append, 3, none, 3, 69, [])
def Y9_forgetOrder : mx_M := (yX9_forgetOrder, cX9_forgetOrder, 1, none, 0, 0, [])
def Y7_isSegment : mx_M := (yX7_isSegment, cX7_isSegment, 2, some .boolean, 0, 0, [])
def Y7_fill : mx_M := (yX7_fill, cX7_fill, 5, none, 1, 21, [])
def Y7_setHome : mx_M := (yX7_setHome, cX7_setHome, 3, none, 0, 0, [])
def Y7_settle : mx_M := (yX7_settle, cX7_settle, 3, none, 2, 45, [])
def Y2_takeIn : mx_M := (yX2_takeIn, cX2_takeIn, 3, some .int, 4, 91, [])
def Y8_numberAt : mx_M := (yX8_numberAt, cX8_numberAt, 2, some .int, 1, 21, [])
def Y7_homeOf : mx_M := (yX7_homeOf, cX7_homeOf, 2, some .int, 0, 0, [])
def Y7_bury : mx_M := (yX7_bury, cX7_bury, 4, none, 1, 22, [])
def Y2_bury : mx_M := (yX2_bury, cX2_bury, 2, none, 2, 45, [])
def Y2_widen : mx_M := (yX2_widen, cX2_widen, 4, none, 3, 69, [])
def Y2_snapshotsKept : mx_M := (yX2_snapshotsKept, cX2_snapshotsKept, 3, some .int, 0, 0, [])
def Y2_canTake : mx_M := (yX2_canTake, cX2_canTake, 1, some .boolean, 1, 22, [])
def Y8_become : mx_M := (yX8_become, cX8_become, 2, none, 1, 26, [])
def Y9_become : mx_M := (yX9_become, cX9_become, 2, none, 2, 47, [])
def Y2_take : mx_M := (yX2_take, cX2_take, 4, some .int, 3, 68, [])
def Y8_letter : mx_M := (yX8_letter, cX8_letter, 3, some .char, 0, 0, [])
def Y8_shared : mx_M := (yX8_shared, cX8_shared, 7, some .int, 1, 22, [])
def Y8_compare : mx_M := (yX8_compare, cX8_compare, 7, some .int, 2, 48, [])
def Y9_putIn : mx_M := (yX9_putIn, cX9_putIn, 8, none, 3, 74, [])
def Y9_codeAt : mx_M := (yX9_codeAt, cX9_codeAt, 2, some .int, 0, 0, [])
def Y9_slotAt : mx_M := (yX9_slotAt, cX9_slotAt, 3, some .int, 1, 21, [])
def Y9_placeAt : mx_M := (yX9_placeAt, cX9_placeAt, 3, some .int, 1, 21, [])
def Y9_putInOrder : mx_M := (yX9_putInOrder, cX9_putInOrder, 3, none, 4, 101, [])
def Y9_rankAt : mx_M := (yX9_rankAt, cX9_rankAt, 3, some .int, 1, 22, [])
def Y9_isRising : mx_M := (yX9_isRising, cX9_isRising, 2, some .boolean, 3, 74, [])
def Y9_turnedAt : mx_M := (yX9_turnedAt, cX9_turnedAt, 3, some .char, 2, 43, [])
def Y8_places : mx_M := (yX8_places, cX8_places, 3, some .int, 2, 42, [])
def Y9_isInOrder : mx_M := (yX9_isInOrder, cX9_isInOrder, 5, some .boolean, 5, 123, [])
def Y7_livingAt : mx_M := (yX7_livingAt, cX7_livingAt, 2, some .int, 1, 21, [])
def Y7_houses : mx_M := (yX7_houses, cX7_houses, 4, some .boolean, 2, 42, [])
def Y2_isWhole : mx_M := (yX2_isWhole, cX2_isWhole, 3, some .boolean, 6, 147, [])
def Y3_init : mx_M := (yX3_init, cX3_init, 1, none, 1, 20, [])
def Y4_init : mx_M := (yX4_init, cX4_init, 1, none, 1, 20, [])
def Y5_init : mx_M := (yX5_init, cX5_init, 1, none, 1, 20, [])
def Y6_append : mx_M := (yX6_append, cX6_append, 2, none, 0, 0, [])
def Y6_empty : mx_M := (yX6_empty, cX6_empty, 1, none, 0, 0, [])
def Y10_isLetter : mx_M := (yX10_isLetter, cX10_isLetter, 1, some .boolean, 0, 0, [])
def Y6_isPlain : mx_M := (yX6_isPlain, cX6_isPlain, 2, some .boolean, 1, 21, [])
def Y6_isSimple : mx_M := (yX6_isSimple, cX6_isSimple, 5, some .boolean, 1, 21, [])
def Y8_slotOf : mx_M := (yX8_slotOf, cX8_slotOf, 3, some .int, 2, 42, [])
def Y8_compareToRow : mx_M := (yX8_compareToRow, cX8_compareToRow, 7, some .int, 1, 22, [])
def Y8_allPlaces : mx_M := (yX8_allPlaces, cX8_allPlaces, 2, some .long, 2, 42, [])
def Y8_placesTaking : mx_M := (yX8_placesTaking, cX8_placesTaking, 6, some .long, 3, 63, [])
def Y8_placesOf : mx_M := (yX8_placesOf, cX8_placesOf, 7, some .long, 4, 88, [])
def YJ13_bitCount_95d88 : mx_M := (yJ13_bitCount_95d88, cJ13_bitCount_95d88, 2, some .int, 0, 0, [])
def Y8_timesOf : mx_M := (yX8_timesOf, cX8_timesOf, 4, some .int, 5, 114, [])
def Y9_commonAt : mx_M := (yX9_commonAt, cX9_commonAt, 2, some .int, 1, 21, [])
def Y9_runsOfTurned : mx_M := (yX9_runsOfTurned, cX9_runsOfTurned, 3, some .int, 3, 65, [])
def Y9_turnedAhead : mx_M := (yX9_turnedAhead, cX9_turnedAhead, 5, some .int, 3, 65, [])
def Y9_boundOf : mx_M := (yX9_boundOf, cX9_boundOf, 8, some .int, 2, 48, [])
def Y10_init : mx_M := (yX10_init, cX10_init, 1, none, 4, 82, [])
def Y10_isSign : mx_M := (yX10_isSign, cX10_isSign, 1, some .boolean, 1, 20, [])
def Y10_type : mx_M := (yX10_type, cX10_type, 2, some .int, 6, 82, [])
def Y10_wipe : mx_M := (yX10_wipe, cX10_wipe, 2, some .int, 1, 20, [])
def Y10_needPlainRow : mx_M := (yX10_needPlainRow, cX10_needPlainRow, 1, none, 6, 82, [])
def Y10_add : mx_M := (yX10_add, cX10_add, 2, some .int, 7, 113, [])
def Y10_neededSlot : mx_M := (yX10_neededSlot, cX10_neededSlot, 3, some .int, 6, 82, [])
def Y10_insert : mx_M := (yX10_insert, cX10_insert, 6, some .int, 7, 104, [])
def Y10_neededView : mx_M := (yX10_neededView, cX10_neededView, 3, some (.object "Suffixhall$View"), 6, 82, [])
def Y10_documents : mx_M := (yX10_documents, cX10_documents, 2, some .int, 7, 104, [])
def Y10_lengthOf : mx_M := (yX10_lengthOf, cX10_lengthOf, 4, some .int, 7, 104, [])
def Y10_snapshot : mx_M := (yX10_snapshot, cX10_snapshot, 2, some .int, 6, 91, [])
def Y10_orderedView : mx_M := (yX10_orderedView, cX10_orderedView, 3, some (.object "Suffixhall$View"), 7, 123, [])
def Y10_needRank : mx_M := (yX10_needRank, cX10_needRank, 2, none, 6, 82, [])
def Y10_suffixAt : mx_M := (yX10_suffixAt, cX10_suffixAt, 5, some .int, 8, 145, [])
def Y10_needPlace : mx_M := (yX10_needPlace, cX10_needPlace, 3, none, 6, 82, [])
def Y10_rankOf : mx_M := (yX10_rankOf, cX10_rankOf, 6, some .int, 8, 145, [])
def Y10_turned : mx_M := (yX10_turned, cX10_turned, 4, some .char, 8, 145, [])
def Y10_runs : mx_M := (yX10_runs, cX10_runs, 2, some .int, 8, 145, [])
def Y10_ahead : mx_M := (yX10_ahead, cX10_ahead, 5, some .int, 8, 145, [])
def Y10_interval : mx_M := (yX10_interval, cX10_interval, 5, some .int, 7, 104, [])
def Y10_needSimpleRow : mx_M := (yX10_needSimpleRow, cX10_needSimpleRow, 1, none, 6, 82, [])
def Y10_count : mx_M := (yX10_count, cX10_count, 3, some .int, 7, 137, [])
def Y10_placeOfBit : mx_M := (yX10_placeOfBit, cX10_placeOfBit, 5, some .int, 0, 0, [])
def Y10_found : mx_M := (yX10_found, cX10_found, 10, some .int, 7, 114, [])
def Y10_runShare : mx_M := (yX10_runShare, cX10_runShare, 4, some .float, 8, 145, [])
def Y10_isSound : mx_M := (yX10_isSound, cX10_isSound, 1, some .boolean, 7, 169, [])
def YL_cell : mx_M := (yL_cell, cL_cell, 3, some .int, 0, 0, [])
def YL_type : mx_M := (yL_type, cL_type, 3, some .int, 7, 103, [(0, 5, 6, 15), (0, 5, 10, 18)])
def YL_add : mx_M := (yL_add, cL_add, 2, some .int, 8, 134, [(0, 4, 5, 25), (0, 4, 9, 18)])
def YL_insert : mx_M := (yL_insert, cL_insert, 4, some .int, 8, 129, [(0, 6, 7, 31), (0, 6, 11, 25), (0, 6, 15, 15)])
def YL_documents : mx_M := (yL_documents, cL_documents, 3, some .int, 8, 125, [(0, 5, 6, 31)])
def YL_lengthOf : mx_M := (yL_lengthOf, cL_lengthOf, 4, some .int, 8, 127, [(0, 6, 7, 31)])
def YL_snapshot : mx_M := (yL_snapshot, cL_snapshot, 2, some .int, 7, 112, [(0, 4, 5, 18)])
def YL_suffixAt : mx_M := (yL_suffixAt, cL_suffixAt, 5, some .int, 9, 169, [(0, 7, 8, 31), (0, 7, 13, 48), (0, 7, 18, 15)])
def YL_rankOf : mx_M := (yL_rankOf, cL_rankOf, 5, some .int, 9, 170, [(0, 7, 8, 31), (0, 7, 13, 48)])
def YL_turned : mx_M := (yL_turned, cL_turned, 4, some .int, 9, 168, [(0, 6, 7, 31), (0, 6, 11, 48)])
def YL_runs : mx_M := (yL_runs, cL_runs, 3, some .int, 9, 166, [(0, 5, 6, 31)])
def YL_ahead : mx_M := (yL_ahead, cL_ahead, 5, some .int, 9, 169, [(0, 7, 8, 31), (0, 7, 13, 15)])
def YL_count : mx_M := (yL_count, cL_count, 3, some .int, 8, 159, [(0, 5, 6, 31), (0, 5, 10, 25)])
def YL_interval : mx_M := (yL_interval, cL_interval, 5, some .int, 8, 128, [(0, 7, 8, 31), (0, 7, 13, 25), (0, 7, 18, 15)])
def YL_found : mx_M := (yL_found, cL_found, 5, some .int, 8, 143, [(0, 7, 8, 31), (0, 7, 13, 25), (0, 7, 18, 48)])
def YL_in : mx_M := (yL_in, cL_in, 3, some .int, 1, 22, [])
def YL_typed : mx_M := (yL_typed, cL_typed, 7, some (.array .char), 8, 125, [])
def YL_isAt : mx_M := (yL_isAt, cL_isAt, 5, some .boolean, 0, 0, [])
theorem w_0 : (.selects "Suffixhall" yX10_orderedView yX10_orderedView : Cond) ∈ mx_ws := mx_iw (i := 0) (by decide +kernel) (by decide +kernel)
theorem w_1 : (.selects "Suffixhall" yX10_neededView yX10_neededView : Cond) ∈ mx_ws := mx_iw (i := 1) (by decide +kernel) (by decide +kernel)
theorem w_2 : (.selects "Suffixhall$Hall" yX2_shelf yX2_shelf : Cond) ∈ mx_ws := mx_iw (i := 2) (by decide +kernel) (by decide +kernel)
theorem w_4 : (.selects "Suffixhall$Texts" yX8_isSlot yX8_isSlot : Cond) ∈ mx_ws := mx_iw (i := 4) (by decide +kernel) (by decide +kernel)
theorem w_5 : (.selects "Suffixhall$View" yX9_putIn yX9_putIn : Cond) ∈ mx_ws := mx_iw (i := 5) (by decide +kernel) (by decide +kernel)
theorem w_6 : (.selects "Suffixhall$View" yX9_codeAt yX9_codeAt : Cond) ∈ mx_ws := mx_iw (i := 6) (by decide +kernel) (by decide +kernel)
theorem w_7 : (.selects "Suffixhall$View" yX9_isRising yX9_isRising : Cond) ∈ mx_ws := mx_iw (i := 7) (by decide +kernel) (by decide +kernel)
theorem w_8 : (.selects "Suffixhall$Segments" yX7_livingAt yX7_livingAt : Cond) ∈ mx_ws := mx_iw (i := 8) (by decide +kernel) (by decide +kernel)
theorem w_9 : (.selects "Suffixhall$Segments" yX7_isSegment yX7_isSegment : Cond) ∈ mx_ws := mx_iw (i := 9) (by decide +kernel) (by decide +kernel)
theorem w_10 : (.selects "Suffixhall$Segments" yX7_homeOf yX7_homeOf : Cond) ∈ mx_ws := mx_iw (i := 10) (by decide +kernel) (by decide +kernel)
theorem w_11 : (.selects "Suffixhall" yX10_needPlainRow yX10_needPlainRow : Cond) ∈ mx_ws := mx_iw (i := 11) (by decide +kernel) (by decide +kernel)
theorem w_12 : (.selects "Suffixhall$Segments" yX7_fill yX7_fill : Cond) ∈ mx_ws := mx_iw (i := 12) (by decide +kernel) (by decide +kernel)
theorem w_13 : (.selects "Suffixhall$Segments" yX7_setHome yX7_setHome : Cond) ∈ mx_ws := mx_iw (i := 13) (by decide +kernel) (by decide +kernel)
theorem w_14 : (.selects "Suffixhall$Hall" yX2_bury yX2_bury : Cond) ∈ mx_ws := mx_iw (i := 14) (by decide +kernel) (by decide +kernel)
theorem w_15 : (.selects "Suffixhall" yX10_needSimpleRow yX10_needSimpleRow : Cond) ∈ mx_ws := mx_iw (i := 15) (by decide +kernel) (by decide +kernel)
theorem w_16 : (.selects "Suffixhall$Texts" yX8_allPlaces yX8_allPlaces : Cond) ∈ mx_ws := mx_iw (i := 16) (by decide +kernel) (by decide +kernel)
theorem w_17 : (.selects "Suffixhall$Texts" yX8_placesTaking yX8_placesTaking : Cond) ∈ mx_ws := mx_iw (i := 17) (by decide +kernel) (by decide +kernel)
theorem w_18 : (.initialized "SuffixhallLaw" : Cond) ∈ mx_ws := mx_iw (i := 18) (by decide +kernel) (by decide +kernel)
theorem w_19 : (.initialized "Suffixhall" : Cond) ∈ mx_ws := mx_iw (i := 19) (by decide +kernel) (by decide +kernel)
theorem w_20 : (.initialized "Suffixhall$Row" : Cond) ∈ mx_ws := mx_iw (i := 20) (by decide +kernel) (by decide +kernel)
theorem w_21 : (.initialized "Suffixhall$Hall" : Cond) ∈ mx_ws := mx_iw (i := 21) (by decide +kernel) (by decide +kernel)
theorem w_22 : (.initialized "Suffixhall$View" : Cond) ∈ mx_ws := mx_iw (i := 22) (by decide +kernel) (by decide +kernel)
theorem w_23 : (.initialized "Suffixhall$Texts" : Cond) ∈ mx_ws := mx_iw (i := 23) (by decide +kernel) (by decide +kernel)
theorem w_24 : (.initialized "Suffixhall$Segments" : Cond) ∈ mx_ws := mx_iw (i := 24) (by decide +kernel) (by decide +kernel)
theorem w_25 : (.initialized "java/util/Arrays" : Cond) ∈ mx_ws := mx_iw (i := 25) (by decide +kernel) (by decide +kernel)
theorem w_26 : (.initialized "Suffixhall$Dictionary" : Cond) ∈ mx_ws := mx_iw (i := 26) (by decide +kernel) (by decide +kernel)
theorem w_27 : (.initialized "Suffixhall$Regular" : Cond) ∈ mx_ws := mx_iw (i := 27) (by decide +kernel) (by decide +kernel)
theorem w_28 : (.initialized "Suffixhall$Edits" : Cond) ∈ mx_ws := mx_iw (i := 28) (by decide +kernel) (by decide +kernel)
theorem w_29 : (.initialized "Suffixhall$Parse" : Cond) ∈ mx_ws := mx_iw (i := 29) (by decide +kernel) (by decide +kernel)
theorem w_30 : (.initialized "Suffixhall$Pairs" : Cond) ∈ mx_ws := mx_iw (i := 30) (by decide +kernel) (by decide +kernel)
theorem w_34 : (.initialized "java/lang/IndexOutOfBoundsException" : Cond) ∈ mx_ws := mx_iw (i := 34) (by decide +kernel) (by decide +kernel)
theorem w_35 : (.initialized "java/lang/UnsupportedOperationException" : Cond) ∈ mx_ws := mx_iw (i := 35) (by decide +kernel) (by decide +kernel)
theorem w_36 : (.initialized "java/lang/IllegalStateException" : Cond) ∈ mx_ws := mx_iw (i := 36) (by decide +kernel) (by decide +kernel)
theorem w_37 : (.initialized "java/lang/System" : Cond) ∈ mx_ws := mx_iw (i := 37) (by decide +kernel) (by decide +kernel)
theorem w_38 : (.initialized "java/util/NoSuchElementException" : Cond) ∈ mx_ws := mx_iw (i := 38) (by decide +kernel) (by decide +kernel)
theorem w_39 : (.initialized "java/lang/IllegalArgumentException" : Cond) ∈ mx_ws := mx_iw (i := 39) (by decide +kernel) (by decide +kernel)
theorem w_40 : (.initialized "java/lang/Long" : Cond) ∈ mx_ws := mx_iw (i := 40) (by decide +kernel) (by decide +kernel)
theorem w_46 : (.methodLink "Suffixhall" 3 ⟨"java/lang/Object", "<init>", "()V"⟩ : Cond) ∈ mx_ws := mx_iw (i := 46) (by decide +kernel) (by decide +kernel)
theorem w_47 : (.instanceMethod ⟨"java/lang/Object", "<init>", "()V"⟩ : Cond) ∈ mx_ws := mx_iw (i := 47) (by decide +kernel) (by decide +kernel)
theorem w_49 : (.classLink "Suffixhall" 9 "Suffixhall$Row" : Cond) ∈ mx_ws := mx_iw (i := 49) (by decide +kernel) (by decide +kernel)
theorem w_50 : (.instantiable "Suffixhall$Row" 2 : Cond) ∈ mx_ws := mx_iw (i := 50) (by decide +kernel) (by decide +kernel)
theorem w_51 : (.methodLinkNest "Suffixhall" 11 yX6_init "Suffixhall" : Cond) ∈ mx_nw := mx_bn (i := 51) (by decide +kernel) rfl
theorem w_52 : (.instanceMethod yX6_init : Cond) ∈ mx_ws := mx_iw (i := 52) (by decide +kernel) (by decide +kernel)
theorem w_54 : (.methodLink "Suffixhall$Row" 3 ⟨"java/lang/Object", "<init>", "()V"⟩ : Cond) ∈ mx_ws := mx_iw (i := 54) (by decide +kernel) (by decide +kernel)
theorem w_55 : (.fieldLink "Suffixhall$Row" 9 "Suffixhall$Row" "signs" "[C" : Cond) ∈ mx_ws := mx_iw (i := 55) (by decide +kernel) (by decide +kernel)
theorem w_56 : (.fieldLink "Suffixhall$Row" 15 "Suffixhall$Row" "size" "I" : Cond) ∈ mx_ws := mx_iw (i := 56) (by decide +kernel) (by decide +kernel)
theorem w_62 : (.arrayClass .char : Cond) ∈ mx_ws := mx_iw (i := 62) (by decide +kernel) (by decide +kernel)
theorem w_63 : (.classLink "Suffixhall" 16 "Suffixhall$Hall" : Cond) ∈ mx_ws := mx_iw (i := 63) (by decide +kernel) (by decide +kernel)
theorem w_64 : (.instantiable "Suffixhall$Hall" 7 : Cond) ∈ mx_ws := mx_iw (i := 64) (by decide +kernel) (by decide +kernel)
theorem w_65 : (.methodLink "Suffixhall" 18 yX2_init : Cond) ∈ mx_ws := mx_iw (i := 65) (by decide +kernel) (by decide +kernel)
theorem w_66 : (.instanceMethod yX2_init : Cond) ∈ mx_ws := mx_iw (i := 66) (by decide +kernel) (by decide +kernel)
theorem w_68 : (.methodLink "Suffixhall$Hall" 3 ⟨"java/lang/Object", "<init>", "()V"⟩ : Cond) ∈ mx_ws := mx_iw (i := 68) (by decide +kernel) (by decide +kernel)
theorem w_69 : (.classLink "Suffixhall$Hall" 9 "Suffixhall$View" : Cond) ∈ mx_ws := mx_iw (i := 69) (by decide +kernel) (by decide +kernel)
theorem w_70 : (.instantiable "Suffixhall$View" 6 : Cond) ∈ mx_ws := mx_iw (i := 70) (by decide +kernel) (by decide +kernel)
theorem w_71 : (.methodLinkNest "Suffixhall$Hall" 11 yX9_init "Suffixhall" : Cond) ∈ mx_nw := mx_bn (i := 71) (by decide +kernel) rfl
theorem w_72 : (.instanceMethod yX9_init : Cond) ∈ mx_ws := mx_iw (i := 72) (by decide +kernel) (by decide +kernel)
theorem w_74 : (.methodLink "Suffixhall$View" 3 ⟨"java/lang/Object", "<init>", "()V"⟩ : Cond) ∈ mx_ws := mx_iw (i := 74) (by decide +kernel) (by decide +kernel)
theorem w_75 : (.classLink "Suffixhall$View" 9 "Suffixhall$Texts" : Cond) ∈ mx_ws := mx_iw (i := 75) (by decide +kernel) (by decide +kernel)
theorem w_76 : (.instantiable "Suffixhall$Texts" 4 : Cond) ∈ mx_ws := mx_iw (i := 76) (by decide +kernel) (by decide +kernel)
theorem w_77 : (.methodLinkNest "Suffixhall$View" 11 yX8_init "Suffixhall" : Cond) ∈ mx_nw := mx_bn (i := 77) (by decide +kernel) rfl
theorem w_78 : (.instanceMethod yX8_init : Cond) ∈ mx_ws := mx_iw (i := 78) (by decide +kernel) (by decide +kernel)
theorem w_80 : (.methodLink "Suffixhall$Texts" 3 ⟨"java/lang/Object", "<init>", "()V"⟩ : Cond) ∈ mx_ws := mx_iw (i := 80) (by decide +kernel) (by decide +kernel)
theorem w_81 : (.fieldLink "Suffixhall$Texts" 9 "Suffixhall$Texts" "numbers" "[I" : Cond) ∈ mx_ws := mx_iw (i := 81) (by decide +kernel) (by decide +kernel)
theorem w_82 : (.fieldLink "Suffixhall$Texts" 15 "Suffixhall$Texts" "sizes" "[I" : Cond) ∈ mx_ws := mx_iw (i := 82) (by decide +kernel) (by decide +kernel)
theorem w_83 : (.fieldLink "Suffixhall$Texts" 18 "Suffixhall$Texts" "letters" "[C" : Cond) ∈ mx_ws := mx_iw (i := 83) (by decide +kernel) (by decide +kernel)
theorem w_84 : (.fieldLink "Suffixhall$Texts" 22 "Suffixhall$Texts" "many" "I" : Cond) ∈ mx_ws := mx_iw (i := 84) (by decide +kernel) (by decide +kernel)
theorem w_94 : (.arrayClass .int : Cond) ∈ mx_ws := mx_iw (i := 94) (by decide +kernel) (by decide +kernel)
theorem w_95 : (.fieldLink "Suffixhall$View" 12 "Suffixhall$View" "texts" "LSuffixhall$Texts;" : Cond) ∈ mx_ws := mx_iw (i := 95) (by decide +kernel) (by decide +kernel)
theorem w_96 : (.fieldLink "Suffixhall$View" 18 "Suffixhall$View" "codes" "[I" : Cond) ∈ mx_ws := mx_iw (i := 96) (by decide +kernel) (by decide +kernel)
theorem w_97 : (.fieldLink "Suffixhall$View" 22 "Suffixhall$View" "ranks" "[I" : Cond) ∈ mx_ws := mx_iw (i := 97) (by decide +kernel) (by decide +kernel)
theorem w_98 : (.fieldLink "Suffixhall$View" 25 "Suffixhall$View" "commons" "[I" : Cond) ∈ mx_ws := mx_iw (i := 98) (by decide +kernel) (by decide +kernel)
theorem w_99 : (.fieldLink "Suffixhall$View" 32 "Suffixhall$View" "many" "I" : Cond) ∈ mx_ws := mx_iw (i := 99) (by decide +kernel) (by decide +kernel)
theorem w_100 : (.fieldLink "Suffixhall$View" 28 "Suffixhall$View" "isOrdered" "Z" : Cond) ∈ mx_ws := mx_iw (i := 100) (by decide +kernel) (by decide +kernel)
theorem w_115 : (.classLink "Suffixhall$Hall" 26 "Suffixhall$Segments" : Cond) ∈ mx_ws := mx_iw (i := 115) (by decide +kernel) (by decide +kernel)
theorem w_116 : (.instantiable "Suffixhall$Segments" 5 : Cond) ∈ mx_ws := mx_iw (i := 116) (by decide +kernel) (by decide +kernel)
theorem w_117 : (.methodLink "Suffixhall$Hall" 28 yX7_init : Cond) ∈ mx_ws := mx_iw (i := 117) (by decide +kernel) (by decide +kernel)
theorem w_118 : (.instanceMethod yX7_init : Cond) ∈ mx_ws := mx_iw (i := 118) (by decide +kernel) (by decide +kernel)
theorem w_120 : (.methodLink "Suffixhall$Segments" 3 ⟨"java/lang/Object", "<init>", "()V"⟩ : Cond) ∈ mx_ws := mx_iw (i := 120) (by decide +kernel) (by decide +kernel)
theorem w_121 : (.methodLink "Suffixhall$Segments" 24 yJ7_fill_53178 : Cond) ∈ mx_ws := mx_iw (i := 121) (by decide +kernel) (by decide +kernel)
theorem w_122 : (.static yJ7_fill_53178 : Cond) ∈ mx_ws := mx_iw (i := 122) (by decide +kernel) (by decide +kernel)
theorem w_124 : (.fieldLink "Suffixhall$Segments" 9 "Suffixhall$Segments" "living" "[I" : Cond) ∈ mx_ws := mx_iw (i := 124) (by decide +kernel) (by decide +kernel)
theorem w_125 : (.fieldLink "Suffixhall$Segments" 15 "Suffixhall$Segments" "gone" "[I" : Cond) ∈ mx_ws := mx_iw (i := 125) (by decide +kernel) (by decide +kernel)
theorem w_126 : (.fieldLink "Suffixhall$Segments" 18 "Suffixhall$Segments" "goneLetters" "[I" : Cond) ∈ mx_ws := mx_iw (i := 126) (by decide +kernel) (by decide +kernel)
theorem w_127 : (.fieldLink "Suffixhall$Segments" 21 "Suffixhall$Segments" "homes" "[I" : Cond) ∈ mx_ws := mx_iw (i := 127) (by decide +kernel) (by decide +kernel)
theorem w_128 : (.fieldLink "Suffixhall$Segments" 30 "Suffixhall$Segments" "many" "I" : Cond) ∈ mx_ws := mx_iw (i := 128) (by decide +kernel) (by decide +kernel)
theorem w_140 : (.classLink "Suffixhall$Hall" 33 "Suffixhall$Dictionary" : Cond) ∈ mx_ws := mx_iw (i := 140) (by decide +kernel) (by decide +kernel)
theorem w_141 : (.instantiable "Suffixhall$Dictionary" 2 : Cond) ∈ mx_ws := mx_iw (i := 141) (by decide +kernel) (by decide +kernel)
theorem w_142 : (.methodLink "Suffixhall$Hall" 35 yX0_init : Cond) ∈ mx_ws := mx_iw (i := 142) (by decide +kernel) (by decide +kernel)
theorem w_143 : (.instanceMethod yX0_init : Cond) ∈ mx_ws := mx_iw (i := 143) (by decide +kernel) (by decide +kernel)
theorem w_145 : (.methodLink "Suffixhall$Dictionary" 3 ⟨"java/lang/Object", "<init>", "()V"⟩ : Cond) ∈ mx_ws := mx_iw (i := 145) (by decide +kernel) (by decide +kernel)
theorem w_146 : (.classLink "Suffixhall$Dictionary" 9 "Suffixhall$Row" : Cond) ∈ mx_ws := mx_iw (i := 146) (by decide +kernel) (by decide +kernel)
theorem w_148 : (.methodLinkNest "Suffixhall$Dictionary" 17 yX6_init "Suffixhall" : Cond) ∈ mx_nw := mx_bn (i := 148) (by decide +kernel) rfl
theorem w_149 : (.fieldLink "Suffixhall$Dictionary" 11 "Suffixhall$Dictionary" "patterns" "[LSuffixhall$Row;" : Cond) ∈ mx_ws := mx_iw (i := 149) (by decide +kernel) (by decide +kernel)
theorem w_155 : (.methodLink "Suffixhall$Hall" 40 yJ7_fill_53178 : Cond) ∈ mx_ws := mx_iw (i := 155) (by decide +kernel) (by decide +kernel)
theorem w_156 : (.fieldLink "Suffixhall$Hall" 12 "Suffixhall$Hall" "present" "LSuffixhall$View;" : Cond) ∈ mx_ws := mx_iw (i := 156) (by decide +kernel) (by decide +kernel)
theorem w_157 : (.fieldLink "Suffixhall$Hall" 18 "Suffixhall$Hall" "shelves" "[LSuffixhall$View;" : Cond) ∈ mx_ws := mx_iw (i := 157) (by decide +kernel) (by decide +kernel)
theorem w_158 : (.fieldLink "Suffixhall$Hall" 22 "Suffixhall$Hall" "snapshots" "[I" : Cond) ∈ mx_ws := mx_iw (i := 158) (by decide +kernel) (by decide +kernel)
theorem w_159 : (.fieldLink "Suffixhall$Hall" 29 "Suffixhall$Hall" "segmentList" "LSuffixhall$Segments;" : Cond) ∈ mx_ws := mx_iw (i := 159) (by decide +kernel) (by decide +kernel)
theorem w_160 : (.fieldLink "Suffixhall$Hall" 36 "Suffixhall$Hall" "dictionary" "LSuffixhall$Dictionary;" : Cond) ∈ mx_ws := mx_iw (i := 160) (by decide +kernel) (by decide +kernel)
theorem w_161 : (.fieldLink "Suffixhall$Hall" 64 "Suffixhall$Hall" "added" "I" : Cond) ∈ mx_ws := mx_iw (i := 161) (by decide +kernel) (by decide +kernel)
theorem w_162 : (.fieldLink "Suffixhall$Hall" 105 "Suffixhall$Hall" "taken" "I" : Cond) ∈ mx_ws := mx_iw (i := 162) (by decide +kernel) (by decide +kernel)
theorem w_178 : (.classLink "Suffixhall" 26 "Suffixhall$Regular" : Cond) ∈ mx_ws := mx_iw (i := 178) (by decide +kernel) (by decide +kernel)
theorem w_179 : (.instantiable "Suffixhall$Regular" 6 : Cond) ∈ mx_ws := mx_iw (i := 179) (by decide +kernel) (by decide +kernel)
theorem w_180 : (.methodLinkNest "Suffixhall" 28 yX5_init "Suffixhall" : Cond) ∈ mx_nw := mx_bn (i := 180) (by decide +kernel) rfl
theorem w_181 : (.instanceMethod yX5_init : Cond) ∈ mx_ws := mx_iw (i := 181) (by decide +kernel) (by decide +kernel)
theorem w_183 : (.methodLink "Suffixhall$Regular" 3 ⟨"java/lang/Object", "<init>", "()V"⟩ : Cond) ∈ mx_ws := mx_iw (i := 183) (by decide +kernel) (by decide +kernel)
theorem w_184 : (.fieldLink "Suffixhall$Regular" 9 "Suffixhall$Regular" "followers" "[I" : Cond) ∈ mx_ws := mx_iw (i := 184) (by decide +kernel) (by decide +kernel)
theorem w_185 : (.fieldLink "Suffixhall$Regular" 15 "Suffixhall$Regular" "takers" "[I" : Cond) ∈ mx_ws := mx_iw (i := 185) (by decide +kernel) (by decide +kernel)
theorem w_199 : (.classLink "Suffixhall" 33 "Suffixhall$Edits" : Cond) ∈ mx_ws := mx_iw (i := 199) (by decide +kernel) (by decide +kernel)
theorem w_200 : (.instantiable "Suffixhall$Edits" 5 : Cond) ∈ mx_ws := mx_iw (i := 200) (by decide +kernel) (by decide +kernel)
theorem w_201 : (.methodLinkNest "Suffixhall" 35 yX1_init "Suffixhall" : Cond) ∈ mx_nw := mx_bn (i := 201) (by decide +kernel) rfl
theorem w_202 : (.instanceMethod yX1_init : Cond) ∈ mx_ws := mx_iw (i := 202) (by decide +kernel) (by decide +kernel)
theorem w_204 : (.methodLink "Suffixhall$Edits" 3 ⟨"java/lang/Object", "<init>", "()V"⟩ : Cond) ∈ mx_ws := mx_iw (i := 204) (by decide +kernel) (by decide +kernel)
theorem w_205 : (.classLink "Suffixhall$Edits" 18 "[[I" : Cond) ∈ mx_ws := mx_iw (i := 205) (by decide +kernel) (by decide +kernel)
theorem w_207 : (.fieldLink "Suffixhall$Edits" 9 "Suffixhall$Edits" "source" "[C" : Cond) ∈ mx_ws := mx_iw (i := 207) (by decide +kernel) (by decide +kernel)
theorem w_208 : (.fieldLink "Suffixhall$Edits" 15 "Suffixhall$Edits" "target" "[C" : Cond) ∈ mx_ws := mx_iw (i := 208) (by decide +kernel) (by decide +kernel)
theorem w_209 : (.fieldLink "Suffixhall$Edits" 20 "Suffixhall$Edits" "fewest" "[[I" : Cond) ∈ mx_ws := mx_iw (i := 209) (by decide +kernel) (by decide +kernel)
theorem w_221 : (.classLink "Suffixhall" 40 "Suffixhall$Parse" : Cond) ∈ mx_ws := mx_iw (i := 221) (by decide +kernel) (by decide +kernel)
theorem w_222 : (.instantiable "Suffixhall$Parse" 6 : Cond) ∈ mx_ws := mx_iw (i := 222) (by decide +kernel) (by decide +kernel)
theorem w_223 : (.methodLinkNest "Suffixhall" 42 yX4_init "Suffixhall" : Cond) ∈ mx_nw := mx_bn (i := 223) (by decide +kernel) rfl
theorem w_224 : (.instanceMethod yX4_init : Cond) ∈ mx_ws := mx_iw (i := 224) (by decide +kernel) (by decide +kernel)
theorem w_226 : (.methodLink "Suffixhall$Parse" 3 ⟨"java/lang/Object", "<init>", "()V"⟩ : Cond) ∈ mx_ws := mx_iw (i := 226) (by decide +kernel) (by decide +kernel)
theorem w_227 : (.fieldLink "Suffixhall$Parse" 9 "Suffixhall$Parse" "begins" "[I" : Cond) ∈ mx_ws := mx_iw (i := 227) (by decide +kernel) (by decide +kernel)
theorem w_228 : (.fieldLink "Suffixhall$Parse" 15 "Suffixhall$Parse" "sizes" "[I" : Cond) ∈ mx_ws := mx_iw (i := 228) (by decide +kernel) (by decide +kernel)
theorem w_229 : (.fieldLink "Suffixhall$Parse" 18 "Suffixhall$Parse" "firsts" "[I" : Cond) ∈ mx_ws := mx_iw (i := 229) (by decide +kernel) (by decide +kernel)
theorem w_243 : (.classLink "Suffixhall" 47 "Suffixhall$Pairs" : Cond) ∈ mx_ws := mx_iw (i := 243) (by decide +kernel) (by decide +kernel)
theorem w_244 : (.instantiable "Suffixhall$Pairs" 3 : Cond) ∈ mx_ws := mx_iw (i := 244) (by decide +kernel) (by decide +kernel)
theorem w_245 : (.methodLinkNest "Suffixhall" 49 yX3_init "Suffixhall" : Cond) ∈ mx_nw := mx_bn (i := 245) (by decide +kernel) rfl
theorem w_246 : (.instanceMethod yX3_init : Cond) ∈ mx_ws := mx_iw (i := 246) (by decide +kernel) (by decide +kernel)
theorem w_248 : (.methodLink "Suffixhall$Pairs" 3 ⟨"java/lang/Object", "<init>", "()V"⟩ : Cond) ∈ mx_ws := mx_iw (i := 248) (by decide +kernel) (by decide +kernel)
theorem w_249 : (.fieldLink "Suffixhall$Pairs" 9 "Suffixhall$Pairs" "symbols" "[I" : Cond) ∈ mx_ws := mx_iw (i := 249) (by decide +kernel) (by decide +kernel)
theorem w_257 : (.fieldLink "Suffixhall" 12 "Suffixhall" "row" "LSuffixhall$Row;" : Cond) ∈ mx_ws := mx_iw (i := 257) (by decide +kernel) (by decide +kernel)
theorem w_258 : (.fieldLink "Suffixhall" 19 "Suffixhall" "now" "LSuffixhall$Hall;" : Cond) ∈ mx_ws := mx_iw (i := 258) (by decide +kernel) (by decide +kernel)
theorem w_259 : (.fieldLink "Suffixhall" 23 "Suffixhall" "kept" "LSuffixhall$Hall;" : Cond) ∈ mx_ws := mx_iw (i := 259) (by decide +kernel) (by decide +kernel)
theorem w_260 : (.fieldLink "Suffixhall" 29 "Suffixhall" "regular" "LSuffixhall$Regular;" : Cond) ∈ mx_ws := mx_iw (i := 260) (by decide +kernel) (by decide +kernel)
theorem w_261 : (.fieldLink "Suffixhall" 36 "Suffixhall" "edits" "LSuffixhall$Edits;" : Cond) ∈ mx_ws := mx_iw (i := 261) (by decide +kernel) (by decide +kernel)
theorem w_262 : (.fieldLink "Suffixhall" 43 "Suffixhall" "parse" "LSuffixhall$Parse;" : Cond) ∈ mx_ws := mx_iw (i := 262) (by decide +kernel) (by decide +kernel)
theorem w_263 : (.fieldLink "Suffixhall" 50 "Suffixhall" "pairs" "LSuffixhall$Pairs;" : Cond) ∈ mx_ws := mx_iw (i := 263) (by decide +kernel) (by decide +kernel)
theorem w_264 : (.fieldLink "Suffixhall" 94 "Suffixhall" "changes" "I" : Cond) ∈ mx_ws := mx_iw (i := 264) (by decide +kernel) (by decide +kernel)
theorem w_286 : (.methodLink "Suffixhall" 178 yX10_orderedView : Cond) ∈ mx_ws := mx_iw (i := 286) (by decide +kernel) (by decide +kernel)
theorem w_288 : (.instanceMethod yX10_orderedView : Cond) ∈ mx_ws := mx_iw (i := 288) (by decide +kernel) (by decide +kernel)
theorem w_290 : (.methodLink "Suffixhall" 137 yX10_neededView : Cond) ∈ mx_ws := mx_iw (i := 290) (by decide +kernel) (by decide +kernel)
theorem w_292 : (.instanceMethod yX10_neededView : Cond) ∈ mx_ws := mx_iw (i := 292) (by decide +kernel) (by decide +kernel)
theorem w_294 : (.methodLink "Suffixhall" 390 yX2_viewOf : Cond) ∈ mx_ws := mx_iw (i := 294) (by decide +kernel) (by decide +kernel)
theorem w_295 : (.instanceMethod yX2_viewOf : Cond) ∈ mx_ws := mx_iw (i := 295) (by decide +kernel) (by decide +kernel)
theorem w_296 : (.selects "Suffixhall$Hall" yX2_viewOf yX2_viewOf : Cond) ∈ mx_ws := mx_iw (i := 296) (by decide +kernel) (by decide +kernel)
theorem w_298 : (.methodLink "Suffixhall$Hall" 46 yX2_shelfOf : Cond) ∈ mx_ws := mx_iw (i := 298) (by decide +kernel) (by decide +kernel)
theorem w_299 : (.instanceMethod yX2_shelfOf : Cond) ∈ mx_ws := mx_iw (i := 299) (by decide +kernel) (by decide +kernel)
theorem w_300 : (.selects "Suffixhall$Hall" yX2_shelfOf yX2_shelfOf : Cond) ∈ mx_ws := mx_iw (i := 300) (by decide +kernel) (by decide +kernel)
theorem w_302 : (.methodLink "Suffixhall$Hall" 50 yX2_shelf : Cond) ∈ mx_ws := mx_iw (i := 302) (by decide +kernel) (by decide +kernel)
theorem w_304 : (.instanceMethod yX2_shelf : Cond) ∈ mx_ws := mx_iw (i := 304) (by decide +kernel) (by decide +kernel)
theorem w_306 : (.classLink "Suffixhall" 163 "java/lang/IndexOutOfBoundsException" : Cond) ∈ mx_ws := mx_iw (i := 306) (by decide +kernel) (by decide +kernel)
theorem w_308 : (.castable "java/lang/IndexOutOfBoundsException" "java/lang/IndexOutOfBoundsException" : Cond) ∈ mx_nw := mx_bn (i := 308) (by decide +kernel) rfl
theorem w_376 : (.methodLink "Suffixhall" 395 yX9_putInOrder : Cond) ∈ mx_ws := mx_iw (i := 376) (by decide +kernel) (by decide +kernel)
theorem w_377 : (.instanceMethod yX9_putInOrder : Cond) ∈ mx_ws := mx_iw (i := 377) (by decide +kernel) (by decide +kernel)
theorem w_378 : (.selects "Suffixhall$View" yX9_putInOrder yX9_putInOrder : Cond) ∈ mx_ws := mx_iw (i := 378) (by decide +kernel) (by decide +kernel)
theorem w_380 : (.methodLink "Suffixhall$View" 43 yX8_many : Cond) ∈ mx_ws := mx_iw (i := 380) (by decide +kernel) (by decide +kernel)
theorem w_381 : (.instanceMethod yX8_many : Cond) ∈ mx_ws := mx_iw (i := 381) (by decide +kernel) (by decide +kernel)
theorem w_382 : (.selects "Suffixhall$Texts" yX8_many yX8_many : Cond) ∈ mx_ws := mx_iw (i := 382) (by decide +kernel) (by decide +kernel)
theorem w_384 : (.methodLink "Suffixhall$View" 46 yX8_sizeAt : Cond) ∈ mx_ws := mx_iw (i := 384) (by decide +kernel) (by decide +kernel)
theorem w_385 : (.instanceMethod yX8_sizeAt : Cond) ∈ mx_ws := mx_iw (i := 385) (by decide +kernel) (by decide +kernel)
theorem w_386 : (.selects "Suffixhall$Texts" yX8_sizeAt yX8_sizeAt : Cond) ∈ mx_ws := mx_iw (i := 386) (by decide +kernel) (by decide +kernel)
theorem w_388 : (.methodLink "Suffixhall$Texts" 30 yX8_isSlot : Cond) ∈ mx_ws := mx_iw (i := 388) (by decide +kernel) (by decide +kernel)
theorem w_390 : (.instanceMethod yX8_isSlot : Cond) ∈ mx_ws := mx_iw (i := 390) (by decide +kernel) (by decide +kernel)
theorem w_392 : (.methodLink "Suffixhall$View" 50 yX9_putIn : Cond) ∈ mx_ws := mx_iw (i := 392) (by decide +kernel) (by decide +kernel)
theorem w_394 : (.instanceMethod yX9_putIn : Cond) ∈ mx_ws := mx_iw (i := 394) (by decide +kernel) (by decide +kernel)
theorem w_396 : (.methodLink "Suffixhall$View" 64 yX8_compare : Cond) ∈ mx_ws := mx_iw (i := 396) (by decide +kernel) (by decide +kernel)
theorem w_397 : (.instanceMethod yX8_compare : Cond) ∈ mx_ws := mx_iw (i := 397) (by decide +kernel) (by decide +kernel)
theorem w_398 : (.selects "Suffixhall$Texts" yX8_compare yX8_compare : Cond) ∈ mx_ws := mx_iw (i := 398) (by decide +kernel) (by decide +kernel)
theorem w_400 : (.methodLink "Suffixhall$Texts" 61 yX8_shared : Cond) ∈ mx_ws := mx_iw (i := 400) (by decide +kernel) (by decide +kernel)
theorem w_401 : (.instanceMethod yX8_shared : Cond) ∈ mx_ws := mx_iw (i := 401) (by decide +kernel) (by decide +kernel)
theorem w_402 : (.selects "Suffixhall$Texts" yX8_shared yX8_shared : Cond) ∈ mx_ws := mx_iw (i := 402) (by decide +kernel) (by decide +kernel)
theorem w_404 : (.methodLink "Suffixhall$Texts" 57 yX8_letter : Cond) ∈ mx_ws := mx_iw (i := 404) (by decide +kernel) (by decide +kernel)
theorem w_405 : (.instanceMethod yX8_letter : Cond) ∈ mx_ws := mx_iw (i := 405) (by decide +kernel) (by decide +kernel)
theorem w_406 : (.selects "Suffixhall$Texts" yX8_letter yX8_letter : Cond) ∈ mx_ws := mx_iw (i := 406) (by decide +kernel) (by decide +kernel)
theorem w_408 : (.methodLink "Suffixhall$View" 67 ⟨"java/lang/System", "arraycopy", "(Ljava/lang/Object;ILjava/lang/Object;II)V"⟩ : Cond) ∈ mx_ws := mx_iw (i := 408) (by decide +kernel) (by decide +kernel)
theorem w_409 : (.static ⟨"java/lang/System", "arraycopy", "(Ljava/lang/Object;ILjava/lang/Object;II)V"⟩ : Cond) ∈ mx_ws := mx_iw (i := 409) (by decide +kernel) (by decide +kernel)
theorem w_410 : (.native ⟨"java/lang/System", "arraycopy", "(Ljava/lang/Object;ILjava/lang/Object;II)V"⟩ : Cond) ∈ mx_ws := mx_iw (i := 410) (by decide +kernel) (by decide +kernel)
theorem w_411 : (.methodLink "Suffixhall$View" 54 yX9_slotAt : Cond) ∈ mx_ws := mx_iw (i := 411) (by decide +kernel) (by decide +kernel)
theorem w_412 : (.instanceMethod yX9_slotAt : Cond) ∈ mx_ws := mx_iw (i := 412) (by decide +kernel) (by decide +kernel)
theorem w_413 : (.selects "Suffixhall$View" yX9_slotAt yX9_slotAt : Cond) ∈ mx_ws := mx_iw (i := 413) (by decide +kernel) (by decide +kernel)
theorem w_415 : (.methodLink "Suffixhall$View" 73 yX9_codeAt : Cond) ∈ mx_ws := mx_iw (i := 415) (by decide +kernel) (by decide +kernel)
theorem w_417 : (.instanceMethod yX9_codeAt : Cond) ∈ mx_ws := mx_iw (i := 417) (by decide +kernel) (by decide +kernel)
theorem w_419 : (.methodLink "Suffixhall$View" 57 yX9_placeAt : Cond) ∈ mx_ws := mx_iw (i := 419) (by decide +kernel) (by decide +kernel)
theorem w_420 : (.instanceMethod yX9_placeAt : Cond) ∈ mx_ws := mx_iw (i := 420) (by decide +kernel) (by decide +kernel)
theorem w_421 : (.selects "Suffixhall$View" yX9_placeAt yX9_placeAt : Cond) ∈ mx_ws := mx_iw (i := 421) (by decide +kernel) (by decide +kernel)
theorem w_423 : (.methodLink "Suffixhall$View" 60 yX8_shared : Cond) ∈ mx_ws := mx_iw (i := 423) (by decide +kernel) (by decide +kernel)
theorem w_424 : (.methodLink "Suffixhall" 102 yX9_texts : Cond) ∈ mx_ws := mx_iw (i := 424) (by decide +kernel) (by decide +kernel)
theorem w_425 : (.instanceMethod yX9_texts : Cond) ∈ mx_ws := mx_iw (i := 425) (by decide +kernel) (by decide +kernel)
theorem w_426 : (.selects "Suffixhall$View" yX9_texts yX9_texts : Cond) ∈ mx_ws := mx_iw (i := 426) (by decide +kernel) (by decide +kernel)
theorem w_428 : (.methodLink "Suffixhall" 215 yX8_places : Cond) ∈ mx_ws := mx_iw (i := 428) (by decide +kernel) (by decide +kernel)
theorem w_429 : (.instanceMethod yX8_places : Cond) ∈ mx_ws := mx_iw (i := 429) (by decide +kernel) (by decide +kernel)
theorem w_430 : (.selects "Suffixhall$Texts" yX8_places yX8_places : Cond) ∈ mx_ws := mx_iw (i := 430) (by decide +kernel) (by decide +kernel)
theorem w_432 : (.methodLink "Suffixhall$Texts" 34 yX8_sizeAt : Cond) ∈ mx_ws := mx_iw (i := 432) (by decide +kernel) (by decide +kernel)
theorem w_433 : (.classLink "Suffixhall" 250 "java/util/NoSuchElementException" : Cond) ∈ mx_ws := mx_iw (i := 433) (by decide +kernel) (by decide +kernel)
theorem w_435 : (.castable "java/util/NoSuchElementException" "java/util/NoSuchElementException" : Cond) ∈ mx_nw := mx_bn (i := 435) (by decide +kernel) rfl
theorem w_449 : (.methodLink "Suffixhall" 207 yX9_runsOfTurned : Cond) ∈ mx_ws := mx_iw (i := 449) (by decide +kernel) (by decide +kernel)
theorem w_450 : (.instanceMethod yX9_runsOfTurned : Cond) ∈ mx_ws := mx_iw (i := 450) (by decide +kernel) (by decide +kernel)
theorem w_451 : (.selects "Suffixhall$View" yX9_runsOfTurned yX9_runsOfTurned : Cond) ∈ mx_ws := mx_iw (i := 451) (by decide +kernel) (by decide +kernel)
theorem w_453 : (.methodLink "Suffixhall$View" 80 yX8_places : Cond) ∈ mx_ws := mx_iw (i := 453) (by decide +kernel) (by decide +kernel)
theorem w_454 : (.methodLink "Suffixhall$View" 83 yX9_turnedAt : Cond) ∈ mx_ws := mx_iw (i := 454) (by decide +kernel) (by decide +kernel)
theorem w_455 : (.instanceMethod yX9_turnedAt : Cond) ∈ mx_ws := mx_iw (i := 455) (by decide +kernel) (by decide +kernel)
theorem w_456 : (.selects "Suffixhall$View" yX9_turnedAt yX9_turnedAt : Cond) ∈ mx_ws := mx_iw (i := 456) (by decide +kernel) (by decide +kernel)
theorem w_458 : (.methodLink "Suffixhall$View" 76 yX8_letter : Cond) ∈ mx_ws := mx_iw (i := 458) (by decide +kernel) (by decide +kernel)
theorem w_463 : (.methodLink "Suffixhall" 387 yX2_isWhole : Cond) ∈ mx_ws := mx_iw (i := 463) (by decide +kernel) (by decide +kernel)
theorem w_464 : (.instanceMethod yX2_isWhole : Cond) ∈ mx_ws := mx_iw (i := 464) (by decide +kernel) (by decide +kernel)
theorem w_465 : (.selects "Suffixhall$Hall" yX2_isWhole yX2_isWhole : Cond) ∈ mx_ws := mx_iw (i := 465) (by decide +kernel) (by decide +kernel)
theorem w_467 : (.methodLink "Suffixhall$Hall" 118 yX9_isInOrder : Cond) ∈ mx_ws := mx_iw (i := 467) (by decide +kernel) (by decide +kernel)
theorem w_468 : (.instanceMethod yX9_isInOrder : Cond) ∈ mx_ws := mx_iw (i := 468) (by decide +kernel) (by decide +kernel)
theorem w_469 : (.selects "Suffixhall$View" yX9_isInOrder yX9_isInOrder : Cond) ∈ mx_ws := mx_iw (i := 469) (by decide +kernel) (by decide +kernel)
theorem w_471 : (.methodLink "Suffixhall$View" 122 yX9_putInOrder : Cond) ∈ mx_ws := mx_iw (i := 471) (by decide +kernel) (by decide +kernel)
theorem w_472 : (.methodLink "Suffixhall$View" 119 yX9_rankAt : Cond) ∈ mx_ws := mx_iw (i := 472) (by decide +kernel) (by decide +kernel)
theorem w_473 : (.instanceMethod yX9_rankAt : Cond) ∈ mx_ws := mx_iw (i := 473) (by decide +kernel) (by decide +kernel)
theorem w_474 : (.selects "Suffixhall$View" yX9_rankAt yX9_rankAt : Cond) ∈ mx_ws := mx_iw (i := 474) (by decide +kernel) (by decide +kernel)
theorem w_476 : (.methodLink "Suffixhall$View" 125 yX9_isRising : Cond) ∈ mx_ws := mx_iw (i := 476) (by decide +kernel) (by decide +kernel)
theorem w_478 : (.instanceMethod yX9_isRising : Cond) ∈ mx_ws := mx_iw (i := 478) (by decide +kernel) (by decide +kernel)
theorem w_480 : (.methodLink "Suffixhall$Hall" 54 yX9_texts : Cond) ∈ mx_ws := mx_iw (i := 480) (by decide +kernel) (by decide +kernel)
theorem w_481 : (.methodLink "Suffixhall$Hall" 122 yX7_houses : Cond) ∈ mx_ws := mx_iw (i := 481) (by decide +kernel) (by decide +kernel)
theorem w_482 : (.instanceMethod yX7_houses : Cond) ∈ mx_ws := mx_iw (i := 482) (by decide +kernel) (by decide +kernel)
theorem w_483 : (.selects "Suffixhall$Segments" yX7_houses yX7_houses : Cond) ∈ mx_ws := mx_iw (i := 483) (by decide +kernel) (by decide +kernel)
theorem w_485 : (.methodLink "Suffixhall$Segments" 52 yX7_livingAt : Cond) ∈ mx_ws := mx_iw (i := 485) (by decide +kernel) (by decide +kernel)
theorem w_487 : (.instanceMethod yX7_livingAt : Cond) ∈ mx_ws := mx_iw (i := 487) (by decide +kernel) (by decide +kernel)
theorem w_489 : (.methodLink "Suffixhall$Segments" 37 yX7_isSegment : Cond) ∈ mx_ws := mx_iw (i := 489) (by decide +kernel) (by decide +kernel)
theorem w_491 : (.instanceMethod yX7_isSegment : Cond) ∈ mx_ws := mx_iw (i := 491) (by decide +kernel) (by decide +kernel)
theorem w_493 : (.methodLink "Suffixhall$Segments" 71 yX8_many : Cond) ∈ mx_ws := mx_iw (i := 493) (by decide +kernel) (by decide +kernel)
theorem w_494 : (.methodLink "Suffixhall$Segments" 76 yX8_numberAt : Cond) ∈ mx_ws := mx_iw (i := 494) (by decide +kernel) (by decide +kernel)
theorem w_495 : (.instanceMethod yX8_numberAt : Cond) ∈ mx_ws := mx_iw (i := 495) (by decide +kernel) (by decide +kernel)
theorem w_496 : (.selects "Suffixhall$Texts" yX8_numberAt yX8_numberAt : Cond) ∈ mx_ws := mx_iw (i := 496) (by decide +kernel) (by decide +kernel)
theorem w_498 : (.methodLink "Suffixhall$Segments" 45 yX7_homeOf : Cond) ∈ mx_ws := mx_iw (i := 498) (by decide +kernel) (by decide +kernel)
theorem w_500 : (.instanceMethod yX7_homeOf : Cond) ∈ mx_ws := mx_iw (i := 500) (by decide +kernel) (by decide +kernel)
theorem w_502 : (.methodLink "SuffixhallLaw" 89 yL_type : Cond) ∈ mx_ws := mx_iw (i := 502) (by decide +kernel) (by decide +kernel)
theorem w_503 : (.static yL_type : Cond) ∈ mx_ws := mx_iw (i := 503) (by decide +kernel) (by decide +kernel)
theorem w_505 : (.classLink "SuffixhallLaw" 15 "java/lang/IllegalArgumentException" : Cond) ∈ mx_ws := mx_iw (i := 505) (by decide +kernel) (by decide +kernel)
theorem w_506 : (.classLink "SuffixhallLaw" 18 "java/lang/IllegalStateException" : Cond) ∈ mx_ws := mx_iw (i := 506) (by decide +kernel) (by decide +kernel)
theorem w_507 : (.methodLink "SuffixhallLaw" 9 yX10_type : Cond) ∈ mx_ws := mx_iw (i := 507) (by decide +kernel) (by decide +kernel)
theorem w_508 : (.instanceMethod yX10_type : Cond) ∈ mx_ws := mx_iw (i := 508) (by decide +kernel) (by decide +kernel)
theorem w_509 : (.selects "Suffixhall" yX10_type yX10_type : Cond) ∈ mx_ws := mx_iw (i := 509) (by decide +kernel) (by decide +kernel)
theorem w_511 : (.methodLink "Suffixhall" 54 yX10_isSign : Cond) ∈ mx_ws := mx_iw (i := 511) (by decide +kernel) (by decide +kernel)
theorem w_512 : (.static yX10_isSign : Cond) ∈ mx_ws := mx_iw (i := 512) (by decide +kernel) (by decide +kernel)
theorem w_514 : (.methodLink "Suffixhall" 210 yX10_isLetter : Cond) ∈ mx_ws := mx_iw (i := 514) (by decide +kernel) (by decide +kernel)
theorem w_515 : (.static yX10_isLetter : Cond) ∈ mx_ws := mx_iw (i := 515) (by decide +kernel) (by decide +kernel)
theorem w_517 : (.classLink "Suffixhall" 58 "java/lang/IllegalArgumentException" : Cond) ∈ mx_ws := mx_iw (i := 517) (by decide +kernel) (by decide +kernel)
theorem w_519 : (.castable "java/lang/IllegalArgumentException" "java/lang/IllegalArgumentException" : Cond) ∈ mx_nw := mx_bn (i := 519) (by decide +kernel) rfl
theorem w_533 : (.methodLink "Suffixhall" 65 yX6_size : Cond) ∈ mx_ws := mx_iw (i := 533) (by decide +kernel) (by decide +kernel)
theorem w_534 : (.instanceMethod yX6_size : Cond) ∈ mx_ws := mx_iw (i := 534) (by decide +kernel) (by decide +kernel)
theorem w_535 : (.selects "Suffixhall$Row" yX6_size yX6_size : Cond) ∈ mx_ws := mx_iw (i := 535) (by decide +kernel) (by decide +kernel)
theorem w_537 : (.classLink "Suffixhall" 69 "java/lang/IllegalStateException" : Cond) ∈ mx_ws := mx_iw (i := 537) (by decide +kernel) (by decide +kernel)
theorem w_539 : (.castable "java/lang/IllegalStateException" "java/lang/IllegalStateException" : Cond) ∈ mx_nw := mx_bn (i := 539) (by decide +kernel) rfl
theorem w_553 : (.methodLink "Suffixhall" 74 yX6_append : Cond) ∈ mx_ws := mx_iw (i := 553) (by decide +kernel) (by decide +kernel)
theorem w_554 : (.instanceMethod yX6_append : Cond) ∈ mx_ws := mx_iw (i := 554) (by decide +kernel) (by decide +kernel)
theorem w_555 : (.selects "Suffixhall$Row" yX6_append yX6_append : Cond) ∈ mx_ws := mx_iw (i := 555) (by decide +kernel) (by decide +kernel)
theorem w_557 : (.constant "SuffixhallLaw" 17 (Int32.ofInt (-900001)) : Cond) ∈ mx_ws := mx_iw (i := 557) (by decide +kernel) (by decide +kernel)
theorem w_558 : (.constant "SuffixhallLaw" 20 (Int32.ofInt (-900002)) : Cond) ∈ mx_ws := mx_iw (i := 558) (by decide +kernel) (by decide +kernel)
theorem w_562 : (.classLink "SuffixhallLaw" 25 "java/lang/UnsupportedOperationException" : Cond) ∈ mx_ws := mx_iw (i := 562) (by decide +kernel) (by decide +kernel)
theorem w_563 : (.methodLink "SuffixhallLaw" 21 yX10_add : Cond) ∈ mx_ws := mx_iw (i := 563) (by decide +kernel) (by decide +kernel)
theorem w_564 : (.instanceMethod yX10_add : Cond) ∈ mx_ws := mx_iw (i := 564) (by decide +kernel) (by decide +kernel)
theorem w_565 : (.selects "Suffixhall" yX10_add yX10_add : Cond) ∈ mx_ws := mx_iw (i := 565) (by decide +kernel) (by decide +kernel)
theorem w_567 : (.methodLink "Suffixhall" 81 yX10_needPlainRow : Cond) ∈ mx_ws := mx_iw (i := 567) (by decide +kernel) (by decide +kernel)
theorem w_569 : (.instanceMethod yX10_needPlainRow : Cond) ∈ mx_ws := mx_iw (i := 569) (by decide +kernel) (by decide +kernel)
theorem w_571 : (.methodLink "Suffixhall" 402 yX6_isPlain : Cond) ∈ mx_ws := mx_iw (i := 571) (by decide +kernel) (by decide +kernel)
theorem w_572 : (.instanceMethod yX6_isPlain : Cond) ∈ mx_ws := mx_iw (i := 572) (by decide +kernel) (by decide +kernel)
theorem w_573 : (.selects "Suffixhall$Row" yX6_isPlain yX6_isPlain : Cond) ∈ mx_ws := mx_iw (i := 573) (by decide +kernel) (by decide +kernel)
theorem w_575 : (.methodLink "Suffixhall$Row" 25 yX6_sign : Cond) ∈ mx_ws := mx_iw (i := 575) (by decide +kernel) (by decide +kernel)
theorem w_576 : (.instanceMethod yX6_sign : Cond) ∈ mx_ws := mx_iw (i := 576) (by decide +kernel) (by decide +kernel)
theorem w_577 : (.selects "Suffixhall$Row" yX6_sign yX6_sign : Cond) ∈ mx_ws := mx_iw (i := 577) (by decide +kernel) (by decide +kernel)
theorem w_579 : (.methodLinkNest "Suffixhall$Row" 33 yX10_isLetter "Suffixhall" : Cond) ∈ mx_nw := mx_bn (i := 579) (by decide +kernel) rfl
theorem w_580 : (.classLink "Suffixhall" 275 "java/lang/UnsupportedOperationException" : Cond) ∈ mx_ws := mx_iw (i := 580) (by decide +kernel) (by decide +kernel)
theorem w_582 : (.castable "java/lang/UnsupportedOperationException" "java/lang/UnsupportedOperationException" : Cond) ∈ mx_nw := mx_bn (i := 582) (by decide +kernel) rfl
theorem w_596 : (.methodLink "Suffixhall" 84 yX2_hasRoom : Cond) ∈ mx_ws := mx_iw (i := 596) (by decide +kernel) (by decide +kernel)
theorem w_597 : (.instanceMethod yX2_hasRoom : Cond) ∈ mx_ws := mx_iw (i := 597) (by decide +kernel) (by decide +kernel)
theorem w_598 : (.selects "Suffixhall$Hall" yX2_hasRoom yX2_hasRoom : Cond) ∈ mx_ws := mx_iw (i := 598) (by decide +kernel) (by decide +kernel)
theorem w_600 : (.methodLink "Suffixhall$Hall" 58 yX8_many : Cond) ∈ mx_ws := mx_iw (i := 600) (by decide +kernel) (by decide +kernel)
theorem w_602 : (.methodLink "Suffixhall" 90 yX2_takeIn : Cond) ∈ mx_ws := mx_iw (i := 602) (by decide +kernel) (by decide +kernel)
theorem w_603 : (.instanceMethod yX2_takeIn : Cond) ∈ mx_ws := mx_iw (i := 603) (by decide +kernel) (by decide +kernel)
theorem w_604 : (.selects "Suffixhall$Hall" yX2_takeIn yX2_takeIn : Cond) ∈ mx_ws := mx_iw (i := 604) (by decide +kernel) (by decide +kernel)
theorem w_606 : (.methodLink "Suffixhall$Hall" 68 yX8_append : Cond) ∈ mx_ws := mx_iw (i := 606) (by decide +kernel) (by decide +kernel)
theorem w_607 : (.instanceMethod yX8_append : Cond) ∈ mx_ws := mx_iw (i := 607) (by decide +kernel) (by decide +kernel)
theorem w_608 : (.selects "Suffixhall$Texts" yX8_append yX8_append : Cond) ∈ mx_ws := mx_iw (i := 608) (by decide +kernel) (by decide +kernel)
theorem w_610 : (.methodLink "Suffixhall$Texts" 37 yX8_widen : Cond) ∈ mx_ws := mx_iw (i := 610) (by decide +kernel) (by decide +kernel)
theorem w_611 : (.instanceMethod yX8_widen : Cond) ∈ mx_ws := mx_iw (i := 611) (by decide +kernel) (by decide +kernel)
theorem w_612 : (.selects "Suffixhall$Texts" yX8_widen yX8_widen : Cond) ∈ mx_ws := mx_iw (i := 612) (by decide +kernel) (by decide +kernel)
theorem w_614 : (.methodLink "Suffixhall$Texts" 41 yX6_size : Cond) ∈ mx_ws := mx_iw (i := 614) (by decide +kernel) (by decide +kernel)
theorem w_615 : (.methodLink "Suffixhall$Texts" 47 ⟨"java/lang/System", "arraycopy", "(Ljava/lang/Object;ILjava/lang/Object;II)V"⟩ : Cond) ∈ mx_ws := mx_iw (i := 615) (by decide +kernel) (by decide +kernel)
theorem w_616 : (.methodLink "Suffixhall$Texts" 53 yX6_sign : Cond) ∈ mx_ws := mx_iw (i := 616) (by decide +kernel) (by decide +kernel)
theorem w_617 : (.methodLink "Suffixhall$Hall" 72 yX9_forgetOrder : Cond) ∈ mx_ws := mx_iw (i := 617) (by decide +kernel) (by decide +kernel)
theorem w_618 : (.instanceMethod yX9_forgetOrder : Cond) ∈ mx_ws := mx_iw (i := 618) (by decide +kernel) (by decide +kernel)
theorem w_619 : (.selects "Suffixhall$View" yX9_forgetOrder yX9_forgetOrder : Cond) ∈ mx_ws := mx_iw (i := 619) (by decide +kernel) (by decide +kernel)
theorem w_621 : (.methodLink "Suffixhall$Hall" 75 yX7_settle : Cond) ∈ mx_ws := mx_iw (i := 621) (by decide +kernel) (by decide +kernel)
theorem w_622 : (.instanceMethod yX7_settle : Cond) ∈ mx_ws := mx_iw (i := 622) (by decide +kernel) (by decide +kernel)
theorem w_623 : (.selects "Suffixhall$Segments" yX7_settle yX7_settle : Cond) ∈ mx_ws := mx_iw (i := 623) (by decide +kernel) (by decide +kernel)
theorem w_625 : (.methodLink "Suffixhall$Segments" 34 yX7_fill : Cond) ∈ mx_ws := mx_iw (i := 625) (by decide +kernel) (by decide +kernel)
theorem w_627 : (.instanceMethod yX7_fill : Cond) ∈ mx_ws := mx_iw (i := 627) (by decide +kernel) (by decide +kernel)
theorem w_629 : (.methodLink "Suffixhall$Segments" 41 yX7_setHome : Cond) ∈ mx_ws := mx_iw (i := 629) (by decide +kernel) (by decide +kernel)
theorem w_631 : (.instanceMethod yX7_setHome : Cond) ∈ mx_ws := mx_iw (i := 631) (by decide +kernel) (by decide +kernel)
theorem w_633 : (.methodLink "Suffixhall" 78 yX6_empty : Cond) ∈ mx_ws := mx_iw (i := 633) (by decide +kernel) (by decide +kernel)
theorem w_634 : (.instanceMethod yX6_empty : Cond) ∈ mx_ws := mx_iw (i := 634) (by decide +kernel) (by decide +kernel)
theorem w_635 : (.selects "Suffixhall$Row" yX6_empty yX6_empty : Cond) ∈ mx_ws := mx_iw (i := 635) (by decide +kernel) (by decide +kernel)
theorem w_640 : (.classLink "SuffixhallLaw" 31 "java/lang/IndexOutOfBoundsException" : Cond) ∈ mx_ws := mx_iw (i := 640) (by decide +kernel) (by decide +kernel)
theorem w_641 : (.methodLink "SuffixhallLaw" 27 yX10_insert : Cond) ∈ mx_ws := mx_iw (i := 641) (by decide +kernel) (by decide +kernel)
theorem w_642 : (.instanceMethod yX10_insert : Cond) ∈ mx_ws := mx_iw (i := 642) (by decide +kernel) (by decide +kernel)
theorem w_643 : (.selects "Suffixhall" yX10_insert yX10_insert : Cond) ∈ mx_ws := mx_iw (i := 643) (by decide +kernel) (by decide +kernel)
theorem w_645 : (.methodLink "Suffixhall" 98 yX2_present : Cond) ∈ mx_ws := mx_iw (i := 645) (by decide +kernel) (by decide +kernel)
theorem w_646 : (.instanceMethod yX2_present : Cond) ∈ mx_ws := mx_iw (i := 646) (by decide +kernel) (by decide +kernel)
theorem w_647 : (.selects "Suffixhall$Hall" yX2_present yX2_present : Cond) ∈ mx_ws := mx_iw (i := 647) (by decide +kernel) (by decide +kernel)
theorem w_649 : (.methodLink "Suffixhall" 108 yX10_neededSlot : Cond) ∈ mx_ws := mx_iw (i := 649) (by decide +kernel) (by decide +kernel)
theorem w_650 : (.static yX10_neededSlot : Cond) ∈ mx_ws := mx_iw (i := 650) (by decide +kernel) (by decide +kernel)
theorem w_652 : (.methodLink "Suffixhall" 141 yX8_slotOf : Cond) ∈ mx_ws := mx_iw (i := 652) (by decide +kernel) (by decide +kernel)
theorem w_653 : (.instanceMethod yX8_slotOf : Cond) ∈ mx_ws := mx_iw (i := 653) (by decide +kernel) (by decide +kernel)
theorem w_654 : (.selects "Suffixhall$Texts" yX8_slotOf yX8_slotOf : Cond) ∈ mx_ws := mx_iw (i := 654) (by decide +kernel) (by decide +kernel)
theorem w_656 : (.methodLink "Suffixhall$Texts" 26 yX8_numberAt : Cond) ∈ mx_ws := mx_iw (i := 656) (by decide +kernel) (by decide +kernel)
theorem w_658 : (.methodLink "Suffixhall" 112 yX8_sizeAt : Cond) ∈ mx_ws := mx_iw (i := 658) (by decide +kernel) (by decide +kernel)
theorem w_660 : (.methodLink "Suffixhall" 120 yX2_widen : Cond) ∈ mx_ws := mx_iw (i := 660) (by decide +kernel) (by decide +kernel)
theorem w_661 : (.instanceMethod yX2_widen : Cond) ∈ mx_ws := mx_iw (i := 661) (by decide +kernel) (by decide +kernel)
theorem w_662 : (.selects "Suffixhall$Hall" yX2_widen yX2_widen : Cond) ∈ mx_ws := mx_iw (i := 662) (by decide +kernel) (by decide +kernel)
theorem w_664 : (.methodLink "Suffixhall$Hall" 79 yX2_bury : Cond) ∈ mx_ws := mx_iw (i := 664) (by decide +kernel) (by decide +kernel)
theorem w_666 : (.instanceMethod yX2_bury : Cond) ∈ mx_ws := mx_iw (i := 666) (by decide +kernel) (by decide +kernel)
theorem w_668 : (.methodLink "Suffixhall$Hall" 86 yX8_numberAt : Cond) ∈ mx_ws := mx_iw (i := 668) (by decide +kernel) (by decide +kernel)
theorem w_669 : (.methodLink "Suffixhall$Hall" 96 yX8_sizeAt : Cond) ∈ mx_ws := mx_iw (i := 669) (by decide +kernel) (by decide +kernel)
theorem w_670 : (.methodLink "Suffixhall$Hall" 99 yX7_bury : Cond) ∈ mx_ws := mx_iw (i := 670) (by decide +kernel) (by decide +kernel)
theorem w_671 : (.instanceMethod yX7_bury : Cond) ∈ mx_ws := mx_iw (i := 671) (by decide +kernel) (by decide +kernel)
theorem w_672 : (.selects "Suffixhall$Segments" yX7_bury yX7_bury : Cond) ∈ mx_ws := mx_iw (i := 672) (by decide +kernel) (by decide +kernel)
theorem w_674 : (.methodLink "Suffixhall$Hall" 82 yX8_widen : Cond) ∈ mx_ws := mx_iw (i := 674) (by decide +kernel) (by decide +kernel)
theorem w_675 : (.constant "SuffixhallLaw" 33 (Int32.ofInt (-900003)) : Cond) ∈ mx_ws := mx_iw (i := 675) (by decide +kernel) (by decide +kernel)
theorem w_679 : (.methodLink "SuffixhallLaw" 34 yX10_documents : Cond) ∈ mx_ws := mx_iw (i := 679) (by decide +kernel) (by decide +kernel)
theorem w_680 : (.instanceMethod yX10_documents : Cond) ∈ mx_ws := mx_iw (i := 680) (by decide +kernel) (by decide +kernel)
theorem w_681 : (.selects "Suffixhall" yX10_documents yX10_documents : Cond) ∈ mx_ws := mx_iw (i := 681) (by decide +kernel) (by decide +kernel)
theorem w_683 : (.methodLink "Suffixhall" 134 yX8_many : Cond) ∈ mx_ws := mx_iw (i := 683) (by decide +kernel) (by decide +kernel)
theorem w_687 : (.methodLink "SuffixhallLaw" 38 yX10_lengthOf : Cond) ∈ mx_ws := mx_iw (i := 687) (by decide +kernel) (by decide +kernel)
theorem w_688 : (.instanceMethod yX10_lengthOf : Cond) ∈ mx_ws := mx_iw (i := 688) (by decide +kernel) (by decide +kernel)
theorem w_689 : (.selects "Suffixhall" yX10_lengthOf yX10_lengthOf : Cond) ∈ mx_ws := mx_iw (i := 689) (by decide +kernel) (by decide +kernel)
theorem w_694 : (.methodLink "SuffixhallLaw" 41 yX10_snapshot : Cond) ∈ mx_ws := mx_iw (i := 694) (by decide +kernel) (by decide +kernel)
theorem w_695 : (.instanceMethod yX10_snapshot : Cond) ∈ mx_ws := mx_iw (i := 695) (by decide +kernel) (by decide +kernel)
theorem w_696 : (.selects "Suffixhall" yX10_snapshot yX10_snapshot : Cond) ∈ mx_ws := mx_iw (i := 696) (by decide +kernel) (by decide +kernel)
theorem w_698 : (.methodLink "Suffixhall" 152 yX2_canTake : Cond) ∈ mx_ws := mx_iw (i := 698) (by decide +kernel) (by decide +kernel)
theorem w_699 : (.instanceMethod yX2_canTake : Cond) ∈ mx_ws := mx_iw (i := 699) (by decide +kernel) (by decide +kernel)
theorem w_700 : (.selects "Suffixhall$Hall" yX2_canTake yX2_canTake : Cond) ∈ mx_ws := mx_iw (i := 700) (by decide +kernel) (by decide +kernel)
theorem w_702 : (.methodLink "Suffixhall$Hall" 102 yX2_snapshotsKept : Cond) ∈ mx_ws := mx_iw (i := 702) (by decide +kernel) (by decide +kernel)
theorem w_703 : (.instanceMethod yX2_snapshotsKept : Cond) ∈ mx_ws := mx_iw (i := 703) (by decide +kernel) (by decide +kernel)
theorem w_704 : (.selects "Suffixhall$Hall" yX2_snapshotsKept yX2_snapshotsKept : Cond) ∈ mx_ws := mx_iw (i := 704) (by decide +kernel) (by decide +kernel)
theorem w_707 : (.methodLink "Suffixhall" 157 yX2_take : Cond) ∈ mx_ws := mx_iw (i := 707) (by decide +kernel) (by decide +kernel)
theorem w_708 : (.instanceMethod yX2_take : Cond) ∈ mx_ws := mx_iw (i := 708) (by decide +kernel) (by decide +kernel)
theorem w_709 : (.selects "Suffixhall$Hall" yX2_take yX2_take : Cond) ∈ mx_ws := mx_iw (i := 709) (by decide +kernel) (by decide +kernel)
theorem w_711 : (.methodLink "Suffixhall$Hall" 108 yX9_become : Cond) ∈ mx_ws := mx_iw (i := 711) (by decide +kernel) (by decide +kernel)
theorem w_712 : (.instanceMethod yX9_become : Cond) ∈ mx_ws := mx_iw (i := 712) (by decide +kernel) (by decide +kernel)
theorem w_713 : (.selects "Suffixhall$View" yX9_become yX9_become : Cond) ∈ mx_ws := mx_iw (i := 713) (by decide +kernel) (by decide +kernel)
theorem w_715 : (.methodLink "Suffixhall$View" 36 yX8_become : Cond) ∈ mx_ws := mx_iw (i := 715) (by decide +kernel) (by decide +kernel)
theorem w_716 : (.instanceMethod yX8_become : Cond) ∈ mx_ws := mx_iw (i := 716) (by decide +kernel) (by decide +kernel)
theorem w_717 : (.selects "Suffixhall$Texts" yX8_become yX8_become : Cond) ∈ mx_ws := mx_iw (i := 717) (by decide +kernel) (by decide +kernel)
theorem w_719 : (.methodLink "Suffixhall$View" 40 yX9_forgetOrder : Cond) ∈ mx_ws := mx_iw (i := 719) (by decide +kernel) (by decide +kernel)
theorem w_723 : (.classLink "SuffixhallLaw" 48 "java/util/NoSuchElementException" : Cond) ∈ mx_ws := mx_iw (i := 723) (by decide +kernel) (by decide +kernel)
theorem w_724 : (.methodLink "SuffixhallLaw" 44 yX10_suffixAt : Cond) ∈ mx_ws := mx_iw (i := 724) (by decide +kernel) (by decide +kernel)
theorem w_725 : (.instanceMethod yX10_suffixAt : Cond) ∈ mx_ws := mx_iw (i := 725) (by decide +kernel) (by decide +kernel)
theorem w_726 : (.selects "Suffixhall" yX10_suffixAt yX10_suffixAt : Cond) ∈ mx_ws := mx_iw (i := 726) (by decide +kernel) (by decide +kernel)
theorem w_728 : (.methodLink "Suffixhall" 181 yX10_needRank : Cond) ∈ mx_ws := mx_iw (i := 728) (by decide +kernel) (by decide +kernel)
theorem w_729 : (.static yX10_needRank : Cond) ∈ mx_ws := mx_iw (i := 729) (by decide +kernel) (by decide +kernel)
theorem w_732 : (.methodLink "Suffixhall" 185 yX9_slotAt : Cond) ∈ mx_ws := mx_iw (i := 732) (by decide +kernel) (by decide +kernel)
theorem w_733 : (.methodLink "Suffixhall" 188 yX8_numberAt : Cond) ∈ mx_ws := mx_iw (i := 733) (by decide +kernel) (by decide +kernel)
theorem w_734 : (.methodLink "Suffixhall" 191 yX9_placeAt : Cond) ∈ mx_ws := mx_iw (i := 734) (by decide +kernel) (by decide +kernel)
theorem w_735 : (.methodLink "Suffixhall" 194 yX9_commonAt : Cond) ∈ mx_ws := mx_iw (i := 735) (by decide +kernel) (by decide +kernel)
theorem w_736 : (.instanceMethod yX9_commonAt : Cond) ∈ mx_ws := mx_iw (i := 736) (by decide +kernel) (by decide +kernel)
theorem w_737 : (.selects "Suffixhall$View" yX9_commonAt yX9_commonAt : Cond) ∈ mx_ws := mx_iw (i := 737) (by decide +kernel) (by decide +kernel)
theorem w_743 : (.methodLink "SuffixhallLaw" 50 yX10_rankOf : Cond) ∈ mx_ws := mx_iw (i := 743) (by decide +kernel) (by decide +kernel)
theorem w_744 : (.instanceMethod yX10_rankOf : Cond) ∈ mx_ws := mx_iw (i := 744) (by decide +kernel) (by decide +kernel)
theorem w_745 : (.selects "Suffixhall" yX10_rankOf yX10_rankOf : Cond) ∈ mx_ws := mx_iw (i := 745) (by decide +kernel) (by decide +kernel)
theorem w_747 : (.methodLink "Suffixhall" 144 yX10_needPlace : Cond) ∈ mx_ws := mx_iw (i := 747) (by decide +kernel) (by decide +kernel)
theorem w_748 : (.static yX10_needPlace : Cond) ∈ mx_ws := mx_iw (i := 748) (by decide +kernel) (by decide +kernel)
theorem w_751 : (.methodLink "Suffixhall" 199 yX9_rankAt : Cond) ∈ mx_ws := mx_iw (i := 751) (by decide +kernel) (by decide +kernel)
theorem w_755 : (.methodLink "SuffixhallLaw" 54 yX10_turned : Cond) ∈ mx_ws := mx_iw (i := 755) (by decide +kernel) (by decide +kernel)
theorem w_756 : (.instanceMethod yX10_turned : Cond) ∈ mx_ws := mx_iw (i := 756) (by decide +kernel) (by decide +kernel)
theorem w_757 : (.selects "Suffixhall" yX10_turned yX10_turned : Cond) ∈ mx_ws := mx_iw (i := 757) (by decide +kernel) (by decide +kernel)
theorem w_759 : (.methodLink "Suffixhall" 203 yX9_turnedAt : Cond) ∈ mx_ws := mx_iw (i := 759) (by decide +kernel) (by decide +kernel)
theorem w_763 : (.methodLink "SuffixhallLaw" 58 yX10_runs : Cond) ∈ mx_ws := mx_iw (i := 763) (by decide +kernel) (by decide +kernel)
theorem w_764 : (.instanceMethod yX10_runs : Cond) ∈ mx_ws := mx_iw (i := 764) (by decide +kernel) (by decide +kernel)
theorem w_765 : (.selects "Suffixhall" yX10_runs yX10_runs : Cond) ∈ mx_ws := mx_iw (i := 765) (by decide +kernel) (by decide +kernel)
theorem w_770 : (.methodLink "SuffixhallLaw" 61 yX10_ahead : Cond) ∈ mx_ws := mx_iw (i := 770) (by decide +kernel) (by decide +kernel)
theorem w_771 : (.instanceMethod yX10_ahead : Cond) ∈ mx_ws := mx_iw (i := 771) (by decide +kernel) (by decide +kernel)
theorem w_772 : (.selects "Suffixhall" yX10_ahead yX10_ahead : Cond) ∈ mx_ws := mx_iw (i := 772) (by decide +kernel) (by decide +kernel)
theorem w_775 : (.methodLink "Suffixhall" 220 yX9_turnedAhead : Cond) ∈ mx_ws := mx_iw (i := 775) (by decide +kernel) (by decide +kernel)
theorem w_776 : (.instanceMethod yX9_turnedAhead : Cond) ∈ mx_ws := mx_iw (i := 776) (by decide +kernel) (by decide +kernel)
theorem w_777 : (.selects "Suffixhall$View" yX9_turnedAhead yX9_turnedAhead : Cond) ∈ mx_ws := mx_iw (i := 777) (by decide +kernel) (by decide +kernel)
theorem w_782 : (.methodLink "SuffixhallLaw" 65 yX10_count : Cond) ∈ mx_ws := mx_iw (i := 782) (by decide +kernel) (by decide +kernel)
theorem w_783 : (.instanceMethod yX10_count : Cond) ∈ mx_ws := mx_iw (i := 783) (by decide +kernel) (by decide +kernel)
theorem w_784 : (.selects "Suffixhall" yX10_count yX10_count : Cond) ∈ mx_ws := mx_iw (i := 784) (by decide +kernel) (by decide +kernel)
theorem w_786 : (.methodLink "Suffixhall" 230 yX10_needSimpleRow : Cond) ∈ mx_ws := mx_iw (i := 786) (by decide +kernel) (by decide +kernel)
theorem w_788 : (.instanceMethod yX10_needSimpleRow : Cond) ∈ mx_ws := mx_iw (i := 788) (by decide +kernel) (by decide +kernel)
theorem w_790 : (.methodLink "Suffixhall" 407 yX6_isSimple : Cond) ∈ mx_ws := mx_iw (i := 790) (by decide +kernel) (by decide +kernel)
theorem w_791 : (.instanceMethod yX6_isSimple : Cond) ∈ mx_ws := mx_iw (i := 791) (by decide +kernel) (by decide +kernel)
theorem w_792 : (.selects "Suffixhall$Row" yX6_isSimple yX6_isSimple : Cond) ∈ mx_ws := mx_iw (i := 792) (by decide +kernel) (by decide +kernel)
theorem w_795 : (.methodLink "Suffixhall" 233 yX8_timesOf : Cond) ∈ mx_ws := mx_iw (i := 795) (by decide +kernel) (by decide +kernel)
theorem w_796 : (.instanceMethod yX8_timesOf : Cond) ∈ mx_ws := mx_iw (i := 796) (by decide +kernel) (by decide +kernel)
theorem w_797 : (.selects "Suffixhall$Texts" yX8_timesOf yX8_timesOf : Cond) ∈ mx_ws := mx_iw (i := 797) (by decide +kernel) (by decide +kernel)
theorem w_799 : (.methodLink "Suffixhall$Texts" 73 yX8_placesOf : Cond) ∈ mx_ws := mx_iw (i := 799) (by decide +kernel) (by decide +kernel)
theorem w_800 : (.instanceMethod yX8_placesOf : Cond) ∈ mx_ws := mx_iw (i := 800) (by decide +kernel) (by decide +kernel)
theorem w_801 : (.selects "Suffixhall$Texts" yX8_placesOf yX8_placesOf : Cond) ∈ mx_ws := mx_iw (i := 801) (by decide +kernel) (by decide +kernel)
theorem w_803 : (.methodLink "Suffixhall$Texts" 65 yX8_allPlaces : Cond) ∈ mx_ws := mx_iw (i := 803) (by decide +kernel) (by decide +kernel)
theorem w_805 : (.instanceMethod yX8_allPlaces : Cond) ∈ mx_ws := mx_iw (i := 805) (by decide +kernel) (by decide +kernel)
theorem w_807 : (.methodLink "Suffixhall$Texts" 69 yX8_placesTaking : Cond) ∈ mx_ws := mx_iw (i := 807) (by decide +kernel) (by decide +kernel)
theorem w_809 : (.instanceMethod yX8_placesTaking : Cond) ∈ mx_ws := mx_iw (i := 809) (by decide +kernel) (by decide +kernel)
theorem w_811 : (.methodLink "Suffixhall$Texts" 77 yJ13_bitCount_95d88 : Cond) ∈ mx_ws := mx_iw (i := 811) (by decide +kernel) (by decide +kernel)
theorem w_812 : (.static yJ13_bitCount_95d88 : Cond) ∈ mx_ws := mx_iw (i := 812) (by decide +kernel) (by decide +kernel)
theorem w_814 : (.constantLong "java/lang/Long" 314 (Int64.ofInt (6148914691236517205)) : Cond) ∈ mx_ws := mx_iw (i := 814) (by decide +kernel) (by decide +kernel)
theorem w_815 : (.constantLong "java/lang/Long" 316 (Int64.ofInt (3689348814741910323)) : Cond) ∈ mx_ws := mx_iw (i := 815) (by decide +kernel) (by decide +kernel)
theorem w_816 : (.constantLong "java/lang/Long" 318 (Int64.ofInt (1085102592571150095)) : Cond) ∈ mx_ws := mx_iw (i := 816) (by decide +kernel) (by decide +kernel)
theorem w_820 : (.methodLink "SuffixhallLaw" 68 yX10_interval : Cond) ∈ mx_ws := mx_iw (i := 820) (by decide +kernel) (by decide +kernel)
theorem w_821 : (.instanceMethod yX10_interval : Cond) ∈ mx_ws := mx_iw (i := 821) (by decide +kernel) (by decide +kernel)
theorem w_822 : (.selects "Suffixhall" yX10_interval yX10_interval : Cond) ∈ mx_ws := mx_iw (i := 822) (by decide +kernel) (by decide +kernel)
theorem w_825 : (.methodLink "Suffixhall" 226 yX9_boundOf : Cond) ∈ mx_ws := mx_iw (i := 825) (by decide +kernel) (by decide +kernel)
theorem w_826 : (.instanceMethod yX9_boundOf : Cond) ∈ mx_ws := mx_iw (i := 826) (by decide +kernel) (by decide +kernel)
theorem w_827 : (.selects "Suffixhall$View" yX9_boundOf yX9_boundOf : Cond) ∈ mx_ws := mx_iw (i := 827) (by decide +kernel) (by decide +kernel)
theorem w_829 : (.methodLink "Suffixhall$View" 87 yX8_compareToRow : Cond) ∈ mx_ws := mx_iw (i := 829) (by decide +kernel) (by decide +kernel)
theorem w_830 : (.instanceMethod yX8_compareToRow : Cond) ∈ mx_ws := mx_iw (i := 830) (by decide +kernel) (by decide +kernel)
theorem w_831 : (.selects "Suffixhall$Texts" yX8_compareToRow yX8_compareToRow : Cond) ∈ mx_ws := mx_iw (i := 831) (by decide +kernel) (by decide +kernel)
theorem w_836 : (.methodLink "SuffixhallLaw" 72 yX10_found : Cond) ∈ mx_ws := mx_iw (i := 836) (by decide +kernel) (by decide +kernel)
theorem w_837 : (.instanceMethod yX10_found : Cond) ∈ mx_ws := mx_iw (i := 837) (by decide +kernel) (by decide +kernel)
theorem w_838 : (.selects "Suffixhall" yX10_found yX10_found : Cond) ∈ mx_ws := mx_iw (i := 838) (by decide +kernel) (by decide +kernel)
theorem w_840 : (.methodLink "Suffixhall" 236 yX8_placesOf : Cond) ∈ mx_ws := mx_iw (i := 840) (by decide +kernel) (by decide +kernel)
theorem w_841 : (.methodLink "Suffixhall" 240 yJ13_bitCount_95d88 : Cond) ∈ mx_ws := mx_iw (i := 841) (by decide +kernel) (by decide +kernel)
theorem w_842 : (.methodLink "Suffixhall" 246 yX10_placeOfBit : Cond) ∈ mx_ws := mx_iw (i := 842) (by decide +kernel) (by decide +kernel)
theorem w_843 : (.static yX10_placeOfBit : Cond) ∈ mx_ws := mx_iw (i := 843) (by decide +kernel) (by decide +kernel)
theorem w_846 : (.methodLink "SuffixhallLaw" 85 yL_in : Cond) ∈ mx_ws := mx_iw (i := 846) (by decide +kernel) (by decide +kernel)
theorem w_847 : (.static yL_in : Cond) ∈ mx_ws := mx_iw (i := 847) (by decide +kernel) (by decide +kernel)
theorem w_849 : (.methodLink "SuffixhallLaw" 75 yL_cell : Cond) ∈ mx_ws := mx_iw (i := 849) (by decide +kernel) (by decide +kernel)
theorem w_850 : (.static yL_cell : Cond) ∈ mx_ws := mx_iw (i := 850) (by decide +kernel) (by decide +kernel)
theorem w_852 : (.constant "SuffixhallLaw" 7 (Int32.ofInt (69069)) : Cond) ∈ mx_ws := mx_iw (i := 852) (by decide +kernel) (by decide +kernel)
theorem w_853 : (.constant "SuffixhallLaw" 8 (Int32.ofInt (1103515245)) : Cond) ∈ mx_ws := mx_iw (i := 853) (by decide +kernel) (by decide +kernel)
theorem w_854 : (.constant "SuffixhallLaw" 81 (Int32.ofInt (2147483647)) : Cond) ∈ mx_ws := mx_iw (i := 854) (by decide +kernel) (by decide +kernel)
theorem w_858 : (.methodLink "SuffixhallLaw" 82 yX10_wipe : Cond) ∈ mx_ws := mx_iw (i := 858) (by decide +kernel) (by decide +kernel)
theorem w_859 : (.instanceMethod yX10_wipe : Cond) ∈ mx_ws := mx_iw (i := 859) (by decide +kernel) (by decide +kernel)
theorem w_860 : (.selects "Suffixhall" yX10_wipe yX10_wipe : Cond) ∈ mx_ws := mx_iw (i := 860) (by decide +kernel) (by decide +kernel)
theorem wc_Y6_init : mx_cw Y6_init ∈ mx_ws := mx_iw (i := 53) (by decide +kernel) (by decide +kernel)
theorem wc_Y8_init : mx_cw Y8_init ∈ mx_ws := mx_iw (i := 79) (by decide +kernel) (by decide +kernel)
theorem wc_YJ7_fill_53178 : mx_cw YJ7_fill_53178 ∈ mx_ws := mx_iw (i := 123) (by decide +kernel) (by decide +kernel)
theorem wc_Y9_init : mx_cw Y9_init ∈ mx_ws := mx_iw (i := 73) (by decide +kernel) (by decide +kernel)
theorem wc_Y7_init : mx_cw Y7_init ∈ mx_ws := mx_iw (i := 119) (by decide +kernel) (by decide +kernel)
theorem wc_Y0_init : mx_cw Y0_init ∈ mx_ws := mx_iw (i := 144) (by decide +kernel) (by decide +kernel)
theorem wc_Y2_shelfOf : mx_cw Y2_shelfOf ∈ mx_ws := mx_iw (i := 301) (by decide +kernel) (by decide +kernel)
theorem wc_Y2_shelf : mx_cw Y2_shelf ∈ mx_ws := mx_iw (i := 305) (by decide +kernel) (by decide +kernel)
theorem wc_Y9_texts : mx_cw Y9_texts ∈ mx_ws := mx_iw (i := 427) (by decide +kernel) (by decide +kernel)
theorem wc_Y8_many : mx_cw Y8_many ∈ mx_ws := mx_iw (i := 383) (by decide +kernel) (by decide +kernel)
theorem wc_Y8_isSlot : mx_cw Y8_isSlot ∈ mx_ws := mx_iw (i := 391) (by decide +kernel) (by decide +kernel)
theorem wc_Y8_sizeAt : mx_cw Y8_sizeAt ∈ mx_ws := mx_iw (i := 387) (by decide +kernel) (by decide +kernel)
theorem wc_Y6_size : mx_cw Y6_size ∈ mx_ws := mx_iw (i := 536) (by decide +kernel) (by decide +kernel)
theorem wc_Y6_sign : mx_cw Y6_sign ∈ mx_ws := mx_iw (i := 578) (by decide +kernel) (by decide +kernel)
theorem wc_Y8_widen : mx_cw Y8_widen ∈ mx_ws := mx_iw (i := 613) (by decide +kernel) (by decide +kernel)
theorem wc_Y7_isSegment : mx_cw Y7_isSegment ∈ mx_ws := mx_iw (i := 492) (by decide +kernel) (by decide +kernel)
theorem wc_Y7_fill : mx_cw Y7_fill ∈ mx_ws := mx_iw (i := 628) (by decide +kernel) (by decide +kernel)
theorem wc_Y7_setHome : mx_cw Y7_setHome ∈ mx_ws := mx_iw (i := 632) (by decide +kernel) (by decide +kernel)
theorem wc_Y8_append : mx_cw Y8_append ∈ mx_ws := mx_iw (i := 609) (by decide +kernel) (by decide +kernel)
theorem wc_Y9_forgetOrder : mx_cw Y9_forgetOrder ∈ mx_ws := mx_iw (i := 620) (by decide +kernel) (by decide +kernel)
theorem wc_Y7_settle : mx_cw Y7_settle ∈ mx_ws := mx_iw (i := 624) (by decide +kernel) (by decide +kernel)
theorem wc_Y7_homeOf : mx_cw Y7_homeOf ∈ mx_ws := mx_iw (i := 501) (by decide +kernel) (by decide +kernel)
theorem wc_Y8_numberAt : mx_cw Y8_numberAt ∈ mx_ws := mx_iw (i := 497) (by decide +kernel) (by decide +kernel)
theorem wc_Y7_bury : mx_cw Y7_bury ∈ mx_ws := mx_iw (i := 673) (by decide +kernel) (by decide +kernel)
theorem wc_Y2_bury : mx_cw Y2_bury ∈ mx_ws := mx_iw (i := 667) (by decide +kernel) (by decide +kernel)
theorem wc_Y2_snapshotsKept : mx_cw Y2_snapshotsKept ∈ mx_ws := mx_iw (i := 705) (by decide +kernel) (by decide +kernel)
theorem wc_Y8_become : mx_cw Y8_become ∈ mx_ws := mx_iw (i := 718) (by decide +kernel) (by decide +kernel)
theorem wc_Y9_become : mx_cw Y9_become ∈ mx_ws := mx_iw (i := 714) (by decide +kernel) (by decide +kernel)
theorem wc_Y8_letter : mx_cw Y8_letter ∈ mx_ws := mx_iw (i := 407) (by decide +kernel) (by decide +kernel)
theorem wc_Y8_shared : mx_cw Y8_shared ∈ mx_ws := mx_iw (i := 403) (by decide +kernel) (by decide +kernel)
theorem wc_Y8_compare : mx_cw Y8_compare ∈ mx_ws := mx_iw (i := 399) (by decide +kernel) (by decide +kernel)
theorem wc_Y9_codeAt : mx_cw Y9_codeAt ∈ mx_ws := mx_iw (i := 418) (by decide +kernel) (by decide +kernel)
theorem wc_Y9_putIn : mx_cw Y9_putIn ∈ mx_ws := mx_iw (i := 395) (by decide +kernel) (by decide +kernel)
theorem wc_Y9_slotAt : mx_cw Y9_slotAt ∈ mx_ws := mx_iw (i := 414) (by decide +kernel) (by decide +kernel)
theorem wc_Y9_placeAt : mx_cw Y9_placeAt ∈ mx_ws := mx_iw (i := 422) (by decide +kernel) (by decide +kernel)
theorem wc_Y9_putInOrder : mx_cw Y9_putInOrder ∈ mx_ws := mx_iw (i := 379) (by decide +kernel) (by decide +kernel)
theorem wc_Y8_places : mx_cw Y8_places ∈ mx_ws := mx_iw (i := 431) (by decide +kernel) (by decide +kernel)
theorem wc_Y9_rankAt : mx_cw Y9_rankAt ∈ mx_ws := mx_iw (i := 475) (by decide +kernel) (by decide +kernel)
theorem wc_Y9_isRising : mx_cw Y9_isRising ∈ mx_ws := mx_iw (i := 479) (by decide +kernel) (by decide +kernel)
theorem wc_Y9_turnedAt : mx_cw Y9_turnedAt ∈ mx_ws := mx_iw (i := 457) (by decide +kernel) (by decide +kernel)
theorem wc_Y7_livingAt : mx_cw Y7_livingAt ∈ mx_ws := mx_iw (i := 488) (by decide +kernel) (by decide +kernel)
theorem wc_Y9_isInOrder : mx_cw Y9_isInOrder ∈ mx_ws := mx_iw (i := 470) (by decide +kernel) (by decide +kernel)
theorem wc_Y7_houses : mx_cw Y7_houses ∈ mx_ws := mx_iw (i := 484) (by decide +kernel) (by decide +kernel)
theorem wc_Y10_isLetter : mx_cw Y10_isLetter ∈ mx_ws := mx_iw (i := 516) (by decide +kernel) (by decide +kernel)
theorem wc_Y8_allPlaces : mx_cw Y8_allPlaces ∈ mx_ws := mx_iw (i := 806) (by decide +kernel) (by decide +kernel)
theorem wc_Y8_placesTaking : mx_cw Y8_placesTaking ∈ mx_ws := mx_iw (i := 810) (by decide +kernel) (by decide +kernel)
theorem wc_Y8_placesOf : mx_cw Y8_placesOf ∈ mx_ws := mx_iw (i := 802) (by decide +kernel) (by decide +kernel)
theorem wc_YJ13_bitCount_95d88 : mx_cw YJ13_bitCount_95d88 ∈ mx_ws := mx_iw (i := 813) (by decide +kernel) (by decide +kernel)
theorem wc_Y8_compareToRow : mx_cw Y8_compareToRow ∈ mx_ws := mx_iw (i := 832) (by decide +kernel) (by decide +kernel)
theorem wc_Y2_init : mx_cw Y2_init ∈ mx_ws := mx_iw (i := 67) (by decide +kernel) (by decide +kernel)
theorem wc_Y5_init : mx_cw Y5_init ∈ mx_ws := mx_iw (i := 182) (by decide +kernel) (by decide +kernel)
theorem wc_Y1_init : mx_cw Y1_init ∈ mx_ws := mx_iw (i := 203) (by decide +kernel) (by decide +kernel)
theorem wc_Y4_init : mx_cw Y4_init ∈ mx_ws := mx_iw (i := 225) (by decide +kernel) (by decide +kernel)
theorem wc_Y3_init : mx_cw Y3_init ∈ mx_ws := mx_iw (i := 247) (by decide +kernel) (by decide +kernel)
theorem wc_Y10_isSign : mx_cw Y10_isSign ∈ mx_ws := mx_iw (i := 513) (by decide +kernel) (by decide +kernel)
theorem wc_Y6_append : mx_cw Y6_append ∈ mx_ws := mx_iw (i := 556) (by decide +kernel) (by decide +kernel)
theorem wc_Y6_empty : mx_cw Y6_empty ∈ mx_ws := mx_iw (i := 636) (by decide +kernel) (by decide +kernel)
theorem wc_Y6_isPlain : mx_cw Y6_isPlain ∈ mx_ws := mx_iw (i := 574) (by decide +kernel) (by decide +kernel)
theorem wc_Y10_needPlainRow : mx_cw Y10_needPlainRow ∈ mx_ws := mx_iw (i := 570) (by decide +kernel) (by decide +kernel)
theorem wc_Y2_hasRoom : mx_cw Y2_hasRoom ∈ mx_ws := mx_iw (i := 599) (by decide +kernel) (by decide +kernel)
theorem wc_Y2_takeIn : mx_cw Y2_takeIn ∈ mx_ws := mx_iw (i := 605) (by decide +kernel) (by decide +kernel)
theorem wc_Y8_slotOf : mx_cw Y8_slotOf ∈ mx_ws := mx_iw (i := 655) (by decide +kernel) (by decide +kernel)
theorem wc_Y2_present : mx_cw Y2_present ∈ mx_ws := mx_iw (i := 648) (by decide +kernel) (by decide +kernel)
theorem wc_Y10_neededSlot : mx_cw Y10_neededSlot ∈ mx_ws := mx_iw (i := 651) (by decide +kernel) (by decide +kernel)
theorem wc_Y2_widen : mx_cw Y2_widen ∈ mx_ws := mx_iw (i := 663) (by decide +kernel) (by decide +kernel)
theorem wc_Y2_viewOf : mx_cw Y2_viewOf ∈ mx_ws := mx_iw (i := 297) (by decide +kernel) (by decide +kernel)
theorem wc_Y10_neededView : mx_cw Y10_neededView ∈ mx_ws := mx_iw (i := 293) (by decide +kernel) (by decide +kernel)
theorem wc_Y2_canTake : mx_cw Y2_canTake ∈ mx_ws := mx_iw (i := 701) (by decide +kernel) (by decide +kernel)
theorem wc_Y2_take : mx_cw Y2_take ∈ mx_ws := mx_iw (i := 710) (by decide +kernel) (by decide +kernel)
theorem wc_Y10_orderedView : mx_cw Y10_orderedView ∈ mx_ws := mx_iw (i := 289) (by decide +kernel) (by decide +kernel)
theorem wc_Y10_needRank : mx_cw Y10_needRank ∈ mx_ws := mx_iw (i := 730) (by decide +kernel) (by decide +kernel)
theorem wc_Y9_commonAt : mx_cw Y9_commonAt ∈ mx_ws := mx_iw (i := 738) (by decide +kernel) (by decide +kernel)
theorem wc_Y10_needPlace : mx_cw Y10_needPlace ∈ mx_ws := mx_iw (i := 749) (by decide +kernel) (by decide +kernel)
theorem wc_Y9_runsOfTurned : mx_cw Y9_runsOfTurned ∈ mx_ws := mx_iw (i := 452) (by decide +kernel) (by decide +kernel)
theorem wc_Y9_turnedAhead : mx_cw Y9_turnedAhead ∈ mx_ws := mx_iw (i := 778) (by decide +kernel) (by decide +kernel)
theorem wc_Y9_boundOf : mx_cw Y9_boundOf ∈ mx_ws := mx_iw (i := 828) (by decide +kernel) (by decide +kernel)
theorem wc_Y6_isSimple : mx_cw Y6_isSimple ∈ mx_ws := mx_iw (i := 793) (by decide +kernel) (by decide +kernel)
theorem wc_Y10_needSimpleRow : mx_cw Y10_needSimpleRow ∈ mx_ws := mx_iw (i := 789) (by decide +kernel) (by decide +kernel)
theorem wc_Y8_timesOf : mx_cw Y8_timesOf ∈ mx_ws := mx_iw (i := 798) (by decide +kernel) (by decide +kernel)
theorem wc_Y10_placeOfBit : mx_cw Y10_placeOfBit ∈ mx_ws := mx_iw (i := 844) (by decide +kernel) (by decide +kernel)
theorem wc_Y2_isWhole : mx_cw Y2_isWhole ∈ mx_ws := mx_iw (i := 466) (by decide +kernel) (by decide +kernel)
theorem wc_Y10_type : mx_cw Y10_type ∈ mx_ws := mx_iw (i := 510) (by decide +kernel) (by decide +kernel)
theorem wc_Y10_add : mx_cw Y10_add ∈ mx_ws := mx_iw (i := 566) (by decide +kernel) (by decide +kernel)
theorem wc_Y10_insert : mx_cw Y10_insert ∈ mx_ws := mx_iw (i := 644) (by decide +kernel) (by decide +kernel)
theorem wc_Y10_documents : mx_cw Y10_documents ∈ mx_ws := mx_iw (i := 682) (by decide +kernel) (by decide +kernel)
theorem wc_Y10_lengthOf : mx_cw Y10_lengthOf ∈ mx_ws := mx_iw (i := 690) (by decide +kernel) (by decide +kernel)
theorem wc_Y10_snapshot : mx_cw Y10_snapshot ∈ mx_ws := mx_iw (i := 697) (by decide +kernel) (by decide +kernel)
theorem wc_Y10_suffixAt : mx_cw Y10_suffixAt ∈ mx_ws := mx_iw (i := 727) (by decide +kernel) (by decide +kernel)
theorem wc_Y10_rankOf : mx_cw Y10_rankOf ∈ mx_ws := mx_iw (i := 746) (by decide +kernel) (by decide +kernel)
theorem wc_Y10_turned : mx_cw Y10_turned ∈ mx_ws := mx_iw (i := 758) (by decide +kernel) (by decide +kernel)
theorem wc_Y10_runs : mx_cw Y10_runs ∈ mx_ws := mx_iw (i := 766) (by decide +kernel) (by decide +kernel)
theorem wc_Y10_ahead : mx_cw Y10_ahead ∈ mx_ws := mx_iw (i := 773) (by decide +kernel) (by decide +kernel)
theorem wc_Y10_count : mx_cw Y10_count ∈ mx_ws := mx_iw (i := 785) (by decide +kernel) (by decide +kernel)
theorem wc_Y10_interval : mx_cw Y10_interval ∈ mx_ws := mx_iw (i := 823) (by decide +kernel) (by decide +kernel)
theorem wc_Y10_found : mx_cw Y10_found ∈ mx_ws := mx_iw (i := 839) (by decide +kernel) (by decide +kernel)
theorem wc_YL_cell : mx_cw YL_cell ∈ mx_ws := mx_iw (i := 851) (by decide +kernel) (by decide +kernel)
theorem wc_Y10_wipe : mx_cw Y10_wipe ∈ mx_ws := mx_iw (i := 861) (by decide +kernel) (by decide +kernel)
theorem wc_YL_in : mx_cw YL_in ∈ mx_ws := mx_iw (i := 848) (by decide +kernel) (by decide +kernel)
theorem wc_YL_type : mx_cw YL_type ∈ mx_ws := mx_iw (i := 504) (by decide +kernel) (by decide +kernel)
theorem w_objcode : Cond.code Lib.objectInit ⟨#[0xb1]⟩ 1 none ∈ mx_ws := mx_iw (i := 48) (by decide +kernel) (by decide +kernel)
theorem u_0 : ∀ w ∈ u_ws RX0 TX0 2, w ∈ mx_ws := mx_uin [150, 152] (by decide +kernel) (by decide +kernel)
theorem u_1 : ∀ w ∈ u_ws RX1 TX1 5, w ∈ mx_ws := mx_uin [210, 212, 214, 216, 218] (by decide +kernel) (by decide +kernel)
theorem u_2 : ∀ w ∈ u_ws RX2 TX2 7, w ∈ mx_ws := mx_uin [163, 165, 167, 169, 171, 173, 175] (by decide +kernel) (by decide +kernel)
theorem u_3 : ∀ w ∈ u_ws RX3 TX3 3, w ∈ mx_ws := mx_uin [250, 252, 254] (by decide +kernel) (by decide +kernel)
theorem u_4 : ∀ w ∈ u_ws RX4 TX4 6, w ∈ mx_ws := mx_uin [230, 232, 234, 236, 238, 240] (by decide +kernel) (by decide +kernel)
theorem u_5 : ∀ w ∈ u_ws RX5 TX5 6, w ∈ mx_ws := mx_uin [186, 188, 190, 192, 194, 196] (by decide +kernel) (by decide +kernel)
theorem u_6 : ∀ w ∈ u_ws RX6 TX6 2, w ∈ mx_ws := mx_uin [57, 59] (by decide +kernel) (by decide +kernel)
theorem u_7 : ∀ w ∈ u_ws RX7 TX7 5, w ∈ mx_ws := mx_uin [129, 131, 133, 135, 137] (by decide +kernel) (by decide +kernel)
theorem u_8 : ∀ w ∈ u_ws RX8 TX8 4, w ∈ mx_ws := mx_uin [85, 87, 89, 91] (by decide +kernel) (by decide +kernel)
theorem u_9 : ∀ w ∈ u_ws RX9 TX9 6, w ∈ mx_ws := mx_uin [101, 103, 105, 107, 109, 111] (by decide +kernel) (by decide +kernel)
theorem u_10 : ∀ w ∈ u_ws RX10 TX10 8, w ∈ mx_ws := mx_uin [265, 267, 269, 271, 273, 275, 277, 279] (by decide +kernel) (by decide +kernel)
theorem at_RX10_73 : ∀ w ∈ mx_atX RX10 73 "java/lang/IllegalStateException" 7 prog_20_method_2_code mx_nms, w ∈ mx_ws ∨ w ∈ mx_nw := mx_atS (by decide +kernel)
theorem at_RX10_62 : ∀ w ∈ mx_atX RX10 62 "java/lang/IllegalArgumentException" 7 prog_19_method_2_code mx_nms, w ∈ mx_ws ∨ w ∈ mx_nw := mx_atS (by decide +kernel)
theorem at_RX10_279 : ∀ w ∈ mx_atX RX10 279 "java/lang/UnsupportedOperationException" 7 prog_27_method_2_code mx_nms, w ∈ mx_ws ∨ w ∈ mx_nw := mx_atS (by decide +kernel)
theorem at_RX10_167 : ∀ w ∈ mx_atX RX10 167 "java/lang/IndexOutOfBoundsException" 7 prog_21_method_2_code mx_nms, w ∈ mx_ws ∨ w ∈ mx_nw := mx_atS (by decide +kernel)
theorem at_RX10_254 : ∀ w ∈ mx_atX RX10 254 "java/util/NoSuchElementException" 13 prog_29_method_4_code mx_nms, w ∈ mx_ws ∨ w ∈ mx_nw := mx_atS (by decide +kernel)
theorem pf_Y6_init_9 : mx_pf Y6_init 9 6 0 (.array .char) := ⟨_, _, _, _, rfl, by decide, u_6, w_55, tyX6_ok, nmX6, by decide +kernel, Or.inr ⟨rfl, rfl, rfl⟩⟩
theorem pf_Y0_init_11 : mx_pf Y0_init 11 0 0 (.array (.object "Suffixhall$Row")) := ⟨_, _, _, _, rfl, by decide, u_0, w_149, tyX0_ok, nmX0, by decide +kernel, Or.inr ⟨rfl, rfl, rfl⟩⟩
theorem nf_Y0_init_9 : mx_nf Y0_init 9 6 [mN, mI 0] := ⟨_, _, _, _, rfl, rfl, u_6, tyX6_ok, w_146, w_50, w_20, by decide +kernel, mx_okl (by simp [mx_ok])⟩
theorem k_Y0_init_17 : mx_kIN Y0_init Y6_init 17 0 := ⟨⟨wc_Y6_init, w_20, ⟨by decide, by decide⟩, by decide +kernel, by decide, by decide⟩, rfl, ⟨_, w_148⟩, w_52, rfl, rfl⟩
theorem lf_Y0_init_11 : mx_lf Y0_init 11 0 0 := ⟨_, _, _, rfl, by decide, u_0, w_149⟩
theorem pf_Y1_init_20 : mx_pf Y1_init 20 1 2 (.array (.array .int)) := ⟨_, _, _, _, rfl, by decide, u_1, w_209, tyX1_ok, nmX1, by decide +kernel, Or.inr ⟨rfl, rfl, rfl⟩⟩
theorem pf_Y1_init_15 : mx_pf Y1_init 15 1 1 (.array .char) := ⟨_, _, _, _, rfl, by decide, u_1, w_208, tyX1_ok, nmX1, by decide +kernel, Or.inr ⟨rfl, rfl, rfl⟩⟩
theorem pf_Y1_init_9 : mx_pf Y1_init 9 1 0 (.array .char) := ⟨_, _, _, _, rfl, by decide, u_1, w_207, tyX1_ok, nmX1, by decide +kernel, Or.inr ⟨rfl, rfl, rfl⟩⟩
theorem pf_Y8_init_18 : mx_pf Y8_init 18 8 2 (.array .char) := ⟨_, _, _, _, rfl, by decide, u_8, w_83, tyX8_ok, nmX8, by decide +kernel, Or.inr ⟨rfl, rfl, rfl⟩⟩
theorem pf_Y8_init_15 : mx_pf Y8_init 15 8 1 (.array .int) := ⟨_, _, _, _, rfl, by decide, u_8, w_82, tyX8_ok, nmX8, by decide +kernel, Or.inr ⟨rfl, rfl, rfl⟩⟩
theorem pf_Y8_init_9 : mx_pf Y8_init 9 8 0 (.array .int) := ⟨_, _, _, _, rfl, by decide, u_8, w_81, tyX8_ok, nmX8, by decide +kernel, Or.inr ⟨rfl, rfl, rfl⟩⟩
theorem nf_Y9_init_9 : mx_nf Y9_init 9 8 [mN, mN, mN, mI 0] := ⟨_, _, _, _, rfl, rfl, u_8, tyX8_ok, w_75, w_76, w_23, by decide +kernel, mx_okl (by simp [mx_ok])⟩
theorem k_Y9_init_11 : mx_kIN Y9_init Y8_init 11 0 := ⟨⟨wc_Y8_init, w_23, ⟨by decide, by decide⟩, by decide +kernel, by decide, by decide⟩, rfl, ⟨_, w_77⟩, w_78, rfl, rfl⟩
theorem pf_Y9_init_25 : mx_pf Y9_init 25 9 3 (.array .int) := ⟨_, _, _, _, rfl, by decide, u_9, w_98, tyX9_ok, nmX9, by decide +kernel, Or.inr ⟨rfl, rfl, rfl⟩⟩
theorem pf_Y9_init_22 : mx_pf Y9_init 22 9 2 (.array .int) := ⟨_, _, _, _, rfl, by decide, u_9, w_97, tyX9_ok, nmX9, by decide +kernel, Or.inr ⟨rfl, rfl, rfl⟩⟩
theorem pf_Y9_init_18 : mx_pf Y9_init 18 9 1 (.array .int) := ⟨_, _, _, _, rfl, by decide, u_9, w_96, tyX9_ok, nmX9, by decide +kernel, Or.inr ⟨rfl, rfl, rfl⟩⟩
theorem pf_Y9_init_12 : mx_pf Y9_init 12 9 0 (.object "Suffixhall$Texts") := ⟨_, _, _, _, rfl, by decide, u_9, w_95, tyX9_ok, nmX9, by decide +kernel, Or.inr ⟨rfl, rfl, rfl⟩⟩
theorem k_Y7_init_24 : mx_kS Y7_init YJ7_fill_53178 24 2 := ⟨⟨wc_YJ7_fill_53178, w_25, ⟨by decide, by decide⟩, by decide +kernel, by decide, by decide⟩, rfl, w_121, w_122⟩
theorem lf_Y7_init_21 : mx_lf Y7_init 21 7 3 := ⟨_, _, _, rfl, by decide, u_7, w_127⟩
theorem pf_Y7_init_21 : mx_pf Y7_init 21 7 3 (.array .int) := ⟨_, _, _, _, rfl, by decide, u_7, w_127, tyX7_ok, nmX7, by decide +kernel, Or.inr ⟨rfl, rfl, rfl⟩⟩
theorem pf_Y7_init_18 : mx_pf Y7_init 18 7 2 (.array .int) := ⟨_, _, _, _, rfl, by decide, u_7, w_126, tyX7_ok, nmX7, by decide +kernel, Or.inr ⟨rfl, rfl, rfl⟩⟩
theorem pf_Y7_init_15 : mx_pf Y7_init 15 7 1 (.array .int) := ⟨_, _, _, _, rfl, by decide, u_7, w_125, tyX7_ok, nmX7, by decide +kernel, Or.inr ⟨rfl, rfl, rfl⟩⟩
theorem pf_Y7_init_9 : mx_pf Y7_init 9 7 0 (.array .int) := ⟨_, _, _, _, rfl, by decide, u_7, w_124, tyX7_ok, nmX7, by decide +kernel, Or.inr ⟨rfl, rfl, rfl⟩⟩
theorem nf_Y2_init_9 : mx_nf Y2_init 9 9 [mN, mN, mN, mN, mI 0, mI 0] := ⟨_, _, _, _, rfl, rfl, u_9, tyX9_ok, w_69, w_70, w_22, by decide +kernel, mx_okl (by simp [mx_ok])⟩
theorem k_Y2_init_11 : mx_kIN Y2_init Y9_init 11 0 := ⟨⟨wc_Y9_init, w_22, ⟨by decide, by decide⟩, by decide +kernel, by decide, by decide⟩, rfl, ⟨_, w_71⟩, w_72, rfl, rfl⟩
theorem nf_Y2_init_26 : mx_nf Y2_init 26 7 [mN, mN, mN, mN, mI 0] := ⟨_, _, _, _, rfl, rfl, u_7, tyX7_ok, w_115, w_116, w_24, by decide +kernel, mx_okl (by simp [mx_ok])⟩
theorem k_Y2_init_28 : mx_kI Y2_init Y7_init 28 0 := ⟨⟨wc_Y7_init, w_24, ⟨by decide, by decide⟩, by decide +kernel, by decide, by decide⟩, rfl, w_117, w_118, rfl, rfl⟩
theorem nf_Y2_init_33 : mx_nf Y2_init 33 0 [mN, mI 0] := ⟨_, _, _, _, rfl, rfl, u_0, tyX0_ok, w_140, w_141, w_26, by decide +kernel, mx_okl (by simp [mx_ok])⟩
theorem k_Y2_init_35 : mx_kI Y2_init Y0_init 35 0 := ⟨⟨wc_Y0_init, w_26, ⟨by decide, by decide⟩, by decide +kernel, by decide, by decide⟩, rfl, w_142, w_143, rfl, rfl⟩
theorem pf_Y2_init_36 : mx_pf Y2_init 36 2 4 (.object "Suffixhall$Dictionary") := ⟨_, _, _, _, rfl, by decide, u_2, w_160, tyX2_ok, nmX2, by decide +kernel, Or.inr ⟨rfl, rfl, rfl⟩⟩
theorem pf_Y2_init_29 : mx_pf Y2_init 29 2 3 (.object "Suffixhall$Segments") := ⟨_, _, _, _, rfl, by decide, u_2, w_159, tyX2_ok, nmX2, by decide +kernel, Or.inr ⟨rfl, rfl, rfl⟩⟩
theorem pf_Y2_init_22 : mx_pf Y2_init 22 2 2 (.array .int) := ⟨_, _, _, _, rfl, by decide, u_2, w_158, tyX2_ok, nmX2, by decide +kernel, Or.inr ⟨rfl, rfl, rfl⟩⟩
theorem pf_Y2_init_18 : mx_pf Y2_init 18 2 1 (.array (.object "Suffixhall$View")) := ⟨_, _, _, _, rfl, by decide, u_2, w_157, tyX2_ok, nmX2, by decide +kernel, Or.inr ⟨rfl, rfl, rfl⟩⟩
theorem pf_Y2_init_12 : mx_pf Y2_init 12 2 0 (.object "Suffixhall$View") := ⟨_, _, _, _, rfl, by decide, u_2, w_156, tyX2_ok, nmX2, by decide +kernel, Or.inr ⟨rfl, rfl, rfl⟩⟩
theorem k_Y2_init_40 : mx_kS Y2_init YJ7_fill_53178 40 2 := ⟨⟨wc_YJ7_fill_53178, w_25, ⟨by decide, by decide⟩, by decide +kernel, by decide, by decide⟩, rfl, w_155, w_122⟩
theorem lf_Y2_init_22 : mx_lf Y2_init 22 2 2 := ⟨_, _, _, rfl, by decide, u_2, w_158⟩
theorem lf_Y2_init_18 : mx_lf Y2_init 18 2 1 := ⟨_, _, _, rfl, by decide, u_2, w_157⟩
theorem lf_Y2_present_12 : mx_lf Y2_present 12 2 0 := ⟨_, _, _, rfl, by decide, u_2, w_156⟩
theorem lf_Y2_shelfOf_22 : mx_lf Y2_shelfOf 22 2 2 := ⟨_, _, _, rfl, by decide, u_2, w_158⟩
theorem lf_Y2_shelf_18 : mx_lf Y2_shelf 18 2 1 := ⟨_, _, _, rfl, by decide, u_2, w_157⟩
theorem k_Y2_viewOf_46 : mx_kV Y2_viewOf Y2_shelfOf 46 1 := ⟨⟨wc_Y2_shelfOf, w_21, ⟨by decide, by decide⟩, by decide +kernel, by decide, by decide⟩, rfl, w_298, w_299, w_300⟩
theorem k_Y2_viewOf_50 : mx_kV Y2_viewOf Y2_shelf 50 1 := ⟨⟨wc_Y2_shelf, w_21, ⟨by decide, by decide⟩, by decide +kernel, by decide, by decide⟩, rfl, w_302, w_304, w_2⟩
theorem lf_Y2_viewOf_12 : mx_lf Y2_viewOf 12 2 0 := ⟨_, _, _, rfl, by decide, u_2, w_156⟩
theorem lf_Y9_texts_12 : mx_lf Y9_texts 12 9 0 := ⟨_, _, _, rfl, by decide, u_9, w_95⟩
theorem lf_Y8_many_22 : mx_lf Y8_many 22 8 3 := ⟨_, _, _, rfl, by decide, u_8, w_84⟩
theorem k_Y2_hasRoom_54 : mx_kV Y2_hasRoom Y9_texts 54 0 := ⟨⟨wc_Y9_texts, w_22, ⟨by decide, by decide⟩, by decide +kernel, by decide, by decide⟩, rfl, w_480, w_425, w_426⟩
theorem k_Y2_hasRoom_58 : mx_kV Y2_hasRoom Y8_many 58 0 := ⟨⟨wc_Y8_many, w_23, ⟨by decide, by decide⟩, by decide +kernel, by decide, by decide⟩, rfl, w_600, w_381, w_382⟩
theorem lf_Y2_hasRoom_64 : mx_lf Y2_hasRoom 64 2 5 := ⟨_, _, _, rfl, by decide, u_2, w_161⟩
theorem lf_Y2_hasRoom_12 : mx_lf Y2_hasRoom 12 2 0 := ⟨_, _, _, rfl, by decide, u_2, w_156⟩
theorem lf_Y8_isSlot_22 : mx_lf Y8_isSlot 22 8 3 := ⟨_, _, _, rfl, by decide, u_8, w_84⟩
theorem k_Y8_sizeAt_30 : mx_kV Y8_sizeAt Y8_isSlot 30 1 := ⟨⟨wc_Y8_isSlot, w_23, ⟨by decide, by decide⟩, by decide +kernel, by decide, by decide⟩, rfl, w_388, w_390, w_4⟩
theorem lf_Y8_sizeAt_15 : mx_lf Y8_sizeAt 15 8 1 := ⟨_, _, _, rfl, by decide, u_8, w_82⟩
theorem lf_Y6_size_15 : mx_lf Y6_size 15 6 1 := ⟨_, _, _, rfl, by decide, u_6, w_56⟩
theorem lf_Y6_sign_9 : mx_lf Y6_sign 9 6 0 := ⟨_, _, _, rfl, by decide, u_6, w_55⟩
theorem lf_Y6_sign_15 : mx_lf Y6_sign 15 6 1 := ⟨_, _, _, rfl, by decide, u_6, w_56⟩
theorem k_Y8_widen_34 : mx_kV Y8_widen Y8_sizeAt 34 1 := ⟨⟨wc_Y8_sizeAt, w_23, ⟨by decide, by decide⟩, by decide +kernel, by decide, by decide⟩, rfl, w_432, w_385, w_386⟩
theorem k_Y8_widen_41 : mx_kV Y8_widen Y6_size 41 0 := ⟨⟨wc_Y6_size, w_20, ⟨by decide, by decide⟩, by decide +kernel, by decide, by decide⟩, rfl, w_614, w_534, w_535⟩
theorem k_Y8_widen_30 : mx_kV Y8_widen Y8_isSlot 30 1 := ⟨⟨wc_Y8_isSlot, w_23, ⟨by decide, by decide⟩, by decide +kernel, by decide, by decide⟩, rfl, w_388, w_390, w_4⟩
theorem lf_Y8_widen_18 : mx_lf Y8_widen 18 8 2 := ⟨_, _, _, rfl, by decide, u_8, w_83⟩
theorem lf_Y8_widen_15 : mx_lf Y8_widen 15 8 1 := ⟨_, _, _, rfl, by decide, u_8, w_82⟩
theorem k_Y8_widen_53 : mx_kV Y8_widen Y6_sign 53 1 := ⟨⟨wc_Y6_sign, w_20, ⟨by decide, by decide⟩, by decide +kernel, by decide, by decide⟩, rfl, w_616, w_576, w_577⟩
theorem k_Y8_append_37 : mx_kV Y8_append Y8_widen 37 3 := ⟨⟨wc_Y8_widen, w_23, ⟨by decide, by decide⟩, by decide +kernel, by decide, by decide⟩, rfl, w_610, w_611, w_612⟩
theorem lf_Y8_append_22 : mx_lf Y8_append 22 8 3 := ⟨_, _, _, rfl, by decide, u_8, w_84⟩
theorem pf_Y8_append_22 : mx_pf Y8_append 22 8 3 .int := ⟨_, _, _, _, rfl, by decide, u_8, w_84, tyX8_ok, nmX8, by decide +kernel, Or.inl rfl⟩
theorem lf_Y8_append_15 : mx_lf Y8_append 15 8 1 := ⟨_, _, _, rfl, by decide, u_8, w_82⟩
theorem lf_Y8_append_9 : mx_lf Y8_append 9 8 0 := ⟨_, _, _, rfl, by decide, u_8, w_81⟩
theorem pf_Y9_forgetOrder_32 : mx_pf Y9_forgetOrder 32 9 4 .int := ⟨_, _, _, _, rfl, by decide, u_9, w_99, tyX9_ok, nmX9, by decide +kernel, Or.inl rfl⟩
theorem pf_Y9_forgetOrder_28 : mx_pf Y9_forgetOrder 28 9 5 .boolean := ⟨_, _, _, _, rfl, by decide, u_9, w_100, tyX9_ok, nmX9, by decide +kernel, Or.inl rfl⟩
theorem lf_Y7_isSegment_30 : mx_lf Y7_isSegment 30 7 4 := ⟨_, _, _, rfl, by decide, u_7, w_128⟩
theorem k_Y7_fill_37 : mx_kV Y7_fill Y7_isSegment 37 1 := ⟨⟨wc_Y7_isSegment, w_24, ⟨by decide, by decide⟩, by decide +kernel, by decide, by decide⟩, rfl, w_489, w_491, w_9⟩
theorem lf_Y7_fill_18 : mx_lf Y7_fill 18 7 2 := ⟨_, _, _, rfl, by decide, u_7, w_126⟩
theorem lf_Y7_fill_15 : mx_lf Y7_fill 15 7 1 := ⟨_, _, _, rfl, by decide, u_7, w_125⟩
theorem lf_Y7_fill_9 : mx_lf Y7_fill 9 7 0 := ⟨_, _, _, rfl, by decide, u_7, w_124⟩
theorem lf_Y7_setHome_21 : mx_lf Y7_setHome 21 7 3 := ⟨_, _, _, rfl, by decide, u_7, w_127⟩
theorem k_Y7_settle_34 : mx_kV Y7_settle Y7_fill 34 4 := ⟨⟨wc_Y7_fill, w_24, ⟨by decide, by decide⟩, by decide +kernel, by decide, by decide⟩, rfl, w_625, w_627, w_12⟩
theorem lf_Y7_settle_30 : mx_lf Y7_settle 30 7 4 := ⟨_, _, _, rfl, by decide, u_7, w_128⟩
theorem pf_Y7_settle_30 : mx_pf Y7_settle 30 7 4 .int := ⟨_, _, _, _, rfl, by decide, u_7, w_128, tyX7_ok, nmX7, by decide +kernel, Or.inl rfl⟩
theorem k_Y7_settle_37 : mx_kV Y7_settle Y7_isSegment 37 1 := ⟨⟨wc_Y7_isSegment, w_24, ⟨by decide, by decide⟩, by decide +kernel, by decide, by decide⟩, rfl, w_489, w_491, w_9⟩
theorem k_Y7_settle_41 : mx_kV Y7_settle Y7_setHome 41 2 := ⟨⟨wc_Y7_setHome, w_24, ⟨by decide, by decide⟩, by decide +kernel, by decide, by decide⟩, rfl, w_629, w_631, w_13⟩
theorem lf_Y7_settle_9 : mx_lf Y7_settle 9 7 0 := ⟨_, _, _, rfl, by decide, u_7, w_124⟩
theorem k_Y2_takeIn_54 : mx_kV Y2_takeIn Y9_texts 54 0 := ⟨⟨wc_Y9_texts, w_22, ⟨by decide, by decide⟩, by decide +kernel, by decide, by decide⟩, rfl, w_480, w_425, w_426⟩
theorem k_Y2_takeIn_68 : mx_kV Y2_takeIn Y8_append 68 2 := ⟨⟨wc_Y8_append, w_23, ⟨by decide, by decide⟩, by decide +kernel, by decide, by decide⟩, rfl, w_606, w_607, w_608⟩
theorem k_Y2_takeIn_72 : mx_kV Y2_takeIn Y9_forgetOrder 72 0 := ⟨⟨wc_Y9_forgetOrder, w_22, ⟨by decide, by decide⟩, by decide +kernel, by decide, by decide⟩, rfl, w_617, w_618, w_619⟩
theorem k_Y2_takeIn_75 : mx_kV Y2_takeIn Y7_settle 75 1 := ⟨⟨wc_Y7_settle, w_24, ⟨by decide, by decide⟩, by decide +kernel, by decide, by decide⟩, rfl, w_621, w_622, w_623⟩
theorem pf_Y2_takeIn_64 : mx_pf Y2_takeIn 64 2 5 .int := ⟨_, _, _, _, rfl, by decide, u_2, w_161, tyX2_ok, nmX2, by decide +kernel, Or.inl rfl⟩
theorem lf_Y2_takeIn_64 : mx_lf Y2_takeIn 64 2 5 := ⟨_, _, _, rfl, by decide, u_2, w_161⟩
theorem lf_Y2_takeIn_29 : mx_lf Y2_takeIn 29 2 3 := ⟨_, _, _, rfl, by decide, u_2, w_159⟩
theorem lf_Y2_takeIn_12 : mx_lf Y2_takeIn 12 2 0 := ⟨_, _, _, rfl, by decide, u_2, w_156⟩
theorem k_Y8_numberAt_30 : mx_kV Y8_numberAt Y8_isSlot 30 1 := ⟨⟨wc_Y8_isSlot, w_23, ⟨by decide, by decide⟩, by decide +kernel, by decide, by decide⟩, rfl, w_388, w_390, w_4⟩
theorem lf_Y8_numberAt_9 : mx_lf Y8_numberAt 9 8 0 := ⟨_, _, _, rfl, by decide, u_8, w_81⟩
theorem lf_Y7_homeOf_21 : mx_lf Y7_homeOf 21 7 3 := ⟨_, _, _, rfl, by decide, u_7, w_127⟩
theorem k_Y7_bury_45 : mx_kV Y7_bury Y7_homeOf 45 1 := ⟨⟨wc_Y7_homeOf, w_24, ⟨by decide, by decide⟩, by decide +kernel, by decide, by decide⟩, rfl, w_498, w_500, w_10⟩
theorem k_Y7_bury_37 : mx_kV Y7_bury Y7_isSegment 37 1 := ⟨⟨wc_Y7_isSegment, w_24, ⟨by decide, by decide⟩, by decide +kernel, by decide, by decide⟩, rfl, w_489, w_491, w_9⟩
theorem lf_Y7_bury_18 : mx_lf Y7_bury 18 7 2 := ⟨_, _, _, rfl, by decide, u_7, w_126⟩
theorem lf_Y7_bury_15 : mx_lf Y7_bury 15 7 1 := ⟨_, _, _, rfl, by decide, u_7, w_125⟩
theorem lf_Y7_bury_9 : mx_lf Y7_bury 9 7 0 := ⟨_, _, _, rfl, by decide, u_7, w_124⟩
theorem k_Y7_bury_41 : mx_kV Y7_bury Y7_setHome 41 2 := ⟨⟨wc_Y7_setHome, w_24, ⟨by decide, by decide⟩, by decide +kernel, by decide, by decide⟩, rfl, w_629, w_631, w_13⟩
theorem k_Y2_bury_54 : mx_kV Y2_bury Y9_texts 54 0 := ⟨⟨wc_Y9_texts, w_22, ⟨by decide, by decide⟩, by decide +kernel, by decide, by decide⟩, rfl, w_480, w_425, w_426⟩
theorem k_Y2_bury_86 : mx_kV Y2_bury Y8_numberAt 86 1 := ⟨⟨wc_Y8_numberAt, w_23, ⟨by decide, by decide⟩, by decide +kernel, by decide, by decide⟩, rfl, w_668, w_495, w_496⟩
theorem k_Y2_bury_96 : mx_kV Y2_bury Y8_sizeAt 96 1 := ⟨⟨wc_Y8_sizeAt, w_23, ⟨by decide, by decide⟩, by decide +kernel, by decide, by decide⟩, rfl, w_669, w_385, w_386⟩
theorem k_Y2_bury_99 : mx_kV Y2_bury Y7_bury 99 2 := ⟨⟨wc_Y7_bury, w_24, ⟨by decide, by decide⟩, by decide +kernel, by decide, by decide⟩, rfl, w_670, w_671, w_672⟩
theorem lf_Y2_bury_12 : mx_lf Y2_bury 12 2 0 := ⟨_, _, _, rfl, by decide, u_2, w_156⟩
theorem lf_Y2_bury_29 : mx_lf Y2_bury 29 2 3 := ⟨_, _, _, rfl, by decide, u_2, w_159⟩
theorem k_Y2_widen_79 : mx_kV Y2_widen Y2_bury 79 1 := ⟨⟨wc_Y2_bury, w_21, ⟨by decide, by decide⟩, by decide +kernel, by decide, by decide⟩, rfl, w_664, w_666, w_14⟩
theorem k_Y2_widen_54 : mx_kV Y2_widen Y9_texts 54 0 := ⟨⟨wc_Y9_texts, w_22, ⟨by decide, by decide⟩, by decide +kernel, by decide, by decide⟩, rfl, w_480, w_425, w_426⟩
theorem k_Y2_widen_82 : mx_kV Y2_widen Y8_widen 82 3 := ⟨⟨wc_Y8_widen, w_23, ⟨by decide, by decide⟩, by decide +kernel, by decide, by decide⟩, rfl, w_674, w_611, w_612⟩
theorem k_Y2_widen_72 : mx_kV Y2_widen Y9_forgetOrder 72 0 := ⟨⟨wc_Y9_forgetOrder, w_22, ⟨by decide, by decide⟩, by decide +kernel, by decide, by decide⟩, rfl, w_617, w_618, w_619⟩
theorem k_Y2_widen_86 : mx_kV Y2_widen Y8_numberAt 86 1 := ⟨⟨wc_Y8_numberAt, w_23, ⟨by decide, by decide⟩, by decide +kernel, by decide, by decide⟩, rfl, w_668, w_495, w_496⟩
theorem k_Y2_widen_75 : mx_kV Y2_widen Y7_settle 75 1 := ⟨⟨wc_Y7_settle, w_24, ⟨by decide, by decide⟩, by decide +kernel, by decide, by decide⟩, rfl, w_621, w_622, w_623⟩
theorem lf_Y2_widen_12 : mx_lf Y2_widen 12 2 0 := ⟨_, _, _, rfl, by decide, u_2, w_156⟩
theorem lf_Y2_widen_29 : mx_lf Y2_widen 29 2 3 := ⟨_, _, _, rfl, by decide, u_2, w_159⟩
theorem lf_Y2_snapshotsKept_22 : mx_lf Y2_snapshotsKept 22 2 2 := ⟨_, _, _, rfl, by decide, u_2, w_158⟩
theorem k_Y2_canTake_102 : mx_kV Y2_canTake Y2_snapshotsKept 102 0 := ⟨⟨wc_Y2_snapshotsKept, w_21, ⟨by decide, by decide⟩, by decide +kernel, by decide, by decide⟩, rfl, w_702, w_703, w_704⟩
theorem lf_Y2_canTake_105 : mx_lf Y2_canTake 105 2 6 := ⟨_, _, _, rfl, by decide, u_2, w_162⟩
theorem pf_Y8_become_22 : mx_pf Y8_become 22 8 3 .int := ⟨_, _, _, _, rfl, by decide, u_8, w_84, tyX8_ok, nmX8, by decide +kernel, Or.inl rfl⟩
theorem lf_Y8_become_22 : mx_lf Y8_become 22 8 3 := ⟨_, _, _, rfl, by decide, u_8, w_84⟩
theorem lf_Y8_become_18 : mx_lf Y8_become 18 8 2 := ⟨_, _, _, rfl, by decide, u_8, w_83⟩
theorem lf_Y8_become_15 : mx_lf Y8_become 15 8 1 := ⟨_, _, _, rfl, by decide, u_8, w_82⟩
theorem lf_Y8_become_9 : mx_lf Y8_become 9 8 0 := ⟨_, _, _, rfl, by decide, u_8, w_81⟩
theorem k_Y9_become_36 : mx_kV Y9_become Y8_become 36 1 := ⟨⟨wc_Y8_become, w_23, ⟨by decide, by decide⟩, by decide +kernel, by decide, by decide⟩, rfl, w_715, w_716, w_717⟩
theorem k_Y9_become_40 : mx_kV Y9_become Y9_forgetOrder 40 0 := ⟨⟨wc_Y9_forgetOrder, w_22, ⟨by decide, by decide⟩, by decide +kernel, by decide, by decide⟩, rfl, w_719, w_618, w_619⟩
theorem lf_Y9_become_12 : mx_lf Y9_become 12 9 0 := ⟨_, _, _, rfl, by decide, u_9, w_95⟩
theorem lf_Y2_take_105 : mx_lf Y2_take 105 2 6 := ⟨_, _, _, rfl, by decide, u_2, w_162⟩
theorem k_Y2_take_50 : mx_kV Y2_take Y2_shelf 50 1 := ⟨⟨wc_Y2_shelf, w_21, ⟨by decide, by decide⟩, by decide +kernel, by decide, by decide⟩, rfl, w_302, w_304, w_2⟩
theorem k_Y2_take_108 : mx_kV Y2_take Y9_become 108 1 := ⟨⟨wc_Y9_become, w_22, ⟨by decide, by decide⟩, by decide +kernel, by decide, by decide⟩, rfl, w_711, w_712, w_713⟩
theorem pf_Y2_take_105 : mx_pf Y2_take 105 2 6 .int := ⟨_, _, _, _, rfl, by decide, u_2, w_162, tyX2_ok, nmX2, by decide +kernel, Or.inl rfl⟩
theorem lf_Y2_take_22 : mx_lf Y2_take 22 2 2 := ⟨_, _, _, rfl, by decide, u_2, w_158⟩
theorem lf_Y2_take_12 : mx_lf Y2_take 12 2 0 := ⟨_, _, _, rfl, by decide, u_2, w_156⟩
theorem lf_Y8_letter_18 : mx_lf Y8_letter 18 8 2 := ⟨_, _, _, rfl, by decide, u_8, w_83⟩
theorem lf_Y8_letter_15 : mx_lf Y8_letter 15 8 1 := ⟨_, _, _, rfl, by decide, u_8, w_82⟩
theorem lf_Y8_letter_22 : mx_lf Y8_letter 22 8 3 := ⟨_, _, _, rfl, by decide, u_8, w_84⟩
theorem k_Y8_shared_57 : mx_kV Y8_shared Y8_letter 57 2 := ⟨⟨wc_Y8_letter, w_23, ⟨by decide, by decide⟩, by decide +kernel, by decide, by decide⟩, rfl, w_404, w_405, w_406⟩
theorem k_Y8_compare_61 : mx_kV Y8_compare Y8_shared 61 4 := ⟨⟨wc_Y8_shared, w_23, ⟨by decide, by decide⟩, by decide +kernel, by decide, by decide⟩, rfl, w_400, w_401, w_402⟩
theorem k_Y8_compare_57 : mx_kV Y8_compare Y8_letter 57 2 := ⟨⟨wc_Y8_letter, w_23, ⟨by decide, by decide⟩, by decide +kernel, by decide, by decide⟩, rfl, w_404, w_405, w_406⟩
theorem lf_Y9_putIn_32 : mx_lf Y9_putIn 32 9 4 := ⟨_, _, _, rfl, by decide, u_9, w_99⟩
theorem k_Y9_putIn_64 : mx_kV Y9_putIn Y8_compare 64 4 := ⟨⟨wc_Y8_compare, w_23, ⟨by decide, by decide⟩, by decide +kernel, by decide, by decide⟩, rfl, w_396, w_397, w_398⟩
theorem lf_Y9_putIn_12 : mx_lf Y9_putIn 12 9 0 := ⟨_, _, _, rfl, by decide, u_9, w_95⟩
theorem lf_Y9_putIn_18 : mx_lf Y9_putIn 18 9 1 := ⟨_, _, _, rfl, by decide, u_9, w_96⟩
theorem pf_Y9_putIn_32 : mx_pf Y9_putIn 32 9 4 .int := ⟨_, _, _, _, rfl, by decide, u_9, w_99, tyX9_ok, nmX9, by decide +kernel, Or.inl rfl⟩
theorem lf_Y9_codeAt_18 : mx_lf Y9_codeAt 18 9 1 := ⟨_, _, _, rfl, by decide, u_9, w_96⟩
theorem lf_Y9_codeAt_32 : mx_lf Y9_codeAt 32 9 4 := ⟨_, _, _, rfl, by decide, u_9, w_99⟩
theorem k_Y9_slotAt_73 : mx_kV Y9_slotAt Y9_codeAt 73 1 := ⟨⟨wc_Y9_codeAt, w_22, ⟨by decide, by decide⟩, by decide +kernel, by decide, by decide⟩, rfl, w_415, w_417, w_6⟩
theorem k_Y9_placeAt_73 : mx_kV Y9_placeAt Y9_codeAt 73 1 := ⟨⟨wc_Y9_codeAt, w_22, ⟨by decide, by decide⟩, by decide +kernel, by decide, by decide⟩, rfl, w_415, w_417, w_6⟩
theorem pf_Y9_putInOrder_32 : mx_pf Y9_putInOrder 32 9 4 .int := ⟨_, _, _, _, rfl, by decide, u_9, w_99, tyX9_ok, nmX9, by decide +kernel, Or.inl rfl⟩
theorem lf_Y9_putInOrder_28 : mx_lf Y9_putInOrder 28 9 5 := ⟨_, _, _, rfl, by decide, u_9, w_100⟩
theorem k_Y9_putInOrder_43 : mx_kV Y9_putInOrder Y8_many 43 0 := ⟨⟨wc_Y8_many, w_23, ⟨by decide, by decide⟩, by decide +kernel, by decide, by decide⟩, rfl, w_380, w_381, w_382⟩
theorem pf_Y9_putInOrder_28 : mx_pf Y9_putInOrder 28 9 5 .boolean := ⟨_, _, _, _, rfl, by decide, u_9, w_100, tyX9_ok, nmX9, by decide +kernel, Or.inl rfl⟩
theorem lf_Y9_putInOrder_12 : mx_lf Y9_putInOrder 12 9 0 := ⟨_, _, _, rfl, by decide, u_9, w_95⟩
theorem lf_Y9_putInOrder_22 : mx_lf Y9_putInOrder 22 9 2 := ⟨_, _, _, rfl, by decide, u_9, w_97⟩
theorem lf_Y9_putInOrder_18 : mx_lf Y9_putInOrder 18 9 1 := ⟨_, _, _, rfl, by decide, u_9, w_96⟩
theorem lf_Y9_putInOrder_32 : mx_lf Y9_putInOrder 32 9 4 := ⟨_, _, _, rfl, by decide, u_9, w_99⟩
theorem k_Y9_putInOrder_46 : mx_kV Y9_putInOrder Y8_sizeAt 46 1 := ⟨⟨wc_Y8_sizeAt, w_23, ⟨by decide, by decide⟩, by decide +kernel, by decide, by decide⟩, rfl, w_384, w_385, w_386⟩
theorem k_Y9_putInOrder_50 : mx_kV Y9_putInOrder Y9_putIn 50 2 := ⟨⟨wc_Y9_putIn, w_22, ⟨by decide, by decide⟩, by decide +kernel, by decide, by decide⟩, rfl, w_392, w_394, w_5⟩
theorem k_Y9_putInOrder_54 : mx_kV Y9_putInOrder Y9_slotAt 54 1 := ⟨⟨wc_Y9_slotAt, w_22, ⟨by decide, by decide⟩, by decide +kernel, by decide, by decide⟩, rfl, w_411, w_412, w_413⟩
theorem k_Y9_putInOrder_57 : mx_kV Y9_putInOrder Y9_placeAt 57 1 := ⟨⟨wc_Y9_placeAt, w_22, ⟨by decide, by decide⟩, by decide +kernel, by decide, by decide⟩, rfl, w_419, w_420, w_421⟩
theorem k_Y9_putInOrder_60 : mx_kV Y9_putInOrder Y8_shared 60 4 := ⟨⟨wc_Y8_shared, w_23, ⟨by decide, by decide⟩, by decide +kernel, by decide, by decide⟩, rfl, w_423, w_401, w_402⟩
theorem lf_Y9_putInOrder_25 : mx_lf Y9_putInOrder 25 9 3 := ⟨_, _, _, rfl, by decide, u_9, w_98⟩
theorem k_Y9_rankAt_76 : mx_kV Y9_rankAt Y8_letter 76 2 := ⟨⟨wc_Y8_letter, w_23, ⟨by decide, by decide⟩, by decide +kernel, by decide, by decide⟩, rfl, w_458, w_405, w_406⟩
theorem lf_Y9_rankAt_22 : mx_lf Y9_rankAt 22 9 2 := ⟨_, _, _, rfl, by decide, u_9, w_97⟩
theorem lf_Y9_rankAt_12 : mx_lf Y9_rankAt 12 9 0 := ⟨_, _, _, rfl, by decide, u_9, w_95⟩
theorem k_Y9_isRising_54 : mx_kV Y9_isRising Y9_slotAt 54 1 := ⟨⟨wc_Y9_slotAt, w_22, ⟨by decide, by decide⟩, by decide +kernel, by decide, by decide⟩, rfl, w_411, w_412, w_413⟩
theorem k_Y9_isRising_57 : mx_kV Y9_isRising Y9_placeAt 57 1 := ⟨⟨wc_Y9_placeAt, w_22, ⟨by decide, by decide⟩, by decide +kernel, by decide, by decide⟩, rfl, w_419, w_420, w_421⟩
theorem k_Y9_isRising_64 : mx_kV Y9_isRising Y8_compare 64 4 := ⟨⟨wc_Y8_compare, w_23, ⟨by decide, by decide⟩, by decide +kernel, by decide, by decide⟩, rfl, w_396, w_397, w_398⟩
theorem lf_Y9_isRising_12 : mx_lf Y9_isRising 12 9 0 := ⟨_, _, _, rfl, by decide, u_9, w_95⟩
theorem k_Y9_turnedAt_57 : mx_kV Y9_turnedAt Y9_placeAt 57 1 := ⟨⟨wc_Y9_placeAt, w_22, ⟨by decide, by decide⟩, by decide +kernel, by decide, by decide⟩, rfl, w_419, w_420, w_421⟩
theorem k_Y9_turnedAt_54 : mx_kV Y9_turnedAt Y9_slotAt 54 1 := ⟨⟨wc_Y9_slotAt, w_22, ⟨by decide, by decide⟩, by decide +kernel, by decide, by decide⟩, rfl, w_411, w_412, w_413⟩
theorem k_Y9_turnedAt_76 : mx_kV Y9_turnedAt Y8_letter 76 2 := ⟨⟨wc_Y8_letter, w_23, ⟨by decide, by decide⟩, by decide +kernel, by decide, by decide⟩, rfl, w_458, w_405, w_406⟩
theorem lf_Y9_turnedAt_12 : mx_lf Y9_turnedAt 12 9 0 := ⟨_, _, _, rfl, by decide, u_9, w_95⟩
theorem k_Y8_places_34 : mx_kV Y8_places Y8_sizeAt 34 1 := ⟨⟨wc_Y8_sizeAt, w_23, ⟨by decide, by decide⟩, by decide +kernel, by decide, by decide⟩, rfl, w_432, w_385, w_386⟩
theorem lf_Y8_places_22 : mx_lf Y8_places 22 8 3 := ⟨_, _, _, rfl, by decide, u_8, w_84⟩
theorem k_Y9_isInOrder_122 : mx_kV Y9_isInOrder Y9_putInOrder 122 0 := ⟨⟨wc_Y9_putInOrder, w_22, ⟨by decide, by decide⟩, by decide +kernel, by decide, by decide⟩, rfl, w_471, w_377, w_378⟩
theorem k_Y9_isInOrder_80 : mx_kV Y9_isInOrder Y8_places 80 0 := ⟨⟨wc_Y8_places, w_23, ⟨by decide, by decide⟩, by decide +kernel, by decide, by decide⟩, rfl, w_453, w_429, w_430⟩
theorem k_Y9_isInOrder_43 : mx_kV Y9_isInOrder Y8_many 43 0 := ⟨⟨wc_Y8_many, w_23, ⟨by decide, by decide⟩, by decide +kernel, by decide, by decide⟩, rfl, w_380, w_381, w_382⟩
theorem lf_Y9_isInOrder_12 : mx_lf Y9_isInOrder 12 9 0 := ⟨_, _, _, rfl, by decide, u_9, w_95⟩
theorem lf_Y9_isInOrder_32 : mx_lf Y9_isInOrder 32 9 4 := ⟨_, _, _, rfl, by decide, u_9, w_99⟩
theorem k_Y9_isInOrder_54 : mx_kV Y9_isInOrder Y9_slotAt 54 1 := ⟨⟨wc_Y9_slotAt, w_22, ⟨by decide, by decide⟩, by decide +kernel, by decide, by decide⟩, rfl, w_411, w_412, w_413⟩
theorem k_Y9_isInOrder_57 : mx_kV Y9_isInOrder Y9_placeAt 57 1 := ⟨⟨wc_Y9_placeAt, w_22, ⟨by decide, by decide⟩, by decide +kernel, by decide, by decide⟩, rfl, w_419, w_420, w_421⟩
theorem k_Y9_isInOrder_119 : mx_kV Y9_isInOrder Y9_rankAt 119 2 := ⟨⟨wc_Y9_rankAt, w_22, ⟨by decide, by decide⟩, by decide +kernel, by decide, by decide⟩, rfl, w_472, w_473, w_474⟩
theorem k_Y9_isInOrder_125 : mx_kV Y9_isInOrder Y9_isRising 125 1 := ⟨⟨wc_Y9_isRising, w_22, ⟨by decide, by decide⟩, by decide +kernel, by decide, by decide⟩, rfl, w_476, w_478, w_7⟩
theorem k_Y9_isInOrder_83 : mx_kV Y9_isInOrder Y9_turnedAt 83 1 := ⟨⟨wc_Y9_turnedAt, w_22, ⟨by decide, by decide⟩, by decide +kernel, by decide, by decide⟩, rfl, w_454, w_455, w_456⟩
theorem k_Y7_livingAt_37 : mx_kV Y7_livingAt Y7_isSegment 37 1 := ⟨⟨wc_Y7_isSegment, w_24, ⟨by decide, by decide⟩, by decide +kernel, by decide, by decide⟩, rfl, w_489, w_491, w_9⟩
theorem lf_Y7_livingAt_9 : mx_lf Y7_livingAt 9 7 0 := ⟨_, _, _, rfl, by decide, u_7, w_124⟩
theorem k_Y7_houses_52 : mx_kV Y7_houses Y7_livingAt 52 1 := ⟨⟨wc_Y7_livingAt, w_24, ⟨by decide, by decide⟩, by decide +kernel, by decide, by decide⟩, rfl, w_485, w_487, w_8⟩
theorem lf_Y7_houses_30 : mx_lf Y7_houses 30 7 4 := ⟨_, _, _, rfl, by decide, u_7, w_128⟩
theorem k_Y7_houses_71 : mx_kV Y7_houses Y8_many 71 0 := ⟨⟨wc_Y8_many, w_23, ⟨by decide, by decide⟩, by decide +kernel, by decide, by decide⟩, rfl, w_493, w_381, w_382⟩
theorem k_Y7_houses_76 : mx_kV Y7_houses Y8_numberAt 76 1 := ⟨⟨wc_Y8_numberAt, w_23, ⟨by decide, by decide⟩, by decide +kernel, by decide, by decide⟩, rfl, w_494, w_495, w_496⟩
theorem k_Y7_houses_45 : mx_kV Y7_houses Y7_homeOf 45 1 := ⟨⟨wc_Y7_homeOf, w_24, ⟨by decide, by decide⟩, by decide +kernel, by decide, by decide⟩, rfl, w_498, w_500, w_10⟩
theorem k_Y7_houses_37 : mx_kV Y7_houses Y7_isSegment 37 1 := ⟨⟨wc_Y7_isSegment, w_24, ⟨by decide, by decide⟩, by decide +kernel, by decide, by decide⟩, rfl, w_489, w_491, w_9⟩
theorem k_Y2_isWhole_118 : mx_kV Y2_isWhole Y9_isInOrder 118 0 := ⟨⟨wc_Y9_isInOrder, w_22, ⟨by decide, by decide⟩, by decide +kernel, by decide, by decide⟩, rfl, w_467, w_468, w_469⟩
theorem k_Y2_isWhole_54 : mx_kV Y2_isWhole Y9_texts 54 0 := ⟨⟨wc_Y9_texts, w_22, ⟨by decide, by decide⟩, by decide +kernel, by decide, by decide⟩, rfl, w_480, w_425, w_426⟩
theorem k_Y2_isWhole_122 : mx_kV Y2_isWhole Y7_houses 122 1 := ⟨⟨wc_Y7_houses, w_24, ⟨by decide, by decide⟩, by decide +kernel, by decide, by decide⟩, rfl, w_481, w_482, w_483⟩
theorem lf_Y2_isWhole_12 : mx_lf Y2_isWhole 12 2 0 := ⟨_, _, _, rfl, by decide, u_2, w_156⟩
theorem lf_Y2_isWhole_29 : mx_lf Y2_isWhole 29 2 3 := ⟨_, _, _, rfl, by decide, u_2, w_159⟩
theorem k_Y2_isWhole_50 : mx_kV Y2_isWhole Y2_shelf 50 1 := ⟨⟨wc_Y2_shelf, w_21, ⟨by decide, by decide⟩, by decide +kernel, by decide, by decide⟩, rfl, w_302, w_304, w_2⟩
theorem lf_Y2_isWhole_22 : mx_lf Y2_isWhole 22 2 2 := ⟨_, _, _, rfl, by decide, u_2, w_158⟩
theorem pf_Y3_init_9 : mx_pf Y3_init 9 3 0 (.array .int) := ⟨_, _, _, _, rfl, by decide, u_3, w_249, tyX3_ok, nmX3, by decide +kernel, Or.inr ⟨rfl, rfl, rfl⟩⟩
theorem pf_Y4_init_18 : mx_pf Y4_init 18 4 2 (.array .int) := ⟨_, _, _, _, rfl, by decide, u_4, w_229, tyX4_ok, nmX4, by decide +kernel, Or.inr ⟨rfl, rfl, rfl⟩⟩
theorem pf_Y4_init_15 : mx_pf Y4_init 15 4 1 (.array .int) := ⟨_, _, _, _, rfl, by decide, u_4, w_228, tyX4_ok, nmX4, by decide +kernel, Or.inr ⟨rfl, rfl, rfl⟩⟩
theorem pf_Y4_init_9 : mx_pf Y4_init 9 4 0 (.array .int) := ⟨_, _, _, _, rfl, by decide, u_4, w_227, tyX4_ok, nmX4, by decide +kernel, Or.inr ⟨rfl, rfl, rfl⟩⟩
theorem pf_Y5_init_15 : mx_pf Y5_init 15 5 1 (.array .int) := ⟨_, _, _, _, rfl, by decide, u_5, w_185, tyX5_ok, nmX5, by decide +kernel, Or.inr ⟨rfl, rfl, rfl⟩⟩
theorem pf_Y5_init_9 : mx_pf Y5_init 9 5 0 (.array .int) := ⟨_, _, _, _, rfl, by decide, u_5, w_184, tyX5_ok, nmX5, by decide +kernel, Or.inr ⟨rfl, rfl, rfl⟩⟩
theorem pf_Y6_append_15 : mx_pf Y6_append 15 6 1 .int := ⟨_, _, _, _, rfl, by decide, u_6, w_56, tyX6_ok, nmX6, by decide +kernel, Or.inl rfl⟩
theorem lf_Y6_append_15 : mx_lf Y6_append 15 6 1 := ⟨_, _, _, rfl, by decide, u_6, w_56⟩
theorem lf_Y6_append_9 : mx_lf Y6_append 9 6 0 := ⟨_, _, _, rfl, by decide, u_6, w_55⟩
theorem pf_Y6_empty_15 : mx_pf Y6_empty 15 6 1 .int := ⟨_, _, _, _, rfl, by decide, u_6, w_56, tyX6_ok, nmX6, by decide +kernel, Or.inl rfl⟩
theorem lf_Y6_isPlain_15 : mx_lf Y6_isPlain 15 6 1 := ⟨_, _, _, rfl, by decide, u_6, w_56⟩
theorem k_Y6_isPlain_25 : mx_kV Y6_isPlain Y6_sign 25 1 := ⟨⟨wc_Y6_sign, w_20, ⟨by decide, by decide⟩, by decide +kernel, by decide, by decide⟩, rfl, w_575, w_576, w_577⟩
theorem k_Y6_isPlain_33 : mx_kSN Y6_isPlain Y10_isLetter 33 1 := ⟨⟨wc_Y10_isLetter, w_19, ⟨by decide, by decide⟩, by decide +kernel, by decide, by decide⟩, rfl, ⟨_, w_579⟩, w_515⟩
theorem k_Y6_isSimple_25 : mx_kV Y6_isSimple Y6_sign 25 1 := ⟨⟨wc_Y6_sign, w_20, ⟨by decide, by decide⟩, by decide +kernel, by decide, by decide⟩, rfl, w_575, w_576, w_577⟩
theorem k_Y6_isSimple_33 : mx_kSN Y6_isSimple Y10_isLetter 33 1 := ⟨⟨wc_Y10_isLetter, w_19, ⟨by decide, by decide⟩, by decide +kernel, by decide, by decide⟩, rfl, ⟨_, w_579⟩, w_515⟩
theorem lf_Y6_isSimple_15 : mx_lf Y6_isSimple 15 6 1 := ⟨_, _, _, rfl, by decide, u_6, w_56⟩
theorem k_Y8_slotOf_26 : mx_kV Y8_slotOf Y8_numberAt 26 1 := ⟨⟨wc_Y8_numberAt, w_23, ⟨by decide, by decide⟩, by decide +kernel, by decide, by decide⟩, rfl, w_656, w_495, w_496⟩
theorem lf_Y8_slotOf_22 : mx_lf Y8_slotOf 22 8 3 := ⟨_, _, _, rfl, by decide, u_8, w_84⟩
theorem k_Y8_compareToRow_41 : mx_kV Y8_compareToRow Y6_size 41 0 := ⟨⟨wc_Y6_size, w_20, ⟨by decide, by decide⟩, by decide +kernel, by decide, by decide⟩, rfl, w_614, w_534, w_535⟩
theorem k_Y8_compareToRow_57 : mx_kV Y8_compareToRow Y8_letter 57 2 := ⟨⟨wc_Y8_letter, w_23, ⟨by decide, by decide⟩, by decide +kernel, by decide, by decide⟩, rfl, w_404, w_405, w_406⟩
theorem k_Y8_compareToRow_53 : mx_kV Y8_compareToRow Y6_sign 53 1 := ⟨⟨wc_Y6_sign, w_20, ⟨by decide, by decide⟩, by decide +kernel, by decide, by decide⟩, rfl, w_616, w_576, w_577⟩
theorem k_Y8_allPlaces_34 : mx_kV Y8_allPlaces Y8_sizeAt 34 1 := ⟨⟨wc_Y8_sizeAt, w_23, ⟨by decide, by decide⟩, by decide +kernel, by decide, by decide⟩, rfl, w_432, w_385, w_386⟩
theorem k_Y8_placesTaking_65 : mx_kV Y8_placesTaking Y8_allPlaces 65 1 := ⟨⟨wc_Y8_allPlaces, w_23, ⟨by decide, by decide⟩, by decide +kernel, by decide, by decide⟩, rfl, w_803, w_805, w_16⟩
theorem k_Y8_placesTaking_34 : mx_kV Y8_placesTaking Y8_sizeAt 34 1 := ⟨⟨wc_Y8_sizeAt, w_23, ⟨by decide, by decide⟩, by decide +kernel, by decide, by decide⟩, rfl, w_432, w_385, w_386⟩
theorem k_Y8_placesTaking_57 : mx_kV Y8_placesTaking Y8_letter 57 2 := ⟨⟨wc_Y8_letter, w_23, ⟨by decide, by decide⟩, by decide +kernel, by decide, by decide⟩, rfl, w_404, w_405, w_406⟩
theorem k_Y8_placesOf_65 : mx_kV Y8_placesOf Y8_allPlaces 65 1 := ⟨⟨wc_Y8_allPlaces, w_23, ⟨by decide, by decide⟩, by decide +kernel, by decide, by decide⟩, rfl, w_803, w_805, w_16⟩
theorem k_Y8_placesOf_41 : mx_kV Y8_placesOf Y6_size 41 0 := ⟨⟨wc_Y6_size, w_20, ⟨by decide, by decide⟩, by decide +kernel, by decide, by decide⟩, rfl, w_614, w_534, w_535⟩
theorem k_Y8_placesOf_53 : mx_kV Y8_placesOf Y6_sign 53 1 := ⟨⟨wc_Y6_sign, w_20, ⟨by decide, by decide⟩, by decide +kernel, by decide, by decide⟩, rfl, w_616, w_576, w_577⟩
theorem k_Y8_placesOf_69 : mx_kV Y8_placesOf Y8_placesTaking 69 2 := ⟨⟨wc_Y8_placesTaking, w_23, ⟨by decide, by decide⟩, by decide +kernel, by decide, by decide⟩, rfl, w_807, w_809, w_17⟩
theorem k_Y8_timesOf_73 : mx_kV Y8_timesOf Y8_placesOf 73 2 := ⟨⟨wc_Y8_placesOf, w_23, ⟨by decide, by decide⟩, by decide +kernel, by decide, by decide⟩, rfl, w_799, w_800, w_801⟩
theorem k_Y8_timesOf_77 : mx_kS Y8_timesOf YJ13_bitCount_95d88 77 1 := ⟨⟨wc_YJ13_bitCount_95d88, w_40, ⟨by decide, by decide⟩, by decide +kernel, by decide, by decide⟩, rfl, w_811, w_812⟩
theorem lf_Y8_timesOf_22 : mx_lf Y8_timesOf 22 8 3 := ⟨_, _, _, rfl, by decide, u_8, w_84⟩
theorem k_Y9_commonAt_73 : mx_kV Y9_commonAt Y9_codeAt 73 1 := ⟨⟨wc_Y9_codeAt, w_22, ⟨by decide, by decide⟩, by decide +kernel, by decide, by decide⟩, rfl, w_415, w_417, w_6⟩
theorem lf_Y9_commonAt_25 : mx_lf Y9_commonAt 25 9 3 := ⟨_, _, _, rfl, by decide, u_9, w_98⟩
theorem k_Y9_runsOfTurned_80 : mx_kV Y9_runsOfTurned Y8_places 80 0 := ⟨⟨wc_Y8_places, w_23, ⟨by decide, by decide⟩, by decide +kernel, by decide, by decide⟩, rfl, w_453, w_429, w_430⟩
theorem k_Y9_runsOfTurned_83 : mx_kV Y9_runsOfTurned Y9_turnedAt 83 1 := ⟨⟨wc_Y9_turnedAt, w_22, ⟨by decide, by decide⟩, by decide +kernel, by decide, by decide⟩, rfl, w_454, w_455, w_456⟩
theorem lf_Y9_runsOfTurned_12 : mx_lf Y9_runsOfTurned 12 9 0 := ⟨_, _, _, rfl, by decide, u_9, w_95⟩
theorem k_Y9_turnedAhead_83 : mx_kV Y9_turnedAhead Y9_turnedAt 83 1 := ⟨⟨wc_Y9_turnedAt, w_22, ⟨by decide, by decide⟩, by decide +kernel, by decide, by decide⟩, rfl, w_454, w_455, w_456⟩
theorem k_Y9_boundOf_43 : mx_kV Y9_boundOf Y8_many 43 0 := ⟨⟨wc_Y8_many, w_23, ⟨by decide, by decide⟩, by decide +kernel, by decide, by decide⟩, rfl, w_380, w_381, w_382⟩
theorem lf_Y9_boundOf_12 : mx_lf Y9_boundOf 12 9 0 := ⟨_, _, _, rfl, by decide, u_9, w_95⟩
theorem k_Y9_boundOf_46 : mx_kV Y9_boundOf Y8_sizeAt 46 1 := ⟨⟨wc_Y8_sizeAt, w_23, ⟨by decide, by decide⟩, by decide +kernel, by decide, by decide⟩, rfl, w_384, w_385, w_386⟩
theorem k_Y9_boundOf_87 : mx_kV Y9_boundOf Y8_compareToRow 87 4 := ⟨⟨wc_Y8_compareToRow, w_23, ⟨by decide, by decide⟩, by decide +kernel, by decide, by decide⟩, rfl, w_829, w_830, w_831⟩
theorem nf_Y10_init_9 : mx_nf Y10_init 9 6 [mN, mI 0] := ⟨_, _, _, _, rfl, rfl, u_6, tyX6_ok, w_49, w_50, w_20, by decide +kernel, mx_okl (by simp [mx_ok])⟩
theorem k_Y10_init_11 : mx_kIN Y10_init Y6_init 11 0 := ⟨⟨wc_Y6_init, w_20, ⟨by decide, by decide⟩, by decide +kernel, by decide, by decide⟩, rfl, ⟨_, w_51⟩, w_52, rfl, rfl⟩
theorem nf_Y10_init_16 : mx_nf Y10_init 16 2 [mN, mN, mN, mN, mN, mI 0, mI 0] := ⟨_, _, _, _, rfl, rfl, u_2, tyX2_ok, w_63, w_64, w_21, by decide +kernel, mx_okl (by simp [mx_ok])⟩
theorem k_Y10_init_18 : mx_kI Y10_init Y2_init 18 0 := ⟨⟨wc_Y2_init, w_21, ⟨by decide, by decide⟩, by decide +kernel, by decide, by decide⟩, rfl, w_65, w_66, rfl, rfl⟩
theorem nf_Y10_init_26 : mx_nf Y10_init 26 5 [mN, mN, mI 0, mI 0, mI 0, mI 0] := ⟨_, _, _, _, rfl, rfl, u_5, tyX5_ok, w_178, w_179, w_27, by decide +kernel, mx_okl (by simp [mx_ok])⟩
theorem k_Y10_init_28 : mx_kIN Y10_init Y5_init 28 0 := ⟨⟨wc_Y5_init, w_27, ⟨by decide, by decide⟩, by decide +kernel, by decide, by decide⟩, rfl, ⟨_, w_180⟩, w_181, rfl, rfl⟩
theorem nf_Y10_init_33 : mx_nf Y10_init 33 1 [mN, mN, mN, mI 0, mI 0] := ⟨_, _, _, _, rfl, rfl, u_1, tyX1_ok, w_199, w_200, w_28, by decide +kernel, mx_okl (by simp [mx_ok])⟩
theorem k_Y10_init_35 : mx_kIN Y10_init Y1_init 35 0 := ⟨⟨wc_Y1_init, w_28, ⟨by decide, by decide⟩, by decide +kernel, by decide, by decide⟩, rfl, ⟨_, w_201⟩, w_202, rfl, rfl⟩
theorem nf_Y10_init_40 : mx_nf Y10_init 40 4 [mN, mN, mN, mI 0, mI 0, mI 0] := ⟨_, _, _, _, rfl, rfl, u_4, tyX4_ok, w_221, w_222, w_29, by decide +kernel, mx_okl (by simp [mx_ok])⟩
theorem k_Y10_init_42 : mx_kIN Y10_init Y4_init 42 0 := ⟨⟨wc_Y4_init, w_29, ⟨by decide, by decide⟩, by decide +kernel, by decide, by decide⟩, rfl, ⟨_, w_223⟩, w_224, rfl, rfl⟩
theorem nf_Y10_init_47 : mx_nf Y10_init 47 3 [mN, mI 0, mI 0] := ⟨_, _, _, _, rfl, rfl, u_3, tyX3_ok, w_243, w_244, w_30, by decide +kernel, mx_okl (by simp [mx_ok])⟩
theorem k_Y10_init_49 : mx_kIN Y10_init Y3_init 49 0 := ⟨⟨wc_Y3_init, w_30, ⟨by decide, by decide⟩, by decide +kernel, by decide, by decide⟩, rfl, ⟨_, w_245⟩, w_246, rfl, rfl⟩
theorem pf_Y10_init_50 : mx_pf Y10_init 50 10 6 (.object "Suffixhall$Pairs") := ⟨_, _, _, _, rfl, by decide, u_10, w_263, tyX10_ok, nmX10, by decide +kernel, Or.inr ⟨rfl, rfl, rfl⟩⟩
theorem pf_Y10_init_43 : mx_pf Y10_init 43 10 5 (.object "Suffixhall$Parse") := ⟨_, _, _, _, rfl, by decide, u_10, w_262, tyX10_ok, nmX10, by decide +kernel, Or.inr ⟨rfl, rfl, rfl⟩⟩
theorem pf_Y10_init_36 : mx_pf Y10_init 36 10 4 (.object "Suffixhall$Edits") := ⟨_, _, _, _, rfl, by decide, u_10, w_261, tyX10_ok, nmX10, by decide +kernel, Or.inr ⟨rfl, rfl, rfl⟩⟩
theorem pf_Y10_init_29 : mx_pf Y10_init 29 10 3 (.object "Suffixhall$Regular") := ⟨_, _, _, _, rfl, by decide, u_10, w_260, tyX10_ok, nmX10, by decide +kernel, Or.inr ⟨rfl, rfl, rfl⟩⟩
theorem pf_Y10_init_23 : mx_pf Y10_init 23 10 2 (.object "Suffixhall$Hall") := ⟨_, _, _, _, rfl, by decide, u_10, w_259, tyX10_ok, nmX10, by decide +kernel, Or.inr ⟨rfl, rfl, rfl⟩⟩
theorem pf_Y10_init_19 : mx_pf Y10_init 19 10 1 (.object "Suffixhall$Hall") := ⟨_, _, _, _, rfl, by decide, u_10, w_258, tyX10_ok, nmX10, by decide +kernel, Or.inr ⟨rfl, rfl, rfl⟩⟩
theorem pf_Y10_init_12 : mx_pf Y10_init 12 10 0 (.object "Suffixhall$Row") := ⟨_, _, _, _, rfl, by decide, u_10, w_257, tyX10_ok, nmX10, by decide +kernel, Or.inr ⟨rfl, rfl, rfl⟩⟩
theorem k_Y10_isSign_210 : mx_kS Y10_isSign Y10_isLetter 210 1 := ⟨⟨wc_Y10_isLetter, w_19, ⟨by decide, by decide⟩, by decide +kernel, by decide, by decide⟩, rfl, w_514, w_515⟩
theorem k_Y10_type_54 : mx_kS Y10_type Y10_isSign 54 1 := ⟨⟨wc_Y10_isSign, w_19, ⟨by decide, by decide⟩, by decide +kernel, by decide, by decide⟩, rfl, w_511, w_512⟩
theorem k_Y10_type_65 : mx_kV Y10_type Y6_size 65 0 := ⟨⟨wc_Y6_size, w_20, ⟨by decide, by decide⟩, by decide +kernel, by decide, by decide⟩, rfl, w_533, w_534, w_535⟩
theorem k_Y10_type_74 : mx_kV Y10_type Y6_append 74 1 := ⟨⟨wc_Y6_append, w_20, ⟨by decide, by decide⟩, by decide +kernel, by decide, by decide⟩, rfl, w_553, w_554, w_555⟩
theorem lf_Y10_type_12 : mx_lf Y10_type 12 10 0 := ⟨_, _, _, rfl, by decide, u_10, w_257⟩
theorem tn_Y10_type_29 : mx_tn Y10_type 29 "java/lang/IllegalStateException" := ⟨69, 71, 73, 1, 7, prog_20_method_2_code, "the row is full", mx_nms, ⟨by decide +kernel, by decide +kernel, by decide +kernel, by decide +kernel⟩, dX10_type_29, dX10_type_32, Or.inl ⟨dX10_type_33, dX10_type_35, dX10_type_38⟩, rfl, by decide +kernel, mx_nms_fit, w_537, w_36, at_RX10_73, rfl, by decide, by decide⟩
theorem tn_Y10_type_7 : mx_tn Y10_type 7 "java/lang/IllegalArgumentException" := ⟨58, 60, 62, 0, 7, prog_19_method_2_code, "no such sign", mx_nms, ⟨by decide +kernel, by decide +kernel, by decide +kernel, by decide +kernel⟩, dX10_type_7, dX10_type_10, Or.inl ⟨dX10_type_11, dX10_type_13, dX10_type_16⟩, rfl, by decide +kernel, mx_nms_fit, w_517, w_39, at_RX10_62, rfl, by decide, by decide⟩
theorem k_Y10_wipe_65 : mx_kV Y10_wipe Y6_size 65 0 := ⟨⟨wc_Y6_size, w_20, ⟨by decide, by decide⟩, by decide +kernel, by decide, by decide⟩, rfl, w_533, w_534, w_535⟩
theorem k_Y10_wipe_78 : mx_kV Y10_wipe Y6_empty 78 0 := ⟨⟨wc_Y6_empty, w_20, ⟨by decide, by decide⟩, by decide +kernel, by decide, by decide⟩, rfl, w_633, w_634, w_635⟩
theorem lf_Y10_wipe_12 : mx_lf Y10_wipe 12 10 0 := ⟨_, _, _, rfl, by decide, u_10, w_257⟩
theorem k_Y10_needPlainRow_402 : mx_kV Y10_needPlainRow Y6_isPlain 402 0 := ⟨⟨wc_Y6_isPlain, w_20, ⟨by decide, by decide⟩, by decide +kernel, by decide, by decide⟩, rfl, w_571, w_572, w_573⟩
theorem tn_Y10_needPlainRow_10 : mx_tn Y10_needPlainRow 10 "java/lang/UnsupportedOperationException" := ⟨275, 405, 279, 14, 7, prog_27_method_2_code, "the row is not plain", mx_nms, ⟨by decide +kernel, by decide +kernel, by decide +kernel, by decide +kernel⟩, dX10_needPlainRow_10, dX10_needPlainRow_13, Or.inr ⟨dX10_needPlainRow_14, dX10_needPlainRow_17, dX10_needPlainRow_20⟩, rfl, by decide +kernel, mx_nms_fit, w_580, w_35, at_RX10_279, rfl, by decide, by decide⟩
theorem lf_Y10_needPlainRow_12 : mx_lf Y10_needPlainRow 12 10 0 := ⟨_, _, _, rfl, by decide, u_10, w_257⟩
theorem k_Y10_add_81 : mx_kV Y10_add Y10_needPlainRow 81 0 := ⟨⟨wc_Y10_needPlainRow, w_19, ⟨by decide, by decide⟩, by decide +kernel, by decide, by decide⟩, rfl, w_567, w_569, w_11⟩
theorem k_Y10_add_84 : mx_kV Y10_add Y2_hasRoom 84 0 := ⟨⟨wc_Y2_hasRoom, w_21, ⟨by decide, by decide⟩, by decide +kernel, by decide, by decide⟩, rfl, w_596, w_597, w_598⟩
theorem k_Y10_add_90 : mx_kV Y10_add Y2_takeIn 90 1 := ⟨⟨wc_Y2_takeIn, w_21, ⟨by decide, by decide⟩, by decide +kernel, by decide, by decide⟩, rfl, w_602, w_603, w_604⟩
theorem k_Y10_add_78 : mx_kV Y10_add Y6_empty 78 0 := ⟨⟨wc_Y6_empty, w_20, ⟨by decide, by decide⟩, by decide +kernel, by decide, by decide⟩, rfl, w_633, w_634, w_635⟩
theorem pf_Y10_add_94 : mx_pf Y10_add 94 10 7 .int := ⟨_, _, _, _, rfl, by decide, u_10, w_264, tyX10_ok, nmX10, by decide +kernel, Or.inl rfl⟩
theorem lf_Y10_add_94 : mx_lf Y10_add 94 10 7 := ⟨_, _, _, rfl, by decide, u_10, w_264⟩
theorem lf_Y10_add_12 : mx_lf Y10_add 12 10 0 := ⟨_, _, _, rfl, by decide, u_10, w_257⟩
theorem lf_Y10_add_19 : mx_lf Y10_add 19 10 1 := ⟨_, _, _, rfl, by decide, u_10, w_258⟩
theorem tn_Y10_add_14 : mx_tn Y10_add 14 "java/lang/IllegalStateException" := ⟨69, 88, 73, 2, 7, prog_20_method_2_code, "no more documents", mx_nms, ⟨by decide +kernel, by decide +kernel, by decide +kernel, by decide +kernel⟩, dX10_add_14, dX10_add_17, Or.inl ⟨dX10_add_18, dX10_add_20, dX10_add_23⟩, rfl, by decide +kernel, mx_nms_fit, w_537, w_36, at_RX10_73, rfl, by decide, by decide⟩
theorem k_Y10_neededSlot_141 : mx_kV Y10_neededSlot Y8_slotOf 141 1 := ⟨⟨wc_Y8_slotOf, w_23, ⟨by decide, by decide⟩, by decide +kernel, by decide, by decide⟩, rfl, w_652, w_653, w_654⟩
theorem tn_Y10_neededSlot_11 : mx_tn Y10_neededSlot 11 "java/lang/IndexOutOfBoundsException" := ⟨163, 398, 167, 12, 7, prog_21_method_2_code, "no such document", mx_nms, ⟨by decide +kernel, by decide +kernel, by decide +kernel, by decide +kernel⟩, dX10_neededSlot_11, dX10_neededSlot_14, Or.inr ⟨dX10_neededSlot_15, dX10_neededSlot_18, dX10_neededSlot_21⟩, rfl, by decide +kernel, mx_nms_fit, w_306, w_34, at_RX10_167, rfl, by decide, by decide⟩
theorem k_Y10_insert_98 : mx_kV Y10_insert Y2_present 98 0 := ⟨⟨wc_Y2_present, w_21, ⟨by decide, by decide⟩, by decide +kernel, by decide, by decide⟩, rfl, w_645, w_646, w_647⟩
theorem k_Y10_insert_102 : mx_kV Y10_insert Y9_texts 102 0 := ⟨⟨wc_Y9_texts, w_22, ⟨by decide, by decide⟩, by decide +kernel, by decide, by decide⟩, rfl, w_424, w_425, w_426⟩
theorem k_Y10_insert_108 : mx_kS Y10_insert Y10_neededSlot 108 2 := ⟨⟨wc_Y10_neededSlot, w_19, ⟨by decide, by decide⟩, by decide +kernel, by decide, by decide⟩, rfl, w_649, w_650⟩
theorem k_Y10_insert_81 : mx_kV Y10_insert Y10_needPlainRow 81 0 := ⟨⟨wc_Y10_needPlainRow, w_19, ⟨by decide, by decide⟩, by decide +kernel, by decide, by decide⟩, rfl, w_567, w_569, w_11⟩
theorem k_Y10_insert_112 : mx_kV Y10_insert Y8_sizeAt 112 1 := ⟨⟨wc_Y8_sizeAt, w_23, ⟨by decide, by decide⟩, by decide +kernel, by decide, by decide⟩, rfl, w_658, w_385, w_386⟩
theorem k_Y10_insert_65 : mx_kV Y10_insert Y6_size 65 0 := ⟨⟨wc_Y6_size, w_20, ⟨by decide, by decide⟩, by decide +kernel, by decide, by decide⟩, rfl, w_533, w_534, w_535⟩
theorem k_Y10_insert_120 : mx_kV Y10_insert Y2_widen 120 3 := ⟨⟨wc_Y2_widen, w_21, ⟨by decide, by decide⟩, by decide +kernel, by decide, by decide⟩, rfl, w_660, w_661, w_662⟩
theorem k_Y10_insert_78 : mx_kV Y10_insert Y6_empty 78 0 := ⟨⟨wc_Y6_empty, w_20, ⟨by decide, by decide⟩, by decide +kernel, by decide, by decide⟩, rfl, w_633, w_634, w_635⟩
theorem pf_Y10_insert_94 : mx_pf Y10_insert 94 10 7 .int := ⟨_, _, _, _, rfl, by decide, u_10, w_264, tyX10_ok, nmX10, by decide +kernel, Or.inl rfl⟩
theorem lf_Y10_insert_94 : mx_lf Y10_insert 94 10 7 := ⟨_, _, _, rfl, by decide, u_10, w_264⟩
theorem lf_Y10_insert_12 : mx_lf Y10_insert 12 10 0 := ⟨_, _, _, rfl, by decide, u_10, w_257⟩
theorem lf_Y10_insert_19 : mx_lf Y10_insert 19 10 1 := ⟨_, _, _, rfl, by decide, u_10, w_258⟩
theorem tn_Y10_insert_55 : mx_tn Y10_insert 55 "java/lang/IllegalArgumentException" := ⟨58, 118, 62, 3, 7, prog_19_method_2_code, "no such place, or too many letters", mx_nms, ⟨by decide +kernel, by decide +kernel, by decide +kernel, by decide +kernel⟩, dX10_insert_55, dX10_insert_58, Or.inl ⟨dX10_insert_59, dX10_insert_61, dX10_insert_64⟩, rfl, by decide +kernel, mx_nms_fit, w_517, w_39, at_RX10_62, rfl, by decide, by decide⟩
theorem k_Y10_neededView_390 : mx_kV Y10_neededView Y2_viewOf 390 1 := ⟨⟨wc_Y2_viewOf, w_21, ⟨by decide, by decide⟩, by decide +kernel, by decide, by decide⟩, rfl, w_294, w_295, w_296⟩
theorem tn_Y10_neededView_13 : mx_tn Y10_neededView 13 "java/lang/IndexOutOfBoundsException" := ⟨163, 393, 167, 11, 7, prog_21_method_2_code, "no such view", mx_nms, ⟨by decide +kernel, by decide +kernel, by decide +kernel, by decide +kernel⟩, dX10_neededView_13, dX10_neededView_16, Or.inr ⟨dX10_neededView_17, dX10_neededView_20, dX10_neededView_23⟩, rfl, by decide +kernel, mx_nms_fit, w_306, w_34, at_RX10_167, rfl, by decide, by decide⟩
theorem lf_Y10_neededView_19 : mx_lf Y10_neededView 19 10 1 := ⟨_, _, _, rfl, by decide, u_10, w_258⟩
theorem k_Y10_documents_137 : mx_kV Y10_documents Y10_neededView 137 1 := ⟨⟨wc_Y10_neededView, w_19, ⟨by decide, by decide⟩, by decide +kernel, by decide, by decide⟩, rfl, w_290, w_292, w_1⟩
theorem k_Y10_documents_102 : mx_kV Y10_documents Y9_texts 102 0 := ⟨⟨wc_Y9_texts, w_22, ⟨by decide, by decide⟩, by decide +kernel, by decide, by decide⟩, rfl, w_424, w_425, w_426⟩
theorem k_Y10_documents_134 : mx_kV Y10_documents Y8_many 134 0 := ⟨⟨wc_Y8_many, w_23, ⟨by decide, by decide⟩, by decide +kernel, by decide, by decide⟩, rfl, w_683, w_381, w_382⟩
theorem k_Y10_lengthOf_137 : mx_kV Y10_lengthOf Y10_neededView 137 1 := ⟨⟨wc_Y10_neededView, w_19, ⟨by decide, by decide⟩, by decide +kernel, by decide, by decide⟩, rfl, w_290, w_292, w_1⟩
theorem k_Y10_lengthOf_102 : mx_kV Y10_lengthOf Y9_texts 102 0 := ⟨⟨wc_Y9_texts, w_22, ⟨by decide, by decide⟩, by decide +kernel, by decide, by decide⟩, rfl, w_424, w_425, w_426⟩
theorem k_Y10_lengthOf_108 : mx_kS Y10_lengthOf Y10_neededSlot 108 2 := ⟨⟨wc_Y10_neededSlot, w_19, ⟨by decide, by decide⟩, by decide +kernel, by decide, by decide⟩, rfl, w_649, w_650⟩
theorem k_Y10_lengthOf_112 : mx_kV Y10_lengthOf Y8_sizeAt 112 1 := ⟨⟨wc_Y8_sizeAt, w_23, ⟨by decide, by decide⟩, by decide +kernel, by decide, by decide⟩, rfl, w_658, w_385, w_386⟩
theorem k_Y10_snapshot_152 : mx_kV Y10_snapshot Y2_canTake 152 0 := ⟨⟨wc_Y2_canTake, w_21, ⟨by decide, by decide⟩, by decide +kernel, by decide, by decide⟩, rfl, w_698, w_699, w_700⟩
theorem k_Y10_snapshot_157 : mx_kV Y10_snapshot Y2_take 157 0 := ⟨⟨wc_Y2_take, w_21, ⟨by decide, by decide⟩, by decide +kernel, by decide, by decide⟩, rfl, w_707, w_708, w_709⟩
theorem pf_Y10_snapshot_94 : mx_pf Y10_snapshot 94 10 7 .int := ⟨_, _, _, _, rfl, by decide, u_10, w_264, tyX10_ok, nmX10, by decide +kernel, Or.inl rfl⟩
theorem lf_Y10_snapshot_94 : mx_lf Y10_snapshot 94 10 7 := ⟨_, _, _, rfl, by decide, u_10, w_264⟩
theorem lf_Y10_snapshot_19 : mx_lf Y10_snapshot 19 10 1 := ⟨_, _, _, rfl, by decide, u_10, w_258⟩
theorem tn_Y10_snapshot_10 : mx_tn Y10_snapshot 10 "java/lang/IllegalStateException" := ⟨69, 155, 73, 4, 7, prog_20_method_2_code, "no more snapshots", mx_nms, ⟨by decide +kernel, by decide +kernel, by decide +kernel, by decide +kernel⟩, dX10_snapshot_10, dX10_snapshot_13, Or.inl ⟨dX10_snapshot_14, dX10_snapshot_16, dX10_snapshot_19⟩, rfl, by decide +kernel, mx_nms_fit, w_537, w_36, at_RX10_73, rfl, by decide, by decide⟩
theorem k_Y10_orderedView_137 : mx_kV Y10_orderedView Y10_neededView 137 1 := ⟨⟨wc_Y10_neededView, w_19, ⟨by decide, by decide⟩, by decide +kernel, by decide, by decide⟩, rfl, w_290, w_292, w_1⟩
theorem k_Y10_orderedView_395 : mx_kV Y10_orderedView Y9_putInOrder 395 0 := ⟨⟨wc_Y9_putInOrder, w_22, ⟨by decide, by decide⟩, by decide +kernel, by decide, by decide⟩, rfl, w_376, w_377, w_378⟩
theorem k_Y10_needRank_102 : mx_kV Y10_needRank Y9_texts 102 0 := ⟨⟨wc_Y9_texts, w_22, ⟨by decide, by decide⟩, by decide +kernel, by decide, by decide⟩, rfl, w_424, w_425, w_426⟩
theorem k_Y10_needRank_215 : mx_kV Y10_needRank Y8_places 215 0 := ⟨⟨wc_Y8_places, w_23, ⟨by decide, by decide⟩, by decide +kernel, by decide, by decide⟩, rfl, w_428, w_429, w_430⟩
theorem tn_Y10_needRank_15 : mx_tn Y10_needRank 15 "java/util/NoSuchElementException" := ⟨250, 218, 254, 7, 13, prog_29_method_4_code, "no such rank", mx_nms, ⟨by decide +kernel, by decide +kernel, by decide +kernel, by decide +kernel⟩, dX10_needRank_15, dX10_needRank_18, Or.inl ⟨dX10_needRank_19, dX10_needRank_21, dX10_needRank_24⟩, rfl, by decide +kernel, mx_nms_fit, w_433, w_38, at_RX10_254, rfl, by decide, by decide⟩
theorem k_Y10_suffixAt_178 : mx_kV Y10_suffixAt Y10_orderedView 178 1 := ⟨⟨wc_Y10_orderedView, w_19, ⟨by decide, by decide⟩, by decide +kernel, by decide, by decide⟩, rfl, w_286, w_288, w_0⟩
theorem k_Y10_suffixAt_181 : mx_kS Y10_suffixAt Y10_needRank 181 2 := ⟨⟨wc_Y10_needRank, w_19, ⟨by decide, by decide⟩, by decide +kernel, by decide, by decide⟩, rfl, w_728, w_729⟩
theorem tn_Y10_suffixAt_60 : mx_tn Y10_suffixAt 60 "java/lang/IllegalArgumentException" := ⟨58, 197, 62, 5, 7, prog_19_method_2_code, "no such thing", mx_nms, ⟨by decide +kernel, by decide +kernel, by decide +kernel, by decide +kernel⟩, dX10_suffixAt_60, dX10_suffixAt_63, Or.inl ⟨dX10_suffixAt_64, dX10_suffixAt_66, dX10_suffixAt_69⟩, rfl, by decide +kernel, mx_nms_fit, w_517, w_39, at_RX10_62, rfl, by decide, by decide⟩
theorem k_Y10_suffixAt_194 : mx_kV Y10_suffixAt Y9_commonAt 194 1 := ⟨⟨wc_Y9_commonAt, w_22, ⟨by decide, by decide⟩, by decide +kernel, by decide, by decide⟩, rfl, w_735, w_736, w_737⟩
theorem k_Y10_suffixAt_191 : mx_kV Y10_suffixAt Y9_placeAt 191 1 := ⟨⟨wc_Y9_placeAt, w_22, ⟨by decide, by decide⟩, by decide +kernel, by decide, by decide⟩, rfl, w_734, w_420, w_421⟩
theorem k_Y10_suffixAt_102 : mx_kV Y10_suffixAt Y9_texts 102 0 := ⟨⟨wc_Y9_texts, w_22, ⟨by decide, by decide⟩, by decide +kernel, by decide, by decide⟩, rfl, w_424, w_425, w_426⟩
theorem k_Y10_suffixAt_185 : mx_kV Y10_suffixAt Y9_slotAt 185 1 := ⟨⟨wc_Y9_slotAt, w_22, ⟨by decide, by decide⟩, by decide +kernel, by decide, by decide⟩, rfl, w_732, w_412, w_413⟩
theorem k_Y10_suffixAt_188 : mx_kV Y10_suffixAt Y8_numberAt 188 1 := ⟨⟨wc_Y8_numberAt, w_23, ⟨by decide, by decide⟩, by decide +kernel, by decide, by decide⟩, rfl, w_733, w_495, w_496⟩
theorem k_Y10_needPlace_112 : mx_kV Y10_needPlace Y8_sizeAt 112 1 := ⟨⟨wc_Y8_sizeAt, w_23, ⟨by decide, by decide⟩, by decide +kernel, by decide, by decide⟩, rfl, w_658, w_385, w_386⟩
theorem tn_Y10_needPlace_13 : mx_tn Y10_needPlace 13 "java/util/NoSuchElementException" := ⟨250, 400, 254, 13, 13, prog_29_method_4_code, "no such place", mx_nms, ⟨by decide +kernel, by decide +kernel, by decide +kernel, by decide +kernel⟩, dX10_needPlace_13, dX10_needPlace_16, Or.inr ⟨dX10_needPlace_17, dX10_needPlace_20, dX10_needPlace_23⟩, rfl, by decide +kernel, mx_nms_fit, w_433, w_38, at_RX10_254, rfl, by decide, by decide⟩
theorem k_Y10_rankOf_178 : mx_kV Y10_rankOf Y10_orderedView 178 1 := ⟨⟨wc_Y10_orderedView, w_19, ⟨by decide, by decide⟩, by decide +kernel, by decide, by decide⟩, rfl, w_286, w_288, w_0⟩
theorem k_Y10_rankOf_102 : mx_kV Y10_rankOf Y9_texts 102 0 := ⟨⟨wc_Y9_texts, w_22, ⟨by decide, by decide⟩, by decide +kernel, by decide, by decide⟩, rfl, w_424, w_425, w_426⟩
theorem k_Y10_rankOf_108 : mx_kS Y10_rankOf Y10_neededSlot 108 2 := ⟨⟨wc_Y10_neededSlot, w_19, ⟨by decide, by decide⟩, by decide +kernel, by decide, by decide⟩, rfl, w_649, w_650⟩
theorem k_Y10_rankOf_144 : mx_kS Y10_rankOf Y10_needPlace 144 3 := ⟨⟨wc_Y10_needPlace, w_19, ⟨by decide, by decide⟩, by decide +kernel, by decide, by decide⟩, rfl, w_747, w_748⟩
theorem k_Y10_rankOf_199 : mx_kV Y10_rankOf Y9_rankAt 199 2 := ⟨⟨wc_Y9_rankAt, w_22, ⟨by decide, by decide⟩, by decide +kernel, by decide, by decide⟩, rfl, w_751, w_473, w_474⟩
theorem k_Y10_turned_178 : mx_kV Y10_turned Y10_orderedView 178 1 := ⟨⟨wc_Y10_orderedView, w_19, ⟨by decide, by decide⟩, by decide +kernel, by decide, by decide⟩, rfl, w_286, w_288, w_0⟩
theorem k_Y10_turned_181 : mx_kS Y10_turned Y10_needRank 181 2 := ⟨⟨wc_Y10_needRank, w_19, ⟨by decide, by decide⟩, by decide +kernel, by decide, by decide⟩, rfl, w_728, w_729⟩
theorem k_Y10_turned_203 : mx_kV Y10_turned Y9_turnedAt 203 1 := ⟨⟨wc_Y9_turnedAt, w_22, ⟨by decide, by decide⟩, by decide +kernel, by decide, by decide⟩, rfl, w_759, w_455, w_456⟩
theorem k_Y10_runs_178 : mx_kV Y10_runs Y10_orderedView 178 1 := ⟨⟨wc_Y10_orderedView, w_19, ⟨by decide, by decide⟩, by decide +kernel, by decide, by decide⟩, rfl, w_286, w_288, w_0⟩
theorem k_Y10_runs_207 : mx_kV Y10_runs Y9_runsOfTurned 207 0 := ⟨⟨wc_Y9_runsOfTurned, w_22, ⟨by decide, by decide⟩, by decide +kernel, by decide, by decide⟩, rfl, w_449, w_450, w_451⟩
theorem k_Y10_ahead_178 : mx_kV Y10_ahead Y10_orderedView 178 1 := ⟨⟨wc_Y10_orderedView, w_19, ⟨by decide, by decide⟩, by decide +kernel, by decide, by decide⟩, rfl, w_286, w_288, w_0⟩
theorem k_Y10_ahead_210 : mx_kS Y10_ahead Y10_isLetter 210 1 := ⟨⟨wc_Y10_isLetter, w_19, ⟨by decide, by decide⟩, by decide +kernel, by decide, by decide⟩, rfl, w_514, w_515⟩
theorem tn_Y10_ahead_20 : mx_tn Y10_ahead 20 "java/lang/IllegalArgumentException" := ⟨58, 213, 62, 6, 7, prog_19_method_2_code, "no such letter", mx_nms, ⟨by decide +kernel, by decide +kernel, by decide +kernel, by decide +kernel⟩, dX10_ahead_20, dX10_ahead_23, Or.inl ⟨dX10_ahead_24, dX10_ahead_26, dX10_ahead_29⟩, rfl, by decide +kernel, mx_nms_fit, w_517, w_39, at_RX10_62, rfl, by decide, by decide⟩
theorem k_Y10_ahead_102 : mx_kV Y10_ahead Y9_texts 102 0 := ⟨⟨wc_Y9_texts, w_22, ⟨by decide, by decide⟩, by decide +kernel, by decide, by decide⟩, rfl, w_424, w_425, w_426⟩
theorem k_Y10_ahead_215 : mx_kV Y10_ahead Y8_places 215 0 := ⟨⟨wc_Y8_places, w_23, ⟨by decide, by decide⟩, by decide +kernel, by decide, by decide⟩, rfl, w_428, w_429, w_430⟩
theorem k_Y10_ahead_220 : mx_kV Y10_ahead Y9_turnedAhead 220 2 := ⟨⟨wc_Y9_turnedAhead, w_22, ⟨by decide, by decide⟩, by decide +kernel, by decide, by decide⟩, rfl, w_775, w_776, w_777⟩
theorem tn_Y10_ahead_46 : mx_tn Y10_ahead 46 "java/lang/IllegalArgumentException" := ⟨58, 218, 62, 7, 7, prog_19_method_2_code, "no such rank", mx_nms, ⟨by decide +kernel, by decide +kernel, by decide +kernel, by decide +kernel⟩, dX10_ahead_46, dX10_ahead_49, Or.inl ⟨dX10_ahead_50, dX10_ahead_52, dX10_ahead_55⟩, rfl, by decide +kernel, mx_nms_fit, w_517, w_39, at_RX10_62, rfl, by decide, by decide⟩
theorem k_Y10_interval_137 : mx_kV Y10_interval Y10_neededView 137 1 := ⟨⟨wc_Y10_neededView, w_19, ⟨by decide, by decide⟩, by decide +kernel, by decide, by decide⟩, rfl, w_290, w_292, w_1⟩
theorem k_Y10_interval_81 : mx_kV Y10_interval Y10_needPlainRow 81 0 := ⟨⟨wc_Y10_needPlainRow, w_19, ⟨by decide, by decide⟩, by decide +kernel, by decide, by decide⟩, rfl, w_567, w_569, w_11⟩
theorem k_Y10_interval_65 : mx_kV Y10_interval Y6_size 65 0 := ⟨⟨wc_Y6_size, w_20, ⟨by decide, by decide⟩, by decide +kernel, by decide, by decide⟩, rfl, w_533, w_534, w_535⟩
theorem k_Y10_interval_226 : mx_kV Y10_interval Y9_boundOf 226 3 := ⟨⟨wc_Y9_boundOf, w_22, ⟨by decide, by decide⟩, by decide +kernel, by decide, by decide⟩, rfl, w_825, w_826, w_827⟩
theorem lf_Y10_interval_12 : mx_lf Y10_interval 12 10 0 := ⟨_, _, _, rfl, by decide, u_10, w_257⟩
theorem tn_Y10_interval_26 : mx_tn Y10_interval 26 "java/lang/IllegalArgumentException" := ⟨58, 224, 62, 8, 7, prog_19_method_2_code, "not so many steps", mx_nms, ⟨by decide +kernel, by decide +kernel, by decide +kernel, by decide +kernel⟩, dX10_interval_26, dX10_interval_29, Or.inl ⟨dX10_interval_30, dX10_interval_32, dX10_interval_35⟩, rfl, by decide +kernel, mx_nms_fit, w_517, w_39, at_RX10_62, rfl, by decide, by decide⟩
theorem k_Y10_needSimpleRow_407 : mx_kV Y10_needSimpleRow Y6_isSimple 407 0 := ⟨⟨wc_Y6_isSimple, w_20, ⟨by decide, by decide⟩, by decide +kernel, by decide, by decide⟩, rfl, w_790, w_791, w_792⟩
theorem tn_Y10_needSimpleRow_10 : mx_tn Y10_needSimpleRow 10 "java/lang/UnsupportedOperationException" := ⟨275, 410, 279, 15, 7, prog_27_method_2_code, "the row is not simple", mx_nms, ⟨by decide +kernel, by decide +kernel, by decide +kernel, by decide +kernel⟩, dX10_needSimpleRow_10, dX10_needSimpleRow_13, Or.inr ⟨dX10_needSimpleRow_14, dX10_needSimpleRow_17, dX10_needSimpleRow_20⟩, rfl, by decide +kernel, mx_nms_fit, w_580, w_35, at_RX10_279, rfl, by decide, by decide⟩
theorem lf_Y10_needSimpleRow_12 : mx_lf Y10_needSimpleRow 12 10 0 := ⟨_, _, _, rfl, by decide, u_10, w_257⟩
theorem k_Y10_count_137 : mx_kV Y10_count Y10_neededView 137 1 := ⟨⟨wc_Y10_neededView, w_19, ⟨by decide, by decide⟩, by decide +kernel, by decide, by decide⟩, rfl, w_290, w_292, w_1⟩
theorem k_Y10_count_102 : mx_kV Y10_count Y9_texts 102 0 := ⟨⟨wc_Y9_texts, w_22, ⟨by decide, by decide⟩, by decide +kernel, by decide, by decide⟩, rfl, w_424, w_425, w_426⟩
theorem k_Y10_count_230 : mx_kV Y10_count Y10_needSimpleRow 230 0 := ⟨⟨wc_Y10_needSimpleRow, w_19, ⟨by decide, by decide⟩, by decide +kernel, by decide, by decide⟩, rfl, w_786, w_788, w_15⟩
theorem k_Y10_count_233 : mx_kV Y10_count Y8_timesOf 233 1 := ⟨⟨wc_Y8_timesOf, w_23, ⟨by decide, by decide⟩, by decide +kernel, by decide, by decide⟩, rfl, w_795, w_796, w_797⟩
theorem lf_Y10_count_12 : mx_lf Y10_count 12 10 0 := ⟨_, _, _, rfl, by decide, u_10, w_257⟩
theorem k_Y10_found_137 : mx_kV Y10_found Y10_neededView 137 1 := ⟨⟨wc_Y10_neededView, w_19, ⟨by decide, by decide⟩, by decide +kernel, by decide, by decide⟩, rfl, w_290, w_292, w_1⟩
theorem k_Y10_found_102 : mx_kV Y10_found Y9_texts 102 0 := ⟨⟨wc_Y9_texts, w_22, ⟨by decide, by decide⟩, by decide +kernel, by decide, by decide⟩, rfl, w_424, w_425, w_426⟩
theorem k_Y10_found_230 : mx_kV Y10_found Y10_needSimpleRow 230 0 := ⟨⟨wc_Y10_needSimpleRow, w_19, ⟨by decide, by decide⟩, by decide +kernel, by decide, by decide⟩, rfl, w_786, w_788, w_15⟩
theorem k_Y10_found_134 : mx_kV Y10_found Y8_many 134 0 := ⟨⟨wc_Y8_many, w_23, ⟨by decide, by decide⟩, by decide +kernel, by decide, by decide⟩, rfl, w_683, w_381, w_382⟩
theorem k_Y10_found_236 : mx_kV Y10_found Y8_placesOf 236 2 := ⟨⟨wc_Y8_placesOf, w_23, ⟨by decide, by decide⟩, by decide +kernel, by decide, by decide⟩, rfl, w_840, w_800, w_801⟩
theorem k_Y10_found_240 : mx_kS Y10_found YJ13_bitCount_95d88 240 1 := ⟨⟨wc_YJ13_bitCount_95d88, w_40, ⟨by decide, by decide⟩, by decide +kernel, by decide, by decide⟩, rfl, w_841, w_812⟩
theorem k_Y10_found_188 : mx_kV Y10_found Y8_numberAt 188 1 := ⟨⟨wc_Y8_numberAt, w_23, ⟨by decide, by decide⟩, by decide +kernel, by decide, by decide⟩, rfl, w_733, w_495, w_496⟩
theorem k_Y10_found_246 : mx_kS Y10_found Y10_placeOfBit 246 2 := ⟨⟨wc_Y10_placeOfBit, w_19, ⟨by decide, by decide⟩, by decide +kernel, by decide, by decide⟩, rfl, w_842, w_843⟩
theorem lf_Y10_found_12 : mx_lf Y10_found 12 10 0 := ⟨_, _, _, rfl, by decide, u_10, w_257⟩
theorem tn_Y10_found_97 : mx_tn Y10_found 97 "java/util/NoSuchElementException" := ⟨250, 252, 254, 9, 13, prog_29_method_4_code, "not found so often", mx_nms, ⟨by decide +kernel, by decide +kernel, by decide +kernel, by decide +kernel⟩, dX10_found_97, dX10_found_100, Or.inl ⟨dX10_found_101, dX10_found_103, dX10_found_106⟩, rfl, by decide +kernel, mx_nms_fit, w_433, w_38, at_RX10_254, rfl, by decide, by decide⟩
theorem k_Y10_runShare_178 : mx_kV Y10_runShare Y10_orderedView 178 1 := ⟨⟨wc_Y10_orderedView, w_19, ⟨by decide, by decide⟩, by decide +kernel, by decide, by decide⟩, rfl, w_286, w_288, w_0⟩
theorem k_Y10_runShare_102 : mx_kV Y10_runShare Y9_texts 102 0 := ⟨⟨wc_Y9_texts, w_22, ⟨by decide, by decide⟩, by decide +kernel, by decide, by decide⟩, rfl, w_424, w_425, w_426⟩
theorem k_Y10_runShare_215 : mx_kV Y10_runShare Y8_places 215 0 := ⟨⟨wc_Y8_places, w_23, ⟨by decide, by decide⟩, by decide +kernel, by decide, by decide⟩, rfl, w_428, w_429, w_430⟩
theorem k_Y10_runShare_207 : mx_kV Y10_runShare Y9_runsOfTurned 207 0 := ⟨⟨wc_Y9_runsOfTurned, w_22, ⟨by decide, by decide⟩, by decide +kernel, by decide, by decide⟩, rfl, w_449, w_450, w_451⟩
theorem tn_Y10_runShare_19 : mx_tn Y10_runShare 19 "java/util/NoSuchElementException" := ⟨250, 380, 254, 10, 13, prog_29_method_4_code, "no letters", mx_nms, ⟨by decide +kernel, by decide +kernel, by decide +kernel, by decide +kernel⟩, dX10_runShare_19, dX10_runShare_22, Or.inr ⟨dX10_runShare_23, dX10_runShare_26, dX10_runShare_29⟩, rfl, by decide +kernel, mx_nms_fit, w_433, w_38, at_RX10_254, rfl, by decide, by decide⟩
theorem k_Y10_isSound_387 : mx_kV Y10_isSound Y2_isWhole 387 0 := ⟨⟨wc_Y2_isWhole, w_21, ⟨by decide, by decide⟩, by decide +kernel, by decide, by decide⟩, rfl, w_463, w_464, w_465⟩
theorem lf_Y10_isSound_19 : mx_lf Y10_isSound 19 10 1 := ⟨_, _, _, rfl, by decide, u_10, w_258⟩
theorem k_YL_type_9 : mx_kV YL_type Y10_type 9 1 := ⟨⟨wc_Y10_type, w_19, ⟨by decide, by decide⟩, by decide +kernel, by decide, by decide⟩, rfl, w_507, w_508, w_509⟩
theorem ch_YL_type_2_0 : mx_ch YL_type 2 "java/lang/IllegalArgumentException" 6 := ⟨[], ⟨0, 5, 6, 15⟩, [⟨0, 5, 10, 18⟩], "java/lang/IllegalArgumentException", rfl, (fun z hz => by cases hz), by decide, by decide, w_505, w_519, rfl⟩
theorem ch_YL_type_2_1 : mx_ch YL_type 2 "java/lang/IllegalStateException" 10 := ⟨[⟨0, 5, 6, 15⟩], ⟨0, 5, 10, 18⟩, [], "java/lang/IllegalStateException", rfl, (List.forall_mem_cons.mpr ⟨Or.inr ⟨by decide, "java/lang/IllegalArgumentException", w_505, by decide⟩, (fun _ h => nomatch h)⟩), by decide, by decide, w_506, w_539, rfl⟩
theorem k_YL_add_21 : mx_kV YL_add Y10_add 21 0 := ⟨⟨wc_Y10_add, w_19, ⟨by decide, by decide⟩, by decide +kernel, by decide, by decide⟩, rfl, w_563, w_564, w_565⟩
theorem ch_YL_add_1_0 : mx_ch YL_add 1 "java/lang/UnsupportedOperationException" 5 := ⟨[], ⟨0, 4, 5, 25⟩, [⟨0, 4, 9, 18⟩], "java/lang/UnsupportedOperationException", rfl, (fun z hz => by cases hz), by decide, by decide, w_562, w_582, rfl⟩
theorem ch_YL_add_1_1 : mx_ch YL_add 1 "java/lang/IllegalStateException" 9 := ⟨[⟨0, 4, 5, 25⟩], ⟨0, 4, 9, 18⟩, [], "java/lang/IllegalStateException", rfl, (List.forall_mem_cons.mpr ⟨Or.inr ⟨by decide, "java/lang/UnsupportedOperationException", w_562, by decide⟩, (fun _ h => nomatch h)⟩), by decide, by decide, w_506, w_539, rfl⟩
theorem k_YL_insert_27 : mx_kV YL_insert Y10_insert 27 2 := ⟨⟨wc_Y10_insert, w_19, ⟨by decide, by decide⟩, by decide +kernel, by decide, by decide⟩, rfl, w_641, w_642, w_643⟩
theorem ch_YL_insert_3_0 : mx_ch YL_insert 3 "java/lang/IndexOutOfBoundsException" 7 := ⟨[], ⟨0, 6, 7, 31⟩, [⟨0, 6, 11, 25⟩, ⟨0, 6, 15, 15⟩], "java/lang/IndexOutOfBoundsException", rfl, (fun z hz => by cases hz), by decide, by decide, w_640, w_308, rfl⟩
theorem ch_YL_insert_3_1 : mx_ch YL_insert 3 "java/lang/UnsupportedOperationException" 11 := ⟨[⟨0, 6, 7, 31⟩], ⟨0, 6, 11, 25⟩, [⟨0, 6, 15, 15⟩], "java/lang/UnsupportedOperationException", rfl, (List.forall_mem_cons.mpr ⟨Or.inr ⟨by decide, "java/lang/IndexOutOfBoundsException", w_640, by decide⟩, (fun _ h => nomatch h)⟩), by decide, by decide, w_562, w_582, rfl⟩
theorem ch_YL_insert_3_2 : mx_ch YL_insert 3 "java/lang/IllegalArgumentException" 15 := ⟨[⟨0, 6, 7, 31⟩, ⟨0, 6, 11, 25⟩], ⟨0, 6, 15, 15⟩, [], "java/lang/IllegalArgumentException", rfl, (List.forall_mem_cons.mpr ⟨Or.inr ⟨by decide, "java/lang/IndexOutOfBoundsException", w_640, by decide⟩, (List.forall_mem_cons.mpr ⟨Or.inr ⟨by decide, "java/lang/UnsupportedOperationException", w_562, by decide⟩, (fun _ h => nomatch h)⟩)⟩), by decide, by decide, w_505, w_519, rfl⟩
theorem k_YL_documents_34 : mx_kV YL_documents Y10_documents 34 1 := ⟨⟨wc_Y10_documents, w_19, ⟨by decide, by decide⟩, by decide +kernel, by decide, by decide⟩, rfl, w_679, w_680, w_681⟩
theorem ch_YL_documents_2_0 : mx_ch YL_documents 2 "java/lang/IndexOutOfBoundsException" 6 := ⟨[], ⟨0, 5, 6, 31⟩, [], "java/lang/IndexOutOfBoundsException", rfl, (fun z hz => by cases hz), by decide, by decide, w_640, w_308, rfl⟩
theorem k_YL_lengthOf_38 : mx_kV YL_lengthOf Y10_lengthOf 38 2 := ⟨⟨wc_Y10_lengthOf, w_19, ⟨by decide, by decide⟩, by decide +kernel, by decide, by decide⟩, rfl, w_687, w_688, w_689⟩
theorem ch_YL_lengthOf_3_0 : mx_ch YL_lengthOf 3 "java/lang/IndexOutOfBoundsException" 7 := ⟨[], ⟨0, 6, 7, 31⟩, [], "java/lang/IndexOutOfBoundsException", rfl, (fun z hz => by cases hz), by decide, by decide, w_640, w_308, rfl⟩
theorem k_YL_snapshot_41 : mx_kV YL_snapshot Y10_snapshot 41 0 := ⟨⟨wc_Y10_snapshot, w_19, ⟨by decide, by decide⟩, by decide +kernel, by decide, by decide⟩, rfl, w_694, w_695, w_696⟩
theorem ch_YL_snapshot_1_0 : mx_ch YL_snapshot 1 "java/lang/IllegalStateException" 5 := ⟨[], ⟨0, 4, 5, 18⟩, [], "java/lang/IllegalStateException", rfl, (fun z hz => by cases hz), by decide, by decide, w_506, w_539, rfl⟩
theorem k_YL_suffixAt_44 : mx_kV YL_suffixAt Y10_suffixAt 44 3 := ⟨⟨wc_Y10_suffixAt, w_19, ⟨by decide, by decide⟩, by decide +kernel, by decide, by decide⟩, rfl, w_724, w_725, w_726⟩
theorem ch_YL_suffixAt_4_0 : mx_ch YL_suffixAt 4 "java/lang/IndexOutOfBoundsException" 8 := ⟨[], ⟨0, 7, 8, 31⟩, [⟨0, 7, 13, 48⟩, ⟨0, 7, 18, 15⟩], "java/lang/IndexOutOfBoundsException", rfl, (fun z hz => by cases hz), by decide, by decide, w_640, w_308, rfl⟩
theorem ch_YL_suffixAt_4_1 : mx_ch YL_suffixAt 4 "java/util/NoSuchElementException" 13 := ⟨[⟨0, 7, 8, 31⟩], ⟨0, 7, 13, 48⟩, [⟨0, 7, 18, 15⟩], "java/util/NoSuchElementException", rfl, (List.forall_mem_cons.mpr ⟨Or.inr ⟨by decide, "java/lang/IndexOutOfBoundsException", w_640, by decide⟩, (fun _ h => nomatch h)⟩), by decide, by decide, w_723, w_435, rfl⟩
theorem ch_YL_suffixAt_4_2 : mx_ch YL_suffixAt 4 "java/lang/IllegalArgumentException" 18 := ⟨[⟨0, 7, 8, 31⟩, ⟨0, 7, 13, 48⟩], ⟨0, 7, 18, 15⟩, [], "java/lang/IllegalArgumentException", rfl, (List.forall_mem_cons.mpr ⟨Or.inr ⟨by decide, "java/lang/IndexOutOfBoundsException", w_640, by decide⟩, (List.forall_mem_cons.mpr ⟨Or.inr ⟨by decide, "java/util/NoSuchElementException", w_723, by decide⟩, (fun _ h => nomatch h)⟩)⟩), by decide, by decide, w_505, w_519, rfl⟩
theorem k_YL_rankOf_50 : mx_kV YL_rankOf Y10_rankOf 50 3 := ⟨⟨wc_Y10_rankOf, w_19, ⟨by decide, by decide⟩, by decide +kernel, by decide, by decide⟩, rfl, w_743, w_744, w_745⟩
theorem ch_YL_rankOf_4_0 : mx_ch YL_rankOf 4 "java/lang/IndexOutOfBoundsException" 8 := ⟨[], ⟨0, 7, 8, 31⟩, [⟨0, 7, 13, 48⟩], "java/lang/IndexOutOfBoundsException", rfl, (fun z hz => by cases hz), by decide, by decide, w_640, w_308, rfl⟩
theorem ch_YL_rankOf_4_1 : mx_ch YL_rankOf 4 "java/util/NoSuchElementException" 13 := ⟨[⟨0, 7, 8, 31⟩], ⟨0, 7, 13, 48⟩, [], "java/util/NoSuchElementException", rfl, (List.forall_mem_cons.mpr ⟨Or.inr ⟨by decide, "java/lang/IndexOutOfBoundsException", w_640, by decide⟩, (fun _ h => nomatch h)⟩), by decide, by decide, w_723, w_435, rfl⟩
theorem k_YL_turned_54 : mx_kV YL_turned Y10_turned 54 2 := ⟨⟨wc_Y10_turned, w_19, ⟨by decide, by decide⟩, by decide +kernel, by decide, by decide⟩, rfl, w_755, w_756, w_757⟩
theorem ch_YL_turned_3_0 : mx_ch YL_turned 3 "java/lang/IndexOutOfBoundsException" 7 := ⟨[], ⟨0, 6, 7, 31⟩, [⟨0, 6, 11, 48⟩], "java/lang/IndexOutOfBoundsException", rfl, (fun z hz => by cases hz), by decide, by decide, w_640, w_308, rfl⟩
theorem ch_YL_turned_3_1 : mx_ch YL_turned 3 "java/util/NoSuchElementException" 11 := ⟨[⟨0, 6, 7, 31⟩], ⟨0, 6, 11, 48⟩, [], "java/util/NoSuchElementException", rfl, (List.forall_mem_cons.mpr ⟨Or.inr ⟨by decide, "java/lang/IndexOutOfBoundsException", w_640, by decide⟩, (fun _ h => nomatch h)⟩), by decide, by decide, w_723, w_435, rfl⟩
theorem k_YL_runs_58 : mx_kV YL_runs Y10_runs 58 1 := ⟨⟨wc_Y10_runs, w_19, ⟨by decide, by decide⟩, by decide +kernel, by decide, by decide⟩, rfl, w_763, w_764, w_765⟩
theorem ch_YL_runs_2_0 : mx_ch YL_runs 2 "java/lang/IndexOutOfBoundsException" 6 := ⟨[], ⟨0, 5, 6, 31⟩, [], "java/lang/IndexOutOfBoundsException", rfl, (fun z hz => by cases hz), by decide, by decide, w_640, w_308, rfl⟩
theorem k_YL_ahead_61 : mx_kV YL_ahead Y10_ahead 61 3 := ⟨⟨wc_Y10_ahead, w_19, ⟨by decide, by decide⟩, by decide +kernel, by decide, by decide⟩, rfl, w_770, w_771, w_772⟩
theorem ch_YL_ahead_4_0 : mx_ch YL_ahead 4 "java/lang/IndexOutOfBoundsException" 8 := ⟨[], ⟨0, 7, 8, 31⟩, [⟨0, 7, 13, 15⟩], "java/lang/IndexOutOfBoundsException", rfl, (fun z hz => by cases hz), by decide, by decide, w_640, w_308, rfl⟩
theorem ch_YL_ahead_4_1 : mx_ch YL_ahead 4 "java/lang/IllegalArgumentException" 13 := ⟨[⟨0, 7, 8, 31⟩], ⟨0, 7, 13, 15⟩, [], "java/lang/IllegalArgumentException", rfl, (List.forall_mem_cons.mpr ⟨Or.inr ⟨by decide, "java/lang/IndexOutOfBoundsException", w_640, by decide⟩, (fun _ h => nomatch h)⟩), by decide, by decide, w_505, w_519, rfl⟩
theorem k_YL_count_65 : mx_kV YL_count Y10_count 65 1 := ⟨⟨wc_Y10_count, w_19, ⟨by decide, by decide⟩, by decide +kernel, by decide, by decide⟩, rfl, w_782, w_783, w_784⟩
theorem ch_YL_count_2_0 : mx_ch YL_count 2 "java/lang/IndexOutOfBoundsException" 6 := ⟨[], ⟨0, 5, 6, 31⟩, [⟨0, 5, 10, 25⟩], "java/lang/IndexOutOfBoundsException", rfl, (fun z hz => by cases hz), by decide, by decide, w_640, w_308, rfl⟩
theorem ch_YL_count_2_1 : mx_ch YL_count 2 "java/lang/UnsupportedOperationException" 10 := ⟨[⟨0, 5, 6, 31⟩], ⟨0, 5, 10, 25⟩, [], "java/lang/UnsupportedOperationException", rfl, (List.forall_mem_cons.mpr ⟨Or.inr ⟨by decide, "java/lang/IndexOutOfBoundsException", w_640, by decide⟩, (fun _ h => nomatch h)⟩), by decide, by decide, w_562, w_582, rfl⟩
theorem k_YL_interval_68 : mx_kV YL_interval Y10_interval 68 3 := ⟨⟨wc_Y10_interval, w_19, ⟨by decide, by decide⟩, by decide +kernel, by decide, by decide⟩, rfl, w_820, w_821, w_822⟩
theorem ch_YL_interval_4_0 : mx_ch YL_interval 4 "java/lang/IndexOutOfBoundsException" 8 := ⟨[], ⟨0, 7, 8, 31⟩, [⟨0, 7, 13, 25⟩, ⟨0, 7, 18, 15⟩], "java/lang/IndexOutOfBoundsException", rfl, (fun z hz => by cases hz), by decide, by decide, w_640, w_308, rfl⟩
theorem ch_YL_interval_4_1 : mx_ch YL_interval 4 "java/lang/UnsupportedOperationException" 13 := ⟨[⟨0, 7, 8, 31⟩], ⟨0, 7, 13, 25⟩, [⟨0, 7, 18, 15⟩], "java/lang/UnsupportedOperationException", rfl, (List.forall_mem_cons.mpr ⟨Or.inr ⟨by decide, "java/lang/IndexOutOfBoundsException", w_640, by decide⟩, (fun _ h => nomatch h)⟩), by decide, by decide, w_562, w_582, rfl⟩
theorem ch_YL_interval_4_2 : mx_ch YL_interval 4 "java/lang/IllegalArgumentException" 18 := ⟨[⟨0, 7, 8, 31⟩, ⟨0, 7, 13, 25⟩], ⟨0, 7, 18, 15⟩, [], "java/lang/IllegalArgumentException", rfl, (List.forall_mem_cons.mpr ⟨Or.inr ⟨by decide, "java/lang/IndexOutOfBoundsException", w_640, by decide⟩, (List.forall_mem_cons.mpr ⟨Or.inr ⟨by decide, "java/lang/UnsupportedOperationException", w_562, by decide⟩, (fun _ h => nomatch h)⟩)⟩), by decide, by decide, w_505, w_519, rfl⟩
theorem k_YL_found_72 : mx_kV YL_found Y10_found 72 3 := ⟨⟨wc_Y10_found, w_19, ⟨by decide, by decide⟩, by decide +kernel, by decide, by decide⟩, rfl, w_836, w_837, w_838⟩
theorem ch_YL_found_4_0 : mx_ch YL_found 4 "java/lang/IndexOutOfBoundsException" 8 := ⟨[], ⟨0, 7, 8, 31⟩, [⟨0, 7, 13, 25⟩, ⟨0, 7, 18, 48⟩], "java/lang/IndexOutOfBoundsException", rfl, (fun z hz => by cases hz), by decide, by decide, w_640, w_308, rfl⟩
theorem ch_YL_found_4_1 : mx_ch YL_found 4 "java/lang/UnsupportedOperationException" 13 := ⟨[⟨0, 7, 8, 31⟩], ⟨0, 7, 13, 25⟩, [⟨0, 7, 18, 48⟩], "java/lang/UnsupportedOperationException", rfl, (List.forall_mem_cons.mpr ⟨Or.inr ⟨by decide, "java/lang/IndexOutOfBoundsException", w_640, by decide⟩, (fun _ h => nomatch h)⟩), by decide, by decide, w_562, w_582, rfl⟩
theorem ch_YL_found_4_2 : mx_ch YL_found 4 "java/util/NoSuchElementException" 18 := ⟨[⟨0, 7, 8, 31⟩, ⟨0, 7, 13, 25⟩], ⟨0, 7, 18, 48⟩, [], "java/util/NoSuchElementException", rfl, (List.forall_mem_cons.mpr ⟨Or.inr ⟨by decide, "java/lang/IndexOutOfBoundsException", w_640, by decide⟩, (List.forall_mem_cons.mpr ⟨Or.inr ⟨by decide, "java/lang/UnsupportedOperationException", w_562, by decide⟩, (fun _ h => nomatch h)⟩)⟩), by decide, by decide, w_723, w_435, rfl⟩
theorem k_YL_in_75 : mx_kS YL_in YL_cell 75 2 := ⟨⟨wc_YL_cell, w_18, ⟨by decide, by decide⟩, by decide +kernel, by decide, by decide⟩, rfl, w_849, w_850⟩
theorem k_YL_typed_82 : mx_kV YL_typed Y10_wipe 82 0 := ⟨⟨wc_Y10_wipe, w_19, ⟨by decide, by decide⟩, by decide +kernel, by decide, by decide⟩, rfl, w_858, w_859, w_860⟩
theorem k_YL_typed_85 : mx_kS YL_typed YL_in 85 3 := ⟨⟨wc_YL_in, w_18, ⟨by decide, by decide⟩, by decide +kernel, by decide, by decide⟩, rfl, w_846, w_847⟩
theorem k_YL_typed_89 : mx_kSW YL_typed YL_type 89 2 := ⟨⟨wc_YL_type, w_18, ⟨by decide, by decide⟩, by decide +kernel, by decide, by decide⟩, by decide, w_502, w_503⟩
