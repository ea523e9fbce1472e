/-! one list of words for all methods: those of the tables that every call keeps -/
def gtb : List Cond := lw_tbl.filter goodWord
theorem gmem {w : Cond} (h : w ∈ lw_tbl) (hg : goodWord w = true) : w ∈ gtb := List.mem_filter.mpr ⟨h, hg⟩
theorem gtb_good {w : Cond} (h : w ∈ gtb) : (w.onTables && w.keeps) = true ∨ ∃ ty, w = .arrayClass ty := good_of_word (List.mem_filter.mp h).2
theorem gtb_in {w : Cond} (h : w ∈ gtb) : w ∈ lw_tbl := (List.mem_filter.mp h).1
abbrev WS (y : MethodName) (b : ByteArray) (n : Nat) (r : Option FieldType) : List Cond := Cond.code y b n r :: gtb
theorem gW {y : MethodName} {b : ByteArray} {n : Nat} {r : Option FieldType} (hc : Cond.code y b n r ∈ gtb) : GoodIn gtb (WS y b n r) := by
  intro w hw
  rcases List.mem_cons.mp hw with h | h
  · subst h; exact ⟨hc, gtb_good hc⟩
  · exact ⟨h, gtb_good h⟩
theorem gV {own C : String} {idx : Nat} {y : MethodName} {b : ByteArray} {n : Nat} {r : Option FieldType} (h1 : Cond.methodLink own idx y ∈ gtb) (h2 : Cond.instanceMethod y ∈ gtb) (h3 : Cond.selects C y y ∈ gtb) (h4 : Cond.initialized C ∈ gtb) (hc : Cond.code y b n r ∈ gtb) : GoodIn gtb (wsV own idx C y (WS y b n r)) := by
  intro w hw
  rcases List.mem_append.mp hw with h | h
  · simp only [List.mem_cons, List.not_mem_nil, or_false] at h
    rcases h with h | h | h | h <;> subst h
    · exact ⟨h1, gtb_good h1⟩
    · exact ⟨h2, gtb_good h2⟩
    · exact ⟨h3, gtb_good h3⟩
    · exact ⟨h4, gtb_good h4⟩
  · exact gW hc w h
theorem gS {own : String} {idx : Nat} {y : MethodName} {b : ByteArray} {n : Nat} {r : Option FieldType} (h1 : Cond.methodLink own idx y ∈ gtb) (h2 : Cond.static y ∈ gtb) (h3 : Cond.initialized y.cls ∈ gtb) (hc : Cond.code y b n r ∈ gtb) : GoodIn gtb (va_wsS own idx y (WS y b n r)) := by
  intro w hw
  rcases List.mem_append.mp hw with h | h
  · simp only [List.mem_cons, List.not_mem_nil, or_false] at h
    rcases h with h | h | h <;> subst h
    · exact ⟨h1, gtb_good h1⟩
    · exact ⟨h2, gtb_good h2⟩
    · exact ⟨h3, gtb_good h3⟩
  · exact gW hc w h
set_option maxRecDepth 100000 in
theorem tw_99 : Cond.fieldLink RX0 40 "SmudgeTally$Books" "cards" "I" ∈ gtb := gmem (List.mem_of_getElem? (i := 99) (by decide +kernel)) (by decide +kernel)
set_option maxRecDepth 100000 in
theorem tw_103 : Cond.fieldLink RX0 44 "SmudgeTally$Books" "versions" "I" ∈ gtb := gmem (List.mem_of_getElem? (i := 103) (by decide +kernel)) (by decide +kernel)
set_option maxRecDepth 100000 in
theorem tw_107 : Cond.fieldLink RX0 9 "SmudgeTally$Books" "machines" "[I" ∈ gtb := gmem (List.mem_of_getElem? (i := 107) (by decide +kernel)) (by decide +kernel)
set_option maxRecDepth 100000 in
theorem tw_368 : Cond.methodLink RX0 47 arraycopyName ∈ gtb := gmem (List.mem_of_getElem? (i := 368) (by decide +kernel)) (by decide +kernel)
set_option maxRecDepth 100000 in
theorem tw_370 : Cond.native arraycopyName ∈ gtb := gmem (List.mem_of_getElem? (i := 370) (by decide +kernel)) (by decide +kernel)
set_option maxRecDepth 100000 in
theorem tw_369 : Cond.static arraycopyName ∈ gtb := gmem (List.mem_of_getElem? (i := 369) (by decide +kernel)) (by decide +kernel)
set_option maxRecDepth 100000 in
theorem tw_67 : Cond.initialized "java/lang/System" ∈ gtb := gmem (List.mem_of_getElem? (i := 67) (by decide +kernel)) (by decide +kernel)
set_option maxRecDepth 100000 in
theorem tw_111 : Cond.fieldLink RX0 15 "SmudgeTally$Books" "cleaningsBefore" "[I" ∈ gtb := gmem (List.mem_of_getElem? (i := 111) (by decide +kernel)) (by decide +kernel)
set_option maxRecDepth 100000 in
theorem tw_115 : Cond.fieldLink RX0 18 "SmudgeTally$Books" "stages" "[I" ∈ gtb := gmem (List.mem_of_getElem? (i := 115) (by decide +kernel)) (by decide +kernel)
set_option maxRecDepth 100000 in
theorem tw_119 : Cond.fieldLink RX0 21 "SmudgeTally$Books" "rows" "[J" ∈ gtb := gmem (List.mem_of_getElem? (i := 119) (by decide +kernel)) (by decide +kernel)
set_option maxRecDepth 100000 in
theorem tw_122 : Cond.fieldLink RX0 25 "SmudgeTally$Books" "truths" "[J" ∈ gtb := gmem (List.mem_of_getElem? (i := 122) (by decide +kernel)) (by decide +kernel)
set_option maxRecDepth 100000 in
theorem tw_125 : Cond.fieldLink RX0 28 "SmudgeTally$Books" "cleanings" "[I" ∈ gtb := gmem (List.mem_of_getElem? (i := 125) (by decide +kernel)) (by decide +kernel)
set_option maxRecDepth 100000 in
theorem tw_127 : Cond.fieldLink RX0 31 "SmudgeTally$Books" "numbers" "[I" ∈ gtb := gmem (List.mem_of_getElem? (i := 127) (by decide +kernel)) (by decide +kernel)
set_option maxRecDepth 100000 in
theorem tw_131 : Cond.fieldLink RX0 34 "SmudgeTally$Books" "versionCards" "[I" ∈ gtb := gmem (List.mem_of_getElem? (i := 131) (by decide +kernel)) (by decide +kernel)
set_option maxRecDepth 100000 in
theorem tw_133 : Cond.fieldLink RX0 37 "SmudgeTally$Books" "versionOutcomes" "[I" ∈ gtb := gmem (List.mem_of_getElem? (i := 133) (by decide +kernel)) (by decide +kernel)
set_option maxRecDepth 100000 in
theorem tw_237 : Cond.fieldLink RX5 18 "SmudgeTally$Slots" "full" "[Z" ∈ gtb := gmem (List.mem_of_getElem? (i := 237) (by decide +kernel)) (by decide +kernel)
set_option maxRecDepth 100000 in
theorem tw_236 : Cond.fieldLink RX5 12 "SmudgeTally$Slots" "kept" "[LSmudgeTally$Books;" ∈ gtb := gmem (List.mem_of_getElem? (i := 236) (by decide +kernel)) (by decide +kernel)
set_option maxRecDepth 100000 in
theorem tw_375 : Cond.methodLink RX5 22 yX0_copyFrom ∈ gtb := gmem (List.mem_of_getElem? (i := 375) (by decide +kernel)) (by decide +kernel)
set_option maxRecDepth 100000 in
theorem tw_365 : Cond.instanceMethod yX0_copyFrom ∈ gtb := gmem (List.mem_of_getElem? (i := 365) (by decide +kernel)) (by decide +kernel)
set_option maxRecDepth 100000 in
theorem tw_366 : Cond.selects RX0 yX0_copyFrom yX0_copyFrom ∈ gtb := gmem (List.mem_of_getElem? (i := 366) (by decide +kernel)) (by decide +kernel)
set_option maxRecDepth 100000 in
theorem tw_60 : Cond.initialized RX0 ∈ gtb := gmem (List.mem_of_getElem? (i := 60) (by decide +kernel)) (by decide +kernel)
set_option maxRecDepth 100000 in
theorem tw_367 : Cond.code yX0_copyFrom cX0_copyFrom 2 none ∈ gtb := gmem (List.mem_of_getElem? (i := 367) (by decide +kernel)) (by decide +kernel)
set_option maxRecDepth 100000 in
theorem tw_260 : Cond.fieldLink RX6 10 "SmudgeTally$State" "books" "LSmudgeTally$Books;" ∈ gtb := gmem (List.mem_of_getElem? (i := 260) (by decide +kernel)) (by decide +kernel)
set_option maxRecDepth 100000 in
theorem tw_364 : Cond.methodLink RX6 23 yX0_copyFrom ∈ gtb := gmem (List.mem_of_getElem? (i := 364) (by decide +kernel)) (by decide +kernel)
set_option maxRecDepth 100000 in
theorem tw_261 : Cond.fieldLink RX6 19 "SmudgeTally$State" "slots" "LSmudgeTally$Slots;" ∈ gtb := gmem (List.mem_of_getElem? (i := 261) (by decide +kernel)) (by decide +kernel)
set_option maxRecDepth 100000 in
theorem tw_371 : Cond.methodLink RX6 27 yX5_copyFrom ∈ gtb := gmem (List.mem_of_getElem? (i := 371) (by decide +kernel)) (by decide +kernel)
set_option maxRecDepth 100000 in
theorem tw_372 : Cond.instanceMethod yX5_copyFrom ∈ gtb := gmem (List.mem_of_getElem? (i := 372) (by decide +kernel)) (by decide +kernel)
set_option maxRecDepth 100000 in
theorem tw_373 : Cond.selects RX5 yX5_copyFrom yX5_copyFrom ∈ gtb := gmem (List.mem_of_getElem? (i := 373) (by decide +kernel)) (by decide +kernel)
set_option maxRecDepth 100000 in
theorem tw_61 : Cond.initialized RX5 ∈ gtb := gmem (List.mem_of_getElem? (i := 61) (by decide +kernel)) (by decide +kernel)
set_option maxRecDepth 100000 in
theorem tw_374 : Cond.code yX5_copyFrom cX5_copyFrom 3 none ∈ gtb := gmem (List.mem_of_getElem? (i := 374) (by decide +kernel)) (by decide +kernel)
set_option maxRecDepth 100000 in
theorem tw_267 : Cond.fieldLink RX2 18 "SmudgeTally$History" "size" "I" ∈ gtb := gmem (List.mem_of_getElem? (i := 267) (by decide +kernel)) (by decide +kernel)
set_option maxRecDepth 100000 in
theorem tw_269 : Cond.fieldLink RX2 12 "SmudgeTally$History" "states" "[LSmudgeTally$State;" ∈ gtb := gmem (List.mem_of_getElem? (i := 269) (by decide +kernel)) (by decide +kernel)
set_option maxRecDepth 100000 in
theorem tw_360 : Cond.methodLink RX2 22 yX6_keep ∈ gtb := gmem (List.mem_of_getElem? (i := 360) (by decide +kernel)) (by decide +kernel)
set_option maxRecDepth 100000 in
theorem tw_361 : Cond.instanceMethod yX6_keep ∈ gtb := gmem (List.mem_of_getElem? (i := 361) (by decide +kernel)) (by decide +kernel)
set_option maxRecDepth 100000 in
theorem tw_362 : Cond.selects RX6 yX6_keep yX6_keep ∈ gtb := gmem (List.mem_of_getElem? (i := 362) (by decide +kernel)) (by decide +kernel)
set_option maxRecDepth 100000 in
theorem tw_63 : Cond.initialized RX6 ∈ gtb := gmem (List.mem_of_getElem? (i := 63) (by decide +kernel)) (by decide +kernel)
set_option maxRecDepth 100000 in
theorem tw_363 : Cond.code yX6_keep cX6_keep 3 none ∈ gtb := gmem (List.mem_of_getElem? (i := 363) (by decide +kernel)) (by decide +kernel)
set_option maxRecDepth 100000 in
theorem tw_386 : Cond.constantLong RX8 266 (999999999999) ∈ gtb := gmem (List.mem_of_getElem? (i := 386) (by decide +kernel)) (by decide +kernel)
set_option maxRecDepth 100000 in
theorem tw_382 : Cond.code yX8_within cX8_within 3 (some .boolean) ∈ gtb := gmem (List.mem_of_getElem? (i := 382) (by decide +kernel)) (by decide +kernel)
set_option maxRecDepth 100000 in
theorem tw_381 : Cond.static yX8_within ∈ gtb := gmem (List.mem_of_getElem? (i := 381) (by decide +kernel)) (by decide +kernel)
set_option maxRecDepth 100000 in
theorem tw_57 : Cond.initialized RX8 ∈ gtb := gmem (List.mem_of_getElem? (i := 57) (by decide +kernel)) (by decide +kernel)
set_option maxRecDepth 100000 in
theorem tw_385 : Cond.code yX8_isRow cX8_isRow 2 (some .boolean) ∈ gtb := gmem (List.mem_of_getElem? (i := 385) (by decide +kernel)) (by decide +kernel)
set_option maxRecDepth 100000 in
theorem tw_384 : Cond.static yX8_isRow ∈ gtb := gmem (List.mem_of_getElem? (i := 384) (by decide +kernel)) (by decide +kernel)
set_option maxRecDepth 100000 in
theorem tw_221 : Cond.fieldLink RX1 22 "SmudgeTally$Clerk" "books" "LSmudgeTally$Books;" ∈ gtb := gmem (List.mem_of_getElem? (i := 221) (by decide +kernel)) (by decide +kernel)
set_option maxRecDepth 100000 in
theorem tw_101 : Cond.fieldLink RX1 50 "SmudgeTally$Books" "cards" "I" ∈ gtb := gmem (List.mem_of_getElem? (i := 101) (by decide +kernel)) (by decide +kernel)
set_option maxRecDepth 100000 in
theorem tw_109 : Cond.fieldLink RX1 56 "SmudgeTally$Books" "machines" "[I" ∈ gtb := gmem (List.mem_of_getElem? (i := 109) (by decide +kernel)) (by decide +kernel)
set_option maxRecDepth 100000 in
theorem tw_120 : Cond.fieldLink RX1 60 "SmudgeTally$Books" "rows" "[J" ∈ gtb := gmem (List.mem_of_getElem? (i := 120) (by decide +kernel)) (by decide +kernel)
set_option maxRecDepth 100000 in
theorem tw_123 : Cond.fieldLink RX1 64 "SmudgeTally$Books" "truths" "[J" ∈ gtb := gmem (List.mem_of_getElem? (i := 123) (by decide +kernel)) (by decide +kernel)
set_option maxRecDepth 100000 in
theorem tw_116 : Cond.fieldLink RX1 67 "SmudgeTally$Books" "stages" "[I" ∈ gtb := gmem (List.mem_of_getElem? (i := 116) (by decide +kernel)) (by decide +kernel)
set_option maxRecDepth 100000 in
theorem tw_113 : Cond.fieldLink RX1 70 "SmudgeTally$Books" "cleaningsBefore" "[I" ∈ gtb := gmem (List.mem_of_getElem? (i := 113) (by decide +kernel)) (by decide +kernel)
set_option maxRecDepth 100000 in
theorem tw_126 : Cond.fieldLink RX1 73 "SmudgeTally$Books" "cleanings" "[I" ∈ gtb := gmem (List.mem_of_getElem? (i := 126) (by decide +kernel)) (by decide +kernel)
set_option maxRecDepth 100000 in
theorem tw_337 : Cond.fieldLink RX8 38 "SmudgeTally" "history" "LSmudgeTally$History;" ∈ gtb := gmem (List.mem_of_getElem? (i := 337) (by decide +kernel)) (by decide +kernel)
set_option maxRecDepth 100000 in
theorem tw_391 : Cond.methodLink RX8 263 yX2_record ∈ gtb := gmem (List.mem_of_getElem? (i := 391) (by decide +kernel)) (by decide +kernel)
set_option maxRecDepth 100000 in
theorem tw_392 : Cond.instanceMethod yX2_record ∈ gtb := gmem (List.mem_of_getElem? (i := 392) (by decide +kernel)) (by decide +kernel)
set_option maxRecDepth 100000 in
theorem tw_393 : Cond.selects RX2 yX2_record yX2_record ∈ gtb := gmem (List.mem_of_getElem? (i := 393) (by decide +kernel)) (by decide +kernel)
set_option maxRecDepth 100000 in
theorem tw_62 : Cond.initialized RX2 ∈ gtb := gmem (List.mem_of_getElem? (i := 62) (by decide +kernel)) (by decide +kernel)
set_option maxRecDepth 100000 in
theorem tw_394 : Cond.code yX2_record cX2_record 3 none ∈ gtb := gmem (List.mem_of_getElem? (i := 394) (by decide +kernel)) (by decide +kernel)
set_option maxRecDepth 100000 in
theorem tw_335 : Cond.fieldLink RX8 27 "SmudgeTally" "books" "LSmudgeTally$Books;" ∈ gtb := gmem (List.mem_of_getElem? (i := 335) (by decide +kernel)) (by decide +kernel)
set_option maxRecDepth 100000 in
theorem tw_336 : Cond.fieldLink RX8 31 "SmudgeTally" "slots" "LSmudgeTally$Slots;" ∈ gtb := gmem (List.mem_of_getElem? (i := 336) (by decide +kernel)) (by decide +kernel)
set_option maxRecDepth 100000 in
theorem tw_356 : Cond.methodLink RX8 49 yX2_prepare ∈ gtb := gmem (List.mem_of_getElem? (i := 356) (by decide +kernel)) (by decide +kernel)
set_option maxRecDepth 100000 in
theorem tw_357 : Cond.instanceMethod yX2_prepare ∈ gtb := gmem (List.mem_of_getElem? (i := 357) (by decide +kernel)) (by decide +kernel)
set_option maxRecDepth 100000 in
theorem tw_358 : Cond.selects RX2 yX2_prepare yX2_prepare ∈ gtb := gmem (List.mem_of_getElem? (i := 358) (by decide +kernel)) (by decide +kernel)
set_option maxRecDepth 100000 in
theorem tw_359 : Cond.code yX2_prepare cX2_prepare 3 none ∈ gtb := gmem (List.mem_of_getElem? (i := 359) (by decide +kernel)) (by decide +kernel)
set_option maxRecDepth 100000 in
theorem tw_333 : Cond.fieldLink RX8 12 "SmudgeTally" "clerk" "LSmudgeTally$Clerk;" ∈ gtb := gmem (List.mem_of_getElem? (i := 333) (by decide +kernel)) (by decide +kernel)
set_option maxRecDepth 100000 in
theorem tw_376 : Cond.methodLink RX8 53 yX1_addCard ∈ gtb := gmem (List.mem_of_getElem? (i := 376) (by decide +kernel)) (by decide +kernel)
set_option maxRecDepth 100000 in
theorem tw_377 : Cond.instanceMethod yX1_addCard ∈ gtb := gmem (List.mem_of_getElem? (i := 377) (by decide +kernel)) (by decide +kernel)
set_option maxRecDepth 100000 in
theorem tw_378 : Cond.selects RX1 yX1_addCard yX1_addCard ∈ gtb := gmem (List.mem_of_getElem? (i := 378) (by decide +kernel)) (by decide +kernel)
set_option maxRecDepth 100000 in
theorem tw_58 : Cond.initialized RX1 ∈ gtb := gmem (List.mem_of_getElem? (i := 58) (by decide +kernel)) (by decide +kernel)
set_option maxRecDepth 100000 in
theorem tw_379 : Cond.code yX1_addCard cX1_addCard 5 (some .int) ∈ gtb := gmem (List.mem_of_getElem? (i := 379) (by decide +kernel)) (by decide +kernel)
set_option maxRecDepth 100000 in
theorem tw_387 : Cond.methodLink RX8 57 yX8_recordIfDone ∈ gtb := gmem (List.mem_of_getElem? (i := 387) (by decide +kernel)) (by decide +kernel)
set_option maxRecDepth 100000 in
theorem tw_389 : Cond.instanceMethod yX8_recordIfDone ∈ gtb := gmem (List.mem_of_getElem? (i := 389) (by decide +kernel)) (by decide +kernel)
set_option maxRecDepth 100000 in
theorem tw_0 : Cond.selects RX8 yX8_recordIfDone yX8_recordIfDone ∈ gtb := gmem (List.mem_of_getElem? (i := 0) (by decide +kernel)) (by decide +kernel)
set_option maxRecDepth 100000 in
theorem tw_390 : Cond.code yX8_recordIfDone cX8_recordIfDone 2 (some .int) ∈ gtb := gmem (List.mem_of_getElem? (i := 390) (by decide +kernel)) (by decide +kernel)
set_option maxRecDepth 100000 in
theorem tw_403 : Cond.methodLink RX1 76 yX0_cardsOf ∈ gtb := gmem (List.mem_of_getElem? (i := 403) (by decide +kernel)) (by decide +kernel)
set_option maxRecDepth 100000 in
theorem tw_404 : Cond.instanceMethod yX0_cardsOf ∈ gtb := gmem (List.mem_of_getElem? (i := 404) (by decide +kernel)) (by decide +kernel)
set_option maxRecDepth 100000 in
theorem tw_405 : Cond.selects RX0 yX0_cardsOf yX0_cardsOf ∈ gtb := gmem (List.mem_of_getElem? (i := 405) (by decide +kernel)) (by decide +kernel)
set_option maxRecDepth 100000 in
theorem tw_406 : Cond.code yX0_cardsOf cX0_cardsOf 5 (some .int) ∈ gtb := gmem (List.mem_of_getElem? (i := 406) (by decide +kernel)) (by decide +kernel)
set_option maxRecDepth 100000 in
theorem tw_399 : Cond.methodLink RX8 61 yX1_cleanMachine ∈ gtb := gmem (List.mem_of_getElem? (i := 399) (by decide +kernel)) (by decide +kernel)
set_option maxRecDepth 100000 in
theorem tw_400 : Cond.instanceMethod yX1_cleanMachine ∈ gtb := gmem (List.mem_of_getElem? (i := 400) (by decide +kernel)) (by decide +kernel)
set_option maxRecDepth 100000 in
theorem tw_401 : Cond.selects RX1 yX1_cleanMachine yX1_cleanMachine ∈ gtb := gmem (List.mem_of_getElem? (i := 401) (by decide +kernel)) (by decide +kernel)
set_option maxRecDepth 100000 in
theorem tw_402 : Cond.code yX1_cleanMachine cX1_cleanMachine 2 (some .int) ∈ gtb := gmem (List.mem_of_getElem? (i := 402) (by decide +kernel)) (by decide +kernel)
set_option maxRecDepth 100000 in
theorem tw_129 : Cond.fieldLink RX1 85 "SmudgeTally$Books" "numbers" "[I" ∈ gtb := gmem (List.mem_of_getElem? (i := 129) (by decide +kernel)) (by decide +kernel)
set_option maxRecDepth 100000 in
theorem tw_411 : Cond.methodLink RX8 64 yX1_setNumber ∈ gtb := gmem (List.mem_of_getElem? (i := 411) (by decide +kernel)) (by decide +kernel)
set_option maxRecDepth 100000 in
theorem tw_412 : Cond.instanceMethod yX1_setNumber ∈ gtb := gmem (List.mem_of_getElem? (i := 412) (by decide +kernel)) (by decide +kernel)
set_option maxRecDepth 100000 in
theorem tw_413 : Cond.selects RX1 yX1_setNumber yX1_setNumber ∈ gtb := gmem (List.mem_of_getElem? (i := 413) (by decide +kernel)) (by decide +kernel)
set_option maxRecDepth 100000 in
theorem tw_414 : Cond.code yX1_setNumber cX1_setNumber 4 (some .int) ∈ gtb := gmem (List.mem_of_getElem? (i := 414) (by decide +kernel)) (by decide +kernel)
set_option maxRecDepth 100000 in
theorem tw_160 : Cond.fieldLink RX4 12 "SmudgeTally$Sight" "books" "LSmudgeTally$Books;" ∈ gtb := gmem (List.mem_of_getElem? (i := 160) (by decide +kernel)) (by decide +kernel)
set_option maxRecDepth 100000 in
theorem tw_108 : Cond.fieldLink RX4 89 "SmudgeTally$Books" "machines" "[I" ∈ gtb := gmem (List.mem_of_getElem? (i := 108) (by decide +kernel)) (by decide +kernel)
set_option maxRecDepth 100000 in
theorem tw_112 : Cond.fieldLink RX4 92 "SmudgeTally$Books" "cleaningsBefore" "[I" ∈ gtb := gmem (List.mem_of_getElem? (i := 112) (by decide +kernel)) (by decide +kernel)
set_option maxRecDepth 100000 in
theorem tw_164 : Cond.fieldLink RX4 22 "SmudgeTally$Sight" "read" "[I" ∈ gtb := gmem (List.mem_of_getElem? (i := 164) (by decide +kernel)) (by decide +kernel)
set_option maxRecDepth 100000 in
theorem tw_121 : Cond.fieldLink RX4 95 "SmudgeTally$Books" "rows" "[J" ∈ gtb := gmem (List.mem_of_getElem? (i := 121) (by decide +kernel)) (by decide +kernel)
set_option maxRecDepth 100000 in
theorem tw_441 : Cond.constantLong RX4 102 (10) ∈ gtb := gmem (List.mem_of_getElem? (i := 441) (by decide +kernel)) (by decide +kernel)
set_option maxRecDepth 100000 in
theorem tw_166 : Cond.fieldLink RX4 25 "SmudgeTally$Sight" "truth" "[I" ∈ gtb := gmem (List.mem_of_getElem? (i := 166) (by decide +kernel)) (by decide +kernel)
set_option maxRecDepth 100000 in
theorem tw_124 : Cond.fieldLink RX4 104 "SmudgeTally$Books" "truths" "[J" ∈ gtb := gmem (List.mem_of_getElem? (i := 124) (by decide +kernel)) (by decide +kernel)
set_option maxRecDepth 100000 in
theorem tw_117 : Cond.fieldLink RX4 116 "SmudgeTally$Books" "stages" "[I" ∈ gtb := gmem (List.mem_of_getElem? (i := 117) (by decide +kernel)) (by decide +kernel)
set_option maxRecDepth 100000 in
theorem tw_450 : Cond.methodLink RX4 119 Lib.Math.max.name ∈ gtb := gmem (List.mem_of_getElem? (i := 450) (by decide +kernel)) (by decide +kernel)
set_option maxRecDepth 100000 in
theorem tw_451 : Cond.static Lib.Math.max.name ∈ gtb := gmem (List.mem_of_getElem? (i := 451) (by decide +kernel)) (by decide +kernel)
set_option maxRecDepth 100000 in
theorem tw_68 : Cond.initialized "java/lang/Math" ∈ gtb := gmem (List.mem_of_getElem? (i := 68) (by decide +kernel)) (by decide +kernel)
set_option maxRecDepth 100000 in
theorem tw_174 : Cond.fieldLink RX4 37 "SmudgeTally$Sight" "runDirt" "[I" ∈ gtb := gmem (List.mem_of_getElem? (i := 174) (by decide +kernel)) (by decide +kernel)
set_option maxRecDepth 100000 in
theorem tw_446 : Cond.methodLink RX4 107 yX4_ownDirt ∈ gtb := gmem (List.mem_of_getElem? (i := 446) (by decide +kernel)) (by decide +kernel)
set_option maxRecDepth 100000 in
theorem tw_448 : Cond.instanceMethod yX4_ownDirt ∈ gtb := gmem (List.mem_of_getElem? (i := 448) (by decide +kernel)) (by decide +kernel)
set_option maxRecDepth 100000 in
theorem tw_4 : Cond.selects RX4 yX4_ownDirt yX4_ownDirt ∈ gtb := gmem (List.mem_of_getElem? (i := 4) (by decide +kernel)) (by decide +kernel)
set_option maxRecDepth 100000 in
theorem tw_59 : Cond.initialized RX4 ∈ gtb := gmem (List.mem_of_getElem? (i := 59) (by decide +kernel)) (by decide +kernel)
set_option maxRecDepth 100000 in
theorem tw_449 : Cond.code yX4_ownDirt cX4_ownDirt 3 (some .int) ∈ gtb := gmem (List.mem_of_getElem? (i := 449) (by decide +kernel)) (by decide +kernel)
set_option maxRecDepth 100000 in
theorem tw_163 : Cond.fieldLink RX4 18 "SmudgeTally$Sight" "previous" "[I" ∈ gtb := gmem (List.mem_of_getElem? (i := 163) (by decide +kernel)) (by decide +kernel)
set_option maxRecDepth 100000 in
theorem tw_168 : Cond.fieldLink RX4 28 "SmudgeTally$Sight" "runFirst" "[I" ∈ gtb := gmem (List.mem_of_getElem? (i := 168) (by decide +kernel)) (by decide +kernel)
set_option maxRecDepth 100000 in
theorem tw_172 : Cond.fieldLink RX4 34 "SmudgeTally$Sight" "runLength" "[I" ∈ gtb := gmem (List.mem_of_getElem? (i := 172) (by decide +kernel)) (by decide +kernel)
set_option maxRecDepth 100000 in
theorem tw_453 : Cond.methodLink RX4 111 Lib.Math.min.name ∈ gtb := gmem (List.mem_of_getElem? (i := 453) (by decide +kernel)) (by decide +kernel)
set_option maxRecDepth 100000 in
theorem tw_454 : Cond.static Lib.Math.min.name ∈ gtb := gmem (List.mem_of_getElem? (i := 454) (by decide +kernel)) (by decide +kernel)
set_option maxRecDepth 100000 in
theorem tw_100 : Cond.fieldLink RX4 62 "SmudgeTally$Books" "cards" "I" ∈ gtb := gmem (List.mem_of_getElem? (i := 100) (by decide +kernel)) (by decide +kernel)
set_option maxRecDepth 100000 in
theorem tw_170 : Cond.fieldLink RX4 31 "SmudgeTally$Sight" "runLast" "[I" ∈ gtb := gmem (List.mem_of_getElem? (i := 170) (by decide +kernel)) (by decide +kernel)
set_option maxRecDepth 100000 in
theorem tw_128 : Cond.fieldLink RX4 80 "SmudgeTally$Books" "numbers" "[I" ∈ gtb := gmem (List.mem_of_getElem? (i := 128) (by decide +kernel)) (by decide +kernel)
set_option maxRecDepth 100000 in
theorem tw_179 : Cond.fieldLink RX4 46 "SmudgeTally$Sight" "mark" "[I" ∈ gtb := gmem (List.mem_of_getElem? (i := 179) (by decide +kernel)) (by decide +kernel)
set_option maxRecDepth 100000 in
theorem tw_468 : Cond.methodLink RX4 126 yX4_judgedOutcome ∈ gtb := gmem (List.mem_of_getElem? (i := 468) (by decide +kernel)) (by decide +kernel)
set_option maxRecDepth 100000 in
theorem tw_470 : Cond.instanceMethod yX4_judgedOutcome ∈ gtb := gmem (List.mem_of_getElem? (i := 470) (by decide +kernel)) (by decide +kernel)
set_option maxRecDepth 100000 in
theorem tw_8 : Cond.selects RX4 yX4_judgedOutcome yX4_judgedOutcome ∈ gtb := gmem (List.mem_of_getElem? (i := 8) (by decide +kernel)) (by decide +kernel)
set_option maxRecDepth 100000 in
theorem tw_471 : Cond.code yX4_judgedOutcome cX4_judgedOutcome 8 (some .int) ∈ gtb := gmem (List.mem_of_getElem? (i := 471) (by decide +kernel)) (by decide +kernel)
set_option maxRecDepth 100000 in
theorem tw_181 : Cond.fieldLink RX4 49 "SmudgeTally$Sight" "outcomes" "[I" ∈ gtb := gmem (List.mem_of_getElem? (i := 181) (by decide +kernel)) (by decide +kernel)
set_option maxRecDepth 100000 in
theorem tw_183 : Cond.fieldLink RX4 52 "SmudgeTally$Sight" "doubtful" "[I" ∈ gtb := gmem (List.mem_of_getElem? (i := 183) (by decide +kernel)) (by decide +kernel)
set_option maxRecDepth 100000 in
theorem tw_177 : Cond.fieldLink RX4 43 "SmudgeTally$Sight" "clear" "[I" ∈ gtb := gmem (List.mem_of_getElem? (i := 177) (by decide +kernel)) (by decide +kernel)
set_option maxRecDepth 100000 in
theorem tw_464 : Cond.methodLink RX4 122 yX4_markOf ∈ gtb := gmem (List.mem_of_getElem? (i := 464) (by decide +kernel)) (by decide +kernel)
set_option maxRecDepth 100000 in
theorem tw_466 : Cond.instanceMethod yX4_markOf ∈ gtb := gmem (List.mem_of_getElem? (i := 466) (by decide +kernel)) (by decide +kernel)
set_option maxRecDepth 100000 in
theorem tw_7 : Cond.selects RX4 yX4_markOf yX4_markOf ∈ gtb := gmem (List.mem_of_getElem? (i := 7) (by decide +kernel)) (by decide +kernel)
set_option maxRecDepth 100000 in
theorem tw_467 : Cond.code yX4_markOf cX4_markOf 3 (some .int) ∈ gtb := gmem (List.mem_of_getElem? (i := 467) (by decide +kernel)) (by decide +kernel)
set_option maxRecDepth 100000 in
theorem tw_175 : Cond.fieldLink RX4 40 "SmudgeTally$Sight" "dirt" "[I" ∈ gtb := gmem (List.mem_of_getElem? (i := 175) (by decide +kernel)) (by decide +kernel)
set_option maxRecDepth 100000 in
theorem tw_185 : Cond.fieldLink RX4 55 "SmudgeTally$Sight" "changing" "[Z" ∈ gtb := gmem (List.mem_of_getElem? (i := 185) (by decide +kernel)) (by decide +kernel)
set_option maxRecDepth 100000 in
theorem tw_134 : Cond.fieldLink RX4 139 "SmudgeTally$Books" "versionOutcomes" "[I" ∈ gtb := gmem (List.mem_of_getElem? (i := 134) (by decide +kernel)) (by decide +kernel)
set_option maxRecDepth 100000 in
theorem tw_105 : Cond.fieldLink RX4 129 "SmudgeTally$Books" "versions" "I" ∈ gtb := gmem (List.mem_of_getElem? (i := 105) (by decide +kernel)) (by decide +kernel)
set_option maxRecDepth 100000 in
theorem tw_476 : Cond.methodLink RX4 132 yX0_hasVersion ∈ gtb := gmem (List.mem_of_getElem? (i := 476) (by decide +kernel)) (by decide +kernel)
set_option maxRecDepth 100000 in
theorem tw_477 : Cond.instanceMethod yX0_hasVersion ∈ gtb := gmem (List.mem_of_getElem? (i := 477) (by decide +kernel)) (by decide +kernel)
set_option maxRecDepth 100000 in
theorem tw_478 : Cond.selects RX0 yX0_hasVersion yX0_hasVersion ∈ gtb := gmem (List.mem_of_getElem? (i := 478) (by decide +kernel)) (by decide +kernel)
set_option maxRecDepth 100000 in
theorem tw_479 : Cond.code yX0_hasVersion cX0_hasVersion 2 (some .boolean) ∈ gtb := gmem (List.mem_of_getElem? (i := 479) (by decide +kernel)) (by decide +kernel)
set_option maxRecDepth 100000 in
theorem tw_132 : Cond.fieldLink RX4 136 "SmudgeTally$Books" "versionCards" "[I" ∈ gtb := gmem (List.mem_of_getElem? (i := 132) (by decide +kernel)) (by decide +kernel)
set_option maxRecDepth 100000 in
theorem tw_460 : Cond.methodLink RX4 83 yX4_judgeWith ∈ gtb := gmem (List.mem_of_getElem? (i := 460) (by decide +kernel)) (by decide +kernel)
set_option maxRecDepth 100000 in
theorem tw_462 : Cond.instanceMethod yX4_judgeWith ∈ gtb := gmem (List.mem_of_getElem? (i := 462) (by decide +kernel)) (by decide +kernel)
set_option maxRecDepth 100000 in
theorem tw_6 : Cond.selects RX4 yX4_judgeWith yX4_judgeWith ∈ gtb := gmem (List.mem_of_getElem? (i := 6) (by decide +kernel)) (by decide +kernel)
set_option maxRecDepth 100000 in
theorem tw_463 : Cond.code yX4_judgeWith cX4_judgeWith 6 none ∈ gtb := gmem (List.mem_of_getElem? (i := 463) (by decide +kernel)) (by decide +kernel)
set_option maxRecDepth 100000 in
theorem tw_472 : Cond.methodLink RX4 86 yX4_compareWithLast ∈ gtb := gmem (List.mem_of_getElem? (i := 472) (by decide +kernel)) (by decide +kernel)
set_option maxRecDepth 100000 in
theorem tw_474 : Cond.instanceMethod yX4_compareWithLast ∈ gtb := gmem (List.mem_of_getElem? (i := 474) (by decide +kernel)) (by decide +kernel)
set_option maxRecDepth 100000 in
theorem tw_9 : Cond.selects RX4 yX4_compareWithLast yX4_compareWithLast ∈ gtb := gmem (List.mem_of_getElem? (i := 9) (by decide +kernel)) (by decide +kernel)
set_option maxRecDepth 100000 in
theorem tw_475 : Cond.code yX4_compareWithLast cX4_compareWithLast 4 none ∈ gtb := gmem (List.mem_of_getElem? (i := 475) (by decide +kernel)) (by decide +kernel)
set_option maxRecDepth 100000 in
theorem tw_442 : Cond.methodLink RX4 74 yX4_growRuns ∈ gtb := gmem (List.mem_of_getElem? (i := 442) (by decide +kernel)) (by decide +kernel)
set_option maxRecDepth 100000 in
theorem tw_444 : Cond.instanceMethod yX4_growRuns ∈ gtb := gmem (List.mem_of_getElem? (i := 444) (by decide +kernel)) (by decide +kernel)
set_option maxRecDepth 100000 in
theorem tw_3 : Cond.selects RX4 yX4_growRuns yX4_growRuns ∈ gtb := gmem (List.mem_of_getElem? (i := 3) (by decide +kernel)) (by decide +kernel)
set_option maxRecDepth 100000 in
theorem tw_445 : Cond.code yX4_growRuns cX4_growRuns 5 none ∈ gtb := gmem (List.mem_of_getElem? (i := 445) (by decide +kernel)) (by decide +kernel)
set_option maxRecDepth 100000 in
theorem tw_456 : Cond.methodLink RX4 77 yX4_closeRuns ∈ gtb := gmem (List.mem_of_getElem? (i := 456) (by decide +kernel)) (by decide +kernel)
set_option maxRecDepth 100000 in
theorem tw_458 : Cond.instanceMethod yX4_closeRuns ∈ gtb := gmem (List.mem_of_getElem? (i := 458) (by decide +kernel)) (by decide +kernel)
set_option maxRecDepth 100000 in
theorem tw_5 : Cond.selects RX4 yX4_closeRuns yX4_closeRuns ∈ gtb := gmem (List.mem_of_getElem? (i := 5) (by decide +kernel)) (by decide +kernel)
set_option maxRecDepth 100000 in
theorem tw_459 : Cond.code yX4_closeRuns cX4_closeRuns 5 none ∈ gtb := gmem (List.mem_of_getElem? (i := 459) (by decide +kernel)) (by decide +kernel)
set_option maxRecDepth 100000 in
theorem tw_431 : Cond.methodLink RX4 66 yX4_previousOf ∈ gtb := gmem (List.mem_of_getElem? (i := 431) (by decide +kernel)) (by decide +kernel)
set_option maxRecDepth 100000 in
theorem tw_433 : Cond.instanceMethod yX4_previousOf ∈ gtb := gmem (List.mem_of_getElem? (i := 433) (by decide +kernel)) (by decide +kernel)
set_option maxRecDepth 100000 in
theorem tw_1 : Cond.selects RX4 yX4_previousOf yX4_previousOf ∈ gtb := gmem (List.mem_of_getElem? (i := 1) (by decide +kernel)) (by decide +kernel)
set_option maxRecDepth 100000 in
theorem tw_434 : Cond.code yX4_previousOf cX4_previousOf 3 (some .int) ∈ gtb := gmem (List.mem_of_getElem? (i := 434) (by decide +kernel)) (by decide +kernel)
set_option maxRecDepth 100000 in
theorem tw_435 : Cond.methodLink RX4 70 yX4_readDigits ∈ gtb := gmem (List.mem_of_getElem? (i := 435) (by decide +kernel)) (by decide +kernel)
set_option maxRecDepth 100000 in
theorem tw_437 : Cond.instanceMethod yX4_readDigits ∈ gtb := gmem (List.mem_of_getElem? (i := 437) (by decide +kernel)) (by decide +kernel)
set_option maxRecDepth 100000 in
theorem tw_2 : Cond.selects RX4 yX4_readDigits yX4_readDigits ∈ gtb := gmem (List.mem_of_getElem? (i := 2) (by decide +kernel)) (by decide +kernel)
set_option maxRecDepth 100000 in
theorem tw_438 : Cond.code yX4_readDigits cX4_readDigits 4 none ∈ gtb := gmem (List.mem_of_getElem? (i := 438) (by decide +kernel)) (by decide +kernel)
set_option maxRecDepth 100000 in
theorem tw_219 : Cond.fieldLink RX1 12 "SmudgeTally$Clerk" "sight" "LSmudgeTally$Sight;" ∈ gtb := gmem (List.mem_of_getElem? (i := 219) (by decide +kernel)) (by decide +kernel)
set_option maxRecDepth 100000 in
theorem tw_427 : Cond.methodLink RX1 88 yX4_workOut ∈ gtb := gmem (List.mem_of_getElem? (i := 427) (by decide +kernel)) (by decide +kernel)
set_option maxRecDepth 100000 in
theorem tw_428 : Cond.instanceMethod yX4_workOut ∈ gtb := gmem (List.mem_of_getElem? (i := 428) (by decide +kernel)) (by decide +kernel)
set_option maxRecDepth 100000 in
theorem tw_429 : Cond.selects RX4 yX4_workOut yX4_workOut ∈ gtb := gmem (List.mem_of_getElem? (i := 429) (by decide +kernel)) (by decide +kernel)
set_option maxRecDepth 100000 in
theorem tw_430 : Cond.code yX4_workOut cX4_workOut 2 none ∈ gtb := gmem (List.mem_of_getElem? (i := 430) (by decide +kernel)) (by decide +kernel)
set_option maxRecDepth 100000 in
theorem tw_480 : Cond.methodLink RX1 91 yX4_unseenChanging ∈ gtb := gmem (List.mem_of_getElem? (i := 480) (by decide +kernel)) (by decide +kernel)
set_option maxRecDepth 100000 in
theorem tw_481 : Cond.instanceMethod yX4_unseenChanging ∈ gtb := gmem (List.mem_of_getElem? (i := 481) (by decide +kernel)) (by decide +kernel)
set_option maxRecDepth 100000 in
theorem tw_482 : Cond.selects RX4 yX4_unseenChanging yX4_unseenChanging ∈ gtb := gmem (List.mem_of_getElem? (i := 482) (by decide +kernel)) (by decide +kernel)
set_option maxRecDepth 100000 in
theorem tw_483 : Cond.code yX4_unseenChanging cX4_unseenChanging 3 (some .int) ∈ gtb := gmem (List.mem_of_getElem? (i := 483) (by decide +kernel)) (by decide +kernel)
set_option maxRecDepth 100000 in
theorem tw_104 : Cond.fieldLink RX1 94 "SmudgeTally$Books" "versions" "I" ∈ gtb := gmem (List.mem_of_getElem? (i := 104) (by decide +kernel)) (by decide +kernel)
set_option maxRecDepth 100000 in
theorem tw_484 : Cond.methodLink RX1 97 yX4_cardsChanging ∈ gtb := gmem (List.mem_of_getElem? (i := 484) (by decide +kernel)) (by decide +kernel)
set_option maxRecDepth 100000 in
theorem tw_485 : Cond.instanceMethod yX4_cardsChanging ∈ gtb := gmem (List.mem_of_getElem? (i := 485) (by decide +kernel)) (by decide +kernel)
set_option maxRecDepth 100000 in
theorem tw_486 : Cond.selects RX4 yX4_cardsChanging yX4_cardsChanging ∈ gtb := gmem (List.mem_of_getElem? (i := 486) (by decide +kernel)) (by decide +kernel)
set_option maxRecDepth 100000 in
theorem tw_487 : Cond.code yX4_cardsChanging cX4_cardsChanging 3 (some .int) ∈ gtb := gmem (List.mem_of_getElem? (i := 487) (by decide +kernel)) (by decide +kernel)
set_option maxRecDepth 100000 in
theorem tw_182 : Cond.fieldLink RX1 100 "SmudgeTally$Sight" "outcomes" "[I" ∈ gtb := gmem (List.mem_of_getElem? (i := 182) (by decide +kernel)) (by decide +kernel)
set_option maxRecDepth 100000 in
theorem tw_488 : Cond.methodLink RX1 103 yX0_keepVersion ∈ gtb := gmem (List.mem_of_getElem? (i := 488) (by decide +kernel)) (by decide +kernel)
set_option maxRecDepth 100000 in
theorem tw_489 : Cond.instanceMethod yX0_keepVersion ∈ gtb := gmem (List.mem_of_getElem? (i := 489) (by decide +kernel)) (by decide +kernel)
set_option maxRecDepth 100000 in
theorem tw_490 : Cond.selects RX0 yX0_keepVersion yX0_keepVersion ∈ gtb := gmem (List.mem_of_getElem? (i := 490) (by decide +kernel)) (by decide +kernel)
set_option maxRecDepth 100000 in
theorem tw_491 : Cond.code yX0_keepVersion cX0_keepVersion 2 none ∈ gtb := gmem (List.mem_of_getElem? (i := 491) (by decide +kernel)) (by decide +kernel)
set_option maxRecDepth 100000 in
theorem tw_423 : Cond.methodLink RX8 68 yX1_publishVersion ∈ gtb := gmem (List.mem_of_getElem? (i := 423) (by decide +kernel)) (by decide +kernel)
set_option maxRecDepth 100000 in
theorem tw_424 : Cond.instanceMethod yX1_publishVersion ∈ gtb := gmem (List.mem_of_getElem? (i := 424) (by decide +kernel)) (by decide +kernel)
set_option maxRecDepth 100000 in
theorem tw_425 : Cond.selects RX1 yX1_publishVersion yX1_publishVersion ∈ gtb := gmem (List.mem_of_getElem? (i := 425) (by decide +kernel)) (by decide +kernel)
set_option maxRecDepth 100000 in
theorem tw_426 : Cond.code yX1_publishVersion cX1_publishVersion 2 (some .int) ∈ gtb := gmem (List.mem_of_getElem? (i := 426) (by decide +kernel)) (by decide +kernel)
set_option maxRecDepth 100000 in
theorem tw_509 : Cond.methodLink RX4 155 yX4_inPool ∈ gtb := gmem (List.mem_of_getElem? (i := 509) (by decide +kernel)) (by decide +kernel)
set_option maxRecDepth 100000 in
theorem tw_510 : Cond.instanceMethod yX4_inPool ∈ gtb := gmem (List.mem_of_getElem? (i := 510) (by decide +kernel)) (by decide +kernel)
set_option maxRecDepth 100000 in
theorem tw_511 : Cond.selects RX4 yX4_inPool yX4_inPool ∈ gtb := gmem (List.mem_of_getElem? (i := 511) (by decide +kernel)) (by decide +kernel)
set_option maxRecDepth 100000 in
theorem tw_512 : Cond.code yX4_inPool cX4_inPool 2 (some .boolean) ∈ gtb := gmem (List.mem_of_getElem? (i := 512) (by decide +kernel)) (by decide +kernel)
set_option maxRecDepth 100000 in
theorem tw_505 : Cond.methodLink RX4 158 yX4_placeInPool ∈ gtb := gmem (List.mem_of_getElem? (i := 505) (by decide +kernel)) (by decide +kernel)
set_option maxRecDepth 100000 in
theorem tw_506 : Cond.instanceMethod yX4_placeInPool ∈ gtb := gmem (List.mem_of_getElem? (i := 506) (by decide +kernel)) (by decide +kernel)
set_option maxRecDepth 100000 in
theorem tw_507 : Cond.selects RX4 yX4_placeInPool yX4_placeInPool ∈ gtb := gmem (List.mem_of_getElem? (i := 507) (by decide +kernel)) (by decide +kernel)
set_option maxRecDepth 100000 in
theorem tw_508 : Cond.code yX4_placeInPool cX4_placeInPool 4 (some .int) ∈ gtb := gmem (List.mem_of_getElem? (i := 508) (by decide +kernel)) (by decide +kernel)
set_option maxRecDepth 100000 in
theorem tw_516 : Cond.constant RX8 262 (65537) ∈ gtb := gmem (List.mem_of_getElem? (i := 516) (by decide +kernel)) (by decide +kernel)
set_option maxRecDepth 100000 in
theorem tw_525 : Cond.methodLink RX1 121 yX0_cardsInStage ∈ gtb := gmem (List.mem_of_getElem? (i := 525) (by decide +kernel)) (by decide +kernel)
set_option maxRecDepth 100000 in
theorem tw_526 : Cond.instanceMethod yX0_cardsInStage ∈ gtb := gmem (List.mem_of_getElem? (i := 526) (by decide +kernel)) (by decide +kernel)
set_option maxRecDepth 100000 in
theorem tw_527 : Cond.selects RX0 yX0_cardsInStage yX0_cardsInStage ∈ gtb := gmem (List.mem_of_getElem? (i := 527) (by decide +kernel)) (by decide +kernel)
set_option maxRecDepth 100000 in
theorem tw_528 : Cond.code yX0_cardsInStage cX0_cardsInStage 4 (some .int) ∈ gtb := gmem (List.mem_of_getElem? (i := 528) (by decide +kernel)) (by decide +kernel)
set_option maxRecDepth 100000 in
theorem tw_515 : Cond.code yX8_nextLot cX8_nextLot 1 (some .int) ∈ gtb := gmem (List.mem_of_getElem? (i := 515) (by decide +kernel)) (by decide +kernel)
set_option maxRecDepth 100000 in
theorem tw_514 : Cond.static yX8_nextLot ∈ gtb := gmem (List.mem_of_getElem? (i := 514) (by decide +kernel)) (by decide +kernel)
set_option maxRecDepth 100000 in
theorem tw_517 : Cond.methodLink RX1 114 yX4_poolCard ∈ gtb := gmem (List.mem_of_getElem? (i := 517) (by decide +kernel)) (by decide +kernel)
set_option maxRecDepth 100000 in
theorem tw_518 : Cond.instanceMethod yX4_poolCard ∈ gtb := gmem (List.mem_of_getElem? (i := 518) (by decide +kernel)) (by decide +kernel)
set_option maxRecDepth 100000 in
theorem tw_519 : Cond.selects RX4 yX4_poolCard yX4_poolCard ∈ gtb := gmem (List.mem_of_getElem? (i := 519) (by decide +kernel)) (by decide +kernel)
set_option maxRecDepth 100000 in
theorem tw_520 : Cond.code yX4_poolCard cX4_poolCard 4 (some .int) ∈ gtb := gmem (List.mem_of_getElem? (i := 520) (by decide +kernel)) (by decide +kernel)
set_option maxRecDepth 100000 in
theorem tw_521 : Cond.methodLink RX1 117 yX0_hasCard ∈ gtb := gmem (List.mem_of_getElem? (i := 521) (by decide +kernel)) (by decide +kernel)
set_option maxRecDepth 100000 in
theorem tw_522 : Cond.instanceMethod yX0_hasCard ∈ gtb := gmem (List.mem_of_getElem? (i := 522) (by decide +kernel)) (by decide +kernel)
set_option maxRecDepth 100000 in
theorem tw_523 : Cond.selects RX0 yX0_hasCard yX0_hasCard ∈ gtb := gmem (List.mem_of_getElem? (i := 523) (by decide +kernel)) (by decide +kernel)
set_option maxRecDepth 100000 in
theorem tw_524 : Cond.code yX0_hasCard cX0_hasCard 2 (some .boolean) ∈ gtb := gmem (List.mem_of_getElem? (i := 524) (by decide +kernel)) (by decide +kernel)
set_option maxRecDepth 100000 in
theorem tw_500 : Cond.constant RX1 107 (65536) ∈ gtb := gmem (List.mem_of_getElem? (i := 500) (by decide +kernel)) (by decide +kernel)
set_option maxRecDepth 100000 in
theorem tw_501 : Cond.methodLink RX1 108 yX4_poolSize ∈ gtb := gmem (List.mem_of_getElem? (i := 501) (by decide +kernel)) (by decide +kernel)
set_option maxRecDepth 100000 in
theorem tw_502 : Cond.instanceMethod yX4_poolSize ∈ gtb := gmem (List.mem_of_getElem? (i := 502) (by decide +kernel)) (by decide +kernel)
set_option maxRecDepth 100000 in
theorem tw_503 : Cond.selects RX4 yX4_poolSize yX4_poolSize ∈ gtb := gmem (List.mem_of_getElem? (i := 503) (by decide +kernel)) (by decide +kernel)
set_option maxRecDepth 100000 in
theorem tw_504 : Cond.code yX4_poolSize cX4_poolSize 1 (some .int) ∈ gtb := gmem (List.mem_of_getElem? (i := 504) (by decide +kernel)) (by decide +kernel)
set_option maxRecDepth 100000 in
theorem tw_496 : Cond.methodLink RX8 72 yX1_drawCards ∈ gtb := gmem (List.mem_of_getElem? (i := 496) (by decide +kernel)) (by decide +kernel)
set_option maxRecDepth 100000 in
theorem tw_497 : Cond.instanceMethod yX1_drawCards ∈ gtb := gmem (List.mem_of_getElem? (i := 497) (by decide +kernel)) (by decide +kernel)
set_option maxRecDepth 100000 in
theorem tw_498 : Cond.selects RX1 yX1_drawCards yX1_drawCards ∈ gtb := gmem (List.mem_of_getElem? (i := 498) (by decide +kernel)) (by decide +kernel)
set_option maxRecDepth 100000 in
theorem tw_499 : Cond.code yX1_drawCards cX1_drawCards 7 (some .int) ∈ gtb := gmem (List.mem_of_getElem? (i := 499) (by decide +kernel)) (by decide +kernel)
set_option maxRecDepth 100000 in
theorem tw_540 : Cond.methodLink RX8 221 yX8_outcomeOf ∈ gtb := gmem (List.mem_of_getElem? (i := 540) (by decide +kernel)) (by decide +kernel)
set_option maxRecDepth 100000 in
theorem tw_541 : Cond.static yX8_outcomeOf ∈ gtb := gmem (List.mem_of_getElem? (i := 541) (by decide +kernel)) (by decide +kernel)
set_option maxRecDepth 100000 in
theorem tw_542 : Cond.code yX8_outcomeOf cX8_outcomeOf 2 (some .int) ∈ gtb := gmem (List.mem_of_getElem? (i := 542) (by decide +kernel)) (by decide +kernel)
set_option maxRecDepth 100000 in
theorem tw_539 : Cond.code yX8_differingContests cX8_differingContests 4 (some .int) ∈ gtb := gmem (List.mem_of_getElem? (i := 539) (by decide +kernel)) (by decide +kernel)
set_option maxRecDepth 100000 in
theorem tw_538 : Cond.static yX8_differingContests ∈ gtb := gmem (List.mem_of_getElem? (i := 538) (by decide +kernel)) (by decide +kernel)
set_option maxRecDepth 100000 in
theorem tw_533 : Cond.methodLink RX8 75 yX1_lookAt ∈ gtb := gmem (List.mem_of_getElem? (i := 533) (by decide +kernel)) (by decide +kernel)
set_option maxRecDepth 100000 in
theorem tw_534 : Cond.instanceMethod yX1_lookAt ∈ gtb := gmem (List.mem_of_getElem? (i := 534) (by decide +kernel)) (by decide +kernel)
set_option maxRecDepth 100000 in
theorem tw_535 : Cond.selects RX1 yX1_lookAt yX1_lookAt ∈ gtb := gmem (List.mem_of_getElem? (i := 535) (by decide +kernel)) (by decide +kernel)
set_option maxRecDepth 100000 in
theorem tw_536 : Cond.code yX1_lookAt cX1_lookAt 5 (some .int) ∈ gtb := gmem (List.mem_of_getElem? (i := 536) (by decide +kernel)) (by decide +kernel)
set_option maxRecDepth 100000 in
theorem tw_547 : Cond.methodLink RX8 78 yX8_within ∈ gtb := gmem (List.mem_of_getElem? (i := 547) (by decide +kernel)) (by decide +kernel)
set_option maxRecDepth 100000 in
theorem tw_548 : Cond.methodLink RX8 82 yX5_keep ∈ gtb := gmem (List.mem_of_getElem? (i := 548) (by decide +kernel)) (by decide +kernel)
set_option maxRecDepth 100000 in
theorem tw_549 : Cond.instanceMethod yX5_keep ∈ gtb := gmem (List.mem_of_getElem? (i := 549) (by decide +kernel)) (by decide +kernel)
set_option maxRecDepth 100000 in
theorem tw_550 : Cond.selects RX5 yX5_keep yX5_keep ∈ gtb := gmem (List.mem_of_getElem? (i := 550) (by decide +kernel)) (by decide +kernel)
set_option maxRecDepth 100000 in
theorem tw_551 : Cond.code yX5_keep cX5_keep 3 none ∈ gtb := gmem (List.mem_of_getElem? (i := 551) (by decide +kernel)) (by decide +kernel)
set_option maxRecDepth 100000 in
theorem tw_102 : Cond.fieldLink RX8 86 "SmudgeTally$Books" "cards" "I" ∈ gtb := gmem (List.mem_of_getElem? (i := 102) (by decide +kernel)) (by decide +kernel)
set_option maxRecDepth 100000 in
theorem tw_565 : Cond.methodLink RX5 30 yX5_isFull ∈ gtb := gmem (List.mem_of_getElem? (i := 565) (by decide +kernel)) (by decide +kernel)
set_option maxRecDepth 100000 in
theorem tw_558 : Cond.instanceMethod yX5_isFull ∈ gtb := gmem (List.mem_of_getElem? (i := 558) (by decide +kernel)) (by decide +kernel)
set_option maxRecDepth 100000 in
theorem tw_559 : Cond.selects RX5 yX5_isFull yX5_isFull ∈ gtb := gmem (List.mem_of_getElem? (i := 559) (by decide +kernel)) (by decide +kernel)
set_option maxRecDepth 100000 in
theorem tw_560 : Cond.code yX5_isFull cX5_isFull 2 (some .boolean) ∈ gtb := gmem (List.mem_of_getElem? (i := 560) (by decide +kernel)) (by decide +kernel)
set_option maxRecDepth 100000 in
theorem tw_557 : Cond.methodLink RX8 92 yX5_isFull ∈ gtb := gmem (List.mem_of_getElem? (i := 557) (by decide +kernel)) (by decide +kernel)
set_option maxRecDepth 100000 in
theorem tw_561 : Cond.methodLink RX8 96 yX5_giveBack ∈ gtb := gmem (List.mem_of_getElem? (i := 561) (by decide +kernel)) (by decide +kernel)
set_option maxRecDepth 100000 in
theorem tw_562 : Cond.instanceMethod yX5_giveBack ∈ gtb := gmem (List.mem_of_getElem? (i := 562) (by decide +kernel)) (by decide +kernel)
set_option maxRecDepth 100000 in
theorem tw_563 : Cond.selects RX5 yX5_giveBack yX5_giveBack ∈ gtb := gmem (List.mem_of_getElem? (i := 563) (by decide +kernel)) (by decide +kernel)
set_option maxRecDepth 100000 in
theorem tw_564 : Cond.code yX5_giveBack cX5_giveBack 3 none ∈ gtb := gmem (List.mem_of_getElem? (i := 564) (by decide +kernel)) (by decide +kernel)
set_option maxRecDepth 100000 in
theorem tw_574 : Cond.methodLink RX2 26 yX6_giveBack ∈ gtb := gmem (List.mem_of_getElem? (i := 574) (by decide +kernel)) (by decide +kernel)
set_option maxRecDepth 100000 in
theorem tw_575 : Cond.instanceMethod yX6_giveBack ∈ gtb := gmem (List.mem_of_getElem? (i := 575) (by decide +kernel)) (by decide +kernel)
set_option maxRecDepth 100000 in
theorem tw_576 : Cond.selects RX6 yX6_giveBack yX6_giveBack ∈ gtb := gmem (List.mem_of_getElem? (i := 576) (by decide +kernel)) (by decide +kernel)
set_option maxRecDepth 100000 in
theorem tw_577 : Cond.code yX6_giveBack cX6_giveBack 3 none ∈ gtb := gmem (List.mem_of_getElem? (i := 577) (by decide +kernel)) (by decide +kernel)
set_option maxRecDepth 100000 in
theorem tw_268 : Cond.fieldLink RX8 99 "SmudgeTally$History" "size" "I" ∈ gtb := gmem (List.mem_of_getElem? (i := 268) (by decide +kernel)) (by decide +kernel)
set_option maxRecDepth 100000 in
theorem tw_570 : Cond.methodLink RX8 102 yX2_goBack ∈ gtb := gmem (List.mem_of_getElem? (i := 570) (by decide +kernel)) (by decide +kernel)
set_option maxRecDepth 100000 in
theorem tw_571 : Cond.instanceMethod yX2_goBack ∈ gtb := gmem (List.mem_of_getElem? (i := 571) (by decide +kernel)) (by decide +kernel)
set_option maxRecDepth 100000 in
theorem tw_572 : Cond.selects RX2 yX2_goBack yX2_goBack ∈ gtb := gmem (List.mem_of_getElem? (i := 572) (by decide +kernel)) (by decide +kernel)
set_option maxRecDepth 100000 in
theorem tw_573 : Cond.code yX2_goBack cX2_goBack 3 none ∈ gtb := gmem (List.mem_of_getElem? (i := 573) (by decide +kernel)) (by decide +kernel)
set_option maxRecDepth 100000 in
theorem tw_287 : Cond.fieldLink RX7 15 "SmudgeTally$Text" "length" "I" ∈ gtb := gmem (List.mem_of_getElem? (i := 287) (by decide +kernel)) (by decide +kernel)
set_option maxRecDepth 100000 in
theorem tw_294 : Cond.fieldLink RX7 9 "SmudgeTally$Text" "signs" "[I" ∈ gtb := gmem (List.mem_of_getElem? (i := 294) (by decide +kernel)) (by decide +kernel)
set_option maxRecDepth 100000 in
theorem tw_338 : Cond.fieldLink RX8 45 "SmudgeTally" "program" "LSmudgeTally$Program;" ∈ gtb := gmem (List.mem_of_getElem? (i := 338) (by decide +kernel)) (by decide +kernel)
set_option maxRecDepth 100000 in
theorem tw_307 : Cond.fieldLink RX8 105 "SmudgeTally$Program" "text" "LSmudgeTally$Text;" ∈ gtb := gmem (List.mem_of_getElem? (i := 307) (by decide +kernel)) (by decide +kernel)
set_option maxRecDepth 100000 in
theorem tw_582 : Cond.methodLink RX8 109 yX7_add ∈ gtb := gmem (List.mem_of_getElem? (i := 582) (by decide +kernel)) (by decide +kernel)
set_option maxRecDepth 100000 in
theorem tw_583 : Cond.instanceMethod yX7_add ∈ gtb := gmem (List.mem_of_getElem? (i := 583) (by decide +kernel)) (by decide +kernel)
set_option maxRecDepth 100000 in
theorem tw_584 : Cond.selects RX7 yX7_add yX7_add ∈ gtb := gmem (List.mem_of_getElem? (i := 584) (by decide +kernel)) (by decide +kernel)
set_option maxRecDepth 100000 in
theorem tw_65 : Cond.initialized RX7 ∈ gtb := gmem (List.mem_of_getElem? (i := 65) (by decide +kernel)) (by decide +kernel)
set_option maxRecDepth 100000 in
theorem tw_585 : Cond.code yX7_add cX7_add 2 (some .int) ∈ gtb := gmem (List.mem_of_getElem? (i := 585) (by decide +kernel)) (by decide +kernel)
set_option maxRecDepth 100000 in
theorem tw_590 : Cond.methodLink RX8 114 yX7_empty ∈ gtb := gmem (List.mem_of_getElem? (i := 590) (by decide +kernel)) (by decide +kernel)
set_option maxRecDepth 100000 in
theorem tw_591 : Cond.instanceMethod yX7_empty ∈ gtb := gmem (List.mem_of_getElem? (i := 591) (by decide +kernel)) (by decide +kernel)
set_option maxRecDepth 100000 in
theorem tw_592 : Cond.selects RX7 yX7_empty yX7_empty ∈ gtb := gmem (List.mem_of_getElem? (i := 592) (by decide +kernel)) (by decide +kernel)
set_option maxRecDepth 100000 in
theorem tw_593 : Cond.code yX7_empty cX7_empty 2 (some .int) ∈ gtb := gmem (List.mem_of_getElem? (i := 593) (by decide +kernel)) (by decide +kernel)
set_option maxRecDepth 100000 in
theorem tw_293 : Cond.fieldLink RX7 19 "SmudgeTally$Text" "end" "I" ∈ gtb := gmem (List.mem_of_getElem? (i := 293) (by decide +kernel)) (by decide +kernel)
set_option maxRecDepth 100000 in
theorem tw_290 : Cond.fieldLink RX7 25 "SmudgeTally$Text" "kind" "I" ∈ gtb := gmem (List.mem_of_getElem? (i := 290) (by decide +kernel)) (by decide +kernel)
set_option maxRecDepth 100000 in
theorem tw_610 : Cond.methodLink RX7 28 yX7_kindOf ∈ gtb := gmem (List.mem_of_getElem? (i := 610) (by decide +kernel)) (by decide +kernel)
set_option maxRecDepth 100000 in
theorem tw_611 : Cond.static yX7_kindOf ∈ gtb := gmem (List.mem_of_getElem? (i := 611) (by decide +kernel)) (by decide +kernel)
set_option maxRecDepth 100000 in
theorem tw_612 : Cond.code yX7_kindOf cX7_kindOf 1 (some .int) ∈ gtb := gmem (List.mem_of_getElem? (i := 612) (by decide +kernel)) (by decide +kernel)
set_option maxRecDepth 100000 in
theorem tw_292 : Cond.fieldLink RX7 22 "SmudgeTally$Text" "start" "I" ∈ gtb := gmem (List.mem_of_getElem? (i := 292) (by decide +kernel)) (by decide +kernel)
set_option maxRecDepth 100000 in
theorem tw_306 : Cond.fieldLink RX3 12 "SmudgeTally$Program" "text" "LSmudgeTally$Text;" ∈ gtb := gmem (List.mem_of_getElem? (i := 306) (by decide +kernel)) (by decide +kernel)
set_option maxRecDepth 100000 in
theorem tw_618 : Cond.methodLink RX3 65 yX7_isWord ∈ gtb := gmem (List.mem_of_getElem? (i := 618) (by decide +kernel)) (by decide +kernel)
set_option maxRecDepth 100000 in
theorem tw_619 : Cond.instanceMethod yX7_isWord ∈ gtb := gmem (List.mem_of_getElem? (i := 619) (by decide +kernel)) (by decide +kernel)
set_option maxRecDepth 100000 in
theorem tw_620 : Cond.selects RX7 yX7_isWord yX7_isWord ∈ gtb := gmem (List.mem_of_getElem? (i := 620) (by decide +kernel)) (by decide +kernel)
set_option maxRecDepth 100000 in
theorem tw_621 : Cond.code yX7_isWord cX7_isWord 3 (some .boolean) ∈ gtb := gmem (List.mem_of_getElem? (i := 621) (by decide +kernel)) (by decide +kernel)
set_option maxRecDepth 100000 in
theorem tw_686 : Cond.constantLong RX7 41 (10) ∈ gtb := gmem (List.mem_of_getElem? (i := 686) (by decide +kernel)) (by decide +kernel)
set_option maxRecDepth 100000 in
theorem tw_687 : Cond.constantLong RX7 43 (48) ∈ gtb := gmem (List.mem_of_getElem? (i := 687) (by decide +kernel)) (by decide +kernel)
set_option maxRecDepth 100000 in
theorem tw_606 : Cond.methodLink RX3 25 yX7_readToken ∈ gtb := gmem (List.mem_of_getElem? (i := 606) (by decide +kernel)) (by decide +kernel)
set_option maxRecDepth 100000 in
theorem tw_607 : Cond.instanceMethod yX7_readToken ∈ gtb := gmem (List.mem_of_getElem? (i := 607) (by decide +kernel)) (by decide +kernel)
set_option maxRecDepth 100000 in
theorem tw_608 : Cond.selects RX7 yX7_readToken yX7_readToken ∈ gtb := gmem (List.mem_of_getElem? (i := 608) (by decide +kernel)) (by decide +kernel)
set_option maxRecDepth 100000 in
theorem tw_609 : Cond.code yX7_readToken cX7_readToken 1 none ∈ gtb := gmem (List.mem_of_getElem? (i := 609) (by decide +kernel)) (by decide +kernel)
set_option maxRecDepth 100000 in
theorem tw_678 : Cond.methodLink RX3 77 yX7_isNumber ∈ gtb := gmem (List.mem_of_getElem? (i := 678) (by decide +kernel)) (by decide +kernel)
set_option maxRecDepth 100000 in
theorem tw_679 : Cond.instanceMethod yX7_isNumber ∈ gtb := gmem (List.mem_of_getElem? (i := 679) (by decide +kernel)) (by decide +kernel)
set_option maxRecDepth 100000 in
theorem tw_680 : Cond.selects RX7 yX7_isNumber yX7_isNumber ∈ gtb := gmem (List.mem_of_getElem? (i := 680) (by decide +kernel)) (by decide +kernel)
set_option maxRecDepth 100000 in
theorem tw_681 : Cond.code yX7_isNumber cX7_isNumber 1 (some .boolean) ∈ gtb := gmem (List.mem_of_getElem? (i := 681) (by decide +kernel)) (by decide +kernel)
set_option maxRecDepth 100000 in
theorem tw_682 : Cond.methodLink RX3 80 yX7_value ∈ gtb := gmem (List.mem_of_getElem? (i := 682) (by decide +kernel)) (by decide +kernel)
set_option maxRecDepth 100000 in
theorem tw_683 : Cond.instanceMethod yX7_value ∈ gtb := gmem (List.mem_of_getElem? (i := 683) (by decide +kernel)) (by decide +kernel)
set_option maxRecDepth 100000 in
theorem tw_684 : Cond.selects RX7 yX7_value yX7_value ∈ gtb := gmem (List.mem_of_getElem? (i := 684) (by decide +kernel)) (by decide +kernel)
set_option maxRecDepth 100000 in
theorem tw_685 : Cond.code yX7_value cX7_value 4 (some .long) ∈ gtb := gmem (List.mem_of_getElem? (i := 685) (by decide +kernel)) (by decide +kernel)
set_option maxRecDepth 100000 in
theorem tw_316 : Cond.fieldLink RX3 50 "SmudgeTally$Program" "first" "J" ∈ gtb := gmem (List.mem_of_getElem? (i := 316) (by decide +kernel)) (by decide +kernel)
set_option maxRecDepth 100000 in
theorem tw_688 : Cond.methodLink RX3 84 yX7_isWholeRow ∈ gtb := gmem (List.mem_of_getElem? (i := 688) (by decide +kernel)) (by decide +kernel)
set_option maxRecDepth 100000 in
theorem tw_689 : Cond.instanceMethod yX7_isWholeRow ∈ gtb := gmem (List.mem_of_getElem? (i := 689) (by decide +kernel)) (by decide +kernel)
set_option maxRecDepth 100000 in
theorem tw_690 : Cond.selects RX7 yX7_isWholeRow yX7_isWholeRow ∈ gtb := gmem (List.mem_of_getElem? (i := 690) (by decide +kernel)) (by decide +kernel)
set_option maxRecDepth 100000 in
theorem tw_691 : Cond.code yX7_isWholeRow cX7_isWholeRow 1 (some .boolean) ∈ gtb := gmem (List.mem_of_getElem? (i := 691) (by decide +kernel)) (by decide +kernel)
set_option maxRecDepth 100000 in
theorem tw_317 : Cond.fieldLink RX3 54 "SmudgeTally$Program" "second" "J" ∈ gtb := gmem (List.mem_of_getElem? (i := 317) (by decide +kernel)) (by decide +kernel)
set_option maxRecDepth 100000 in
theorem tw_696 : Cond.methodLink RX3 87 yX7_isSemicolon ∈ gtb := gmem (List.mem_of_getElem? (i := 696) (by decide +kernel)) (by decide +kernel)
set_option maxRecDepth 100000 in
theorem tw_697 : Cond.instanceMethod yX7_isSemicolon ∈ gtb := gmem (List.mem_of_getElem? (i := 697) (by decide +kernel)) (by decide +kernel)
set_option maxRecDepth 100000 in
theorem tw_698 : Cond.selects RX7 yX7_isSemicolon yX7_isSemicolon ∈ gtb := gmem (List.mem_of_getElem? (i := 698) (by decide +kernel)) (by decide +kernel)
set_option maxRecDepth 100000 in
theorem tw_699 : Cond.code yX7_isSemicolon cX7_isSemicolon 1 (some .boolean) ∈ gtb := gmem (List.mem_of_getElem? (i := 699) (by decide +kernel)) (by decide +kernel)
set_option maxRecDepth 100000 in
theorem tw_308 : Cond.fieldLink RX3 18 "SmudgeTally$Program" "failKind" "I" ∈ gtb := gmem (List.mem_of_getElem? (i := 308) (by decide +kernel)) (by decide +kernel)
set_option maxRecDepth 100000 in
theorem tw_310 : Cond.fieldLink RX3 90 "SmudgeTally$Program" "failPlace" "I" ∈ gtb := gmem (List.mem_of_getElem? (i := 310) (by decide +kernel)) (by decide +kernel)
set_option maxRecDepth 100000 in
theorem tw_312 : Cond.fieldLink RX3 93 "SmudgeTally$Program" "failCommands" "I" ∈ gtb := gmem (List.mem_of_getElem? (i := 312) (by decide +kernel)) (by decide +kernel)
set_option maxRecDepth 100000 in
theorem tw_314 : Cond.fieldLink RX3 96 "SmudgeTally$Program" "failCode" "I" ∈ gtb := gmem (List.mem_of_getElem? (i := 314) (by decide +kernel)) (by decide +kernel)
set_option maxRecDepth 100000 in
theorem tw_708 : Cond.methodLink RX1 23 yX1_addCard ∈ gtb := gmem (List.mem_of_getElem? (i := 708) (by decide +kernel)) (by decide +kernel)
set_option maxRecDepth 100000 in
theorem tw_709 : Cond.methodLink RX1 27 yX1_cleanMachine ∈ gtb := gmem (List.mem_of_getElem? (i := 709) (by decide +kernel)) (by decide +kernel)
set_option maxRecDepth 100000 in
theorem tw_710 : Cond.methodLink RX1 31 yX1_drawCards ∈ gtb := gmem (List.mem_of_getElem? (i := 710) (by decide +kernel)) (by decide +kernel)
set_option maxRecDepth 100000 in
theorem tw_711 : Cond.methodLink RX1 35 yX1_lookAt ∈ gtb := gmem (List.mem_of_getElem? (i := 711) (by decide +kernel)) (by decide +kernel)
set_option maxRecDepth 100000 in
theorem tw_712 : Cond.methodLink RX1 38 yX1_publishVersion ∈ gtb := gmem (List.mem_of_getElem? (i := 712) (by decide +kernel)) (by decide +kernel)
set_option maxRecDepth 100000 in
theorem tw_289 : Cond.fieldLink RX3 28 "SmudgeTally$Text" "kind" "I" ∈ gtb := gmem (List.mem_of_getElem? (i := 289) (by decide +kernel)) (by decide +kernel)
set_option maxRecDepth 100000 in
theorem tw_291 : Cond.fieldLink RX3 31 "SmudgeTally$Text" "start" "I" ∈ gtb := gmem (List.mem_of_getElem? (i := 291) (by decide +kernel)) (by decide +kernel)
set_option maxRecDepth 100000 in
theorem tw_613 : Cond.methodLink RX3 34 yX3_wordHere ∈ gtb := gmem (List.mem_of_getElem? (i := 613) (by decide +kernel)) (by decide +kernel)
set_option maxRecDepth 100000 in
theorem tw_615 : Cond.instanceMethod yX3_wordHere ∈ gtb := gmem (List.mem_of_getElem? (i := 615) (by decide +kernel)) (by decide +kernel)
set_option maxRecDepth 100000 in
theorem tw_10 : Cond.selects RX3 yX3_wordHere yX3_wordHere ∈ gtb := gmem (List.mem_of_getElem? (i := 10) (by decide +kernel)) (by decide +kernel)
set_option maxRecDepth 100000 in
theorem tw_64 : Cond.initialized RX3 ∈ gtb := gmem (List.mem_of_getElem? (i := 64) (by decide +kernel)) (by decide +kernel)
set_option maxRecDepth 100000 in
theorem tw_616 : Cond.code yX3_wordHere cX3_wordHere 1 (some .int) ∈ gtb := gmem (List.mem_of_getElem? (i := 616) (by decide +kernel)) (by decide +kernel)
set_option maxRecDepth 100000 in
theorem tw_700 : Cond.methodLink RX3 46 yX3_fail ∈ gtb := gmem (List.mem_of_getElem? (i := 700) (by decide +kernel)) (by decide +kernel)
set_option maxRecDepth 100000 in
theorem tw_702 : Cond.instanceMethod yX3_fail ∈ gtb := gmem (List.mem_of_getElem? (i := 702) (by decide +kernel)) (by decide +kernel)
set_option maxRecDepth 100000 in
theorem tw_13 : Cond.selects RX3 yX3_fail yX3_fail ∈ gtb := gmem (List.mem_of_getElem? (i := 13) (by decide +kernel)) (by decide +kernel)
set_option maxRecDepth 100000 in
theorem tw_703 : Cond.code yX3_fail cX3_fail 5 (some .int) ∈ gtb := gmem (List.mem_of_getElem? (i := 703) (by decide +kernel)) (by decide +kernel)
set_option maxRecDepth 100000 in
theorem tw_674 : Cond.methodLink RX3 38 yX3_readNumbers ∈ gtb := gmem (List.mem_of_getElem? (i := 674) (by decide +kernel)) (by decide +kernel)
set_option maxRecDepth 100000 in
theorem tw_676 : Cond.instanceMethod yX3_readNumbers ∈ gtb := gmem (List.mem_of_getElem? (i := 676) (by decide +kernel)) (by decide +kernel)
set_option maxRecDepth 100000 in
theorem tw_11 : Cond.selects RX3 yX3_readNumbers yX3_readNumbers ∈ gtb := gmem (List.mem_of_getElem? (i := 11) (by decide +kernel)) (by decide +kernel)
set_option maxRecDepth 100000 in
theorem tw_677 : Cond.code yX3_readNumbers cX3_readNumbers 2 (some .boolean) ∈ gtb := gmem (List.mem_of_getElem? (i := 677) (by decide +kernel)) (by decide +kernel)
set_option maxRecDepth 100000 in
theorem tw_692 : Cond.methodLink RX3 42 yX3_readSemicolon ∈ gtb := gmem (List.mem_of_getElem? (i := 692) (by decide +kernel)) (by decide +kernel)
set_option maxRecDepth 100000 in
theorem tw_694 : Cond.instanceMethod yX3_readSemicolon ∈ gtb := gmem (List.mem_of_getElem? (i := 694) (by decide +kernel)) (by decide +kernel)
set_option maxRecDepth 100000 in
theorem tw_12 : Cond.selects RX3 yX3_readSemicolon yX3_readSemicolon ∈ gtb := gmem (List.mem_of_getElem? (i := 12) (by decide +kernel)) (by decide +kernel)
set_option maxRecDepth 100000 in
theorem tw_695 : Cond.code yX3_readSemicolon cX3_readSemicolon 1 (some .boolean) ∈ gtb := gmem (List.mem_of_getElem? (i := 695) (by decide +kernel)) (by decide +kernel)
set_option maxRecDepth 100000 in
theorem tw_704 : Cond.methodLink RX3 57 yX1_obey ∈ gtb := gmem (List.mem_of_getElem? (i := 704) (by decide +kernel)) (by decide +kernel)
set_option maxRecDepth 100000 in
theorem tw_705 : Cond.instanceMethod yX1_obey ∈ gtb := gmem (List.mem_of_getElem? (i := 705) (by decide +kernel)) (by decide +kernel)
set_option maxRecDepth 100000 in
theorem tw_706 : Cond.selects RX1 yX1_obey yX1_obey ∈ gtb := gmem (List.mem_of_getElem? (i := 706) (by decide +kernel)) (by decide +kernel)
set_option maxRecDepth 100000 in
theorem tw_707 : Cond.code yX1_obey cX1_obey 6 (some .int) ∈ gtb := gmem (List.mem_of_getElem? (i := 707) (by decide +kernel)) (by decide +kernel)
set_option maxRecDepth 100000 in
theorem tw_602 : Cond.methodLink RX3 22 yX7_rewind ∈ gtb := gmem (List.mem_of_getElem? (i := 602) (by decide +kernel)) (by decide +kernel)
set_option maxRecDepth 100000 in
theorem tw_603 : Cond.instanceMethod yX7_rewind ∈ gtb := gmem (List.mem_of_getElem? (i := 603) (by decide +kernel)) (by decide +kernel)
set_option maxRecDepth 100000 in
theorem tw_604 : Cond.selects RX7 yX7_rewind yX7_rewind ∈ gtb := gmem (List.mem_of_getElem? (i := 604) (by decide +kernel)) (by decide +kernel)
set_option maxRecDepth 100000 in
theorem tw_605 : Cond.code yX7_rewind cX7_rewind 1 none ∈ gtb := gmem (List.mem_of_getElem? (i := 605) (by decide +kernel)) (by decide +kernel)
set_option maxRecDepth 100000 in
theorem tw_598 : Cond.methodLink RX8 117 yX3_runWith ∈ gtb := gmem (List.mem_of_getElem? (i := 598) (by decide +kernel)) (by decide +kernel)
set_option maxRecDepth 100000 in
theorem tw_599 : Cond.instanceMethod yX3_runWith ∈ gtb := gmem (List.mem_of_getElem? (i := 599) (by decide +kernel)) (by decide +kernel)
set_option maxRecDepth 100000 in
theorem tw_600 : Cond.selects RX3 yX3_runWith yX3_runWith ∈ gtb := gmem (List.mem_of_getElem? (i := 600) (by decide +kernel)) (by decide +kernel)
set_option maxRecDepth 100000 in
theorem tw_601 : Cond.code yX3_runWith cX3_runWith 6 (some .int) ∈ gtb := gmem (List.mem_of_getElem? (i := 601) (by decide +kernel)) (by decide +kernel)
set_option maxRecDepth 100000 in
theorem tw_713 : Cond.methodLink RX8 121 yX2_giveBackPrepared ∈ gtb := gmem (List.mem_of_getElem? (i := 713) (by decide +kernel)) (by decide +kernel)
set_option maxRecDepth 100000 in
theorem tw_714 : Cond.instanceMethod yX2_giveBackPrepared ∈ gtb := gmem (List.mem_of_getElem? (i := 714) (by decide +kernel)) (by decide +kernel)
set_option maxRecDepth 100000 in
theorem tw_715 : Cond.selects RX2 yX2_giveBackPrepared yX2_giveBackPrepared ∈ gtb := gmem (List.mem_of_getElem? (i := 715) (by decide +kernel)) (by decide +kernel)
set_option maxRecDepth 100000 in
theorem tw_716 : Cond.code yX2_giveBackPrepared cX2_giveBackPrepared 3 none ∈ gtb := gmem (List.mem_of_getElem? (i := 716) (by decide +kernel)) (by decide +kernel)
set_option maxRecDepth 100000 in
theorem tw_311 : Cond.fieldLink RX8 124 "SmudgeTally$Program" "failPlace" "I" ∈ gtb := gmem (List.mem_of_getElem? (i := 311) (by decide +kernel)) (by decide +kernel)
set_option maxRecDepth 100000 in
theorem tw_309 : Cond.fieldLink RX8 127 "SmudgeTally$Program" "failKind" "I" ∈ gtb := gmem (List.mem_of_getElem? (i := 309) (by decide +kernel)) (by decide +kernel)
set_option maxRecDepth 100000 in
theorem tw_313 : Cond.fieldLink RX8 130 "SmudgeTally$Program" "failCommands" "I" ∈ gtb := gmem (List.mem_of_getElem? (i := 313) (by decide +kernel)) (by decide +kernel)
set_option maxRecDepth 100000 in
theorem tw_315 : Cond.fieldLink RX8 133 "SmudgeTally$Program" "failCode" "I" ∈ gtb := gmem (List.mem_of_getElem? (i := 315) (by decide +kernel)) (by decide +kernel)
set_option maxRecDepth 100000 in
theorem tw_334 : Cond.fieldLink RX8 20 "SmudgeTally" "sight" "LSmudgeTally$Sight;" ∈ gtb := gmem (List.mem_of_getElem? (i := 334) (by decide +kernel)) (by decide +kernel)
set_option maxRecDepth 100000 in
theorem tw_726 : Cond.methodLink RX8 140 yX4_workOut ∈ gtb := gmem (List.mem_of_getElem? (i := 726) (by decide +kernel)) (by decide +kernel)
set_option maxRecDepth 100000 in
theorem tw_727 : Cond.methodLink RX8 143 yX0_cardsInStage ∈ gtb := gmem (List.mem_of_getElem? (i := 727) (by decide +kernel)) (by decide +kernel)
set_option maxRecDepth 100000 in
theorem tw_728 : Cond.methodLink RX8 146 yX4_poolSize ∈ gtb := gmem (List.mem_of_getElem? (i := 728) (by decide +kernel)) (by decide +kernel)
set_option maxRecDepth 100000 in
theorem tw_106 : Cond.fieldLink RX8 149 "SmudgeTally$Books" "versions" "I" ∈ gtb := gmem (List.mem_of_getElem? (i := 106) (by decide +kernel)) (by decide +kernel)
set_option maxRecDepth 100000 in
theorem tw_729 : Cond.methodLink RX8 152 yX4_cardsChanging ∈ gtb := gmem (List.mem_of_getElem? (i := 729) (by decide +kernel)) (by decide +kernel)
set_option maxRecDepth 100000 in
theorem tw_730 : Cond.methodLink RX8 155 yX4_unseenChanging ∈ gtb := gmem (List.mem_of_getElem? (i := 730) (by decide +kernel)) (by decide +kernel)
set_option maxRecDepth 100000 in
theorem tw_731 : Cond.methodLink RX8 158 yX4_streaks ∈ gtb := gmem (List.mem_of_getElem? (i := 731) (by decide +kernel)) (by decide +kernel)
set_option maxRecDepth 100000 in
theorem tw_732 : Cond.instanceMethod yX4_streaks ∈ gtb := gmem (List.mem_of_getElem? (i := 732) (by decide +kernel)) (by decide +kernel)
set_option maxRecDepth 100000 in
theorem tw_733 : Cond.selects RX4 yX4_streaks yX4_streaks ∈ gtb := gmem (List.mem_of_getElem? (i := 733) (by decide +kernel)) (by decide +kernel)
set_option maxRecDepth 100000 in
theorem tw_734 : Cond.code yX4_streaks cX4_streaks 5 (some .int) ∈ gtb := gmem (List.mem_of_getElem? (i := 734) (by decide +kernel)) (by decide +kernel)
set_option maxRecDepth 100000 in
theorem tw_735 : Cond.methodLink RX8 161 yX5_snapshots ∈ gtb := gmem (List.mem_of_getElem? (i := 735) (by decide +kernel)) (by decide +kernel)
set_option maxRecDepth 100000 in
theorem tw_736 : Cond.instanceMethod yX5_snapshots ∈ gtb := gmem (List.mem_of_getElem? (i := 736) (by decide +kernel)) (by decide +kernel)
set_option maxRecDepth 100000 in
theorem tw_737 : Cond.selects RX5 yX5_snapshots yX5_snapshots ∈ gtb := gmem (List.mem_of_getElem? (i := 737) (by decide +kernel)) (by decide +kernel)
set_option maxRecDepth 100000 in
theorem tw_738 : Cond.code yX5_snapshots cX5_snapshots 3 (some .int) ∈ gtb := gmem (List.mem_of_getElem? (i := 738) (by decide +kernel)) (by decide +kernel)
set_option maxRecDepth 100000 in
theorem tw_288 : Cond.fieldLink RX8 164 "SmudgeTally$Text" "length" "I" ∈ gtb := gmem (List.mem_of_getElem? (i := 288) (by decide +kernel)) (by decide +kernel)
set_option maxRecDepth 100000 in
theorem tw_130 : Cond.fieldLink RX8 136 "SmudgeTally$Books" "numbers" "[I" ∈ gtb := gmem (List.mem_of_getElem? (i := 130) (by decide +kernel)) (by decide +kernel)
set_option maxRecDepth 100000 in
theorem tw_743 : Cond.methodLink RX8 167 yX0_hasCard ∈ gtb := gmem (List.mem_of_getElem? (i := 743) (by decide +kernel)) (by decide +kernel)
set_option maxRecDepth 100000 in
theorem tw_110 : Cond.fieldLink RX8 170 "SmudgeTally$Books" "machines" "[I" ∈ gtb := gmem (List.mem_of_getElem? (i := 110) (by decide +kernel)) (by decide +kernel)
set_option maxRecDepth 100000 in
theorem tw_744 : Cond.methodLink RX8 173 yX0_cardsOf ∈ gtb := gmem (List.mem_of_getElem? (i := 744) (by decide +kernel)) (by decide +kernel)
set_option maxRecDepth 100000 in
theorem tw_114 : Cond.fieldLink RX8 176 "SmudgeTally$Books" "cleaningsBefore" "[I" ∈ gtb := gmem (List.mem_of_getElem? (i := 114) (by decide +kernel)) (by decide +kernel)
set_option maxRecDepth 100000 in
theorem tw_118 : Cond.fieldLink RX8 179 "SmudgeTally$Books" "stages" "[I" ∈ gtb := gmem (List.mem_of_getElem? (i := 118) (by decide +kernel)) (by decide +kernel)
set_option maxRecDepth 100000 in
theorem tw_184 : Cond.fieldLink RX8 182 "SmudgeTally$Sight" "doubtful" "[I" ∈ gtb := gmem (List.mem_of_getElem? (i := 184) (by decide +kernel)) (by decide +kernel)
set_option maxRecDepth 100000 in
theorem tw_745 : Cond.methodLink RX8 185 yX4_inPool ∈ gtb := gmem (List.mem_of_getElem? (i := 745) (by decide +kernel)) (by decide +kernel)
set_option maxRecDepth 100000 in
theorem tw_165 : Cond.fieldLink RX8 188 "SmudgeTally$Sight" "read" "[I" ∈ gtb := gmem (List.mem_of_getElem? (i := 165) (by decide +kernel)) (by decide +kernel)
set_option maxRecDepth 100000 in
theorem tw_176 : Cond.fieldLink RX8 191 "SmudgeTally$Sight" "dirt" "[I" ∈ gtb := gmem (List.mem_of_getElem? (i := 176) (by decide +kernel)) (by decide +kernel)
set_option maxRecDepth 100000 in
theorem tw_167 : Cond.fieldLink RX8 194 "SmudgeTally$Sight" "truth" "[I" ∈ gtb := gmem (List.mem_of_getElem? (i := 167) (by decide +kernel)) (by decide +kernel)
set_option maxRecDepth 100000 in
theorem tw_178 : Cond.fieldLink RX8 197 "SmudgeTally$Sight" "clear" "[I" ∈ gtb := gmem (List.mem_of_getElem? (i := 178) (by decide +kernel)) (by decide +kernel)
set_option maxRecDepth 100000 in
theorem tw_180 : Cond.fieldLink RX8 200 "SmudgeTally$Sight" "mark" "[I" ∈ gtb := gmem (List.mem_of_getElem? (i := 180) (by decide +kernel)) (by decide +kernel)
set_option maxRecDepth 100000 in
theorem tw_173 : Cond.fieldLink RX8 203 "SmudgeTally$Sight" "runLength" "[I" ∈ gtb := gmem (List.mem_of_getElem? (i := 173) (by decide +kernel)) (by decide +kernel)
set_option maxRecDepth 100000 in
theorem tw_169 : Cond.fieldLink RX8 206 "SmudgeTally$Sight" "runFirst" "[I" ∈ gtb := gmem (List.mem_of_getElem? (i := 169) (by decide +kernel)) (by decide +kernel)
set_option maxRecDepth 100000 in
theorem tw_171 : Cond.fieldLink RX8 209 "SmudgeTally$Sight" "runLast" "[I" ∈ gtb := gmem (List.mem_of_getElem? (i := 171) (by decide +kernel)) (by decide +kernel)
set_option maxRecDepth 100000 in
theorem tw_763 : Cond.methodLink RX0 53 yX0_hasVersion ∈ gtb := gmem (List.mem_of_getElem? (i := 763) (by decide +kernel)) (by decide +kernel)
set_option maxRecDepth 100000 in
theorem tw_773 : Cond.methodLink RX0 57 yX0_hasCard ∈ gtb := gmem (List.mem_of_getElem? (i := 773) (by decide +kernel)) (by decide +kernel)
set_option maxRecDepth 100000 in
theorem tw_768 : Cond.methodLink RX4 142 yX0_hasCard ∈ gtb := gmem (List.mem_of_getElem? (i := 768) (by decide +kernel)) (by decide +kernel)
set_option maxRecDepth 100000 in
theorem tw_769 : Cond.methodLink RX4 145 yX0_outcomesIn ∈ gtb := gmem (List.mem_of_getElem? (i := 769) (by decide +kernel)) (by decide +kernel)
set_option maxRecDepth 100000 in
theorem tw_770 : Cond.instanceMethod yX0_outcomesIn ∈ gtb := gmem (List.mem_of_getElem? (i := 770) (by decide +kernel)) (by decide +kernel)
set_option maxRecDepth 100000 in
theorem tw_771 : Cond.selects RX0 yX0_outcomesIn yX0_outcomesIn ∈ gtb := gmem (List.mem_of_getElem? (i := 771) (by decide +kernel)) (by decide +kernel)
set_option maxRecDepth 100000 in
theorem tw_772 : Cond.code yX0_outcomesIn cX0_outcomesIn 3 (some .int) ∈ gtb := gmem (List.mem_of_getElem? (i := 772) (by decide +kernel)) (by decide +kernel)
set_option maxRecDepth 100000 in
theorem tw_759 : Cond.methodLink RX8 215 yX0_cardsIn ∈ gtb := gmem (List.mem_of_getElem? (i := 759) (by decide +kernel)) (by decide +kernel)
set_option maxRecDepth 100000 in
theorem tw_760 : Cond.instanceMethod yX0_cardsIn ∈ gtb := gmem (List.mem_of_getElem? (i := 760) (by decide +kernel)) (by decide +kernel)
set_option maxRecDepth 100000 in
theorem tw_761 : Cond.selects RX0 yX0_cardsIn yX0_cardsIn ∈ gtb := gmem (List.mem_of_getElem? (i := 761) (by decide +kernel)) (by decide +kernel)
set_option maxRecDepth 100000 in
theorem tw_762 : Cond.code yX0_cardsIn cX0_cardsIn 2 (some .int) ∈ gtb := gmem (List.mem_of_getElem? (i := 762) (by decide +kernel)) (by decide +kernel)
set_option maxRecDepth 100000 in
theorem tw_764 : Cond.methodLink RX8 218 yX4_outcomesIn ∈ gtb := gmem (List.mem_of_getElem? (i := 764) (by decide +kernel)) (by decide +kernel)
set_option maxRecDepth 100000 in
theorem tw_765 : Cond.instanceMethod yX4_outcomesIn ∈ gtb := gmem (List.mem_of_getElem? (i := 765) (by decide +kernel)) (by decide +kernel)
set_option maxRecDepth 100000 in
theorem tw_766 : Cond.selects RX4 yX4_outcomesIn yX4_outcomesIn ∈ gtb := gmem (List.mem_of_getElem? (i := 766) (by decide +kernel)) (by decide +kernel)
set_option maxRecDepth 100000 in
theorem tw_767 : Cond.code yX4_outcomesIn cX4_outcomesIn 3 (some .int) ∈ gtb := gmem (List.mem_of_getElem? (i := 767) (by decide +kernel)) (by decide +kernel)
set_option maxRecDepth 100000 in
theorem tw_758 : Cond.methodLink RX8 212 yX0_hasVersion ∈ gtb := gmem (List.mem_of_getElem? (i := 758) (by decide +kernel)) (by decide +kernel)
set_option maxRecDepth 100000 in
theorem tw_783 : Cond.methodLink RX4 151 yX4_outcomesIn ∈ gtb := gmem (List.mem_of_getElem? (i := 783) (by decide +kernel)) (by decide +kernel)
set_option maxRecDepth 100000 in
theorem tw_782 : Cond.methodLink RX4 148 yX0_cardsIn ∈ gtb := gmem (List.mem_of_getElem? (i := 782) (by decide +kernel)) (by decide +kernel)
set_option maxRecDepth 100000 in
theorem tw_778 : Cond.methodLink RX8 224 yX4_cardsWith ∈ gtb := gmem (List.mem_of_getElem? (i := 778) (by decide +kernel)) (by decide +kernel)
set_option maxRecDepth 100000 in
theorem tw_779 : Cond.instanceMethod yX4_cardsWith ∈ gtb := gmem (List.mem_of_getElem? (i := 779) (by decide +kernel)) (by decide +kernel)
set_option maxRecDepth 100000 in
theorem tw_780 : Cond.selects RX4 yX4_cardsWith yX4_cardsWith ∈ gtb := gmem (List.mem_of_getElem? (i := 780) (by decide +kernel)) (by decide +kernel)
set_option maxRecDepth 100000 in
theorem tw_781 : Cond.code yX4_cardsWith cX4_cardsWith 8 (some .int) ∈ gtb := gmem (List.mem_of_getElem? (i := 781) (by decide +kernel)) (by decide +kernel)
set_option maxRecDepth 100000 in
theorem tw_797 : Cond.methodLink RX0 60 yX0_cardsIn ∈ gtb := gmem (List.mem_of_getElem? (i := 797) (by decide +kernel)) (by decide +kernel)
set_option maxRecDepth 100000 in
theorem tw_798 : Cond.methodLink RX0 64 yX0_outcomesIn ∈ gtb := gmem (List.mem_of_getElem? (i := 798) (by decide +kernel)) (by decide +kernel)
set_option maxRecDepth 100000 in
theorem tw_793 : Cond.methodLink RX0 71 yX0_changesIn ∈ gtb := gmem (List.mem_of_getElem? (i := 793) (by decide +kernel)) (by decide +kernel)
set_option maxRecDepth 100000 in
theorem tw_794 : Cond.instanceMethod yX0_changesIn ∈ gtb := gmem (List.mem_of_getElem? (i := 794) (by decide +kernel)) (by decide +kernel)
set_option maxRecDepth 100000 in
theorem tw_795 : Cond.selects RX0 yX0_changesIn yX0_changesIn ∈ gtb := gmem (List.mem_of_getElem? (i := 795) (by decide +kernel)) (by decide +kernel)
set_option maxRecDepth 100000 in
theorem tw_796 : Cond.code yX0_changesIn cX0_changesIn 3 (some .int) ∈ gtb := gmem (List.mem_of_getElem? (i := 796) (by decide +kernel)) (by decide +kernel)
set_option maxRecDepth 100000 in
theorem tw_789 : Cond.methodLink RX8 228 yX0_changedCard ∈ gtb := gmem (List.mem_of_getElem? (i := 789) (by decide +kernel)) (by decide +kernel)
set_option maxRecDepth 100000 in
theorem tw_790 : Cond.instanceMethod yX0_changedCard ∈ gtb := gmem (List.mem_of_getElem? (i := 790) (by decide +kernel)) (by decide +kernel)
set_option maxRecDepth 100000 in
theorem tw_791 : Cond.selects RX0 yX0_changedCard yX0_changedCard ∈ gtb := gmem (List.mem_of_getElem? (i := 791) (by decide +kernel)) (by decide +kernel)
set_option maxRecDepth 100000 in
theorem tw_792 : Cond.code yX0_changedCard cX0_changedCard 5 (some .int) ∈ gtb := gmem (List.mem_of_getElem? (i := 792) (by decide +kernel)) (by decide +kernel)
set_option maxRecDepth 100000 in
theorem tw_800 : Cond.methodLink RX8 231 yX0_changesIn ∈ gtb := gmem (List.mem_of_getElem? (i := 800) (by decide +kernel)) (by decide +kernel)
set_option maxRecDepth 100000 in
theorem tw_809 : Cond.methodLink RX4 161 yX4_cardsWith ∈ gtb := gmem (List.mem_of_getElem? (i := 809) (by decide +kernel)) (by decide +kernel)
set_option maxRecDepth 100000 in
theorem tw_805 : Cond.methodLink RX8 234 yX4_leadingChoice ∈ gtb := gmem (List.mem_of_getElem? (i := 805) (by decide +kernel)) (by decide +kernel)
set_option maxRecDepth 100000 in
theorem tw_806 : Cond.instanceMethod yX4_leadingChoice ∈ gtb := gmem (List.mem_of_getElem? (i := 806) (by decide +kernel)) (by decide +kernel)
set_option maxRecDepth 100000 in
theorem tw_807 : Cond.selects RX4 yX4_leadingChoice yX4_leadingChoice ∈ gtb := gmem (List.mem_of_getElem? (i := 807) (by decide +kernel)) (by decide +kernel)
set_option maxRecDepth 100000 in
theorem tw_808 : Cond.code yX4_leadingChoice cX4_leadingChoice 6 (some .int) ∈ gtb := gmem (List.mem_of_getElem? (i := 808) (by decide +kernel)) (by decide +kernel)
set_option maxRecDepth 100000 in
theorem tw_810 : Cond.methodLink RX8 237 yX4_leadOf ∈ gtb := gmem (List.mem_of_getElem? (i := 810) (by decide +kernel)) (by decide +kernel)
set_option maxRecDepth 100000 in
theorem tw_811 : Cond.instanceMethod yX4_leadOf ∈ gtb := gmem (List.mem_of_getElem? (i := 811) (by decide +kernel)) (by decide +kernel)
set_option maxRecDepth 100000 in
theorem tw_812 : Cond.selects RX4 yX4_leadOf yX4_leadOf ∈ gtb := gmem (List.mem_of_getElem? (i := 812) (by decide +kernel)) (by decide +kernel)
set_option maxRecDepth 100000 in
theorem tw_813 : Cond.code yX4_leadOf cX4_leadOf 5 (some .int) ∈ gtb := gmem (List.mem_of_getElem? (i := 813) (by decide +kernel)) (by decide +kernel)
set_option maxRecDepth 100000 in
theorem tw_822 : Cond.methodLink RX4 165 Lib.Math.abs.name ∈ gtb := gmem (List.mem_of_getElem? (i := 822) (by decide +kernel)) (by decide +kernel)
set_option maxRecDepth 100000 in
theorem tw_823 : Cond.static Lib.Math.abs.name ∈ gtb := gmem (List.mem_of_getElem? (i := 823) (by decide +kernel)) (by decide +kernel)
set_option maxRecDepth 100000 in
theorem tw_818 : Cond.methodLink RX8 240 yX4_errorOf ∈ gtb := gmem (List.mem_of_getElem? (i := 818) (by decide +kernel)) (by decide +kernel)
set_option maxRecDepth 100000 in
theorem tw_819 : Cond.instanceMethod yX4_errorOf ∈ gtb := gmem (List.mem_of_getElem? (i := 819) (by decide +kernel)) (by decide +kernel)
set_option maxRecDepth 100000 in
theorem tw_820 : Cond.selects RX4 yX4_errorOf yX4_errorOf ∈ gtb := gmem (List.mem_of_getElem? (i := 820) (by decide +kernel)) (by decide +kernel)
set_option maxRecDepth 100000 in
theorem tw_821 : Cond.code yX4_errorOf cX4_errorOf 7 (some .int) ∈ gtb := gmem (List.mem_of_getElem? (i := 821) (by decide +kernel)) (by decide +kernel)
set_option maxRecDepth 100000 in
theorem tw_186 : Cond.fieldLink RX4 59 "SmudgeTally$Sight" "outcomesBefore" "[I" ∈ gtb := gmem (List.mem_of_getElem? (i := 186) (by decide +kernel)) (by decide +kernel)
set_option maxRecDepth 100000 in
theorem tw_835 : Cond.methodLink RX4 168 arraycopyName ∈ gtb := gmem (List.mem_of_getElem? (i := 835) (by decide +kernel)) (by decide +kernel)
set_option maxRecDepth 100000 in
theorem tw_829 : Cond.fieldLink RX8 243 "SmudgeTally" "SMALLEST" "[I" ∈ gtb := gmem (List.mem_of_getElem? (i := 829) (by decide +kernel)) (by decide +kernel)
set_option maxRecDepth 100000 in
theorem tw_830 : Cond.fieldLink RX8 246 "SmudgeTally" "GREATEST" "[I" ∈ gtb := gmem (List.mem_of_getElem? (i := 830) (by decide +kernel)) (by decide +kernel)
set_option maxRecDepth 100000 in
theorem tw_831 : Cond.methodLink RX8 249 yX4_otherWith ∈ gtb := gmem (List.mem_of_getElem? (i := 831) (by decide +kernel)) (by decide +kernel)
set_option maxRecDepth 100000 in
theorem tw_832 : Cond.instanceMethod yX4_otherWith ∈ gtb := gmem (List.mem_of_getElem? (i := 832) (by decide +kernel)) (by decide +kernel)
set_option maxRecDepth 100000 in
theorem tw_833 : Cond.selects RX4 yX4_otherWith yX4_otherWith ∈ gtb := gmem (List.mem_of_getElem? (i := 833) (by decide +kernel)) (by decide +kernel)
set_option maxRecDepth 100000 in
theorem tw_834 : Cond.code yX4_otherWith cX4_otherWith 4 (some .int) ∈ gtb := gmem (List.mem_of_getElem? (i := 834) (by decide +kernel)) (by decide +kernel)
set_option maxRecDepth 100000 in
theorem tw_840 : Cond.constant RX8 252 (65536) ∈ gtb := gmem (List.mem_of_getElem? (i := 840) (by decide +kernel)) (by decide +kernel)
set_option maxRecDepth 100000 in
theorem tw_841 : Cond.methodLink RX8 253 yX8_nextLot ∈ gtb := gmem (List.mem_of_getElem? (i := 841) (by decide +kernel)) (by decide +kernel)
set_option maxRecDepth 100000 in
theorem tw_842 : Cond.methodLink RX8 256 yX4_poolCard ∈ gtb := gmem (List.mem_of_getElem? (i := 842) (by decide +kernel)) (by decide +kernel)
set_option maxRecDepth 100000 in
theorem tw_847 : Cond.methodLink RX8 259 yX4_placeInPool ∈ gtb := gmem (List.mem_of_getElem? (i := 847) (by decide +kernel)) (by decide +kernel)
set_option maxRecDepth 100000 in
theorem tw_857 : Cond.fieldLink RX9 7 "SmudgeTallyModel" "now" "[J" ∈ gtb := gmem (List.mem_of_getElem? (i := 857) (by decide +kernel)) (by decide +kernel)
set_option maxRecDepth 100000 in
theorem tw_922 : Cond.methodLink RX9 32 yX9_in ∈ gtb := gmem (List.mem_of_getElem? (i := 922) (by decide +kernel)) (by decide +kernel)
set_option maxRecDepth 100000 in
theorem tw_923 : Cond.static yX9_in ∈ gtb := gmem (List.mem_of_getElem? (i := 923) (by decide +kernel)) (by decide +kernel)
set_option maxRecDepth 100000 in
theorem tw_66 : Cond.initialized RX9 ∈ gtb := gmem (List.mem_of_getElem? (i := 66) (by decide +kernel)) (by decide +kernel)
set_option maxRecDepth 100000 in
theorem tw_924 : Cond.code yX9_in cX9_in 6 (some .boolean) ∈ gtb := gmem (List.mem_of_getElem? (i := 924) (by decide +kernel)) (by decide +kernel)
set_option maxRecDepth 100000 in
theorem tw_928 : Cond.constantLong RX9 36 (999999999999) ∈ gtb := gmem (List.mem_of_getElem? (i := 928) (by decide +kernel)) (by decide +kernel)
set_option maxRecDepth 100000 in
theorem tw_1007 : Cond.constantLong RX9 38 (10) ∈ gtb := gmem (List.mem_of_getElem? (i := 1007) (by decide +kernel)) (by decide +kernel)
set_option maxRecDepth 100000 in
theorem tw_930 : Cond.methodLink RX9 40 yX9_c ∈ gtb := gmem (List.mem_of_getElem? (i := 930) (by decide +kernel)) (by decide +kernel)
set_option maxRecDepth 100000 in
theorem tw_931 : Cond.static yX9_c ∈ gtb := gmem (List.mem_of_getElem? (i := 931) (by decide +kernel)) (by decide +kernel)
set_option maxRecDepth 100000 in
theorem tw_932 : Cond.code yX9_c cX9_c 2 (some .int) ∈ gtb := gmem (List.mem_of_getElem? (i := 932) (by decide +kernel)) (by decide +kernel)
set_option maxRecDepth 100000 in
theorem tw_1004 : Cond.methodLink RX9 44 yX9_digit ∈ gtb := gmem (List.mem_of_getElem? (i := 1004) (by decide +kernel)) (by decide +kernel)
set_option maxRecDepth 100000 in
theorem tw_1005 : Cond.static yX9_digit ∈ gtb := gmem (List.mem_of_getElem? (i := 1005) (by decide +kernel)) (by decide +kernel)
set_option maxRecDepth 100000 in
theorem tw_1006 : Cond.code yX9_digit cX9_digit 6 (some .int) ∈ gtb := gmem (List.mem_of_getElem? (i := 1006) (by decide +kernel)) (by decide +kernel)
set_option maxRecDepth 100000 in
theorem tw_921 : Cond.constantLong RX9 48 (2) ∈ gtb := gmem (List.mem_of_getElem? (i := 921) (by decide +kernel)) (by decide +kernel)
set_option maxRecDepth 100000 in
theorem tw_858 : Cond.fieldLink RX9 13 "SmudgeTallyModel" "before" "[J" ∈ gtb := gmem (List.mem_of_getElem? (i := 858) (by decide +kernel)) (by decide +kernel)
set_option maxRecDepth 100000 in
theorem tw_860 : Cond.fieldLink RX9 54 "SmudgeTallyModel" "states" "I" ∈ gtb := gmem (List.mem_of_getElem? (i := 860) (by decide +kernel)) (by decide +kernel)
set_option maxRecDepth 100000 in
theorem tw_859 : Cond.fieldLink RX9 16 "SmudgeTallyModel" "past" "[J" ∈ gtb := gmem (List.mem_of_getElem? (i := 859) (by decide +kernel)) (by decide +kernel)
set_option maxRecDepth 100000 in
theorem tw_937 : Cond.constantLong RX9 50 (-3) ∈ gtb := gmem (List.mem_of_getElem? (i := 937) (by decide +kernel)) (by decide +kernel)
set_option maxRecDepth 100000 in
theorem tw_938 : Cond.constantLong RX9 52 (-1) ∈ gtb := gmem (List.mem_of_getElem? (i := 938) (by decide +kernel)) (by decide +kernel)
set_option maxRecDepth 100000 in
theorem tw_1008 : Cond.methodLink RX9 58 yX9_read ∈ gtb := gmem (List.mem_of_getElem? (i := 1008) (by decide +kernel)) (by decide +kernel)
set_option maxRecDepth 100000 in
theorem tw_1010 : Cond.instanceMethod yX9_read ∈ gtb := gmem (List.mem_of_getElem? (i := 1010) (by decide +kernel)) (by decide +kernel)
set_option maxRecDepth 100000 in
theorem tw_28 : Cond.selects RX9 yX9_read yX9_read ∈ gtb := gmem (List.mem_of_getElem? (i := 28) (by decide +kernel)) (by decide +kernel)
set_option maxRecDepth 100000 in
theorem tw_1011 : Cond.code yX9_read cX9_read 3 (some .int) ∈ gtb := gmem (List.mem_of_getElem? (i := 1011) (by decide +kernel)) (by decide +kernel)
set_option maxRecDepth 100000 in
theorem tw_1024 : Cond.methodLink RX9 64 yX9_goesOn ∈ gtb := gmem (List.mem_of_getElem? (i := 1024) (by decide +kernel)) (by decide +kernel)
set_option maxRecDepth 100000 in
theorem tw_1026 : Cond.instanceMethod yX9_goesOn ∈ gtb := gmem (List.mem_of_getElem? (i := 1026) (by decide +kernel)) (by decide +kernel)
set_option maxRecDepth 100000 in
theorem tw_32 : Cond.selects RX9 yX9_goesOn yX9_goesOn ∈ gtb := gmem (List.mem_of_getElem? (i := 32) (by decide +kernel)) (by decide +kernel)
set_option maxRecDepth 100000 in
theorem tw_1027 : Cond.code yX9_goesOn cX9_goesOn 4 (some .boolean) ∈ gtb := gmem (List.mem_of_getElem? (i := 1027) (by decide +kernel)) (by decide +kernel)
set_option maxRecDepth 100000 in
theorem tw_1020 : Cond.methodLink RX9 61 yX9_beside ∈ gtb := gmem (List.mem_of_getElem? (i := 1020) (by decide +kernel)) (by decide +kernel)
set_option maxRecDepth 100000 in
theorem tw_1022 : Cond.instanceMethod yX9_beside ∈ gtb := gmem (List.mem_of_getElem? (i := 1022) (by decide +kernel)) (by decide +kernel)
set_option maxRecDepth 100000 in
theorem tw_31 : Cond.selects RX9 yX9_beside yX9_beside ∈ gtb := gmem (List.mem_of_getElem? (i := 31) (by decide +kernel)) (by decide +kernel)
set_option maxRecDepth 100000 in
theorem tw_1023 : Cond.code yX9_beside cX9_beside 4 (some .int) ∈ gtb := gmem (List.mem_of_getElem? (i := 1023) (by decide +kernel)) (by decide +kernel)
set_option maxRecDepth 100000 in
theorem tw_1016 : Cond.methodLink RX9 68 yX9_end ∈ gtb := gmem (List.mem_of_getElem? (i := 1016) (by decide +kernel)) (by decide +kernel)
set_option maxRecDepth 100000 in
theorem tw_1018 : Cond.instanceMethod yX9_end ∈ gtb := gmem (List.mem_of_getElem? (i := 1018) (by decide +kernel)) (by decide +kernel)
set_option maxRecDepth 100000 in
theorem tw_30 : Cond.selects RX9 yX9_end yX9_end ∈ gtb := gmem (List.mem_of_getElem? (i := 30) (by decide +kernel)) (by decide +kernel)
set_option maxRecDepth 100000 in
theorem tw_1019 : Cond.code yX9_end cX9_end 6 (some .int) ∈ gtb := gmem (List.mem_of_getElem? (i := 1019) (by decide +kernel)) (by decide +kernel)
set_option maxRecDepth 100000 in
theorem tw_1000 : Cond.methodLink RX9 72 yX9_isLooked ∈ gtb := gmem (List.mem_of_getElem? (i := 1000) (by decide +kernel)) (by decide +kernel)
set_option maxRecDepth 100000 in
theorem tw_1002 : Cond.instanceMethod yX9_isLooked ∈ gtb := gmem (List.mem_of_getElem? (i := 1002) (by decide +kernel)) (by decide +kernel)
set_option maxRecDepth 100000 in
theorem tw_27 : Cond.selects RX9 yX9_isLooked yX9_isLooked ∈ gtb := gmem (List.mem_of_getElem? (i := 27) (by decide +kernel)) (by decide +kernel)
set_option maxRecDepth 100000 in
theorem tw_1003 : Cond.code yX9_isLooked cX9_isLooked 2 (some .boolean) ∈ gtb := gmem (List.mem_of_getElem? (i := 1003) (by decide +kernel)) (by decide +kernel)
set_option maxRecDepth 100000 in
theorem tw_1036 : Cond.methodLink RX9 82 yX9_least ∈ gtb := gmem (List.mem_of_getElem? (i := 1036) (by decide +kernel)) (by decide +kernel)
set_option maxRecDepth 100000 in
theorem tw_1038 : Cond.instanceMethod yX9_least ∈ gtb := gmem (List.mem_of_getElem? (i := 1038) (by decide +kernel)) (by decide +kernel)
set_option maxRecDepth 100000 in
theorem tw_35 : Cond.selects RX9 yX9_least yX9_least ∈ gtb := gmem (List.mem_of_getElem? (i := 35) (by decide +kernel)) (by decide +kernel)
set_option maxRecDepth 100000 in
theorem tw_1039 : Cond.code yX9_least cX9_least 3 (some .int) ∈ gtb := gmem (List.mem_of_getElem? (i := 1039) (by decide +kernel)) (by decide +kernel)
set_option maxRecDepth 100000 in
theorem tw_1032 : Cond.methodLink RX9 79 yX9_dirtBy ∈ gtb := gmem (List.mem_of_getElem? (i := 1032) (by decide +kernel)) (by decide +kernel)
set_option maxRecDepth 100000 in
theorem tw_1034 : Cond.instanceMethod yX9_dirtBy ∈ gtb := gmem (List.mem_of_getElem? (i := 1034) (by decide +kernel)) (by decide +kernel)
set_option maxRecDepth 100000 in
theorem tw_34 : Cond.selects RX9 yX9_dirtBy yX9_dirtBy ∈ gtb := gmem (List.mem_of_getElem? (i := 34) (by decide +kernel)) (by decide +kernel)
set_option maxRecDepth 100000 in
theorem tw_1035 : Cond.code yX9_dirtBy cX9_dirtBy 5 (some .int) ∈ gtb := gmem (List.mem_of_getElem? (i := 1035) (by decide +kernel)) (by decide +kernel)
set_option maxRecDepth 100000 in
theorem tw_1028 : Cond.methodLink RX9 76 yX9_runFrom ∈ gtb := gmem (List.mem_of_getElem? (i := 1028) (by decide +kernel)) (by decide +kernel)
set_option maxRecDepth 100000 in
theorem tw_1030 : Cond.instanceMethod yX9_runFrom ∈ gtb := gmem (List.mem_of_getElem? (i := 1030) (by decide +kernel)) (by decide +kernel)
set_option maxRecDepth 100000 in
theorem tw_33 : Cond.selects RX9 yX9_runFrom yX9_runFrom ∈ gtb := gmem (List.mem_of_getElem? (i := 33) (by decide +kernel)) (by decide +kernel)
set_option maxRecDepth 100000 in
theorem tw_1031 : Cond.code yX9_runFrom cX9_runFrom 6 (some .int) ∈ gtb := gmem (List.mem_of_getElem? (i := 1031) (by decide +kernel)) (by decide +kernel)
set_option maxRecDepth 100000 in
theorem tw_1012 : Cond.methodLink RX9 85 yX9_dirt ∈ gtb := gmem (List.mem_of_getElem? (i := 1012) (by decide +kernel)) (by decide +kernel)
set_option maxRecDepth 100000 in
theorem tw_1014 : Cond.instanceMethod yX9_dirt ∈ gtb := gmem (List.mem_of_getElem? (i := 1014) (by decide +kernel)) (by decide +kernel)
set_option maxRecDepth 100000 in
theorem tw_29 : Cond.selects RX9 yX9_dirt yX9_dirt ∈ gtb := gmem (List.mem_of_getElem? (i := 29) (by decide +kernel)) (by decide +kernel)
set_option maxRecDepth 100000 in
theorem tw_1015 : Cond.code yX9_dirt cX9_dirt 8 (some .int) ∈ gtb := gmem (List.mem_of_getElem? (i := 1015) (by decide +kernel)) (by decide +kernel)
set_option maxRecDepth 100000 in
theorem tw_996 : Cond.methodLink RX9 88 yX9_clear ∈ gtb := gmem (List.mem_of_getElem? (i := 996) (by decide +kernel)) (by decide +kernel)
set_option maxRecDepth 100000 in
theorem tw_998 : Cond.instanceMethod yX9_clear ∈ gtb := gmem (List.mem_of_getElem? (i := 998) (by decide +kernel)) (by decide +kernel)
set_option maxRecDepth 100000 in
theorem tw_26 : Cond.selects RX9 yX9_clear yX9_clear ∈ gtb := gmem (List.mem_of_getElem? (i := 26) (by decide +kernel)) (by decide +kernel)
set_option maxRecDepth 100000 in
theorem tw_999 : Cond.code yX9_clear cX9_clear 4 (some .int) ∈ gtb := gmem (List.mem_of_getElem? (i := 999) (by decide +kernel)) (by decide +kernel)
set_option maxRecDepth 100000 in
theorem tw_992 : Cond.methodLink RX9 91 yX9_mark ∈ gtb := gmem (List.mem_of_getElem? (i := 992) (by decide +kernel)) (by decide +kernel)
set_option maxRecDepth 100000 in
theorem tw_994 : Cond.instanceMethod yX9_mark ∈ gtb := gmem (List.mem_of_getElem? (i := 994) (by decide +kernel)) (by decide +kernel)
set_option maxRecDepth 100000 in
theorem tw_25 : Cond.selects RX9 yX9_mark yX9_mark ∈ gtb := gmem (List.mem_of_getElem? (i := 25) (by decide +kernel)) (by decide +kernel)
set_option maxRecDepth 100000 in
theorem tw_995 : Cond.code yX9_mark cX9_mark 5 (some .int) ∈ gtb := gmem (List.mem_of_getElem? (i := 995) (by decide +kernel)) (by decide +kernel)
set_option maxRecDepth 100000 in
theorem tw_987 : Cond.constantLong RX9 94 (8) ∈ gtb := gmem (List.mem_of_getElem? (i := 987) (by decide +kernel)) (by decide +kernel)
set_option maxRecDepth 100000 in
theorem tw_988 : Cond.methodLink RX9 96 yX9_outcomeBy ∈ gtb := gmem (List.mem_of_getElem? (i := 988) (by decide +kernel)) (by decide +kernel)
set_option maxRecDepth 100000 in
theorem tw_990 : Cond.instanceMethod yX9_outcomeBy ∈ gtb := gmem (List.mem_of_getElem? (i := 990) (by decide +kernel)) (by decide +kernel)
set_option maxRecDepth 100000 in
theorem tw_24 : Cond.selects RX9 yX9_outcomeBy yX9_outcomeBy ∈ gtb := gmem (List.mem_of_getElem? (i := 24) (by decide +kernel)) (by decide +kernel)
set_option maxRecDepth 100000 in
theorem tw_991 : Cond.code yX9_outcomeBy cX9_outcomeBy 9 (some .int) ∈ gtb := gmem (List.mem_of_getElem? (i := 991) (by decide +kernel)) (by decide +kernel)
set_option maxRecDepth 100000 in
theorem tw_1046 : Cond.constantLong RX9 99 (7) ∈ gtb := gmem (List.mem_of_getElem? (i := 1046) (by decide +kernel)) (by decide +kernel)
set_option maxRecDepth 100000 in
theorem tw_1043 : Cond.methodLink RX9 101 yX9_outcomeIn ∈ gtb := gmem (List.mem_of_getElem? (i := 1043) (by decide +kernel)) (by decide +kernel)
set_option maxRecDepth 100000 in
theorem tw_1044 : Cond.static yX9_outcomeIn ∈ gtb := gmem (List.mem_of_getElem? (i := 1044) (by decide +kernel)) (by decide +kernel)
set_option maxRecDepth 100000 in
theorem tw_1045 : Cond.code yX9_outcomeIn cX9_outcomeIn 3 (some .int) ∈ gtb := gmem (List.mem_of_getElem? (i := 1045) (by decide +kernel)) (by decide +kernel)
set_option maxRecDepth 100000 in
theorem tw_976 : Cond.methodLink RX9 104 yX9_v ∈ gtb := gmem (List.mem_of_getElem? (i := 976) (by decide +kernel)) (by decide +kernel)
set_option maxRecDepth 100000 in
theorem tw_977 : Cond.static yX9_v ∈ gtb := gmem (List.mem_of_getElem? (i := 977) (by decide +kernel)) (by decide +kernel)
set_option maxRecDepth 100000 in
theorem tw_978 : Cond.code yX9_v cX9_v 2 (some .int) ∈ gtb := gmem (List.mem_of_getElem? (i := 978) (by decide +kernel)) (by decide +kernel)
set_option maxRecDepth 100000 in
theorem tw_979 : Cond.methodLink RX9 107 yX9_length ∈ gtb := gmem (List.mem_of_getElem? (i := 979) (by decide +kernel)) (by decide +kernel)
set_option maxRecDepth 100000 in
theorem tw_981 : Cond.instanceMethod yX9_length ∈ gtb := gmem (List.mem_of_getElem? (i := 981) (by decide +kernel)) (by decide +kernel)
set_option maxRecDepth 100000 in
theorem tw_22 : Cond.selects RX9 yX9_length yX9_length ∈ gtb := gmem (List.mem_of_getElem? (i := 22) (by decide +kernel)) (by decide +kernel)
set_option maxRecDepth 100000 in
theorem tw_982 : Cond.code yX9_length cX9_length 1 (some .int) ∈ gtb := gmem (List.mem_of_getElem? (i := 982) (by decide +kernel)) (by decide +kernel)
set_option maxRecDepth 100000 in
theorem tw_983 : Cond.methodLink RX9 111 yX9_outcomes ∈ gtb := gmem (List.mem_of_getElem? (i := 983) (by decide +kernel)) (by decide +kernel)
set_option maxRecDepth 100000 in
theorem tw_985 : Cond.instanceMethod yX9_outcomes ∈ gtb := gmem (List.mem_of_getElem? (i := 985) (by decide +kernel)) (by decide +kernel)
set_option maxRecDepth 100000 in
theorem tw_23 : Cond.selects RX9 yX9_outcomes yX9_outcomes ∈ gtb := gmem (List.mem_of_getElem? (i := 23) (by decide +kernel)) (by decide +kernel)
set_option maxRecDepth 100000 in
theorem tw_986 : Cond.code yX9_outcomes cX9_outcomes 6 (some .long) ∈ gtb := gmem (List.mem_of_getElem? (i := 986) (by decide +kernel)) (by decide +kernel)
set_option maxRecDepth 100000 in
theorem tw_1040 : Cond.methodLink RX9 115 yX9_differences ∈ gtb := gmem (List.mem_of_getElem? (i := 1040) (by decide +kernel)) (by decide +kernel)
set_option maxRecDepth 100000 in
theorem tw_1041 : Cond.static yX9_differences ∈ gtb := gmem (List.mem_of_getElem? (i := 1041) (by decide +kernel)) (by decide +kernel)
set_option maxRecDepth 100000 in
theorem tw_1042 : Cond.code yX9_differences cX9_differences 6 (some .int) ∈ gtb := gmem (List.mem_of_getElem? (i := 1042) (by decide +kernel)) (by decide +kernel)
set_option maxRecDepth 100000 in
theorem tw_1064 : Cond.methodLink RX9 119 yX9_doubtful ∈ gtb := gmem (List.mem_of_getElem? (i := 1064) (by decide +kernel)) (by decide +kernel)
set_option maxRecDepth 100000 in
theorem tw_1066 : Cond.instanceMethod yX9_doubtful ∈ gtb := gmem (List.mem_of_getElem? (i := 1066) (by decide +kernel)) (by decide +kernel)
set_option maxRecDepth 100000 in
theorem tw_39 : Cond.selects RX9 yX9_doubtful yX9_doubtful ∈ gtb := gmem (List.mem_of_getElem? (i := 39) (by decide +kernel)) (by decide +kernel)
set_option maxRecDepth 100000 in
theorem tw_1067 : Cond.code yX9_doubtful cX9_doubtful 4 (some .int) ∈ gtb := gmem (List.mem_of_getElem? (i := 1067) (by decide +kernel)) (by decide +kernel)
set_option maxRecDepth 100000 in
theorem tw_972 : Cond.methodLink RX9 123 yX9_changes ∈ gtb := gmem (List.mem_of_getElem? (i := 972) (by decide +kernel)) (by decide +kernel)
set_option maxRecDepth 100000 in
theorem tw_974 : Cond.instanceMethod yX9_changes ∈ gtb := gmem (List.mem_of_getElem? (i := 974) (by decide +kernel)) (by decide +kernel)
set_option maxRecDepth 100000 in
theorem tw_21 : Cond.selects RX9 yX9_changes yX9_changes ∈ gtb := gmem (List.mem_of_getElem? (i := 21) (by decide +kernel)) (by decide +kernel)
set_option maxRecDepth 100000 in
theorem tw_975 : Cond.code yX9_changes cX9_changes 3 (some .int) ∈ gtb := gmem (List.mem_of_getElem? (i := 975) (by decide +kernel)) (by decide +kernel)
set_option maxRecDepth 100000 in
theorem tw_1060 : Cond.methodLink RX9 126 yX9_isInPool ∈ gtb := gmem (List.mem_of_getElem? (i := 1060) (by decide +kernel)) (by decide +kernel)
set_option maxRecDepth 100000 in
theorem tw_1062 : Cond.instanceMethod yX9_isInPool ∈ gtb := gmem (List.mem_of_getElem? (i := 1062) (by decide +kernel)) (by decide +kernel)
set_option maxRecDepth 100000 in
theorem tw_38 : Cond.selects RX9 yX9_isInPool yX9_isInPool ∈ gtb := gmem (List.mem_of_getElem? (i := 38) (by decide +kernel)) (by decide +kernel)
set_option maxRecDepth 100000 in
theorem tw_1063 : Cond.code yX9_isInPool cX9_isInPool 2 (some .boolean) ∈ gtb := gmem (List.mem_of_getElem? (i := 1063) (by decide +kernel)) (by decide +kernel)
set_option maxRecDepth 100000 in
theorem tw_861 : Cond.fieldLink RX9 19 "SmudgeTallyModel" "pool" "[I" ∈ gtb := gmem (List.mem_of_getElem? (i := 861) (by decide +kernel)) (by decide +kernel)
set_option maxRecDepth 100000 in
theorem tw_925 : Cond.methodLink RX9 129 yX9_isRow ∈ gtb := gmem (List.mem_of_getElem? (i := 925) (by decide +kernel)) (by decide +kernel)
set_option maxRecDepth 100000 in
theorem tw_926 : Cond.static yX9_isRow ∈ gtb := gmem (List.mem_of_getElem? (i := 926) (by decide +kernel)) (by decide +kernel)
set_option maxRecDepth 100000 in
theorem tw_927 : Cond.code yX9_isRow cX9_isRow 2 (some .boolean) ∈ gtb := gmem (List.mem_of_getElem? (i := 927) (by decide +kernel)) (by decide +kernel)
set_option maxRecDepth 100000 in
theorem tw_929 : Cond.constantLong RX9 133 (40) ∈ gtb := gmem (List.mem_of_getElem? (i := 929) (by decide +kernel)) (by decide +kernel)
set_option maxRecDepth 100000 in
theorem tw_947 : Cond.methodLink RX9 135 yX9_ofMachine ∈ gtb := gmem (List.mem_of_getElem? (i := 947) (by decide +kernel)) (by decide +kernel)
set_option maxRecDepth 100000 in
theorem tw_949 : Cond.instanceMethod yX9_ofMachine ∈ gtb := gmem (List.mem_of_getElem? (i := 949) (by decide +kernel)) (by decide +kernel)
set_option maxRecDepth 100000 in
theorem tw_18 : Cond.selects RX9 yX9_ofMachine yX9_ofMachine ∈ gtb := gmem (List.mem_of_getElem? (i := 18) (by decide +kernel)) (by decide +kernel)
set_option maxRecDepth 100000 in
theorem tw_950 : Cond.code yX9_ofMachine cX9_ofMachine 4 (some .int) ∈ gtb := gmem (List.mem_of_getElem? (i := 950) (by decide +kernel)) (by decide +kernel)
set_option maxRecDepth 100000 in
theorem tw_968 : Cond.methodLink RX9 138 yX9_changing ∈ gtb := gmem (List.mem_of_getElem? (i := 968) (by decide +kernel)) (by decide +kernel)
set_option maxRecDepth 100000 in
theorem tw_970 : Cond.instanceMethod yX9_changing ∈ gtb := gmem (List.mem_of_getElem? (i := 970) (by decide +kernel)) (by decide +kernel)
set_option maxRecDepth 100000 in
theorem tw_20 : Cond.selects RX9 yX9_changing yX9_changing ∈ gtb := gmem (List.mem_of_getElem? (i := 20) (by decide +kernel)) (by decide +kernel)
set_option maxRecDepth 100000 in
theorem tw_971 : Cond.code yX9_changing cX9_changing 4 (some .int) ∈ gtb := gmem (List.mem_of_getElem? (i := 971) (by decide +kernel)) (by decide +kernel)
set_option maxRecDepth 100000 in
theorem tw_855 : Cond.constantLong RX9 28 (6) ∈ gtb := gmem (List.mem_of_getElem? (i := 855) (by decide +kernel)) (by decide +kernel)
set_option maxRecDepth 100000 in
theorem tw_1071 : Cond.methodLink RX9 153 yX9_inState ∈ gtb := gmem (List.mem_of_getElem? (i := 1071) (by decide +kernel)) (by decide +kernel)
set_option maxRecDepth 100000 in
theorem tw_1073 : Cond.instanceMethod yX9_inState ∈ gtb := gmem (List.mem_of_getElem? (i := 1073) (by decide +kernel)) (by decide +kernel)
set_option maxRecDepth 100000 in
theorem tw_40 : Cond.selects RX9 yX9_inState yX9_inState ∈ gtb := gmem (List.mem_of_getElem? (i := 40) (by decide +kernel)) (by decide +kernel)
set_option maxRecDepth 100000 in
theorem tw_1074 : Cond.code yX9_inState cX9_inState 4 (some .int) ∈ gtb := gmem (List.mem_of_getElem? (i := 1074) (by decide +kernel)) (by decide +kernel)
set_option maxRecDepth 100000 in
theorem tw_1068 : Cond.constantLong RX9 147 (75) ∈ gtb := gmem (List.mem_of_getElem? (i := 1068) (by decide +kernel)) (by decide +kernel)
set_option maxRecDepth 100000 in
theorem tw_1069 : Cond.constantLong RX9 149 (74) ∈ gtb := gmem (List.mem_of_getElem? (i := 1069) (by decide +kernel)) (by decide +kernel)
set_option maxRecDepth 100000 in
theorem tw_1070 : Cond.constantLong RX9 151 (65537) ∈ gtb := gmem (List.mem_of_getElem? (i := 1070) (by decide +kernel)) (by decide +kernel)
set_option maxRecDepth 100000 in
theorem tw_1055 : Cond.constantLong RX9 142 (65536) ∈ gtb := gmem (List.mem_of_getElem? (i := 1055) (by decide +kernel)) (by decide +kernel)
set_option maxRecDepth 100000 in
theorem tw_1056 : Cond.methodLink RX9 144 yX9_laysPool ∈ gtb := gmem (List.mem_of_getElem? (i := 1056) (by decide +kernel)) (by decide +kernel)
set_option maxRecDepth 100000 in
theorem tw_1058 : Cond.instanceMethod yX9_laysPool ∈ gtb := gmem (List.mem_of_getElem? (i := 1058) (by decide +kernel)) (by decide +kernel)
set_option maxRecDepth 100000 in
theorem tw_37 : Cond.selects RX9 yX9_laysPool yX9_laysPool ∈ gtb := gmem (List.mem_of_getElem? (i := 37) (by decide +kernel)) (by decide +kernel)
set_option maxRecDepth 100000 in
theorem tw_1059 : Cond.code yX9_laysPool cX9_laysPool 3 (some .int) ∈ gtb := gmem (List.mem_of_getElem? (i := 1059) (by decide +kernel)) (by decide +kernel)
set_option maxRecDepth 100000 in
theorem tw_913 : Cond.methodLink RX9 156 yX9_keeps ∈ gtb := gmem (List.mem_of_getElem? (i := 913) (by decide +kernel)) (by decide +kernel)
set_option maxRecDepth 100000 in
theorem tw_915 : Cond.instanceMethod yX9_keeps ∈ gtb := gmem (List.mem_of_getElem? (i := 915) (by decide +kernel)) (by decide +kernel)
set_option maxRecDepth 100000 in
theorem tw_14 : Cond.selects RX9 yX9_keeps yX9_keeps ∈ gtb := gmem (List.mem_of_getElem? (i := 14) (by decide +kernel)) (by decide +kernel)
set_option maxRecDepth 100000 in
theorem tw_916 : Cond.code yX9_keeps cX9_keeps 2 none ∈ gtb := gmem (List.mem_of_getElem? (i := 916) (by decide +kernel)) (by decide +kernel)
set_option maxRecDepth 100000 in
theorem tw_917 : Cond.methodLink RX9 159 yX9_scans ∈ gtb := gmem (List.mem_of_getElem? (i := 917) (by decide +kernel)) (by decide +kernel)
set_option maxRecDepth 100000 in
theorem tw_919 : Cond.instanceMethod yX9_scans ∈ gtb := gmem (List.mem_of_getElem? (i := 919) (by decide +kernel)) (by decide +kernel)
set_option maxRecDepth 100000 in
theorem tw_15 : Cond.selects RX9 yX9_scans yX9_scans ∈ gtb := gmem (List.mem_of_getElem? (i := 15) (by decide +kernel)) (by decide +kernel)
set_option maxRecDepth 100000 in
theorem tw_920 : Cond.code yX9_scans cX9_scans 6 (some .int) ∈ gtb := gmem (List.mem_of_getElem? (i := 920) (by decide +kernel)) (by decide +kernel)
set_option maxRecDepth 100000 in
theorem tw_933 : Cond.methodLink RX9 162 yX9_acted ∈ gtb := gmem (List.mem_of_getElem? (i := 933) (by decide +kernel)) (by decide +kernel)
set_option maxRecDepth 100000 in
theorem tw_935 : Cond.instanceMethod yX9_acted ∈ gtb := gmem (List.mem_of_getElem? (i := 935) (by decide +kernel)) (by decide +kernel)
set_option maxRecDepth 100000 in
theorem tw_16 : Cond.selects RX9 yX9_acted yX9_acted ∈ gtb := gmem (List.mem_of_getElem? (i := 16) (by decide +kernel)) (by decide +kernel)
set_option maxRecDepth 100000 in
theorem tw_936 : Cond.code yX9_acted cX9_acted 3 (some .int) ∈ gtb := gmem (List.mem_of_getElem? (i := 936) (by decide +kernel)) (by decide +kernel)
set_option maxRecDepth 100000 in
theorem tw_943 : Cond.methodLink RX9 165 yX9_cleans ∈ gtb := gmem (List.mem_of_getElem? (i := 943) (by decide +kernel)) (by decide +kernel)
set_option maxRecDepth 100000 in
theorem tw_945 : Cond.instanceMethod yX9_cleans ∈ gtb := gmem (List.mem_of_getElem? (i := 945) (by decide +kernel)) (by decide +kernel)
set_option maxRecDepth 100000 in
theorem tw_17 : Cond.selects RX9 yX9_cleans yX9_cleans ∈ gtb := gmem (List.mem_of_getElem? (i := 17) (by decide +kernel)) (by decide +kernel)
set_option maxRecDepth 100000 in
theorem tw_946 : Cond.code yX9_cleans cX9_cleans 3 (some .int) ∈ gtb := gmem (List.mem_of_getElem? (i := 946) (by decide +kernel)) (by decide +kernel)
set_option maxRecDepth 100000 in
theorem tw_958 : Cond.constantLong RX9 169 (9) ∈ gtb := gmem (List.mem_of_getElem? (i := 958) (by decide +kernel)) (by decide +kernel)
set_option maxRecDepth 100000 in
theorem tw_959 : Cond.constantLong RX9 171 (20) ∈ gtb := gmem (List.mem_of_getElem? (i := 959) (by decide +kernel)) (by decide +kernel)
set_option maxRecDepth 100000 in
theorem tw_955 : Cond.methodLink RX9 173 yX9_isSetting ∈ gtb := gmem (List.mem_of_getElem? (i := 955) (by decide +kernel)) (by decide +kernel)
set_option maxRecDepth 100000 in
theorem tw_956 : Cond.static yX9_isSetting ∈ gtb := gmem (List.mem_of_getElem? (i := 956) (by decide +kernel)) (by decide +kernel)
set_option maxRecDepth 100000 in
theorem tw_957 : Cond.code yX9_isSetting cX9_isSetting 2 (some .boolean) ∈ gtb := gmem (List.mem_of_getElem? (i := 957) (by decide +kernel)) (by decide +kernel)
set_option maxRecDepth 100000 in
theorem tw_964 : Cond.methodLink RX9 177 yX9_publishes ∈ gtb := gmem (List.mem_of_getElem? (i := 964) (by decide +kernel)) (by decide +kernel)
set_option maxRecDepth 100000 in
theorem tw_966 : Cond.instanceMethod yX9_publishes ∈ gtb := gmem (List.mem_of_getElem? (i := 966) (by decide +kernel)) (by decide +kernel)
set_option maxRecDepth 100000 in
theorem tw_19 : Cond.selects RX9 yX9_publishes yX9_publishes ∈ gtb := gmem (List.mem_of_getElem? (i := 19) (by decide +kernel)) (by decide +kernel)
set_option maxRecDepth 100000 in
theorem tw_967 : Cond.code yX9_publishes cX9_publishes 4 (some .int) ∈ gtb := gmem (List.mem_of_getElem? (i := 967) (by decide +kernel)) (by decide +kernel)
set_option maxRecDepth 100000 in
theorem tw_1051 : Cond.methodLink RX9 180 yX9_draws ∈ gtb := gmem (List.mem_of_getElem? (i := 1051) (by decide +kernel)) (by decide +kernel)
set_option maxRecDepth 100000 in
theorem tw_1053 : Cond.instanceMethod yX9_draws ∈ gtb := gmem (List.mem_of_getElem? (i := 1053) (by decide +kernel)) (by decide +kernel)
set_option maxRecDepth 100000 in
theorem tw_36 : Cond.selects RX9 yX9_draws yX9_draws ∈ gtb := gmem (List.mem_of_getElem? (i := 36) (by decide +kernel)) (by decide +kernel)
set_option maxRecDepth 100000 in
theorem tw_1054 : Cond.code yX9_draws cX9_draws 11 (some .int) ∈ gtb := gmem (List.mem_of_getElem? (i := 1054) (by decide +kernel)) (by decide +kernel)
set_option maxRecDepth 100000 in
theorem tw_1079 : Cond.methodLink RX9 183 yX9_looks ∈ gtb := gmem (List.mem_of_getElem? (i := 1079) (by decide +kernel)) (by decide +kernel)
set_option maxRecDepth 100000 in
theorem tw_1081 : Cond.instanceMethod yX9_looks ∈ gtb := gmem (List.mem_of_getElem? (i := 1081) (by decide +kernel)) (by decide +kernel)
set_option maxRecDepth 100000 in
theorem tw_41 : Cond.selects RX9 yX9_looks yX9_looks ∈ gtb := gmem (List.mem_of_getElem? (i := 41) (by decide +kernel)) (by decide +kernel)
set_option maxRecDepth 100000 in
theorem tw_1082 : Cond.code yX9_looks cX9_looks 8 (some .int) ∈ gtb := gmem (List.mem_of_getElem? (i := 1082) (by decide +kernel)) (by decide +kernel)
set_option maxRecDepth 100000 in
theorem tw_1087 : Cond.methodLink RX9 186 yX9_slotAt ∈ gtb := gmem (List.mem_of_getElem? (i := 1087) (by decide +kernel)) (by decide +kernel)
set_option maxRecDepth 100000 in
theorem tw_1088 : Cond.static yX9_slotAt ∈ gtb := gmem (List.mem_of_getElem? (i := 1088) (by decide +kernel)) (by decide +kernel)
set_option maxRecDepth 100000 in
theorem tw_1089 : Cond.code yX9_slotAt cX9_slotAt 1 (some .int) ∈ gtb := gmem (List.mem_of_getElem? (i := 1089) (by decide +kernel)) (by decide +kernel)
set_option maxRecDepth 100000 in
theorem tw_1102 : Cond.constantLong RX9 189 (255) ∈ gtb := gmem (List.mem_of_getElem? (i := 1102) (by decide +kernel)) (by decide +kernel)
set_option maxRecDepth 100000 in
theorem tw_863 : Cond.fieldLink RX9 191 "SmudgeTallyModel" "letters" "I" ∈ gtb := gmem (List.mem_of_getElem? (i := 863) (by decide +kernel)) (by decide +kernel)
set_option maxRecDepth 100000 in
theorem tw_862 : Cond.fieldLink RX9 23 "SmudgeTallyModel" "text" "[I" ∈ gtb := gmem (List.mem_of_getElem? (i := 862) (by decide +kernel)) (by decide +kernel)
set_option maxRecDepth 100000 in
theorem tw_868 : Cond.fieldLink RX9 194 "SmudgeTallyModel" "at" "I" ∈ gtb := gmem (List.mem_of_getElem? (i := 868) (by decide +kernel)) (by decide +kernel)
set_option maxRecDepth 100000 in
theorem tw_1130 : Cond.constantLong RX9 197 (97) ∈ gtb := gmem (List.mem_of_getElem? (i := 1130) (by decide +kernel)) (by decide +kernel)
set_option maxRecDepth 100000 in
theorem tw_1131 : Cond.constantLong RX9 199 (122) ∈ gtb := gmem (List.mem_of_getElem? (i := 1131) (by decide +kernel)) (by decide +kernel)
set_option maxRecDepth 100000 in
theorem tw_1146 : Cond.constantLong RX9 201 (48) ∈ gtb := gmem (List.mem_of_getElem? (i := 1146) (by decide +kernel)) (by decide +kernel)
set_option maxRecDepth 100000 in
theorem tw_1147 : Cond.constantLong RX9 203 (57) ∈ gtb := gmem (List.mem_of_getElem? (i := 1147) (by decide +kernel)) (by decide +kernel)
set_option maxRecDepth 100000 in
theorem tw_1115 : Cond.methodLink RX9 205 yX9_next ∈ gtb := gmem (List.mem_of_getElem? (i := 1115) (by decide +kernel)) (by decide +kernel)
set_option maxRecDepth 100000 in
theorem tw_1117 : Cond.instanceMethod yX9_next ∈ gtb := gmem (List.mem_of_getElem? (i := 1117) (by decide +kernel)) (by decide +kernel)
set_option maxRecDepth 100000 in
theorem tw_43 : Cond.selects RX9 yX9_next yX9_next ∈ gtb := gmem (List.mem_of_getElem? (i := 43) (by decide +kernel)) (by decide +kernel)
set_option maxRecDepth 100000 in
theorem tw_1118 : Cond.code yX9_next cX9_next 1 (some .int) ∈ gtb := gmem (List.mem_of_getElem? (i := 1118) (by decide +kernel)) (by decide +kernel)
set_option maxRecDepth 100000 in
theorem tw_869 : Cond.fieldLink RX9 208 "SmudgeTallyModel" "from" "I" ∈ gtb := gmem (List.mem_of_getElem? (i := 869) (by decide +kernel)) (by decide +kernel)
set_option maxRecDepth 100000 in
theorem tw_1127 : Cond.methodLink RX9 214 yX9_isLetter ∈ gtb := gmem (List.mem_of_getElem? (i := 1127) (by decide +kernel)) (by decide +kernel)
set_option maxRecDepth 100000 in
theorem tw_1128 : Cond.static yX9_isLetter ∈ gtb := gmem (List.mem_of_getElem? (i := 1128) (by decide +kernel)) (by decide +kernel)
set_option maxRecDepth 100000 in
theorem tw_1129 : Cond.code yX9_isLetter cX9_isLetter 1 (some .boolean) ∈ gtb := gmem (List.mem_of_getElem? (i := 1129) (by decide +kernel)) (by decide +kernel)
set_option maxRecDepth 100000 in
theorem tw_1132 : Cond.constantLong RX9 217 (32) ∈ gtb := gmem (List.mem_of_getElem? (i := 1132) (by decide +kernel)) (by decide +kernel)
set_option maxRecDepth 100000 in
theorem tw_1133 : Cond.constantLong RX9 219 (96) ∈ gtb := gmem (List.mem_of_getElem? (i := 1133) (by decide +kernel)) (by decide +kernel)
set_option maxRecDepth 100000 in
theorem tw_1111 : Cond.methodLink RX9 211 yX9_begins ∈ gtb := gmem (List.mem_of_getElem? (i := 1111) (by decide +kernel)) (by decide +kernel)
set_option maxRecDepth 100000 in
theorem tw_1113 : Cond.instanceMethod yX9_begins ∈ gtb := gmem (List.mem_of_getElem? (i := 1113) (by decide +kernel)) (by decide +kernel)
set_option maxRecDepth 100000 in
theorem tw_42 : Cond.selects RX9 yX9_begins yX9_begins ∈ gtb := gmem (List.mem_of_getElem? (i := 42) (by decide +kernel)) (by decide +kernel)
set_option maxRecDepth 100000 in
theorem tw_1114 : Cond.code yX9_begins cX9_begins 1 none ∈ gtb := gmem (List.mem_of_getElem? (i := 1114) (by decide +kernel)) (by decide +kernel)
set_option maxRecDepth 100000 in
theorem tw_1143 : Cond.methodLink RX9 225 yX9_isDigit ∈ gtb := gmem (List.mem_of_getElem? (i := 1143) (by decide +kernel)) (by decide +kernel)
set_option maxRecDepth 100000 in
theorem tw_1144 : Cond.static yX9_isDigit ∈ gtb := gmem (List.mem_of_getElem? (i := 1144) (by decide +kernel)) (by decide +kernel)
set_option maxRecDepth 100000 in
theorem tw_1145 : Cond.code yX9_isDigit cX9_isDigit 1 (some .boolean) ∈ gtb := gmem (List.mem_of_getElem? (i := 1145) (by decide +kernel)) (by decide +kernel)
set_option maxRecDepth 100000 in
theorem tw_870 : Cond.fieldLink RX9 221 "SmudgeTallyModel" "wrong" "Z" ∈ gtb := gmem (List.mem_of_getElem? (i := 870) (by decide +kernel)) (by decide +kernel)
set_option maxRecDepth 100000 in
theorem tw_873 : Cond.fieldLink RX9 253 "SmudgeTallyModel" "second" "J" ∈ gtb := gmem (List.mem_of_getElem? (i := 873) (by decide +kernel)) (by decide +kernel)
set_option maxRecDepth 100000 in
theorem tw_872 : Cond.fieldLink RX9 249 "SmudgeTallyModel" "first" "J" ∈ gtb := gmem (List.mem_of_getElem? (i := 872) (by decide +kernel)) (by decide +kernel)
set_option maxRecDepth 100000 in
theorem tw_1138 : Cond.constantLong RX9 243 (17887012456) ∈ gtb := gmem (List.mem_of_getElem? (i := 1138) (by decide +kernel)) (by decide +kernel)
set_option maxRecDepth 100000 in
theorem tw_1135 : Cond.constantLong RX9 237 (3544110) ∈ gtb := gmem (List.mem_of_getElem? (i := 1135) (by decide +kernel)) (by decide +kernel)
set_option maxRecDepth 100000 in
theorem tw_1136 : Cond.constantLong RX9 239 (149559) ∈ gtb := gmem (List.mem_of_getElem? (i := 1136) (by decide +kernel)) (by decide +kernel)
set_option maxRecDepth 100000 in
theorem tw_1139 : Cond.methodLink RX9 245 yX9_numberNext ∈ gtb := gmem (List.mem_of_getElem? (i := 1139) (by decide +kernel)) (by decide +kernel)
set_option maxRecDepth 100000 in
theorem tw_1141 : Cond.instanceMethod yX9_numberNext ∈ gtb := gmem (List.mem_of_getElem? (i := 1141) (by decide +kernel)) (by decide +kernel)
set_option maxRecDepth 100000 in
theorem tw_46 : Cond.selects RX9 yX9_numberNext yX9_numberNext ∈ gtb := gmem (List.mem_of_getElem? (i := 46) (by decide +kernel)) (by decide +kernel)
set_option maxRecDepth 100000 in
theorem tw_1142 : Cond.code yX9_numberNext cX9_numberNext 5 (some .long) ∈ gtb := gmem (List.mem_of_getElem? (i := 1142) (by decide +kernel)) (by decide +kernel)
set_option maxRecDepth 100000 in
theorem tw_1123 : Cond.methodLink RX9 228 yX9_wordNext ∈ gtb := gmem (List.mem_of_getElem? (i := 1123) (by decide +kernel)) (by decide +kernel)
set_option maxRecDepth 100000 in
theorem tw_1125 : Cond.instanceMethod yX9_wordNext ∈ gtb := gmem (List.mem_of_getElem? (i := 1125) (by decide +kernel)) (by decide +kernel)
set_option maxRecDepth 100000 in
theorem tw_45 : Cond.selects RX9 yX9_wordNext yX9_wordNext ∈ gtb := gmem (List.mem_of_getElem? (i := 45) (by decide +kernel)) (by decide +kernel)
set_option maxRecDepth 100000 in
theorem tw_1126 : Cond.code yX9_wordNext cX9_wordNext 3 (some .long) ∈ gtb := gmem (List.mem_of_getElem? (i := 1126) (by decide +kernel)) (by decide +kernel)
set_option maxRecDepth 100000 in
theorem tw_871 : Cond.fieldLink RX9 232 "SmudgeTallyModel" "word" "I" ∈ gtb := gmem (List.mem_of_getElem? (i := 871) (by decide +kernel)) (by decide +kernel)
set_option maxRecDepth 100000 in
theorem tw_1134 : Cond.constantLong RX9 235 (625710) ∈ gtb := gmem (List.mem_of_getElem? (i := 1134) (by decide +kernel)) (by decide +kernel)
set_option maxRecDepth 100000 in
theorem tw_1137 : Cond.constantLong RX9 241 (409067) ∈ gtb := gmem (List.mem_of_getElem? (i := 1137) (by decide +kernel)) (by decide +kernel)
set_option maxRecDepth 100000 in
theorem tw_864 : Cond.fieldLink RX9 256 "SmudgeTallyModel" "kind" "I" ∈ gtb := gmem (List.mem_of_getElem? (i := 864) (by decide +kernel)) (by decide +kernel)
set_option maxRecDepth 100000 in
theorem tw_865 : Cond.fieldLink RX9 259 "SmudgeTallyModel" "failedAt" "I" ∈ gtb := gmem (List.mem_of_getElem? (i := 865) (by decide +kernel)) (by decide +kernel)
set_option maxRecDepth 100000 in
theorem tw_866 : Cond.fieldLink RX9 262 "SmudgeTallyModel" "failedBehind" "I" ∈ gtb := gmem (List.mem_of_getElem? (i := 866) (by decide +kernel)) (by decide +kernel)
set_option maxRecDepth 100000 in
theorem tw_867 : Cond.fieldLink RX9 265 "SmudgeTallyModel" "failedBy" "I" ∈ gtb := gmem (List.mem_of_getElem? (i := 867) (by decide +kernel)) (by decide +kernel)
set_option maxRecDepth 100000 in
theorem tw_1119 : Cond.methodLink RX9 268 yX9_readsCommand ∈ gtb := gmem (List.mem_of_getElem? (i := 1119) (by decide +kernel)) (by decide +kernel)
set_option maxRecDepth 100000 in
theorem tw_1121 : Cond.instanceMethod yX9_readsCommand ∈ gtb := gmem (List.mem_of_getElem? (i := 1121) (by decide +kernel)) (by decide +kernel)
set_option maxRecDepth 100000 in
theorem tw_44 : Cond.selects RX9 yX9_readsCommand yX9_readsCommand ∈ gtb := gmem (List.mem_of_getElem? (i := 44) (by decide +kernel)) (by decide +kernel)
set_option maxRecDepth 100000 in
theorem tw_1122 : Cond.code yX9_readsCommand cX9_readsCommand 3 (some .long) ∈ gtb := gmem (List.mem_of_getElem? (i := 1122) (by decide +kernel)) (by decide +kernel)
set_option maxRecDepth 100000 in
theorem tw_1152 : Cond.methodLink RX9 275 yX9_does ∈ gtb := gmem (List.mem_of_getElem? (i := 1152) (by decide +kernel)) (by decide +kernel)
set_option maxRecDepth 100000 in
theorem tw_1154 : Cond.instanceMethod yX9_does ∈ gtb := gmem (List.mem_of_getElem? (i := 1154) (by decide +kernel)) (by decide +kernel)
set_option maxRecDepth 100000 in
theorem tw_48 : Cond.selects RX9 yX9_does yX9_does ∈ gtb := gmem (List.mem_of_getElem? (i := 48) (by decide +kernel)) (by decide +kernel)
set_option maxRecDepth 100000 in
theorem tw_1155 : Cond.code yX9_does cX9_does 3 (some .int) ∈ gtb := gmem (List.mem_of_getElem? (i := 1155) (by decide +kernel)) (by decide +kernel)
set_option maxRecDepth 100000 in
theorem tw_1148 : Cond.methodLink RX9 271 yX9_fails ∈ gtb := gmem (List.mem_of_getElem? (i := 1148) (by decide +kernel)) (by decide +kernel)
set_option maxRecDepth 100000 in
theorem tw_1150 : Cond.instanceMethod yX9_fails ∈ gtb := gmem (List.mem_of_getElem? (i := 1150) (by decide +kernel)) (by decide +kernel)
set_option maxRecDepth 100000 in
theorem tw_47 : Cond.selects RX9 yX9_fails yX9_fails ∈ gtb := gmem (List.mem_of_getElem? (i := 47) (by decide +kernel)) (by decide +kernel)
set_option maxRecDepth 100000 in
theorem tw_1151 : Cond.code yX9_fails cX9_fails 6 (some .int) ∈ gtb := gmem (List.mem_of_getElem? (i := 1151) (by decide +kernel)) (by decide +kernel)
set_option maxRecDepth 100000 in
theorem tw_1160 : Cond.constantLong RX9 278 (3) ∈ gtb := gmem (List.mem_of_getElem? (i := 1160) (by decide +kernel)) (by decide +kernel)
set_option maxRecDepth 100000 in
theorem tw_1169 : Cond.constantLong RX9 280 (12) ∈ gtb := gmem (List.mem_of_getElem? (i := 1169) (by decide +kernel)) (by decide +kernel)
set_option maxRecDepth 100000 in
theorem tw_1165 : Cond.methodLink RX9 282 yX9_streaks ∈ gtb := gmem (List.mem_of_getElem? (i := 1165) (by decide +kernel)) (by decide +kernel)
set_option maxRecDepth 100000 in
theorem tw_1167 : Cond.instanceMethod yX9_streaks ∈ gtb := gmem (List.mem_of_getElem? (i := 1167) (by decide +kernel)) (by decide +kernel)
set_option maxRecDepth 100000 in
theorem tw_49 : Cond.selects RX9 yX9_streaks yX9_streaks ∈ gtb := gmem (List.mem_of_getElem? (i := 49) (by decide +kernel)) (by decide +kernel)
set_option maxRecDepth 100000 in
theorem tw_1168 : Cond.code yX9_streaks cX9_streaks 6 (some .int) ∈ gtb := gmem (List.mem_of_getElem? (i := 1168) (by decide +kernel)) (by decide +kernel)
set_option maxRecDepth 100000 in
theorem tw_1170 : Cond.constantLong RX9 285 (11) ∈ gtb := gmem (List.mem_of_getElem? (i := 1170) (by decide +kernel)) (by decide +kernel)
set_option maxRecDepth 100000 in
theorem tw_1171 : Cond.constantLong RX9 287 (14) ∈ gtb := gmem (List.mem_of_getElem? (i := 1171) (by decide +kernel)) (by decide +kernel)
set_option maxRecDepth 100000 in
theorem tw_1176 : Cond.methodLink RX9 289 yX9_isCard ∈ gtb := gmem (List.mem_of_getElem? (i := 1176) (by decide +kernel)) (by decide +kernel)
set_option maxRecDepth 100000 in
theorem tw_1178 : Cond.instanceMethod yX9_isCard ∈ gtb := gmem (List.mem_of_getElem? (i := 1178) (by decide +kernel)) (by decide +kernel)
set_option maxRecDepth 100000 in
theorem tw_50 : Cond.selects RX9 yX9_isCard yX9_isCard ∈ gtb := gmem (List.mem_of_getElem? (i := 50) (by decide +kernel)) (by decide +kernel)
set_option maxRecDepth 100000 in
theorem tw_1179 : Cond.code yX9_isCard cX9_isCard 2 (some .boolean) ∈ gtb := gmem (List.mem_of_getElem? (i := 1179) (by decide +kernel)) (by decide +kernel)
set_option maxRecDepth 100000 in
theorem tw_1180 : Cond.methodLink RX9 292 yX9_placeOf ∈ gtb := gmem (List.mem_of_getElem? (i := 1180) (by decide +kernel)) (by decide +kernel)
set_option maxRecDepth 100000 in
theorem tw_1182 : Cond.instanceMethod yX9_placeOf ∈ gtb := gmem (List.mem_of_getElem? (i := 1182) (by decide +kernel)) (by decide +kernel)
set_option maxRecDepth 100000 in
theorem tw_51 : Cond.selects RX9 yX9_placeOf yX9_placeOf ∈ gtb := gmem (List.mem_of_getElem? (i := 51) (by decide +kernel)) (by decide +kernel)
set_option maxRecDepth 100000 in
theorem tw_1183 : Cond.code yX9_placeOf cX9_placeOf 4 (some .int) ∈ gtb := gmem (List.mem_of_getElem? (i := 1183) (by decide +kernel)) (by decide +kernel)
set_option maxRecDepth 100000 in
theorem tw_1188 : Cond.methodLink RX9 295 yX9_isPlace ∈ gtb := gmem (List.mem_of_getElem? (i := 1188) (by decide +kernel)) (by decide +kernel)
set_option maxRecDepth 100000 in
theorem tw_1189 : Cond.static yX9_isPlace ∈ gtb := gmem (List.mem_of_getElem? (i := 1189) (by decide +kernel)) (by decide +kernel)
set_option maxRecDepth 100000 in
theorem tw_1190 : Cond.code yX9_isPlace cX9_isPlace 1 (some .boolean) ∈ gtb := gmem (List.mem_of_getElem? (i := 1190) (by decide +kernel)) (by decide +kernel)
set_option maxRecDepth 100000 in
theorem tw_1203 : Cond.methodLink RX9 298 yX9_isVersion ∈ gtb := gmem (List.mem_of_getElem? (i := 1203) (by decide +kernel)) (by decide +kernel)
set_option maxRecDepth 100000 in
theorem tw_1205 : Cond.instanceMethod yX9_isVersion ∈ gtb := gmem (List.mem_of_getElem? (i := 1205) (by decide +kernel)) (by decide +kernel)
set_option maxRecDepth 100000 in
theorem tw_53 : Cond.selects RX9 yX9_isVersion yX9_isVersion ∈ gtb := gmem (List.mem_of_getElem? (i := 53) (by decide +kernel)) (by decide +kernel)
set_option maxRecDepth 100000 in
theorem tw_1206 : Cond.code yX9_isVersion cX9_isVersion 2 (some .boolean) ∈ gtb := gmem (List.mem_of_getElem? (i := 1206) (by decide +kernel)) (by decide +kernel)
set_option maxRecDepth 100000 in
theorem tw_1199 : Cond.methodLink RX9 301 yX9_isAsked ∈ gtb := gmem (List.mem_of_getElem? (i := 1199) (by decide +kernel)) (by decide +kernel)
set_option maxRecDepth 100000 in
theorem tw_1201 : Cond.instanceMethod yX9_isAsked ∈ gtb := gmem (List.mem_of_getElem? (i := 1201) (by decide +kernel)) (by decide +kernel)
set_option maxRecDepth 100000 in
theorem tw_52 : Cond.selects RX9 yX9_isAsked yX9_isAsked ∈ gtb := gmem (List.mem_of_getElem? (i := 52) (by decide +kernel)) (by decide +kernel)
set_option maxRecDepth 100000 in
theorem tw_1202 : Cond.code yX9_isAsked cX9_isAsked 3 (some .boolean) ∈ gtb := gmem (List.mem_of_getElem? (i := 1202) (by decide +kernel)) (by decide +kernel)
set_option maxRecDepth 100000 in
theorem tw_1207 : Cond.methodLink RX9 304 yX9_outcomeOf ∈ gtb := gmem (List.mem_of_getElem? (i := 1207) (by decide +kernel)) (by decide +kernel)
set_option maxRecDepth 100000 in
theorem tw_1209 : Cond.instanceMethod yX9_outcomeOf ∈ gtb := gmem (List.mem_of_getElem? (i := 1209) (by decide +kernel)) (by decide +kernel)
set_option maxRecDepth 100000 in
theorem tw_54 : Cond.selects RX9 yX9_outcomeOf yX9_outcomeOf ∈ gtb := gmem (List.mem_of_getElem? (i := 54) (by decide +kernel)) (by decide +kernel)
set_option maxRecDepth 100000 in
theorem tw_1210 : Cond.code yX9_outcomeOf cX9_outcomeOf 4 (some .int) ∈ gtb := gmem (List.mem_of_getElem? (i := 1210) (by decide +kernel)) (by decide +kernel)
set_option maxRecDepth 100000 in
theorem tw_1215 : Cond.methodLink RX9 307 yX9_tallied ∈ gtb := gmem (List.mem_of_getElem? (i := 1215) (by decide +kernel)) (by decide +kernel)
set_option maxRecDepth 100000 in
theorem tw_1217 : Cond.instanceMethod yX9_tallied ∈ gtb := gmem (List.mem_of_getElem? (i := 1217) (by decide +kernel)) (by decide +kernel)
set_option maxRecDepth 100000 in
theorem tw_55 : Cond.selects RX9 yX9_tallied yX9_tallied ∈ gtb := gmem (List.mem_of_getElem? (i := 55) (by decide +kernel)) (by decide +kernel)
set_option maxRecDepth 100000 in
theorem tw_1218 : Cond.code yX9_tallied cX9_tallied 8 (some .int) ∈ gtb := gmem (List.mem_of_getElem? (i := 1218) (by decide +kernel)) (by decide +kernel)
set_option maxRecDepth 100000 in
theorem tw_856 : Cond.constantLong RX9 30 (5) ∈ gtb := gmem (List.mem_of_getElem? (i := 856) (by decide +kernel)) (by decide +kernel)
set_option maxRecDepth 100000 in
theorem tw_1231 : Cond.methodLink RX9 310 yX9_size ∈ gtb := gmem (List.mem_of_getElem? (i := 1231) (by decide +kernel)) (by decide +kernel)
set_option maxRecDepth 100000 in
theorem tw_1232 : Cond.static yX9_size ∈ gtb := gmem (List.mem_of_getElem? (i := 1232) (by decide +kernel)) (by decide +kernel)
set_option maxRecDepth 100000 in
theorem tw_1233 : Cond.code yX9_size cX9_size 1 (some .int) ∈ gtb := gmem (List.mem_of_getElem? (i := 1233) (by decide +kernel)) (by decide +kernel)
set_option maxRecDepth 100000 in
theorem tw_98 : Cond.methodLink RX0 3 objectInit ∈ gtb := gmem (List.mem_of_getElem? (i := 98) (by decide +kernel)) (by decide +kernel)
set_option maxRecDepth 100000 in
theorem tw_79 : Cond.instanceMethod objectInit ∈ gtb := gmem (List.mem_of_getElem? (i := 79) (by decide +kernel)) (by decide +kernel)
set_option maxRecDepth 100000 in
theorem tw_158 : Cond.arrayClass .int ∈ gtb := gmem (List.mem_of_getElem? (i := 158) (by decide +kernel)) (by decide +kernel)
set_option maxRecDepth 100000 in
theorem tw_159 : Cond.arrayClass .long ∈ gtb := gmem (List.mem_of_getElem? (i := 159) (by decide +kernel)) (by decide +kernel)
set_option maxRecDepth 100000 in
theorem tw_92 : Cond.methodLink RX4 3 objectInit ∈ gtb := gmem (List.mem_of_getElem? (i := 92) (by decide +kernel)) (by decide +kernel)
set_option maxRecDepth 100000 in
theorem tw_93 : Cond.classLink RX4 9 RX0 ∈ gtb := gmem (List.mem_of_getElem? (i := 93) (by decide +kernel)) (by decide +kernel)
set_option maxRecDepth 100000 in
theorem tw_94 : Cond.instantiable RX0 11 ∈ gtb := gmem (List.mem_of_getElem? (i := 94) (by decide +kernel)) (by decide +kernel)
set_option maxRecDepth 100000 in
theorem tw_97 : Cond.code yX0_init cX0_init 1 none ∈ gtb := gmem (List.mem_of_getElem? (i := 97) (by decide +kernel)) (by decide +kernel)
set_option maxRecDepth 100000 in
theorem tw_96 : Cond.instanceMethod yX0_init ∈ gtb := gmem (List.mem_of_getElem? (i := 96) (by decide +kernel)) (by decide +kernel)
set_option maxRecDepth 100000 in
theorem tw_218 : Cond.arrayClass .boolean ∈ gtb := gmem (List.mem_of_getElem? (i := 218) (by decide +kernel)) (by decide +kernel)
set_option maxRecDepth 100000 in
theorem tw_86 : Cond.methodLink RX1 3 objectInit ∈ gtb := gmem (List.mem_of_getElem? (i := 86) (by decide +kernel)) (by decide +kernel)
set_option maxRecDepth 100000 in
theorem tw_87 : Cond.classLink RX1 9 RX4 ∈ gtb := gmem (List.mem_of_getElem? (i := 87) (by decide +kernel)) (by decide +kernel)
set_option maxRecDepth 100000 in
theorem tw_88 : Cond.instantiable RX4 15 ∈ gtb := gmem (List.mem_of_getElem? (i := 88) (by decide +kernel)) (by decide +kernel)
set_option maxRecDepth 100000 in
theorem tw_91 : Cond.code yX4_init cX4_init 1 none ∈ gtb := gmem (List.mem_of_getElem? (i := 91) (by decide +kernel)) (by decide +kernel)
set_option maxRecDepth 100000 in
theorem tw_90 : Cond.instanceMethod yX4_init ∈ gtb := gmem (List.mem_of_getElem? (i := 90) (by decide +kernel)) (by decide +kernel)
set_option maxRecDepth 100000 in
theorem tw_161 : Cond.fieldLink RX1 18 "SmudgeTally$Sight" "books" "LSmudgeTally$Books;" ∈ gtb := gmem (List.mem_of_getElem? (i := 161) (by decide +kernel)) (by decide +kernel)
set_option maxRecDepth 100000 in
theorem tw_232 : Cond.methodLink RX5 3 objectInit ∈ gtb := gmem (List.mem_of_getElem? (i := 232) (by decide +kernel)) (by decide +kernel)
set_option maxRecDepth 100000 in
theorem tw_233 : Cond.classLink RX5 9 RX0 ∈ gtb := gmem (List.mem_of_getElem? (i := 233) (by decide +kernel)) (by decide +kernel)
set_option maxRecDepth 100000 in
theorem tw_255 : Cond.methodLink RX6 1 objectInit ∈ gtb := gmem (List.mem_of_getElem? (i := 255) (by decide +kernel)) (by decide +kernel)
set_option maxRecDepth 100000 in
theorem tw_256 : Cond.classLink RX6 7 RX0 ∈ gtb := gmem (List.mem_of_getElem? (i := 256) (by decide +kernel)) (by decide +kernel)
set_option maxRecDepth 100000 in
theorem tw_258 : Cond.classLink RX6 16 RX5 ∈ gtb := gmem (List.mem_of_getElem? (i := 258) (by decide +kernel)) (by decide +kernel)
set_option maxRecDepth 100000 in
theorem tw_228 : Cond.instantiable RX5 2 ∈ gtb := gmem (List.mem_of_getElem? (i := 228) (by decide +kernel)) (by decide +kernel)
set_option maxRecDepth 100000 in
theorem tw_231 : Cond.code yX5_init cX5_init 1 none ∈ gtb := gmem (List.mem_of_getElem? (i := 231) (by decide +kernel)) (by decide +kernel)
set_option maxRecDepth 100000 in
theorem tw_230 : Cond.instanceMethod yX5_init ∈ gtb := gmem (List.mem_of_getElem? (i := 230) (by decide +kernel)) (by decide +kernel)
set_option maxRecDepth 100000 in
theorem tw_248 : Cond.methodLink RX2 3 objectInit ∈ gtb := gmem (List.mem_of_getElem? (i := 248) (by decide +kernel)) (by decide +kernel)
set_option maxRecDepth 100000 in
theorem tw_249 : Cond.classLink RX2 9 RX6 ∈ gtb := gmem (List.mem_of_getElem? (i := 249) (by decide +kernel)) (by decide +kernel)
set_option maxRecDepth 100000 in
theorem tw_251 : Cond.instantiable RX6 2 ∈ gtb := gmem (List.mem_of_getElem? (i := 251) (by decide +kernel)) (by decide +kernel)
set_option maxRecDepth 100000 in
theorem tw_254 : Cond.code yX6_init cX6_init 1 none ∈ gtb := gmem (List.mem_of_getElem? (i := 254) (by decide +kernel)) (by decide +kernel)
set_option maxRecDepth 100000 in
theorem tw_253 : Cond.instanceMethod yX6_init ∈ gtb := gmem (List.mem_of_getElem? (i := 253) (by decide +kernel)) (by decide +kernel)
set_option maxRecDepth 100000 in
theorem tw_286 : Cond.methodLink RX7 3 objectInit ∈ gtb := gmem (List.mem_of_getElem? (i := 286) (by decide +kernel)) (by decide +kernel)
set_option maxRecDepth 100000 in
theorem tw_280 : Cond.methodLink RX3 3 objectInit ∈ gtb := gmem (List.mem_of_getElem? (i := 280) (by decide +kernel)) (by decide +kernel)
set_option maxRecDepth 100000 in
theorem tw_281 : Cond.classLink RX3 9 RX7 ∈ gtb := gmem (List.mem_of_getElem? (i := 281) (by decide +kernel)) (by decide +kernel)
set_option maxRecDepth 100000 in
theorem tw_282 : Cond.instantiable RX7 5 ∈ gtb := gmem (List.mem_of_getElem? (i := 282) (by decide +kernel)) (by decide +kernel)
set_option maxRecDepth 100000 in
theorem tw_285 : Cond.code yX7_init cX7_init 1 none ∈ gtb := gmem (List.mem_of_getElem? (i := 285) (by decide +kernel)) (by decide +kernel)
set_option maxRecDepth 100000 in
theorem tw_284 : Cond.instanceMethod yX7_init ∈ gtb := gmem (List.mem_of_getElem? (i := 284) (by decide +kernel)) (by decide +kernel)
set_option maxRecDepth 100000 in
theorem tw_78 : Cond.methodLink RX8 3 objectInit ∈ gtb := gmem (List.mem_of_getElem? (i := 78) (by decide +kernel)) (by decide +kernel)
set_option maxRecDepth 100000 in
theorem tw_81 : Cond.classLink RX8 9 RX1 ∈ gtb := gmem (List.mem_of_getElem? (i := 81) (by decide +kernel)) (by decide +kernel)
set_option maxRecDepth 100000 in
theorem tw_82 : Cond.instantiable RX1 2 ∈ gtb := gmem (List.mem_of_getElem? (i := 82) (by decide +kernel)) (by decide +kernel)
set_option maxRecDepth 100000 in
theorem tw_85 : Cond.code yX1_init cX1_init 1 none ∈ gtb := gmem (List.mem_of_getElem? (i := 85) (by decide +kernel)) (by decide +kernel)
set_option maxRecDepth 100000 in
theorem tw_84 : Cond.instanceMethod yX1_init ∈ gtb := gmem (List.mem_of_getElem? (i := 84) (by decide +kernel)) (by decide +kernel)
set_option maxRecDepth 100000 in
theorem tw_220 : Cond.fieldLink RX8 16 "SmudgeTally$Clerk" "sight" "LSmudgeTally$Sight;" ∈ gtb := gmem (List.mem_of_getElem? (i := 220) (by decide +kernel)) (by decide +kernel)
set_option maxRecDepth 100000 in
theorem tw_162 : Cond.fieldLink RX8 21 "SmudgeTally$Sight" "books" "LSmudgeTally$Books;" ∈ gtb := gmem (List.mem_of_getElem? (i := 162) (by decide +kernel)) (by decide +kernel)
set_option maxRecDepth 100000 in
theorem tw_227 : Cond.classLink RX8 28 RX5 ∈ gtb := gmem (List.mem_of_getElem? (i := 227) (by decide +kernel)) (by decide +kernel)
set_option maxRecDepth 100000 in
theorem tw_243 : Cond.classLink RX8 35 RX2 ∈ gtb := gmem (List.mem_of_getElem? (i := 243) (by decide +kernel)) (by decide +kernel)
set_option maxRecDepth 100000 in
theorem tw_244 : Cond.instantiable RX2 2 ∈ gtb := gmem (List.mem_of_getElem? (i := 244) (by decide +kernel)) (by decide +kernel)
set_option maxRecDepth 100000 in
theorem tw_247 : Cond.code yX2_init cX2_init 1 none ∈ gtb := gmem (List.mem_of_getElem? (i := 247) (by decide +kernel)) (by decide +kernel)
set_option maxRecDepth 100000 in
theorem tw_246 : Cond.instanceMethod yX2_init ∈ gtb := gmem (List.mem_of_getElem? (i := 246) (by decide +kernel)) (by decide +kernel)
set_option maxRecDepth 100000 in
theorem tw_275 : Cond.classLink RX8 42 RX3 ∈ gtb := gmem (List.mem_of_getElem? (i := 275) (by decide +kernel)) (by decide +kernel)
set_option maxRecDepth 100000 in
theorem tw_276 : Cond.instantiable RX3 7 ∈ gtb := gmem (List.mem_of_getElem? (i := 276) (by decide +kernel)) (by decide +kernel)
set_option maxRecDepth 100000 in
theorem tw_279 : Cond.code yX3_init cX3_init 1 none ∈ gtb := gmem (List.mem_of_getElem? (i := 279) (by decide +kernel)) (by decide +kernel)
set_option maxRecDepth 100000 in
theorem tw_278 : Cond.instanceMethod yX3_init ∈ gtb := gmem (List.mem_of_getElem? (i := 278) (by decide +kernel)) (by decide +kernel)
set_option maxRecDepth 100000 in
theorem tw_853 : Cond.methodLink RX9 1 objectInit ∈ gtb := gmem (List.mem_of_getElem? (i := 853) (by decide +kernel)) (by decide +kernel)
set_option maxRecDepth 100000 in
theorem tw_854 : Cond.constantLong RX9 26 (4) ∈ gtb := gmem (List.mem_of_getElem? (i := 854) (by decide +kernel)) (by decide +kernel)
set_option maxRecDepth 100000 in
theorem tw_1246 : Cond.constantLong RL 13 (4294967295) ∈ gtb := gmem (List.mem_of_getElem? (i := 1246) (by decide +kernel)) (by decide +kernel)
set_option maxRecDepth 100000 in
theorem tw_352 : Cond.methodLink RL 15 yX8_scan ∈ gtb := gmem (List.mem_of_getElem? (i := 352) (by decide +kernel)) (by decide +kernel)
set_option maxRecDepth 100000 in
theorem tw_353 : Cond.instanceMethod yX8_scan ∈ gtb := gmem (List.mem_of_getElem? (i := 353) (by decide +kernel)) (by decide +kernel)
set_option maxRecDepth 100000 in
theorem tw_354 : Cond.selects RX8 yX8_scan yX8_scan ∈ gtb := gmem (List.mem_of_getElem? (i := 354) (by decide +kernel)) (by decide +kernel)
set_option maxRecDepth 100000 in
theorem tw_355 : Cond.code yX8_scan cX8_scan 4 (some .int) ∈ gtb := gmem (List.mem_of_getElem? (i := 355) (by decide +kernel)) (by decide +kernel)
set_option maxRecDepth 100000 in
theorem tw_909 : Cond.methodLink RL 19 yX9_scan ∈ gtb := gmem (List.mem_of_getElem? (i := 909) (by decide +kernel)) (by decide +kernel)
set_option maxRecDepth 100000 in
theorem tw_910 : Cond.instanceMethod yX9_scan ∈ gtb := gmem (List.mem_of_getElem? (i := 910) (by decide +kernel)) (by decide +kernel)
set_option maxRecDepth 100000 in
theorem tw_911 : Cond.selects RX9 yX9_scan yX9_scan ∈ gtb := gmem (List.mem_of_getElem? (i := 911) (by decide +kernel)) (by decide +kernel)
set_option maxRecDepth 100000 in
theorem tw_912 : Cond.code yX9_scan cX9_scan 4 (some .int) ∈ gtb := gmem (List.mem_of_getElem? (i := 912) (by decide +kernel)) (by decide +kernel)
set_option maxRecDepth 100000 in
theorem tw_395 : Cond.methodLink RL 20 yX8_clean ∈ gtb := gmem (List.mem_of_getElem? (i := 395) (by decide +kernel)) (by decide +kernel)
set_option maxRecDepth 100000 in
theorem tw_396 : Cond.instanceMethod yX8_clean ∈ gtb := gmem (List.mem_of_getElem? (i := 396) (by decide +kernel)) (by decide +kernel)
set_option maxRecDepth 100000 in
theorem tw_397 : Cond.selects RX8 yX8_clean yX8_clean ∈ gtb := gmem (List.mem_of_getElem? (i := 397) (by decide +kernel)) (by decide +kernel)
set_option maxRecDepth 100000 in
theorem tw_398 : Cond.code yX8_clean cX8_clean 2 (some .int) ∈ gtb := gmem (List.mem_of_getElem? (i := 398) (by decide +kernel)) (by decide +kernel)
set_option maxRecDepth 100000 in
theorem tw_939 : Cond.methodLink RL 24 yX9_clean ∈ gtb := gmem (List.mem_of_getElem? (i := 939) (by decide +kernel)) (by decide +kernel)
set_option maxRecDepth 100000 in
theorem tw_940 : Cond.instanceMethod yX9_clean ∈ gtb := gmem (List.mem_of_getElem? (i := 940) (by decide +kernel)) (by decide +kernel)
set_option maxRecDepth 100000 in
theorem tw_941 : Cond.selects RX9 yX9_clean yX9_clean ∈ gtb := gmem (List.mem_of_getElem? (i := 941) (by decide +kernel)) (by decide +kernel)
set_option maxRecDepth 100000 in
theorem tw_942 : Cond.code yX9_clean cX9_clean 2 (some .int) ∈ gtb := gmem (List.mem_of_getElem? (i := 942) (by decide +kernel)) (by decide +kernel)
set_option maxRecDepth 100000 in
theorem tw_407 : Cond.methodLink RL 25 yX8_set ∈ gtb := gmem (List.mem_of_getElem? (i := 407) (by decide +kernel)) (by decide +kernel)
set_option maxRecDepth 100000 in
theorem tw_408 : Cond.instanceMethod yX8_set ∈ gtb := gmem (List.mem_of_getElem? (i := 408) (by decide +kernel)) (by decide +kernel)
set_option maxRecDepth 100000 in
theorem tw_409 : Cond.selects RX8 yX8_set yX8_set ∈ gtb := gmem (List.mem_of_getElem? (i := 409) (by decide +kernel)) (by decide +kernel)
set_option maxRecDepth 100000 in
theorem tw_410 : Cond.code yX8_set cX8_set 3 (some .int) ∈ gtb := gmem (List.mem_of_getElem? (i := 410) (by decide +kernel)) (by decide +kernel)
set_option maxRecDepth 100000 in
theorem tw_951 : Cond.methodLink RL 29 yX9_set ∈ gtb := gmem (List.mem_of_getElem? (i := 951) (by decide +kernel)) (by decide +kernel)
set_option maxRecDepth 100000 in
theorem tw_952 : Cond.instanceMethod yX9_set ∈ gtb := gmem (List.mem_of_getElem? (i := 952) (by decide +kernel)) (by decide +kernel)
set_option maxRecDepth 100000 in
theorem tw_953 : Cond.selects RX9 yX9_set yX9_set ∈ gtb := gmem (List.mem_of_getElem? (i := 953) (by decide +kernel)) (by decide +kernel)
set_option maxRecDepth 100000 in
theorem tw_954 : Cond.code yX9_set cX9_set 4 (some .int) ∈ gtb := gmem (List.mem_of_getElem? (i := 954) (by decide +kernel)) (by decide +kernel)
set_option maxRecDepth 100000 in
theorem tw_419 : Cond.methodLink RL 30 yX8_publish ∈ gtb := gmem (List.mem_of_getElem? (i := 419) (by decide +kernel)) (by decide +kernel)
set_option maxRecDepth 100000 in
theorem tw_420 : Cond.instanceMethod yX8_publish ∈ gtb := gmem (List.mem_of_getElem? (i := 420) (by decide +kernel)) (by decide +kernel)
set_option maxRecDepth 100000 in
theorem tw_421 : Cond.selects RX8 yX8_publish yX8_publish ∈ gtb := gmem (List.mem_of_getElem? (i := 421) (by decide +kernel)) (by decide +kernel)
set_option maxRecDepth 100000 in
theorem tw_422 : Cond.code yX8_publish cX8_publish 1 (some .int) ∈ gtb := gmem (List.mem_of_getElem? (i := 422) (by decide +kernel)) (by decide +kernel)
set_option maxRecDepth 100000 in
theorem tw_960 : Cond.methodLink RL 34 yX9_publish ∈ gtb := gmem (List.mem_of_getElem? (i := 960) (by decide +kernel)) (by decide +kernel)
set_option maxRecDepth 100000 in
theorem tw_961 : Cond.instanceMethod yX9_publish ∈ gtb := gmem (List.mem_of_getElem? (i := 961) (by decide +kernel)) (by decide +kernel)
set_option maxRecDepth 100000 in
theorem tw_962 : Cond.selects RX9 yX9_publish yX9_publish ∈ gtb := gmem (List.mem_of_getElem? (i := 962) (by decide +kernel)) (by decide +kernel)
set_option maxRecDepth 100000 in
theorem tw_963 : Cond.code yX9_publish cX9_publish 1 (some .int) ∈ gtb := gmem (List.mem_of_getElem? (i := 963) (by decide +kernel)) (by decide +kernel)
set_option maxRecDepth 100000 in
theorem tw_492 : Cond.methodLink RL 35 yX8_draw ∈ gtb := gmem (List.mem_of_getElem? (i := 492) (by decide +kernel)) (by decide +kernel)
set_option maxRecDepth 100000 in
theorem tw_493 : Cond.instanceMethod yX8_draw ∈ gtb := gmem (List.mem_of_getElem? (i := 493) (by decide +kernel)) (by decide +kernel)
set_option maxRecDepth 100000 in
theorem tw_494 : Cond.selects RX8 yX8_draw yX8_draw ∈ gtb := gmem (List.mem_of_getElem? (i := 494) (by decide +kernel)) (by decide +kernel)
set_option maxRecDepth 100000 in
theorem tw_495 : Cond.code yX8_draw cX8_draw 3 (some .int) ∈ gtb := gmem (List.mem_of_getElem? (i := 495) (by decide +kernel)) (by decide +kernel)
set_option maxRecDepth 100000 in
theorem tw_1047 : Cond.methodLink RL 38 yX9_draw ∈ gtb := gmem (List.mem_of_getElem? (i := 1047) (by decide +kernel)) (by decide +kernel)
set_option maxRecDepth 100000 in
theorem tw_1048 : Cond.instanceMethod yX9_draw ∈ gtb := gmem (List.mem_of_getElem? (i := 1048) (by decide +kernel)) (by decide +kernel)
set_option maxRecDepth 100000 in
theorem tw_1049 : Cond.selects RX9 yX9_draw yX9_draw ∈ gtb := gmem (List.mem_of_getElem? (i := 1049) (by decide +kernel)) (by decide +kernel)
set_option maxRecDepth 100000 in
theorem tw_1050 : Cond.code yX9_draw cX9_draw 3 (some .int) ∈ gtb := gmem (List.mem_of_getElem? (i := 1050) (by decide +kernel)) (by decide +kernel)
set_option maxRecDepth 100000 in
theorem tw_529 : Cond.methodLink RL 39 yX8_look ∈ gtb := gmem (List.mem_of_getElem? (i := 529) (by decide +kernel)) (by decide +kernel)
set_option maxRecDepth 100000 in
theorem tw_530 : Cond.instanceMethod yX8_look ∈ gtb := gmem (List.mem_of_getElem? (i := 530) (by decide +kernel)) (by decide +kernel)
set_option maxRecDepth 100000 in
theorem tw_531 : Cond.selects RX8 yX8_look yX8_look ∈ gtb := gmem (List.mem_of_getElem? (i := 531) (by decide +kernel)) (by decide +kernel)
set_option maxRecDepth 100000 in
theorem tw_532 : Cond.code yX8_look cX8_look 4 (some .int) ∈ gtb := gmem (List.mem_of_getElem? (i := 532) (by decide +kernel)) (by decide +kernel)
set_option maxRecDepth 100000 in
theorem tw_1075 : Cond.methodLink RL 42 yX9_look ∈ gtb := gmem (List.mem_of_getElem? (i := 1075) (by decide +kernel)) (by decide +kernel)
set_option maxRecDepth 100000 in
theorem tw_1076 : Cond.instanceMethod yX9_look ∈ gtb := gmem (List.mem_of_getElem? (i := 1076) (by decide +kernel)) (by decide +kernel)
set_option maxRecDepth 100000 in
theorem tw_1077 : Cond.selects RX9 yX9_look yX9_look ∈ gtb := gmem (List.mem_of_getElem? (i := 1077) (by decide +kernel)) (by decide +kernel)
set_option maxRecDepth 100000 in
theorem tw_1078 : Cond.code yX9_look cX9_look 4 (some .int) ∈ gtb := gmem (List.mem_of_getElem? (i := 1078) (by decide +kernel)) (by decide +kernel)
set_option maxRecDepth 100000 in
theorem tw_543 : Cond.methodLink RL 43 yX8_take ∈ gtb := gmem (List.mem_of_getElem? (i := 543) (by decide +kernel)) (by decide +kernel)
set_option maxRecDepth 100000 in
theorem tw_544 : Cond.instanceMethod yX8_take ∈ gtb := gmem (List.mem_of_getElem? (i := 544) (by decide +kernel)) (by decide +kernel)
set_option maxRecDepth 100000 in
theorem tw_545 : Cond.selects RX8 yX8_take yX8_take ∈ gtb := gmem (List.mem_of_getElem? (i := 545) (by decide +kernel)) (by decide +kernel)
set_option maxRecDepth 100000 in
theorem tw_546 : Cond.code yX8_take cX8_take 2 (some .int) ∈ gtb := gmem (List.mem_of_getElem? (i := 546) (by decide +kernel)) (by decide +kernel)
set_option maxRecDepth 100000 in
theorem tw_1083 : Cond.methodLink RL 46 yX9_take ∈ gtb := gmem (List.mem_of_getElem? (i := 1083) (by decide +kernel)) (by decide +kernel)
set_option maxRecDepth 100000 in
theorem tw_1084 : Cond.instanceMethod yX9_take ∈ gtb := gmem (List.mem_of_getElem? (i := 1084) (by decide +kernel)) (by decide +kernel)
set_option maxRecDepth 100000 in
theorem tw_1085 : Cond.selects RX9 yX9_take yX9_take ∈ gtb := gmem (List.mem_of_getElem? (i := 1085) (by decide +kernel)) (by decide +kernel)
set_option maxRecDepth 100000 in
theorem tw_1086 : Cond.code yX9_take cX9_take 3 (some .int) ∈ gtb := gmem (List.mem_of_getElem? (i := 1086) (by decide +kernel)) (by decide +kernel)
set_option maxRecDepth 100000 in
theorem tw_553 : Cond.methodLink RL 47 yX8_restore ∈ gtb := gmem (List.mem_of_getElem? (i := 553) (by decide +kernel)) (by decide +kernel)
set_option maxRecDepth 100000 in
theorem tw_554 : Cond.instanceMethod yX8_restore ∈ gtb := gmem (List.mem_of_getElem? (i := 554) (by decide +kernel)) (by decide +kernel)
set_option maxRecDepth 100000 in
theorem tw_555 : Cond.selects RX8 yX8_restore yX8_restore ∈ gtb := gmem (List.mem_of_getElem? (i := 555) (by decide +kernel)) (by decide +kernel)
set_option maxRecDepth 100000 in
theorem tw_556 : Cond.code yX8_restore cX8_restore 2 (some .int) ∈ gtb := gmem (List.mem_of_getElem? (i := 556) (by decide +kernel)) (by decide +kernel)
set_option maxRecDepth 100000 in
theorem tw_1090 : Cond.methodLink RL 50 yX9_restore ∈ gtb := gmem (List.mem_of_getElem? (i := 1090) (by decide +kernel)) (by decide +kernel)
set_option maxRecDepth 100000 in
theorem tw_1091 : Cond.instanceMethod yX9_restore ∈ gtb := gmem (List.mem_of_getElem? (i := 1091) (by decide +kernel)) (by decide +kernel)
set_option maxRecDepth 100000 in
theorem tw_1092 : Cond.selects RX9 yX9_restore yX9_restore ∈ gtb := gmem (List.mem_of_getElem? (i := 1092) (by decide +kernel)) (by decide +kernel)
set_option maxRecDepth 100000 in
theorem tw_1093 : Cond.code yX9_restore cX9_restore 3 (some .int) ∈ gtb := gmem (List.mem_of_getElem? (i := 1093) (by decide +kernel)) (by decide +kernel)
set_option maxRecDepth 100000 in
theorem tw_566 : Cond.methodLink RL 51 yX8_undo ∈ gtb := gmem (List.mem_of_getElem? (i := 566) (by decide +kernel)) (by decide +kernel)
set_option maxRecDepth 100000 in
theorem tw_567 : Cond.instanceMethod yX8_undo ∈ gtb := gmem (List.mem_of_getElem? (i := 567) (by decide +kernel)) (by decide +kernel)
set_option maxRecDepth 100000 in
theorem tw_568 : Cond.selects RX8 yX8_undo yX8_undo ∈ gtb := gmem (List.mem_of_getElem? (i := 568) (by decide +kernel)) (by decide +kernel)
set_option maxRecDepth 100000 in
theorem tw_569 : Cond.code yX8_undo cX8_undo 1 (some .int) ∈ gtb := gmem (List.mem_of_getElem? (i := 569) (by decide +kernel)) (by decide +kernel)
set_option maxRecDepth 100000 in
theorem tw_1094 : Cond.methodLink RL 54 yX9_undo ∈ gtb := gmem (List.mem_of_getElem? (i := 1094) (by decide +kernel)) (by decide +kernel)
set_option maxRecDepth 100000 in
theorem tw_1095 : Cond.instanceMethod yX9_undo ∈ gtb := gmem (List.mem_of_getElem? (i := 1095) (by decide +kernel)) (by decide +kernel)
set_option maxRecDepth 100000 in
theorem tw_1096 : Cond.selects RX9 yX9_undo yX9_undo ∈ gtb := gmem (List.mem_of_getElem? (i := 1096) (by decide +kernel)) (by decide +kernel)
set_option maxRecDepth 100000 in
theorem tw_1097 : Cond.code yX9_undo cX9_undo 2 (some .int) ∈ gtb := gmem (List.mem_of_getElem? (i := 1097) (by decide +kernel)) (by decide +kernel)
set_option maxRecDepth 100000 in
theorem tw_578 : Cond.methodLink RL 55 yX8_append ∈ gtb := gmem (List.mem_of_getElem? (i := 578) (by decide +kernel)) (by decide +kernel)
set_option maxRecDepth 100000 in
theorem tw_579 : Cond.instanceMethod yX8_append ∈ gtb := gmem (List.mem_of_getElem? (i := 579) (by decide +kernel)) (by decide +kernel)
set_option maxRecDepth 100000 in
theorem tw_580 : Cond.selects RX8 yX8_append yX8_append ∈ gtb := gmem (List.mem_of_getElem? (i := 580) (by decide +kernel)) (by decide +kernel)
set_option maxRecDepth 100000 in
theorem tw_581 : Cond.code yX8_append cX8_append 2 (some .int) ∈ gtb := gmem (List.mem_of_getElem? (i := 581) (by decide +kernel)) (by decide +kernel)
set_option maxRecDepth 100000 in
theorem tw_1098 : Cond.methodLink RL 58 yX9_append ∈ gtb := gmem (List.mem_of_getElem? (i := 1098) (by decide +kernel)) (by decide +kernel)
set_option maxRecDepth 100000 in
theorem tw_1099 : Cond.instanceMethod yX9_append ∈ gtb := gmem (List.mem_of_getElem? (i := 1099) (by decide +kernel)) (by decide +kernel)
set_option maxRecDepth 100000 in
theorem tw_1100 : Cond.selects RX9 yX9_append yX9_append ∈ gtb := gmem (List.mem_of_getElem? (i := 1100) (by decide +kernel)) (by decide +kernel)
set_option maxRecDepth 100000 in
theorem tw_1101 : Cond.code yX9_append cX9_append 2 (some .int) ∈ gtb := gmem (List.mem_of_getElem? (i := 1101) (by decide +kernel)) (by decide +kernel)
set_option maxRecDepth 100000 in
theorem tw_586 : Cond.methodLink RL 59 yX8_clearText ∈ gtb := gmem (List.mem_of_getElem? (i := 586) (by decide +kernel)) (by decide +kernel)
set_option maxRecDepth 100000 in
theorem tw_587 : Cond.instanceMethod yX8_clearText ∈ gtb := gmem (List.mem_of_getElem? (i := 587) (by decide +kernel)) (by decide +kernel)
set_option maxRecDepth 100000 in
theorem tw_588 : Cond.selects RX8 yX8_clearText yX8_clearText ∈ gtb := gmem (List.mem_of_getElem? (i := 588) (by decide +kernel)) (by decide +kernel)
set_option maxRecDepth 100000 in
theorem tw_589 : Cond.code yX8_clearText cX8_clearText 1 (some .int) ∈ gtb := gmem (List.mem_of_getElem? (i := 589) (by decide +kernel)) (by decide +kernel)
set_option maxRecDepth 100000 in
theorem tw_1103 : Cond.methodLink RL 62 yX9_clearText ∈ gtb := gmem (List.mem_of_getElem? (i := 1103) (by decide +kernel)) (by decide +kernel)
set_option maxRecDepth 100000 in
theorem tw_1104 : Cond.instanceMethod yX9_clearText ∈ gtb := gmem (List.mem_of_getElem? (i := 1104) (by decide +kernel)) (by decide +kernel)
set_option maxRecDepth 100000 in
theorem tw_1105 : Cond.selects RX9 yX9_clearText yX9_clearText ∈ gtb := gmem (List.mem_of_getElem? (i := 1105) (by decide +kernel)) (by decide +kernel)
set_option maxRecDepth 100000 in
theorem tw_1106 : Cond.code yX9_clearText cX9_clearText 2 (some .int) ∈ gtb := gmem (List.mem_of_getElem? (i := 1106) (by decide +kernel)) (by decide +kernel)
set_option maxRecDepth 100000 in
theorem tw_594 : Cond.methodLink RL 63 yX8_run ∈ gtb := gmem (List.mem_of_getElem? (i := 594) (by decide +kernel)) (by decide +kernel)
set_option maxRecDepth 100000 in
theorem tw_595 : Cond.instanceMethod yX8_run ∈ gtb := gmem (List.mem_of_getElem? (i := 595) (by decide +kernel)) (by decide +kernel)
set_option maxRecDepth 100000 in
theorem tw_596 : Cond.selects RX8 yX8_run yX8_run ∈ gtb := gmem (List.mem_of_getElem? (i := 596) (by decide +kernel)) (by decide +kernel)
set_option maxRecDepth 100000 in
theorem tw_597 : Cond.code yX8_run cX8_run 2 (some .int) ∈ gtb := gmem (List.mem_of_getElem? (i := 597) (by decide +kernel)) (by decide +kernel)
set_option maxRecDepth 100000 in
theorem tw_1107 : Cond.methodLink RL 66 yX9_run ∈ gtb := gmem (List.mem_of_getElem? (i := 1107) (by decide +kernel)) (by decide +kernel)
set_option maxRecDepth 100000 in
theorem tw_1108 : Cond.instanceMethod yX9_run ∈ gtb := gmem (List.mem_of_getElem? (i := 1108) (by decide +kernel)) (by decide +kernel)
set_option maxRecDepth 100000 in
theorem tw_1109 : Cond.selects RX9 yX9_run yX9_run ∈ gtb := gmem (List.mem_of_getElem? (i := 1109) (by decide +kernel)) (by decide +kernel)
set_option maxRecDepth 100000 in
theorem tw_1110 : Cond.code yX9_run cX9_run 5 (some .int) ∈ gtb := gmem (List.mem_of_getElem? (i := 1110) (by decide +kernel)) (by decide +kernel)
set_option maxRecDepth 100000 in
theorem tw_718 : Cond.methodLink RL 67 yX8_failure ∈ gtb := gmem (List.mem_of_getElem? (i := 718) (by decide +kernel)) (by decide +kernel)
set_option maxRecDepth 100000 in
theorem tw_719 : Cond.instanceMethod yX8_failure ∈ gtb := gmem (List.mem_of_getElem? (i := 719) (by decide +kernel)) (by decide +kernel)
set_option maxRecDepth 100000 in
theorem tw_720 : Cond.selects RX8 yX8_failure yX8_failure ∈ gtb := gmem (List.mem_of_getElem? (i := 720) (by decide +kernel)) (by decide +kernel)
set_option maxRecDepth 100000 in
theorem tw_721 : Cond.code yX8_failure cX8_failure 2 (some .int) ∈ gtb := gmem (List.mem_of_getElem? (i := 721) (by decide +kernel)) (by decide +kernel)
set_option maxRecDepth 100000 in
theorem tw_1156 : Cond.methodLink RL 70 yX9_failure ∈ gtb := gmem (List.mem_of_getElem? (i := 1156) (by decide +kernel)) (by decide +kernel)
set_option maxRecDepth 100000 in
theorem tw_1157 : Cond.instanceMethod yX9_failure ∈ gtb := gmem (List.mem_of_getElem? (i := 1157) (by decide +kernel)) (by decide +kernel)
set_option maxRecDepth 100000 in
theorem tw_1158 : Cond.selects RX9 yX9_failure yX9_failure ∈ gtb := gmem (List.mem_of_getElem? (i := 1158) (by decide +kernel)) (by decide +kernel)
set_option maxRecDepth 100000 in
theorem tw_1159 : Cond.code yX9_failure cX9_failure 2 (some .int) ∈ gtb := gmem (List.mem_of_getElem? (i := 1159) (by decide +kernel)) (by decide +kernel)
set_option maxRecDepth 100000 in
theorem tw_722 : Cond.methodLink RL 71 yX8_count ∈ gtb := gmem (List.mem_of_getElem? (i := 722) (by decide +kernel)) (by decide +kernel)
set_option maxRecDepth 100000 in
theorem tw_723 : Cond.instanceMethod yX8_count ∈ gtb := gmem (List.mem_of_getElem? (i := 723) (by decide +kernel)) (by decide +kernel)
set_option maxRecDepth 100000 in
theorem tw_724 : Cond.selects RX8 yX8_count yX8_count ∈ gtb := gmem (List.mem_of_getElem? (i := 724) (by decide +kernel)) (by decide +kernel)
set_option maxRecDepth 100000 in
theorem tw_725 : Cond.code yX8_count cX8_count 2 (some .int) ∈ gtb := gmem (List.mem_of_getElem? (i := 725) (by decide +kernel)) (by decide +kernel)
set_option maxRecDepth 100000 in
theorem tw_1161 : Cond.methodLink RL 74 yX9_count ∈ gtb := gmem (List.mem_of_getElem? (i := 1161) (by decide +kernel)) (by decide +kernel)
set_option maxRecDepth 100000 in
theorem tw_1162 : Cond.instanceMethod yX9_count ∈ gtb := gmem (List.mem_of_getElem? (i := 1162) (by decide +kernel)) (by decide +kernel)
set_option maxRecDepth 100000 in
theorem tw_1163 : Cond.selects RX9 yX9_count yX9_count ∈ gtb := gmem (List.mem_of_getElem? (i := 1163) (by decide +kernel)) (by decide +kernel)
set_option maxRecDepth 100000 in
theorem tw_1164 : Cond.code yX9_count cX9_count 2 (some .int) ∈ gtb := gmem (List.mem_of_getElem? (i := 1164) (by decide +kernel)) (by decide +kernel)
set_option maxRecDepth 100000 in
theorem tw_739 : Cond.methodLink RL 75 yX8_card ∈ gtb := gmem (List.mem_of_getElem? (i := 739) (by decide +kernel)) (by decide +kernel)
set_option maxRecDepth 100000 in
theorem tw_740 : Cond.instanceMethod yX8_card ∈ gtb := gmem (List.mem_of_getElem? (i := 740) (by decide +kernel)) (by decide +kernel)
set_option maxRecDepth 100000 in
theorem tw_741 : Cond.selects RX8 yX8_card yX8_card ∈ gtb := gmem (List.mem_of_getElem? (i := 741) (by decide +kernel)) (by decide +kernel)
set_option maxRecDepth 100000 in
theorem tw_742 : Cond.code yX8_card cX8_card 3 (some .int) ∈ gtb := gmem (List.mem_of_getElem? (i := 742) (by decide +kernel)) (by decide +kernel)
set_option maxRecDepth 100000 in
theorem tw_1172 : Cond.methodLink RL 78 yX9_card ∈ gtb := gmem (List.mem_of_getElem? (i := 1172) (by decide +kernel)) (by decide +kernel)
set_option maxRecDepth 100000 in
theorem tw_1173 : Cond.instanceMethod yX9_card ∈ gtb := gmem (List.mem_of_getElem? (i := 1173) (by decide +kernel)) (by decide +kernel)
set_option maxRecDepth 100000 in
theorem tw_1174 : Cond.selects RX9 yX9_card yX9_card ∈ gtb := gmem (List.mem_of_getElem? (i := 1174) (by decide +kernel)) (by decide +kernel)
set_option maxRecDepth 100000 in
theorem tw_1175 : Cond.code yX9_card cX9_card 3 (some .int) ∈ gtb := gmem (List.mem_of_getElem? (i := 1175) (by decide +kernel)) (by decide +kernel)
set_option maxRecDepth 100000 in
theorem tw_746 : Cond.methodLink RL 79 yX8_place ∈ gtb := gmem (List.mem_of_getElem? (i := 746) (by decide +kernel)) (by decide +kernel)
set_option maxRecDepth 100000 in
theorem tw_747 : Cond.instanceMethod yX8_place ∈ gtb := gmem (List.mem_of_getElem? (i := 747) (by decide +kernel)) (by decide +kernel)
set_option maxRecDepth 100000 in
theorem tw_748 : Cond.selects RX8 yX8_place yX8_place ∈ gtb := gmem (List.mem_of_getElem? (i := 748) (by decide +kernel)) (by decide +kernel)
set_option maxRecDepth 100000 in
theorem tw_749 : Cond.code yX8_place cX8_place 5 (some .int) ∈ gtb := gmem (List.mem_of_getElem? (i := 749) (by decide +kernel)) (by decide +kernel)
set_option maxRecDepth 100000 in
theorem tw_1184 : Cond.methodLink RL 83 yX9_place ∈ gtb := gmem (List.mem_of_getElem? (i := 1184) (by decide +kernel)) (by decide +kernel)
set_option maxRecDepth 100000 in
theorem tw_1185 : Cond.instanceMethod yX9_place ∈ gtb := gmem (List.mem_of_getElem? (i := 1185) (by decide +kernel)) (by decide +kernel)
set_option maxRecDepth 100000 in
theorem tw_1186 : Cond.selects RX9 yX9_place yX9_place ∈ gtb := gmem (List.mem_of_getElem? (i := 1186) (by decide +kernel)) (by decide +kernel)
set_option maxRecDepth 100000 in
theorem tw_1187 : Cond.code yX9_place cX9_place 4 (some .int) ∈ gtb := gmem (List.mem_of_getElem? (i := 1187) (by decide +kernel)) (by decide +kernel)
set_option maxRecDepth 100000 in
theorem tw_750 : Cond.methodLink RL 84 yX8_runAt ∈ gtb := gmem (List.mem_of_getElem? (i := 750) (by decide +kernel)) (by decide +kernel)
set_option maxRecDepth 100000 in
theorem tw_751 : Cond.instanceMethod yX8_runAt ∈ gtb := gmem (List.mem_of_getElem? (i := 751) (by decide +kernel)) (by decide +kernel)
set_option maxRecDepth 100000 in
theorem tw_752 : Cond.selects RX8 yX8_runAt yX8_runAt ∈ gtb := gmem (List.mem_of_getElem? (i := 752) (by decide +kernel)) (by decide +kernel)
set_option maxRecDepth 100000 in
theorem tw_753 : Cond.code yX8_runAt cX8_runAt 5 (some .int) ∈ gtb := gmem (List.mem_of_getElem? (i := 753) (by decide +kernel)) (by decide +kernel)
set_option maxRecDepth 100000 in
theorem tw_1191 : Cond.methodLink RL 87 yX9_runAt ∈ gtb := gmem (List.mem_of_getElem? (i := 1191) (by decide +kernel)) (by decide +kernel)
set_option maxRecDepth 100000 in
theorem tw_1192 : Cond.instanceMethod yX9_runAt ∈ gtb := gmem (List.mem_of_getElem? (i := 1192) (by decide +kernel)) (by decide +kernel)
set_option maxRecDepth 100000 in
theorem tw_1193 : Cond.selects RX9 yX9_runAt yX9_runAt ∈ gtb := gmem (List.mem_of_getElem? (i := 1193) (by decide +kernel)) (by decide +kernel)
set_option maxRecDepth 100000 in
theorem tw_1194 : Cond.code yX9_runAt cX9_runAt 5 (some .int) ∈ gtb := gmem (List.mem_of_getElem? (i := 1194) (by decide +kernel)) (by decide +kernel)
set_option maxRecDepth 100000 in
theorem tw_754 : Cond.methodLink RL 88 yX8_outcome ∈ gtb := gmem (List.mem_of_getElem? (i := 754) (by decide +kernel)) (by decide +kernel)
set_option maxRecDepth 100000 in
theorem tw_755 : Cond.instanceMethod yX8_outcome ∈ gtb := gmem (List.mem_of_getElem? (i := 755) (by decide +kernel)) (by decide +kernel)
set_option maxRecDepth 100000 in
theorem tw_756 : Cond.selects RX8 yX8_outcome yX8_outcome ∈ gtb := gmem (List.mem_of_getElem? (i := 756) (by decide +kernel)) (by decide +kernel)
set_option maxRecDepth 100000 in
theorem tw_757 : Cond.code yX8_outcome cX8_outcome 4 (some .int) ∈ gtb := gmem (List.mem_of_getElem? (i := 757) (by decide +kernel)) (by decide +kernel)
set_option maxRecDepth 100000 in
theorem tw_1195 : Cond.methodLink RL 91 yX9_outcome ∈ gtb := gmem (List.mem_of_getElem? (i := 1195) (by decide +kernel)) (by decide +kernel)
set_option maxRecDepth 100000 in
theorem tw_1196 : Cond.instanceMethod yX9_outcome ∈ gtb := gmem (List.mem_of_getElem? (i := 1196) (by decide +kernel)) (by decide +kernel)
set_option maxRecDepth 100000 in
theorem tw_1197 : Cond.selects RX9 yX9_outcome yX9_outcome ∈ gtb := gmem (List.mem_of_getElem? (i := 1197) (by decide +kernel)) (by decide +kernel)
set_option maxRecDepth 100000 in
theorem tw_1198 : Cond.code yX9_outcome cX9_outcome 4 (some .int) ∈ gtb := gmem (List.mem_of_getElem? (i := 1198) (by decide +kernel)) (by decide +kernel)
set_option maxRecDepth 100000 in
theorem tw_774 : Cond.methodLink RL 92 yX8_tally ∈ gtb := gmem (List.mem_of_getElem? (i := 774) (by decide +kernel)) (by decide +kernel)
set_option maxRecDepth 100000 in
theorem tw_775 : Cond.instanceMethod yX8_tally ∈ gtb := gmem (List.mem_of_getElem? (i := 775) (by decide +kernel)) (by decide +kernel)
set_option maxRecDepth 100000 in
theorem tw_776 : Cond.selects RX8 yX8_tally yX8_tally ∈ gtb := gmem (List.mem_of_getElem? (i := 776) (by decide +kernel)) (by decide +kernel)
set_option maxRecDepth 100000 in
theorem tw_777 : Cond.code yX8_tally cX8_tally 5 (some .int) ∈ gtb := gmem (List.mem_of_getElem? (i := 777) (by decide +kernel)) (by decide +kernel)
set_option maxRecDepth 100000 in
theorem tw_1211 : Cond.methodLink RL 96 yX9_tally ∈ gtb := gmem (List.mem_of_getElem? (i := 1211) (by decide +kernel)) (by decide +kernel)
set_option maxRecDepth 100000 in
theorem tw_1212 : Cond.instanceMethod yX9_tally ∈ gtb := gmem (List.mem_of_getElem? (i := 1212) (by decide +kernel)) (by decide +kernel)
set_option maxRecDepth 100000 in
theorem tw_1213 : Cond.selects RX9 yX9_tally yX9_tally ∈ gtb := gmem (List.mem_of_getElem? (i := 1213) (by decide +kernel)) (by decide +kernel)
set_option maxRecDepth 100000 in
theorem tw_1214 : Cond.code yX9_tally cX9_tally 6 (some .int) ∈ gtb := gmem (List.mem_of_getElem? (i := 1214) (by decide +kernel)) (by decide +kernel)
set_option maxRecDepth 100000 in
theorem tw_785 : Cond.methodLink RL 97 yX8_changed ∈ gtb := gmem (List.mem_of_getElem? (i := 785) (by decide +kernel)) (by decide +kernel)
set_option maxRecDepth 100000 in
theorem tw_786 : Cond.instanceMethod yX8_changed ∈ gtb := gmem (List.mem_of_getElem? (i := 786) (by decide +kernel)) (by decide +kernel)
set_option maxRecDepth 100000 in
theorem tw_787 : Cond.selects RX8 yX8_changed yX8_changed ∈ gtb := gmem (List.mem_of_getElem? (i := 787) (by decide +kernel)) (by decide +kernel)
set_option maxRecDepth 100000 in
theorem tw_788 : Cond.code yX8_changed cX8_changed 5 (some .int) ∈ gtb := gmem (List.mem_of_getElem? (i := 788) (by decide +kernel)) (by decide +kernel)
set_option maxRecDepth 100000 in
theorem tw_1219 : Cond.methodLink RL 100 yX9_changed ∈ gtb := gmem (List.mem_of_getElem? (i := 1219) (by decide +kernel)) (by decide +kernel)
set_option maxRecDepth 100000 in
theorem tw_1220 : Cond.instanceMethod yX9_changed ∈ gtb := gmem (List.mem_of_getElem? (i := 1220) (by decide +kernel)) (by decide +kernel)
set_option maxRecDepth 100000 in
theorem tw_1221 : Cond.selects RX9 yX9_changed yX9_changed ∈ gtb := gmem (List.mem_of_getElem? (i := 1221) (by decide +kernel)) (by decide +kernel)
set_option maxRecDepth 100000 in
theorem tw_1222 : Cond.code yX9_changed cX9_changed 7 (some .int) ∈ gtb := gmem (List.mem_of_getElem? (i := 1222) (by decide +kernel)) (by decide +kernel)
set_option maxRecDepth 100000 in
theorem tw_801 : Cond.methodLink RL 101 yX8_leader ∈ gtb := gmem (List.mem_of_getElem? (i := 801) (by decide +kernel)) (by decide +kernel)
set_option maxRecDepth 100000 in
theorem tw_802 : Cond.instanceMethod yX8_leader ∈ gtb := gmem (List.mem_of_getElem? (i := 802) (by decide +kernel)) (by decide +kernel)
set_option maxRecDepth 100000 in
theorem tw_803 : Cond.selects RX8 yX8_leader yX8_leader ∈ gtb := gmem (List.mem_of_getElem? (i := 803) (by decide +kernel)) (by decide +kernel)
set_option maxRecDepth 100000 in
theorem tw_804 : Cond.code yX8_leader cX8_leader 6 (some .int) ∈ gtb := gmem (List.mem_of_getElem? (i := 804) (by decide +kernel)) (by decide +kernel)
set_option maxRecDepth 100000 in
theorem tw_1223 : Cond.methodLink RL 104 yX9_leader ∈ gtb := gmem (List.mem_of_getElem? (i := 1223) (by decide +kernel)) (by decide +kernel)
set_option maxRecDepth 100000 in
theorem tw_1224 : Cond.instanceMethod yX9_leader ∈ gtb := gmem (List.mem_of_getElem? (i := 1224) (by decide +kernel)) (by decide +kernel)
set_option maxRecDepth 100000 in
theorem tw_1225 : Cond.selects RX9 yX9_leader yX9_leader ∈ gtb := gmem (List.mem_of_getElem? (i := 1225) (by decide +kernel)) (by decide +kernel)
set_option maxRecDepth 100000 in
theorem tw_1226 : Cond.code yX9_leader cX9_leader 7 (some .int) ∈ gtb := gmem (List.mem_of_getElem? (i := 1226) (by decide +kernel)) (by decide +kernel)
set_option maxRecDepth 100000 in
theorem tw_814 : Cond.methodLink RL 105 yX8_error ∈ gtb := gmem (List.mem_of_getElem? (i := 814) (by decide +kernel)) (by decide +kernel)
set_option maxRecDepth 100000 in
theorem tw_815 : Cond.instanceMethod yX8_error ∈ gtb := gmem (List.mem_of_getElem? (i := 815) (by decide +kernel)) (by decide +kernel)
set_option maxRecDepth 100000 in
theorem tw_816 : Cond.selects RX8 yX8_error yX8_error ∈ gtb := gmem (List.mem_of_getElem? (i := 816) (by decide +kernel)) (by decide +kernel)
set_option maxRecDepth 100000 in
theorem tw_817 : Cond.code yX8_error cX8_error 5 (some .int) ∈ gtb := gmem (List.mem_of_getElem? (i := 817) (by decide +kernel)) (by decide +kernel)
set_option maxRecDepth 100000 in
theorem tw_1227 : Cond.methodLink RL 108 yX9_error ∈ gtb := gmem (List.mem_of_getElem? (i := 1227) (by decide +kernel)) (by decide +kernel)
set_option maxRecDepth 100000 in
theorem tw_1228 : Cond.instanceMethod yX9_error ∈ gtb := gmem (List.mem_of_getElem? (i := 1228) (by decide +kernel)) (by decide +kernel)
set_option maxRecDepth 100000 in
theorem tw_1229 : Cond.selects RX9 yX9_error yX9_error ∈ gtb := gmem (List.mem_of_getElem? (i := 1229) (by decide +kernel)) (by decide +kernel)
set_option maxRecDepth 100000 in
theorem tw_1230 : Cond.code yX9_error cX9_error 9 (some .int) ∈ gtb := gmem (List.mem_of_getElem? (i := 1230) (by decide +kernel)) (by decide +kernel)
set_option maxRecDepth 100000 in
theorem tw_825 : Cond.methodLink RL 109 yX8_byLength ∈ gtb := gmem (List.mem_of_getElem? (i := 825) (by decide +kernel)) (by decide +kernel)
set_option maxRecDepth 100000 in
theorem tw_826 : Cond.instanceMethod yX8_byLength ∈ gtb := gmem (List.mem_of_getElem? (i := 826) (by decide +kernel)) (by decide +kernel)
set_option maxRecDepth 100000 in
theorem tw_827 : Cond.selects RX8 yX8_byLength yX8_byLength ∈ gtb := gmem (List.mem_of_getElem? (i := 827) (by decide +kernel)) (by decide +kernel)
set_option maxRecDepth 100000 in
theorem tw_828 : Cond.code yX8_byLength cX8_byLength 2 (some .int) ∈ gtb := gmem (List.mem_of_getElem? (i := 828) (by decide +kernel)) (by decide +kernel)
set_option maxRecDepth 100000 in
theorem tw_1234 : Cond.methodLink RL 112 yX9_byLength ∈ gtb := gmem (List.mem_of_getElem? (i := 1234) (by decide +kernel)) (by decide +kernel)
set_option maxRecDepth 100000 in
theorem tw_1235 : Cond.instanceMethod yX9_byLength ∈ gtb := gmem (List.mem_of_getElem? (i := 1235) (by decide +kernel)) (by decide +kernel)
set_option maxRecDepth 100000 in
theorem tw_1236 : Cond.selects RX9 yX9_byLength yX9_byLength ∈ gtb := gmem (List.mem_of_getElem? (i := 1236) (by decide +kernel)) (by decide +kernel)
set_option maxRecDepth 100000 in
theorem tw_1237 : Cond.code yX9_byLength cX9_byLength 4 (some .int) ∈ gtb := gmem (List.mem_of_getElem? (i := 1237) (by decide +kernel)) (by decide +kernel)
set_option maxRecDepth 100000 in
theorem tw_836 : Cond.methodLink RL 113 yX8_drawn ∈ gtb := gmem (List.mem_of_getElem? (i := 836) (by decide +kernel)) (by decide +kernel)
set_option maxRecDepth 100000 in
theorem tw_837 : Cond.instanceMethod yX8_drawn ∈ gtb := gmem (List.mem_of_getElem? (i := 837) (by decide +kernel)) (by decide +kernel)
set_option maxRecDepth 100000 in
theorem tw_838 : Cond.selects RX8 yX8_drawn yX8_drawn ∈ gtb := gmem (List.mem_of_getElem? (i := 838) (by decide +kernel)) (by decide +kernel)
set_option maxRecDepth 100000 in
theorem tw_839 : Cond.code yX8_drawn cX8_drawn 3 (some .int) ∈ gtb := gmem (List.mem_of_getElem? (i := 839) (by decide +kernel)) (by decide +kernel)
set_option maxRecDepth 100000 in
theorem tw_1238 : Cond.methodLink RL 116 yX9_drawn ∈ gtb := gmem (List.mem_of_getElem? (i := 1238) (by decide +kernel)) (by decide +kernel)
set_option maxRecDepth 100000 in
theorem tw_1239 : Cond.instanceMethod yX9_drawn ∈ gtb := gmem (List.mem_of_getElem? (i := 1239) (by decide +kernel)) (by decide +kernel)
set_option maxRecDepth 100000 in
theorem tw_1240 : Cond.selects RX9 yX9_drawn yX9_drawn ∈ gtb := gmem (List.mem_of_getElem? (i := 1240) (by decide +kernel)) (by decide +kernel)
set_option maxRecDepth 100000 in
theorem tw_1241 : Cond.code yX9_drawn cX9_drawn 3 (some .int) ∈ gtb := gmem (List.mem_of_getElem? (i := 1241) (by decide +kernel)) (by decide +kernel)
set_option maxRecDepth 100000 in
theorem tw_843 : Cond.methodLink RL 117 yX8_seedFor ∈ gtb := gmem (List.mem_of_getElem? (i := 843) (by decide +kernel)) (by decide +kernel)
set_option maxRecDepth 100000 in
theorem tw_844 : Cond.instanceMethod yX8_seedFor ∈ gtb := gmem (List.mem_of_getElem? (i := 844) (by decide +kernel)) (by decide +kernel)
set_option maxRecDepth 100000 in
theorem tw_845 : Cond.selects RX8 yX8_seedFor yX8_seedFor ∈ gtb := gmem (List.mem_of_getElem? (i := 845) (by decide +kernel)) (by decide +kernel)
set_option maxRecDepth 100000 in
theorem tw_846 : Cond.code yX8_seedFor cX8_seedFor 5 (some .int) ∈ gtb := gmem (List.mem_of_getElem? (i := 846) (by decide +kernel)) (by decide +kernel)
set_option maxRecDepth 100000 in
theorem tw_1242 : Cond.methodLink RL 120 yX9_seedFor ∈ gtb := gmem (List.mem_of_getElem? (i := 1242) (by decide +kernel)) (by decide +kernel)
set_option maxRecDepth 100000 in
theorem tw_1243 : Cond.instanceMethod yX9_seedFor ∈ gtb := gmem (List.mem_of_getElem? (i := 1243) (by decide +kernel)) (by decide +kernel)
set_option maxRecDepth 100000 in
theorem tw_1244 : Cond.selects RX9 yX9_seedFor yX9_seedFor ∈ gtb := gmem (List.mem_of_getElem? (i := 1244) (by decide +kernel)) (by decide +kernel)
set_option maxRecDepth 100000 in
theorem tw_1245 : Cond.code yX9_seedFor cX9_seedFor 4 (some .int) ∈ gtb := gmem (List.mem_of_getElem? (i := 1245) (by decide +kernel)) (by decide +kernel)
set_option maxRecDepth 100000 in
theorem tw_630 : Cond.fieldLink RJ0 38 "java/lang/String" "COMPACT_STRINGS" "Z" ∈ gtb := gmem (List.mem_of_getElem? (i := 630) (by decide +kernel)) (by decide +kernel)
set_option maxRecDepth 100000 in
theorem tw_1248 : Cond.fieldLink RJ0 15 "java/lang/String" "coder" "B" ∈ gtb := gmem (List.mem_of_getElem? (i := 1248) (by decide +kernel)) (by decide +kernel)
set_option maxRecDepth 100000 in
theorem tw_1247 : Cond.fieldLink RJ0 9 "java/lang/String" "value" "[B" ∈ gtb := gmem (List.mem_of_getElem? (i := 1247) (by decide +kernel)) (by decide +kernel)
set_option maxRecDepth 100000 in
theorem tw_646 : Cond.fieldLink RJ0 1053 "jdk/internal/util/Preconditions" "SIOOBE_FORMATTER" "Ljava/util/function/BiFunction;" ∈ gtb := gmem (List.mem_of_getElem? (i := 646) (by decide +kernel)) (by decide +kernel)
set_option maxRecDepth 100000 in
theorem tw_626 : Cond.methodLink RJ0 335 yJ0_coder_7d493 ∈ gtb := gmem (List.mem_of_getElem? (i := 626) (by decide +kernel)) (by decide +kernel)
set_option maxRecDepth 100000 in
theorem tw_627 : Cond.instanceMethod yJ0_coder_7d493 ∈ gtb := gmem (List.mem_of_getElem? (i := 627) (by decide +kernel)) (by decide +kernel)
set_option maxRecDepth 100000 in
theorem tw_628 : Cond.selects RJ0 yJ0_coder_7d493 yJ0_coder_7d493 ∈ gtb := gmem (List.mem_of_getElem? (i := 628) (by decide +kernel)) (by decide +kernel)
set_option maxRecDepth 100000 in
theorem tw_69 : Cond.initialized RJ0 ∈ gtb := gmem (List.mem_of_getElem? (i := 69) (by decide +kernel)) (by decide +kernel)
set_option maxRecDepth 100000 in
theorem tw_629 : Cond.code yJ0_coder_7d493 cJ0_coder_7d493 1 (some .byte) ∈ gtb := gmem (List.mem_of_getElem? (i := 629) (by decide +kernel)) (by decide +kernel)
set_option maxRecDepth 100000 in
theorem tw_636 : Cond.methodLink RJ0 492 yJ0_isLatin1_aae02 ∈ gtb := gmem (List.mem_of_getElem? (i := 636) (by decide +kernel)) (by decide +kernel)
set_option maxRecDepth 100000 in
theorem tw_637 : Cond.instanceMethod yJ0_isLatin1_aae02 ∈ gtb := gmem (List.mem_of_getElem? (i := 637) (by decide +kernel)) (by decide +kernel)
set_option maxRecDepth 100000 in
theorem tw_638 : Cond.selects RJ0 yJ0_isLatin1_aae02 yJ0_isLatin1_aae02 ∈ gtb := gmem (List.mem_of_getElem? (i := 638) (by decide +kernel)) (by decide +kernel)
set_option maxRecDepth 100000 in
theorem tw_639 : Cond.code yJ0_isLatin1_aae02 cJ0_isLatin1_aae02 1 (some .boolean) ∈ gtb := gmem (List.mem_of_getElem? (i := 639) (by decide +kernel)) (by decide +kernel)
set_option maxRecDepth 100000 in
theorem tw_622 : Cond.methodLink RX7 32 yJ0_length_8abf5 ∈ gtb := gmem (List.mem_of_getElem? (i := 622) (by decide +kernel)) (by decide +kernel)
set_option maxRecDepth 100000 in
theorem tw_623 : Cond.instanceMethod yJ0_length_8abf5 ∈ gtb := gmem (List.mem_of_getElem? (i := 623) (by decide +kernel)) (by decide +kernel)
set_option maxRecDepth 100000 in
theorem tw_624 : Cond.selects RJ0 yJ0_length_8abf5 yJ0_length_8abf5 ∈ gtb := gmem (List.mem_of_getElem? (i := 624) (by decide +kernel)) (by decide +kernel)
set_option maxRecDepth 100000 in
theorem tw_625 : Cond.code yJ0_length_8abf5 cJ0_length_8abf5 1 (some .int) ∈ gtb := gmem (List.mem_of_getElem? (i := 625) (by decide +kernel)) (by decide +kernel)
set_option maxRecDepth 100000 in
theorem tw_632 : Cond.methodLink RX7 37 yJ0_charAt_5068e ∈ gtb := gmem (List.mem_of_getElem? (i := 632) (by decide +kernel)) (by decide +kernel)
set_option maxRecDepth 100000 in
theorem tw_633 : Cond.instanceMethod yJ0_charAt_5068e ∈ gtb := gmem (List.mem_of_getElem? (i := 633) (by decide +kernel)) (by decide +kernel)
set_option maxRecDepth 100000 in
theorem tw_634 : Cond.selects RJ0 yJ0_charAt_5068e yJ0_charAt_5068e ∈ gtb := gmem (List.mem_of_getElem? (i := 634) (by decide +kernel)) (by decide +kernel)
set_option maxRecDepth 100000 in
theorem tw_635 : Cond.code yJ0_charAt_5068e cJ0_charAt_5068e 2 (some .char) ∈ gtb := gmem (List.mem_of_getElem? (i := 635) (by decide +kernel)) (by decide +kernel)
set_option maxRecDepth 100000 in
theorem tw_648 : Cond.methodLink RJ0 1059 yJ3_checkIndex_8e157 ∈ gtb := gmem (List.mem_of_getElem? (i := 648) (by decide +kernel)) (by decide +kernel)
set_option maxRecDepth 100000 in
theorem tw_649 : Cond.static yJ3_checkIndex_8e157 ∈ gtb := gmem (List.mem_of_getElem? (i := 649) (by decide +kernel)) (by decide +kernel)
set_option maxRecDepth 100000 in
theorem tw_71 : Cond.initialized RJ3 ∈ gtb := gmem (List.mem_of_getElem? (i := 71) (by decide +kernel)) (by decide +kernel)
set_option maxRecDepth 100000 in
theorem tw_650 : Cond.code yJ3_checkIndex_8e157 cJ3_checkIndex_8e157 3 (some .int) ∈ gtb := gmem (List.mem_of_getElem? (i := 650) (by decide +kernel)) (by decide +kernel)
set_option maxRecDepth 100000 in
theorem tw_643 : Cond.methodLink RJ1 9 yJ0_checkIndex_df160 ∈ gtb := gmem (List.mem_of_getElem? (i := 643) (by decide +kernel)) (by decide +kernel)
set_option maxRecDepth 100000 in
theorem tw_644 : Cond.static yJ0_checkIndex_df160 ∈ gtb := gmem (List.mem_of_getElem? (i := 644) (by decide +kernel)) (by decide +kernel)
set_option maxRecDepth 100000 in
theorem tw_645 : Cond.code yJ0_checkIndex_df160 cJ0_checkIndex_df160 2 none ∈ gtb := gmem (List.mem_of_getElem? (i := 645) (by decide +kernel)) (by decide +kernel)
set_option maxRecDepth 100000 in
theorem tw_640 : Cond.methodLink RJ0 495 yJ1_charAt_3b067 ∈ gtb := gmem (List.mem_of_getElem? (i := 640) (by decide +kernel)) (by decide +kernel)
set_option maxRecDepth 100000 in
theorem tw_641 : Cond.static yJ1_charAt_3b067 ∈ gtb := gmem (List.mem_of_getElem? (i := 641) (by decide +kernel)) (by decide +kernel)
set_option maxRecDepth 100000 in
theorem tw_70 : Cond.initialized RJ1 ∈ gtb := gmem (List.mem_of_getElem? (i := 70) (by decide +kernel)) (by decide +kernel)
set_option maxRecDepth 100000 in
theorem tw_642 : Cond.code yJ1_charAt_3b067 cJ1_charAt_3b067 2 (some .char) ∈ gtb := gmem (List.mem_of_getElem? (i := 642) (by decide +kernel)) (by decide +kernel)
set_option maxRecDepth 100000 in
theorem tw_74 : Cond.instantiable RX8 6 ∈ gtb := gmem (List.mem_of_getElem? (i := 74) (by decide +kernel)) (by decide +kernel)
set_option maxRecDepth 100000 in
theorem tw_849 : Cond.instantiable RX9 17 ∈ gtb := gmem (List.mem_of_getElem? (i := 849) (by decide +kernel)) (by decide +kernel)
set_option maxRecDepth 100000 in
theorem tw_73 : Cond.classLink RL 7 RX8 ∈ gtb := gmem (List.mem_of_getElem? (i := 73) (by decide +kernel)) (by decide +kernel)
set_option maxRecDepth 100000 in
theorem tw_77 : Cond.code yX8_init cX8_init 1 none ∈ gtb := gmem (List.mem_of_getElem? (i := 77) (by decide +kernel)) (by decide +kernel)
set_option maxRecDepth 100000 in
theorem tw_75 : Cond.methodLink RL 9 yX8_init ∈ gtb := gmem (List.mem_of_getElem? (i := 75) (by decide +kernel)) (by decide +kernel)
set_option maxRecDepth 100000 in
theorem tw_76 : Cond.instanceMethod yX8_init ∈ gtb := gmem (List.mem_of_getElem? (i := 76) (by decide +kernel)) (by decide +kernel)
set_option maxRecDepth 100000 in
theorem tw_848 : Cond.classLink RL 10 RX9 ∈ gtb := gmem (List.mem_of_getElem? (i := 848) (by decide +kernel)) (by decide +kernel)
set_option maxRecDepth 100000 in
theorem tw_852 : Cond.code yX9_init cX9_init 1 none ∈ gtb := gmem (List.mem_of_getElem? (i := 852) (by decide +kernel)) (by decide +kernel)
set_option maxRecDepth 100000 in
theorem tw_850 : Cond.methodLink RL 12 yX9_init ∈ gtb := gmem (List.mem_of_getElem? (i := 850) (by decide +kernel)) (by decide +kernel)
set_option maxRecDepth 100000 in
theorem tw_851 : Cond.instanceMethod yX9_init ∈ gtb := gmem (List.mem_of_getElem? (i := 851) (by decide +kernel)) (by decide +kernel)
set_option maxRecDepth 100000 in
theorem tw_80 : Cond.code objectInit ⟨#[0xb1]⟩ 1 none ∈ gtb := gmem (List.mem_of_getElem? (i := 80) (by decide +kernel)) (by decide +kernel)
set_option maxRecDepth 100000 in
theorem tw_452 : Cond.code Lib.Math.max.name Lib.Math.max.code 2 (some .int) ∈ gtb := gmem (List.mem_of_getElem? (i := 452) (by decide +kernel)) (by decide +kernel)
set_option maxRecDepth 100000 in
theorem tw_455 : Cond.code Lib.Math.min.name Lib.Math.min.code 2 (some .int) ∈ gtb := gmem (List.mem_of_getElem? (i := 455) (by decide +kernel)) (by decide +kernel)
set_option maxRecDepth 100000 in
theorem tw_824 : Cond.code Lib.Math.abs.name Lib.Math.abs.code 1 (some .int) ∈ gtb := gmem (List.mem_of_getElem? (i := 824) (by decide +kernel)) (by decide +kernel)
set_option maxRecDepth 100000 in
theorem ku_0 : ∀ w ∈ u_ws RX0 TX0 11, w ∈ gtb := fun w h => gmem ((show ∀ w ∈ u_ws RX0 TX0 11, w ∈ lw_tbl by decide +kernel) w h) ((show ∀ w ∈ u_ws RX0 TX0 11, goodWord w = true by decide +kernel) w h)
set_option maxRecDepth 100000 in
theorem ku_1 : ∀ w ∈ u_ws RX1 TX1 2, w ∈ gtb := fun w h => gmem ((show ∀ w ∈ u_ws RX1 TX1 2, w ∈ lw_tbl by decide +kernel) w h) ((show ∀ w ∈ u_ws RX1 TX1 2, goodWord w = true by decide +kernel) w h)
set_option maxRecDepth 100000 in
theorem ku_2 : ∀ w ∈ u_ws RX2 TX2 2, w ∈ gtb := fun w h => gmem ((show ∀ w ∈ u_ws RX2 TX2 2, w ∈ lw_tbl by decide +kernel) w h) ((show ∀ w ∈ u_ws RX2 TX2 2, goodWord w = true by decide +kernel) w h)
set_option maxRecDepth 100000 in
theorem ku_3 : ∀ w ∈ u_ws RX3 TX3 7, w ∈ gtb := fun w h => gmem ((show ∀ w ∈ u_ws RX3 TX3 7, w ∈ lw_tbl by decide +kernel) w h) ((show ∀ w ∈ u_ws RX3 TX3 7, goodWord w = true by decide +kernel) w h)
set_option maxRecDepth 100000 in
theorem ku_4 : ∀ w ∈ u_ws RX4 TX4 15, w ∈ gtb := fun w h => gmem ((show ∀ w ∈ u_ws RX4 TX4 15, w ∈ lw_tbl by decide +kernel) w h) ((show ∀ w ∈ u_ws RX4 TX4 15, goodWord w = true by decide +kernel) w h)
set_option maxRecDepth 100000 in
theorem ku_5 : ∀ w ∈ u_ws RX5 TX5 2, w ∈ gtb := fun w h => gmem ((show ∀ w ∈ u_ws RX5 TX5 2, w ∈ lw_tbl by decide +kernel) w h) ((show ∀ w ∈ u_ws RX5 TX5 2, goodWord w = true by decide +kernel) w h)
set_option maxRecDepth 100000 in
theorem ku_6 : ∀ w ∈ u_ws RX6 TX6 2, w ∈ gtb := fun w h => gmem ((show ∀ w ∈ u_ws RX6 TX6 2, w ∈ lw_tbl by decide +kernel) w h) ((show ∀ w ∈ u_ws RX6 TX6 2, goodWord w = true by decide +kernel) w h)
set_option maxRecDepth 100000 in
theorem ku_7 : ∀ w ∈ u_ws RX7 TX7 5, w ∈ gtb := fun w h => gmem ((show ∀ w ∈ u_ws RX7 TX7 5, w ∈ lw_tbl by decide +kernel) w h) ((show ∀ w ∈ u_ws RX7 TX7 5, goodWord w = true by decide +kernel) w h)
set_option maxRecDepth 100000 in
theorem ku_8 : ∀ w ∈ u_ws RX8 TX8 6, w ∈ gtb := fun w h => gmem ((show ∀ w ∈ u_ws RX8 TX8 6, w ∈ lw_tbl by decide +kernel) w h) ((show ∀ w ∈ u_ws RX8 TX8 6, goodWord w = true by decide +kernel) w h)
set_option maxRecDepth 100000 in
theorem ku_9 : ∀ w ∈ u_ws RX9 TX9 17, w ∈ gtb := fun w h => gmem ((show ∀ w ∈ u_ws RX9 TX9 17, w ∈ lw_tbl by decide +kernel) w h) ((show ∀ w ∈ u_ws RX9 TX9 17, goodWord w = true by decide +kernel) w h)
