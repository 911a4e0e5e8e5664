theorem Y_Hi_present : Yw yHi_present cHi_present 1 (some (.object "TermBench$Program")) 0 := ⟨t_181, t_2, by decide +kernel, by decide⟩
theorem V_Hi_present : YV yHi_present := ⟨t_179, t_180⟩
theorem Y_Pr_isOnHole : Yw yPr_isOnHole cPr_isOnHole 1 (some .boolean) 0 := ⟨t_185, t_3, by decide +kernel, by decide⟩
theorem V_Pr_isOnHole : YV yPr_isOnHole := ⟨t_183, t_184⟩
theorem Y_Pr_copy : Yw yPr_copy cPr_copy 2 none 1 := ⟨t_197, t_3, by decide +kernel, by decide⟩
theorem V_Pr_copy : YV yPr_copy := ⟨t_195, t_196⟩
theorem Y_Hi_keep : Yw yHi_keep cHi_keep 2 (some (.object "TermBench$Program")) 0 := ⟨t_189, t_2, by decide +kernel, by decide⟩
theorem V_Hi_keep : YV yHi_keep := ⟨t_187, t_188⟩
theorem Y_Pr_write : Yw yPr_write cPr_write 6 none 4 := ⟨t_208, t_3, by decide +kernel, by decide⟩
theorem V_Pr_write : YV yPr_write := ⟨t_207, q_sel (i := 1) rfl (by decide +kernel)⟩
theorem Y_Pr_fill : Yw yPr_fill cPr_fill 3 none 2 := ⟨t_204, t_3, by decide +kernel, by decide⟩
theorem V_Pr_fill : YV yPr_fill := ⟨t_202, t_203⟩
theorem Y_Be_fillHole : Yw yBe_fillHole cBe_fillHole 3 (some .boolean) 2 := ⟨t_177, t_1, by decide +kernel, by decide⟩
theorem V_Be_fillHole : YV yBe_fillHole := ⟨t_176, q_sel (i := 0) rfl (by decide +kernel)⟩
theorem Y_Be_number : Yw yBe_number cBe_number 2 (some .boolean) 1 := ⟨t_173, t_1, by decide +kernel, by decide⟩
theorem V_Be_number : YV yBe_number := ⟨t_171, t_172⟩
theorem Y_Be_isName : Yw yBe_isName cBe_isName 1 (some .boolean) 1 := ⟨t_215, t_1, by decide +kernel, by decide⟩
theorem S_Be_isName : Cond.static yBe_isName ∈ qw := t_214
theorem Y_Be_name : Yw yBe_name cBe_name 2 (some .boolean) 1 := ⟨t_212, t_1, by decide +kernel, by decide⟩
theorem V_Be_name : YV yBe_name := ⟨t_210, t_211⟩
theorem Y_Pr_end : Yw yPr_end cPr_end 3 (some .int) 1 := ⟨t_231, t_3, by decide +kernel, by decide⟩
theorem V_Pr_end : YV yPr_end := ⟨t_229, t_230⟩
theorem Y_Pr_hasRoomAround : Yw yPr_hasRoomAround cPr_hasRoomAround 5 (some .boolean) 1 := ⟨t_227, t_3, by decide +kernel, by decide⟩
theorem V_Pr_hasRoomAround : YV yPr_hasRoomAround := ⟨t_225, t_226⟩
theorem Y_Pr_shiftLevels : Yw yPr_shiftLevels cPr_shiftLevels 5 none 3 := ⟨t_246, t_3, by decide +kernel, by decide⟩
theorem V_Pr_shiftLevels : YV yPr_shiftLevels := ⟨t_245, q_sel (i := 3) rfl (by decide +kernel)⟩
theorem Y_Pr_moveTail : Yw yPr_moveTail cPr_moveTail 4 none 2 := ⟨t_250, t_3, by decide +kernel, by decide⟩
theorem V_Pr_moveTail : YV yPr_moveTail := ⟨t_249, q_sel (i := 4) rfl (by decide +kernel)⟩
theorem Y_Pr_wrap : Yw yPr_wrap cPr_wrap 6 none 3 := ⟨t_242, t_3, by decide +kernel, by decide⟩
theorem V_Pr_wrap : YV yPr_wrap := ⟨t_240, t_241⟩
theorem Y_Pr_join : Yw yPr_join cPr_join 5 none 2 := ⟨t_238, t_3, by decide +kernel, by decide⟩
theorem V_Pr_join : YV yPr_join := ⟨t_236, t_237⟩
theorem Y_Be_joinHole : Yw yBe_joinHole cBe_joinHole 3 (some .boolean) 2 := ⟨t_223, t_1, by decide +kernel, by decide⟩
theorem V_Be_joinHole : YV yBe_joinHole := ⟨t_222, q_sel (i := 2) rfl (by decide +kernel)⟩
theorem Y_Be_sum : Yw yBe_sum cBe_sum 2 (some .boolean) 1 := ⟨t_219, t_1, by decide +kernel, by decide⟩
theorem V_Be_sum : YV yBe_sum := ⟨t_217, t_218⟩
theorem Y_Be_call : Yw yBe_call cBe_call 2 (some .boolean) 1 := ⟨t_254, t_1, by decide +kernel, by decide⟩
theorem V_Be_call : YV yBe_call := ⟨t_252, t_253⟩
theorem Y_Ty_symbols : Yw yTy_symbols cTy_symbols 5 (some .int) 1 := ⟨t_268, t_10, by decide +kernel, by decide⟩
theorem S_Ty_symbols : Cond.static yTy_symbols ∈ qw := t_267
theorem Y_Ty_isType : Yw yTy_isType cTy_isType 3 (some .boolean) 1 := ⟨t_265, t_10, by decide +kernel, by decide⟩
theorem S_Ty_isType : Cond.static yTy_isType ∈ qw := t_264
theorem Y_Be_wrapTyped : Yw yBe_wrapTyped cBe_wrapTyped 5 (some .boolean) 3 := ⟨t_262, t_1, by decide +kernel, by decide⟩
theorem V_Be_wrapTyped : YV yBe_wrapTyped := ⟨t_261, q_sel (i := 5) rfl (by decide +kernel)⟩
theorem Y_Be_function : Yw yBe_function cBe_function 4 (some .boolean) 2 := ⟨t_258, t_1, by decide +kernel, by decide⟩
theorem V_Be_function : YV yBe_function := ⟨t_256, t_257⟩
theorem Y_Be_claim : Yw yBe_claim cBe_claim 3 (some .boolean) 1 := ⟨t_273, t_1, by decide +kernel, by decide⟩
theorem V_Be_claim : YV yBe_claim := ⟨t_271, t_272⟩
theorem Y_Pr_empty : Yw yPr_empty cPr_empty 1 none 0 := ⟨t_281, t_3, by decide +kernel, by decide⟩
theorem V_Pr_empty : YV yPr_empty := ⟨t_279, t_280⟩
theorem Y_Be_remove : Yw yBe_remove cBe_remove 1 (some .boolean) 0 := ⟨t_277, t_1, by decide +kernel, by decide⟩
theorem V_Be_remove : YV yBe_remove := ⟨t_275, t_276⟩
theorem Y_Pr_parent : Yw yPr_parent cPr_parent 3 (some .int) 1 := ⟨t_293, t_3, by decide +kernel, by decide⟩
theorem V_Pr_parent : YV yPr_parent := ⟨t_291, t_292⟩
theorem Y_Pr_raise : Yw yPr_raise cPr_raise 3 none 0 := ⟨t_289, t_3, by decide +kernel, by decide⟩
theorem V_Pr_raise : YV yPr_raise := ⟨t_287, t_288⟩
theorem Y_Be_lift : Yw yBe_lift cBe_lift 1 (some .boolean) 0 := ⟨t_285, t_1, by decide +kernel, by decide⟩
theorem V_Be_lift : YV yBe_lift := ⟨t_283, t_284⟩
theorem Y_Hi_stepBack : Yw yHi_stepBack cHi_stepBack 1 (some .boolean) 0 := ⟨t_301, t_2, by decide +kernel, by decide⟩
theorem V_Hi_stepBack : YV yHi_stepBack := ⟨t_299, t_300⟩
theorem Y_Be_undo : Yw yBe_undo cBe_undo 1 (some .boolean) 0 := ⟨t_297, t_1, by decide +kernel, by decide⟩
theorem V_Be_undo : YV yBe_undo := ⟨t_295, t_296⟩
theorem Y_Hi_stepForth : Yw yHi_stepForth cHi_stepForth 1 (some .boolean) 0 := ⟨t_309, t_2, by decide +kernel, by decide⟩
theorem V_Hi_stepForth : YV yHi_stepForth := ⟨t_307, t_308⟩
theorem Y_Be_redo : Yw yBe_redo cBe_redo 1 (some .boolean) 0 := ⟨t_305, t_1, by decide +kernel, by decide⟩
theorem V_Be_redo : YV yBe_redo := ⟨t_303, t_304⟩
theorem Y_Be_moveTo : Yw yBe_moveTo cBe_moveTo 2 (some .boolean) 1 := ⟨t_318, t_1, by decide +kernel, by decide⟩
theorem V_Be_moveTo : YV yBe_moveTo := ⟨t_317, q_sel (i := 6) rfl (by decide +kernel)⟩
theorem Y_Be_up : Yw yBe_up cBe_up 2 (some .boolean) 0 := ⟨t_313, t_1, by decide +kernel, by decide⟩
theorem V_Be_up : YV yBe_up := ⟨t_311, t_312⟩
theorem Y_Pr_part : Yw yPr_part cPr_part 5 (some .int) 2 := ⟨t_326, t_3, by decide +kernel, by decide⟩
theorem V_Pr_part : YV yPr_part := ⟨t_324, t_325⟩
theorem Y_Be_down : Yw yBe_down cBe_down 3 (some .boolean) 1 := ⟨t_322, t_1, by decide +kernel, by decide⟩
theorem V_Be_down : YV yBe_down := ⟨t_320, t_321⟩
theorem Y_Ar_fill : Yw yAr_fill cAr_fill 5 none 2 := ⟨t_341, t_11, by decide +kernel, by decide⟩
theorem S_Ar_fill : Cond.static yAr_fill ∈ qw := t_340
theorem Y_Pa_clear : Yw yPa_clear cPa_clear 1 none 0 := ⟨t_338, t_5, by decide +kernel, by decide⟩
theorem V_Pa_clear : YV yPa_clear := ⟨t_336, t_337⟩
theorem Y_Pa_writeSign : Yw yPa_writeSign cPa_writeSign 2 none 1 := ⟨t_356, t_5, by decide +kernel, by decide⟩
theorem V_Pa_writeSign : YV yPa_writeSign := ⟨t_355, q_sel (i := 9) rfl (by decide +kernel)⟩
theorem Y_Pa_writeName : Yw yPa_writeName cPa_writeName 2 none 1 := ⟨t_360, t_5, by decide +kernel, by decide⟩
theorem V_Pa_writeName : YV yPa_writeName := ⟨t_359, q_sel (i := 10) rfl (by decide +kernel)⟩
theorem Y_Ty_isFrom : Yw yTy_isFrom cTy_isFrom 2 (some .boolean) 1 := ⟨t_373, t_10, by decide +kernel, by decide⟩
theorem S_Ty_isFrom : Cond.static yTy_isFrom ∈ qw := t_372
theorem Y_Ty_taken : Yw yTy_taken cTy_taken 4 (some .long) 1 := ⟨t_378, t_10, by decide +kernel, by decide⟩
theorem S_Ty_taken : Cond.static yTy_taken ∈ qw := t_377
theorem Y_Ty_given : Yw yTy_given cTy_given 4 (some .long) 1 := ⟨t_381, t_10, by decide +kernel, by decide⟩
theorem S_Ty_given : Cond.static yTy_given ∈ qw := t_380
theorem Y_Pa_writeType : Yw yPa_writeType cPa_writeType 4 none 2 := ⟨t_370, t_5, by decide +kernel, by decide⟩
theorem V_Pa_writeType : YV yPa_writeType := ⟨t_369, q_sel (i := 12) rfl (by decide +kernel)⟩
theorem Y_Pa_writeNumber : Yw yPa_writeNumber cPa_writeNumber 3 none 1 := ⟨t_349, t_5, by decide +kernel, by decide⟩
theorem V_Pa_writeNumber : YV yPa_writeNumber := ⟨t_348, q_sel (i := 8) rfl (by decide +kernel)⟩
theorem Y_Pa_writeWithParts : Yw yPa_writeWithParts cPa_writeWithParts 6 none 3 := ⟨t_364, t_5, by decide +kernel, by decide⟩
theorem V_Pa_writeWithParts : YV yPa_writeWithParts := ⟨t_363, q_sel (i := 11) rfl (by decide +kernel)⟩
theorem Y_Pa_writeTerm : Yw yPa_writeTerm cPa_writeTerm 4 none 3 := ⟨t_345, t_5, by decide +kernel, by decide⟩
theorem V_Pa_writeTerm : YV yPa_writeTerm := ⟨t_343, t_344⟩
theorem Y_Be_written : Yw yBe_written cBe_written 1 (some (.object "TermBench$Page")) 0 := ⟨t_334, t_1, by decide +kernel, by decide⟩
theorem V_Be_written : YV yBe_written := ⟨t_333, q_sel (i := 7) rfl (by decide +kernel)⟩
theorem Y_Pa_nextHole : Yw yPa_nextHole cPa_nextHole 4 (some .int) 1 := ⟨t_385, t_5, by decide +kernel, by decide⟩
theorem V_Pa_nextHole : YV yPa_nextHole := ⟨t_383, t_384⟩
theorem Y_Be_hole : Yw yBe_hole cBe_hole 1 (some .boolean) 0 := ⟨t_330, t_1, by decide +kernel, by decide⟩
theorem V_Be_hole : YV yBe_hole := ⟨t_328, t_329⟩
theorem Y_Pa_innermost : Yw yPa_innermost cPa_innermost 5 (some .int) 2 := ⟨t_393, t_5, by decide +kernel, by decide⟩
theorem V_Pa_innermost : YV yPa_innermost := ⟨t_391, t_392⟩
theorem Y_Be_click : Yw yBe_click cBe_click 2 (some .boolean) 1 := ⟨t_389, t_1, by decide +kernel, by decide⟩
theorem V_Be_click : YV yBe_click := ⟨t_387, t_388⟩
theorem Y_Be_column : Yw yBe_column cBe_column 1 (some .int) 0 := ⟨t_397, t_1, by decide +kernel, by decide⟩
theorem V_Be_column : YV yBe_column := ⟨t_395, t_396⟩
theorem Y_Be_kind : Yw yBe_kind cBe_kind 2 (some .int) 0 := ⟨t_401, t_1, by decide +kernel, by decide⟩
theorem V_Be_kind : YV yBe_kind := ⟨t_399, t_400⟩
theorem Y_Ty_consistent : Yw yTy_consistent cTy_consistent 5 (some .boolean) 3 := ⟨t_442, t_10, by decide +kernel, by decide⟩
theorem S_Ty_consistent : Cond.static yTy_consistent ∈ qw := t_441
theorem Y_Ty_from : Yw yTy_from cTy_from 5 (some .long) 2 := ⟨t_449, t_10, by decide +kernel, by decide⟩
theorem S_Ty_from : Cond.static yTy_from ∈ qw := t_448
theorem Y_Pr_binder : Yw yPr_binder cPr_binder 4 (some .int) 1 := ⟨t_426, t_3, by decide +kernel, by decide⟩
theorem V_Pr_binder : YV yPr_binder := ⟨t_424, t_425⟩
theorem Y_Tg_typeName : Yw yTg_typeName cTg_typeName 4 (some .long) 2 := ⟨t_422, t_4, by decide +kernel, by decide⟩
theorem V_Tg_typeName : YV yTg_typeName := ⟨t_421, q_sel (i := 15) rfl (by decide +kernel)⟩
theorem Y_Tg_typeCall : Yw yTg_typeCall cTg_typeCall 9 (some .long) 3 := ⟨t_432, t_4, by decide +kernel, by decide⟩
theorem V_Tg_typeCall : YV yTg_typeCall := ⟨t_431, q_sel (i := 16) rfl (by decide +kernel)⟩
theorem Y_Tg_typeFunction : Yw yTg_typeFunction cTg_typeFunction 10 (some .long) 4 := ⟨t_439, t_4, by decide +kernel, by decide⟩
theorem V_Tg_typeFunction : YV yTg_typeFunction := ⟨t_438, q_sel (i := 17) rfl (by decide +kernel)⟩
theorem Y_Tg_typeByKind : Yw yTg_typeByKind cTg_typeByKind 6 (some .long) 4 := ⟨t_417, t_4, by decide +kernel, by decide⟩
theorem V_Tg_typeByKind : YV yTg_typeByKind := ⟨t_416, q_sel (i := 14) rfl (by decide +kernel)⟩
theorem Y_Tg_typeTerm : Yw yTg_typeTerm cTg_typeTerm 8 (some .long) 4 := ⟨t_413, t_4, by decide +kernel, by decide⟩
theorem V_Tg_typeTerm : YV yTg_typeTerm := ⟨t_411, t_412⟩
theorem Y_Be_typed : Yw yBe_typed cBe_typed 1 (some (.object "TermBench$Typing")) 0 := ⟨t_409, t_1, by decide +kernel, by decide⟩
theorem V_Be_typed : YV yBe_typed := ⟨t_408, q_sel (i := 13) rfl (by decide +kernel)⟩
theorem Y_Be_mark : Yw yBe_mark cBe_mark 1 (some .int) 0 := ⟨t_405, t_1, by decide +kernel, by decide⟩
theorem V_Be_mark : YV yBe_mark := ⟨t_403, t_404⟩
theorem Y_Be_got : Yw yBe_got cBe_got 1 (some .long) 0 := ⟨t_453, t_1, by decide +kernel, by decide⟩
theorem V_Be_got : YV yBe_got := ⟨t_451, t_452⟩
theorem Y_Be_expected : Yw yBe_expected cBe_expected 1 (some .long) 0 := ⟨t_457, t_1, by decide +kernel, by decide⟩
theorem V_Be_expected : YV yBe_expected := ⟨t_455, t_456⟩
theorem Y_Tg_countMarks : Yw yTg_countMarks cTg_countMarks 4 (some .int) 1 := ⟨t_465, t_4, by decide +kernel, by decide⟩
theorem V_Tg_countMarks : YV yTg_countMarks := ⟨t_463, t_464⟩
theorem Y_Be_marks : Yw yBe_marks cBe_marks 1 (some .int) 0 := ⟨t_461, t_1, by decide +kernel, by decide⟩
theorem V_Be_marks : YV yBe_marks := ⟨t_459, t_460⟩
theorem Y_Be_terms : Yw yBe_terms cBe_terms 1 (some .int) 0 := ⟨t_469, t_1, by decide +kernel, by decide⟩
theorem V_Be_terms : YV yBe_terms := ⟨t_467, t_468⟩
theorem Y_Pa_eightOf : Yw yPa_eightOf cPa_eightOf 2 (some .long) 1 := ⟨t_477, t_5, by decide +kernel, by decide⟩
theorem V_Pa_eightOf : YV yPa_eightOf := ⟨t_475, t_476⟩
theorem Y_Be_text : Yw yBe_text cBe_text 2 (some .long) 1 := ⟨t_473, t_1, by decide +kernel, by decide⟩
theorem V_Be_text : YV yBe_text := ⟨t_471, t_472⟩
theorem Y_Ma_outcome : Yw yMa_outcome cMa_outcome 2 (some .int) 1 := ⟨t_504, t_6, by decide +kernel, by decide⟩
theorem S_Ma_outcome : Cond.static yMa_outcome ∈ qw := t_503
theorem Y_Ma_value : Yw yMa_value cMa_value 2 (some .long) 2 := ⟨t_492, t_6, by decide +kernel, by decide⟩
theorem S_Ma_value : Cond.static yMa_value ∈ qw := t_491
theorem Y_Ma_content : Yw yMa_content cMa_content 2 (some .int) 1 := ⟨t_507, t_6, by decide +kernel, by decide⟩
theorem S_Ma_content : Cond.static yMa_content ∈ qw := t_506
theorem Y_Ma_bind : Yw yMa_bind cMa_bind 5 (some .int) 3 := ⟨t_515, t_6, by decide +kernel, by decide⟩
theorem V_Ma_bind : YV yMa_bind := ⟨t_514, q_sel (i := 22) rfl (by decide +kernel)⟩
theorem Y_Ma_standsFor : Yw yMa_standsFor cMa_standsFor 5 (some .long) 2 := ⟨t_496, t_6, by decide +kernel, by decide⟩
theorem V_Ma_standsFor : YV yMa_standsFor := ⟨t_495, q_sel (i := 19) rfl (by decide +kernel)⟩
theorem Y_Ma_runSum : Yw yMa_runSum cMa_runSum 10 (some .long) 5 := ⟨t_500, t_6, by decide +kernel, by decide⟩
theorem V_Ma_runSum : YV yMa_runSum := ⟨t_499, q_sel (i := 20) rfl (by decide +kernel)⟩
theorem Y_Ma_runCall : Yw yMa_runCall cMa_runCall 13 (some .long) 5 := ⟨t_511, t_6, by decide +kernel, by decide⟩
theorem V_Ma_runCall : YV yMa_runCall := ⟨t_510, q_sel (i := 21) rfl (by decide +kernel)⟩
theorem Y_Ma_runTerm : Yw yMa_runTerm cMa_runTerm 6 (some .long) 5 := ⟨t_489, t_6, by decide +kernel, by decide⟩
theorem V_Ma_runTerm : YV yMa_runTerm := ⟨t_488, q_sel (i := 18) rfl (by decide +kernel)⟩
theorem Y_Ma_start : Yw yMa_start cMa_start 5 (some .int) 2 := ⟨t_485, t_6, by decide +kernel, by decide⟩
theorem V_Ma_start : YV yMa_start := ⟨t_483, t_484⟩
theorem Y_Be_run : Yw yBe_run cBe_run 1 (some .int) 0 := ⟨t_481, t_1, by decide +kernel, by decide⟩
theorem V_Be_run : YV yBe_run := ⟨t_479, t_480⟩
theorem Y_Be_result : Yw yBe_result cBe_result 1 (some .int) 0 := ⟨t_519, t_1, by decide +kernel, by decide⟩
theorem V_Be_result : YV yBe_result := ⟨t_517, t_518⟩
theorem Y_Be_units : Yw yBe_units cBe_units 1 (some .int) 0 := ⟨t_523, t_1, by decide +kernel, by decide⟩
theorem V_Be_units : YV yBe_units := ⟨t_521, t_522⟩
theorem Y_Mo_symbol : Yw yMo_symbol cMo_symbol 3 (some .int) 2 := ⟨t_736, t_7, by decide +kernel, by decide⟩
theorem S_Mo_symbol : Cond.static yMo_symbol ∈ qw := t_735
theorem Y_Mo_behind : Yw yMo_behind cMo_behind 6 (some .int) 2 := ⟨t_733, t_7, by decide +kernel, by decide⟩
theorem S_Mo_behind : Cond.static yMo_behind ∈ qw := t_732
theorem Y_Mo_isType : Yw yMo_isType cMo_isType 3 (some .boolean) 1 := ⟨t_730, t_7, by decide +kernel, by decide⟩
theorem S_Mo_isType : Cond.static yMo_isType ∈ qw := t_729
theorem Y_Mo_cut : Yw yMo_cut cMo_cut 4 (some .long) 3 := ⟨t_835, t_7, by decide +kernel, by decide⟩
theorem S_Mo_cut : Cond.static yMo_cut ∈ qw := t_834
theorem Y_Mo_isFrom : Yw yMo_isFrom cMo_isFrom 2 (some .boolean) 1 := ⟨t_829, t_7, by decide +kernel, by decide⟩
theorem S_Mo_isFrom : Cond.static yMo_isFrom ∈ qw := t_828
theorem Y_Mo_firstOf : Yw yMo_firstOf cMo_firstOf 2 (some .long) 1 := ⟨t_842, t_7, by decide +kernel, by decide⟩
theorem S_Mo_firstOf : Cond.static yMo_firstOf ∈ qw := t_841
theorem Y_Mo_secondOf : Yw yMo_secondOf cMo_secondOf 3 (some .long) 1 := ⟨t_832, t_7, by decide +kernel, by decide⟩
theorem S_Mo_secondOf : Cond.static yMo_secondOf ∈ qw := t_831
theorem Y_Mo_consistent : Yw yMo_consistent cMo_consistent 9 (some .boolean) 2 := ⟨t_860, t_7, by decide +kernel, by decide⟩
theorem S_Mo_consistent : Cond.static yMo_consistent ∈ qw := t_859
theorem Y_Mo_from : Yw yMo_from cMo_from 6 (some .long) 2 := ⟨t_853, t_7, by decide +kernel, by decide⟩
theorem S_Mo_from : Cond.static yMo_from ∈ qw := t_852
theorem Y_Mo_parts : Yw yMo_parts cMo_parts 1 (some .int) 1 := ⟨t_695, t_7, by decide +kernel, by decide⟩
theorem S_Mo_parts : Cond.static yMo_parts ∈ qw := t_694
theorem Y_Mo_end : Yw yMo_end cMo_end 4 (some .int) 1 := ⟨t_692, t_7, by decide +kernel, by decide⟩
theorem V_Mo_end : YV yMo_end := ⟨t_691, q_sel (i := 28) rfl (by decide +kernel)⟩
theorem Y_Mo_part : Yw yMo_part cMo_part 3 (some .int) 2 := ⟨t_769, t_7, by decide +kernel, by decide⟩
theorem V_Mo_part : YV yMo_part := ⟨t_768, q_sel (i := 35) rfl (by decide +kernel)⟩
theorem Y_Mo_above : Yw yMo_above cMo_above 3 (some .int) 1 := ⟨t_757, t_7, by decide +kernel, by decide⟩
theorem V_Mo_above : YV yMo_above := ⟨t_756, q_sel (i := 34) rfl (by decide +kernel)⟩
theorem Y_Mo_depth : Yw yMo_depth cMo_depth 4 (some .int) 1 := ⟨t_688, t_7, by decide +kernel, by decide⟩
theorem V_Mo_depth : YV yMo_depth := ⟨t_687, q_sel (i := 27) rfl (by decide +kernel)⟩
theorem Y_Mo_shift : Yw yMo_shift cMo_shift 3 none 2 := ⟨t_719, t_7, by decide +kernel, by decide⟩
theorem V_Mo_shift : YV yMo_shift := ⟨t_718, q_sel (i := 32) rfl (by decide +kernel)⟩
theorem Y_Mo_insert : Yw yMo_insert cMo_insert 7 none 4 := ⟨t_715, t_7, by decide +kernel, by decide⟩
theorem V_Mo_insert : YV yMo_insert := ⟨t_714, q_sel (i := 31) rfl (by decide +kernel)⟩
theorem Y_Mo_takeOut : Yw yMo_takeOut cMo_takeOut 4 none 2 := ⟨t_749, t_7, by decide +kernel, by decide⟩
theorem V_Mo_takeOut : YV yMo_takeOut := ⟨t_748, q_sel (i := 33) rfl (by decide +kernel)⟩
theorem Y_Mo_save : Yw yMo_save cMo_save 3 none 1 := ⟨t_664, t_7, by decide +kernel, by decide⟩
theorem V_Mo_save : YV yMo_save := ⟨t_663, q_sel (i := 23) rfl (by decide +kernel)⟩
theorem Y_Mo_bring : Yw yMo_bring cMo_bring 3 none 1 := ⟨t_668, t_7, by decide +kernel, by decide⟩
theorem V_Mo_bring : YV yMo_bring := ⟨t_667, q_sel (i := 24) rfl (by decide +kernel)⟩
theorem Y_Mo_move : Yw yMo_move cMo_move 4 none 2 := ⟨t_699, t_7, by decide +kernel, by decide⟩
theorem V_Mo_move : YV yMo_move := ⟨t_698, q_sel (i := 29) rfl (by decide +kernel)⟩
theorem Y_Mo_begin : Yw yMo_begin cMo_begin 1 none 0 := ⟨t_680, t_7, by decide +kernel, by decide⟩
theorem V_Mo_begin : YV yMo_begin := ⟨t_679, q_sel (i := 25) rfl (by decide +kernel)⟩
theorem Y_Mo_done : Yw yMo_done cMo_done 4 (some .boolean) 1 := ⟨t_684, t_7, by decide +kernel, by decide⟩
theorem V_Mo_done : YV yMo_done := ⟨t_683, q_sel (i := 26) rfl (by decide +kernel)⟩
theorem Y_Mo_undo : Yw yMo_undo cMo_undo 1 (some .boolean) 0 := ⟨t_660, t_7, by decide +kernel, by decide⟩
theorem V_Mo_undo : YV yMo_undo := ⟨t_658, t_659⟩
theorem Y_Mo_redo : Yw yMo_redo cMo_redo 1 (some .boolean) 0 := ⟨t_672, t_7, by decide +kernel, by decide⟩
theorem V_Mo_redo : YV yMo_redo := ⟨t_670, t_671⟩
theorem Y_Mo_number : Yw yMo_number cMo_number 2 (some .boolean) 1 := ⟨t_676, t_7, by decide +kernel, by decide⟩
theorem V_Mo_number : YV yMo_number := ⟨t_674, t_675⟩
theorem Y_Mo_name : Yw yMo_name cMo_name 2 (some .boolean) 1 := ⟨t_703, t_7, by decide +kernel, by decide⟩
theorem V_Mo_name : YV yMo_name := ⟨t_701, t_702⟩
theorem Y_Mo_pair : Yw yMo_pair cMo_pair 4 (some .boolean) 2 := ⟨t_711, t_7, by decide +kernel, by decide⟩
theorem V_Mo_pair : YV yMo_pair := ⟨t_710, q_sel (i := 30) rfl (by decide +kernel)⟩
theorem Y_Mo_sum : Yw yMo_sum cMo_sum 2 (some .boolean) 1 := ⟨t_707, t_7, by decide +kernel, by decide⟩
theorem V_Mo_sum : YV yMo_sum := ⟨t_705, t_706⟩
theorem Y_Mo_call : Yw yMo_call cMo_call 2 (some .boolean) 1 := ⟨t_723, t_7, by decide +kernel, by decide⟩
theorem V_Mo_call : YV yMo_call := ⟨t_721, t_722⟩
theorem Y_Mo_function : Yw yMo_function cMo_function 4 (some .boolean) 2 := ⟨t_727, t_7, by decide +kernel, by decide⟩
theorem V_Mo_function : YV yMo_function := ⟨t_725, t_726⟩
theorem Y_Mo_claim : Yw yMo_claim cMo_claim 3 (some .boolean) 1 := ⟨t_741, t_7, by decide +kernel, by decide⟩
theorem V_Mo_claim : YV yMo_claim := ⟨t_739, t_740⟩
theorem Y_Mo_remove : Yw yMo_remove cMo_remove 1 (some .boolean) 0 := ⟨t_745, t_7, by decide +kernel, by decide⟩
theorem V_Mo_remove : YV yMo_remove := ⟨t_743, t_744⟩
theorem Y_Mo_lift : Yw yMo_lift cMo_lift 4 (some .boolean) 0 := ⟨t_753, t_7, by decide +kernel, by decide⟩
theorem V_Mo_lift : YV yMo_lift := ⟨t_751, t_752⟩
theorem Y_Mo_up : Yw yMo_up cMo_up 2 (some .boolean) 0 := ⟨t_761, t_7, by decide +kernel, by decide⟩
theorem V_Mo_up : YV yMo_up := ⟨t_759, t_760⟩
theorem Y_Mo_down : Yw yMo_down cMo_down 2 (some .boolean) 1 := ⟨t_765, t_7, by decide +kernel, by decide⟩
theorem V_Mo_down : YV yMo_down := ⟨t_763, t_764⟩
theorem Y_Mo_put : Yw yMo_put cMo_put 3 none 2 := ⟨t_785, t_7, by decide +kernel, by decide⟩
theorem V_Mo_put : YV yMo_put := ⟨t_784, q_sel (i := 38) rfl (by decide +kernel)⟩
theorem Y_Mo_putNumber : Yw yMo_putNumber cMo_putNumber 4 none 2 := ⟨t_789, t_7, by decide +kernel, by decide⟩
theorem V_Mo_putNumber : YV yMo_putNumber := ⟨t_788, q_sel (i := 39) rfl (by decide +kernel)⟩
theorem Y_Mo_putType : Yw yMo_putType cMo_putType 9 none 2 := ⟨t_793, t_7, by decide +kernel, by decide⟩
theorem V_Mo_putType : YV yMo_putType := ⟨t_792, q_sel (i := 40) rfl (by decide +kernel)⟩
theorem Y_Mo_opens : Yw yMo_opens cMo_opens 3 none 1 := ⟨t_781, t_7, by decide +kernel, by decide⟩
theorem V_Mo_opens : YV yMo_opens := ⟨t_780, q_sel (i := 37) rfl (by decide +kernel)⟩
theorem Y_Mo_closes : Yw yMo_closes cMo_closes 2 none 1 := ⟨t_797, t_7, by decide +kernel, by decide⟩
theorem V_Mo_closes : YV yMo_closes := ⟨t_796, q_sel (i := 41) rfl (by decide +kernel)⟩
theorem Y_Mo_spell : Yw yMo_spell cMo_spell 5 none 0 := ⟨t_777, t_7, by decide +kernel, by decide⟩
theorem V_Mo_spell : YV yMo_spell := ⟨t_776, q_sel (i := 36) rfl (by decide +kernel)⟩
theorem Y_Mo_hole : Yw yMo_hole cMo_hole 5 (some .boolean) 0 := ⟨t_773, t_7, by decide +kernel, by decide⟩
theorem V_Mo_hole : YV yMo_hole := ⟨t_771, t_772⟩
theorem Y_Mo_click : Yw yMo_click cMo_click 2 (some .boolean) 1 := ⟨t_801, t_7, by decide +kernel, by decide⟩
theorem V_Mo_click : YV yMo_click := ⟨t_799, t_800⟩
theorem Y_Mo_column : Yw yMo_column cMo_column 1 (some .int) 0 := ⟨t_805, t_7, by decide +kernel, by decide⟩
theorem V_Mo_column : YV yMo_column := ⟨t_803, t_804⟩
theorem Y_Mo_kind : Yw yMo_kind cMo_kind 1 (some .int) 0 := ⟨t_809, t_7, by decide +kernel, by decide⟩
theorem V_Mo_kind : YV yMo_kind := ⟨t_807, t_808⟩
theorem Y_Mo_text : Yw yMo_text cMo_text 5 (some .long) 1 := ⟨t_813, t_7, by decide +kernel, by decide⟩
theorem V_Mo_text : YV yMo_text := ⟨t_811, t_812⟩
theorem Y_Mo_has : Yw yMo_has cMo_has 2 (some .long) 1 := ⟨t_839, t_7, by decide +kernel, by decide⟩
theorem V_Mo_has : YV yMo_has := ⟨t_838, q_sel (i := 44) rfl (by decide +kernel)⟩
theorem Y_Mo_binder : Yw yMo_binder cMo_binder 3 (some .int) 1 := ⟨t_850, t_7, by decide +kernel, by decide⟩
theorem V_Mo_binder : YV yMo_binder := ⟨t_849, q_sel (i := 46) rfl (by decide +kernel)⟩
theorem Y_Mo_gotOf : Yw yMo_gotOf cMo_gotOf 5 (some .long) 1 := ⟨t_846, t_7, by decide +kernel, by decide⟩
theorem V_Mo_gotOf : YV yMo_gotOf := ⟨t_845, q_sel (i := 45) rfl (by decide +kernel)⟩
theorem Y_Mo_markOf : Yw yMo_markOf cMo_markOf 3 (some .int) 1 := ⟨t_857, t_7, by decide +kernel, by decide⟩
theorem V_Mo_markOf : YV yMo_markOf := ⟨t_856, q_sel (i := 47) rfl (by decide +kernel)⟩
theorem Y_Mo_wantedOf : Yw yMo_wantedOf cMo_wantedOf 6 (some .long) 2 := ⟨t_825, t_7, by decide +kernel, by decide⟩
theorem V_Mo_wantedOf : YV yMo_wantedOf := ⟨t_824, q_sel (i := 43) rfl (by decide +kernel)⟩
theorem Y_Mo_type : Yw yMo_type cMo_type 9 none 0 := ⟨t_821, t_7, by decide +kernel, by decide⟩
theorem V_Mo_type : YV yMo_type := ⟨t_820, q_sel (i := 42) rfl (by decide +kernel)⟩
theorem Y_Mo_mark : Yw yMo_mark cMo_mark 1 (some .int) 0 := ⟨t_817, t_7, by decide +kernel, by decide⟩
theorem V_Mo_mark : YV yMo_mark := ⟨t_815, t_816⟩
theorem Y_Mo_got : Yw yMo_got cMo_got 1 (some .long) 0 := ⟨t_864, t_7, by decide +kernel, by decide⟩
theorem V_Mo_got : YV yMo_got := ⟨t_862, t_863⟩
theorem Y_Mo_expected : Yw yMo_expected cMo_expected 1 (some .long) 0 := ⟨t_868, t_7, by decide +kernel, by decide⟩
theorem V_Mo_expected : YV yMo_expected := ⟨t_866, t_867⟩
theorem Y_Mo_marks : Yw yMo_marks cMo_marks 3 (some .int) 0 := ⟨t_872, t_7, by decide +kernel, by decide⟩
theorem V_Mo_marks : YV yMo_marks := ⟨t_870, t_871⟩
theorem Y_Mo_terms : Yw yMo_terms cMo_terms 1 (some .int) 0 := ⟨t_876, t_7, by decide +kernel, by decide⟩
theorem V_Mo_terms : YV yMo_terms := ⟨t_874, t_875⟩
theorem Y_Mo_enter : Yw yMo_enter cMo_enter 3 (some .boolean) 2 := ⟨t_884, t_7, by decide +kernel, by decide⟩
theorem V_Mo_enter : YV yMo_enter := ⟨t_883, q_sel (i := 48) rfl (by decide +kernel)⟩
theorem Y_Mo_value : Yw yMo_value cMo_value 4 none 3 := ⟨t_892, t_7, by decide +kernel, by decide⟩
theorem V_Mo_value : YV yMo_value := ⟨t_891, q_sel (i := 50) rfl (by decide +kernel)⟩
theorem Y_Mo_lookUp : Yw yMo_lookUp cMo_lookUp 4 none 2 := ⟨t_896, t_7, by decide +kernel, by decide⟩
theorem V_Mo_lookUp : YV yMo_lookUp := ⟨t_895, q_sel (i := 51) rfl (by decide +kernel)⟩
theorem Y_Mo_bind : Yw yMo_bind cMo_bind 2 (some .int) 1 := ⟨t_904, t_7, by decide +kernel, by decide⟩
theorem V_Mo_bind : YV yMo_bind := ⟨t_903, q_sel (i := 53) rfl (by decide +kernel)⟩
theorem Y_Mo_isDone : Yw yMo_isDone cMo_isDone 4 (some .boolean) 1 := ⟨t_888, t_7, by decide +kernel, by decide⟩
theorem V_Mo_isDone : YV yMo_isDone := ⟨t_887, q_sel (i := 49) rfl (by decide +kernel)⟩
theorem Y_Mo_second : Yw yMo_second cMo_second 2 (some .boolean) 1 := ⟨t_900, t_7, by decide +kernel, by decide⟩
theorem V_Mo_second : YV yMo_second := ⟨t_899, q_sel (i := 52) rfl (by decide +kernel)⟩
theorem Y_Mo_add : Yw yMo_add cMo_add 3 none 1 := ⟨t_908, t_7, by decide +kernel, by decide⟩
theorem V_Mo_add : YV yMo_add := ⟨t_907, q_sel (i := 54) rfl (by decide +kernel)⟩
theorem Y_Mo_run : Yw yMo_run cMo_run 6 (some .int) 0 := ⟨t_880, t_7, by decide +kernel, by decide⟩
theorem V_Mo_run : YV yMo_run := ⟨t_878, t_879⟩
theorem Y_Mo_result : Yw yMo_result cMo_result 1 (some .int) 0 := ⟨t_912, t_7, by decide +kernel, by decide⟩
theorem V_Mo_result : YV yMo_result := ⟨t_910, t_911⟩
theorem Y_Mo_units : Yw yMo_units cMo_units 1 (some .int) 0 := ⟨t_916, t_7, by decide +kernel, by decide⟩
theorem V_Mo_units : YV yMo_units := ⟨t_914, t_915⟩
theorem N_copy : Cond.native arraycopyName ∈ qw ∧ Cond.static arraycopyName ∈ qw ∧ Cond.initialized "java/lang/System" ∈ qw := ⟨t_200, t_199, t_9⟩
theorem N_max : Cond.static Lib.Math.max.name ∈ qw ∧ Cond.initialized "java/lang/Math" ∈ qw ∧ Cond.code Lib.Math.max.name Lib.Math.max.code 2 (some .int) ∈ qw := ⟨t_233, t_8, qm (i := 234) (by decide +kernel) (by decide +kernel)⟩
theorem N_min : Cond.static Lib.Math.min.name ∈ qw ∧ Cond.initialized "java/lang/Math" ∈ qw ∧ Cond.code Lib.Math.min.name Lib.Math.min.code 2 (some .int) ∈ qw := ⟨t_192, t_8, qm (i := 193) (by decide +kernel) (by decide +kernel)⟩
theorem N_abs : Cond.static Lib.Math.abs.name ∈ qw ∧ Cond.initialized "java/lang/Math" ∈ qw ∧ Cond.code Lib.Math.abs.name Lib.Math.abs.code 1 (some .int) ∈ qw := ⟨t_351, t_8, qm (i := 352) (by decide +kernel) (by decide +kernel)⟩
