theorem cw_105 : Cond.initialized RX10 ∈ tb := tb_in (List.mem_of_getElem? (i := 105) (by decide +kernel)) (by decide)
theorem cw_106 : Cond.initialized RJ7 ∈ tb := tb_in (List.mem_of_getElem? (i := 106) (by decide +kernel)) (by decide)
theorem cw_107 : Cond.initialized RX9 ∈ tb := tb_in (List.mem_of_getElem? (i := 107) (by decide +kernel)) (by decide)
theorem cw_108 : Cond.initialized RX8 ∈ tb := tb_in (List.mem_of_getElem? (i := 108) (by decide +kernel)) (by decide)
theorem cw_109 : Cond.initialized RX6 ∈ tb := tb_in (List.mem_of_getElem? (i := 109) (by decide +kernel)) (by decide)
theorem cw_110 : Cond.initialized RX2 ∈ tb := tb_in (List.mem_of_getElem? (i := 110) (by decide +kernel)) (by decide)
theorem cw_111 : Cond.initialized RX7 ∈ tb := tb_in (List.mem_of_getElem? (i := 111) (by decide +kernel)) (by decide)
theorem cw_112 : Cond.initialized RX1 ∈ tb := tb_in (List.mem_of_getElem? (i := 112) (by decide +kernel)) (by decide)
theorem cw_113 : Cond.initialized RX3 ∈ tb := tb_in (List.mem_of_getElem? (i := 113) (by decide +kernel)) (by decide)
theorem cw_114 : Cond.initialized RX0 ∈ tb := tb_in (List.mem_of_getElem? (i := 114) (by decide +kernel)) (by decide)
theorem cw_115 : Cond.initialized RX4 ∈ tb := tb_in (List.mem_of_getElem? (i := 115) (by decide +kernel)) (by decide)
theorem cw_116 : Cond.initialized RX5 ∈ tb := tb_in (List.mem_of_getElem? (i := 116) (by decide +kernel)) (by decide)
theorem cw_131 : Cond.methodLink RX11 1 objectInit ∈ tb := tb_in (List.mem_of_getElem? (i := 131) (by decide +kernel)) (by decide)
theorem cw_132 : Cond.instanceMethod objectInit ∈ tb := tb_in (List.mem_of_getElem? (i := 132) (by decide +kernel)) (by decide)
theorem cw_133 : Cond.code objectInit ⟨#[0xb1]⟩ 1 none ∈ tb := tb_in (List.mem_of_getElem? (i := 133) (by decide +kernel)) (by decide)
theorem cw_134 : Cond.classLink RX11 7 RX10 ∈ tb := tb_in (List.mem_of_getElem? (i := 134) (by decide +kernel)) (by decide)
theorem cw_135 : Cond.instantiable RX10 9 ∈ tb := tb_in (List.mem_of_getElem? (i := 135) (by decide +kernel)) (by decide)
theorem cw_136 : Cond.methodLink RX11 9 yX10_init ∈ tb := tb_in (List.mem_of_getElem? (i := 136) (by decide +kernel)) (by decide)
theorem cw_137 : Cond.instanceMethod yX10_init ∈ tb := tb_in (List.mem_of_getElem? (i := 137) (by decide +kernel)) (by decide)
theorem cw_138 : Cond.code yX10_init cX10_init 1 none ∈ tb := tb_in (List.mem_of_getElem? (i := 138) (by decide +kernel)) (by decide)
theorem cw_139 : Cond.methodLink RX10 3 objectInit ∈ tb := tb_in (List.mem_of_getElem? (i := 139) (by decide +kernel)) (by decide)
theorem cw_140 : Cond.methodLink RX10 40 yJ7_fill_53178 ∈ tb := tb_in (List.mem_of_getElem? (i := 140) (by decide +kernel)) (by decide)
theorem cw_141 : Cond.static yJ7_fill_53178 ∈ tb := tb_in (List.mem_of_getElem? (i := 141) (by decide +kernel)) (by decide)
theorem cw_142 : Cond.code yJ7_fill_53178 cJ7_fill_53178 4 none ∈ tb := tb_in (List.mem_of_getElem? (i := 142) (by decide +kernel)) (by decide)
theorem cw_143 : Cond.fieldLink RX10 9 "VerandaWar$War" "rank" "[I" ∈ tb := tb_in (List.mem_of_getElem? (i := 143) (by decide +kernel)) (by decide)
theorem cw_146 : Cond.fieldLink RX10 15 "VerandaWar$War" "boredom" "[I" ∈ tb := tb_in (List.mem_of_getElem? (i := 146) (by decide +kernel)) (by decide)
theorem cw_150 : Cond.fieldLink RX10 18 "VerandaWar$War" "lemonade" "[I" ∈ tb := tb_in (List.mem_of_getElem? (i := 150) (by decide +kernel)) (by decide)
theorem cw_154 : Cond.fieldLink RX10 21 "VerandaWar$War" "cushions" "[I" ∈ tb := tb_in (List.mem_of_getElem? (i := 154) (by decide +kernel)) (by decide)
theorem cw_159 : Cond.fieldLink RX10 24 "VerandaWar$War" "state" "[I" ∈ tb := tb_in (List.mem_of_getElem? (i := 159) (by decide +kernel)) (by decide)
theorem cw_164 : Cond.fieldLink RX10 27 "VerandaWar$War" "watch" "I" ∈ tb := tb_in (List.mem_of_getElem? (i := 164) (by decide +kernel)) (by decide)
theorem cw_167 : Cond.fieldLink RX10 31 "VerandaWar$War" "day" "I" ∈ tb := tb_in (List.mem_of_getElem? (i := 167) (by decide +kernel)) (by decide)
theorem cw_170 : Cond.fieldLink RX10 34 "VerandaWar$War" "drawn" "I" ∈ tb := tb_in (List.mem_of_getElem? (i := 170) (by decide +kernel)) (by decide)
theorem cw_172 : Cond.fieldLink RX10 37 "VerandaWar$War" "lost" "I" ∈ tb := tb_in (List.mem_of_getElem? (i := 172) (by decide +kernel)) (by decide)
theorem cw_194 : Cond.arrayClass .int ∈ tb := tb_in (List.mem_of_getElem? (i := 194) (by decide +kernel)) (by decide)
theorem cw_195 : Cond.classLink RX11 22 RX9 ∈ tb := tb_in (List.mem_of_getElem? (i := 195) (by decide +kernel)) (by decide)
theorem cw_196 : Cond.instantiable RX9 3 ∈ tb := tb_in (List.mem_of_getElem? (i := 196) (by decide +kernel)) (by decide)
theorem cw_197 : Cond.methodLink RX11 24 yX9_init ∈ tb := tb_in (List.mem_of_getElem? (i := 197) (by decide +kernel)) (by decide)
theorem cw_198 : Cond.instanceMethod yX9_init ∈ tb := tb_in (List.mem_of_getElem? (i := 198) (by decide +kernel)) (by decide)
theorem cw_199 : Cond.code yX9_init cX9_init 1 none ∈ tb := tb_in (List.mem_of_getElem? (i := 199) (by decide +kernel)) (by decide)
theorem cw_200 : Cond.methodLink RX9 3 objectInit ∈ tb := tb_in (List.mem_of_getElem? (i := 200) (by decide +kernel)) (by decide)
theorem cw_201 : Cond.fieldLink RX9 9 "VerandaWar$Valley" "columns" "[I" ∈ tb := tb_in (List.mem_of_getElem? (i := 201) (by decide +kernel)) (by decide)
theorem cw_203 : Cond.fieldLink RX9 15 "VerandaWar$Valley" "floors" "[I" ∈ tb := tb_in (List.mem_of_getElem? (i := 203) (by decide +kernel)) (by decide)
theorem cw_205 : Cond.fieldLink RX9 18 "VerandaWar$Valley" "sight" "[I" ∈ tb := tb_in (List.mem_of_getElem? (i := 205) (by decide +kernel)) (by decide)
theorem cw_215 : Cond.classLink RX11 29 RX8 ∈ tb := tb_in (List.mem_of_getElem? (i := 215) (by decide +kernel)) (by decide)
theorem cw_216 : Cond.instantiable RX8 5 ∈ tb := tb_in (List.mem_of_getElem? (i := 216) (by decide +kernel)) (by decide)
theorem cw_218 : Cond.instanceMethod yX8_init ∈ tb := tb_in (List.mem_of_getElem? (i := 218) (by decide +kernel)) (by decide)
theorem cw_219 : Cond.code yX8_init cX8_init 1 none ∈ tb := tb_in (List.mem_of_getElem? (i := 219) (by decide +kernel)) (by decide)
theorem cw_220 : Cond.methodLink RX8 3 objectInit ∈ tb := tb_in (List.mem_of_getElem? (i := 220) (by decide +kernel)) (by decide)
theorem cw_221 : Cond.fieldLink RX8 9 "VerandaWar$Tape" "bytes" "[I" ∈ tb := tb_in (List.mem_of_getElem? (i := 221) (by decide +kernel)) (by decide)
theorem cw_222 : Cond.fieldLink RX8 15 "VerandaWar$Tape" "many" "I" ∈ tb := tb_in (List.mem_of_getElem? (i := 222) (by decide +kernel)) (by decide)
theorem cw_224 : Cond.fieldLink RX8 19 "VerandaWar$Tape" "end" "I" ∈ tb := tb_in (List.mem_of_getElem? (i := 224) (by decide +kernel)) (by decide)
theorem cw_225 : Cond.fieldLink RX8 22 "VerandaWar$Tape" "at" "I" ∈ tb := tb_in (List.mem_of_getElem? (i := 225) (by decide +kernel)) (by decide)
theorem cw_229 : Cond.fieldLink RX8 25 "VerandaWar$Tape" "fault" "I" ∈ tb := tb_in (List.mem_of_getElem? (i := 229) (by decide +kernel)) (by decide)
theorem cw_242 : Cond.classLink RX11 36 RX6 ∈ tb := tb_in (List.mem_of_getElem? (i := 242) (by decide +kernel)) (by decide)
theorem cw_243 : Cond.instantiable RX6 2 ∈ tb := tb_in (List.mem_of_getElem? (i := 243) (by decide +kernel)) (by decide)
theorem cw_244 : Cond.methodLink RX11 38 yX6_init ∈ tb := tb_in (List.mem_of_getElem? (i := 244) (by decide +kernel)) (by decide)
theorem cw_245 : Cond.instanceMethod yX6_init ∈ tb := tb_in (List.mem_of_getElem? (i := 245) (by decide +kernel)) (by decide)
theorem cw_246 : Cond.code yX6_init cX6_init 2 none ∈ tb := tb_in (List.mem_of_getElem? (i := 246) (by decide +kernel)) (by decide)
theorem cw_247 : Cond.methodLink RX6 3 objectInit ∈ tb := tb_in (List.mem_of_getElem? (i := 247) (by decide +kernel)) (by decide)
theorem cw_248 : Cond.fieldLink RX6 15 "VerandaWar$OrdersReader" "tape" "LVerandaWar$Tape;" ∈ tb := tb_in (List.mem_of_getElem? (i := 248) (by decide +kernel)) (by decide)
theorem cw_249 : Cond.fieldLink RX6 9 "VerandaWar$OrdersReader" "lines" "I" ∈ tb := tb_in (List.mem_of_getElem? (i := 249) (by decide +kernel)) (by decide)
theorem cw_256 : Cond.classLink RX11 45 RX2 ∈ tb := tb_in (List.mem_of_getElem? (i := 256) (by decide +kernel)) (by decide)
theorem cw_257 : Cond.instantiable RX2 7 ∈ tb := tb_in (List.mem_of_getElem? (i := 257) (by decide +kernel)) (by decide)
theorem cw_258 : Cond.methodLink RX11 47 yX2_init ∈ tb := tb_in (List.mem_of_getElem? (i := 258) (by decide +kernel)) (by decide)
theorem cw_259 : Cond.instanceMethod yX2_init ∈ tb := tb_in (List.mem_of_getElem? (i := 259) (by decide +kernel)) (by decide)
theorem cw_260 : Cond.code yX2_init cX2_init 2 none ∈ tb := tb_in (List.mem_of_getElem? (i := 260) (by decide +kernel)) (by decide)
theorem cw_261 : Cond.methodLink RX2 3 objectInit ∈ tb := tb_in (List.mem_of_getElem? (i := 261) (by decide +kernel)) (by decide)
theorem cw_262 : Cond.fieldLink RX2 31 "VerandaWar$Course" "valley" "LVerandaWar$Valley;" ∈ tb := tb_in (List.mem_of_getElem? (i := 262) (by decide +kernel)) (by decide)
theorem cw_263 : Cond.fieldLink RX2 9 "VerandaWar$Course" "behind" "[I" ∈ tb := tb_in (List.mem_of_getElem? (i := 263) (by decide +kernel)) (by decide)
theorem cw_265 : Cond.fieldLink RX2 15 "VerandaWar$Course" "wentIn" "I" ∈ tb := tb_in (List.mem_of_getElem? (i := 265) (by decide +kernel)) (by decide)
theorem cw_267 : Cond.fieldLink RX2 19 "VerandaWar$Course" "dinners" "I" ∈ tb := tb_in (List.mem_of_getElem? (i := 267) (by decide +kernel)) (by decide)
theorem cw_269 : Cond.fieldLink RX2 22 "VerandaWar$Course" "drunk" "I" ∈ tb := tb_in (List.mem_of_getElem? (i := 269) (by decide +kernel)) (by decide)
theorem cw_271 : Cond.fieldLink RX2 25 "VerandaWar$Course" "firstIn" "I" ∈ tb := tb_in (List.mem_of_getElem? (i := 271) (by decide +kernel)) (by decide)
theorem cw_273 : Cond.fieldLink RX2 28 "VerandaWar$Course" "lostBehind" "I" ∈ tb := tb_in (List.mem_of_getElem? (i := 273) (by decide +kernel)) (by decide)
theorem cw_290 : Cond.classLink RX11 54 RX7 ∈ tb := tb_in (List.mem_of_getElem? (i := 290) (by decide +kernel)) (by decide)
theorem cw_291 : Cond.instantiable RX7 2 ∈ tb := tb_in (List.mem_of_getElem? (i := 291) (by decide +kernel)) (by decide)
theorem cw_293 : Cond.instanceMethod yX7_init ∈ tb := tb_in (List.mem_of_getElem? (i := 293) (by decide +kernel)) (by decide)
theorem cw_294 : Cond.code yX7_init cX7_init 1 none ∈ tb := tb_in (List.mem_of_getElem? (i := 294) (by decide +kernel)) (by decide)
theorem cw_295 : Cond.methodLink RX7 3 objectInit ∈ tb := tb_in (List.mem_of_getElem? (i := 295) (by decide +kernel)) (by decide)
theorem cw_296 : Cond.fieldLink RX7 11 "VerandaWar$Signals" "lamps" "[I" ∈ tb := tb_in (List.mem_of_getElem? (i := 296) (by decide +kernel)) (by decide)
theorem cw_299 : Cond.fieldLink RX7 15 "VerandaWar$Signals" "many" "I" ∈ tb := tb_in (List.mem_of_getElem? (i := 299) (by decide +kernel)) (by decide)
theorem cw_307 : Cond.classLink RX11 67 RX1 ∈ tb := tb_in (List.mem_of_getElem? (i := 307) (by decide +kernel)) (by decide)
theorem cw_308 : Cond.instantiable RX1 1 ∈ tb := tb_in (List.mem_of_getElem? (i := 308) (by decide +kernel)) (by decide)
theorem cw_310 : Cond.instanceMethod yX1_init ∈ tb := tb_in (List.mem_of_getElem? (i := 310) (by decide +kernel)) (by decide)
theorem cw_311 : Cond.code yX1_init cX1_init 1 none ∈ tb := tb_in (List.mem_of_getElem? (i := 311) (by decide +kernel)) (by decide)
theorem cw_312 : Cond.methodLink RX1 5 objectInit ∈ tb := tb_in (List.mem_of_getElem? (i := 312) (by decide +kernel)) (by decide)
theorem cw_313 : Cond.fieldLink RX1 13 "VerandaWar$Common" "longest" "[I" ∈ tb := tb_in (List.mem_of_getElem? (i := 313) (by decide +kernel)) (by decide)
theorem cw_317 : Cond.classLink RX11 74 RX3 ∈ tb := tb_in (List.mem_of_getElem? (i := 317) (by decide +kernel)) (by decide)
theorem cw_318 : Cond.instantiable RX3 4 ∈ tb := tb_in (List.mem_of_getElem? (i := 318) (by decide +kernel)) (by decide)
theorem cw_320 : Cond.instanceMethod yX3_init ∈ tb := tb_in (List.mem_of_getElem? (i := 320) (by decide +kernel)) (by decide)
theorem cw_321 : Cond.code yX3_init cX3_init 1 none ∈ tb := tb_in (List.mem_of_getElem? (i := 321) (by decide +kernel)) (by decide)
theorem cw_322 : Cond.methodLink RX3 3 objectInit ∈ tb := tb_in (List.mem_of_getElem? (i := 322) (by decide +kernel)) (by decide)
theorem cw_323 : Cond.fieldLink RX3 11 "VerandaWar$Glasses" "way" "[I" ∈ tb := tb_in (List.mem_of_getElem? (i := 323) (by decide +kernel)) (by decide)
theorem cw_324 : Cond.fieldLink RX3 15 "VerandaWar$Glasses" "whom" "[I" ∈ tb := tb_in (List.mem_of_getElem? (i := 324) (by decide +kernel)) (by decide)
theorem cw_326 : Cond.fieldLink RX3 18 "VerandaWar$Glasses" "here" "I" ∈ tb := tb_in (List.mem_of_getElem? (i := 326) (by decide +kernel)) (by decide)
theorem cw_327 : Cond.fieldLink RX3 22 "VerandaWar$Glasses" "across" "I" ∈ tb := tb_in (List.mem_of_getElem? (i := 327) (by decide +kernel)) (by decide)
theorem cw_337 : Cond.classLink RX11 81 RX0 ∈ tb := tb_in (List.mem_of_getElem? (i := 337) (by decide +kernel)) (by decide)
theorem cw_338 : Cond.instantiable RX0 5 ∈ tb := tb_in (List.mem_of_getElem? (i := 338) (by decide +kernel)) (by decide)
theorem cw_340 : Cond.instanceMethod yX0_init ∈ tb := tb_in (List.mem_of_getElem? (i := 340) (by decide +kernel)) (by decide)
theorem cw_341 : Cond.code yX0_init cX0_init 1 none ∈ tb := tb_in (List.mem_of_getElem? (i := 341) (by decide +kernel)) (by decide)
theorem cw_342 : Cond.methodLink RX0 3 objectInit ∈ tb := tb_in (List.mem_of_getElem? (i := 342) (by decide +kernel)) (by decide)
theorem cw_343 : Cond.fieldLink RX0 11 "VerandaWar$Bridge" "cards" "[I" ∈ tb := tb_in (List.mem_of_getElem? (i := 343) (by decide +kernel)) (by decide)
theorem cw_344 : Cond.fieldLink RX0 15 "VerandaWar$Bridge" "trumps" "I" ∈ tb := tb_in (List.mem_of_getElem? (i := 344) (by decide +kernel)) (by decide)
theorem cw_345 : Cond.fieldLink RX0 19 "VerandaWar$Bridge" "dealt" "I" ∈ tb := tb_in (List.mem_of_getElem? (i := 345) (by decide +kernel)) (by decide)
theorem cw_346 : Cond.fieldLink RX0 22 "VerandaWar$Bridge" "tricks" "I" ∈ tb := tb_in (List.mem_of_getElem? (i := 346) (by decide +kernel)) (by decide)
theorem cw_348 : Cond.fieldLink RX0 25 "VerandaWar$Bridge" "card" "I" ∈ tb := tb_in (List.mem_of_getElem? (i := 348) (by decide +kernel)) (by decide)
theorem cw_361 : Cond.classLink RX11 92 RX4 ∈ tb := tb_in (List.mem_of_getElem? (i := 361) (by decide +kernel)) (by decide)
theorem cw_362 : Cond.instantiable RX4 11 ∈ tb := tb_in (List.mem_of_getElem? (i := 362) (by decide +kernel)) (by decide)
theorem cw_364 : Cond.instanceMethod yX4_init ∈ tb := tb_in (List.mem_of_getElem? (i := 364) (by decide +kernel)) (by decide)
theorem cw_365 : Cond.code yX4_init cX4_init 1 none ∈ tb := tb_in (List.mem_of_getElem? (i := 365) (by decide +kernel)) (by decide)
theorem cw_366 : Cond.methodLink RX4 1 objectInit ∈ tb := tb_in (List.mem_of_getElem? (i := 366) (by decide +kernel)) (by decide)
theorem cw_367 : Cond.fieldLink RX4 9 "VerandaWar$Law" "code" "[I" ∈ tb := tb_in (List.mem_of_getElem? (i := 367) (by decide +kernel)) (by decide)
theorem cw_368 : Cond.fieldLink RX4 13 "VerandaWar$Law" "with" "[I" ∈ tb := tb_in (List.mem_of_getElem? (i := 368) (by decide +kernel)) (by decide)
theorem cw_369 : Cond.fieldLink RX4 16 "VerandaWar$Law" "letter" "[I" ∈ tb := tb_in (List.mem_of_getElem? (i := 369) (by decide +kernel)) (by decide)
theorem cw_371 : Cond.fieldLink RX4 19 "VerandaWar$Law" "amountFrom" "[I" ∈ tb := tb_in (List.mem_of_getElem? (i := 371) (by decide +kernel)) (by decide)
theorem cw_373 : Cond.fieldLink RX4 22 "VerandaWar$Law" "testFrom" "[I" ∈ tb := tb_in (List.mem_of_getElem? (i := 373) (by decide +kernel)) (by decide)
theorem cw_375 : Cond.fieldLink RX4 25 "VerandaWar$Law" "testEnd" "[I" ∈ tb := tb_in (List.mem_of_getElem? (i := 375) (by decide +kernel)) (by decide)
theorem cw_377 : Cond.fieldLink RX4 28 "VerandaWar$Law" "values" "[I" ∈ tb := tb_in (List.mem_of_getElem? (i := 377) (by decide +kernel)) (by decide)
theorem cw_379 : Cond.fieldLink RX4 31 "VerandaWar$Law" "stack" "[I" ∈ tb := tb_in (List.mem_of_getElem? (i := 379) (by decide +kernel)) (by decide)
theorem cw_380 : Cond.fieldLink RX4 34 "VerandaWar$Law" "many" "I" ∈ tb := tb_in (List.mem_of_getElem? (i := 380) (by decide +kernel)) (by decide)
theorem cw_383 : Cond.fieldLink RX4 38 "VerandaWar$Law" "size" "I" ∈ tb := tb_in (List.mem_of_getElem? (i := 383) (by decide +kernel)) (by decide)
theorem cw_385 : Cond.fieldLink RX4 41 "VerandaWar$Law" "refused" "Z" ∈ tb := tb_in (List.mem_of_getElem? (i := 385) (by decide +kernel)) (by decide)
theorem cw_409 : Cond.classLink RX11 102 RX5 ∈ tb := tb_in (List.mem_of_getElem? (i := 409) (by decide +kernel)) (by decide)
theorem cw_410 : Cond.instantiable RX5 2 ∈ tb := tb_in (List.mem_of_getElem? (i := 410) (by decide +kernel)) (by decide)
theorem cw_411 : Cond.methodLink RX11 104 yX5_init ∈ tb := tb_in (List.mem_of_getElem? (i := 411) (by decide +kernel)) (by decide)
theorem cw_412 : Cond.instanceMethod yX5_init ∈ tb := tb_in (List.mem_of_getElem? (i := 412) (by decide +kernel)) (by decide)
theorem cw_413 : Cond.code yX5_init cX5_init 3 none ∈ tb := tb_in (List.mem_of_getElem? (i := 413) (by decide +kernel)) (by decide)
theorem cw_414 : Cond.methodLink RX5 3 objectInit ∈ tb := tb_in (List.mem_of_getElem? (i := 414) (by decide +kernel)) (by decide)
theorem cw_415 : Cond.fieldLink RX5 9 "VerandaWar$LawReader" "tape" "LVerandaWar$Tape;" ∈ tb := tb_in (List.mem_of_getElem? (i := 415) (by decide +kernel)) (by decide)
theorem cw_416 : Cond.fieldLink RX5 15 "VerandaWar$LawReader" "into" "LVerandaWar$Law;" ∈ tb := tb_in (List.mem_of_getElem? (i := 416) (by decide +kernel)) (by decide)
theorem cw_422 : Cond.fieldLink RX11 10 "VerandaWar" "now" "LVerandaWar$War;" ∈ tb := tb_in (List.mem_of_getElem? (i := 422) (by decide +kernel)) (by decide)
theorem cw_423 : Cond.fieldLink RX11 16 "VerandaWar" "kept" "LVerandaWar$War;" ∈ tb := tb_in (List.mem_of_getElem? (i := 423) (by decide +kernel)) (by decide)
theorem cw_424 : Cond.fieldLink RX11 19 "VerandaWar" "trial" "LVerandaWar$War;" ∈ tb := tb_in (List.mem_of_getElem? (i := 424) (by decide +kernel)) (by decide)
theorem cw_425 : Cond.fieldLink RX11 25 "VerandaWar" "valley" "LVerandaWar$Valley;" ∈ tb := tb_in (List.mem_of_getElem? (i := 425) (by decide +kernel)) (by decide)
theorem cw_426 : Cond.fieldLink RX11 32 "VerandaWar" "tape" "LVerandaWar$Tape;" ∈ tb := tb_in (List.mem_of_getElem? (i := 426) (by decide +kernel)) (by decide)
theorem cw_427 : Cond.fieldLink RX11 41 "VerandaWar" "ordersReader" "LVerandaWar$OrdersReader;" ∈ tb := tb_in (List.mem_of_getElem? (i := 427) (by decide +kernel)) (by decide)
theorem cw_428 : Cond.fieldLink RX11 50 "VerandaWar" "course" "LVerandaWar$Course;" ∈ tb := tb_in (List.mem_of_getElem? (i := 428) (by decide +kernel)) (by decide)
theorem cw_429 : Cond.fieldLink RX11 57 "VerandaWar" "near" "LVerandaWar$Signals;" ∈ tb := tb_in (List.mem_of_getElem? (i := 429) (by decide +kernel)) (by decide)
theorem cw_430 : Cond.fieldLink RX11 61 "VerandaWar" "far" "LVerandaWar$Signals;" ∈ tb := tb_in (List.mem_of_getElem? (i := 430) (by decide +kernel)) (by decide)
theorem cw_431 : Cond.fieldLink RX11 64 "VerandaWar" "read" "LVerandaWar$Signals;" ∈ tb := tb_in (List.mem_of_getElem? (i := 431) (by decide +kernel)) (by decide)
theorem cw_432 : Cond.fieldLink RX11 70 "VerandaWar" "common" "LVerandaWar$Common;" ∈ tb := tb_in (List.mem_of_getElem? (i := 432) (by decide +kernel)) (by decide)
theorem cw_433 : Cond.fieldLink RX11 77 "VerandaWar" "tray" "LVerandaWar$Glasses;" ∈ tb := tb_in (List.mem_of_getElem? (i := 433) (by decide +kernel)) (by decide)
theorem cw_434 : Cond.fieldLink RX11 84 "VerandaWar" "table" "LVerandaWar$Bridge;" ∈ tb := tb_in (List.mem_of_getElem? (i := 434) (by decide +kernel)) (by decide)
theorem cw_435 : Cond.fieldLink RX11 88 "VerandaWar" "row" "[I" ∈ tb := tb_in (List.mem_of_getElem? (i := 435) (by decide +kernel)) (by decide)
theorem cw_436 : Cond.fieldLink RX11 95 "VerandaWar" "rules" "LVerandaWar$Law;" ∈ tb := tb_in (List.mem_of_getElem? (i := 436) (by decide +kernel)) (by decide)
theorem cw_437 : Cond.fieldLink RX11 99 "VerandaWar" "spare" "LVerandaWar$Law;" ∈ tb := tb_in (List.mem_of_getElem? (i := 437) (by decide +kernel)) (by decide)
theorem cw_438 : Cond.fieldLink RX11 107 "VerandaWar" "lawReader" "LVerandaWar$LawReader;" ∈ tb := tb_in (List.mem_of_getElem? (i := 438) (by decide +kernel)) (by decide)
theorem cw_439 : Cond.fieldLink RX11 111 "VerandaWar" "isKept" "Z" ∈ tb := tb_in (List.mem_of_getElem? (i := 439) (by decide +kernel)) (by decide)
theorem cw_696 : Cond.arrayClass .byte ∈ tb := tb_in (List.mem_of_getElem? (i := 696) (by decide +kernel)) (by decide)
theorem cw_1141 : Cond.methodLink RX12 1 objectInit ∈ tb := tb_in (List.mem_of_getElem? (i := 1141) (by decide +kernel)) (by decide)
theorem cw_1142 : Cond.fieldLink RX12 7 "VerandaWarModel" "now" "[I" ∈ tb := tb_in (List.mem_of_getElem? (i := 1142) (by decide +kernel)) (by decide)
theorem cw_1143 : Cond.fieldLink RX12 13 "VerandaWarModel" "aside" "[I" ∈ tb := tb_in (List.mem_of_getElem? (i := 1143) (by decide +kernel)) (by decide)
theorem cw_1144 : Cond.fieldLink RX12 16 "VerandaWarModel" "kept" "[I" ∈ tb := tb_in (List.mem_of_getElem? (i := 1144) (by decide +kernel)) (by decide)
theorem cw_1145 : Cond.fieldLink RX12 19 "VerandaWarModel" "floorOf" "[I" ∈ tb := tb_in (List.mem_of_getElem? (i := 1145) (by decide +kernel)) (by decide)
theorem cw_1146 : Cond.fieldLink RX12 22 "VerandaWarModel" "columnOf" "[I" ∈ tb := tb_in (List.mem_of_getElem? (i := 1146) (by decide +kernel)) (by decide)
theorem cw_1147 : Cond.fieldLink RX12 25 "VerandaWarModel" "tape" "[B" ∈ tb := tb_in (List.mem_of_getElem? (i := 1147) (by decide +kernel)) (by decide)
theorem cw_1158 : Cond.fieldLink RX12 29 "VerandaWarModel" "said" "[I" ∈ tb := tb_in (List.mem_of_getElem? (i := 1158) (by decide +kernel)) (by decide)
theorem cw_1159 : Cond.fieldLink RX12 32 "VerandaWarModel" "waitsAt" "[I" ∈ tb := tb_in (List.mem_of_getElem? (i := 1159) (by decide +kernel)) (by decide)
theorem cw_1160 : Cond.fieldLink RX12 35 "VerandaWarModel" "saidLetter" "[I" ∈ tb := tb_in (List.mem_of_getElem? (i := 1160) (by decide +kernel)) (by decide)
theorem cw_1161 : Cond.fieldLink RX12 38 "VerandaWarModel" "saidFrom" "[I" ∈ tb := tb_in (List.mem_of_getElem? (i := 1161) (by decide +kernel)) (by decide)
theorem cw_1162 : Cond.fieldLink RX12 41 "VerandaWarModel" "saidHalf" "[I" ∈ tb := tb_in (List.mem_of_getElem? (i := 1162) (by decide +kernel)) (by decide)
theorem cw_1163 : Cond.fieldLink RX12 44 "VerandaWarModel" "saidTo" "[I" ∈ tb := tb_in (List.mem_of_getElem? (i := 1163) (by decide +kernel)) (by decide)
theorem cw_1164 : Cond.fieldLink RX12 47 "VerandaWarModel" "codes" "[I" ∈ tb := tb_in (List.mem_of_getElem? (i := 1164) (by decide +kernel)) (by decide)
theorem cw_1165 : Cond.fieldLink RX12 50 "VerandaWarModel" "clauseOf" "[I" ∈ tb := tb_in (List.mem_of_getElem? (i := 1165) (by decide +kernel)) (by decide)
theorem cw_1166 : Cond.fieldLink RX12 53 "VerandaWarModel" "codeFrom" "[I" ∈ tb := tb_in (List.mem_of_getElem? (i := 1166) (by decide +kernel)) (by decide)
theorem cw_1167 : Cond.fieldLink RX12 56 "VerandaWarModel" "codeHalf" "[I" ∈ tb := tb_in (List.mem_of_getElem? (i := 1167) (by decide +kernel)) (by decide)
theorem cw_1168 : Cond.fieldLink RX12 59 "VerandaWarModel" "codeTo" "[I" ∈ tb := tb_in (List.mem_of_getElem? (i := 1168) (by decide +kernel)) (by decide)
theorem cw_1169 : Cond.fieldLink RX12 62 "VerandaWarModel" "stack" "[I" ∈ tb := tb_in (List.mem_of_getElem? (i := 1169) (by decide +kernel)) (by decide)
theorem cw_1170 : Cond.fieldLink RX12 65 "VerandaWarModel" "facts" "[I" ∈ tb := tb_in (List.mem_of_getElem? (i := 1170) (by decide +kernel)) (by decide)
theorem cw_1172 : Cond.fieldLink RX12 68 "VerandaWarModel" "lampOf" "[B" ∈ tb := tb_in (List.mem_of_getElem? (i := 1172) (by decide +kernel)) (by decide)
theorem cw_1173 : Cond.fieldLink RX12 71 "VerandaWarModel" "lampMany" "[I" ∈ tb := tb_in (List.mem_of_getElem? (i := 1173) (by decide +kernel)) (by decide)
theorem cw_1174 : Cond.fieldLink RX12 74 "VerandaWarModel" "newStep" "[I" ∈ tb := tb_in (List.mem_of_getElem? (i := 1174) (by decide +kernel)) (by decide)
theorem cw_1175 : Cond.fieldLink RX12 77 "VerandaWarModel" "roundFrom" "[I" ∈ tb := tb_in (List.mem_of_getElem? (i := 1175) (by decide +kernel)) (by decide)
theorem cw_1176 : Cond.fieldLink RX12 80 "VerandaWarModel" "roundAt" "[I" ∈ tb := tb_in (List.mem_of_getElem? (i := 1176) (by decide +kernel)) (by decide)
theorem cw_1177 : Cond.fieldLink RX12 83 "VerandaWarModel" "roundTimes" "[I" ∈ tb := tb_in (List.mem_of_getElem? (i := 1177) (by decide +kernel)) (by decide)
theorem cw_1188 : Cond.fieldLink RX12 86 "VerandaWarModel" "inAt" "[I" ∈ tb := tb_in (List.mem_of_getElem? (i := 1188) (by decide +kernel)) (by decide)
theorem cw_1189 : Cond.fieldLink RX12 89 "VerandaWarModel" "apartBy" "[I" ∈ tb := tb_in (List.mem_of_getElem? (i := 1189) (by decide +kernel)) (by decide)
theorem cw_1190 : Cond.fieldLink RX12 92 "VerandaWarModel" "risesTo" "[I" ∈ tb := tb_in (List.mem_of_getElem? (i := 1190) (by decide +kernel)) (by decide)
theorem cw_1191 : Cond.fieldLink RX12 95 "VerandaWarModel" "commonFrom" "[B" ∈ tb := tb_in (List.mem_of_getElem? (i := 1191) (by decide +kernel)) (by decide)
theorem cw_1192 : Cond.fieldLink RX12 98 "VerandaWarModel" "played" "[I" ∈ tb := tb_in (List.mem_of_getElem? (i := 1192) (by decide +kernel)) (by decide)
theorem cw_1193 : Cond.fieldLink RX12 101 "VerandaWarModel" "choice" "[I" ∈ tb := tb_in (List.mem_of_getElem? (i := 1193) (by decide +kernel)) (by decide)
theorem cw_1194 : Cond.fieldLink RX12 104 "VerandaWarModel" "bestOf" "[I" ∈ tb := tb_in (List.mem_of_getElem? (i := 1194) (by decide +kernel)) (by decide)
theorem cw_1195 : Cond.fieldLink RX12 107 "VerandaWarModel" "turnNow" "[I" ∈ tb := tb_in (List.mem_of_getElem? (i := 1195) (by decide +kernel)) (by decide)
theorem cw_1196 : Cond.fieldLink RX12 110 "VerandaWarModel" "firstOf" "[I" ∈ tb := tb_in (List.mem_of_getElem? (i := 1196) (by decide +kernel)) (by decide)
theorem cw_1197 : Cond.fieldLink RX12 113 "VerandaWarModel" "tricksAt" "[I" ∈ tb := tb_in (List.mem_of_getElem? (i := 1197) (by decide +kernel)) (by decide)
theorem cw_1201 : Cond.fieldLink RX12 116 "VerandaWarModel" "waysOf" "[I" ∈ tb := tb_in (List.mem_of_getElem? (i := 1201) (by decide +kernel)) (by decide)
theorem cw_1202 : Cond.fieldLink RX12 119 "VerandaWarModel" "eatenAt" "[I" ∈ tb := tb_in (List.mem_of_getElem? (i := 1202) (by decide +kernel)) (by decide)
theorem dflt0 : ∀ j, j < 5 → defaultValue (tyX0 j) = vp_V [.null, .int 0, .int 0, .int 0, .int 0] j := by decide
theorem dflt1 : ∀ j, j < 1 → defaultValue (tyX1 j) = vp_V [.null] j := by decide
theorem dflt2 : ∀ j, j < 7 → defaultValue (tyX2 j) = vp_V [.null, .null, .int 0, .int 0, .int 0, .int 0, .int 0] j := by decide
theorem dflt3 : ∀ j, j < 4 → defaultValue (tyX3 j) = vp_V [.null, .null, .int 0, .int 0] j := by decide
theorem dflt4 : ∀ j, j < 11 → defaultValue (tyX4 j) = vp_V [.null, .null, .null, .null, .null, .null, .null, .null, .int 0, .int 0, .int 0] j := by decide
theorem dflt5 : ∀ j, j < 2 → defaultValue (tyX5 j) = vp_V [.null, .null] j := by decide
theorem dflt6 : ∀ j, j < 2 → defaultValue (tyX6 j) = vp_V [.null, .int 0] j := by decide
theorem dflt7 : ∀ j, j < 2 → defaultValue (tyX7 j) = vp_V [.null, .int 0] j := by decide
theorem dflt8 : ∀ j, j < 5 → defaultValue (tyX8 j) = vp_V [.null, .int 0, .int 0, .int 0, .int 0] j := by decide
theorem dflt9 : ∀ j, j < 3 → defaultValue (tyX9 j) = vp_V [.null, .null, .null] j := by decide
theorem dflt10 : ∀ j, j < 9 → defaultValue (tyX10 j) = vp_V [.null, .null, .null, .null, .null, .int 0, .int 0, .int 0, .int 0] j := by decide
/-- the words of private members of nest mates -/
def nwV : List Cond := [.methodLinkNest RX11 31 yX8_init "VerandaWar", .methodLinkNest RX11 56 yX7_init "VerandaWar", .methodLinkNest RX11 69 yX1_init "VerandaWar", .methodLinkNest RX11 76 yX3_init "VerandaWar", .methodLinkNest RX11 83 yX0_init "VerandaWar", .methodLinkNest RX11 94 yX4_init "VerandaWar", .methodLinkNest RX6 46 yX11_within "VerandaWar", .methodLinkNest RX7 62 yX11_within "VerandaWar"]
theorem nw_VerandaWar_31 : Cond.methodLinkNest RX11 31 yX8_init "VerandaWar" ∈ nwV := List.mem_of_getElem? (i := 0) rfl
theorem nw_VerandaWar_56 : Cond.methodLinkNest RX11 56 yX7_init "VerandaWar" ∈ nwV := List.mem_of_getElem? (i := 1) rfl
theorem nw_VerandaWar_69 : Cond.methodLinkNest RX11 69 yX1_init "VerandaWar" ∈ nwV := List.mem_of_getElem? (i := 2) rfl
theorem nw_VerandaWar_76 : Cond.methodLinkNest RX11 76 yX3_init "VerandaWar" ∈ nwV := List.mem_of_getElem? (i := 3) rfl
theorem nw_VerandaWar_83 : Cond.methodLinkNest RX11 83 yX0_init "VerandaWar" ∈ nwV := List.mem_of_getElem? (i := 4) rfl
theorem nw_VerandaWar_94 : Cond.methodLinkNest RX11 94 yX4_init "VerandaWar" ∈ nwV := List.mem_of_getElem? (i := 5) rfl
theorem nw_VerandaWar_OrdersReader_46 : Cond.methodLinkNest RX6 46 yX11_within "VerandaWar" ∈ nwV := List.mem_of_getElem? (i := 6) rfl
theorem nw_VerandaWar_Signals_62 : Cond.methodLinkNest RX7 62 yX11_within "VerandaWar" ∈ nwV := List.mem_of_getElem? (i := 7) rfl
/-- a row filled -/
def fill (n : Nat) (x : Int32) (f : Nat → Int32) : Nat → Int32 := fun j => if j < n then x else f j
section
variable {w : ZS} {v : ZV} {l : Launch} {p : Program} {e : Env} {R : Room} {s : State} {m : MethodId} {args : Array Value} {below : List Frame} {meth : Method} {c : Code} {Q : State → Prop} {res : Hp} 
set_option maxRecDepth 20000 in
theorem lkgB_J7_fill_5 (hi : zInj w v) (xc : XC w v) (nx : True) (X : Cx w v p R s m args c 0 0 cJ7_fill_53178 4 RJ7 2) (rt : Rt w v p l e R s m args below meth c 0 0 Q cJ7_fill_53178 false none res) {k5 : Nat → Nat → Int32 → Int32 → Int32 → Hp → Option Hp} {r0 : Nat} {r0n : Nat} {x1 : Int32} {x2 : Int32} {x3 : Int32} {σ : Hp} (hr0 : r0 < w.1) (hr0n : w.2.1 r0 = (0, r0n)) (hk5 : ∀ (r0 : Nat) (r0n : Nat) (x1 : Int32) (x2 : Int32) (x3 : Int32) (σ : Hp), (hr0 : r0 < w.1) → (hr0n : w.2.1 r0 = (0, r0n)) → k5 r0 r0n x1 x2 x3 σ = some res → Go w v p l e R s m args below meth c 0 0 Q 4 5 [(0, .ref r0), (1, .int x1), (2, .int x2), (3, .int x3)] [] σ) (h : B_J7_fill_5  k5 r0 r0n x1 x2 x3 σ = some res) : Go w v p l e R s m args below meth c 0 0 Q 4 5 [(0, .ref r0), (1, .int x1), (2, .int x2), (3, .int x3)] [] σ := by
  unfold B_J7_fill_5 at h
  refine go_iload_n X 2 (dk dt_J7_fill_0 5 rfl) rfl rfl ?_
  refine go_iload_n X 3 (dk dt_J7_fill_0 6 rfl) rfl rfl ?_
  refine go_icmp_ge (tgt := 20) X (dk dt_J7_fill_0 7 rfl) (by decide) h (fun h => ?_) (fun h => ?_)
  · exact go_vret rt (dk dt_J7_fill_0 14 rfl) h
  · refine go_aload_n X 0 (dk dt_J7_fill_0 8 rfl) rfl rfl ?_
    refine go_iload_n X 2 (dk dt_J7_fill_0 9 rfl) rfl rfl ?_
    refine go_iload_n X 1 (dk dt_J7_fill_0 10 rfl) rfl rfl ?_
    refine go_iast X hr0 hr0n (dk dt_J7_fill_0 11 rfl) h (fun h => ?_)
    refine go_iinc (lv' := [(2, .int (x2 + (1 : Int32))), (0, .ref r0), (1, .int x1), (3, .int x3)]) X 2 (dk dt_J7_fill_0 12 rfl) rfl ci_1 (by decide) rfl ?_
    refine go_goto (tgt := 5) X (dk dt_J7_fill_0 13 rfl) (by decide) ?_
    refine go_sub [1, 2, 0, 3] rfl ?_
    exact hk5 _ _ _ _ _ _ hr0 hr0n h
set_option maxRecDepth 20000 in
theorem lkgL_J7_fill_5 (hi : zInj w v) (xc : XC w v) (nx : True) (X : Cx w v p R s m args c 0 0 cJ7_fill_53178 4 RJ7 2) (rt : Rt w v p l e R s m args below meth c 0 0 Q cJ7_fill_53178 false none res)   (n : Nat) : ∀ {r0 : Nat} {r0n : Nat} {x1 : Int32} {x2 : Int32} {x3 : Int32} {σ : Hp}, (hr0 : r0 < w.1) → (hr0n : w.2.1 r0 = (0, r0n)) → L_J7_fill_5   n r0 r0n x1 x2 x3 σ = some res → Go w v p l e R s m args below meth c 0 0 Q 4 5 [(0, .ref r0), (1, .int x1), (2, .int x2), (3, .int x3)] [] σ := by
  induction n with
  | zero => intro r0 r0n x1 x2 x3 σ hr0 hr0n h; cases h
  | succ n ih =>
    intro r0 r0n x1 x2 x3 σ hr0 hr0n h
    exact lkgB_J7_fill_5 hi xc nx X rt hr0 hr0n (fun _ _ _ _ _ _ hq0 hq1 hh => ih hq0 hq1 hh) h
set_option maxRecDepth 20000 in
theorem lkgF_J7_fill (hi : zInj w v) (xc : XC w v) (nx : True) (X : Cx w v p R s m args c 0 0 cJ7_fill_53178 4 RJ7 2) (rt : Rt w v p l e R s m args below meth c 0 0 Q cJ7_fill_53178 false none res) {a0 : Nat} {a0n : Nat} {a1 : Int32} {σ : Hp} (ha0 : a0 < w.1) (ha0n : w.2.1 a0 = (0, a0n)) (h : F_J7_fill  a0 a0n a1 σ = some res) : Go w v p l e R s m args below meth c 0 0 Q 4 0 [(0, .ref a0), (1, .int a1)] [] σ := by
  unfold F_J7_fill at h
  refine go_iconst X (dk dt_J7_fill_0 0 rfl) ci_0 ?_
  refine go_istore_n (lv' := [(2, .int (0 : Int32)), (0, .ref a0), (1, .int a1)]) X (dk dt_J7_fill_0 1 rfl) rfl (by decide) rfl ?_
  refine go_aload_n X 1 (dk dt_J7_fill_0 2 rfl) rfl rfl ?_
  refine go_ialen X ha0 ha0n rfl (dk dt_J7_fill_0 3 rfl) ?_
  refine go_istore_n (lv' := [(3, .int (Int32.ofNat a0n)), (2, .int (0 : Int32)), (0, .ref a0), (1, .int a1)]) X (dk dt_J7_fill_0 4 rfl) rfl (by decide) rfl ?_
  refine go_sub [2, 3, 1, 0] rfl ?_
  exact lkgL_J7_fill_5 hi xc nx X rt  FU ha0 ha0n h
set_option maxRecDepth 20000 in
theorem ctg_J7_fill (hi : zInj w v) (xc : XC w v) (nx : True)  {a0 : Nat} {a0n : Nat} {a1 : Int32} {σ : Hp} (ha0 : a0 < w.1) (ha0n : w.2.1 a0 = (0, a0n)) {q : Hp} (h : F_J7_fill  a0 a0n a1 σ = some q) : Ct w v l yJ7_fill_53178 cJ7_fill_53178 4 none 2 [.ref a0, .int a1] σ none q :=
  Ct.intro false (by decide) hi xc (Nat.le_of_ble_eq_true rfl) rfl (fun p e R s m args below meth c Q X rt => lkgF_J7_fill hi xc nx X rt ha0 ha0n h)
end
theorem zu_zr (σ : Hp) (k i : Nat) (x : Int32) (r : Nat → Int32) : zu (zr σ k r) k i x = zr σ k (upd r i x) := by
  funext j
  by_cases hj : j = k
  · subst hj; simp [zu, zr]
  · simp [zu, zr, hj]
theorem zr_id (σ : Hp) (k : Nat) : zr σ k (σ k) = σ := by
  funext j
  by_cases hj : j = k
  · subst hj; simp [zr]
  · simp [zr, hj]
theorem inb_nI {i n : Nat} (h : i < n) (hn : n < 2 ^ 31) : inb (nI i) n = true := by
  simp only [inb, Bool.and_eq_true, decide_eq_true_eq]
  exact ⟨nI_pos' (by omega), by rw [nI_clamp (by omega)]; exact h⟩
/-- the loop of Arrays.fill, from place i on -/
theorem fill_loop (a n : Nat) (x : Int32) (hn : n < 2 ^ 31) (σ : Hp) (f : Nat → Int32) : ∀ (k i N : Nat), n - i = k → i ≤ n → k < N →
    L_J7_fill_5 N a n x (nI i) (nI n) (zr σ a (fun j => if j < i then x else f j)) = some (zr σ a (fill n x f)) := by
  intro k
  induction k with
  | zero =>
    intro i N hk hi hN
    obtain ⟨N, rfl⟩ : ∃ M, N = M + 1 := ⟨N - 1, by omega⟩
    have : i = n := by omega
    subst this
    simp only [L_J7_fill_5, B_J7_fill_5]
    rw [if_pos (nI_le (Nat.le_refl _) hn)]
    rfl
  | succ k ih =>
    intro i N hk hi hN
    obtain ⟨N, rfl⟩ : ∃ M, N = M + 1 := ⟨N - 1, by omega⟩
    simp only [L_J7_fill_5, B_J7_fill_5]
    rw [if_neg (nI_ge (by omega) hn), gd_true (inb_nI (by omega) hn), nI_clamp (by omega), zu_zr, nI_1]
    have := ih (i + 1) N (by omega) (by omega) (by omega)
    rw [← this]
    congr 2
    funext j
    by_cases hj : j = i
    · subst hj; simp [upd]
    · by_cases h2 : j < i
      · simp [upd, hj, h2, show j < i + 1 by omega]
      · simp [upd, hj, h2, show ¬ j < i + 1 by omega]
theorem F_fill_eq (a n : Nat) (x : Int32) (hn : n < 1000000) (σ : Hp) : F_J7_fill a n x σ = some (zr σ a (fill n x (σ a))) := by
  have h := fill_loop a n x (by omega) σ (σ a) n 0 FU (by omega) (by omega) (by show n < 1000000; exact hn)
  simp only [Nat.not_lt_zero, if_false] at h
  have e : zr σ a (fun j => σ a j) = σ := zr_id σ a
  rw [e] at h
  exact h
def w1 (n : Nat) : ZS := (1, fun _ => (0, n), fun _ _ => 0)
section ZNF
variable {p : Program} {l : Launch} {e : Env} {R : Room} {s : State} {m : MethodId} {args : Array Value} {below : List Frame} {meth : Method} {c : Code} {H : Heap} {locs : List Loc} {cells slots : Nat} {Q : State → Prop} {cc : ByteArray} {pc nL : Nat} {ls : Array Slot} {rest : List Value} {D : va_G} {A : Nat → Prop} {ws : va_W} {cI cB : ClassId} {own : String}
theorem zn_fill (hx : p.tables.exec = Jvm.exec) (hb : c.code = cc) (hml : c.maxLocals = nL) (hown : s.vm.findClass own = some m.cls) (hts : ∀ x ∈ tb, x.before args s = true) (hK : va_K D vwCl [(cI, .int), (cB, .byte)] s) (hP : va_P D vwCl ws H) (hD : va_D A ws) (hS : va_S A s.heap H locs) (hA : ∀ q, s.heap.size ≤ q → A q) (ti : Nat) {a n ix : Nat} {f : Nat → Int32} {x : Int32} (hw : ws[ti]? = some (a, .inl (cI, n, .inl f))) (hn : n < 1000000) (ok : SOk own ix yJ7_fill_53178 cJ7_fill_53178 4 none 2) (hfr : 3 ≤ R.frames) (hlo : 180 ≤ R.locals) (hc : cells ≤ R.cells) (hs : slots ≤ R.slots) (hsz : ls.size = nL) (hd : decode cc pc = .ok (.invokestatic ix, 3))
    (kk : ∀ (H1 : Heap) (locs1 : List Loc), va_P D vwCl (ws.set ti (a, .inl (cI, n, .inl (fill n x f)))) H1 → va_D A (ws.set ti (a, .inl (cI, n, .inl (fill n x f)))) → va_S A s.heap H1 locs1 → W p l e R s m args below meth c H1 locs1 cells slots Q (F0 m (pc + 3) ls [])) : W p l e R s m args below meth c H locs cells slots Q (F0 m pc ls [.int x, .ref a]) := by
  obtain ⟨o1, o2, o4, o5, o6, o7⟩ := ok
  let v : ZV := (fun _ => a, D, cI, cB, fun _ => True)
  have hi : zInj (w1 n) v := fun i j h1 h2 _ => by
    have h1 : i < 1 := h1
    have h2 : j < 1 := h2
    omega
  have xc : XC (w1 n) v := ⟨fun _ _ _ _ _ => trivial, fun _ _ _ _ _ => trivial⟩
  let σ : Hp := fun _ => f
  have hct := ctg_J7_fill (l := l) (w := w1 n) (v := v) hi xc trivial (a0 := 0) (a0n := n) (a1 := x) (σ := σ) Nat.one_pos rfl (F_fill_eq 0 n x hn σ)
  have hzw : ∀ τ : Hp, zw (w1 n) v τ = [(a, .inl (cI, n, .inl (τ 0)))] := fun τ => rfl
  have hPz : zP (w1 n) v σ H := by
    show va_P D vwCl (zw (w1 n) v σ) H
    rw [hzw]
    exact hP.sub [ti] (by simp [hw]; rfl)
  have hAa : A a := hD.2 ti _ hw
  have hp : PreS s H (va_Pc ([Value.ref 0, .int x].map (cv v.1)) (fun U => U.heap.size = H.size ∧ zP (w1 n) v σ U.heap ∧ zK v U ∧ zX v U)) ([Value.ref 0, .int x].map (cv v.1)) :=
    ⟨fun a U g mk q => ⟨q.1, q.2.1, q.2.2.1, va_K.moved (u := U) (U := U.calling g mk a) (Vm.Alike.refl U.vm) q.2.2.2.1, trivial⟩, fun U hU hW => ⟨rfl, by rw [hU], by rw [hU]; exact hPz, va_K.moved hW.alike hK, trivial⟩⟩
  have hr := va_runS (l := l) (e := e) (below := below) (meth := meth) (locs := locs) (cells := cells) (slots := slots) (g := F0 m pc ls [.int x, .ref a]) (rest := []) (As := [Value.ref 0, .int x].map (cv v.1)) (Ts := tb) ⟨hx, hb, hml, hown, hts⟩ (hct H.size) (va_cwS 2 hts (goodIn_tb (fun y hy => by
    simp only [va_wsS, List.mem_append, List.mem_cons, List.not_mem_nil, or_false] at hy
    rcases hy with (rfl | rfl | rfl) | (rfl | hy)
    · exact o1
    · exact o2
    · exact o4
    · exact o5
    · exact hy)) rfl rfl rfl o6 ⟨by show 2 + 1 ≤ R.frames; exact hfr, by show 8 + (4 + 11) + 60 * 2 ≤ R.locals; omega⟩) hp rfl rfl hsz rfl (lv_room (Nat.zero_le _)) hd ⟨hc, hs⟩
  intro T hT X
  obtain ⟨r, st₀, t, T', L, h0, X', hL, e1, e2, ⟨⟨hv, hp1⟩, hz, hk⟩, st⟩ := hr T hT X
  cases hv
  rw [h0] at hz hk
  have hzA : ∀ q, zA (w1 n) v H.size q → A q := fun q h => by
    rcases h with ⟨k, -, rfl⟩ | h
    · exact hAa
    · exact hA q (Nat.le_trans hS.1 h)
  have hal : a < H.size := (hP ti _ hw).lt
  have hP1 : va_P D vwCl (ws.set ti (a, .inl (cI, n, .inl (fill n x f)))) T'.heap := by
    rw [e1]
    intro k q hkq
    by_cases hkt : k = ti
    · subst hkt
      rw [List.getElem?_set_self (List.getElem?_eq_some_iff.mp hw).1] at hkq
      cases hkq
      have := hp1 0 (a, .inl (cI, n, .inl (fill n x f))) (by rw [hzw]; simp [zr, σ])
      exact this
    · rw [List.getElem?_set_ne (Ne.symm hkt)] at hkq
      have hqa : q.1 ≠ a := fun h => hkt (hD.1 k ti q _ hkq hw h)
      refine (hP k q hkq).kept (hk q.1 (hP k q hkq).lt (fun h => ?_))
      rcases h with ⟨k2, -, h⟩ | h
      · exact hqa h
      · exact absurd (hP k q hkq).lt (by omega)
  have hS1 : va_S A s.heap T'.heap (locs ++ L) := ⟨Nat.le_trans hS.1 (by rw [e1]; exact hz), fun q h1 h2 => by rw [e1, hk q (Nat.lt_of_lt_of_le h1 hS.1) (fun z => h2 (hzA q z))]; exact hS.2.1 q h1 h2, fun q hq => by
      rcases List.mem_append.mp hq with h | h
      · exact hS.2.2 q h
      · exact hzA _ (hL q h)⟩
  obtain ⟨t2, a1, b1⟩ := kk T'.heap (locs ++ L) hP1 (hD.set hw) hS1 T' rfl X'
  exact ⟨t2, st t2 a1, b1⟩
end ZNF
