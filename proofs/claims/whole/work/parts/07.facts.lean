theorem fi_0_35 : FKi RX0 35 3 2 := ⟨⟨by decide, by decide, in_g (List.mem_of_getElem? (i := 295) (by decide +kernel)) rfl, rfl⟩, by decide +kernel⟩
theorem fi_0_41 : FKi RX0 41 5 1 := ⟨⟨by decide, by decide, in_g (List.mem_of_getElem? (i := 437) (by decide +kernel)) rfl, rfl⟩, by decide +kernel⟩
theorem fi_0_52 : FKi RX0 52 5 0 := ⟨⟨by decide, by decide, in_g (List.mem_of_getElem? (i := 434) (by decide +kernel)) rfl, rfl⟩, by decide +kernel⟩
theorem fi_0_87 : FKi RX0 87 5 3 := ⟨⟨by decide, by decide, in_g (List.mem_of_getElem? (i := 443) (by decide +kernel)) rfl, rfl⟩, by decide +kernel⟩
theorem fi_0_89 : FKi RX0 89 5 2 := ⟨⟨by decide, by decide, in_g (List.mem_of_getElem? (i := 440) (by decide +kernel)) rfl, rfl⟩, by decide +kernel⟩
theorem fi_0_92 : FKi RX0 92 3 4 := ⟨⟨by decide, by decide, in_g (List.mem_of_getElem? (i := 303) (by decide +kernel)) rfl, rfl⟩, by decide +kernel⟩
theorem fi_0_111 : FKi RX0 111 3 1 := ⟨⟨by decide, by decide, in_g (List.mem_of_getElem? (i := 291) (by decide +kernel)) rfl, rfl⟩, by decide +kernel⟩
theorem fi_2_9 : FKi RX2 9 2 2 := ⟨⟨by decide, by decide, in_g (List.mem_of_getElem? (i := 380) (by decide +kernel)) rfl, rfl⟩, by decide +kernel⟩
theorem fi_2_15 : FKi RX2 15 2 3 := ⟨⟨by decide, by decide, in_g (List.mem_of_getElem? (i := 381) (by decide +kernel)) rfl, rfl⟩, by decide +kernel⟩
theorem fi_2_18 : FKi RX2 18 2 4 := ⟨⟨by decide, by decide, in_g (List.mem_of_getElem? (i := 382) (by decide +kernel)) rfl, rfl⟩, by decide +kernel⟩
theorem fi_2_21 : FKi RX2 21 2 5 := ⟨⟨by decide, by decide, in_g (List.mem_of_getElem? (i := 383) (by decide +kernel)) rfl, rfl⟩, by decide +kernel⟩
theorem fi_2_24 : FKi RX2 24 2 6 := ⟨⟨by decide, by decide, in_g (List.mem_of_getElem? (i := 384) (by decide +kernel)) rfl, rfl⟩, by decide +kernel⟩
theorem fi_2_31 : FKi RX2 31 2 8 := ⟨⟨by decide, by decide, in_g (List.mem_of_getElem? (i := 386) (by decide +kernel)) rfl, rfl⟩, by decide +kernel⟩
theorem fi_2_34 : FKi RX2 34 2 9 := ⟨⟨by decide, by decide, in_g (List.mem_of_getElem? (i := 387) (by decide +kernel)) rfl, rfl⟩, by decide +kernel⟩
theorem fi_3_70 : FKi RX3 70 3 16 := ⟨⟨by decide, by decide, in_g (List.mem_of_getElem? (i := 336) (by decide +kernel)) rfl, rfl⟩, by decide +kernel⟩
theorem fi_4_18 : FKi RX4 18 4 2 := ⟨⟨by decide, by decide, in_g (List.mem_of_getElem? (i := 260) (by decide +kernel)) rfl, rfl⟩, by decide +kernel⟩
theorem fi_5_9 : FKi RX5 9 5 0 := ⟨⟨by decide, by decide, in_g (List.mem_of_getElem? (i := 433) (by decide +kernel)) rfl, rfl⟩, by decide +kernel⟩
theorem fi_5_15 : FKi RX5 15 5 1 := ⟨⟨by decide, by decide, in_g (List.mem_of_getElem? (i := 436) (by decide +kernel)) rfl, rfl⟩, by decide +kernel⟩
theorem fi_5_18 : FKi RX5 18 5 2 := ⟨⟨by decide, by decide, in_g (List.mem_of_getElem? (i := 439) (by decide +kernel)) rfl, rfl⟩, by decide +kernel⟩
theorem fi_5_21 : FKi RX5 21 5 3 := ⟨⟨by decide, by decide, in_g (List.mem_of_getElem? (i := 442) (by decide +kernel)) rfl, rfl⟩, by decide +kernel⟩
theorem fi_5_28 : FKi RX5 28 3 2 := ⟨⟨by decide, by decide, in_g (List.mem_of_getElem? (i := 294) (by decide +kernel)) rfl, rfl⟩, by decide +kernel⟩
theorem fi_5_33 : FKi RX5 33 3 3 := ⟨⟨by decide, by decide, in_g (List.mem_of_getElem? (i := 299) (by decide +kernel)) rfl, rfl⟩, by decide +kernel⟩
theorem fi_6_17 : FKi RX6 17 6 1 := ⟨⟨by decide, by decide, in_g (List.mem_of_getElem? (i := 518) (by decide +kernel)) rfl, rfl⟩, by decide +kernel⟩
theorem fi_6_21 : FKi RX6 21 6 2 := ⟨⟨by decide, by decide, in_g (List.mem_of_getElem? (i := 519) (by decide +kernel)) rfl, rfl⟩, by decide +kernel⟩
theorem fi_6_33 : FKi RX6 33 6 5 := ⟨⟨by decide, by decide, in_g (List.mem_of_getElem? (i := 523) (by decide +kernel)) rfl, rfl⟩, by decide +kernel⟩
theorem fi_8_9 : FKi RX8 9 8 2 := ⟨⟨by decide, by decide, in_g (List.mem_of_getElem? (i := 417) (by decide +kernel)) rfl, rfl⟩, by decide +kernel⟩
theorem fi_8_58 : FKi RX8 58 9 4 := ⟨⟨by decide, by decide, in_g (List.mem_of_getElem? (i := 194) (by decide +kernel)) rfl, rfl⟩, by decide +kernel⟩
theorem fi_8_69 : FKi RX8 69 3 0 := ⟨⟨by decide, by decide, in_g (List.mem_of_getElem? (i := 287) (by decide +kernel)) rfl, rfl⟩, by decide +kernel⟩
theorem fi_8_76 : FKi RX8 76 3 1 := ⟨⟨by decide, by decide, in_g (List.mem_of_getElem? (i := 290) (by decide +kernel)) rfl, rfl⟩, by decide +kernel⟩
theorem fi_8_92 : FKi RX8 92 3 2 := ⟨⟨by decide, by decide, in_g (List.mem_of_getElem? (i := 296) (by decide +kernel)) rfl, rfl⟩, by decide +kernel⟩
theorem fi_8_108 : FKi RX8 108 3 3 := ⟨⟨by decide, by decide, in_g (List.mem_of_getElem? (i := 300) (by decide +kernel)) rfl, rfl⟩, by decide +kernel⟩
theorem fi_10_13 : FKi RX10 13 10 1 := ⟨⟨by decide, by decide, in_g (List.mem_of_getElem? (i := 539) (by decide +kernel)) rfl, rfl⟩, by decide +kernel⟩
theorem fi_10_94 : FKi RX10 94 10 14 := ⟨⟨by decide, by decide, in_g (List.mem_of_getElem? (i := 552) (by decide +kernel)) rfl, rfl⟩, by decide +kernel⟩
theorem fi_10_97 : FKi RX10 97 10 15 := ⟨⟨by decide, by decide, in_g (List.mem_of_getElem? (i := 553) (by decide +kernel)) rfl, rfl⟩, by decide +kernel⟩
theorem fi_10_124 : FKi RX10 124 9 4 := ⟨⟨by decide, by decide, in_g (List.mem_of_getElem? (i := 195) (by decide +kernel)) rfl, rfl⟩, by decide +kernel⟩
theorem fi_10_127 : FKi RX10 127 9 5 := ⟨⟨by decide, by decide, in_g (List.mem_of_getElem? (i := 197) (by decide +kernel)) rfl, rfl⟩, by decide +kernel⟩
theorem fi_10_165 : FKi RX10 165 5 1 := ⟨⟨by decide, by decide, in_g (List.mem_of_getElem? (i := 438) (by decide +kernel)) rfl, rfl⟩, by decide +kernel⟩
theorem fi_10_186 : FKi RX10 186 5 0 := ⟨⟨by decide, by decide, in_g (List.mem_of_getElem? (i := 435) (by decide +kernel)) rfl, rfl⟩, by decide +kernel⟩
theorem fi_10_203 : FKi RX10 203 5 2 := ⟨⟨by decide, by decide, in_g (List.mem_of_getElem? (i := 441) (by decide +kernel)) rfl, rfl⟩, by decide +kernel⟩
theorem fi_10_209 : FKi RX10 209 3 2 := ⟨⟨by decide, by decide, in_g (List.mem_of_getElem? (i := 297) (by decide +kernel)) rfl, rfl⟩, by decide +kernel⟩
theorem fi_10_212 : FKi RX10 212 5 3 := ⟨⟨by decide, by decide, in_g (List.mem_of_getElem? (i := 444) (by decide +kernel)) rfl, rfl⟩, by decide +kernel⟩
theorem fi_10_225 : FKi RX10 225 3 5 := ⟨⟨by decide, by decide, in_g (List.mem_of_getElem? (i := 307) (by decide +kernel)) rfl, rfl⟩, by decide +kernel⟩
theorem fi_10_242 : FKi RX10 242 3 1 := ⟨⟨by decide, by decide, in_g (List.mem_of_getElem? (i := 292) (by decide +kernel)) rfl, rfl⟩, by decide +kernel⟩
theorem fi_10_289 : FKi RX10 289 3 0 := ⟨⟨by decide, by decide, in_g (List.mem_of_getElem? (i := 288) (by decide +kernel)) rfl, rfl⟩, by decide +kernel⟩
theorem fi_10_325 : FKi RX10 325 6 2 := ⟨⟨by decide, by decide, in_g (List.mem_of_getElem? (i := 520) (by decide +kernel)) rfl, rfl⟩, by decide +kernel⟩
theorem fi_10_328 : FKi RX10 328 6 5 := ⟨⟨by decide, by decide, in_g (List.mem_of_getElem? (i := 524) (by decide +kernel)) rfl, rfl⟩, by decide +kernel⟩
theorem fi_10_331 : FKi RX10 331 3 4 := ⟨⟨by decide, by decide, in_g (List.mem_of_getElem? (i := 304) (by decide +kernel)) rfl, rfl⟩, by decide +kernel⟩
theorem fi_11_37 : FKi RX11 37 11 17 := ⟨⟨by decide, by decide, in_g (List.mem_of_getElem? (i := 1266) (by decide +kernel)) rfl, rfl⟩, by decide +kernel⟩
theorem fi_11_187 : FKi RX11 187 11 2 := ⟨⟨by decide, by decide, in_g (List.mem_of_getElem? (i := 1251) (by decide +kernel)) rfl, rfl⟩, by decide +kernel⟩
theorem fi_11_193 : FKi RX11 193 11 4 := ⟨⟨by decide, by decide, in_g (List.mem_of_getElem? (i := 1253) (by decide +kernel)) rfl, rfl⟩, by decide +kernel⟩
theorem fi_11_202 : FKi RX11 202 11 10 := ⟨⟨by decide, by decide, in_g (List.mem_of_getElem? (i := 1259) (by decide +kernel)) rfl, rfl⟩, by decide +kernel⟩
theorem fi_11_224 : FKi RX11 224 11 13 := ⟨⟨by decide, by decide, in_g (List.mem_of_getElem? (i := 1262) (by decide +kernel)) rfl, rfl⟩, by decide +kernel⟩
theorem fi_11_227 : FKi RX11 227 11 11 := ⟨⟨by decide, by decide, in_g (List.mem_of_getElem? (i := 1260) (by decide +kernel)) rfl, rfl⟩, by decide +kernel⟩
theorem fi_11_230 : FKi RX11 230 11 14 := ⟨⟨by decide, by decide, in_g (List.mem_of_getElem? (i := 1263) (by decide +kernel)) rfl, rfl⟩, by decide +kernel⟩
theorem fi_11_233 : FKi RX11 233 11 15 := ⟨⟨by decide, by decide, in_g (List.mem_of_getElem? (i := 1264) (by decide +kernel)) rfl, rfl⟩, by decide +kernel⟩
theorem fi_11_236 : FKi RX11 236 11 16 := ⟨⟨by decide, by decide, in_g (List.mem_of_getElem? (i := 1265) (by decide +kernel)) rfl, rfl⟩, by decide +kernel⟩
theorem fi_11_251 : FKi RX11 251 11 12 := ⟨⟨by decide, by decide, in_g (List.mem_of_getElem? (i := 1261) (by decide +kernel)) rfl, rfl⟩, by decide +kernel⟩
theorem fi_11_254 : FKi RX11 254 11 18 := ⟨⟨by decide, by decide, in_g (List.mem_of_getElem? (i := 1267) (by decide +kernel)) rfl, rfl⟩, by decide +kernel⟩
theorem fi_11_257 : FKi RX11 257 11 19 := ⟨⟨by decide, by decide, in_g (List.mem_of_getElem? (i := 1268) (by decide +kernel)) rfl, rfl⟩, by decide +kernel⟩
theorem fi_11_260 : FKi RX11 260 11 20 := ⟨⟨by decide, by decide, in_g (List.mem_of_getElem? (i := 1269) (by decide +kernel)) rfl, rfl⟩, by decide +kernel⟩
theorem fi_11_263 : FKi RX11 263 11 41 := ⟨⟨by decide, by decide, in_g (List.mem_of_getElem? (i := 1290) (by decide +kernel)) rfl, rfl⟩, by decide +kernel⟩
theorem fi_11_266 : FKi RX11 266 11 47 := ⟨⟨by decide, by decide, in_g (List.mem_of_getElem? (i := 1296) (by decide +kernel)) rfl, rfl⟩, by decide +kernel⟩
theorem fi_11_272 : FKi RX11 272 11 63 := ⟨⟨by decide, by decide, in_g (List.mem_of_getElem? (i := 1312) (by decide +kernel)) rfl, rfl⟩, by decide +kernel⟩
theorem fi_11_275 : FKi RX11 275 11 69 := ⟨⟨by decide, by decide, in_g (List.mem_of_getElem? (i := 1318) (by decide +kernel)) rfl, rfl⟩, by decide +kernel⟩
theorem fi_11_323 : FKi RX11 323 11 51 := ⟨⟨by decide, by decide, in_g (List.mem_of_getElem? (i := 1300) (by decide +kernel)) rfl, rfl⟩, by decide +kernel⟩
theorem fi_11_336 : FKi RX11 336 11 54 := ⟨⟨by decide, by decide, in_g (List.mem_of_getElem? (i := 1303) (by decide +kernel)) rfl, rfl⟩, by decide +kernel⟩
theorem fi_11_344 : FKi RX11 344 11 57 := ⟨⟨by decide, by decide, in_g (List.mem_of_getElem? (i := 1306) (by decide +kernel)) rfl, rfl⟩, by decide +kernel⟩
theorem fi_11_347 : FKi RX11 347 11 58 := ⟨⟨by decide, by decide, in_g (List.mem_of_getElem? (i := 1307) (by decide +kernel)) rfl, rfl⟩, by decide +kernel⟩
theorem fi_11_350 : FKi RX11 350 11 59 := ⟨⟨by decide, by decide, in_g (List.mem_of_getElem? (i := 1308) (by decide +kernel)) rfl, rfl⟩, by decide +kernel⟩
theorem fr_0_9 : FKr RX0 9 0 2 := ⟨⟨by decide, by decide, in_g (List.mem_of_getElem? (i := 468) (by decide +kernel)) rfl, rfl⟩, by decide +kernel⟩
theorem fr_0_15 : FKr RX0 15 0 3 := ⟨⟨by decide, by decide, in_g (List.mem_of_getElem? (i := 469) (by decide +kernel)) rfl, rfl⟩, by decide +kernel⟩
theorem fr_0_18 : FKr RX0 18 0 4 := ⟨⟨by decide, by decide, in_g (List.mem_of_getElem? (i := 470) (by decide +kernel)) rfl, rfl⟩, by decide +kernel⟩
theorem fr_0_21 : FKr RX0 21 0 5 := ⟨⟨by decide, by decide, in_g (List.mem_of_getElem? (i := 471) (by decide +kernel)) rfl, rfl⟩, by decide +kernel⟩
theorem fr_0_24 : FKr RX0 24 0 6 := ⟨⟨by decide, by decide, in_g (List.mem_of_getElem? (i := 472) (by decide +kernel)) rfl, rfl⟩, by decide +kernel⟩
theorem fr_0_27 : FKr RX0 27 0 0 := ⟨⟨by decide, by decide, in_g (List.mem_of_getElem? (i := 465) (by decide +kernel)) rfl, rfl⟩, by decide +kernel⟩
theorem fr_0_31 : FKr RX0 31 0 1 := ⟨⟨by decide, by decide, in_g (List.mem_of_getElem? (i := 466) (by decide +kernel)) rfl, rfl⟩, by decide +kernel⟩
theorem fr_0_46 : FKr RX0 46 5 4 := ⟨⟨by decide, by decide, in_g (List.mem_of_getElem? (i := 446) (by decide +kernel)) rfl, rfl⟩, by decide +kernel⟩
theorem fr_0_49 : FKr RX0 49 3 10 := ⟨⟨by decide, by decide, in_g (List.mem_of_getElem? (i := 324) (by decide +kernel)) rfl, rfl⟩, by decide +kernel⟩
theorem fr_0_55 : FKr RX0 55 3 12 := ⟨⟨by decide, by decide, in_g (List.mem_of_getElem? (i := 332) (by decide +kernel)) rfl, rfl⟩, by decide +kernel⟩
theorem fr_0_65 : FKr RX0 65 1 4 := ⟨⟨by decide, by decide, in_g (List.mem_of_getElem? (i := 239) (by decide +kernel)) rfl, rfl⟩, by decide +kernel⟩
theorem fr_0_70 : FKr RX0 70 1 3 := ⟨⟨by decide, by decide, in_g (List.mem_of_getElem? (i := 236) (by decide +kernel)) rfl, rfl⟩, by decide +kernel⟩
theorem fr_0_99 : FKr RX0 99 3 8 := ⟨⟨by decide, by decide, in_g (List.mem_of_getElem? (i := 319) (by decide +kernel)) rfl, rfl⟩, by decide +kernel⟩
theorem fr_0_102 : FKr RX0 102 1 0 := ⟨⟨by decide, by decide, in_g (List.mem_of_getElem? (i := 227) (by decide +kernel)) rfl, rfl⟩, by decide +kernel⟩
theorem fr_0_105 : FKr RX0 105 1 1 := ⟨⟨by decide, by decide, in_g (List.mem_of_getElem? (i := 230) (by decide +kernel)) rfl, rfl⟩, by decide +kernel⟩
theorem fr_0_108 : FKr RX0 108 1 2 := ⟨⟨by decide, by decide, in_g (List.mem_of_getElem? (i := 233) (by decide +kernel)) rfl, rfl⟩, by decide +kernel⟩
theorem fr_0_150 : FKr RX0 150 3 6 := ⟨⟨by decide, by decide, in_g (List.mem_of_getElem? (i := 311) (by decide +kernel)) rfl, rfl⟩, by decide +kernel⟩
theorem fr_0_156 : FKr RX0 156 3 7 := ⟨⟨by decide, by decide, in_g (List.mem_of_getElem? (i := 315) (by decide +kernel)) rfl, rfl⟩, by decide +kernel⟩
theorem fr_1_9 : FKr RX1 9 1 0 := ⟨⟨by decide, by decide, in_g (List.mem_of_getElem? (i := 226) (by decide +kernel)) rfl, rfl⟩, by decide +kernel⟩
theorem fr_1_15 : FKr RX1 15 1 1 := ⟨⟨by decide, by decide, in_g (List.mem_of_getElem? (i := 229) (by decide +kernel)) rfl, rfl⟩, by decide +kernel⟩
theorem fr_1_18 : FKr RX1 18 1 2 := ⟨⟨by decide, by decide, in_g (List.mem_of_getElem? (i := 232) (by decide +kernel)) rfl, rfl⟩, by decide +kernel⟩
theorem fr_1_21 : FKr RX1 21 1 3 := ⟨⟨by decide, by decide, in_g (List.mem_of_getElem? (i := 235) (by decide +kernel)) rfl, rfl⟩, by decide +kernel⟩
theorem fr_1_24 : FKr RX1 24 1 4 := ⟨⟨by decide, by decide, in_g (List.mem_of_getElem? (i := 238) (by decide +kernel)) rfl, rfl⟩, by decide +kernel⟩
theorem fr_2_27 : FKr RX2 27 2 7 := ⟨⟨by decide, by decide, in_g (List.mem_of_getElem? (i := 385) (by decide +kernel)) rfl, rfl⟩, by decide +kernel⟩
theorem fr_2_37 : FKr RX2 37 2 0 := ⟨⟨by decide, by decide, in_g (List.mem_of_getElem? (i := 378) (by decide +kernel)) rfl, rfl⟩, by decide +kernel⟩
theorem fr_2_41 : FKr RX2 41 3 12 := ⟨⟨by decide, by decide, in_g (List.mem_of_getElem? (i := 330) (by decide +kernel)) rfl, rfl⟩, by decide +kernel⟩
theorem fr_2_47 : FKr RX2 47 2 1 := ⟨⟨by decide, by decide, in_g (List.mem_of_getElem? (i := 379) (by decide +kernel)) rfl, rfl⟩, by decide +kernel⟩
theorem fr_2_48 : FKr RX2 48 9 0 := ⟨⟨by decide, by decide, in_g (List.mem_of_getElem? (i := 187) (by decide +kernel)) rfl, rfl⟩, by decide +kernel⟩
theorem fr_2_109 : FKr RX2 109 9 2 := ⟨⟨by decide, by decide, in_g (List.mem_of_getElem? (i := 191) (by decide +kernel)) rfl, rfl⟩, by decide +kernel⟩
theorem fr_3_56 : FKr RX3 56 3 12 := ⟨⟨by decide, by decide, in_g (List.mem_of_getElem? (i := 331) (by decide +kernel)) rfl, rfl⟩, by decide +kernel⟩
theorem fr_3_60 : FKr RX3 60 3 13 := ⟨⟨by decide, by decide, in_g (List.mem_of_getElem? (i := 333) (by decide +kernel)) rfl, rfl⟩, by decide +kernel⟩
theorem fr_3_64 : FKr RX3 64 3 14 := ⟨⟨by decide, by decide, in_g (List.mem_of_getElem? (i := 334) (by decide +kernel)) rfl, rfl⟩, by decide +kernel⟩
theorem fr_3_67 : FKr RX3 67 3 15 := ⟨⟨by decide, by decide, in_g (List.mem_of_getElem? (i := 335) (by decide +kernel)) rfl, rfl⟩, by decide +kernel⟩
theorem fr_4_9 : FKr RX4 9 4 0 := ⟨⟨by decide, by decide, in_g (List.mem_of_getElem? (i := 258) (by decide +kernel)) rfl, rfl⟩, by decide +kernel⟩
theorem fr_4_15 : FKr RX4 15 4 1 := ⟨⟨by decide, by decide, in_g (List.mem_of_getElem? (i := 259) (by decide +kernel)) rfl, rfl⟩, by decide +kernel⟩
theorem fr_4_22 : FKr RX4 22 4 3 := ⟨⟨by decide, by decide, in_g (List.mem_of_getElem? (i := 261) (by decide +kernel)) rfl, rfl⟩, by decide +kernel⟩
theorem fr_4_25 : FKr RX4 25 4 4 := ⟨⟨by decide, by decide, in_g (List.mem_of_getElem? (i := 262) (by decide +kernel)) rfl, rfl⟩, by decide +kernel⟩
theorem fr_5_24 : FKr RX5 24 5 4 := ⟨⟨by decide, by decide, in_g (List.mem_of_getElem? (i := 445) (by decide +kernel)) rfl, rfl⟩, by decide +kernel⟩
theorem fr_5_34 : FKr RX5 34 3 9 := ⟨⟨by decide, by decide, in_g (List.mem_of_getElem? (i := 321) (by decide +kernel)) rfl, rfl⟩, by decide +kernel⟩
theorem fr_6_11 : FKr RX6 11 6 0 := ⟨⟨by decide, by decide, in_g (List.mem_of_getElem? (i := 517) (by decide +kernel)) rfl, rfl⟩, by decide +kernel⟩
theorem fr_6_24 : FKr RX6 24 6 3 := ⟨⟨by decide, by decide, in_g (List.mem_of_getElem? (i := 521) (by decide +kernel)) rfl, rfl⟩, by decide +kernel⟩
theorem fr_6_29 : FKr RX6 29 6 4 := ⟨⟨by decide, by decide, in_g (List.mem_of_getElem? (i := 522) (by decide +kernel)) rfl, rfl⟩, by decide +kernel⟩
theorem fr_7_9 : FKr RX7 9 7 0 := ⟨⟨by decide, by decide, in_g (List.mem_of_getElem? (i := 495) (by decide +kernel)) rfl, rfl⟩, by decide +kernel⟩
theorem fr_7_15 : FKr RX7 15 7 1 := ⟨⟨by decide, by decide, in_g (List.mem_of_getElem? (i := 496) (by decide +kernel)) rfl, rfl⟩, by decide +kernel⟩
theorem fr_7_18 : FKr RX7 18 7 2 := ⟨⟨by decide, by decide, in_g (List.mem_of_getElem? (i := 497) (by decide +kernel)) rfl, rfl⟩, by decide +kernel⟩
theorem fr_8_15 : FKr RX8 15 8 0 := ⟨⟨by decide, by decide, in_g (List.mem_of_getElem? (i := 415) (by decide +kernel)) rfl, rfl⟩, by decide +kernel⟩
theorem fr_8_19 : FKr RX8 19 8 1 := ⟨⟨by decide, by decide, in_g (List.mem_of_getElem? (i := 416) (by decide +kernel)) rfl, rfl⟩, by decide +kernel⟩
theorem fr_8_23 : FKr RX8 23 9 0 := ⟨⟨by decide, by decide, in_g (List.mem_of_getElem? (i := 186) (by decide +kernel)) rfl, rfl⟩, by decide +kernel⟩
theorem fr_8_79 : FKr RX8 79 3 6 := ⟨⟨by decide, by decide, in_g (List.mem_of_getElem? (i := 309) (by decide +kernel)) rfl, rfl⟩, by decide +kernel⟩
theorem fr_8_82 : FKr RX8 82 3 7 := ⟨⟨by decide, by decide, in_g (List.mem_of_getElem? (i := 313) (by decide +kernel)) rfl, rfl⟩, by decide +kernel⟩
theorem fr_8_85 : FKr RX8 85 3 8 := ⟨⟨by decide, by decide, in_g (List.mem_of_getElem? (i := 317) (by decide +kernel)) rfl, rfl⟩, by decide +kernel⟩
theorem fr_8_95 : FKr RX8 95 3 9 := ⟨⟨by decide, by decide, in_g (List.mem_of_getElem? (i := 322) (by decide +kernel)) rfl, rfl⟩, by decide +kernel⟩
theorem fr_8_98 : FKr RX8 98 3 10 := ⟨⟨by decide, by decide, in_g (List.mem_of_getElem? (i := 325) (by decide +kernel)) rfl, rfl⟩, by decide +kernel⟩
theorem fr_8_104 : FKr RX8 104 3 11 := ⟨⟨by decide, by decide, in_g (List.mem_of_getElem? (i := 328) (by decide +kernel)) rfl, rfl⟩, by decide +kernel⟩
theorem fr_8_117 : FKr RX8 117 9 2 := ⟨⟨by decide, by decide, in_g (List.mem_of_getElem? (i := 190) (by decide +kernel)) rfl, rfl⟩, by decide +kernel⟩
theorem fr_9_9 : FKr RX9 9 9 0 := ⟨⟨by decide, by decide, in_g (List.mem_of_getElem? (i := 185) (by decide +kernel)) rfl, rfl⟩, by decide +kernel⟩
theorem fr_9_15 : FKr RX9 15 9 1 := ⟨⟨by decide, by decide, in_g (List.mem_of_getElem? (i := 188) (by decide +kernel)) rfl, rfl⟩, by decide +kernel⟩
theorem fr_9_18 : FKr RX9 18 9 2 := ⟨⟨by decide, by decide, in_g (List.mem_of_getElem? (i := 189) (by decide +kernel)) rfl, rfl⟩, by decide +kernel⟩
theorem fr_9_22 : FKr RX9 22 9 3 := ⟨⟨by decide, by decide, in_g (List.mem_of_getElem? (i := 192) (by decide +kernel)) rfl, rfl⟩, by decide +kernel⟩
theorem fr_10_9 : FKr RX10 9 10 0 := ⟨⟨by decide, by decide, in_g (List.mem_of_getElem? (i := 538) (by decide +kernel)) rfl, rfl⟩, by decide +kernel⟩
theorem fr_10_20 : FKr RX10 20 10 2 := ⟨⟨by decide, by decide, in_g (List.mem_of_getElem? (i := 540) (by decide +kernel)) rfl, rfl⟩, by decide +kernel⟩
theorem fr_10_27 : FKr RX10 27 10 3 := ⟨⟨by decide, by decide, in_g (List.mem_of_getElem? (i := 541) (by decide +kernel)) rfl, rfl⟩, by decide +kernel⟩
theorem fr_10_31 : FKr RX10 31 10 4 := ⟨⟨by decide, by decide, in_g (List.mem_of_getElem? (i := 542) (by decide +kernel)) rfl, rfl⟩, by decide +kernel⟩
theorem fr_10_39 : FKr RX10 39 10 5 := ⟨⟨by decide, by decide, in_g (List.mem_of_getElem? (i := 543) (by decide +kernel)) rfl, rfl⟩, by decide +kernel⟩
theorem fr_10_46 : FKr RX10 46 10 6 := ⟨⟨by decide, by decide, in_g (List.mem_of_getElem? (i := 544) (by decide +kernel)) rfl, rfl⟩, by decide +kernel⟩
theorem fr_10_53 : FKr RX10 53 10 7 := ⟨⟨by decide, by decide, in_g (List.mem_of_getElem? (i := 545) (by decide +kernel)) rfl, rfl⟩, by decide +kernel⟩
theorem fr_10_60 : FKr RX10 60 10 8 := ⟨⟨by decide, by decide, in_g (List.mem_of_getElem? (i := 546) (by decide +kernel)) rfl, rfl⟩, by decide +kernel⟩
theorem fr_10_64 : FKr RX10 64 10 9 := ⟨⟨by decide, by decide, in_g (List.mem_of_getElem? (i := 547) (by decide +kernel)) rfl, rfl⟩, by decide +kernel⟩
theorem fr_10_72 : FKr RX10 72 10 10 := ⟨⟨by decide, by decide, in_g (List.mem_of_getElem? (i := 548) (by decide +kernel)) rfl, rfl⟩, by decide +kernel⟩
theorem fr_10_79 : FKr RX10 79 10 11 := ⟨⟨by decide, by decide, in_g (List.mem_of_getElem? (i := 549) (by decide +kernel)) rfl, rfl⟩, by decide +kernel⟩
theorem fr_10_86 : FKr RX10 86 10 12 := ⟨⟨by decide, by decide, in_g (List.mem_of_getElem? (i := 550) (by decide +kernel)) rfl, rfl⟩, by decide +kernel⟩
theorem fr_10_90 : FKr RX10 90 10 13 := ⟨⟨by decide, by decide, in_g (List.mem_of_getElem? (i := 551) (by decide +kernel)) rfl, rfl⟩, by decide +kernel⟩
theorem fr_10_100 : FKr RX10 100 10 16 := ⟨⟨by decide, by decide, in_g (List.mem_of_getElem? (i := 554) (by decide +kernel)) rfl, rfl⟩, by decide +kernel⟩
theorem fr_10_134 : FKr RX10 134 3 6 := ⟨⟨by decide, by decide, in_g (List.mem_of_getElem? (i := 310) (by decide +kernel)) rfl, rfl⟩, by decide +kernel⟩
theorem fr_10_137 : FKr RX10 137 3 7 := ⟨⟨by decide, by decide, in_g (List.mem_of_getElem? (i := 314) (by decide +kernel)) rfl, rfl⟩, by decide +kernel⟩
theorem fr_10_140 : FKr RX10 140 3 8 := ⟨⟨by decide, by decide, in_g (List.mem_of_getElem? (i := 318) (by decide +kernel)) rfl, rfl⟩, by decide +kernel⟩
theorem fr_10_159 : FKr RX10 159 5 4 := ⟨⟨by decide, by decide, in_g (List.mem_of_getElem? (i := 447) (by decide +kernel)) rfl, rfl⟩, by decide +kernel⟩
theorem fr_10_162 : FKr RX10 162 3 10 := ⟨⟨by decide, by decide, in_g (List.mem_of_getElem? (i := 326) (by decide +kernel)) rfl, rfl⟩, by decide +kernel⟩
theorem fr_10_177 : FKr RX10 177 1 0 := ⟨⟨by decide, by decide, in_g (List.mem_of_getElem? (i := 228) (by decide +kernel)) rfl, rfl⟩, by decide +kernel⟩
theorem fr_10_180 : FKr RX10 180 1 1 := ⟨⟨by decide, by decide, in_g (List.mem_of_getElem? (i := 231) (by decide +kernel)) rfl, rfl⟩, by decide +kernel⟩
theorem fr_10_183 : FKr RX10 183 1 2 := ⟨⟨by decide, by decide, in_g (List.mem_of_getElem? (i := 234) (by decide +kernel)) rfl, rfl⟩, by decide +kernel⟩
theorem fr_10_189 : FKr RX10 189 1 3 := ⟨⟨by decide, by decide, in_g (List.mem_of_getElem? (i := 237) (by decide +kernel)) rfl, rfl⟩, by decide +kernel⟩
theorem fr_10_192 : FKr RX10 192 1 4 := ⟨⟨by decide, by decide, in_g (List.mem_of_getElem? (i := 240) (by decide +kernel)) rfl, rfl⟩, by decide +kernel⟩
theorem fr_10_282 : FKr RX10 282 0 6 := ⟨⟨by decide, by decide, in_g (List.mem_of_getElem? (i := 473) (by decide +kernel)) rfl, rfl⟩, by decide +kernel⟩
theorem fr_10_342 : FKr RX10 342 3 11 := ⟨⟨by decide, by decide, in_g (List.mem_of_getElem? (i := 329) (by decide +kernel)) rfl, rfl⟩, by decide +kernel⟩
theorem fr_11_13 : FKr RX11 13 11 1 := ⟨⟨by decide, by decide, in_g (List.mem_of_getElem? (i := 1250) (by decide +kernel)) rfl, rfl⟩, by decide +kernel⟩
theorem fr_11_17 : FKr RX11 17 11 3 := ⟨⟨by decide, by decide, in_g (List.mem_of_getElem? (i := 1252) (by decide +kernel)) rfl, rfl⟩, by decide +kernel⟩
theorem fr_11_20 : FKr RX11 20 11 5 := ⟨⟨by decide, by decide, in_g (List.mem_of_getElem? (i := 1254) (by decide +kernel)) rfl, rfl⟩, by decide +kernel⟩
theorem fr_11_24 : FKr RX11 24 11 6 := ⟨⟨by decide, by decide, in_g (List.mem_of_getElem? (i := 1255) (by decide +kernel)) rfl, rfl⟩, by decide +kernel⟩
theorem fr_11_27 : FKr RX11 27 11 7 := ⟨⟨by decide, by decide, in_g (List.mem_of_getElem? (i := 1256) (by decide +kernel)) rfl, rfl⟩, by decide +kernel⟩
theorem fr_11_30 : FKr RX11 30 11 8 := ⟨⟨by decide, by decide, in_g (List.mem_of_getElem? (i := 1257) (by decide +kernel)) rfl, rfl⟩, by decide +kernel⟩
theorem fr_11_34 : FKr RX11 34 11 9 := ⟨⟨by decide, by decide, in_g (List.mem_of_getElem? (i := 1258) (by decide +kernel)) rfl, rfl⟩, by decide +kernel⟩
theorem fr_11_40 : FKr RX11 40 11 21 := ⟨⟨by decide, by decide, in_g (List.mem_of_getElem? (i := 1270) (by decide +kernel)) rfl, rfl⟩, by decide +kernel⟩
theorem fr_11_43 : FKr RX11 43 11 22 := ⟨⟨by decide, by decide, in_g (List.mem_of_getElem? (i := 1271) (by decide +kernel)) rfl, rfl⟩, by decide +kernel⟩
theorem fr_11_46 : FKr RX11 46 11 23 := ⟨⟨by decide, by decide, in_g (List.mem_of_getElem? (i := 1272) (by decide +kernel)) rfl, rfl⟩, by decide +kernel⟩
theorem fr_11_49 : FKr RX11 49 11 24 := ⟨⟨by decide, by decide, in_g (List.mem_of_getElem? (i := 1273) (by decide +kernel)) rfl, rfl⟩, by decide +kernel⟩
theorem fr_11_52 : FKr RX11 52 11 25 := ⟨⟨by decide, by decide, in_g (List.mem_of_getElem? (i := 1274) (by decide +kernel)) rfl, rfl⟩, by decide +kernel⟩
theorem fr_11_55 : FKr RX11 55 11 26 := ⟨⟨by decide, by decide, in_g (List.mem_of_getElem? (i := 1275) (by decide +kernel)) rfl, rfl⟩, by decide +kernel⟩
theorem fr_11_58 : FKr RX11 58 11 27 := ⟨⟨by decide, by decide, in_g (List.mem_of_getElem? (i := 1276) (by decide +kernel)) rfl, rfl⟩, by decide +kernel⟩
theorem fr_11_61 : FKr RX11 61 11 28 := ⟨⟨by decide, by decide, in_g (List.mem_of_getElem? (i := 1277) (by decide +kernel)) rfl, rfl⟩, by decide +kernel⟩
theorem fr_11_64 : FKr RX11 64 11 29 := ⟨⟨by decide, by decide, in_g (List.mem_of_getElem? (i := 1278) (by decide +kernel)) rfl, rfl⟩, by decide +kernel⟩
theorem fr_11_67 : FKr RX11 67 11 30 := ⟨⟨by decide, by decide, in_g (List.mem_of_getElem? (i := 1279) (by decide +kernel)) rfl, rfl⟩, by decide +kernel⟩
theorem fr_11_70 : FKr RX11 70 11 31 := ⟨⟨by decide, by decide, in_g (List.mem_of_getElem? (i := 1280) (by decide +kernel)) rfl, rfl⟩, by decide +kernel⟩
theorem fr_11_73 : FKr RX11 73 11 32 := ⟨⟨by decide, by decide, in_g (List.mem_of_getElem? (i := 1281) (by decide +kernel)) rfl, rfl⟩, by decide +kernel⟩
theorem fr_11_76 : FKr RX11 76 11 33 := ⟨⟨by decide, by decide, in_g (List.mem_of_getElem? (i := 1282) (by decide +kernel)) rfl, rfl⟩, by decide +kernel⟩
theorem fr_11_79 : FKr RX11 79 11 34 := ⟨⟨by decide, by decide, in_g (List.mem_of_getElem? (i := 1283) (by decide +kernel)) rfl, rfl⟩, by decide +kernel⟩
theorem fr_11_82 : FKr RX11 82 11 35 := ⟨⟨by decide, by decide, in_g (List.mem_of_getElem? (i := 1284) (by decide +kernel)) rfl, rfl⟩, by decide +kernel⟩
theorem fr_11_85 : FKr RX11 85 11 36 := ⟨⟨by decide, by decide, in_g (List.mem_of_getElem? (i := 1285) (by decide +kernel)) rfl, rfl⟩, by decide +kernel⟩
theorem fr_11_88 : FKr RX11 88 11 37 := ⟨⟨by decide, by decide, in_g (List.mem_of_getElem? (i := 1286) (by decide +kernel)) rfl, rfl⟩, by decide +kernel⟩
theorem fr_11_91 : FKr RX11 91 11 38 := ⟨⟨by decide, by decide, in_g (List.mem_of_getElem? (i := 1287) (by decide +kernel)) rfl, rfl⟩, by decide +kernel⟩
theorem fr_11_94 : FKr RX11 94 11 39 := ⟨⟨by decide, by decide, in_g (List.mem_of_getElem? (i := 1288) (by decide +kernel)) rfl, rfl⟩, by decide +kernel⟩
theorem fr_11_97 : FKr RX11 97 11 40 := ⟨⟨by decide, by decide, in_g (List.mem_of_getElem? (i := 1289) (by decide +kernel)) rfl, rfl⟩, by decide +kernel⟩
theorem fr_11_100 : FKr RX11 100 11 42 := ⟨⟨by decide, by decide, in_g (List.mem_of_getElem? (i := 1291) (by decide +kernel)) rfl, rfl⟩, by decide +kernel⟩
theorem fr_11_104 : FKr RX11 104 11 43 := ⟨⟨by decide, by decide, in_g (List.mem_of_getElem? (i := 1292) (by decide +kernel)) rfl, rfl⟩, by decide +kernel⟩
theorem fr_11_107 : FKr RX11 107 11 44 := ⟨⟨by decide, by decide, in_g (List.mem_of_getElem? (i := 1293) (by decide +kernel)) rfl, rfl⟩, by decide +kernel⟩
theorem fr_11_110 : FKr RX11 110 11 45 := ⟨⟨by decide, by decide, in_g (List.mem_of_getElem? (i := 1294) (by decide +kernel)) rfl, rfl⟩, by decide +kernel⟩
theorem fr_11_113 : FKr RX11 113 11 46 := ⟨⟨by decide, by decide, in_g (List.mem_of_getElem? (i := 1295) (by decide +kernel)) rfl, rfl⟩, by decide +kernel⟩
theorem fr_11_116 : FKr RX11 116 11 48 := ⟨⟨by decide, by decide, in_g (List.mem_of_getElem? (i := 1297) (by decide +kernel)) rfl, rfl⟩, by decide +kernel⟩
theorem fr_11_119 : FKr RX11 119 11 49 := ⟨⟨by decide, by decide, in_g (List.mem_of_getElem? (i := 1298) (by decide +kernel)) rfl, rfl⟩, by decide +kernel⟩
theorem fr_11_122 : FKr RX11 122 11 50 := ⟨⟨by decide, by decide, in_g (List.mem_of_getElem? (i := 1299) (by decide +kernel)) rfl, rfl⟩, by decide +kernel⟩
theorem fr_11_125 : FKr RX11 125 11 52 := ⟨⟨by decide, by decide, in_g (List.mem_of_getElem? (i := 1301) (by decide +kernel)) rfl, rfl⟩, by decide +kernel⟩
theorem fr_11_128 : FKr RX11 128 11 53 := ⟨⟨by decide, by decide, in_g (List.mem_of_getElem? (i := 1302) (by decide +kernel)) rfl, rfl⟩, by decide +kernel⟩
theorem fr_11_131 : FKr RX11 131 11 55 := ⟨⟨by decide, by decide, in_g (List.mem_of_getElem? (i := 1304) (by decide +kernel)) rfl, rfl⟩, by decide +kernel⟩
theorem fr_11_134 : FKr RX11 134 11 56 := ⟨⟨by decide, by decide, in_g (List.mem_of_getElem? (i := 1305) (by decide +kernel)) rfl, rfl⟩, by decide +kernel⟩
theorem fr_11_137 : FKr RX11 137 11 60 := ⟨⟨by decide, by decide, in_g (List.mem_of_getElem? (i := 1309) (by decide +kernel)) rfl, rfl⟩, by decide +kernel⟩
theorem fr_11_140 : FKr RX11 140 11 61 := ⟨⟨by decide, by decide, in_g (List.mem_of_getElem? (i := 1310) (by decide +kernel)) rfl, rfl⟩, by decide +kernel⟩
theorem fr_11_143 : FKr RX11 143 11 62 := ⟨⟨by decide, by decide, in_g (List.mem_of_getElem? (i := 1311) (by decide +kernel)) rfl, rfl⟩, by decide +kernel⟩
theorem fr_11_146 : FKr RX11 146 11 64 := ⟨⟨by decide, by decide, in_g (List.mem_of_getElem? (i := 1313) (by decide +kernel)) rfl, rfl⟩, by decide +kernel⟩
theorem fr_11_149 : FKr RX11 149 11 65 := ⟨⟨by decide, by decide, in_g (List.mem_of_getElem? (i := 1314) (by decide +kernel)) rfl, rfl⟩, by decide +kernel⟩
theorem fr_11_152 : FKr RX11 152 11 66 := ⟨⟨by decide, by decide, in_g (List.mem_of_getElem? (i := 1315) (by decide +kernel)) rfl, rfl⟩, by decide +kernel⟩
theorem fr_11_155 : FKr RX11 155 11 67 := ⟨⟨by decide, by decide, in_g (List.mem_of_getElem? (i := 1316) (by decide +kernel)) rfl, rfl⟩, by decide +kernel⟩
theorem fr_11_158 : FKr RX11 158 11 68 := ⟨⟨by decide, by decide, in_g (List.mem_of_getElem? (i := 1317) (by decide +kernel)) rfl, rfl⟩, by decide +kernel⟩
theorem fr_11_161 : FKr RX11 161 11 70 := ⟨⟨by decide, by decide, in_g (List.mem_of_getElem? (i := 1319) (by decide +kernel)) rfl, rfl⟩, by decide +kernel⟩
theorem fr_11_164 : FKr RX11 164 11 71 := ⟨⟨by decide, by decide, in_g (List.mem_of_getElem? (i := 1320) (by decide +kernel)) rfl, rfl⟩, by decide +kernel⟩
theorem fr_11_167 : FKr RX11 167 11 72 := ⟨⟨by decide, by decide, in_g (List.mem_of_getElem? (i := 1321) (by decide +kernel)) rfl, rfl⟩, by decide +kernel⟩
theorem fr_11_170 : FKr RX11 170 11 73 := ⟨⟨by decide, by decide, in_g (List.mem_of_getElem? (i := 1322) (by decide +kernel)) rfl, rfl⟩, by decide +kernel⟩
theorem pi_0_41 : FPi RX0 41 5 1 := ⟨⟨⟨by decide, by decide, in_g (List.mem_of_getElem? (i := 437) (by decide +kernel)) rfl, rfl⟩, rfl, rfl⟩, by decide +kernel⟩
theorem pi_0_52 : FPi RX0 52 5 0 := ⟨⟨⟨by decide, by decide, in_g (List.mem_of_getElem? (i := 434) (by decide +kernel)) rfl, rfl⟩, rfl, rfl⟩, by decide +kernel⟩
theorem pi_2_9 : FPi RX2 9 2 2 := ⟨⟨⟨by decide, by decide, in_g (List.mem_of_getElem? (i := 380) (by decide +kernel)) rfl, rfl⟩, rfl, rfl⟩, by decide +kernel⟩
theorem pi_2_15 : FPi RX2 15 2 3 := ⟨⟨⟨by decide, by decide, in_g (List.mem_of_getElem? (i := 381) (by decide +kernel)) rfl, rfl⟩, rfl, rfl⟩, by decide +kernel⟩
theorem pi_2_18 : FPi RX2 18 2 4 := ⟨⟨⟨by decide, by decide, in_g (List.mem_of_getElem? (i := 382) (by decide +kernel)) rfl, rfl⟩, rfl, rfl⟩, by decide +kernel⟩
theorem pi_2_21 : FPi RX2 21 2 5 := ⟨⟨⟨by decide, by decide, in_g (List.mem_of_getElem? (i := 383) (by decide +kernel)) rfl, rfl⟩, rfl, rfl⟩, by decide +kernel⟩
theorem pi_2_24 : FPi RX2 24 2 6 := ⟨⟨⟨by decide, by decide, in_g (List.mem_of_getElem? (i := 384) (by decide +kernel)) rfl, rfl⟩, rfl, rfl⟩, by decide +kernel⟩
theorem pi_2_31 : FPi RX2 31 2 8 := ⟨⟨⟨by decide, by decide, in_g (List.mem_of_getElem? (i := 386) (by decide +kernel)) rfl, rfl⟩, rfl, rfl⟩, by decide +kernel⟩
theorem pi_2_34 : FPi RX2 34 2 9 := ⟨⟨⟨by decide, by decide, in_g (List.mem_of_getElem? (i := 387) (by decide +kernel)) rfl, rfl⟩, rfl, rfl⟩, by decide +kernel⟩
theorem pi_3_9 : FPi RX3 9 3 0 := ⟨⟨⟨by decide, by decide, in_g (List.mem_of_getElem? (i := 286) (by decide +kernel)) rfl, rfl⟩, rfl, rfl⟩, by decide +kernel⟩
theorem pi_3_15 : FPi RX3 15 3 1 := ⟨⟨⟨by decide, by decide, in_g (List.mem_of_getElem? (i := 289) (by decide +kernel)) rfl, rfl⟩, rfl, rfl⟩, by decide +kernel⟩
theorem pi_3_18 : FPi RX3 18 3 2 := ⟨⟨⟨by decide, by decide, in_g (List.mem_of_getElem? (i := 293) (by decide +kernel)) rfl, rfl⟩, rfl, rfl⟩, by decide +kernel⟩
theorem pi_3_21 : FPi RX3 21 3 3 := ⟨⟨⟨by decide, by decide, in_g (List.mem_of_getElem? (i := 298) (by decide +kernel)) rfl, rfl⟩, rfl, rfl⟩, by decide +kernel⟩
theorem pi_3_24 : FPi RX3 24 3 4 := ⟨⟨⟨by decide, by decide, in_g (List.mem_of_getElem? (i := 301) (by decide +kernel)) rfl, rfl⟩, rfl, rfl⟩, by decide +kernel⟩
theorem pi_3_27 : FPi RX3 27 3 5 := ⟨⟨⟨by decide, by decide, in_g (List.mem_of_getElem? (i := 305) (by decide +kernel)) rfl, rfl⟩, rfl, rfl⟩, by decide +kernel⟩
theorem pi_3_70 : FPi RX3 70 3 16 := ⟨⟨⟨by decide, by decide, in_g (List.mem_of_getElem? (i := 336) (by decide +kernel)) rfl, rfl⟩, rfl, rfl⟩, by decide +kernel⟩
theorem pi_4_18 : FPi RX4 18 4 2 := ⟨⟨⟨by decide, by decide, in_g (List.mem_of_getElem? (i := 260) (by decide +kernel)) rfl, rfl⟩, rfl, rfl⟩, by decide +kernel⟩
theorem pi_5_9 : FPi RX5 9 5 0 := ⟨⟨⟨by decide, by decide, in_g (List.mem_of_getElem? (i := 433) (by decide +kernel)) rfl, rfl⟩, rfl, rfl⟩, by decide +kernel⟩
theorem pi_5_15 : FPi RX5 15 5 1 := ⟨⟨⟨by decide, by decide, in_g (List.mem_of_getElem? (i := 436) (by decide +kernel)) rfl, rfl⟩, rfl, rfl⟩, by decide +kernel⟩
theorem pi_5_18 : FPi RX5 18 5 2 := ⟨⟨⟨by decide, by decide, in_g (List.mem_of_getElem? (i := 439) (by decide +kernel)) rfl, rfl⟩, rfl, rfl⟩, by decide +kernel⟩
theorem pi_5_21 : FPi RX5 21 5 3 := ⟨⟨⟨by decide, by decide, in_g (List.mem_of_getElem? (i := 442) (by decide +kernel)) rfl, rfl⟩, rfl, rfl⟩, by decide +kernel⟩
theorem pi_6_17 : FPi RX6 17 6 1 := ⟨⟨⟨by decide, by decide, in_g (List.mem_of_getElem? (i := 518) (by decide +kernel)) rfl, rfl⟩, rfl, rfl⟩, by decide +kernel⟩
theorem pi_6_21 : FPi RX6 21 6 2 := ⟨⟨⟨by decide, by decide, in_g (List.mem_of_getElem? (i := 519) (by decide +kernel)) rfl, rfl⟩, rfl, rfl⟩, by decide +kernel⟩
theorem pi_6_33 : FPi RX6 33 6 5 := ⟨⟨⟨by decide, by decide, in_g (List.mem_of_getElem? (i := 523) (by decide +kernel)) rfl, rfl⟩, rfl, rfl⟩, by decide +kernel⟩
theorem pi_8_9 : FPi RX8 9 8 2 := ⟨⟨⟨by decide, by decide, in_g (List.mem_of_getElem? (i := 417) (by decide +kernel)) rfl, rfl⟩, rfl, rfl⟩, by decide +kernel⟩
theorem pi_8_53 : FPi RX8 53 3 4 := ⟨⟨⟨by decide, by decide, in_g (List.mem_of_getElem? (i := 302) (by decide +kernel)) rfl, rfl⟩, rfl, rfl⟩, by decide +kernel⟩
theorem pi_8_61 : FPi RX8 61 3 5 := ⟨⟨⟨by decide, by decide, in_g (List.mem_of_getElem? (i := 306) (by decide +kernel)) rfl, rfl⟩, rfl, rfl⟩, by decide +kernel⟩
theorem pi_8_69 : FPi RX8 69 3 0 := ⟨⟨⟨by decide, by decide, in_g (List.mem_of_getElem? (i := 287) (by decide +kernel)) rfl, rfl⟩, rfl, rfl⟩, by decide +kernel⟩
theorem pi_8_76 : FPi RX8 76 3 1 := ⟨⟨⟨by decide, by decide, in_g (List.mem_of_getElem? (i := 290) (by decide +kernel)) rfl, rfl⟩, rfl, rfl⟩, by decide +kernel⟩
theorem pi_8_92 : FPi RX8 92 3 2 := ⟨⟨⟨by decide, by decide, in_g (List.mem_of_getElem? (i := 296) (by decide +kernel)) rfl, rfl⟩, rfl, rfl⟩, by decide +kernel⟩
theorem pi_8_108 : FPi RX8 108 3 3 := ⟨⟨⟨by decide, by decide, in_g (List.mem_of_getElem? (i := 300) (by decide +kernel)) rfl, rfl⟩, rfl, rfl⟩, by decide +kernel⟩
theorem pi_9_25 : FPi RX9 25 9 4 := ⟨⟨⟨by decide, by decide, in_g (List.mem_of_getElem? (i := 193) (by decide +kernel)) rfl, rfl⟩, rfl, rfl⟩, by decide +kernel⟩
theorem pi_9_29 : FPi RX9 29 9 5 := ⟨⟨⟨by decide, by decide, in_g (List.mem_of_getElem? (i := 196) (by decide +kernel)) rfl, rfl⟩, rfl, rfl⟩, by decide +kernel⟩
theorem pi_10_13 : FPi RX10 13 10 1 := ⟨⟨⟨by decide, by decide, in_g (List.mem_of_getElem? (i := 539) (by decide +kernel)) rfl, rfl⟩, rfl, rfl⟩, by decide +kernel⟩
theorem pi_10_94 : FPi RX10 94 10 14 := ⟨⟨⟨by decide, by decide, in_g (List.mem_of_getElem? (i := 552) (by decide +kernel)) rfl, rfl⟩, rfl, rfl⟩, by decide +kernel⟩
theorem pi_10_97 : FPi RX10 97 10 15 := ⟨⟨⟨by decide, by decide, in_g (List.mem_of_getElem? (i := 553) (by decide +kernel)) rfl, rfl⟩, rfl, rfl⟩, by decide +kernel⟩
theorem pi_10_165 : FPi RX10 165 5 1 := ⟨⟨⟨by decide, by decide, in_g (List.mem_of_getElem? (i := 438) (by decide +kernel)) rfl, rfl⟩, rfl, rfl⟩, by decide +kernel⟩
theorem pi_10_203 : FPi RX10 203 5 2 := ⟨⟨⟨by decide, by decide, in_g (List.mem_of_getElem? (i := 441) (by decide +kernel)) rfl, rfl⟩, rfl, rfl⟩, by decide +kernel⟩
theorem pi_10_212 : FPi RX10 212 5 3 := ⟨⟨⟨by decide, by decide, in_g (List.mem_of_getElem? (i := 444) (by decide +kernel)) rfl, rfl⟩, rfl, rfl⟩, by decide +kernel⟩
theorem pi_11_37 : FPi RX11 37 11 17 := ⟨⟨⟨by decide, by decide, in_g (List.mem_of_getElem? (i := 1266) (by decide +kernel)) rfl, rfl⟩, rfl, rfl⟩, by decide +kernel⟩
theorem pi_11_187 : FPi RX11 187 11 2 := ⟨⟨⟨by decide, by decide, in_g (List.mem_of_getElem? (i := 1251) (by decide +kernel)) rfl, rfl⟩, rfl, rfl⟩, by decide +kernel⟩
theorem pi_11_193 : FPi RX11 193 11 4 := ⟨⟨⟨by decide, by decide, in_g (List.mem_of_getElem? (i := 1253) (by decide +kernel)) rfl, rfl⟩, rfl, rfl⟩, by decide +kernel⟩
theorem pi_11_202 : FPi RX11 202 11 10 := ⟨⟨⟨by decide, by decide, in_g (List.mem_of_getElem? (i := 1259) (by decide +kernel)) rfl, rfl⟩, rfl, rfl⟩, by decide +kernel⟩
theorem pi_11_224 : FPi RX11 224 11 13 := ⟨⟨⟨by decide, by decide, in_g (List.mem_of_getElem? (i := 1262) (by decide +kernel)) rfl, rfl⟩, rfl, rfl⟩, by decide +kernel⟩
theorem pi_11_227 : FPi RX11 227 11 11 := ⟨⟨⟨by decide, by decide, in_g (List.mem_of_getElem? (i := 1260) (by decide +kernel)) rfl, rfl⟩, rfl, rfl⟩, by decide +kernel⟩
theorem pi_11_230 : FPi RX11 230 11 14 := ⟨⟨⟨by decide, by decide, in_g (List.mem_of_getElem? (i := 1263) (by decide +kernel)) rfl, rfl⟩, rfl, rfl⟩, by decide +kernel⟩
theorem pi_11_233 : FPi RX11 233 11 15 := ⟨⟨⟨by decide, by decide, in_g (List.mem_of_getElem? (i := 1264) (by decide +kernel)) rfl, rfl⟩, rfl, rfl⟩, by decide +kernel⟩
theorem pi_11_236 : FPi RX11 236 11 16 := ⟨⟨⟨by decide, by decide, in_g (List.mem_of_getElem? (i := 1265) (by decide +kernel)) rfl, rfl⟩, rfl, rfl⟩, by decide +kernel⟩
theorem pi_11_251 : FPi RX11 251 11 12 := ⟨⟨⟨by decide, by decide, in_g (List.mem_of_getElem? (i := 1261) (by decide +kernel)) rfl, rfl⟩, rfl, rfl⟩, by decide +kernel⟩
theorem pi_11_254 : FPi RX11 254 11 18 := ⟨⟨⟨by decide, by decide, in_g (List.mem_of_getElem? (i := 1267) (by decide +kernel)) rfl, rfl⟩, rfl, rfl⟩, by decide +kernel⟩
theorem pi_11_257 : FPi RX11 257 11 19 := ⟨⟨⟨by decide, by decide, in_g (List.mem_of_getElem? (i := 1268) (by decide +kernel)) rfl, rfl⟩, rfl, rfl⟩, by decide +kernel⟩
theorem pi_11_260 : FPi RX11 260 11 20 := ⟨⟨⟨by decide, by decide, in_g (List.mem_of_getElem? (i := 1269) (by decide +kernel)) rfl, rfl⟩, rfl, rfl⟩, by decide +kernel⟩
theorem pi_11_263 : FPi RX11 263 11 41 := ⟨⟨⟨by decide, by decide, in_g (List.mem_of_getElem? (i := 1290) (by decide +kernel)) rfl, rfl⟩, rfl, rfl⟩, by decide +kernel⟩
theorem pi_11_266 : FPi RX11 266 11 47 := ⟨⟨⟨by decide, by decide, in_g (List.mem_of_getElem? (i := 1296) (by decide +kernel)) rfl, rfl⟩, rfl, rfl⟩, by decide +kernel⟩
theorem pi_11_272 : FPi RX11 272 11 63 := ⟨⟨⟨by decide, by decide, in_g (List.mem_of_getElem? (i := 1312) (by decide +kernel)) rfl, rfl⟩, rfl, rfl⟩, by decide +kernel⟩
theorem pi_11_275 : FPi RX11 275 11 69 := ⟨⟨⟨by decide, by decide, in_g (List.mem_of_getElem? (i := 1318) (by decide +kernel)) rfl, rfl⟩, rfl, rfl⟩, by decide +kernel⟩
theorem pi_11_323 : FPi RX11 323 11 51 := ⟨⟨⟨by decide, by decide, in_g (List.mem_of_getElem? (i := 1300) (by decide +kernel)) rfl, rfl⟩, rfl, rfl⟩, by decide +kernel⟩
theorem pi_11_344 : FPi RX11 344 11 57 := ⟨⟨⟨by decide, by decide, in_g (List.mem_of_getElem? (i := 1306) (by decide +kernel)) rfl, rfl⟩, rfl, rfl⟩, by decide +kernel⟩
theorem pz_11_336 : FPz RX11 336 11 54 := ⟨⟨⟨by decide, by decide, in_g (List.mem_of_getElem? (i := 1303) (by decide +kernel)) rfl, rfl⟩, rfl, rfl⟩, by decide +kernel⟩
theorem pz_11_347 : FPz RX11 347 11 58 := ⟨⟨⟨by decide, by decide, in_g (List.mem_of_getElem? (i := 1307) (by decide +kernel)) rfl, rfl⟩, rfl, rfl⟩, by decide +kernel⟩
theorem pz_11_350 : FPz RX11 350 11 59 := ⟨⟨⟨by decide, by decide, in_g (List.mem_of_getElem? (i := 1308) (by decide +kernel)) rfl, rfl⟩, rfl, rfl⟩, by decide +kernel⟩
theorem pr_2_47 : FPr RX2 47 2 1 "TurfGiving$Laws" := ⟨⟨⟨by decide, by decide, in_g (List.mem_of_getElem? (i := 379) (by decide +kernel)) rfl, rfl⟩, rfl, rfl⟩, by decide +kernel⟩
theorem pr_8_19 : FPr RX8 19 8 1 "TurfGiving$Land" := ⟨⟨⟨by decide, by decide, in_g (List.mem_of_getElem? (i := 416) (by decide +kernel)) rfl, rfl⟩, rfl, rfl⟩, by decide +kernel⟩
theorem pr_10_27 : FPr RX10 27 10 3 "TurfGiving$Land" := ⟨⟨⟨by decide, by decide, in_g (List.mem_of_getElem? (i := 541) (by decide +kernel)) rfl, rfl⟩, rfl, rfl⟩, by decide +kernel⟩
theorem pr_10_31 : FPr RX10 31 10 4 "TurfGiving$Land" := ⟨⟨⟨by decide, by decide, in_g (List.mem_of_getElem? (i := 542) (by decide +kernel)) rfl, rfl⟩, rfl, rfl⟩, by decide +kernel⟩
theorem pr_10_341 : FPr RX10 341 0 1 "TurfGiving$Land" := ⟨⟨⟨by decide, by decide, in_g (List.mem_of_getElem? (i := 467) (by decide +kernel)) rfl, rfl⟩, rfl, rfl⟩, by decide +kernel⟩
theorem kh_0 : (kd 0).1 = 10 := by decide +kernel
theorem ka_1 : kd 1 = (12, 2000) := by decide +kernel
theorem kh_2 : (kd 2).1 = 9 := by decide +kernel
theorem ka_3 : kd 3 = (13, 401) := by decide +kernel
theorem ka_4 : kd 4 = (13, 401) := by decide +kernel
theorem ka_5 : kd 5 = (14, 401) := by decide +kernel
theorem ka_6 : kd 6 = (14, 22) := by decide +kernel
theorem kh_7 : (kd 7).1 = 3 := by decide +kernel
theorem ka_8 : kd 8 = (13, 7) := by decide +kernel
theorem ka_9 : kd 9 = (13, 7) := by decide +kernel
theorem ka_10 : kd 10 = (13, 7) := by decide +kernel
theorem ka_11 : kd 11 = (13, 7) := by decide +kernel
theorem ka_12 : kd 12 = (13, 7) := by decide +kernel
theorem kh_13 : (kd 13).1 = 1 := by decide +kernel
theorem ka_14 : kd 14 = (13, 20) := by decide +kernel
theorem ka_15 : kd 15 = (13, 20) := by decide +kernel
theorem ka_16 : kd 16 = (13, 20) := by decide +kernel
theorem ka_17 : kd 17 = (13, 20) := by decide +kernel
theorem ka_18 : kd 18 = (13, 20) := by decide +kernel
theorem kh_19 : (kd 19).1 = 4 := by decide +kernel
theorem ka_20 : kd 20 = (13, 416) := by decide +kernel
theorem ka_21 : kd 21 = (13, 416) := by decide +kernel
theorem ka_22 : kd 22 = (13, 4) := by decide +kernel
theorem ka_23 : kd 23 = (13, 28) := by decide +kernel
theorem ka_24 : kd 24 = (14, 20) := by decide +kernel
theorem ka_25 : kd 25 = (13, 20) := by decide +kernel
theorem ka_26 : kd 26 = (13, 20) := by decide +kernel
theorem kh_27 : (kd 27).1 = 3 := by decide +kernel
theorem ka_28 : kd 28 = (13, 7) := by decide +kernel
theorem ka_29 : kd 29 = (13, 7) := by decide +kernel
theorem ka_30 : kd 30 = (13, 7) := by decide +kernel
theorem ka_31 : kd 31 = (13, 7) := by decide +kernel
theorem ka_32 : kd 32 = (13, 7) := by decide +kernel
theorem kh_33 : (kd 33).1 = 1 := by decide +kernel
theorem ka_34 : kd 34 = (13, 20) := by decide +kernel
theorem ka_35 : kd 35 = (13, 20) := by decide +kernel
theorem ka_36 : kd 36 = (13, 20) := by decide +kernel
theorem ka_37 : kd 37 = (13, 20) := by decide +kernel
theorem ka_38 : kd 38 = (13, 20) := by decide +kernel
theorem kh_39 : (kd 39).1 = 4 := by decide +kernel
theorem ka_40 : kd 40 = (13, 416) := by decide +kernel
theorem ka_41 : kd 41 = (13, 416) := by decide +kernel
theorem ka_42 : kd 42 = (13, 4) := by decide +kernel
theorem ka_43 : kd 43 = (13, 28) := by decide +kernel
theorem ka_44 : kd 44 = (14, 20) := by decide +kernel
theorem ka_45 : kd 45 = (13, 20) := by decide +kernel
theorem ka_46 : kd 46 = (13, 20) := by decide +kernel
theorem kh_47 : (kd 47).1 = 2 := by decide +kernel
theorem ka_48 : kd 48 = (13, 21) := by decide +kernel
theorem kh_49 : (kd 49).1 = 8 := by decide +kernel
theorem kh_50 : (kd 50).1 = 1 := by decide +kernel
theorem ka_51 : kd 51 = (13, 20) := by decide +kernel
theorem ka_52 : kd 52 = (13, 20) := by decide +kernel
theorem ka_53 : kd 53 = (13, 20) := by decide +kernel
theorem ka_54 : kd 54 = (13, 20) := by decide +kernel
theorem ka_55 : kd 55 = (13, 20) := by decide +kernel
theorem kh_56 : (kd 56).1 = 5 := by decide +kernel
theorem ka_57 : kd 57 = (13, 7) := by decide +kernel
theorem kh_58 : (kd 58).1 = 5 := by decide +kernel
theorem ka_59 : kd 59 = (13, 7) := by decide +kernel
theorem kh_60 : (kd 60).1 = 0 := by decide +kernel
theorem ka_61 : kd 61 = (13, 9) := by decide +kernel
theorem ka_62 : kd 62 = (13, 9) := by decide +kernel
theorem ka_63 : kd 63 = (13, 9) := by decide +kernel
theorem ka_64 : kd 64 = (13, 9) := by decide +kernel
theorem ka_65 : kd 65 = (13, 6) := by decide +kernel
theorem kh_66 : (kd 66).1 = 7 := by decide +kernel
theorem ka_67 : kd 67 = (13, 49) := by decide +kernel
theorem ka_68 : kd 68 = (13, 7) := by decide +kernel
theorem ka_69 : kd 69 = (13, 896) := by decide +kernel
theorem kh_70 : (kd 70).1 = 6 := by decide +kernel
theorem ka_71 : kd 71 = (17, 30) := by decide +kernel
theorem ka_72 : kd 72 = (17, 3) := by decide +kernel
theorem ka_73 : kd 73 = (16, 3) := by decide +kernel
theorem kh_74 : (kd 74).1 = 5 := by decide +kernel
theorem ka_75 : kd 75 = (13, 7) := by decide +kernel
theorem kh_76 : (kd 76).1 = 5 := by decide +kernel
theorem ka_77 : kd 77 = (13, 7) := by decide +kernel
theorem kh_78 : (kd 78).1 = 5 := by decide +kernel
theorem ka_79 : kd 79 = (13, 7) := by decide +kernel
theorem kh_80 : (kd 80).1 = 5 := by decide +kernel
theorem ka_81 : kd 81 = (13, 7) := by decide +kernel
theorem kh_82 : (kd 82).1 = 5 := by decide +kernel
theorem ka_83 : kd 83 = (13, 7) := by decide +kernel
theorem kh_84 : (kd 84).1 = 5 := by decide +kernel
theorem ka_85 : kd 85 = (13, 7) := by decide +kernel
theorem kh_86 : (kd 86).1 = 5 := by decide +kernel
theorem ka_87 : kd 87 = (13, 7) := by decide +kernel
theorem kh_88 : (kd 88).1 = 5 := by decide +kernel
theorem ka_89 : kd 89 = (13, 7) := by decide +kernel
theorem kh_90 : (kd 90).1 = 5 := by decide +kernel
theorem ka_91 : kd 91 = (13, 7) := by decide +kernel
theorem kh_92 : (kd 92).1 = 5 := by decide +kernel
theorem ka_93 : kd 93 = (13, 7) := by decide +kernel
theorem kh_94 : (kd 94).1 = 5 := by decide +kernel
theorem ka_95 : kd 95 = (13, 7) := by decide +kernel
theorem kh_96 : (kd 96).1 = 5 := by decide +kernel
theorem ka_97 : kd 97 = (13, 7) := by decide +kernel
theorem kh_98 : (kd 98).1 = 5 := by decide +kernel
theorem ka_99 : kd 99 = (13, 7) := by decide +kernel
theorem kh_100 : (kd 100).1 = 5 := by decide +kernel
theorem ka_101 : kd 101 = (13, 7) := by decide +kernel
theorem kh_102 : (kd 102).1 = 5 := by decide +kernel
theorem ka_103 : kd 103 = (13, 7) := by decide +kernel
theorem kh_104 : (kd 104).1 = 5 := by decide +kernel
theorem ka_105 : kd 105 = (13, 7) := by decide +kernel
theorem kh_106 : (kd 106).1 = 5 := by decide +kernel
theorem ka_107 : kd 107 = (13, 7) := by decide +kernel
theorem kh_108 : (kd 108).1 = 5 := by decide +kernel
theorem ka_109 : kd 109 = (13, 7) := by decide +kernel
theorem kh_110 : (kd 110).1 = 5 := by decide +kernel
theorem ka_111 : kd 111 = (13, 7) := by decide +kernel
theorem kh_112 : (kd 112).1 = 5 := by decide +kernel
theorem ka_113 : kd 113 = (13, 7) := by decide +kernel
theorem kh_114 : (kd 114).1 = 5 := by decide +kernel
theorem ka_115 : kd 115 = (13, 7) := by decide +kernel
theorem kh_116 : (kd 116).1 = 5 := by decide +kernel
theorem ka_117 : kd 117 = (13, 7) := by decide +kernel
theorem kh_118 : (kd 118).1 = 5 := by decide +kernel
theorem ka_119 : kd 119 = (13, 7) := by decide +kernel
theorem kh_120 : (kd 120).1 = 5 := by decide +kernel
theorem ka_121 : kd 121 = (13, 7) := by decide +kernel
theorem kh_122 : (kd 122).1 = 5 := by decide +kernel
theorem ka_123 : kd 123 = (13, 7) := by decide +kernel
theorem kh_124 : (kd 124).1 = 5 := by decide +kernel
theorem ka_125 : kd 125 = (13, 7) := by decide +kernel
theorem kh_126 : (kd 126).1 = 5 := by decide +kernel
theorem ka_127 : kd 127 = (13, 7) := by decide +kernel
theorem kh_128 : (kd 128).1 = 5 := by decide +kernel
theorem ka_129 : kd 129 = (13, 7) := by decide +kernel
theorem kh_130 : (kd 130).1 = 5 := by decide +kernel
theorem ka_131 : kd 131 = (13, 7) := by decide +kernel
theorem kh_132 : (kd 132).1 = 5 := by decide +kernel
theorem ka_133 : kd 133 = (13, 7) := by decide +kernel
theorem kh_134 : (kd 134).1 = 5 := by decide +kernel
theorem ka_135 : kd 135 = (13, 7) := by decide +kernel
theorem kh_136 : (kd 136).1 = 1 := by decide +kernel
theorem ka_137 : kd 137 = (13, 20) := by decide +kernel
theorem ka_138 : kd 138 = (13, 20) := by decide +kernel
theorem ka_139 : kd 139 = (13, 20) := by decide +kernel
theorem ka_140 : kd 140 = (13, 20) := by decide +kernel
theorem ka_141 : kd 141 = (13, 20) := by decide +kernel
theorem kh_142 : (kd 142).1 = 5 := by decide +kernel
theorem ka_143 : kd 143 = (13, 7) := by decide +kernel
theorem kh_144 : (kd 144).1 = 1 := by decide +kernel
theorem ka_145 : kd 145 = (13, 20) := by decide +kernel
theorem ka_146 : kd 146 = (13, 20) := by decide +kernel
theorem ka_147 : kd 147 = (13, 20) := by decide +kernel
theorem ka_148 : kd 148 = (13, 20) := by decide +kernel
theorem ka_149 : kd 149 = (13, 20) := by decide +kernel
theorem kh_150 : (kd 150).1 = 5 := by decide +kernel
theorem ka_151 : kd 151 = (13, 7) := by decide +kernel
theorem kh_152 : (kd 152).1 = 1 := by decide +kernel
theorem ka_153 : kd 153 = (13, 20) := by decide +kernel
theorem ka_154 : kd 154 = (13, 20) := by decide +kernel
theorem ka_155 : kd 155 = (13, 20) := by decide +kernel
theorem ka_156 : kd 156 = (13, 20) := by decide +kernel
theorem ka_157 : kd 157 = (13, 20) := by decide +kernel
theorem ka_158 : kd 158 = (13, 20) := by decide +kernel
theorem ka_159 : kd 159 = (13, 61) := by decide +kernel
theorem kh_160 : (kd 160).1 = 11 := by decide +kernel
theorem ka_161 : kd 161 = (12, 2000) := by decide +kernel
theorem ka_162 : kd 162 = (12, 2000) := by decide +kernel
theorem ka_163 : kd 163 = (13, 403) := by decide +kernel
theorem ka_164 : kd 164 = (13, 403) := by decide +kernel
theorem ka_165 : kd 165 = (13, 403) := by decide +kernel
theorem ka_166 : kd 166 = (14, 403) := by decide +kernel
theorem ka_167 : kd 167 = (14, 22) := by decide +kernel
theorem ka_168 : kd 168 = (14, 20) := by decide +kernel
theorem ka_169 : kd 169 = (13, 20) := by decide +kernel
theorem ka_170 : kd 170 = (13, 2) := by decide +kernel
theorem ka_171 : kd 171 = (13, 2) := by decide +kernel
theorem ka_172 : kd 172 = (13, 14) := by decide +kernel
theorem ka_173 : kd 173 = (13, 14) := by decide +kernel
theorem ka_174 : kd 174 = (13, 14) := by decide +kernel
theorem ka_175 : kd 175 = (13, 2) := by decide +kernel
theorem ka_176 : kd 176 = (13, 14) := by decide +kernel
theorem ka_177 : kd 177 = (13, 14) := by decide +kernel
theorem ka_178 : kd 178 = (13, 2) := by decide +kernel
theorem ka_179 : kd 179 = (13, 24) := by decide +kernel
theorem ka_180 : kd 180 = (13, 24) := by decide +kernel
theorem ka_181 : kd 181 = (13, 24) := by decide +kernel
theorem ka_182 : kd 182 = (13, 24) := by decide +kernel
theorem ka_183 : kd 183 = (13, 24) := by decide +kernel
theorem ka_184 : kd 184 = (13, 2) := by decide +kernel
theorem ka_185 : kd 185 = (13, 2) := by decide +kernel
theorem ka_186 : kd 186 = (13, 8) := by decide +kernel
theorem ka_187 : kd 187 = (13, 8) := by decide +kernel
theorem ka_188 : kd 188 = (15, 260) := by decide +kernel
theorem ka_189 : kd 189 = (13, 260) := by decide +kernel
theorem ka_190 : kd 190 = (13, 260) := by decide +kernel
theorem ka_191 : kd 191 = (13, 260) := by decide +kernel
theorem ka_192 : kd 192 = (13, 260) := by decide +kernel
theorem ka_193 : kd 193 = (13, 840) := by decide +kernel
theorem ka_194 : kd 194 = (13, 840) := by decide +kernel
theorem ka_195 : kd 195 = (13, 64) := by decide +kernel
theorem ka_196 : kd 196 = (13, 9) := by decide +kernel
theorem ka_197 : kd 197 = (13, 400) := by decide +kernel
theorem ka_198 : kd 198 = (13, 117) := by decide +kernel
theorem ka_199 : kd 199 = (13, 117) := by decide +kernel
theorem ka_200 : kd 200 = (13, 7) := by decide +kernel
theorem ka_201 : kd 201 = (15, 20) := by decide +kernel
theorem ka_202 : kd 202 = (15, 20) := by decide +kernel
theorem ka_203 : kd 203 = (13, 3510) := by decide +kernel
theorem ka_204 : kd 204 = (13, 7) := by decide +kernel
theorem ka_205 : kd 205 = (13, 896) := by decide +kernel
theorem ka_206 : kd 206 = (13, 49) := by decide +kernel
theorem ka_207 : kd 207 = (13, 7) := by decide +kernel
theorem ka_208 : kd 208 = (13, 20) := by decide +kernel
theorem ka_209 : kd 209 = (13, 20) := by decide +kernel
theorem ka_210 : kd 210 = (15, 3) := by decide +kernel
theorem ka_211 : kd 211 = (13, 351) := by decide +kernel
theorem sx_0_0 {o : Nat} (h : (kd o).1 = 0) : st o 0 = some (50) := (by decide +kernel : ∀ o, o < 212 → (kd o).1 = 0 → st o 0 = some (50)) o (kd_lt h (by decide)) h
theorem sn_0_1 {o : Nat} (h : (kd o).1 = 0) : st o 1 = none := (by decide +kernel : ∀ o, o < 212 → (kd o).1 = 0 → st o 1 = none) o (kd_lt h (by decide)) h
theorem sx_0_2 {o : Nat} (h : (kd o).1 = 0) : st o 2 = some (o + 1) := (by decide +kernel : ∀ o, o < 212 → (kd o).1 = 0 → st o 2 = some (o + 1)) o (kd_lt h (by decide)) h
theorem sx_0_3 {o : Nat} (h : (kd o).1 = 0) : st o 3 = some (o + 2) := (by decide +kernel : ∀ o, o < 212 → (kd o).1 = 0 → st o 3 = some (o + 2)) o (kd_lt h (by decide)) h
theorem sx_0_4 {o : Nat} (h : (kd o).1 = 0) : st o 4 = some (o + 3) := (by decide +kernel : ∀ o, o < 212 → (kd o).1 = 0 → st o 4 = some (o + 3)) o (kd_lt h (by decide)) h
theorem sx_0_5 {o : Nat} (h : (kd o).1 = 0) : st o 5 = some (o + 4) := (by decide +kernel : ∀ o, o < 212 → (kd o).1 = 0 → st o 5 = some (o + 4)) o (kd_lt h (by decide)) h
theorem sx_0_6 {o : Nat} (h : (kd o).1 = 0) : st o 6 = some (o + 5) := (by decide +kernel : ∀ o, o < 212 → (kd o).1 = 0 → st o 6 = some (o + 5)) o (kd_lt h (by decide)) h
theorem sx_1_0 {o : Nat} (h : (kd o).1 = 1) : st o 0 = some (o + 1) := (by decide +kernel : ∀ o, o < 212 → (kd o).1 = 1 → st o 0 = some (o + 1)) o (kd_lt h (by decide)) h
theorem kx_1_0 {o : Nat} (h : (kd o).1 = 1) : kd (o + 1) = (13, 20) := (by decide +kernel : ∀ o, o < 212 → (kd o).1 = 1 → kd (o + 1) = (13, 20)) o (kd_lt h (by decide)) h
theorem sx_1_1 {o : Nat} (h : (kd o).1 = 1) : st o 1 = some (o + 2) := (by decide +kernel : ∀ o, o < 212 → (kd o).1 = 1 → st o 1 = some (o + 2)) o (kd_lt h (by decide)) h
theorem kx_1_1 {o : Nat} (h : (kd o).1 = 1) : kd (o + 2) = (13, 20) := (by decide +kernel : ∀ o, o < 212 → (kd o).1 = 1 → kd (o + 2) = (13, 20)) o (kd_lt h (by decide)) h
theorem sx_1_2 {o : Nat} (h : (kd o).1 = 1) : st o 2 = some (o + 3) := (by decide +kernel : ∀ o, o < 212 → (kd o).1 = 1 → st o 2 = some (o + 3)) o (kd_lt h (by decide)) h
theorem kx_1_2 {o : Nat} (h : (kd o).1 = 1) : kd (o + 3) = (13, 20) := (by decide +kernel : ∀ o, o < 212 → (kd o).1 = 1 → kd (o + 3) = (13, 20)) o (kd_lt h (by decide)) h
theorem sx_1_3 {o : Nat} (h : (kd o).1 = 1) : st o 3 = some (o + 4) := (by decide +kernel : ∀ o, o < 212 → (kd o).1 = 1 → st o 3 = some (o + 4)) o (kd_lt h (by decide)) h
theorem kx_1_3 {o : Nat} (h : (kd o).1 = 1) : kd (o + 4) = (13, 20) := (by decide +kernel : ∀ o, o < 212 → (kd o).1 = 1 → kd (o + 4) = (13, 20)) o (kd_lt h (by decide)) h
theorem sx_1_4 {o : Nat} (h : (kd o).1 = 1) : st o 4 = some (o + 5) := (by decide +kernel : ∀ o, o < 212 → (kd o).1 = 1 → st o 4 = some (o + 5)) o (kd_lt h (by decide)) h
theorem kx_1_4 {o : Nat} (h : (kd o).1 = 1) : kd (o + 5) = (13, 20) := (by decide +kernel : ∀ o, o < 212 → (kd o).1 = 1 → kd (o + 5) = (13, 20)) o (kd_lt h (by decide)) h
theorem sx_2_0 {o : Nat} (h : (kd o).1 = 2) : st o 0 = some (2) := (by decide +kernel : ∀ o, o < 212 → (kd o).1 = 2 → st o 0 = some (2)) o (kd_lt h (by decide)) h
theorem sn_2_1 {o : Nat} (h : (kd o).1 = 2) : st o 1 = none := (by decide +kernel : ∀ o, o < 212 → (kd o).1 = 2 → st o 1 = none) o (kd_lt h (by decide)) h
theorem sx_2_7 {o : Nat} (h : (kd o).1 = 2) : st o 7 = some (o + 1) := (by decide +kernel : ∀ o, o < 212 → (kd o).1 = 2 → st o 7 = some (o + 1)) o (kd_lt h (by decide)) h
theorem sx_3_6 {o : Nat} (h : (kd o).1 = 3) : st o 6 = some (o + 1) := (by decide +kernel : ∀ o, o < 212 → (kd o).1 = 3 → st o 6 = some (o + 1)) o (kd_lt h (by decide)) h
theorem kx_3_6 {o : Nat} (h : (kd o).1 = 3) : kd (o + 1) = (13, 7) := (by decide +kernel : ∀ o, o < 212 → (kd o).1 = 3 → kd (o + 1) = (13, 7)) o (kd_lt h (by decide)) h
theorem sx_3_7 {o : Nat} (h : (kd o).1 = 3) : st o 7 = some (o + 2) := (by decide +kernel : ∀ o, o < 212 → (kd o).1 = 3 → st o 7 = some (o + 2)) o (kd_lt h (by decide)) h
theorem kx_3_7 {o : Nat} (h : (kd o).1 = 3) : kd (o + 2) = (13, 7) := (by decide +kernel : ∀ o, o < 212 → (kd o).1 = 3 → kd (o + 2) = (13, 7)) o (kd_lt h (by decide)) h
theorem sx_3_8 {o : Nat} (h : (kd o).1 = 3) : st o 8 = some (o + 3) := (by decide +kernel : ∀ o, o < 212 → (kd o).1 = 3 → st o 8 = some (o + 3)) o (kd_lt h (by decide)) h
theorem kx_3_8 {o : Nat} (h : (kd o).1 = 3) : kd (o + 3) = (13, 7) := (by decide +kernel : ∀ o, o < 212 → (kd o).1 = 3 → kd (o + 3) = (13, 7)) o (kd_lt h (by decide)) h
theorem sx_3_9 {o : Nat} (h : (kd o).1 = 3) : st o 9 = some (o + 4) := (by decide +kernel : ∀ o, o < 212 → (kd o).1 = 3 → st o 9 = some (o + 4)) o (kd_lt h (by decide)) h
theorem kx_3_9 {o : Nat} (h : (kd o).1 = 3) : kd (o + 4) = (13, 7) := (by decide +kernel : ∀ o, o < 212 → (kd o).1 = 3 → kd (o + 4) = (13, 7)) o (kd_lt h (by decide)) h
theorem sx_3_10 {o : Nat} (h : (kd o).1 = 3) : st o 10 = some (o + 5) := (by decide +kernel : ∀ o, o < 212 → (kd o).1 = 3 → st o 10 = some (o + 5)) o (kd_lt h (by decide)) h
theorem kx_3_10 {o : Nat} (h : (kd o).1 = 3) : kd (o + 5) = (13, 7) := (by decide +kernel : ∀ o, o < 212 → (kd o).1 = 3 → kd (o + 5) = (13, 7)) o (kd_lt h (by decide)) h
theorem sx_3_11 {o : Nat} (h : (kd o).1 = 3) : st o 11 = some (o + 6) := (by decide +kernel : ∀ o, o < 212 → (kd o).1 = 3 → st o 11 = some (o + 6)) o (kd_lt h (by decide)) h
theorem kx_3_11 {o : Nat} (h : (kd o).1 = 3) : (kd (o + 6)).1 = 1 := (by decide +kernel : ∀ o, o < 212 → (kd o).1 = 3 → (kd (o + 6)).1 = 1) o (kd_lt h (by decide)) h
theorem sx_3_12 {o : Nat} (h : (kd o).1 = 3) : st o 12 = some (o + 12) := (by decide +kernel : ∀ o, o < 212 → (kd o).1 = 3 → st o 12 = some (o + 12)) o (kd_lt h (by decide)) h
theorem kx_3_12 {o : Nat} (h : (kd o).1 = 3) : (kd (o + 12)).1 = 4 := (by decide +kernel : ∀ o, o < 212 → (kd o).1 = 3 → (kd (o + 12)).1 = 4) o (kd_lt h (by decide)) h
theorem sx_3_13 {o : Nat} (h : (kd o).1 = 3) : st o 13 = some (o + 17) := (by decide +kernel : ∀ o, o < 212 → (kd o).1 = 3 → st o 13 = some (o + 17)) o (kd_lt h (by decide)) h
theorem kx_3_13 {o : Nat} (h : (kd o).1 = 3) : kd (o + 17) = (14, 20) := (by decide +kernel : ∀ o, o < 212 → (kd o).1 = 3 → kd (o + 17) = (14, 20)) o (kd_lt h (by decide)) h
theorem sx_3_14 {o : Nat} (h : (kd o).1 = 3) : st o 14 = some (o + 18) := (by decide +kernel : ∀ o, o < 212 → (kd o).1 = 3 → st o 14 = some (o + 18)) o (kd_lt h (by decide)) h
theorem kx_3_14 {o : Nat} (h : (kd o).1 = 3) : kd (o + 18) = (13, 20) := (by decide +kernel : ∀ o, o < 212 → (kd o).1 = 3 → kd (o + 18) = (13, 20)) o (kd_lt h (by decide)) h
theorem sx_3_15 {o : Nat} (h : (kd o).1 = 3) : st o 15 = some (o + 19) := (by decide +kernel : ∀ o, o < 212 → (kd o).1 = 3 → st o 15 = some (o + 19)) o (kd_lt h (by decide)) h
theorem kx_3_15 {o : Nat} (h : (kd o).1 = 3) : kd (o + 19) = (13, 20) := (by decide +kernel : ∀ o, o < 212 → (kd o).1 = 3 → kd (o + 19) = (13, 20)) o (kd_lt h (by decide)) h
theorem sx_4_0 {o : Nat} (h : (kd o).1 = 4) : st o 0 = some (o + 1) := (by decide +kernel : ∀ o, o < 212 → (kd o).1 = 4 → st o 0 = some (o + 1)) o (kd_lt h (by decide)) h
theorem kx_4_0 {o : Nat} (h : (kd o).1 = 4) : kd (o + 1) = (13, 416) := (by decide +kernel : ∀ o, o < 212 → (kd o).1 = 4 → kd (o + 1) = (13, 416)) o (kd_lt h (by decide)) h
theorem sx_4_1 {o : Nat} (h : (kd o).1 = 4) : st o 1 = some (o + 2) := (by decide +kernel : ∀ o, o < 212 → (kd o).1 = 4 → st o 1 = some (o + 2)) o (kd_lt h (by decide)) h
theorem kx_4_1 {o : Nat} (h : (kd o).1 = 4) : kd (o + 2) = (13, 416) := (by decide +kernel : ∀ o, o < 212 → (kd o).1 = 4 → kd (o + 2) = (13, 416)) o (kd_lt h (by decide)) h
theorem sx_4_3 {o : Nat} (h : (kd o).1 = 4) : st o 3 = some (o + 3) := (by decide +kernel : ∀ o, o < 212 → (kd o).1 = 4 → st o 3 = some (o + 3)) o (kd_lt h (by decide)) h
theorem kx_4_3 {o : Nat} (h : (kd o).1 = 4) : kd (o + 3) = (13, 4) := (by decide +kernel : ∀ o, o < 212 → (kd o).1 = 4 → kd (o + 3) = (13, 4)) o (kd_lt h (by decide)) h
theorem sx_4_4 {o : Nat} (h : (kd o).1 = 4) : st o 4 = some (o + 4) := (by decide +kernel : ∀ o, o < 212 → (kd o).1 = 4 → st o 4 = some (o + 4)) o (kd_lt h (by decide)) h
theorem kx_4_4 {o : Nat} (h : (kd o).1 = 4) : kd (o + 4) = (13, 28) := (by decide +kernel : ∀ o, o < 212 → (kd o).1 = 4 → kd (o + 4) = (13, 28)) o (kd_lt h (by decide)) h
theorem sx_5_4 {o : Nat} (h : (kd o).1 = 5) : st o 4 = some (o + 1) := (by decide +kernel : ∀ o, o < 212 → (kd o).1 = 5 → st o 4 = some (o + 1)) o (kd_lt h (by decide)) h
theorem kx_5_4 {o : Nat} (h : (kd o).1 = 5) : kd (o + 1) = (13, 7) := (by decide +kernel : ∀ o, o < 212 → (kd o).1 = 5 → kd (o + 1) = (13, 7)) o (kd_lt h (by decide)) h
theorem sx_6_0 {o : Nat} (h : (kd o).1 = 6) : st o 0 = some (o + 1) := (by decide +kernel : ∀ o, o < 212 → (kd o).1 = 6 → st o 0 = some (o + 1)) o (kd_lt h (by decide)) h
theorem sx_6_3 {o : Nat} (h : (kd o).1 = 6) : st o 3 = some (o + 2) := (by decide +kernel : ∀ o, o < 212 → (kd o).1 = 6 → st o 3 = some (o + 2)) o (kd_lt h (by decide)) h
theorem sx_6_4 {o : Nat} (h : (kd o).1 = 6) : st o 4 = some (o + 3) := (by decide +kernel : ∀ o, o < 212 → (kd o).1 = 6 → st o 4 = some (o + 3)) o (kd_lt h (by decide)) h
theorem sx_7_0 {o : Nat} (h : (kd o).1 = 7) : st o 0 = some (o + 1) := (by decide +kernel : ∀ o, o < 212 → (kd o).1 = 7 → st o 0 = some (o + 1)) o (kd_lt h (by decide)) h
theorem sx_7_1 {o : Nat} (h : (kd o).1 = 7) : st o 1 = some (o + 2) := (by decide +kernel : ∀ o, o < 212 → (kd o).1 = 7 → st o 1 = some (o + 2)) o (kd_lt h (by decide)) h
theorem sx_7_2 {o : Nat} (h : (kd o).1 = 7) : st o 2 = some (o + 3) := (by decide +kernel : ∀ o, o < 212 → (kd o).1 = 7 → st o 2 = some (o + 3)) o (kd_lt h (by decide)) h
theorem sx_8_0 {o : Nat} (h : (kd o).1 = 8) : st o 0 = some (2) := (by decide +kernel : ∀ o, o < 212 → (kd o).1 = 8 → st o 0 = some (2)) o (kd_lt h (by decide)) h
theorem sn_8_1 {o : Nat} (h : (kd o).1 = 8) : st o 1 = none := (by decide +kernel : ∀ o, o < 212 → (kd o).1 = 8 → st o 1 = none) o (kd_lt h (by decide)) h
theorem sx_9_0 {o : Nat} (h : (kd o).1 = 9) : st o 0 = some (o + 1) := (by decide +kernel : ∀ o, o < 212 → (kd o).1 = 9 → st o 0 = some (o + 1)) o (kd_lt h (by decide)) h
theorem sx_9_1 {o : Nat} (h : (kd o).1 = 9) : st o 1 = some (o + 2) := (by decide +kernel : ∀ o, o < 212 → (kd o).1 = 9 → st o 1 = some (o + 2)) o (kd_lt h (by decide)) h
theorem sx_9_2 {o : Nat} (h : (kd o).1 = 9) : st o 2 = some (o + 3) := (by decide +kernel : ∀ o, o < 212 → (kd o).1 = 9 → st o 2 = some (o + 3)) o (kd_lt h (by decide)) h
theorem sx_9_3 {o : Nat} (h : (kd o).1 = 9) : st o 3 = some (o + 4) := (by decide +kernel : ∀ o, o < 212 → (kd o).1 = 9 → st o 3 = some (o + 4)) o (kd_lt h (by decide)) h
theorem sx_10_0 {o : Nat} (h : (kd o).1 = 10) : st o 0 = some (o + 1) := (by decide +kernel : ∀ o, o < 212 → (kd o).1 = 10 → st o 0 = some (o + 1)) o (kd_lt h (by decide)) h
theorem sx_10_2 {o : Nat} (h : (kd o).1 = 10) : st o 2 = some (o + 2) := (by decide +kernel : ∀ o, o < 212 → (kd o).1 = 10 → st o 2 = some (o + 2)) o (kd_lt h (by decide)) h
theorem sn_10_3 {o : Nat} (h : (kd o).1 = 10) : st o 3 = none := (by decide +kernel : ∀ o, o < 212 → (kd o).1 = 10 → st o 3 = none) o (kd_lt h (by decide)) h
theorem sn_10_4 {o : Nat} (h : (kd o).1 = 10) : st o 4 = none := (by decide +kernel : ∀ o, o < 212 → (kd o).1 = 10 → st o 4 = none) o (kd_lt h (by decide)) h
theorem sx_10_5 {o : Nat} (h : (kd o).1 = 10) : st o 5 = some (o + 47) := (by decide +kernel : ∀ o, o < 212 → (kd o).1 = 10 → st o 5 = some (o + 47)) o (kd_lt h (by decide)) h
theorem sx_10_6 {o : Nat} (h : (kd o).1 = 10) : st o 6 = some (o + 49) := (by decide +kernel : ∀ o, o < 212 → (kd o).1 = 10 → st o 6 = some (o + 49)) o (kd_lt h (by decide)) h
theorem sx_10_7 {o : Nat} (h : (kd o).1 = 10) : st o 7 = some (o + 50) := (by decide +kernel : ∀ o, o < 212 → (kd o).1 = 10 → st o 7 = some (o + 50)) o (kd_lt h (by decide)) h
theorem sx_10_8 {o : Nat} (h : (kd o).1 = 10) : st o 8 = some (o + 56) := (by decide +kernel : ∀ o, o < 212 → (kd o).1 = 10 → st o 8 = some (o + 56)) o (kd_lt h (by decide)) h
theorem sx_10_9 {o : Nat} (h : (kd o).1 = 10) : st o 9 = some (o + 58) := (by decide +kernel : ∀ o, o < 212 → (kd o).1 = 10 → st o 9 = some (o + 58)) o (kd_lt h (by decide)) h
theorem sx_10_10 {o : Nat} (h : (kd o).1 = 10) : st o 10 = some (o + 60) := (by decide +kernel : ∀ o, o < 212 → (kd o).1 = 10 → st o 10 = some (o + 60)) o (kd_lt h (by decide)) h
theorem sx_10_11 {o : Nat} (h : (kd o).1 = 10) : st o 11 = some (o + 66) := (by decide +kernel : ∀ o, o < 212 → (kd o).1 = 10 → st o 11 = some (o + 66)) o (kd_lt h (by decide)) h
theorem sx_10_12 {o : Nat} (h : (kd o).1 = 10) : st o 12 = some (o + 70) := (by decide +kernel : ∀ o, o < 212 → (kd o).1 = 10 → st o 12 = some (o + 70)) o (kd_lt h (by decide)) h
theorem sx_10_13 {o : Nat} (h : (kd o).1 = 10) : st o 13 = some (o + 158) := (by decide +kernel : ∀ o, o < 212 → (kd o).1 = 10 → st o 13 = some (o + 158)) o (kd_lt h (by decide)) h
theorem sx_10_16 {o : Nat} (h : (kd o).1 = 10) : st o 16 = some (o + 159) := (by decide +kernel : ∀ o, o < 212 → (kd o).1 = 10 → st o 16 = some (o + 159)) o (kd_lt h (by decide)) h
theorem sx_11_1 {o : Nat} (h : (kd o).1 = 11) : st o 1 = some (o + 1) := (by decide +kernel : ∀ o, o < 212 → (kd o).1 = 11 → st o 1 = some (o + 1)) o (kd_lt h (by decide)) h
theorem sx_11_3 {o : Nat} (h : (kd o).1 = 11) : st o 3 = some (o + 2) := (by decide +kernel : ∀ o, o < 212 → (kd o).1 = 11 → st o 3 = some (o + 2)) o (kd_lt h (by decide)) h
theorem sx_11_5 {o : Nat} (h : (kd o).1 = 11) : st o 5 = some (o + 3) := (by decide +kernel : ∀ o, o < 212 → (kd o).1 = 11 → st o 5 = some (o + 3)) o (kd_lt h (by decide)) h
theorem sx_11_6 {o : Nat} (h : (kd o).1 = 11) : st o 6 = some (o + 4) := (by decide +kernel : ∀ o, o < 212 → (kd o).1 = 11 → st o 6 = some (o + 4)) o (kd_lt h (by decide)) h
theorem sx_11_7 {o : Nat} (h : (kd o).1 = 11) : st o 7 = some (o + 5) := (by decide +kernel : ∀ o, o < 212 → (kd o).1 = 11 → st o 7 = some (o + 5)) o (kd_lt h (by decide)) h
theorem sx_11_8 {o : Nat} (h : (kd o).1 = 11) : st o 8 = some (o + 6) := (by decide +kernel : ∀ o, o < 212 → (kd o).1 = 11 → st o 8 = some (o + 6)) o (kd_lt h (by decide)) h
theorem sx_11_9 {o : Nat} (h : (kd o).1 = 11) : st o 9 = some (o + 7) := (by decide +kernel : ∀ o, o < 212 → (kd o).1 = 11 → st o 9 = some (o + 7)) o (kd_lt h (by decide)) h
theorem sx_11_21 {o : Nat} (h : (kd o).1 = 11) : st o 21 = some (o + 8) := (by decide +kernel : ∀ o, o < 212 → (kd o).1 = 11 → st o 21 = some (o + 8)) o (kd_lt h (by decide)) h
theorem sx_11_22 {o : Nat} (h : (kd o).1 = 11) : st o 22 = some (o + 9) := (by decide +kernel : ∀ o, o < 212 → (kd o).1 = 11 → st o 22 = some (o + 9)) o (kd_lt h (by decide)) h
theorem sx_11_23 {o : Nat} (h : (kd o).1 = 11) : st o 23 = some (o + 10) := (by decide +kernel : ∀ o, o < 212 → (kd o).1 = 11 → st o 23 = some (o + 10)) o (kd_lt h (by decide)) h
theorem sx_11_24 {o : Nat} (h : (kd o).1 = 11) : st o 24 = some (o + 11) := (by decide +kernel : ∀ o, o < 212 → (kd o).1 = 11 → st o 24 = some (o + 11)) o (kd_lt h (by decide)) h
theorem sx_11_25 {o : Nat} (h : (kd o).1 = 11) : st o 25 = some (o + 12) := (by decide +kernel : ∀ o, o < 212 → (kd o).1 = 11 → st o 25 = some (o + 12)) o (kd_lt h (by decide)) h
theorem sx_11_26 {o : Nat} (h : (kd o).1 = 11) : st o 26 = some (o + 13) := (by decide +kernel : ∀ o, o < 212 → (kd o).1 = 11 → st o 26 = some (o + 13)) o (kd_lt h (by decide)) h
theorem sx_11_27 {o : Nat} (h : (kd o).1 = 11) : st o 27 = some (o + 14) := (by decide +kernel : ∀ o, o < 212 → (kd o).1 = 11 → st o 27 = some (o + 14)) o (kd_lt h (by decide)) h
theorem sx_11_28 {o : Nat} (h : (kd o).1 = 11) : st o 28 = some (o + 15) := (by decide +kernel : ∀ o, o < 212 → (kd o).1 = 11 → st o 28 = some (o + 15)) o (kd_lt h (by decide)) h
theorem sx_11_29 {o : Nat} (h : (kd o).1 = 11) : st o 29 = some (o + 16) := (by decide +kernel : ∀ o, o < 212 → (kd o).1 = 11 → st o 29 = some (o + 16)) o (kd_lt h (by decide)) h
theorem sx_11_30 {o : Nat} (h : (kd o).1 = 11) : st o 30 = some (o + 17) := (by decide +kernel : ∀ o, o < 212 → (kd o).1 = 11 → st o 30 = some (o + 17)) o (kd_lt h (by decide)) h
theorem sx_11_31 {o : Nat} (h : (kd o).1 = 11) : st o 31 = some (o + 18) := (by decide +kernel : ∀ o, o < 212 → (kd o).1 = 11 → st o 31 = some (o + 18)) o (kd_lt h (by decide)) h
theorem sx_11_32 {o : Nat} (h : (kd o).1 = 11) : st o 32 = some (o + 19) := (by decide +kernel : ∀ o, o < 212 → (kd o).1 = 11 → st o 32 = some (o + 19)) o (kd_lt h (by decide)) h
theorem sx_11_33 {o : Nat} (h : (kd o).1 = 11) : st o 33 = some (o + 20) := (by decide +kernel : ∀ o, o < 212 → (kd o).1 = 11 → st o 33 = some (o + 20)) o (kd_lt h (by decide)) h
theorem sx_11_34 {o : Nat} (h : (kd o).1 = 11) : st o 34 = some (o + 21) := (by decide +kernel : ∀ o, o < 212 → (kd o).1 = 11 → st o 34 = some (o + 21)) o (kd_lt h (by decide)) h
theorem sx_11_35 {o : Nat} (h : (kd o).1 = 11) : st o 35 = some (o + 22) := (by decide +kernel : ∀ o, o < 212 → (kd o).1 = 11 → st o 35 = some (o + 22)) o (kd_lt h (by decide)) h
theorem sx_11_36 {o : Nat} (h : (kd o).1 = 11) : st o 36 = some (o + 23) := (by decide +kernel : ∀ o, o < 212 → (kd o).1 = 11 → st o 36 = some (o + 23)) o (kd_lt h (by decide)) h
theorem sx_11_37 {o : Nat} (h : (kd o).1 = 11) : st o 37 = some (o + 24) := (by decide +kernel : ∀ o, o < 212 → (kd o).1 = 11 → st o 37 = some (o + 24)) o (kd_lt h (by decide)) h
theorem sx_11_38 {o : Nat} (h : (kd o).1 = 11) : st o 38 = some (o + 25) := (by decide +kernel : ∀ o, o < 212 → (kd o).1 = 11 → st o 38 = some (o + 25)) o (kd_lt h (by decide)) h
theorem sx_11_39 {o : Nat} (h : (kd o).1 = 11) : st o 39 = some (o + 26) := (by decide +kernel : ∀ o, o < 212 → (kd o).1 = 11 → st o 39 = some (o + 26)) o (kd_lt h (by decide)) h
theorem sx_11_40 {o : Nat} (h : (kd o).1 = 11) : st o 40 = some (o + 27) := (by decide +kernel : ∀ o, o < 212 → (kd o).1 = 11 → st o 40 = some (o + 27)) o (kd_lt h (by decide)) h
theorem sx_11_42 {o : Nat} (h : (kd o).1 = 11) : st o 42 = some (o + 28) := (by decide +kernel : ∀ o, o < 212 → (kd o).1 = 11 → st o 42 = some (o + 28)) o (kd_lt h (by decide)) h
theorem sx_11_43 {o : Nat} (h : (kd o).1 = 11) : st o 43 = some (o + 29) := (by decide +kernel : ∀ o, o < 212 → (kd o).1 = 11 → st o 43 = some (o + 29)) o (kd_lt h (by decide)) h
theorem sx_11_44 {o : Nat} (h : (kd o).1 = 11) : st o 44 = some (o + 30) := (by decide +kernel : ∀ o, o < 212 → (kd o).1 = 11 → st o 44 = some (o + 30)) o (kd_lt h (by decide)) h
theorem sx_11_45 {o : Nat} (h : (kd o).1 = 11) : st o 45 = some (o + 31) := (by decide +kernel : ∀ o, o < 212 → (kd o).1 = 11 → st o 45 = some (o + 31)) o (kd_lt h (by decide)) h
theorem sx_11_46 {o : Nat} (h : (kd o).1 = 11) : st o 46 = some (o + 32) := (by decide +kernel : ∀ o, o < 212 → (kd o).1 = 11 → st o 46 = some (o + 32)) o (kd_lt h (by decide)) h
theorem sx_11_48 {o : Nat} (h : (kd o).1 = 11) : st o 48 = some (o + 33) := (by decide +kernel : ∀ o, o < 212 → (kd o).1 = 11 → st o 48 = some (o + 33)) o (kd_lt h (by decide)) h
theorem sx_11_49 {o : Nat} (h : (kd o).1 = 11) : st o 49 = some (o + 34) := (by decide +kernel : ∀ o, o < 212 → (kd o).1 = 11 → st o 49 = some (o + 34)) o (kd_lt h (by decide)) h
theorem sx_11_50 {o : Nat} (h : (kd o).1 = 11) : st o 50 = some (o + 35) := (by decide +kernel : ∀ o, o < 212 → (kd o).1 = 11 → st o 50 = some (o + 35)) o (kd_lt h (by decide)) h
theorem sx_11_52 {o : Nat} (h : (kd o).1 = 11) : st o 52 = some (o + 36) := (by decide +kernel : ∀ o, o < 212 → (kd o).1 = 11 → st o 52 = some (o + 36)) o (kd_lt h (by decide)) h
theorem sx_11_53 {o : Nat} (h : (kd o).1 = 11) : st o 53 = some (o + 37) := (by decide +kernel : ∀ o, o < 212 → (kd o).1 = 11 → st o 53 = some (o + 37)) o (kd_lt h (by decide)) h
theorem sx_11_55 {o : Nat} (h : (kd o).1 = 11) : st o 55 = some (o + 38) := (by decide +kernel : ∀ o, o < 212 → (kd o).1 = 11 → st o 55 = some (o + 38)) o (kd_lt h (by decide)) h
theorem sx_11_56 {o : Nat} (h : (kd o).1 = 11) : st o 56 = some (o + 39) := (by decide +kernel : ∀ o, o < 212 → (kd o).1 = 11 → st o 56 = some (o + 39)) o (kd_lt h (by decide)) h
theorem sx_11_60 {o : Nat} (h : (kd o).1 = 11) : st o 60 = some (o + 40) := (by decide +kernel : ∀ o, o < 212 → (kd o).1 = 11 → st o 60 = some (o + 40)) o (kd_lt h (by decide)) h
theorem sx_11_61 {o : Nat} (h : (kd o).1 = 11) : st o 61 = some (o + 41) := (by decide +kernel : ∀ o, o < 212 → (kd o).1 = 11 → st o 61 = some (o + 41)) o (kd_lt h (by decide)) h
theorem sx_11_62 {o : Nat} (h : (kd o).1 = 11) : st o 62 = some (o + 42) := (by decide +kernel : ∀ o, o < 212 → (kd o).1 = 11 → st o 62 = some (o + 42)) o (kd_lt h (by decide)) h
theorem sx_11_64 {o : Nat} (h : (kd o).1 = 11) : st o 64 = some (o + 43) := (by decide +kernel : ∀ o, o < 212 → (kd o).1 = 11 → st o 64 = some (o + 43)) o (kd_lt h (by decide)) h
theorem sx_11_65 {o : Nat} (h : (kd o).1 = 11) : st o 65 = some (o + 44) := (by decide +kernel : ∀ o, o < 212 → (kd o).1 = 11 → st o 65 = some (o + 44)) o (kd_lt h (by decide)) h
theorem sx_11_66 {o : Nat} (h : (kd o).1 = 11) : st o 66 = some (o + 45) := (by decide +kernel : ∀ o, o < 212 → (kd o).1 = 11 → st o 66 = some (o + 45)) o (kd_lt h (by decide)) h
theorem sx_11_67 {o : Nat} (h : (kd o).1 = 11) : st o 67 = some (o + 46) := (by decide +kernel : ∀ o, o < 212 → (kd o).1 = 11 → st o 67 = some (o + 46)) o (kd_lt h (by decide)) h
theorem sx_11_68 {o : Nat} (h : (kd o).1 = 11) : st o 68 = some (o + 47) := (by decide +kernel : ∀ o, o < 212 → (kd o).1 = 11 → st o 68 = some (o + 47)) o (kd_lt h (by decide)) h
theorem sx_11_70 {o : Nat} (h : (kd o).1 = 11) : st o 70 = some (o + 48) := (by decide +kernel : ∀ o, o < 212 → (kd o).1 = 11 → st o 70 = some (o + 48)) o (kd_lt h (by decide)) h
theorem sx_11_71 {o : Nat} (h : (kd o).1 = 11) : st o 71 = some (o + 49) := (by decide +kernel : ∀ o, o < 212 → (kd o).1 = 11 → st o 71 = some (o + 49)) o (kd_lt h (by decide)) h
theorem sx_11_72 {o : Nat} (h : (kd o).1 = 11) : st o 72 = some (o + 50) := (by decide +kernel : ∀ o, o < 212 → (kd o).1 = 11 → st o 72 = some (o + 50)) o (kd_lt h (by decide)) h
theorem sx_11_73 {o : Nat} (h : (kd o).1 = 11) : st o 73 = some (o + 51) := (by decide +kernel : ∀ o, o < 212 → (kd o).1 = 11 → st o 73 = some (o + 51)) o (kd_lt h (by decide)) h
theorem ix_lt_71 {i : Int32} (h : inB i 30 = true) : ix i < 30 := by
  have := inB_in h
  unfold vp_in at this
  show i.toNatClampNeg < 30
  omega
theorem sa_71 {i : Int32} (h : inB i 30 = true) : st 71 (ix i) = some (74 + 2 * ix i) := (by decide +kernel : ∀ j, j < 30 → st 71 j = some (74 + 2 * j)) _ (ix_lt_71 h)
theorem ka_71_o {i : Int32} (h : inB i 30 = true) : (kd (74 + 2 * ix i)).1 = 5 := (by decide +kernel : ∀ j, j < 30 → (kd (74 + 2 * j)).1 = 5) _ (ix_lt_71 h)
theorem kq_71 : kd 71 = (17, 30) ∨ kd 71 = (16, 30) := by decide +kernel
theorem ix_lt_72 {i : Int32} (h : inB i 3 = true) : ix i < 3 := by
  have := inB_in h
  unfold vp_in at this
  show i.toNatClampNeg < 3
  omega
theorem sa_72 {i : Int32} (h : inB i 3 = true) : st 72 (ix i) = some (134 + 8 * ix i) := (by decide +kernel : ∀ j, j < 3 → st 72 j = some (134 + 8 * j)) _ (ix_lt_72 h)
theorem ka_72_o {i : Int32} (h : inB i 3 = true) : (kd (134 + 8 * ix i)).1 = 5 := (by decide +kernel : ∀ j, j < 3 → (kd (134 + 8 * j)).1 = 5) _ (ix_lt_72 h)
theorem kq_72 : kd 72 = (17, 3) ∨ kd 72 = (16, 3) := by decide +kernel
theorem ix_lt_73 {i : Int32} (h : inB i 3 = true) : ix i < 3 := by
  have := inB_in h
  unfold vp_in at this
  show i.toNatClampNeg < 3
  omega
theorem sa_73 {i : Int32} (h : inB i 3 = true) : st 73 (ix i) = some (136 + 8 * ix i) := (by decide +kernel : ∀ j, j < 3 → st 73 j = some (136 + 8 * j)) _ (ix_lt_73 h)
theorem ka_73_o {i : Int32} (h : inB i 3 = true) : (kd (136 + 8 * ix i)).1 = 1 := (by decide +kernel : ∀ j, j < 3 → (kd (136 + 8 * j)).1 = 1) _ (ix_lt_73 h)
theorem kq_73 : kd 73 = (17, 3) ∨ kd 73 = (16, 3) := by decide +kernel
theorem mv_0_59 : MV RX0 59 4 yX4_answer cX4_answer 10 (some .int) 2 := ⟨in_g (List.mem_of_getElem? (i := 885) (by decide +kernel)) rfl, in_g (List.mem_of_getElem? (i := 886) (by decide +kernel)) rfl, in_g (List.mem_of_getElem? (i := 887) (by decide +kernel)) rfl, in_g (List.mem_of_getElem? (i := 113) (by decide +kernel)) rfl, in_g (List.mem_of_getElem? (i := 888) (by decide +kernel)) rfl, by decide, rfl, by decide +kernel, by decide +kernel, by decide +kernel⟩
theorem mv_0_79 : MV RX0 79 0 yX0_swearersOf cX0_swearersOf 8 (some .int) 4 := ⟨in_g (List.mem_of_getElem? (i := 881) (by decide +kernel)) rfl, in_g (List.mem_of_getElem? (i := 882) (by decide +kernel)) rfl, in_g (List.mem_of_getElem? (i := 883) (by decide +kernel)) rfl, in_g (List.mem_of_getElem? (i := 117) (by decide +kernel)) rfl, in_g (List.mem_of_getElem? (i := 884) (by decide +kernel)) rfl, by decide, rfl, by decide +kernel, by decide +kernel, by decide +kernel⟩
theorem mv_0_83 : MV RX0 83 0 yX0_swearers cX0_swearers 6 (some .int) 3 := ⟨in_g (List.mem_of_getElem? (i := 871) (by decide +kernel)) rfl, in_g (List.mem_of_getElem? (i := 872) (by decide +kernel)) rfl, in_g (List.mem_of_getElem? (i := 873) (by decide +kernel)) rfl, in_g (List.mem_of_getElem? (i := 117) (by decide +kernel)) rfl, in_g (List.mem_of_getElem? (i := 874) (by decide +kernel)) rfl, by decide, rfl, by decide +kernel, by decide +kernel, by decide +kernel⟩
theorem mv_0_95 : MV RX0 95 0 yX0_stands cX0_stands 3 (some .boolean) 2 := ⟨in_g (List.mem_of_getElem? (i := 867) (by decide +kernel)) rfl, in_g (List.mem_of_getElem? (i := 868) (by decide +kernel)) rfl, in_g (List.mem_of_getElem? (i := 869) (by decide +kernel)) rfl, in_g (List.mem_of_getElem? (i := 117) (by decide +kernel)) rfl, in_g (List.mem_of_getElem? (i := 870) (by decide +kernel)) rfl, by decide, rfl, by decide +kernel, by decide +kernel, by decide +kernel⟩
theorem mv_0_114 : MV RX0 114 0 yX0_counting cX0_counting 6 (some .int) 2 := ⟨in_g (List.mem_of_getElem? (i := 1154) (by decide +kernel)) rfl, in_g (List.mem_of_getElem? (i := 890) (by decide +kernel)) rfl, in_g (List.mem_of_getElem? (i := 891) (by decide +kernel)) rfl, in_g (List.mem_of_getElem? (i := 117) (by decide +kernel)) rfl, in_g (List.mem_of_getElem? (i := 892) (by decide +kernel)) rfl, by decide, rfl, by decide +kernel, by decide +kernel, by decide +kernel⟩
theorem mv_0_118 : MV RX0 118 0 yX0_owner cX0_owner 5 (some .int) 2 := ⟨in_g (List.mem_of_getElem? (i := 1004) (by decide +kernel)) rfl, in_g (List.mem_of_getElem? (i := 864) (by decide +kernel)) rfl, in_g (List.mem_of_getElem? (i := 865) (by decide +kernel)) rfl, in_g (List.mem_of_getElem? (i := 117) (by decide +kernel)) rfl, in_g (List.mem_of_getElem? (i := 866) (by decide +kernel)) rfl, by decide, rfl, by decide +kernel, by decide +kernel, by decide +kernel⟩
theorem mv_0_131 : MV RX0 131 0 yX0_deathIn100 cX0_deathIn100 3 (some .int) 2 := ⟨in_g (List.mem_of_getElem? (i := 962) (by decide +kernel)) rfl, in_g (List.mem_of_getElem? (i := 907) (by decide +kernel)) rfl, in_g (List.mem_of_getElem? (i := 908) (by decide +kernel)) rfl, in_g (List.mem_of_getElem? (i := 117) (by decide +kernel)) rfl, in_g (List.mem_of_getElem? (i := 909) (by decide +kernel)) rfl, by decide, rfl, by decide +kernel, by decide +kernel, by decide +kernel⟩
theorem mv_0_137 : MV RX0 137 0 yX0_passQuietYear cX0_passQuietYear 3 (none) 1 := ⟨in_g (List.mem_of_getElem? (i := 970) (by decide +kernel)) rfl, in_g (List.mem_of_getElem? (i := 971) (by decide +kernel)) rfl, in_g (List.mem_of_getElem? (i := 972) (by decide +kernel)) rfl, in_g (List.mem_of_getElem? (i := 117) (by decide +kernel)) rfl, in_g (List.mem_of_getElem? (i := 973) (by decide +kernel)) rfl, by decide, rfl, by decide +kernel, by decide +kernel, by decide +kernel⟩
theorem mv_0_146 : MV RX0 146 0 yX0_passYear cX0_passYear 6 (none) 2 := ⟨in_g (List.mem_of_getElem? (i := 958) (by decide +kernel)) rfl, in_g (List.mem_of_getElem? (i := 959) (by decide +kernel)) rfl, in_g (List.mem_of_getElem? (i := 960) (by decide +kernel)) rfl, in_g (List.mem_of_getElem? (i := 117) (by decide +kernel)) rfl, in_g (List.mem_of_getElem? (i := 961) (by decide +kernel)) rfl, by decide, rfl, by decide +kernel, by decide +kernel, by decide +kernel⟩
theorem mv_2_53 : MV RX2 53 2 yX2_keepsLaw cX2_keepsLaw 4 (some .boolean) 1 := ⟨in_g (List.mem_of_getElem? (i := 714) (by decide +kernel)) rfl, in_g (List.mem_of_getElem? (i := 716) (by decide +kernel)) rfl, in_g (List.mem_of_getElem? (i := 5) (by decide +kernel)) rfl, in_g (List.mem_of_getElem? (i := 114) (by decide +kernel)) rfl, in_g (List.mem_of_getElem? (i := 717) (by decide +kernel)) rfl, by decide, rfl, by decide +kernel, by decide +kernel, by decide +kernel⟩
theorem mv_2_57 : MV RX2 57 2 yX2_keepsTell cX2_keepsTell 2 (some .boolean) 1 := ⟨in_g (List.mem_of_getElem? (i := 760) (by decide +kernel)) rfl, in_g (List.mem_of_getElem? (i := 762) (by decide +kernel)) rfl, in_g (List.mem_of_getElem? (i := 13) (by decide +kernel)) rfl, in_g (List.mem_of_getElem? (i := 114) (by decide +kernel)) rfl, in_g (List.mem_of_getElem? (i := 763) (by decide +kernel)) rfl, by decide, rfl, by decide +kernel, by decide +kernel, by decide +kernel⟩
theorem mv_2_60 : MV RX2 60 2 yX2_hasRoom cX2_hasRoom 3 (some .boolean) 2 := ⟨in_g (List.mem_of_getElem? (i := 764) (by decide +kernel)) rfl, in_g (List.mem_of_getElem? (i := 766) (by decide +kernel)) rfl, in_g (List.mem_of_getElem? (i := 14) (by decide +kernel)) rfl, in_g (List.mem_of_getElem? (i := 114) (by decide +kernel)) rfl, in_g (List.mem_of_getElem? (i := 767) (by decide +kernel)) rfl, by decide, rfl, by decide +kernel, by decide +kernel, by decide +kernel⟩
theorem mv_2_64 : MV RX2 64 2 yX2_take cX2_take 2 (some .boolean) 1 := ⟨in_g (List.mem_of_getElem? (i := 718) (by decide +kernel)) rfl, in_g (List.mem_of_getElem? (i := 720) (by decide +kernel)) rfl, in_g (List.mem_of_getElem? (i := 6) (by decide +kernel)) rfl, in_g (List.mem_of_getElem? (i := 114) (by decide +kernel)) rfl, in_g (List.mem_of_getElem? (i := 721) (by decide +kernel)) rfl, by decide, rfl, by decide +kernel, by decide +kernel, by decide +kernel⟩
theorem mv_2_67 : MV RX2 67 2 yX2_takeNames cX2_takeNames 2 (some .boolean) 0 := ⟨in_g (List.mem_of_getElem? (i := 768) (by decide +kernel)) rfl, in_g (List.mem_of_getElem? (i := 770) (by decide +kernel)) rfl, in_g (List.mem_of_getElem? (i := 15) (by decide +kernel)) rfl, in_g (List.mem_of_getElem? (i := 114) (by decide +kernel)) rfl, in_g (List.mem_of_getElem? (i := 771) (by decide +kernel)) rfl, by decide, rfl, by decide +kernel, by decide +kernel, by decide +kernel⟩
theorem mv_2_71 : MV RX2 71 9 yX9_refuse cX9_refuse 3 (some .boolean) 2 := ⟨in_g (List.mem_of_getElem? (i := 722) (by decide +kernel)) rfl, in_g (List.mem_of_getElem? (i := 723) (by decide +kernel)) rfl, in_g (List.mem_of_getElem? (i := 724) (by decide +kernel)) rfl, in_g (List.mem_of_getElem? (i := 106) (by decide +kernel)) rfl, in_g (List.mem_of_getElem? (i := 725) (by decide +kernel)) rfl, by decide, rfl, by decide +kernel, by decide +kernel, by decide +kernel⟩
theorem mv_2_74 : MV RX2 74 4 yX4_begin cX4_begin 2 (none) 1 := ⟨in_g (List.mem_of_getElem? (i := 726) (by decide +kernel)) rfl, in_g (List.mem_of_getElem? (i := 279) (by decide +kernel)) rfl, in_g (List.mem_of_getElem? (i := 280) (by decide +kernel)) rfl, in_g (List.mem_of_getElem? (i := 113) (by decide +kernel)) rfl, in_g (List.mem_of_getElem? (i := 281) (by decide +kernel)) rfl, by decide, rfl, by decide +kernel, by decide +kernel, by decide +kernel⟩
theorem mv_2_80 : MV RX2 80 2 yX2_keepsSum cX2_keepsSum 3 (some .boolean) 0 := ⟨in_g (List.mem_of_getElem? (i := 727) (by decide +kernel)) rfl, in_g (List.mem_of_getElem? (i := 729) (by decide +kernel)) rfl, in_g (List.mem_of_getElem? (i := 7) (by decide +kernel)) rfl, in_g (List.mem_of_getElem? (i := 114) (by decide +kernel)) rfl, in_g (List.mem_of_getElem? (i := 730) (by decide +kernel)) rfl, by decide, rfl, by decide +kernel, by decide +kernel, by decide +kernel⟩
theorem mv_2_83 : MV RX2 83 4 yX4_put cX4_put 4 (some .int) 2 := ⟨in_g (List.mem_of_getElem? (i := 743) (by decide +kernel)) rfl, in_g (List.mem_of_getElem? (i := 283) (by decide +kernel)) rfl, in_g (List.mem_of_getElem? (i := 284) (by decide +kernel)) rfl, in_g (List.mem_of_getElem? (i := 113) (by decide +kernel)) rfl, in_g (List.mem_of_getElem? (i := 285) (by decide +kernel)) rfl, by decide, rfl, by decide +kernel, by decide +kernel, by decide +kernel⟩
theorem mv_2_87 : MV RX2 87 4 yX4_leapToHere cX4_leapToHere 2 (none) 1 := ⟨in_g (List.mem_of_getElem? (i := 756) (by decide +kernel)) rfl, in_g (List.mem_of_getElem? (i := 757) (by decide +kernel)) rfl, in_g (List.mem_of_getElem? (i := 758) (by decide +kernel)) rfl, in_g (List.mem_of_getElem? (i := 113) (by decide +kernel)) rfl, in_g (List.mem_of_getElem? (i := 759) (by decide +kernel)) rfl, by decide, rfl, by decide +kernel, by decide +kernel, by decide +kernel⟩
theorem mv_2_90 : MV RX2 90 2 yX2_takeOpenings cX2_takeOpenings 2 (some .boolean) 0 := ⟨in_g (List.mem_of_getElem? (i := 731) (by decide +kernel)) rfl, in_g (List.mem_of_getElem? (i := 733) (by decide +kernel)) rfl, in_g (List.mem_of_getElem? (i := 8) (by decide +kernel)) rfl, in_g (List.mem_of_getElem? (i := 114) (by decide +kernel)) rfl, in_g (List.mem_of_getElem? (i := 734) (by decide +kernel)) rfl, by decide, rfl, by decide +kernel, by decide +kernel, by decide +kernel⟩
theorem mv_2_93 : MV RX2 93 2 yX2_takeUnit cX2_takeUnit 2 (some .boolean) 0 := ⟨in_g (List.mem_of_getElem? (i := 739) (by decide +kernel)) rfl, in_g (List.mem_of_getElem? (i := 741) (by decide +kernel)) rfl, in_g (List.mem_of_getElem? (i := 10) (by decide +kernel)) rfl, in_g (List.mem_of_getElem? (i := 114) (by decide +kernel)) rfl, in_g (List.mem_of_getElem? (i := 742) (by decide +kernel)) rfl, by decide, rfl, by decide +kernel, by decide +kernel, by decide +kernel⟩
theorem mv_2_96 : MV RX2 96 2 yX2_takeClosings cX2_takeClosings 2 (some .boolean) 0 := ⟨in_g (List.mem_of_getElem? (i := 744) (by decide +kernel)) rfl, in_g (List.mem_of_getElem? (i := 746) (by decide +kernel)) rfl, in_g (List.mem_of_getElem? (i := 11) (by decide +kernel)) rfl, in_g (List.mem_of_getElem? (i := 114) (by decide +kernel)) rfl, in_g (List.mem_of_getElem? (i := 747) (by decide +kernel)) rfl, by decide, rfl, by decide +kernel, by decide +kernel, by decide +kernel⟩
theorem mv_2_103 : MV RX2 103 2 yX2_settle cX2_settle 4 (none) 1 := ⟨in_g (List.mem_of_getElem? (i := 748) (by decide +kernel)) rfl, in_g (List.mem_of_getElem? (i := 750) (by decide +kernel)) rfl, in_g (List.mem_of_getElem? (i := 12) (by decide +kernel)) rfl, in_g (List.mem_of_getElem? (i := 114) (by decide +kernel)) rfl, in_g (List.mem_of_getElem? (i := 751) (by decide +kernel)) rfl, by decide, rfl, by decide +kernel, by decide +kernel, by decide +kernel⟩
theorem mv_2_106 : MV RX2 106 2 yX2_await cX2_await 2 (none) 1 := ⟨in_g (List.mem_of_getElem? (i := 735) (by decide +kernel)) rfl, in_g (List.mem_of_getElem? (i := 737) (by decide +kernel)) rfl, in_g (List.mem_of_getElem? (i := 9) (by decide +kernel)) rfl, in_g (List.mem_of_getElem? (i := 114) (by decide +kernel)) rfl, in_g (List.mem_of_getElem? (i := 738) (by decide +kernel)) rfl, by decide, rfl, by decide +kernel, by decide +kernel, by decide +kernel⟩
theorem mv_3_73 : MV RX3 73 4 yX4_clear cX4_clear 1 (none) 0 := ⟨in_g (List.mem_of_getElem? (i := 274) (by decide +kernel)) rfl, in_g (List.mem_of_getElem? (i := 275) (by decide +kernel)) rfl, in_g (List.mem_of_getElem? (i := 276) (by decide +kernel)) rfl, in_g (List.mem_of_getElem? (i := 113) (by decide +kernel)) rfl, in_g (List.mem_of_getElem? (i := 277) (by decide +kernel)) rfl, by decide, rfl, by decide +kernel, by decide +kernel, by decide +kernel⟩
theorem mv_3_76 : MV RX3 76 3 yX3_rowOfName cX3_rowOfName 4 (some .int) 1 := ⟨in_g (List.mem_of_getElem? (i := 813) (by decide +kernel)) rfl, in_g (List.mem_of_getElem? (i := 789) (by decide +kernel)) rfl, in_g (List.mem_of_getElem? (i := 790) (by decide +kernel)) rfl, in_g (List.mem_of_getElem? (i := 111) (by decide +kernel)) rfl, in_g (List.mem_of_getElem? (i := 791) (by decide +kernel)) rfl, by decide, rfl, by decide +kernel, by decide +kernel, by decide +kernel⟩
theorem mv_4_28 : MV RX4 28 4 yX4_begin cX4_begin 2 (none) 1 := ⟨in_g (List.mem_of_getElem? (i := 278) (by decide +kernel)) rfl, in_g (List.mem_of_getElem? (i := 279) (by decide +kernel)) rfl, in_g (List.mem_of_getElem? (i := 280) (by decide +kernel)) rfl, in_g (List.mem_of_getElem? (i := 113) (by decide +kernel)) rfl, in_g (List.mem_of_getElem? (i := 281) (by decide +kernel)) rfl, by decide, rfl, by decide +kernel, by decide +kernel, by decide +kernel⟩
theorem mv_4_32 : MV RX4 32 4 yX4_put cX4_put 4 (some .int) 2 := ⟨in_g (List.mem_of_getElem? (i := 282) (by decide +kernel)) rfl, in_g (List.mem_of_getElem? (i := 283) (by decide +kernel)) rfl, in_g (List.mem_of_getElem? (i := 284) (by decide +kernel)) rfl, in_g (List.mem_of_getElem? (i := 113) (by decide +kernel)) rfl, in_g (List.mem_of_getElem? (i := 285) (by decide +kernel)) rfl, by decide, rfl, by decide +kernel, by decide +kernel, by decide +kernel⟩
theorem mv_6_38 : MV RX6 38 5 yX5_become cX5_become 2 (none) 1 := ⟨in_g (List.mem_of_getElem? (i := 937) (by decide +kernel)) rfl, in_g (List.mem_of_getElem? (i := 938) (by decide +kernel)) rfl, in_g (List.mem_of_getElem? (i := 939) (by decide +kernel)) rfl, in_g (List.mem_of_getElem? (i := 116) (by decide +kernel)) rfl, in_g (List.mem_of_getElem? (i := 940) (by decide +kernel)) rfl, by decide, rfl, by decide +kernel, by decide +kernel, by decide +kernel⟩
theorem mv_6_48 : MV RX6 48 1 yX1_become cX1_become 2 (none) 1 := ⟨in_g (List.mem_of_getElem? (i := 1204) (by decide +kernel)) rfl, in_g (List.mem_of_getElem? (i := 836) (by decide +kernel)) rfl, in_g (List.mem_of_getElem? (i := 837) (by decide +kernel)) rfl, in_g (List.mem_of_getElem? (i := 112) (by decide +kernel)) rfl, in_g (List.mem_of_getElem? (i := 838) (by decide +kernel)) rfl, by decide, rfl, by decide +kernel, by decide +kernel, by decide +kernel⟩
theorem mv_7_25 : MV RX7 25 0 yX0_asking cX0_asking 3 (some .int) 2 := ⟨in_g (List.mem_of_getElem? (i := 1058) (by decide +kernel)) rfl, in_g (List.mem_of_getElem? (i := 1044) (by decide +kernel)) rfl, in_g (List.mem_of_getElem? (i := 1045) (by decide +kernel)) rfl, in_g (List.mem_of_getElem? (i := 117) (by decide +kernel)) rfl, in_g (List.mem_of_getElem? (i := 1046) (by decide +kernel)) rfl, by decide, rfl, by decide +kernel, by decide +kernel, by decide +kernel⟩
theorem mv_7_31 : MV RX7 31 0 yX0_walking cX0_walking 4 (some .int) 3 := ⟨in_g (List.mem_of_getElem? (i := 1059) (by decide +kernel)) rfl, in_g (List.mem_of_getElem? (i := 1033) (by decide +kernel)) rfl, in_g (List.mem_of_getElem? (i := 1034) (by decide +kernel)) rfl, in_g (List.mem_of_getElem? (i := 117) (by decide +kernel)) rfl, in_g (List.mem_of_getElem? (i := 1035) (by decide +kernel)) rfl, by decide, rfl, by decide +kernel, by decide +kernel, by decide +kernel⟩
theorem mv_7_35 : MV RX7 35 7 yX7_findThrough cX7_findThrough 5 (none) 2 := ⟨in_g (List.mem_of_getElem? (i := 1060) (by decide +kernel)) rfl, in_g (List.mem_of_getElem? (i := 1062) (by decide +kernel)) rfl, in_g (List.mem_of_getElem? (i := 33) (by decide +kernel)) rfl, in_g (List.mem_of_getElem? (i := 118) (by decide +kernel)) rfl, in_g (List.mem_of_getElem? (i := 1063) (by decide +kernel)) rfl, by decide, rfl, by decide +kernel, by decide +kernel, by decide +kernel⟩
theorem mv_7_39 : MV RX7 39 7 yX7_nextPlot cX7_nextPlot 7 (some .int) 2 := ⟨in_g (List.mem_of_getElem? (i := 1064) (by decide +kernel)) rfl, in_g (List.mem_of_getElem? (i := 1066) (by decide +kernel)) rfl, in_g (List.mem_of_getElem? (i := 34) (by decide +kernel)) rfl, in_g (List.mem_of_getElem? (i := 118) (by decide +kernel)) rfl, in_g (List.mem_of_getElem? (i := 1067) (by decide +kernel)) rfl, by decide, rfl, by decide +kernel, by decide +kernel, by decide +kernel⟩
theorem mv_7_43 : MV RX7 43 7 yX7_lengthBy cX7_lengthBy 5 (some .int) 3 := ⟨in_g (List.mem_of_getElem? (i := 1068) (by decide +kernel)) rfl, in_g (List.mem_of_getElem? (i := 1070) (by decide +kernel)) rfl, in_g (List.mem_of_getElem? (i := 35) (by decide +kernel)) rfl, in_g (List.mem_of_getElem? (i := 118) (by decide +kernel)) rfl, in_g (List.mem_of_getElem? (i := 1071) (by decide +kernel)) rfl, by decide, rfl, by decide +kernel, by decide +kernel, by decide +kernel⟩
theorem mv_7_47 : MV RX7 47 7 yX7_firstPlot cX7_firstPlot 6 (some .int) 1 := ⟨in_g (List.mem_of_getElem? (i := 1076) (by decide +kernel)) rfl, in_g (List.mem_of_getElem? (i := 1078) (by decide +kernel)) rfl, in_g (List.mem_of_getElem? (i := 36) (by decide +kernel)) rfl, in_g (List.mem_of_getElem? (i := 118) (by decide +kernel)) rfl, in_g (List.mem_of_getElem? (i := 1079) (by decide +kernel)) rfl, by decide, rfl, by decide +kernel, by decide +kernel, by decide +kernel⟩
theorem mv_7_51 : MV RX7 51 7 yX7_askOfAll cX7_askOfAll 4 (some .int) 1 := ⟨in_g (List.mem_of_getElem? (i := 1080) (by decide +kernel)) rfl, in_g (List.mem_of_getElem? (i := 1082) (by decide +kernel)) rfl, in_g (List.mem_of_getElem? (i := 37) (by decide +kernel)) rfl, in_g (List.mem_of_getElem? (i := 118) (by decide +kernel)) rfl, in_g (List.mem_of_getElem? (i := 1083) (by decide +kernel)) rfl, by decide, rfl, by decide +kernel, by decide +kernel, by decide +kernel⟩
theorem mv_8_29 : MV RX8 29 8 yX8_fillsOne cX8_fillsOne 2 (some .boolean) 1 := ⟨in_g (List.mem_of_getElem? (i := 776) (by decide +kernel)) rfl, in_g (List.mem_of_getElem? (i := 778) (by decide +kernel)) rfl, in_g (List.mem_of_getElem? (i := 16) (by decide +kernel)) rfl, in_g (List.mem_of_getElem? (i := 115) (by decide +kernel)) rfl, in_g (List.mem_of_getElem? (i := 779) (by decide +kernel)) rfl, by decide, rfl, by decide +kernel, by decide +kernel, by decide +kernel⟩
theorem mv_8_33 : MV RX8 33 8 yX8_passSemicolon cX8_passSemicolon 2 (none) 0 := ⟨in_g (List.mem_of_getElem? (i := 826) (by decide +kernel)) rfl, in_g (List.mem_of_getElem? (i := 828) (by decide +kernel)) rfl, in_g (List.mem_of_getElem? (i := 24) (by decide +kernel)) rfl, in_g (List.mem_of_getElem? (i := 115) (by decide +kernel)) rfl, in_g (List.mem_of_getElem? (i := 829) (by decide +kernel)) rfl, by decide, rfl, by decide +kernel, by decide +kernel, by decide +kernel⟩
theorem mv_8_36 : MV RX8 36 8 yX8_fillsPerson cX8_fillsPerson 1 (some .boolean) 0 := ⟨in_g (List.mem_of_getElem? (i := 780) (by decide +kernel)) rfl, in_g (List.mem_of_getElem? (i := 782) (by decide +kernel)) rfl, in_g (List.mem_of_getElem? (i := 17) (by decide +kernel)) rfl, in_g (List.mem_of_getElem? (i := 115) (by decide +kernel)) rfl, in_g (List.mem_of_getElem? (i := 783) (by decide +kernel)) rfl, by decide, rfl, by decide +kernel, by decide +kernel, by decide +kernel⟩
theorem mv_8_40 : MV RX8 40 8 yX8_fillsPlot cX8_fillsPlot 2 (some .boolean) 0 := ⟨in_g (List.mem_of_getElem? (i := 797) (by decide +kernel)) rfl, in_g (List.mem_of_getElem? (i := 799) (by decide +kernel)) rfl, in_g (List.mem_of_getElem? (i := 19) (by decide +kernel)) rfl, in_g (List.mem_of_getElem? (i := 115) (by decide +kernel)) rfl, in_g (List.mem_of_getElem? (i := 800) (by decide +kernel)) rfl, by decide, rfl, by decide +kernel, by decide +kernel, by decide +kernel⟩
theorem mv_8_43 : MV RX8 43 8 yX8_fillsWitness cX8_fillsWitness 2 (some .boolean) 0 := ⟨in_g (List.mem_of_getElem? (i := 814) (by decide +kernel)) rfl, in_g (List.mem_of_getElem? (i := 816) (by decide +kernel)) rfl, in_g (List.mem_of_getElem? (i := 22) (by decide +kernel)) rfl, in_g (List.mem_of_getElem? (i := 115) (by decide +kernel)) rfl, in_g (List.mem_of_getElem? (i := 817) (by decide +kernel)) rfl, by decide, rfl, by decide +kernel, by decide +kernel, by decide +kernel⟩
theorem mv_8_46 : MV RX8 46 8 yX8_fillsGiving cX8_fillsGiving 8 (some .boolean) 0 := ⟨in_g (List.mem_of_getElem? (i := 818) (by decide +kernel)) rfl, in_g (List.mem_of_getElem? (i := 820) (by decide +kernel)) rfl, in_g (List.mem_of_getElem? (i := 23) (by decide +kernel)) rfl, in_g (List.mem_of_getElem? (i := 115) (by decide +kernel)) rfl, in_g (List.mem_of_getElem? (i := 821) (by decide +kernel)) rfl, by decide, rfl, by decide +kernel, by decide +kernel, by decide +kernel⟩
theorem mv_8_49 : MV RX8 49 8 yX8_takeNumber cX8_takeNumber 5 (some .int) 2 := ⟨in_g (List.mem_of_getElem? (i := 801) (by decide +kernel)) rfl, in_g (List.mem_of_getElem? (i := 803) (by decide +kernel)) rfl, in_g (List.mem_of_getElem? (i := 20) (by decide +kernel)) rfl, in_g (List.mem_of_getElem? (i := 115) (by decide +kernel)) rfl, in_g (List.mem_of_getElem? (i := 804) (by decide +kernel)) rfl, by decide, rfl, by decide +kernel, by decide +kernel, by decide +kernel⟩
theorem mv_8_72 : MV RX8 72 8 yX8_takeNewName cX8_takeNewName 3 (some .boolean) 2 := ⟨in_g (List.mem_of_getElem? (i := 784) (by decide +kernel)) rfl, in_g (List.mem_of_getElem? (i := 786) (by decide +kernel)) rfl, in_g (List.mem_of_getElem? (i := 18) (by decide +kernel)) rfl, in_g (List.mem_of_getElem? (i := 115) (by decide +kernel)) rfl, in_g (List.mem_of_getElem? (i := 787) (by decide +kernel)) rfl, by decide, rfl, by decide +kernel, by decide +kernel, by decide +kernel⟩
theorem mv_8_88 : MV RX8 88 8 yX8_takeKnown cX8_takeKnown 3 (some .int) 1 := ⟨in_g (List.mem_of_getElem? (i := 805) (by decide +kernel)) rfl, in_g (List.mem_of_getElem? (i := 807) (by decide +kernel)) rfl, in_g (List.mem_of_getElem? (i := 21) (by decide +kernel)) rfl, in_g (List.mem_of_getElem? (i := 115) (by decide +kernel)) rfl, in_g (List.mem_of_getElem? (i := 808) (by decide +kernel)) rfl, by decide, rfl, by decide +kernel, by decide +kernel, by decide +kernel⟩
theorem mv_8_101 : MV RX8 101 9 yX9_refuse cX9_refuse 3 (some .boolean) 2 := ⟨in_g (List.mem_of_getElem? (i := 792) (by decide +kernel)) rfl, in_g (List.mem_of_getElem? (i := 723) (by decide +kernel)) rfl, in_g (List.mem_of_getElem? (i := 724) (by decide +kernel)) rfl, in_g (List.mem_of_getElem? (i := 106) (by decide +kernel)) rfl, in_g (List.mem_of_getElem? (i := 725) (by decide +kernel)) rfl, by decide, rfl, by decide +kernel, by decide +kernel, by decide +kernel⟩
theorem mv_8_111 : MV RX8 111 1 yX1_put cX1_put 7 (none) 6 := ⟨in_g (List.mem_of_getElem? (i := 822) (by decide +kernel)) rfl, in_g (List.mem_of_getElem? (i := 823) (by decide +kernel)) rfl, in_g (List.mem_of_getElem? (i := 824) (by decide +kernel)) rfl, in_g (List.mem_of_getElem? (i := 112) (by decide +kernel)) rfl, in_g (List.mem_of_getElem? (i := 825) (by decide +kernel)) rfl, by decide, rfl, by decide +kernel, by decide +kernel, by decide +kernel⟩
theorem mv_8_121 : MV RX8 121 3 yX3_rowOfName cX3_rowOfName 4 (some .int) 1 := ⟨in_g (List.mem_of_getElem? (i := 788) (by decide +kernel)) rfl, in_g (List.mem_of_getElem? (i := 789) (by decide +kernel)) rfl, in_g (List.mem_of_getElem? (i := 790) (by decide +kernel)) rfl, in_g (List.mem_of_getElem? (i := 111) (by decide +kernel)) rfl, in_g (List.mem_of_getElem? (i := 791) (by decide +kernel)) rfl, by decide, rfl, by decide +kernel, by decide +kernel, by decide +kernel⟩
theorem mv_8_125 : MV RX8 125 3 yX3_addName cX3_addName 5 (none) 3 := ⟨in_g (List.mem_of_getElem? (i := 793) (by decide +kernel)) rfl, in_g (List.mem_of_getElem? (i := 794) (by decide +kernel)) rfl, in_g (List.mem_of_getElem? (i := 795) (by decide +kernel)) rfl, in_g (List.mem_of_getElem? (i := 111) (by decide +kernel)) rfl, in_g (List.mem_of_getElem? (i := 796) (by decide +kernel)) rfl, by decide, rfl, by decide +kernel, by decide +kernel, by decide +kernel⟩
theorem mv_8_129 : MV RX8 129 3 yX3_numberOfName cX3_numberOfName 5 (some .int) 2 := ⟨in_g (List.mem_of_getElem? (i := 809) (by decide +kernel)) rfl, in_g (List.mem_of_getElem? (i := 810) (by decide +kernel)) rfl, in_g (List.mem_of_getElem? (i := 811) (by decide +kernel)) rfl, in_g (List.mem_of_getElem? (i := 111) (by decide +kernel)) rfl, in_g (List.mem_of_getElem? (i := 812) (by decide +kernel)) rfl, by decide, rfl, by decide +kernel, by decide +kernel, by decide +kernel⟩
theorem mv_9_50 : MV RX9 50 9 yX9_scanOne cX9_scanOne 7 (some .int) 4 := ⟨in_g (List.mem_of_getElem? (i := 616) (by decide +kernel)) rfl, in_g (List.mem_of_getElem? (i := 618) (by decide +kernel)) rfl, in_g (List.mem_of_getElem? (i := 1) (by decide +kernel)) rfl, in_g (List.mem_of_getElem? (i := 106) (by decide +kernel)) rfl, in_g (List.mem_of_getElem? (i := 619) (by decide +kernel)) rfl, by decide, rfl, by decide +kernel, by decide +kernel, by decide +kernel⟩
theorem mv_9_61 : MV RX9 61 9 yX9_scanLetters cX9_scanLetters 8 (some .int) 4 := ⟨in_g (List.mem_of_getElem? (i := 623) (by decide +kernel)) rfl, in_g (List.mem_of_getElem? (i := 625) (by decide +kernel)) rfl, in_g (List.mem_of_getElem? (i := 2) (by decide +kernel)) rfl, in_g (List.mem_of_getElem? (i := 106) (by decide +kernel)) rfl, in_g (List.mem_of_getElem? (i := 626) (by decide +kernel)) rfl, by decide, rfl, by decide +kernel, by decide +kernel, by decide +kernel⟩
theorem mv_9_67 : MV RX9 67 9 yX9_scanDigits cX9_scanDigits 8 (some .int) 4 := ⟨in_g (List.mem_of_getElem? (i := 634) (by decide +kernel)) rfl, in_g (List.mem_of_getElem? (i := 636) (by decide +kernel)) rfl, in_g (List.mem_of_getElem? (i := 4) (by decide +kernel)) rfl, in_g (List.mem_of_getElem? (i := 106) (by decide +kernel)) rfl, in_g (List.mem_of_getElem? (i := 637) (by decide +kernel)) rfl, by decide, rfl, by decide +kernel, by decide +kernel, by decide +kernel⟩
theorem mv_9_76 : MV RX9 76 9 yX9_kindOfWord cX9_kindOfWord 4 (some .int) 1 := ⟨in_g (List.mem_of_getElem? (i := 627) (by decide +kernel)) rfl, in_g (List.mem_of_getElem? (i := 629) (by decide +kernel)) rfl, in_g (List.mem_of_getElem? (i := 3) (by decide +kernel)) rfl, in_g (List.mem_of_getElem? (i := 106) (by decide +kernel)) rfl, in_g (List.mem_of_getElem? (i := 630) (by decide +kernel)) rfl, by decide, rfl, by decide +kernel, by decide +kernel, by decide +kernel⟩
theorem mv_10_103 : MV RX10 103 10 yX10_tapeFour cX10_tapeFour 3 (none) 1 := ⟨in_g (List.mem_of_getElem? (i := 594) (by decide +kernel)) rfl, in_g (List.mem_of_getElem? (i := 596) (by decide +kernel)) rfl, in_g (List.mem_of_getElem? (i := 0) (by decide +kernel)) rfl, in_g (List.mem_of_getElem? (i := 105) (by decide +kernel)) rfl, in_g (List.mem_of_getElem? (i := 597) (by decide +kernel)) rfl, by decide, rfl, by decide +kernel, by decide +kernel, by decide +kernel⟩
theorem mv_10_107 : MV RX10 107 9 yX9_scan cX9_scan 5 (none) 2 := ⟨in_g (List.mem_of_getElem? (i := 606) (by decide +kernel)) rfl, in_g (List.mem_of_getElem? (i := 607) (by decide +kernel)) rfl, in_g (List.mem_of_getElem? (i := 608) (by decide +kernel)) rfl, in_g (List.mem_of_getElem? (i := 106) (by decide +kernel)) rfl, in_g (List.mem_of_getElem? (i := 609) (by decide +kernel)) rfl, by decide, rfl, by decide +kernel, by decide +kernel, by decide +kernel⟩
theorem mv_10_111 : MV RX10 111 3 yX3_clear cX3_clear 1 (none) 0 := ⟨in_g (List.mem_of_getElem? (i := 706) (by decide +kernel)) rfl, in_g (List.mem_of_getElem? (i := 707) (by decide +kernel)) rfl, in_g (List.mem_of_getElem? (i := 708) (by decide +kernel)) rfl, in_g (List.mem_of_getElem? (i := 111) (by decide +kernel)) rfl, in_g (List.mem_of_getElem? (i := 709) (by decide +kernel)) rfl, by decide, rfl, by decide +kernel, by decide +kernel, by decide +kernel⟩
theorem mv_10_114 : MV RX10 114 2 yX2_keeps cX2_keeps 5 (some .boolean) 1 := ⟨in_g (List.mem_of_getElem? (i := 710) (by decide +kernel)) rfl, in_g (List.mem_of_getElem? (i := 711) (by decide +kernel)) rfl, in_g (List.mem_of_getElem? (i := 712) (by decide +kernel)) rfl, in_g (List.mem_of_getElem? (i := 114) (by decide +kernel)) rfl, in_g (List.mem_of_getElem? (i := 713) (by decide +kernel)) rfl, by decide, rfl, by decide +kernel, by decide +kernel, by decide +kernel⟩
theorem mv_10_118 : MV RX10 118 8 yX8_fills cX8_fills 4 (some .boolean) 1 := ⟨in_g (List.mem_of_getElem? (i := 772) (by decide +kernel)) rfl, in_g (List.mem_of_getElem? (i := 773) (by decide +kernel)) rfl, in_g (List.mem_of_getElem? (i := 774) (by decide +kernel)) rfl, in_g (List.mem_of_getElem? (i := 115) (by decide +kernel)) rfl, in_g (List.mem_of_getElem? (i := 775) (by decide +kernel)) rfl, by decide, rfl, by decide +kernel, by decide +kernel, by decide +kernel⟩
theorem mv_10_121 : MV RX10 121 10 yX10_beginWithSpareLand cX10_beginWithSpareLand 2 (none) 0 := ⟨in_g (List.mem_of_getElem? (i := 831) (by decide +kernel)) rfl, in_g (List.mem_of_getElem? (i := 833) (by decide +kernel)) rfl, in_g (List.mem_of_getElem? (i := 25) (by decide +kernel)) rfl, in_g (List.mem_of_getElem? (i := 105) (by decide +kernel)) rfl, in_g (List.mem_of_getElem? (i := 834) (by decide +kernel)) rfl, by decide, rfl, by decide +kernel, by decide +kernel, by decide +kernel⟩
theorem mv_10_130 : MV RX10 130 10 yX10_noPlot cX10_noPlot 2 (some .boolean) 1 := ⟨in_g (List.mem_of_getElem? (i := 859) (by decide +kernel)) rfl, in_g (List.mem_of_getElem? (i := 861) (by decide +kernel)) rfl, in_g (List.mem_of_getElem? (i := 26) (by decide +kernel)) rfl, in_g (List.mem_of_getElem? (i := 105) (by decide +kernel)) rfl, in_g (List.mem_of_getElem? (i := 862) (by decide +kernel)) rfl, by decide, rfl, by decide +kernel, by decide +kernel, by decide +kernel⟩
theorem mv_10_143 : MV RX10 143 0 yX0_owner cX0_owner 5 (some .int) 2 := ⟨in_g (List.mem_of_getElem? (i := 863) (by decide +kernel)) rfl, in_g (List.mem_of_getElem? (i := 864) (by decide +kernel)) rfl, in_g (List.mem_of_getElem? (i := 865) (by decide +kernel)) rfl, in_g (List.mem_of_getElem? (i := 117) (by decide +kernel)) rfl, in_g (List.mem_of_getElem? (i := 866) (by decide +kernel)) rfl, by decide, rfl, by decide +kernel, by decide +kernel, by decide +kernel⟩
theorem mv_10_147 : MV RX10 147 0 yX0_counting cX0_counting 6 (some .int) 2 := ⟨in_g (List.mem_of_getElem? (i := 889) (by decide +kernel)) rfl, in_g (List.mem_of_getElem? (i := 890) (by decide +kernel)) rfl, in_g (List.mem_of_getElem? (i := 891) (by decide +kernel)) rfl, in_g (List.mem_of_getElem? (i := 117) (by decide +kernel)) rfl, in_g (List.mem_of_getElem? (i := 892) (by decide +kernel)) rfl, by decide, rfl, by decide +kernel, by decide +kernel, by decide +kernel⟩
theorem mv_10_156 : MV RX10 156 10 yX10_noWitness cX10_noWitness 2 (some .boolean) 1 := ⟨in_g (List.mem_of_getElem? (i := 898) (by decide +kernel)) rfl, in_g (List.mem_of_getElem? (i := 900) (by decide +kernel)) rfl, in_g (List.mem_of_getElem? (i := 27) (by decide +kernel)) rfl, in_g (List.mem_of_getElem? (i := 105) (by decide +kernel)) rfl, in_g (List.mem_of_getElem? (i := 901) (by decide +kernel)) rfl, by decide, rfl, by decide +kernel, by decide +kernel, by decide +kernel⟩
theorem mv_10_168 : MV RX10 168 0 yX0_swornToBy cX0_swornToBy 5 (some .int) 2 := ⟨in_g (List.mem_of_getElem? (i := 902) (by decide +kernel)) rfl, in_g (List.mem_of_getElem? (i := 903) (by decide +kernel)) rfl, in_g (List.mem_of_getElem? (i := 904) (by decide +kernel)) rfl, in_g (List.mem_of_getElem? (i := 117) (by decide +kernel)) rfl, in_g (List.mem_of_getElem? (i := 905) (by decide +kernel)) rfl, by decide, rfl, by decide +kernel, by decide +kernel, by decide +kernel⟩
theorem mv_10_171 : MV RX10 171 0 yX0_deathIn100 cX0_deathIn100 3 (some .int) 2 := ⟨in_g (List.mem_of_getElem? (i := 906) (by decide +kernel)) rfl, in_g (List.mem_of_getElem? (i := 907) (by decide +kernel)) rfl, in_g (List.mem_of_getElem? (i := 908) (by decide +kernel)) rfl, in_g (List.mem_of_getElem? (i := 117) (by decide +kernel)) rfl, in_g (List.mem_of_getElem? (i := 909) (by decide +kernel)) rfl, by decide, rfl, by decide +kernel, by decide +kernel, by decide +kernel⟩
theorem mv_10_174 : MV RX10 174 10 yX10_noGiving cX10_noGiving 2 (some .boolean) 1 := ⟨in_g (List.mem_of_getElem? (i := 919) (by decide +kernel)) rfl, in_g (List.mem_of_getElem? (i := 921) (by decide +kernel)) rfl, in_g (List.mem_of_getElem? (i := 28) (by decide +kernel)) rfl, in_g (List.mem_of_getElem? (i := 105) (by decide +kernel)) rfl, in_g (List.mem_of_getElem? (i := 922) (by decide +kernel)) rfl, by decide, rfl, by decide +kernel, by decide +kernel, by decide +kernel⟩
theorem mv_10_195 : MV RX10 195 0 yX0_swearers cX0_swearers 6 (some .int) 3 := ⟨in_g (List.mem_of_getElem? (i := 923) (by decide +kernel)) rfl, in_g (List.mem_of_getElem? (i := 872) (by decide +kernel)) rfl, in_g (List.mem_of_getElem? (i := 873) (by decide +kernel)) rfl, in_g (List.mem_of_getElem? (i := 117) (by decide +kernel)) rfl, in_g (List.mem_of_getElem? (i := 874) (by decide +kernel)) rfl, by decide, rfl, by decide +kernel, by decide +kernel, by decide +kernel⟩
theorem mv_10_199 : MV RX10 199 0 yX0_stands cX0_stands 3 (some .boolean) 2 := ⟨in_g (List.mem_of_getElem? (i := 924) (by decide +kernel)) rfl, in_g (List.mem_of_getElem? (i := 868) (by decide +kernel)) rfl, in_g (List.mem_of_getElem? (i := 869) (by decide +kernel)) rfl, in_g (List.mem_of_getElem? (i := 117) (by decide +kernel)) rfl, in_g (List.mem_of_getElem? (i := 870) (by decide +kernel)) rfl, by decide, rfl, by decide +kernel, by decide +kernel, by decide +kernel⟩
theorem mv_10_206 : MV RX10 206 10 yX10_noPerson cX10_noPerson 2 (some .boolean) 1 := ⟨in_g (List.mem_of_getElem? (i := 929) (by decide +kernel)) rfl, in_g (List.mem_of_getElem? (i := 931) (by decide +kernel)) rfl, in_g (List.mem_of_getElem? (i := 29) (by decide +kernel)) rfl, in_g (List.mem_of_getElem? (i := 105) (by decide +kernel)) rfl, in_g (List.mem_of_getElem? (i := 932) (by decide +kernel)) rfl, by decide, rfl, by decide +kernel, by decide +kernel, by decide +kernel⟩
theorem mv_10_214 : MV RX10 214 6 yX6_keep cX6_keep 2 (none) 1 := ⟨in_g (List.mem_of_getElem? (i := 933) (by decide +kernel)) rfl, in_g (List.mem_of_getElem? (i := 934) (by decide +kernel)) rfl, in_g (List.mem_of_getElem? (i := 935) (by decide +kernel)) rfl, in_g (List.mem_of_getElem? (i := 119) (by decide +kernel)) rfl, in_g (List.mem_of_getElem? (i := 936) (by decide +kernel)) rfl, by decide, rfl, by decide +kernel, by decide +kernel, by decide +kernel⟩
theorem mv_10_218 : MV RX10 218 1 yX1_put cX1_put 7 (none) 6 := ⟨in_g (List.mem_of_getElem? (i := 942) (by decide +kernel)) rfl, in_g (List.mem_of_getElem? (i := 823) (by decide +kernel)) rfl, in_g (List.mem_of_getElem? (i := 824) (by decide +kernel)) rfl, in_g (List.mem_of_getElem? (i := 112) (by decide +kernel)) rfl, in_g (List.mem_of_getElem? (i := 825) (by decide +kernel)) rfl, by decide, rfl, by decide +kernel, by decide +kernel, by decide +kernel⟩
theorem mv_10_228 : MV RX10 228 0 yX0_passYears cX0_passYears 5 (none) 3 := ⟨in_g (List.mem_of_getElem? (i := 954) (by decide +kernel)) rfl, in_g (List.mem_of_getElem? (i := 955) (by decide +kernel)) rfl, in_g (List.mem_of_getElem? (i := 956) (by decide +kernel)) rfl, in_g (List.mem_of_getElem? (i := 117) (by decide +kernel)) rfl, in_g (List.mem_of_getElem? (i := 957) (by decide +kernel)) rfl, by decide, rfl, by decide +kernel, by decide +kernel, by decide +kernel⟩
theorem mv_10_232 : MV RX10 232 6 yX6_takeBack cX6_takeBack 2 (some .boolean) 1 := ⟨in_g (List.mem_of_getElem? (i := 978) (by decide +kernel)) rfl, in_g (List.mem_of_getElem? (i := 979) (by decide +kernel)) rfl, in_g (List.mem_of_getElem? (i := 980) (by decide +kernel)) rfl, in_g (List.mem_of_getElem? (i := 119) (by decide +kernel)) rfl, in_g (List.mem_of_getElem? (i := 981) (by decide +kernel)) rfl, by decide, rfl, by decide +kernel, by decide +kernel, by decide +kernel⟩
theorem mv_10_236 : MV RX10 236 5 yX5_become cX5_become 2 (none) 1 := ⟨in_g (List.mem_of_getElem? (i := 986) (by decide +kernel)) rfl, in_g (List.mem_of_getElem? (i := 938) (by decide +kernel)) rfl, in_g (List.mem_of_getElem? (i := 939) (by decide +kernel)) rfl, in_g (List.mem_of_getElem? (i := 116) (by decide +kernel)) rfl, in_g (List.mem_of_getElem? (i := 940) (by decide +kernel)) rfl, by decide, rfl, by decide +kernel, by decide +kernel, by decide +kernel⟩
theorem mv_10_239 : MV RX10 239 0 yX0_passQuietYear cX0_passQuietYear 3 (none) 1 := ⟨in_g (List.mem_of_getElem? (i := 987) (by decide +kernel)) rfl, in_g (List.mem_of_getElem? (i := 971) (by decide +kernel)) rfl, in_g (List.mem_of_getElem? (i := 972) (by decide +kernel)) rfl, in_g (List.mem_of_getElem? (i := 117) (by decide +kernel)) rfl, in_g (List.mem_of_getElem? (i := 973) (by decide +kernel)) rfl, by decide, rfl, by decide +kernel, by decide +kernel, by decide +kernel⟩
theorem mv_10_245 : MV RX10 245 0 yX0_ownerByBook cX0_ownerByBook 6 (some .int) 2 := ⟨in_g (List.mem_of_getElem? (i := 992) (by decide +kernel)) rfl, in_g (List.mem_of_getElem? (i := 993) (by decide +kernel)) rfl, in_g (List.mem_of_getElem? (i := 994) (by decide +kernel)) rfl, in_g (List.mem_of_getElem? (i := 117) (by decide +kernel)) rfl, in_g (List.mem_of_getElem? (i := 995) (by decide +kernel)) rfl, by decide, rfl, by decide +kernel, by decide +kernel, by decide +kernel⟩
theorem mv_10_248 : MV RX10 248 0 yX0_plotsOfOthers cX0_plotsOfOthers 5 (some .int) 2 := ⟨in_g (List.mem_of_getElem? (i := 1000) (by decide +kernel)) rfl, in_g (List.mem_of_getElem? (i := 1001) (by decide +kernel)) rfl, in_g (List.mem_of_getElem? (i := 1002) (by decide +kernel)) rfl, in_g (List.mem_of_getElem? (i := 117) (by decide +kernel)) rfl, in_g (List.mem_of_getElem? (i := 1003) (by decide +kernel)) rfl, by decide, rfl, by decide +kernel, by decide +kernel, by decide +kernel⟩
theorem mv_10_252 : MV RX10 252 10 yX10_fewestWitnesses cX10_fewestWitnesses 5 (some .int) 1 := ⟨in_g (List.mem_of_getElem? (i := 1009) (by decide +kernel)) rfl, in_g (List.mem_of_getElem? (i := 1011) (by decide +kernel)) rfl, in_g (List.mem_of_getElem? (i := 30) (by decide +kernel)) rfl, in_g (List.mem_of_getElem? (i := 105) (by decide +kernel)) rfl, in_g (List.mem_of_getElem? (i := 1012) (by decide +kernel)) rfl, by decide, rfl, by decide +kernel, by decide +kernel, by decide +kernel⟩
theorem mv_10_259 : MV RX10 259 0 yX0_walking cX0_walking 4 (some .int) 3 := ⟨in_g (List.mem_of_getElem? (i := 1032) (by decide +kernel)) rfl, in_g (List.mem_of_getElem? (i := 1033) (by decide +kernel)) rfl, in_g (List.mem_of_getElem? (i := 1034) (by decide +kernel)) rfl, in_g (List.mem_of_getElem? (i := 117) (by decide +kernel)) rfl, in_g (List.mem_of_getElem? (i := 1035) (by decide +kernel)) rfl, by decide, rfl, by decide +kernel, by decide +kernel, by decide +kernel⟩
theorem mv_10_262 : MV RX10 262 0 yX0_asking cX0_asking 3 (some .int) 2 := ⟨in_g (List.mem_of_getElem? (i := 1043) (by decide +kernel)) rfl, in_g (List.mem_of_getElem? (i := 1044) (by decide +kernel)) rfl, in_g (List.mem_of_getElem? (i := 1045) (by decide +kernel)) rfl, in_g (List.mem_of_getElem? (i := 117) (by decide +kernel)) rfl, in_g (List.mem_of_getElem? (i := 1046) (by decide +kernel)) rfl, by decide, rfl, by decide +kernel, by decide +kernel, by decide +kernel⟩
theorem mv_10_265 : MV RX10 265 7 yX7_measure cX7_measure 6 (none) 3 := ⟨in_g (List.mem_of_getElem? (i := 1051) (by decide +kernel)) rfl, in_g (List.mem_of_getElem? (i := 1052) (by decide +kernel)) rfl, in_g (List.mem_of_getElem? (i := 1053) (by decide +kernel)) rfl, in_g (List.mem_of_getElem? (i := 118) (by decide +kernel)) rfl, in_g (List.mem_of_getElem? (i := 1054) (by decide +kernel)) rfl, by decide, rfl, by decide +kernel, by decide +kernel, by decide +kernel⟩
theorem mv_10_269 : MV RX10 269 7 yX7_shortest cX7_shortest 3 (some .int) 1 := ⟨in_g (List.mem_of_getElem? (i := 1072) (by decide +kernel)) rfl, in_g (List.mem_of_getElem? (i := 1073) (by decide +kernel)) rfl, in_g (List.mem_of_getElem? (i := 1074) (by decide +kernel)) rfl, in_g (List.mem_of_getElem? (i := 118) (by decide +kernel)) rfl, in_g (List.mem_of_getElem? (i := 1075) (by decide +kernel)) rfl, by decide, rfl, by decide +kernel, by decide +kernel, by decide +kernel⟩
theorem mv_10_272 : MV RX10 272 7 yX7_plotAt cX7_plotAt 6 (some .int) 2 := ⟨in_g (List.mem_of_getElem? (i := 1084) (by decide +kernel)) rfl, in_g (List.mem_of_getElem? (i := 1085) (by decide +kernel)) rfl, in_g (List.mem_of_getElem? (i := 1086) (by decide +kernel)) rfl, in_g (List.mem_of_getElem? (i := 118) (by decide +kernel)) rfl, in_g (List.mem_of_getElem? (i := 1087) (by decide +kernel)) rfl, by decide, rfl, by decide +kernel, by decide +kernel, by decide +kernel⟩
theorem mv_10_275 : MV RX10 275 10 yX10_lookAhead cX10_lookAhead 3 (none) 2 := ⟨in_g (List.mem_of_getElem? (i := 1092) (by decide +kernel)) rfl, in_g (List.mem_of_getElem? (i := 1094) (by decide +kernel)) rfl, in_g (List.mem_of_getElem? (i := 38) (by decide +kernel)) rfl, in_g (List.mem_of_getElem? (i := 105) (by decide +kernel)) rfl, in_g (List.mem_of_getElem? (i := 1095) (by decide +kernel)) rfl, by decide, rfl, by decide +kernel, by decide +kernel, by decide +kernel⟩
theorem mv_10_279 : MV RX10 279 0 yX0_countPlots cX0_countPlots 4 (none) 1 := ⟨in_g (List.mem_of_getElem? (i := 1096) (by decide +kernel)) rfl, in_g (List.mem_of_getElem? (i := 1097) (by decide +kernel)) rfl, in_g (List.mem_of_getElem? (i := 1098) (by decide +kernel)) rfl, in_g (List.mem_of_getElem? (i := 117) (by decide +kernel)) rfl, in_g (List.mem_of_getElem? (i := 1099) (by decide +kernel)) rfl, by decide, rfl, by decide +kernel, by decide +kernel, by decide +kernel⟩
theorem mv_10_285 : MV RX10 285 7 yX7_mostFrom cX7_mostFrom 7 (some .int) 3 := ⟨in_g (List.mem_of_getElem? (i := 1107) (by decide +kernel)) rfl, in_g (List.mem_of_getElem? (i := 1108) (by decide +kernel)) rfl, in_g (List.mem_of_getElem? (i := 1109) (by decide +kernel)) rfl, in_g (List.mem_of_getElem? (i := 118) (by decide +kernel)) rfl, in_g (List.mem_of_getElem? (i := 1110) (by decide +kernel)) rfl, by decide, rfl, by decide +kernel, by decide +kernel, by decide +kernel⟩
theorem mv_10_292 : MV RX10 292 0 yX0_standing cX0_standing 4 (some .int) 1 := ⟨in_g (List.mem_of_getElem? (i := 1125) (by decide +kernel)) rfl, in_g (List.mem_of_getElem? (i := 1126) (by decide +kernel)) rfl, in_g (List.mem_of_getElem? (i := 1127) (by decide +kernel)) rfl, in_g (List.mem_of_getElem? (i := 117) (by decide +kernel)) rfl, in_g (List.mem_of_getElem? (i := 1128) (by decide +kernel)) rfl, by decide, rfl, by decide +kernel, by decide +kernel, by decide +kernel⟩
theorem mv_10_296 : MV RX10 296 1 yX1_ofPlot cX1_ofPlot 5 (some .int) 2 := ⟨in_g (List.mem_of_getElem? (i := 1129) (by decide +kernel)) rfl, in_g (List.mem_of_getElem? (i := 1130) (by decide +kernel)) rfl, in_g (List.mem_of_getElem? (i := 1131) (by decide +kernel)) rfl, in_g (List.mem_of_getElem? (i := 112) (by decide +kernel)) rfl, in_g (List.mem_of_getElem? (i := 1132) (by decide +kernel)) rfl, by decide, rfl, by decide +kernel, by decide +kernel, by decide +kernel⟩
theorem mv_10_299 : MV RX10 299 0 yX0_passYear cX0_passYear 6 (none) 2 := ⟨in_g (List.mem_of_getElem? (i := 1145) (by decide +kernel)) rfl, in_g (List.mem_of_getElem? (i := 959) (by decide +kernel)) rfl, in_g (List.mem_of_getElem? (i := 960) (by decide +kernel)) rfl, in_g (List.mem_of_getElem? (i := 117) (by decide +kernel)) rfl, in_g (List.mem_of_getElem? (i := 961) (by decide +kernel)) rfl, by decide, rfl, by decide +kernel, by decide +kernel, by decide +kernel⟩
theorem mv_10_303 : MV RX10 303 0 yX0_countingOfAll cX0_countingOfAll 4 (some .int) 1 := ⟨in_g (List.mem_of_getElem? (i := 1150) (by decide +kernel)) rfl, in_g (List.mem_of_getElem? (i := 1151) (by decide +kernel)) rfl, in_g (List.mem_of_getElem? (i := 1152) (by decide +kernel)) rfl, in_g (List.mem_of_getElem? (i := 117) (by decide +kernel)) rfl, in_g (List.mem_of_getElem? (i := 1153) (by decide +kernel)) rfl, by decide, rfl, by decide +kernel, by decide +kernel, by decide +kernel⟩
theorem mv_10_306 : MV RX10 306 0 yX0_howManySwear cX0_howManySwear 3 (some .int) 2 := ⟨in_g (List.mem_of_getElem? (i := 1155) (by decide +kernel)) rfl, in_g (List.mem_of_getElem? (i := 1156) (by decide +kernel)) rfl, in_g (List.mem_of_getElem? (i := 1157) (by decide +kernel)) rfl, in_g (List.mem_of_getElem? (i := 117) (by decide +kernel)) rfl, in_g (List.mem_of_getElem? (i := 1158) (by decide +kernel)) rfl, by decide, rfl, by decide +kernel, by decide +kernel, by decide +kernel⟩
theorem mv_10_309 : MV RX10 309 10 yX10_leftBy cX10_leftBy 5 (some .int) 1 := ⟨in_g (List.mem_of_getElem? (i := 1187) (by decide +kernel)) rfl, in_g (List.mem_of_getElem? (i := 1189) (by decide +kernel)) rfl, in_g (List.mem_of_getElem? (i := 39) (by decide +kernel)) rfl, in_g (List.mem_of_getElem? (i := 105) (by decide +kernel)) rfl, in_g (List.mem_of_getElem? (i := 1190) (by decide +kernel)) rfl, by decide, rfl, by decide +kernel, by decide +kernel, by decide +kernel⟩
theorem mv_10_317 : MV RX10 317 6 yX6_holdIn cX6_holdIn 4 (none) 3 := ⟨in_g (List.mem_of_getElem? (i := 1200) (by decide +kernel)) rfl, in_g (List.mem_of_getElem? (i := 1201) (by decide +kernel)) rfl, in_g (List.mem_of_getElem? (i := 1202) (by decide +kernel)) rfl, in_g (List.mem_of_getElem? (i := 119) (by decide +kernel)) rfl, in_g (List.mem_of_getElem? (i := 1203) (by decide +kernel)) rfl, by decide, rfl, by decide +kernel, by decide +kernel, by decide +kernel⟩
theorem mv_10_321 : MV RX10 321 6 yX6_goOnFrom cX6_goOnFrom 4 (some .boolean) 3 := ⟨in_g (List.mem_of_getElem? (i := 1209) (by decide +kernel)) rfl, in_g (List.mem_of_getElem? (i := 1210) (by decide +kernel)) rfl, in_g (List.mem_of_getElem? (i := 1211) (by decide +kernel)) rfl, in_g (List.mem_of_getElem? (i := 119) (by decide +kernel)) rfl, in_g (List.mem_of_getElem? (i := 1212) (by decide +kernel)) rfl, by decide, rfl, by decide +kernel, by decide +kernel, by decide +kernel⟩
theorem mv_10_334 : MV RX10 334 10 yX10_plotsPassed cX10_plotsPassed 3 (some .int) 0 := ⟨in_g (List.mem_of_getElem? (i := 1217) (by decide +kernel)) rfl, in_g (List.mem_of_getElem? (i := 1219) (by decide +kernel)) rfl, in_g (List.mem_of_getElem? (i := 40) (by decide +kernel)) rfl, in_g (List.mem_of_getElem? (i := 105) (by decide +kernel)) rfl, in_g (List.mem_of_getElem? (i := 1220) (by decide +kernel)) rfl, by decide, rfl, by decide +kernel, by decide +kernel, by decide +kernel⟩
theorem mv_10_338 : MV RX10 338 10 yX10_allSwearing cX10_allSwearing 3 (some .int) 0 := ⟨in_g (List.mem_of_getElem? (i := 1221) (by decide +kernel)) rfl, in_g (List.mem_of_getElem? (i := 1223) (by decide +kernel)) rfl, in_g (List.mem_of_getElem? (i := 41) (by decide +kernel)) rfl, in_g (List.mem_of_getElem? (i := 105) (by decide +kernel)) rfl, in_g (List.mem_of_getElem? (i := 1224) (by decide +kernel)) rfl, by decide, rfl, by decide +kernel, by decide +kernel, by decide +kernel⟩
theorem mv_10_344 : MV RX10 344 1 yX1_become cX1_become 2 (none) 1 := ⟨in_g (List.mem_of_getElem? (i := 835) (by decide +kernel)) rfl, in_g (List.mem_of_getElem? (i := 836) (by decide +kernel)) rfl, in_g (List.mem_of_getElem? (i := 837) (by decide +kernel)) rfl, in_g (List.mem_of_getElem? (i := 112) (by decide +kernel)) rfl, in_g (List.mem_of_getElem? (i := 838) (by decide +kernel)) rfl, by decide, rfl, by decide +kernel, by decide +kernel, by decide +kernel⟩
theorem mv_10_347 : MV RX10 347 5 yX5_begin cX5_begin 2 (none) 1 := ⟨in_g (List.mem_of_getElem? (i := 842) (by decide +kernel)) rfl, in_g (List.mem_of_getElem? (i := 843) (by decide +kernel)) rfl, in_g (List.mem_of_getElem? (i := 844) (by decide +kernel)) rfl, in_g (List.mem_of_getElem? (i := 116) (by decide +kernel)) rfl, in_g (List.mem_of_getElem? (i := 845) (by decide +kernel)) rfl, by decide, rfl, by decide +kernel, by decide +kernel, by decide +kernel⟩
theorem mv_10_351 : MV RX10 351 6 yX6_forgetAll cX6_forgetAll 1 (none) 0 := ⟨in_g (List.mem_of_getElem? (i := 847) (by decide +kernel)) rfl, in_g (List.mem_of_getElem? (i := 848) (by decide +kernel)) rfl, in_g (List.mem_of_getElem? (i := 849) (by decide +kernel)) rfl, in_g (List.mem_of_getElem? (i := 119) (by decide +kernel)) rfl, in_g (List.mem_of_getElem? (i := 850) (by decide +kernel)) rfl, by decide, rfl, by decide +kernel, by decide +kernel, by decide +kernel⟩
theorem mv_10_354 : MV RX10 354 10 yX10_seeWhoWouldSwear cX10_seeWhoWouldSwear 4 (none) 2 := ⟨in_g (List.mem_of_getElem? (i := 1013) (by decide +kernel)) rfl, in_g (List.mem_of_getElem? (i := 1015) (by decide +kernel)) rfl, in_g (List.mem_of_getElem? (i := 31) (by decide +kernel)) rfl, in_g (List.mem_of_getElem? (i := 105) (by decide +kernel)) rfl, in_g (List.mem_of_getElem? (i := 1016) (by decide +kernel)) rfl, by decide, rfl, by decide +kernel, by decide +kernel, by decide +kernel⟩
theorem mv_10_360 : MV RX10 360 10 yX10_coversYears cX10_coversYears 4 (some .boolean) 2 := ⟨in_g (List.mem_of_getElem? (i := 1021) (by decide +kernel)) rfl, in_g (List.mem_of_getElem? (i := 1023) (by decide +kernel)) rfl, in_g (List.mem_of_getElem? (i := 32) (by decide +kernel)) rfl, in_g (List.mem_of_getElem? (i := 105) (by decide +kernel)) rfl, in_g (List.mem_of_getElem? (i := 1024) (by decide +kernel)) rfl, by decide, rfl, by decide +kernel, by decide +kernel, by decide +kernel⟩
theorem mv_10_364 : MV RX10 364 0 yX0_swearersOf cX0_swearersOf 8 (some .int) 4 := ⟨in_g (List.mem_of_getElem? (i := 1017) (by decide +kernel)) rfl, in_g (List.mem_of_getElem? (i := 882) (by decide +kernel)) rfl, in_g (List.mem_of_getElem? (i := 883) (by decide +kernel)) rfl, in_g (List.mem_of_getElem? (i := 117) (by decide +kernel)) rfl, in_g (List.mem_of_getElem? (i := 884) (by decide +kernel)) rfl, by decide, rfl, by decide +kernel, by decide +kernel, by decide +kernel⟩
theorem mv_11_173 : MV RX11 173 11 yX11_plain cX11_plain 3 (none) 1 := ⟨in_g (List.mem_of_getElem? (i := 1231) (by decide +kernel)) rfl, in_g (List.mem_of_getElem? (i := 1233) (by decide +kernel)) rfl, in_g (List.mem_of_getElem? (i := 42) (by decide +kernel)) rfl, in_g (List.mem_of_getElem? (i := 120) (by decide +kernel)) rfl, in_g (List.mem_of_getElem? (i := 1234) (by decide +kernel)) rfl, by decide, rfl, by decide +kernel, by decide +kernel, by decide +kernel⟩
theorem mv_11_181 : MV RX11 181 11 yX11_begins cX11_begins 2 (none) 0 := ⟨in_g (List.mem_of_getElem? (i := 1242) (by decide +kernel)) rfl, in_g (List.mem_of_getElem? (i := 1244) (by decide +kernel)) rfl, in_g (List.mem_of_getElem? (i := 43) (by decide +kernel)) rfl, in_g (List.mem_of_getElem? (i := 120) (by decide +kernel)) rfl, in_g (List.mem_of_getElem? (i := 1245) (by decide +kernel)) rfl, by decide, rfl, by decide +kernel, by decide +kernel, by decide +kernel⟩
theorem mv_11_184 : MV RX11 184 11 yX11_keepsRow cX11_keepsRow 2 (none) 0 := ⟨in_g (List.mem_of_getElem? (i := 1246) (by decide +kernel)) rfl, in_g (List.mem_of_getElem? (i := 1248) (by decide +kernel)) rfl, in_g (List.mem_of_getElem? (i := 44) (by decide +kernel)) rfl, in_g (List.mem_of_getElem? (i := 120) (by decide +kernel)) rfl, in_g (List.mem_of_getElem? (i := 1249) (by decide +kernel)) rfl, by decide, rfl, by decide +kernel, by decide +kernel, by decide +kernel⟩
theorem mv_11_190 : MV RX11 190 11 yX11_put cX11_put 3 (none) 1 := ⟨in_g (List.mem_of_getElem? (i := 1477) (by decide +kernel)) rfl, in_g (List.mem_of_getElem? (i := 1479) (by decide +kernel)) rfl, in_g (List.mem_of_getElem? (i := 45) (by decide +kernel)) rfl, in_g (List.mem_of_getElem? (i := 120) (by decide +kernel)) rfl, in_g (List.mem_of_getElem? (i := 1480) (by decide +kernel)) rfl, by decide, rfl, by decide +kernel, by decide +kernel, by decide +kernel⟩
theorem mv_11_205 : MV RX11 205 11 yX11_byteAt cX11_byteAt 2 (some .int) 1 := ⟨in_g (List.mem_of_getElem? (i := 1493) (by decide +kernel)) rfl, in_g (List.mem_of_getElem? (i := 1495) (by decide +kernel)) rfl, in_g (List.mem_of_getElem? (i := 47) (by decide +kernel)) rfl, in_g (List.mem_of_getElem? (i := 120) (by decide +kernel)) rfl, in_g (List.mem_of_getElem? (i := 1496) (by decide +kernel)) rfl, by decide, rfl, by decide +kernel, by decide +kernel, by decide +kernel⟩
theorem mv_11_209 : MV RX11 209 11 yX11_token cX11_token 6 (none) 4 := ⟨in_g (List.mem_of_getElem? (i := 1497) (by decide +kernel)) rfl, in_g (List.mem_of_getElem? (i := 1499) (by decide +kernel)) rfl, in_g (List.mem_of_getElem? (i := 48) (by decide +kernel)) rfl, in_g (List.mem_of_getElem? (i := 120) (by decide +kernel)) rfl, in_g (List.mem_of_getElem? (i := 1500) (by decide +kernel)) rfl, by decide, rfl, by decide +kernel, by decide +kernel, by decide +kernel⟩
theorem mv_11_220 : MV RX11 220 11 yX11_sign cX11_sign 5 (some .int) 3 := ⟨in_g (List.mem_of_getElem? (i := 1507) (by decide +kernel)) rfl, in_g (List.mem_of_getElem? (i := 1509) (by decide +kernel)) rfl, in_g (List.mem_of_getElem? (i := 49) (by decide +kernel)) rfl, in_g (List.mem_of_getElem? (i := 120) (by decide +kernel)) rfl, in_g (List.mem_of_getElem? (i := 1510) (by decide +kernel)) rfl, by decide, rfl, by decide +kernel, by decide +kernel, by decide +kernel⟩
theorem mv_11_239 : MV RX11 239 11 yX11_fail cX11_fail 2 (none) 1 := ⟨in_g (List.mem_of_getElem? (i := 1523) (by decide +kernel)) rfl, in_g (List.mem_of_getElem? (i := 1525) (by decide +kernel)) rfl, in_g (List.mem_of_getElem? (i := 53) (by decide +kernel)) rfl, in_g (List.mem_of_getElem? (i := 120) (by decide +kernel)) rfl, in_g (List.mem_of_getElem? (i := 1526) (by decide +kernel)) rfl, by decide, rfl, by decide +kernel, by decide +kernel, by decide +kernel⟩
theorem mv_11_242 : MV RX11 242 11 yX11_is cX11_is 2 (some .boolean) 1 := ⟨in_g (List.mem_of_getElem? (i := 1511) (by decide +kernel)) rfl, in_g (List.mem_of_getElem? (i := 1513) (by decide +kernel)) rfl, in_g (List.mem_of_getElem? (i := 50) (by decide +kernel)) rfl, in_g (List.mem_of_getElem? (i := 120) (by decide +kernel)) rfl, in_g (List.mem_of_getElem? (i := 1514) (by decide +kernel)) rfl, by decide, rfl, by decide +kernel, by decide +kernel, by decide +kernel⟩
theorem mv_11_245 : MV RX11 245 11 yX11_goesOn cX11_goesOn 1 (none) 0 := ⟨in_g (List.mem_of_getElem? (i := 1527) (by decide +kernel)) rfl, in_g (List.mem_of_getElem? (i := 1529) (by decide +kernel)) rfl, in_g (List.mem_of_getElem? (i := 54) (by decide +kernel)) rfl, in_g (List.mem_of_getElem? (i := 120) (by decide +kernel)) rfl, in_g (List.mem_of_getElem? (i := 1530) (by decide +kernel)) rfl, by decide, rfl, by decide +kernel, by decide +kernel, by decide +kernel⟩
theorem mv_11_248 : MV RX11 248 11 yX11_cut cX11_cut 8 (none) 0 := ⟨in_g (List.mem_of_getElem? (i := 1489) (by decide +kernel)) rfl, in_g (List.mem_of_getElem? (i := 1491) (by decide +kernel)) rfl, in_g (List.mem_of_getElem? (i := 46) (by decide +kernel)) rfl, in_g (List.mem_of_getElem? (i := 120) (by decide +kernel)) rfl, in_g (List.mem_of_getElem? (i := 1492) (by decide +kernel)) rfl, by decide, rfl, by decide +kernel, by decide +kernel, by decide +kernel⟩
theorem mv_11_269 : MV RX11 269 11 yX11_tellOne cX11_tellOne 2 (none) 0 := ⟨in_g (List.mem_of_getElem? (i := 1515) (by decide +kernel)) rfl, in_g (List.mem_of_getElem? (i := 1517) (by decide +kernel)) rfl, in_g (List.mem_of_getElem? (i := 51) (by decide +kernel)) rfl, in_g (List.mem_of_getElem? (i := 120) (by decide +kernel)) rfl, in_g (List.mem_of_getElem? (i := 1518) (by decide +kernel)) rfl, by decide, rfl, by decide +kernel, by decide +kernel, by decide +kernel⟩
theorem mv_11_278 : MV RX11 278 11 yX11_bounded cX11_bounded 4 (some .int) 2 := ⟨in_g (List.mem_of_getElem? (i := 1551) (by decide +kernel)) rfl, in_g (List.mem_of_getElem? (i := 1553) (by decide +kernel)) rfl, in_g (List.mem_of_getElem? (i := 60) (by decide +kernel)) rfl, in_g (List.mem_of_getElem? (i := 120) (by decide +kernel)) rfl, in_g (List.mem_of_getElem? (i := 1554) (by decide +kernel)) rfl, by decide, rfl, by decide +kernel, by decide +kernel, by decide +kernel⟩
theorem mv_11_282 : MV RX11 282 11 yX11_must cX11_must 2 (none) 1 := ⟨in_g (List.mem_of_getElem? (i := 1535) (by decide +kernel)) rfl, in_g (List.mem_of_getElem? (i := 1537) (by decide +kernel)) rfl, in_g (List.mem_of_getElem? (i := 56) (by decide +kernel)) rfl, in_g (List.mem_of_getElem? (i := 120) (by decide +kernel)) rfl, in_g (List.mem_of_getElem? (i := 1538) (by decide +kernel)) rfl, by decide, rfl, by decide +kernel, by decide +kernel, by decide +kernel⟩
theorem mv_11_285 : MV RX11 285 11 yX11_roomFor cX11_roomFor 3 (none) 2 := ⟨in_g (List.mem_of_getElem? (i := 1519) (by decide +kernel)) rfl, in_g (List.mem_of_getElem? (i := 1521) (by decide +kernel)) rfl, in_g (List.mem_of_getElem? (i := 52) (by decide +kernel)) rfl, in_g (List.mem_of_getElem? (i := 120) (by decide +kernel)) rfl, in_g (List.mem_of_getElem? (i := 1522) (by decide +kernel)) rfl, by decide, rfl, by decide +kernel, by decide +kernel, by decide +kernel⟩
theorem mv_11_289 : MV RX11 289 11 yX11_named cX11_named 3 (some .int) 0 := ⟨in_g (List.mem_of_getElem? (i := 1531) (by decide +kernel)) rfl, in_g (List.mem_of_getElem? (i := 1533) (by decide +kernel)) rfl, in_g (List.mem_of_getElem? (i := 55) (by decide +kernel)) rfl, in_g (List.mem_of_getElem? (i := 120) (by decide +kernel)) rfl, in_g (List.mem_of_getElem? (i := 1534) (by decide +kernel)) rfl, by decide, rfl, by decide +kernel, by decide +kernel, by decide +kernel⟩
theorem mv_11_293 : MV RX11 293 11 yX11_ends cX11_ends 3 (none) 2 := ⟨in_g (List.mem_of_getElem? (i := 1543) (by decide +kernel)) rfl, in_g (List.mem_of_getElem? (i := 1545) (by decide +kernel)) rfl, in_g (List.mem_of_getElem? (i := 58) (by decide +kernel)) rfl, in_g (List.mem_of_getElem? (i := 120) (by decide +kernel)) rfl, in_g (List.mem_of_getElem? (i := 1546) (by decide +kernel)) rfl, by decide, rfl, by decide +kernel, by decide +kernel, by decide +kernel⟩
theorem mv_11_296 : MV RX11 296 11 yX11_tellPlot cX11_tellPlot 3 (none) 0 := ⟨in_g (List.mem_of_getElem? (i := 1547) (by decide +kernel)) rfl, in_g (List.mem_of_getElem? (i := 1549) (by decide +kernel)) rfl, in_g (List.mem_of_getElem? (i := 59) (by decide +kernel)) rfl, in_g (List.mem_of_getElem? (i := 120) (by decide +kernel)) rfl, in_g (List.mem_of_getElem? (i := 1550) (by decide +kernel)) rfl, by decide, rfl, by decide +kernel, by decide +kernel, by decide +kernel⟩
theorem mv_11_299 : MV RX11 299 11 yX11_tellWitness cX11_tellWitness 3 (none) 0 := ⟨in_g (List.mem_of_getElem? (i := 1559) (by decide +kernel)) rfl, in_g (List.mem_of_getElem? (i := 1561) (by decide +kernel)) rfl, in_g (List.mem_of_getElem? (i := 62) (by decide +kernel)) rfl, in_g (List.mem_of_getElem? (i := 120) (by decide +kernel)) rfl, in_g (List.mem_of_getElem? (i := 1562) (by decide +kernel)) rfl, by decide, rfl, by decide +kernel, by decide +kernel, by decide +kernel⟩
theorem mv_11_302 : MV RX11 302 11 yX11_tellGiving cX11_tellGiving 5 (none) 0 := ⟨in_g (List.mem_of_getElem? (i := 1563) (by decide +kernel)) rfl, in_g (List.mem_of_getElem? (i := 1565) (by decide +kernel)) rfl, in_g (List.mem_of_getElem? (i := 63) (by decide +kernel)) rfl, in_g (List.mem_of_getElem? (i := 120) (by decide +kernel)) rfl, in_g (List.mem_of_getElem? (i := 1566) (by decide +kernel)) rfl, by decide, rfl, by decide +kernel, by decide +kernel, by decide +kernel⟩
theorem mv_11_305 : MV RX11 305 11 yX11_toldInt cX11_toldInt 4 (some .int) 2 := ⟨in_g (List.mem_of_getElem? (i := 1567) (by decide +kernel)) rfl, in_g (List.mem_of_getElem? (i := 1569) (by decide +kernel)) rfl, in_g (List.mem_of_getElem? (i := 64) (by decide +kernel)) rfl, in_g (List.mem_of_getElem? (i := 120) (by decide +kernel)) rfl, in_g (List.mem_of_getElem? (i := 1570) (by decide +kernel)) rfl, by decide, rfl, by decide +kernel, by decide +kernel, by decide +kernel⟩
theorem mv_11_308 : MV RX11 308 11 yX11_tellLaw cX11_tellLaw 4 (none) 1 := ⟨in_g (List.mem_of_getElem? (i := 1571) (by decide +kernel)) rfl, in_g (List.mem_of_getElem? (i := 1573) (by decide +kernel)) rfl, in_g (List.mem_of_getElem? (i := 65) (by decide +kernel)) rfl, in_g (List.mem_of_getElem? (i := 120) (by decide +kernel)) rfl, in_g (List.mem_of_getElem? (i := 1574) (by decide +kernel)) rfl, by decide, rfl, by decide +kernel, by decide +kernel, by decide +kernel⟩
theorem mv_11_311 : MV RX11 311 11 yX11_wrong cX11_wrong 4 (none) 2 := ⟨in_g (List.mem_of_getElem? (i := 1539) (by decide +kernel)) rfl, in_g (List.mem_of_getElem? (i := 1541) (by decide +kernel)) rfl, in_g (List.mem_of_getElem? (i := 57) (by decide +kernel)) rfl, in_g (List.mem_of_getElem? (i := 120) (by decide +kernel)) rfl, in_g (List.mem_of_getElem? (i := 1542) (by decide +kernel)) rfl, by decide, rfl, by decide +kernel, by decide +kernel, by decide +kernel⟩
theorem mv_11_314 : MV RX11 314 11 yX11_known cX11_known 4 (some .int) 1 := ⟨in_g (List.mem_of_getElem? (i := 1555) (by decide +kernel)) rfl, in_g (List.mem_of_getElem? (i := 1557) (by decide +kernel)) rfl, in_g (List.mem_of_getElem? (i := 61) (by decide +kernel)) rfl, in_g (List.mem_of_getElem? (i := 120) (by decide +kernel)) rfl, in_g (List.mem_of_getElem? (i := 1558) (by decide +kernel)) rfl, by decide, rfl, by decide +kernel, by decide +kernel, by decide +kernel⟩
theorem mv_11_317 : MV RX11 317 11 yX11_expression cX11_expression 3 (none) 0 := ⟨in_g (List.mem_of_getElem? (i := 1575) (by decide +kernel)) rfl, in_g (List.mem_of_getElem? (i := 1577) (by decide +kernel)) rfl, in_g (List.mem_of_getElem? (i := 66) (by decide +kernel)) rfl, in_g (List.mem_of_getElem? (i := 120) (by decide +kernel)) rfl, in_g (List.mem_of_getElem? (i := 1578) (by decide +kernel)) rfl, by decide, rfl, by decide +kernel, by decide +kernel, by decide +kernel⟩
theorem mv_11_320 : MV RX11 320 11 yX11_term cX11_term 1 (none) 0 := ⟨in_g (List.mem_of_getElem? (i := 1591) (by decide +kernel)) rfl, in_g (List.mem_of_getElem? (i := 1593) (by decide +kernel)) rfl, in_g (List.mem_of_getElem? (i := 70) (by decide +kernel)) rfl, in_g (List.mem_of_getElem? (i := 120) (by decide +kernel)) rfl, in_g (List.mem_of_getElem? (i := 1594) (by decide +kernel)) rfl, by decide, rfl, by decide +kernel, by decide +kernel, by decide +kernel⟩
theorem mv_11_326 : MV RX11 326 11 yX11_emit cX11_emit 3 (none) 2 := ⟨in_g (List.mem_of_getElem? (i := 1583) (by decide +kernel)) rfl, in_g (List.mem_of_getElem? (i := 1585) (by decide +kernel)) rfl, in_g (List.mem_of_getElem? (i := 68) (by decide +kernel)) rfl, in_g (List.mem_of_getElem? (i := 120) (by decide +kernel)) rfl, in_g (List.mem_of_getElem? (i := 1586) (by decide +kernel)) rfl, by decide, rfl, by decide +kernel, by decide +kernel, by decide +kernel⟩
theorem mv_11_329 : MV RX11 329 11 yX11_unit cX11_unit 1 (none) 0 := ⟨in_g (List.mem_of_getElem? (i := 1579) (by decide +kernel)) rfl, in_g (List.mem_of_getElem? (i := 1581) (by decide +kernel)) rfl, in_g (List.mem_of_getElem? (i := 67) (by decide +kernel)) rfl, in_g (List.mem_of_getElem? (i := 120) (by decide +kernel)) rfl, in_g (List.mem_of_getElem? (i := 1582) (by decide +kernel)) rfl, by decide, rfl, by decide +kernel, by decide +kernel, by decide +kernel⟩
theorem mv_11_332 : MV RX11 332 11 yX11_comesOut cX11_comesOut 3 (none) 1 := ⟨in_g (List.mem_of_getElem? (i := 1587) (by decide +kernel)) rfl, in_g (List.mem_of_getElem? (i := 1589) (by decide +kernel)) rfl, in_g (List.mem_of_getElem? (i := 69) (by decide +kernel)) rfl, in_g (List.mem_of_getElem? (i := 120) (by decide +kernel)) rfl, in_g (List.mem_of_getElem? (i := 1590) (by decide +kernel)) rfl, by decide, rfl, by decide +kernel, by decide +kernel, by decide +kernel⟩
theorem mv_11_357 : MV RX11 357 11 yX11_termOf cX11_termOf 8 (some .int) 2 := ⟨in_g (List.mem_of_getElem? (i := 1645) (by decide +kernel)) rfl, in_g (List.mem_of_getElem? (i := 1647) (by decide +kernel)) rfl, in_g (List.mem_of_getElem? (i := 80) (by decide +kernel)) rfl, in_g (List.mem_of_getElem? (i := 120) (by decide +kernel)) rfl, in_g (List.mem_of_getElem? (i := 1648) (by decide +kernel)) rfl, by decide, rfl, by decide +kernel, by decide +kernel, by decide +kernel⟩
theorem mv_11_360 : MV RX11 360 11 yX11_looks cX11_looks 2 (none) 0 := ⟨in_g (List.mem_of_getElem? (i := 1634) (by decide +kernel)) rfl, in_g (List.mem_of_getElem? (i := 1636) (by decide +kernel)) rfl, in_g (List.mem_of_getElem? (i := 78) (by decide +kernel)) rfl, in_g (List.mem_of_getElem? (i := 120) (by decide +kernel)) rfl, in_g (List.mem_of_getElem? (i := 1637) (by decide +kernel)) rfl, by decide, rfl, by decide +kernel, by decide +kernel, by decide +kernel⟩
theorem mv_11_363 : MV RX11 363 11 yX11_looksAt cX11_looksAt 2 (none) 1 := ⟨in_g (List.mem_of_getElem? (i := 1630) (by decide +kernel)) rfl, in_g (List.mem_of_getElem? (i := 1632) (by decide +kernel)) rfl, in_g (List.mem_of_getElem? (i := 77) (by decide +kernel)) rfl, in_g (List.mem_of_getElem? (i := 120) (by decide +kernel)) rfl, in_g (List.mem_of_getElem? (i := 1633) (by decide +kernel)) rfl, by decide, rfl, by decide +kernel, by decide +kernel, by decide +kernel⟩
theorem mv_11_369 : MV RX11 369 11 yX11_lawTells cX11_lawTells 7 (some .int) 2 := ⟨in_g (List.mem_of_getElem? (i := 1641) (by decide +kernel)) rfl, in_g (List.mem_of_getElem? (i := 1643) (by decide +kernel)) rfl, in_g (List.mem_of_getElem? (i := 79) (by decide +kernel)) rfl, in_g (List.mem_of_getElem? (i := 120) (by decide +kernel)) rfl, in_g (List.mem_of_getElem? (i := 1644) (by decide +kernel)) rfl, by decide, rfl, by decide +kernel, by decide +kernel, by decide +kernel⟩
theorem mv_11_378 : MV RX11 378 11 yX11_doesSwear cX11_doesSwear 3 (some .boolean) 2 := ⟨in_g (List.mem_of_getElem? (i := 1626) (by decide +kernel)) rfl, in_g (List.mem_of_getElem? (i := 1628) (by decide +kernel)) rfl, in_g (List.mem_of_getElem? (i := 76) (by decide +kernel)) rfl, in_g (List.mem_of_getElem? (i := 120) (by decide +kernel)) rfl, in_g (List.mem_of_getElem? (i := 1629) (by decide +kernel)) rfl, by decide, rfl, by decide +kernel, by decide +kernel, by decide +kernel⟩
theorem mv_11_382 : MV RX11 382 11 yX11_swearBits cX11_swearBits 4 (some .int) 1 := ⟨in_g (List.mem_of_getElem? (i := 1622) (by decide +kernel)) rfl, in_g (List.mem_of_getElem? (i := 1624) (by decide +kernel)) rfl, in_g (List.mem_of_getElem? (i := 75) (by decide +kernel)) rfl, in_g (List.mem_of_getElem? (i := 120) (by decide +kernel)) rfl, in_g (List.mem_of_getElem? (i := 1625) (by decide +kernel)) rfl, by decide, rfl, by decide +kernel, by decide +kernel, by decide +kernel⟩
theorem mv_11_385 : MV RX11 385 11 yX11_doesStand cX11_doesStand 2 (some .boolean) 1 := ⟨in_g (List.mem_of_getElem? (i := 1618) (by decide +kernel)) rfl, in_g (List.mem_of_getElem? (i := 1620) (by decide +kernel)) rfl, in_g (List.mem_of_getElem? (i := 74) (by decide +kernel)) rfl, in_g (List.mem_of_getElem? (i := 120) (by decide +kernel)) rfl, in_g (List.mem_of_getElem? (i := 1621) (by decide +kernel)) rfl, by decide, rfl, by decide +kernel, by decide +kernel, by decide +kernel⟩
theorem mv_11_388 : MV RX11 388 11 yX11_lotOf cX11_lotOf 2 (some .int) 1 := ⟨in_g (List.mem_of_getElem? (i := 1708) (by decide +kernel)) rfl, in_g (List.mem_of_getElem? (i := 1710) (by decide +kernel)) rfl, in_g (List.mem_of_getElem? (i := 90) (by decide +kernel)) rfl, in_g (List.mem_of_getElem? (i := 120) (by decide +kernel)) rfl, in_g (List.mem_of_getElem? (i := 1711) (by decide +kernel)) rfl, by decide, rfl, by decide +kernel, by decide +kernel, by decide +kernel⟩
theorem mv_11_391 : MV RX11 391 11 yX11_diesNow cX11_diesNow 2 (some .int) 1 := ⟨in_g (List.mem_of_getElem? (i := 1661) (by decide +kernel)) rfl, in_g (List.mem_of_getElem? (i := 1663) (by decide +kernel)) rfl, in_g (List.mem_of_getElem? (i := 83) (by decide +kernel)) rfl, in_g (List.mem_of_getElem? (i := 120) (by decide +kernel)) rfl, in_g (List.mem_of_getElem? (i := 1664) (by decide +kernel)) rfl, by decide, rfl, by decide +kernel, by decide +kernel, by decide +kernel⟩
theorem mv_11_394 : MV RX11 394 11 yX11_yearGoes cX11_yearGoes 2 (none) 0 := ⟨in_g (List.mem_of_getElem? (i := 1704) (by decide +kernel)) rfl, in_g (List.mem_of_getElem? (i := 1706) (by decide +kernel)) rfl, in_g (List.mem_of_getElem? (i := 89) (by decide +kernel)) rfl, in_g (List.mem_of_getElem? (i := 120) (by decide +kernel)) rfl, in_g (List.mem_of_getElem? (i := 1707) (by decide +kernel)) rfl, by decide, rfl, by decide +kernel, by decide +kernel, by decide +kernel⟩
theorem mv_11_397 : MV RX11 397 11 yX11_isPlot cX11_isPlot 2 (some .boolean) 1 := ⟨in_g (List.mem_of_getElem? (i := 1603) (by decide +kernel)) rfl, in_g (List.mem_of_getElem? (i := 1605) (by decide +kernel)) rfl, in_g (List.mem_of_getElem? (i := 71) (by decide +kernel)) rfl, in_g (List.mem_of_getElem? (i := 120) (by decide +kernel)) rfl, in_g (List.mem_of_getElem? (i := 1606) (by decide +kernel)) rfl, by decide, rfl, by decide +kernel, by decide +kernel, by decide +kernel⟩
theorem mv_11_400 : MV RX11 400 11 yX11_copies cX11_copies 2 (none) 0 := ⟨in_g (List.mem_of_getElem? (i := 1610) (by decide +kernel)) rfl, in_g (List.mem_of_getElem? (i := 1612) (by decide +kernel)) rfl, in_g (List.mem_of_getElem? (i := 72) (by decide +kernel)) rfl, in_g (List.mem_of_getElem? (i := 120) (by decide +kernel)) rfl, in_g (List.mem_of_getElem? (i := 1613) (by decide +kernel)) rfl, by decide, rfl, by decide +kernel, by decide +kernel, by decide +kernel⟩
theorem mv_11_403 : MV RX11 403 11 yX11_fillsWhose cX11_fillsWhose 3 (none) 0 := ⟨in_g (List.mem_of_getElem? (i := 1614) (by decide +kernel)) rfl, in_g (List.mem_of_getElem? (i := 1616) (by decide +kernel)) rfl, in_g (List.mem_of_getElem? (i := 73) (by decide +kernel)) rfl, in_g (List.mem_of_getElem? (i := 120) (by decide +kernel)) rfl, in_g (List.mem_of_getElem? (i := 1617) (by decide +kernel)) rfl, by decide, rfl, by decide +kernel, by decide +kernel, by decide +kernel⟩
theorem mv_11_406 : MV RX11 406 11 yX11_countsOf cX11_countsOf 4 (some .int) 1 := ⟨in_g (List.mem_of_getElem? (i := 1649) (by decide +kernel)) rfl, in_g (List.mem_of_getElem? (i := 1651) (by decide +kernel)) rfl, in_g (List.mem_of_getElem? (i := 81) (by decide +kernel)) rfl, in_g (List.mem_of_getElem? (i := 120) (by decide +kernel)) rfl, in_g (List.mem_of_getElem? (i := 1652) (by decide +kernel)) rfl, by decide, rfl, by decide +kernel, by decide +kernel, by decide +kernel⟩
theorem mv_11_409 : MV RX11 409 11 yX11_isWitness cX11_isWitness 2 (some .boolean) 1 := ⟨in_g (List.mem_of_getElem? (i := 1657) (by decide +kernel)) rfl, in_g (List.mem_of_getElem? (i := 1659) (by decide +kernel)) rfl, in_g (List.mem_of_getElem? (i := 82) (by decide +kernel)) rfl, in_g (List.mem_of_getElem? (i := 120) (by decide +kernel)) rfl, in_g (List.mem_of_getElem? (i := 1660) (by decide +kernel)) rfl, by decide, rfl, by decide +kernel, by decide +kernel, by decide +kernel⟩
theorem mv_11_412 : MV RX11 412 11 yX11_isGiving cX11_isGiving 2 (some .boolean) 1 := ⟨in_g (List.mem_of_getElem? (i := 1672) (by decide +kernel)) rfl, in_g (List.mem_of_getElem? (i := 1674) (by decide +kernel)) rfl, in_g (List.mem_of_getElem? (i := 84) (by decide +kernel)) rfl, in_g (List.mem_of_getElem? (i := 120) (by decide +kernel)) rfl, in_g (List.mem_of_getElem? (i := 1675) (by decide +kernel)) rfl, by decide, rfl, by decide +kernel, by decide +kernel, by decide +kernel⟩
theorem mv_11_415 : MV RX11 415 11 yX11_isPerson cX11_isPerson 2 (some .boolean) 1 := ⟨in_g (List.mem_of_getElem? (i := 1680) (by decide +kernel)) rfl, in_g (List.mem_of_getElem? (i := 1682) (by decide +kernel)) rfl, in_g (List.mem_of_getElem? (i := 85) (by decide +kernel)) rfl, in_g (List.mem_of_getElem? (i := 120) (by decide +kernel)) rfl, in_g (List.mem_of_getElem? (i := 1683) (by decide +kernel)) rfl, by decide, rfl, by decide +kernel, by decide +kernel, by decide +kernel⟩
theorem mv_11_418 : MV RX11 418 11 yX11_areAlive cX11_areAlive 3 (some .boolean) 1 := ⟨in_g (List.mem_of_getElem? (i := 1684) (by decide +kernel)) rfl, in_g (List.mem_of_getElem? (i := 1686) (by decide +kernel)) rfl, in_g (List.mem_of_getElem? (i := 86) (by decide +kernel)) rfl, in_g (List.mem_of_getElem? (i := 120) (by decide +kernel)) rfl, in_g (List.mem_of_getElem? (i := 1687) (by decide +kernel)) rfl, by decide, rfl, by decide +kernel, by decide +kernel, by decide +kernel⟩
theorem mv_11_421 : MV RX11 421 11 yX11_records cX11_records 2 (none) 0 := ⟨in_g (List.mem_of_getElem? (i := 1688) (by decide +kernel)) rfl, in_g (List.mem_of_getElem? (i := 1690) (by decide +kernel)) rfl, in_g (List.mem_of_getElem? (i := 87) (by decide +kernel)) rfl, in_g (List.mem_of_getElem? (i := 120) (by decide +kernel)) rfl, in_g (List.mem_of_getElem? (i := 1691) (by decide +kernel)) rfl, by decide, rfl, by decide +kernel, by decide +kernel, by decide +kernel⟩
theorem mv_11_424 : MV RX11 424 11 yX11_goes cX11_goes 3 (none) 1 := ⟨in_g (List.mem_of_getElem? (i := 1700) (by decide +kernel)) rfl, in_g (List.mem_of_getElem? (i := 1702) (by decide +kernel)) rfl, in_g (List.mem_of_getElem? (i := 88) (by decide +kernel)) rfl, in_g (List.mem_of_getElem? (i := 120) (by decide +kernel)) rfl, in_g (List.mem_of_getElem? (i := 1703) (by decide +kernel)) rfl, by decide, rfl, by decide +kernel, by decide +kernel, by decide +kernel⟩
theorem mv_11_427 : MV RX11 427 11 yX11_keepsWhose cX11_keepsWhose 2 (none) 0 := ⟨in_g (List.mem_of_getElem? (i := 1728) (by decide +kernel)) rfl, in_g (List.mem_of_getElem? (i := 1730) (by decide +kernel)) rfl, in_g (List.mem_of_getElem? (i := 91) (by decide +kernel)) rfl, in_g (List.mem_of_getElem? (i := 120) (by decide +kernel)) rfl, in_g (List.mem_of_getElem? (i := 1731) (by decide +kernel)) rfl, by decide, rfl, by decide +kernel, by decide +kernel, by decide +kernel⟩
theorem mv_11_430 : MV RX11 430 11 yX11_othersNow cX11_othersNow 3 (some .int) 0 := ⟨in_g (List.mem_of_getElem? (i := 1732) (by decide +kernel)) rfl, in_g (List.mem_of_getElem? (i := 1734) (by decide +kernel)) rfl, in_g (List.mem_of_getElem? (i := 92) (by decide +kernel)) rfl, in_g (List.mem_of_getElem? (i := 120) (by decide +kernel)) rfl, in_g (List.mem_of_getElem? (i := 1735) (by decide +kernel)) rfl, by decide, rfl, by decide +kernel, by decide +kernel, by decide +kernel⟩
theorem mv_11_433 : MV RX11 433 11 yX11_wouldSwear cX11_wouldSwear 4 (some .boolean) 3 := ⟨in_g (List.mem_of_getElem? (i := 1751) (by decide +kernel)) rfl, in_g (List.mem_of_getElem? (i := 1753) (by decide +kernel)) rfl, in_g (List.mem_of_getElem? (i := 94) (by decide +kernel)) rfl, in_g (List.mem_of_getElem? (i := 120) (by decide +kernel)) rfl, in_g (List.mem_of_getElem? (i := 1754) (by decide +kernel)) rfl, by decide, rfl, by decide +kernel, by decide +kernel, by decide +kernel⟩
theorem mv_11_442 : MV RX11 442 11 yX11_doesCover cX11_doesCover 6 (some .boolean) 2 := ⟨in_g (List.mem_of_getElem? (i := 1747) (by decide +kernel)) rfl, in_g (List.mem_of_getElem? (i := 1749) (by decide +kernel)) rfl, in_g (List.mem_of_getElem? (i := 93) (by decide +kernel)) rfl, in_g (List.mem_of_getElem? (i := 120) (by decide +kernel)) rfl, in_g (List.mem_of_getElem? (i := 1750) (by decide +kernel)) rfl, by decide, rfl, by decide +kernel, by decide +kernel, by decide +kernel⟩
theorem mv_11_448 : MV RX11 448 11 yX11_walksTo cX11_walksTo 4 (some .int) 2 := ⟨in_g (List.mem_of_getElem? (i := 1765) (by decide +kernel)) rfl, in_g (List.mem_of_getElem? (i := 1767) (by decide +kernel)) rfl, in_g (List.mem_of_getElem? (i := 95) (by decide +kernel)) rfl, in_g (List.mem_of_getElem? (i := 120) (by decide +kernel)) rfl, in_g (List.mem_of_getElem? (i := 1768) (by decide +kernel)) rfl, by decide, rfl, by decide +kernel, by decide +kernel, by decide +kernel⟩
theorem mv_11_451 : MV RX11 451 11 yX11_asksAt cX11_asksAt 2 (some .int) 1 := ⟨in_g (List.mem_of_getElem? (i := 1776) (by decide +kernel)) rfl, in_g (List.mem_of_getElem? (i := 1778) (by decide +kernel)) rfl, in_g (List.mem_of_getElem? (i := 96) (by decide +kernel)) rfl, in_g (List.mem_of_getElem? (i := 120) (by decide +kernel)) rfl, in_g (List.mem_of_getElem? (i := 1779) (by decide +kernel)) rfl, by decide, rfl, by decide +kernel, by decide +kernel, by decide +kernel⟩
theorem mv_11_454 : MV RX11 454 11 yX11_fillsWalks cX11_fillsWalks 3 (none) 0 := ⟨in_g (List.mem_of_getElem? (i := 1788) (by decide +kernel)) rfl, in_g (List.mem_of_getElem? (i := 1790) (by decide +kernel)) rfl, in_g (List.mem_of_getElem? (i := 98) (by decide +kernel)) rfl, in_g (List.mem_of_getElem? (i := 120) (by decide +kernel)) rfl, in_g (List.mem_of_getElem? (i := 1791) (by decide +kernel)) rfl, by decide, rfl, by decide +kernel, by decide +kernel, by decide +kernel⟩
theorem mv_11_458 : MV RX11 458 11 yX11_nextOf cX11_nextOf 6 (some .int) 2 := ⟨in_g (List.mem_of_getElem? (i := 1793) (by decide +kernel)) rfl, in_g (List.mem_of_getElem? (i := 1795) (by decide +kernel)) rfl, in_g (List.mem_of_getElem? (i := 99) (by decide +kernel)) rfl, in_g (List.mem_of_getElem? (i := 120) (by decide +kernel)) rfl, in_g (List.mem_of_getElem? (i := 1796) (by decide +kernel)) rfl, by decide, rfl, by decide +kernel, by decide +kernel, by decide +kernel⟩
theorem mv_11_461 : MV RX11 461 11 yX11_fillsTakes cX11_fillsTakes 4 (none) 0 := ⟨in_g (List.mem_of_getElem? (i := 1784) (by decide +kernel)) rfl, in_g (List.mem_of_getElem? (i := 1786) (by decide +kernel)) rfl, in_g (List.mem_of_getElem? (i := 97) (by decide +kernel)) rfl, in_g (List.mem_of_getElem? (i := 120) (by decide +kernel)) rfl, in_g (List.mem_of_getElem? (i := 1787) (by decide +kernel)) rfl, by decide, rfl, by decide +kernel, by decide +kernel, by decide +kernel⟩
theorem mv_11_464 : MV RX11 464 11 yX11_goesOnTo cX11_goesOnTo 2 (none) 1 := ⟨in_g (List.mem_of_getElem? (i := 1805) (by decide +kernel)) rfl, in_g (List.mem_of_getElem? (i := 1807) (by decide +kernel)) rfl, in_g (List.mem_of_getElem? (i := 100) (by decide +kernel)) rfl, in_g (List.mem_of_getElem? (i := 120) (by decide +kernel)) rfl, in_g (List.mem_of_getElem? (i := 1808) (by decide +kernel)) rfl, by decide, rfl, by decide +kernel, by decide +kernel, by decide +kernel⟩
theorem mv_11_467 : MV RX11 467 11 yX11_hasNow cX11_hasNow 4 (some .int) 1 := ⟨in_g (List.mem_of_getElem? (i := 1809) (by decide +kernel)) rfl, in_g (List.mem_of_getElem? (i := 1811) (by decide +kernel)) rfl, in_g (List.mem_of_getElem? (i := 101) (by decide +kernel)) rfl, in_g (List.mem_of_getElem? (i := 120) (by decide +kernel)) rfl, in_g (List.mem_of_getElem? (i := 1812) (by decide +kernel)) rfl, by decide, rfl, by decide +kernel, by decide +kernel, by decide +kernel⟩
theorem mv_11_470 : MV RX11 470 11 yX11_standBits cX11_standBits 3 (some .int) 0 := ⟨in_g (List.mem_of_getElem? (i := 1833) (by decide +kernel)) rfl, in_g (List.mem_of_getElem? (i := 1835) (by decide +kernel)) rfl, in_g (List.mem_of_getElem? (i := 102) (by decide +kernel)) rfl, in_g (List.mem_of_getElem? (i := 120) (by decide +kernel)) rfl, in_g (List.mem_of_getElem? (i := 1836) (by decide +kernel)) rfl, by decide, rfl, by decide +kernel, by decide +kernel, by decide +kernel⟩
theorem mv_11_473 : MV RX11 473 11 yX11_whichBits cX11_whichBits 7 (some .int) 1 := ⟨in_g (List.mem_of_getElem? (i := 1873) (by decide +kernel)) rfl, in_g (List.mem_of_getElem? (i := 1875) (by decide +kernel)) rfl, in_g (List.mem_of_getElem? (i := 103) (by decide +kernel)) rfl, in_g (List.mem_of_getElem? (i := 120) (by decide +kernel)) rfl, in_g (List.mem_of_getElem? (i := 1876) (by decide +kernel)) rfl, by decide, rfl, by decide +kernel, by decide +kernel, by decide +kernel⟩
theorem ms_0_127 : MS RX0 127 yX0_heldTo cX0_heldTo 2 (some .int) 2 := ⟨in_g (List.mem_of_getElem? (i := 910) (by decide +kernel)) rfl, in_g (List.mem_of_getElem? (i := 911) (by decide +kernel)) rfl, in_g (List.mem_of_getElem? (i := 117) (by decide +kernel)) rfl, in_g (List.mem_of_getElem? (i := 912) (by decide +kernel)) rfl, by decide +kernel, by decide +kernel, by decide +kernel⟩
theorem ms_0_134 : MS RX0 134 yX0_lotOf100 cX0_lotOf100 3 (some .int) 2 := ⟨in_g (List.mem_of_getElem? (i := 963) (by decide +kernel)) rfl, in_g (List.mem_of_getElem? (i := 964) (by decide +kernel)) rfl, in_g (List.mem_of_getElem? (i := 117) (by decide +kernel)) rfl, in_g (List.mem_of_getElem? (i := 965) (by decide +kernel)) rfl, by decide +kernel, by decide +kernel, by decide +kernel⟩
theorem ms_0_162 : MS RX0 162 yX0_stirred cX0_stirred 3 (some .int) 2 := ⟨in_g (List.mem_of_getElem? (i := 966) (by decide +kernel)) rfl, in_g (List.mem_of_getElem? (i := 967) (by decide +kernel)) rfl, in_g (List.mem_of_getElem? (i := 117) (by decide +kernel)) rfl, in_g (List.mem_of_getElem? (i := 968) (by decide +kernel)) rfl, by decide +kernel, by decide +kernel, by decide +kernel⟩
theorem ms_2_99 : MS RX2 99 yX2_rank cX2_rank 1 (some .int) 1 := ⟨in_g (List.mem_of_getElem? (i := 752) (by decide +kernel)) rfl, in_g (List.mem_of_getElem? (i := 753) (by decide +kernel)) rfl, in_g (List.mem_of_getElem? (i := 114) (by decide +kernel)) rfl, in_g (List.mem_of_getElem? (i := 754) (by decide +kernel)) rfl, by decide +kernel, by decide +kernel, by decide +kernel⟩
theorem ms_7_21 : MS RX7 21 yX7_isIn cX7_isIn 2 (some .boolean) 2 := ⟨in_g (List.mem_of_getElem? (i := 1055) (by decide +kernel)) rfl, in_g (List.mem_of_getElem? (i := 1056) (by decide +kernel)) rfl, in_g (List.mem_of_getElem? (i := 118) (by decide +kernel)) rfl, in_g (List.mem_of_getElem? (i := 1057) (by decide +kernel)) rfl, by decide +kernel, by decide +kernel, by decide +kernel⟩
theorem ms_9_40 : MS RX9 40 yX9_withLetter cX9_withLetter 3 (some .long) 2 := ⟨in_g (List.mem_of_getElem? (i := 181) (by decide +kernel)) rfl, in_g (List.mem_of_getElem? (i := 182) (by decide +kernel)) rfl, in_g (List.mem_of_getElem? (i := 106) (by decide +kernel)) rfl, in_g (List.mem_of_getElem? (i := 183) (by decide +kernel)) rfl, by decide +kernel, by decide +kernel, by decide +kernel⟩
theorem ms_9_46 : MS RX9 46 yX9_behindBlanks cX9_behindBlanks 4 (some .int) 3 := ⟨in_g (List.mem_of_getElem? (i := 610) (by decide +kernel)) rfl, in_g (List.mem_of_getElem? (i := 611) (by decide +kernel)) rfl, in_g (List.mem_of_getElem? (i := 106) (by decide +kernel)) rfl, in_g (List.mem_of_getElem? (i := 612) (by decide +kernel)) rfl, by decide +kernel, by decide +kernel, by decide +kernel⟩
theorem ms_9_54 : MS RX9 54 yX9_isBlank cX9_isBlank 1 (some .boolean) 1 := ⟨in_g (List.mem_of_getElem? (i := 613) (by decide +kernel)) rfl, in_g (List.mem_of_getElem? (i := 614) (by decide +kernel)) rfl, in_g (List.mem_of_getElem? (i := 106) (by decide +kernel)) rfl, in_g (List.mem_of_getElem? (i := 615) (by decide +kernel)) rfl, by decide +kernel, by decide +kernel, by decide +kernel⟩
theorem ms_9_58 : MS RX9 58 yX9_isLetter cX9_isLetter 1 (some .boolean) 1 := ⟨in_g (List.mem_of_getElem? (i := 620) (by decide +kernel)) rfl, in_g (List.mem_of_getElem? (i := 621) (by decide +kernel)) rfl, in_g (List.mem_of_getElem? (i := 106) (by decide +kernel)) rfl, in_g (List.mem_of_getElem? (i := 622) (by decide +kernel)) rfl, by decide +kernel, by decide +kernel, by decide +kernel⟩
theorem ms_9_64 : MS RX9 64 yX9_isDigit cX9_isDigit 1 (some .boolean) 1 := ⟨in_g (List.mem_of_getElem? (i := 631) (by decide +kernel)) rfl, in_g (List.mem_of_getElem? (i := 632) (by decide +kernel)) rfl, in_g (List.mem_of_getElem? (i := 106) (by decide +kernel)) rfl, in_g (List.mem_of_getElem? (i := 633) (by decide +kernel)) rfl, by decide +kernel, by decide +kernel, by decide +kernel⟩
theorem ms_10_222 : MS RX10 222 yX10_noYears cX10_noYears 1 (some .boolean) 1 := ⟨in_g (List.mem_of_getElem? (i := 951) (by decide +kernel)) rfl, in_g (List.mem_of_getElem? (i := 952) (by decide +kernel)) rfl, in_g (List.mem_of_getElem? (i := 105) (by decide +kernel)) rfl, in_g (List.mem_of_getElem? (i := 953) (by decide +kernel)) rfl, by decide +kernel, by decide +kernel, by decide +kernel⟩
theorem ms_10_255 : MS RX10 255 yX10_bitAt cX10_bitAt 4 (some .int) 2 := ⟨in_g (List.mem_of_getElem? (i := 1025) (by decide +kernel)) rfl, in_g (List.mem_of_getElem? (i := 1026) (by decide +kernel)) rfl, in_g (List.mem_of_getElem? (i := 105) (by decide +kernel)) rfl, in_g (List.mem_of_getElem? (i := 1027) (by decide +kernel)) rfl, by decide +kernel, by decide +kernel, by decide +kernel⟩
theorem ms_10_357 : MS RX10 357 yX10_mirrored cX10_mirrored 3 (some .int) 1 := ⟨in_g (List.mem_of_getElem? (i := 1018) (by decide +kernel)) rfl, in_g (List.mem_of_getElem? (i := 1019) (by decide +kernel)) rfl, in_g (List.mem_of_getElem? (i := 105) (by decide +kernel)) rfl, in_g (List.mem_of_getElem? (i := 1020) (by decide +kernel)) rfl, by decide +kernel, by decide +kernel, by decide +kernel⟩
theorem ms_11_198 : MS RX11 198 yX11_appends cX11_appends 3 (some .long) 2 := ⟨in_g (List.mem_of_getElem? (i := 1238) (by decide +kernel)) rfl, in_g (List.mem_of_getElem? (i := 1239) (by decide +kernel)) rfl, in_g (List.mem_of_getElem? (i := 120) (by decide +kernel)) rfl, in_g (List.mem_of_getElem? (i := 1240) (by decide +kernel)) rfl, by decide +kernel, by decide +kernel, by decide +kernel⟩
theorem ms_11_213 : MS RX11 213 yX11_isLetter cX11_isLetter 1 (some .boolean) 1 := ⟨in_g (List.mem_of_getElem? (i := 1501) (by decide +kernel)) rfl, in_g (List.mem_of_getElem? (i := 1502) (by decide +kernel)) rfl, in_g (List.mem_of_getElem? (i := 120) (by decide +kernel)) rfl, in_g (List.mem_of_getElem? (i := 1503) (by decide +kernel)) rfl, by decide +kernel, by decide +kernel, by decide +kernel⟩
theorem ms_11_217 : MS RX11 217 yX11_isDigit cX11_isDigit 1 (some .boolean) 1 := ⟨in_g (List.mem_of_getElem? (i := 1504) (by decide +kernel)) rfl, in_g (List.mem_of_getElem? (i := 1505) (by decide +kernel)) rfl, in_g (List.mem_of_getElem? (i := 120) (by decide +kernel)) rfl, in_g (List.mem_of_getElem? (i := 1506) (by decide +kernel)) rfl, by decide +kernel, by decide +kernel, by decide +kernel⟩
theorem ms_11_340 : MS RX11 340 yX11_in cX11_in 3 (some .boolean) 3 := ⟨in_g (List.mem_of_getElem? (i := 1607) (by decide +kernel)) rfl, in_g (List.mem_of_getElem? (i := 1608) (by decide +kernel)) rfl, in_g (List.mem_of_getElem? (i := 120) (by decide +kernel)) rfl, in_g (List.mem_of_getElem? (i := 1609) (by decide +kernel)) rfl, by decide +kernel, by decide +kernel, by decide +kernel⟩
theorem ms_11_354 : MS RX11 354 yX11_mixed cX11_mixed 3 (some .int) 2 := ⟨in_g (List.mem_of_getElem? (i := 1712) (by decide +kernel)) rfl, in_g (List.mem_of_getElem? (i := 1713) (by decide +kernel)) rfl, in_g (List.mem_of_getElem? (i := 120) (by decide +kernel)) rfl, in_g (List.mem_of_getElem? (i := 1714) (by decide +kernel)) rfl, by decide +kernel, by decide +kernel, by decide +kernel⟩
theorem ms_11_366 : MS RX11 366 yX11_bits cX11_bits 3 (some .int) 1 := ⟨in_g (List.mem_of_getElem? (i := 1638) (by decide +kernel)) rfl, in_g (List.mem_of_getElem? (i := 1639) (by decide +kernel)) rfl, in_g (List.mem_of_getElem? (i := 120) (by decide +kernel)) rfl, in_g (List.mem_of_getElem? (i := 1640) (by decide +kernel)) rfl, by decide +kernel, by decide +kernel, by decide +kernel⟩
theorem ms_11_372 : MS RX11 372 yX11_held cX11_held 3 (some .int) 3 := ⟨in_g (List.mem_of_getElem? (i := 1665) (by decide +kernel)) rfl, in_g (List.mem_of_getElem? (i := 1666) (by decide +kernel)) rfl, in_g (List.mem_of_getElem? (i := 120) (by decide +kernel)) rfl, in_g (List.mem_of_getElem? (i := 1667) (by decide +kernel)) rfl, by decide +kernel, by decide +kernel, by decide +kernel⟩
theorem ms_11_375 : MS RX11 375 yX11_off cX11_off 2 (some .int) 2 := ⟨in_g (List.mem_of_getElem? (i := 1769) (by decide +kernel)) rfl, in_g (List.mem_of_getElem? (i := 1770) (by decide +kernel)) rfl, in_g (List.mem_of_getElem? (i := 120) (by decide +kernel)) rfl, in_g (List.mem_of_getElem? (i := 1771) (by decide +kernel)) rfl, by decide +kernel, by decide +kernel, by decide +kernel⟩
theorem ms_11_436 : MS RX11 436 yX11_ithOf cX11_ithOf 4 (some .int) 2 := ⟨in_g (List.mem_of_getElem? (i := 1758) (by decide +kernel)) rfl, in_g (List.mem_of_getElem? (i := 1759) (by decide +kernel)) rfl, in_g (List.mem_of_getElem? (i := 120) (by decide +kernel)) rfl, in_g (List.mem_of_getElem? (i := 1760) (by decide +kernel)) rfl, by decide +kernel, by decide +kernel, by decide +kernel⟩
theorem ms_11_439 : MS RX11 439 yX11_isLong cX11_isLong 1 (some .boolean) 1 := ⟨in_g (List.mem_of_getElem? (i := 1744) (by decide +kernel)) rfl, in_g (List.mem_of_getElem? (i := 1745) (by decide +kernel)) rfl, in_g (List.mem_of_getElem? (i := 120) (by decide +kernel)) rfl, in_g (List.mem_of_getElem? (i := 1746) (by decide +kernel)) rfl, by decide +kernel, by decide +kernel, by decide +kernel⟩
theorem ms_11_445 : MS RX11 445 yX11_isEarlier cX11_isEarlier 3 (some .boolean) 2 := ⟨in_g (List.mem_of_getElem? (i := 1755) (by decide +kernel)) rfl, in_g (List.mem_of_getElem? (i := 1756) (by decide +kernel)) rfl, in_g (List.mem_of_getElem? (i := 120) (by decide +kernel)) rfl, in_g (List.mem_of_getElem? (i := 1757) (by decide +kernel)) rfl, by decide +kernel, by decide +kernel, by decide +kernel⟩
theorem co_0_165 : Cond.constant RX0 165 (1103515245 : Int32) ∈ lw_g := in_g (List.mem_of_getElem? (i := 969) (by decide +kernel)) rfl
theorem co_11_353 : Cond.constant RX11 353 (1103515245 : Int32) ∈ lw_g := in_g (List.mem_of_getElem? (i := 1715) (by decide +kernel)) rfl
theorem co_11_457 : Cond.constant RX11 457 (99999 : Int32) ∈ lw_g := in_g (List.mem_of_getElem? (i := 1792) (by decide +kernel)) rfl
theorem col_9_44 : Cond.constantLong RX9 44 (32 : Int64) ∈ lw_g := in_g (List.mem_of_getElem? (i := 184) (by decide +kernel)) rfl
theorem col_9_80 : Cond.constantLong RX9 80 (10 : Int64) ∈ lw_g := in_g (List.mem_of_getElem? (i := 638) (by decide +kernel)) rfl
theorem col_11_196 : Cond.constantLong RX11 196 (27 : Int64) ∈ lw_g := in_g (List.mem_of_getElem? (i := 1241) (by decide +kernel)) rfl
theorem jl_0_141 : Cond.methodLink RX0 141 Lib.Math.min.name ∈ lw_g := in_g (List.mem_of_getElem? (i := 913) (by decide +kernel)) rfl
theorem jl_0_153 : Cond.methodLink RX0 153 Lib.Math.abs.name ∈ lw_g := in_g (List.mem_of_getElem? (i := 1036) (by decide +kernel)) rfl
theorem jl_0_159 : Cond.methodLink RX0 159 Lib.Math.max.name ∈ lw_g := in_g (List.mem_of_getElem? (i := 914) (by decide +kernel)) rfl
theorem jl_1_27 : Cond.methodLink RX1 27 arraycopyName ∈ lw_g := in_g (List.mem_of_getElem? (i := 839) (by decide +kernel)) rfl
theorem jl_2_113 : Cond.methodLink RX2 113 Lib.Math.max.name ∈ lw_g := in_g (List.mem_of_getElem? (i := 755) (by decide +kernel)) rfl
theorem jl_5_35 : Cond.methodLink RX5 35 arraycopyName ∈ lw_g := in_g (List.mem_of_getElem? (i := 846) (by decide +kernel)) rfl
theorem jl_6_42 : Cond.methodLink RX6 42 Lib.Math.min.name ∈ lw_g := in_g (List.mem_of_getElem? (i := 941) (by decide +kernel)) rfl
theorem jl_7_59 : Cond.methodLink RX7 59 Lib.Math.max.name ∈ lw_g := in_g (List.mem_of_getElem? (i := 1112) (by decide +kernel)) rfl
theorem jl_8_64 : Cond.methodLink RX8 64 Lib.Math.min.name ∈ lw_g := in_g (List.mem_of_getElem? (i := 830) (by decide +kernel)) rfl
theorem jl_10_312 : Cond.methodLink RX10 312 Lib.Math.max.name ∈ lw_g := in_g (List.mem_of_getElem? (i := 1195) (by decide +kernel)) rfl
